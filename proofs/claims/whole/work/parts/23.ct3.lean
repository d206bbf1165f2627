set_option maxRecDepth 100000 in
set_option maxHeartbeats 4000000 in
theorem cb_X12_ends_L133 {D : DD} {ev : EV} {m z : Nat} {X0 : SM} {X : SM} {s1 : Int32} {r : SM} (B : Amb D (foot (xS m X0 z)) ev RX12 "ends" cX12_ends 1 (none) rmX12_ends) (ht : Tb0 ev)  (h : fX12_ends_L133 X s1 = some r) : Gd D (foot (xS m X0 z)) ev (QF D ev (xS m X0 z) (.inr (none)) (xS m r z) rmX12_ends) (xS m X z) 0 0 133 [] [vI s1, vA (some m)] := by
  unfold fX12_ends_L133 at h
  refine gs_put (pc := 133) 27 B (by decide) (by decide) rfl kfX12_195 dX12_ends_133 ?_
  obtain rfl := Option.some.inj h
  exact g_ret_V (pc := 136) B rfl (by decide) (by decide) dX12_ends_136
set_option maxRecDepth 100000 in
set_option maxHeartbeats 4000000 in
theorem cb_X12_ends_L99 {D : DD} {ev : EV} {m z : Nat} {X0 : SM} {X : SM} {s1 : Int32} {s2 : Int32} {r : SM} (B : Amb D (foot (xS m X0 z)) ev RX12 "ends" cX12_ends 1 (none) rmX12_ends) (ht : Tb0 ev)  (h : fX12_ends_L99 X s1 s2 = some r) : Gd D (foot (xS m X0 z)) ev (QF D ev (xS m X0 z) (.inr (none)) (xS m r z) rmX12_ends) (xS m X z) 0 0 99 [(0, vA (some m))] [vI s2, vI s1, vA (some m)] := by
  unfold fX12_ends_L99 at h
  refine g_isub (pc := 99) B dX12_ends_99 ?_
  refine gs_put (pc := 100) 29 B (by decide) (by decide) rfl kfX12_192 dX12_ends_100 ?_
  refine g_aload_n (pc := 103) B dX12_ends_103 0 rfl ?_
  refine g_aload_n (pc := 104) B dX12_ends_104 0 rfl ?_
  refine gs_arr (pc := 105) 31 17 B (by decide) (by decide) kfX12_62 dX12_ends_105 ?_
  refine g_aload_n (pc := 108) B dX12_ends_108 0 rfl ?_
  refine gs_get (pc := 109) 28 B (by decide) (by decide) kfX12_185 dX12_ends_109 ?_
  obtain ⟨c112, h⟩ := chk h
  refine gs_iald (pc := 112) B c112 dX12_ends_112 ?_
  refine g_iconst (pc := 113) B dX12_ends_113 (-1) (by decide) ?_
  refine g_icmp_ne (pc := 114) (tgt := 129) B dX12_ends_114 (by decide) (fun c114 => ?_) (fun c114 => ?_)
  · rw [if_neg c114] at h
    refine g_aload_n (pc := 129) B dX12_ends_129 0 rfl ?_
    refine gs_get (pc := 130) 27 B (by decide) (by decide) kfX12_195 dX12_ends_130 ?_
    refine g_sub (pc := 133) [] rfl ?_
    exact cb_X12_ends_L133 B ht h
  · rw [if_pos c114] at h
    refine g_aload_n (pc := 117) B dX12_ends_117 0 rfl ?_
    refine gs_arr (pc := 118) 30 16 B (by decide) (by decide) kfX12_59 dX12_ends_118 ?_
    refine g_aload_n (pc := 121) B dX12_ends_121 0 rfl ?_
    refine gs_get (pc := 122) 28 B (by decide) (by decide) kfX12_185 dX12_ends_122 ?_
    obtain ⟨c125, h⟩ := chk h
    refine gs_iald (pc := 125) B c125 dX12_ends_125 ?_
    refine g_goto (pc := 126) (tgt := 133) B dX12_ends_126 (by decide) ?_
    refine g_sub (pc := 133) [] rfl ?_
    exact cb_X12_ends_L133 B ht h
set_option maxRecDepth 100000 in
set_option maxHeartbeats 4000000 in
theorem cb_X12_ends_L32 {D : DD} {ev : EV} {m z : Nat} {X0 : SM} {X : SM} {s1 : Int32} {s2 : Int32} {s3 : Int32} {r : SM} (B : Amb D (foot (xS m X0 z)) ev RX12 "ends" cX12_ends 1 (none) rmX12_ends) (ht : Tb0 ev)  (h : fX12_ends_L32 X s1 s2 s3 = some r) : Gd D (foot (xS m X0 z)) ev (QF D ev (xS m X0 z) (.inr (none)) (xS m r z) rmX12_ends) (xS m X z) 0 0 32 [(0, vA (some m))] [vI s3, vI s2, vI s1, vA (some (m + 1 + 17))] := by
  unfold fX12_ends_L32 at h
  refine g_isub (pc := 32) B dX12_ends_32 ?_
  obtain ⟨c33, h⟩ := chk h
  refine gs_iast (pc := 33) B c33 dX12_ends_33 ?_
  refine g_aload_n (pc := 34) B dX12_ends_34 0 rfl ?_
  refine gs_arr (pc := 35) 31 17 B (by decide) (by decide) kfX12_62 dX12_ends_35 ?_
  refine g_aload_n (pc := 38) B dX12_ends_38 0 rfl ?_
  refine gs_get (pc := 39) 28 B (by decide) (by decide) kfX12_185 dX12_ends_39 ?_
  refine g_iconst (pc := 42) B dX12_ends_42 (1 : Int32) (by decide) ?_
  refine g_isub (pc := 43) B dX12_ends_43 ?_
  obtain ⟨c44, h⟩ := chk h
  refine gs_iald (pc := 44) B c44 dX12_ends_44 ?_
  refine g_if_le (pc := 45) (tgt := 66) B dX12_ends_45 (by decide) (fun c45 => ?_) (fun c45 => ?_)
  · rw [if_pos c45] at h
    refine g_aload_n (pc := 66) B dX12_ends_66 0 rfl ?_
    refine g_dup (pc := 67) B dX12_ends_67 rfl ?_
    refine gs_get (pc := 68) 28 B (by decide) (by decide) kfX12_185 dX12_ends_68 ?_
    refine g_iconst (pc := 71) B dX12_ends_71 (1 : Int32) (by decide) ?_
    refine g_isub (pc := 72) B dX12_ends_72 ?_
    refine gs_put (pc := 73) 28 B (by decide) (by decide) rfl kfX12_185 dX12_ends_73 ?_
    refine g_aload_n (pc := 76) B dX12_ends_76 0 rfl ?_
    refine g_dup (pc := 77) B dX12_ends_77 rfl ?_
    refine gs_get (pc := 78) 29 B (by decide) (by decide) kfX12_192 dX12_ends_78 ?_
    refine g_aload_n (pc := 81) B dX12_ends_81 0 rfl ?_
    refine gs_arr (pc := 82) 31 17 B (by decide) (by decide) kfX12_62 dX12_ends_82 ?_
    refine g_aload_n (pc := 85) B dX12_ends_85 0 rfl ?_
    refine gs_get (pc := 86) 28 B (by decide) (by decide) kfX12_185 dX12_ends_86 ?_
    obtain ⟨c89, h⟩ := chk h
    refine gs_iald (pc := 89) B c89 dX12_ends_89 ?_
    refine g_iconst (pc := 90) B dX12_ends_90 (-1) (by decide) ?_
    refine g_icmp_ne (pc := 91) (tgt := 98) B dX12_ends_91 (by decide) (fun c91 => ?_) (fun c91 => ?_)
    · rw [if_neg c91] at h
      refine g_iconst (pc := 98) B dX12_ends_98 (0 : Int32) (by decide) ?_
      refine g_sub (pc := 99) [0] rfl ?_
      exact cb_X12_ends_L99 B ht h
    · rw [if_pos c91] at h
      refine g_iconst (pc := 94) B dX12_ends_94 (1 : Int32) (by decide) ?_
      refine g_goto (pc := 95) (tgt := 99) B dX12_ends_95 (by decide) ?_
      refine g_sub (pc := 99) [0] rfl ?_
      exact cb_X12_ends_L99 B ht h
  · rw [if_neg c45] at h
    refine g_aload_n (pc := 48) B dX12_ends_48 0 rfl ?_
    refine g_aload_n (pc := 49) B dX12_ends_49 0 rfl ?_
    refine gs_arr (pc := 50) 30 16 B (by decide) (by decide) kfX12_59 dX12_ends_50 ?_
    refine g_aload_n (pc := 53) B dX12_ends_53 0 rfl ?_
    refine gs_get (pc := 54) 28 B (by decide) (by decide) kfX12_185 dX12_ends_54 ?_
    refine g_iconst (pc := 57) B dX12_ends_57 (1 : Int32) (by decide) ?_
    refine g_isub (pc := 58) B dX12_ends_58 ?_
    obtain ⟨c59, h⟩ := chk h
    refine gs_iald (pc := 59) B c59 dX12_ends_59 ?_
    refine gs_put (pc := 60) 27 B (by decide) (by decide) rfl kfX12_195 dX12_ends_60 ?_
    refine g_goto (pc := 63) (tgt := 136) B dX12_ends_63 (by decide) ?_
    obtain rfl := Option.some.inj h
    exact g_ret_V (pc := 136) B rfl (by decide) (by decide) dX12_ends_136
set_option maxRecDepth 100000 in
set_option maxHeartbeats 4000000 in
theorem cb_X12_ends_L0 {D : DD} {ev : EV} {m z : Nat} {X0 : SM} {X : SM}  {r : SM} (B : Amb D (foot (xS m X0 z)) ev RX12 "ends" cX12_ends 1 (none) rmX12_ends) (ht : Tb0 ev)  (h : fX12_ends X = some r) : Gd D (foot (xS m X0 z)) ev (QF D ev (xS m X0 z) (.inr (none)) (xS m r z) rmX12_ends) (xS m X z) 0 0 0 [(0, vA (some m))] [] := by
  unfold fX12_ends at h
  refine g_aload_n (pc := 0) B dX12_ends_0 0 rfl ?_
  refine gs_arr (pc := 1) 31 17 B (by decide) (by decide) kfX12_62 dX12_ends_1 ?_
  refine g_aload_n (pc := 4) B dX12_ends_4 0 rfl ?_
  refine gs_get (pc := 5) 28 B (by decide) (by decide) kfX12_185 dX12_ends_5 ?_
  refine g_iconst (pc := 8) B dX12_ends_8 (1 : Int32) (by decide) ?_
  refine g_isub (pc := 9) B dX12_ends_9 ?_
  refine g_dup2 (pc := 10) B dX12_ends_10 rfl rfl ?_
  obtain ⟨c11, h⟩ := chk h
  refine gs_iald (pc := 11) B c11 dX12_ends_11 ?_
  refine g_aload_n (pc := 12) B dX12_ends_12 0 rfl ?_
  refine gs_arr (pc := 13) 31 17 B (by decide) (by decide) kfX12_62 dX12_ends_13 ?_
  refine g_aload_n (pc := 16) B dX12_ends_16 0 rfl ?_
  refine gs_get (pc := 17) 28 B (by decide) (by decide) kfX12_185 dX12_ends_17 ?_
  refine g_iconst (pc := 20) B dX12_ends_20 (1 : Int32) (by decide) ?_
  refine g_isub (pc := 21) B dX12_ends_21 ?_
  obtain ⟨c22, h⟩ := chk h
  refine gs_iald (pc := 22) B c22 dX12_ends_22 ?_
  refine g_iconst (pc := 23) B dX12_ends_23 (-1) (by decide) ?_
  refine g_icmp_ne (pc := 24) (tgt := 31) B dX12_ends_24 (by decide) (fun c24 => ?_) (fun c24 => ?_)
  · rw [if_neg c24] at h
    refine g_iconst (pc := 31) B dX12_ends_31 (1 : Int32) (by decide) ?_
    refine g_sub (pc := 32) [0] rfl ?_
    exact cb_X12_ends_L32 B ht h
  · rw [if_pos c24] at h
    refine g_iconst (pc := 27) B dX12_ends_27 (0 : Int32) (by decide) ?_
    refine g_goto (pc := 28) (tgt := 32) B dX12_ends_28 (by decide) ?_
    refine g_sub (pc := 32) [0] rfl ?_
    exact cb_X12_ends_L32 B ht h
theorem ct_X12_ends {D : DD} {l : Launch} {m z : Nat} {X0 : SM}  {r : SM} (hl : l.stackTraces = false) (h : fX12_ends X0 = some r) : Ctr D l yX12_ends cX12_ends 1 (none) rmX12_ends [vA (some m)] (xS m X0 z) (.inr (none)) (xS m r z) :=
  ctr_of hl (plainFor_of_name (by decide)) (Nat.le_of_ble_eq_true rfl) fun ev _ ht B => cb_X12_ends_L0 B ht h
set_option maxRecDepth 100000 in
set_option maxHeartbeats 4000000 in
theorem cb_X12_counts_L0 {D : DD} {ev : EV} {m z : Nat} {X0 : SM} {X : SM}  {r : Int32 × SM} (B : Amb D (foot (xS m X0 z)) ev RX12 "counts" cX12_counts 1 (some .boolean) rmX12_counts) (ht : Tb0 ev)  (h : fX12_counts X = some r) : Gd D (foot (xS m X0 z)) ev (QF D ev (xS m X0 z) (.inr (some (vI r.1))) (xS m r.2 z) rmX12_counts) (xS m X z) 0 0 0 [(0, vA (some m))] [] := by
  unfold fX12_counts at h
  refine g_aload_n (pc := 0) B dX12_counts_0 0 rfl ?_
  refine gs_get (pc := 1) 25 B (by decide) (by decide) kfX12_157 dX12_counts_1 ?_
  refine g_sipush (pc := 4) B dX12_counts_4 (600 : Int32) (by decide) ?_
  refine g_icmp_ne (pc := 7) (tgt := 17) B dX12_counts_7 (by decide) (fun c7 => ?_) (fun c7 => ?_)
  · rw [if_neg c7] at h
    refine g_aload_n (pc := 17) B dX12_counts_17 0 rfl ?_
    refine g_dup (pc := 18) B dX12_counts_18 rfl ?_
    refine gs_get (pc := 19) 25 B (by decide) (by decide) kfX12_157 dX12_counts_19 ?_
    refine g_iconst (pc := 22) B dX12_counts_22 (1 : Int32) (by decide) ?_
    refine g_iadd (pc := 23) B dX12_counts_23 ?_
    refine gs_put (pc := 24) 25 B (by decide) (by decide) rfl kfX12_157 dX12_counts_24 ?_
    refine g_aload_n (pc := 27) B dX12_counts_27 0 rfl ?_
    refine gs_arr (pc := 28) 32 18 B (by decide) (by decide) kfX12_65 dX12_counts_28 ?_
    refine g_aload_n (pc := 31) B dX12_counts_31 0 rfl ?_
    refine gs_get (pc := 32) 25 B (by decide) (by decide) kfX12_157 dX12_counts_32 ?_
    refine g_aload_n (pc := 35) B dX12_counts_35 0 rfl ?_
    refine gs_arr (pc := 36) 32 18 B (by decide) (by decide) kfX12_65 dX12_counts_36 ?_
    refine g_aload_n (pc := 39) B dX12_counts_39 0 rfl ?_
    refine gs_get (pc := 40) 25 B (by decide) (by decide) kfX12_157 dX12_counts_40 ?_
    refine g_iconst (pc := 43) B dX12_counts_43 (1 : Int32) (by decide) ?_
    refine g_isub (pc := 44) B dX12_counts_44 ?_
    obtain ⟨c45, h⟩ := chk h
    refine gs_iald (pc := 45) B c45 dX12_counts_45 ?_
    obtain ⟨c46, h⟩ := chk h
    refine gs_iast (pc := 46) B c46 dX12_counts_46 ?_
    refine g_iconst (pc := 47) B dX12_counts_47 (1 : Int32) (by decide) ?_
    obtain rfl := Option.some.inj h
    exact g_ret_Z (pc := 48) B rfl (Or.inr rfl) (by decide) (by decide) dX12_counts_48
  · rw [if_pos c7] at h
    refine g_aload_n (pc := 10) B dX12_counts_10 0 rfl ?_
    refine g_iconst (pc := 11) B dX12_counts_11 (1 : Int32) (by decide) ?_
    refine gs_put (pc := 12) 26 B (by decide) (by decide) rfl kfX12_154 dX12_counts_12 ?_
    refine g_iconst (pc := 15) B dX12_counts_15 (0 : Int32) (by decide) ?_
    obtain rfl := Option.some.inj h
    exact g_ret_Z (pc := 16) B rfl (Or.inl rfl) (by decide) (by decide) dX12_counts_16
theorem ct_X12_counts {D : DD} {l : Launch} {m z : Nat} {X0 : SM}  {r : Int32 × SM} (hl : l.stackTraces = false) (h : fX12_counts X0 = some r) : Ctr D l yX12_counts cX12_counts 1 (some .boolean) rmX12_counts [vA (some m)] (xS m X0 z) (.inr (some (vI r.1))) (xS m r.2 z) :=
  ctr_of hl (plainFor_of_name (by decide)) (Nat.le_of_ble_eq_true rfl) fun ev _ ht B => cb_X12_counts_L0 B ht h
set_option maxRecDepth 100000 in
set_option maxHeartbeats 4000000 in
theorem cb_X12_isOn_L0 {D : DD} {ev : EV} {m z : Nat} {X0 : SM} {x0 : Int32} {x1 : Int32} {r : Int32} (B : Amb D (foot (xS m X0 z)) ev RX12 "isOn" cX12_isOn 2 (some .boolean) rmX12_isOn) (ht : Tb0 ev)  (h : fX12_isOn X0 x0 x1 = some r) : Gd D (foot (xS m X0 z)) ev (QF D ev (xS m X0 z) (.inr (some (vI r))) (xS m X0 z) rmX12_isOn) (xS m X0 z) 0 0 0 [(0, vI x0), (1, vI x1)] [] := by
  unfold fX12_isOn at h
  refine g_iload_n (pc := 0) B dX12_isOn_0 0 rfl ?_
  refine g_iconst (pc := 1) B dX12_isOn_1 (0 : Int32) (by decide) ?_
  refine g_bipush (pc := 2) B dX12_isOn_2 (15 : Int32) (by decide) ?_
  obtain ⟨v4, e4, h⟩ := ob h
  refine h_callS (pc := 4) (As := [vI x0, vI (0 : Int32), vI (15 : Int32)]) (st := []) (X' := (xS m X0 z)) (cs' := 0) (sl' := 0) (st10 := [vI v4]) B cal_X12_isIn kmX12_115 kz_X12_isIn (fun l hl => ct_X12_isIn hl e4) rfl (Nat.le_of_ble_eq_true rfl) (by decide) (by decide) dX12_isOn_4 rfl rfl rfl rfl ?_
  refine g_if_eq (pc := 7) (tgt := 24) B dX12_isOn_7 (by decide) (fun c7 => ?_) (fun c7 => ?_)
  · rw [if_pos c7] at h
    refine g_iconst (pc := 24) B dX12_isOn_24 (0 : Int32) (by decide) ?_
    obtain rfl := Option.some.inj h
    exact g_ret_Z (pc := 25) B rfl (Or.inl rfl) (by decide) (by decide) dX12_isOn_25
  · rw [if_neg c7] at h
    refine g_iload_n (pc := 10) B dX12_isOn_10 1 rfl ?_
    refine g_iconst (pc := 11) B dX12_isOn_11 (0 : Int32) (by decide) ?_
    refine g_bipush (pc := 12) B dX12_isOn_12 (15 : Int32) (by decide) ?_
    obtain ⟨v14, e14, h⟩ := ob h
    refine h_callS (pc := 14) (As := [vI x1, vI (0 : Int32), vI (15 : Int32)]) (st := []) (X' := (xS m X0 z)) (cs' := 0) (sl' := 0) (st10 := [vI v14]) B cal_X12_isIn kmX12_115 kz_X12_isIn (fun l hl => ct_X12_isIn hl e14) rfl (Nat.le_of_ble_eq_true rfl) (by decide) (by decide) dX12_isOn_14 rfl rfl rfl rfl ?_
    refine g_if_eq (pc := 17) (tgt := 24) B dX12_isOn_17 (by decide) (fun c17 => ?_) (fun c17 => ?_)
    · rw [if_pos c17] at h
      refine g_iconst (pc := 24) B dX12_isOn_24 (0 : Int32) (by decide) ?_
      obtain rfl := Option.some.inj h
      exact g_ret_Z (pc := 25) B rfl (Or.inl rfl) (by decide) (by decide) dX12_isOn_25
    · rw [if_neg c17] at h
      refine g_iconst (pc := 20) B dX12_isOn_20 (1 : Int32) (by decide) ?_
      refine g_goto (pc := 21) (tgt := 25) B dX12_isOn_21 (by decide) ?_
      obtain rfl := Option.some.inj h
      exact g_ret_Z (pc := 25) B rfl (Or.inr rfl) (by decide) (by decide) dX12_isOn_25
theorem ct_X12_isOn {D : DD} {l : Launch} {m z : Nat} {X0 : SM} {x0 : Int32} {x1 : Int32} {r : Int32} (hl : l.stackTraces = false) (h : fX12_isOn X0 x0 x1 = some r) : Ctr D l yX12_isOn cX12_isOn 2 (some .boolean) rmX12_isOn [vI x0, vI x1] (xS m X0 z) (.inr (some (vI r))) (xS m X0 z) :=
  ctr_of hl (plainFor_of_name (by decide)) (Nat.le_of_ble_eq_true rfl) fun ev _ ht B => cb_X12_isOn_L0 B ht h
set_option maxRecDepth 100000 in
set_option maxHeartbeats 4000000 in
theorem cb_X12_draws_L138 {D : DD} {ev : EV} {m z : Nat} {X0 : SM} {X : SM} {s1 : Int32} {s2 : Int32} {s3 : Int32} {r : SM} (B : Amb D (foot (xS m X0 z)) ev RX12 "draws" cX12_draws 9 (none) rmX12_draws) (ht : Tb0 ev)  (h : fX12_draws_L138 X s1 s2 s3 = some r) : Gd D (foot (xS m X0 z)) ev (QF D ev (xS m X0 z) (.inr (none)) (xS m r z) rmX12_draws) (xS m X z) 0 0 138 [(0, vA (some m))] [vI s3, vI s2, vI s1, vA (some (m + 1 + 14))] := by
  unfold fX12_draws_L138 at h
  refine g_ior (pc := 138) B dX12_draws_138 ?_
  obtain ⟨c139, h⟩ := chk h
  refine gs_iast (pc := 139) B c139 dX12_draws_139 ?_
  refine g_aload_n (pc := 140) B dX12_draws_140 0 rfl ?_
  refine gs_arr (pc := 141) 32 18 B (by decide) (by decide) kfX12_65 dX12_draws_141 ?_
  refine g_aload_n (pc := 144) B dX12_draws_144 0 rfl ?_
  refine gs_get (pc := 145) 25 B (by decide) (by decide) kfX12_157 dX12_draws_145 ?_
  refine g_dup2 (pc := 148) B dX12_draws_148 rfl rfl ?_
  obtain ⟨c149, h⟩ := chk h
  refine gs_iald (pc := 149) B c149 dX12_draws_149 ?_
  refine g_iconst (pc := 150) B dX12_draws_150 (1 : Int32) (by decide) ?_
  refine g_iadd (pc := 151) B dX12_draws_151 ?_
  obtain ⟨c152, h⟩ := chk h
  refine gs_iast (pc := 152) B c152 dX12_draws_152 ?_
  obtain rfl := Option.some.inj h
  exact g_ret_V (pc := 153) B rfl (by decide) (by decide) dX12_draws_153
set_option maxRecDepth 100000 in
set_option maxHeartbeats 4000000 in
theorem cb_X12_draws_L115 {D : DD} {ev : EV} {m z : Nat} {X0 : SM} {X : SM} {x4 : Int32} {x6 : Int32} {x7 : Int32} {s1 : Int32} {s2 : Int32} {s3 : Int32} {r : SM} (B : Amb D (foot (xS m X0 z)) ev RX12 "draws" cX12_draws 9 (none) rmX12_draws) (ht : Tb0 ev)  (h : fX12_draws_L115 X x4 x6 x7 s1 s2 s3 = some r) : Gd D (foot (xS m X0 z)) ev (QF D ev (xS m X0 z) (.inr (none)) (xS m r z) rmX12_draws) (xS m X z) 0 0 115 [(0, vA (some m)), (4, vI x4), (6, vI x6), (7, vI x7)] [vI s3, vI s2, vI s1, vA (some (m + 1 + 13))] := by
  unfold fX12_draws_L115 at h
  refine g_ior (pc := 115) B dX12_draws_115 ?_
  obtain ⟨c116, h⟩ := chk h
  refine gs_iast (pc := 116) B c116 dX12_draws_116 ?_
  refine g_aload_n (pc := 117) B dX12_draws_117 0 rfl ?_
  refine gs_arr (pc := 118) 19 14 B (by decide) (by decide) kfX12_53 dX12_draws_118 ?_
  refine g_iload (pc := 121) B dX12_draws_121 2 rfl ?_
  refine g_dup2 (pc := 123) B dX12_draws_123 rfl rfl ?_
  obtain ⟨c124, h⟩ := chk h
  refine gs_iald (pc := 124) B c124 dX12_draws_124 ?_
  refine g_iload (pc := 125) B dX12_draws_125 3 rfl ?_
  refine g_if_eq (pc := 127) (tgt := 134) B dX12_draws_127 (by decide) (fun c127 => ?_) (fun c127 => ?_)
  · rw [if_pos c127] at h
    refine g_iconst (pc := 134) B dX12_draws_134 (1 : Int32) (by decide) ?_
    refine g_iload (pc := 135) B dX12_draws_135 1 rfl ?_
    refine g_ishl (pc := 137) B dX12_draws_137 ?_
    refine g_sub (pc := 138) [0] rfl ?_
    exact cb_X12_draws_L138 B ht h
  · rw [if_neg c127] at h
    refine g_iconst (pc := 130) B dX12_draws_130 (0 : Int32) (by decide) ?_
    refine g_goto (pc := 131) (tgt := 138) B dX12_draws_131 (by decide) ?_
    refine g_sub (pc := 138) [0] rfl ?_
    exact cb_X12_draws_L138 B ht h
set_option maxRecDepth 100000 in
set_option maxHeartbeats 4000000 in
theorem cb_X12_draws_L82 {D : DD} {ev : EV} {m z : Nat} {X0 : SM} {X : SM} {x4 : Int32} {x6 : Int32} {x7 : Int32} {s0 : Int32} {r : SM} (B : Amb D (foot (xS m X0 z)) ev RX12 "draws" cX12_draws 9 (none) rmX12_draws) (ht : Tb0 ev)  (h : fX12_draws_L82 X x4 x6 x7 s0 = some r) : Gd D (foot (xS m X0 z)) ev (QF D ev (xS m X0 z) (.inr (none)) (xS m r z) rmX12_draws) (xS m X z) 0 0 82 [(0, vA (some m)), (4, vI x4), (6, vI x6), (7, vI x7)] [vI s0] := by
  unfold fX12_draws_L82 at h
  refine g_istore (pc := 82) (L' := [(8, vI s0), (0, vA (some m)), (4, vI x4), (6, vI x6), (7, vI x7)]) B dX12_draws_82 (by decide) rfl ?_
  refine g_iload (pc := 84) B dX12_draws_84 0 rfl ?_
  refine g_iload (pc := 86) B dX12_draws_86 2 rfl ?_
  refine g_ishr (pc := 88) B dX12_draws_88 ?_
  refine g_iconst (pc := 89) B dX12_draws_89 (1 : Int32) (by decide) ?_
  refine g_iand (pc := 90) B dX12_draws_90 ?_
  refine g_if_ne (pc := 91) (tgt := 153) B dX12_draws_91 (by decide) (fun c91 => ?_) (fun c91 => ?_)
  · rw [if_neg c91] at h
    obtain rfl := Option.some.inj h
    exact g_ret_V (pc := 153) B rfl (by decide) (by decide) dX12_draws_153
  · rw [if_pos c91] at h
    refine g_aload_n (pc := 94) B dX12_draws_94 1 rfl ?_
    refine gs_arr (pc := 95) 18 13 B (by decide) (by decide) kfX12_50 dX12_draws_95 ?_
    refine g_iload (pc := 98) B dX12_draws_98 3 rfl ?_
    refine g_dup2 (pc := 100) B dX12_draws_100 rfl rfl ?_
    obtain ⟨c101, h⟩ := chk h
    refine gs_iald (pc := 101) B c101 dX12_draws_101 ?_
    refine g_iload (pc := 102) B dX12_draws_102 4 rfl ?_
    refine g_if_eq (pc := 104) (tgt := 114) B dX12_draws_104 (by decide) (fun c104 => ?_) (fun c104 => ?_)
    · rw [if_pos c104] at h
      refine g_iconst (pc := 114) B dX12_draws_114 (0 : Int32) (by decide) ?_
      refine g_sub (pc := 115) [1, 2, 3, 4] rfl ?_
      exact cb_X12_draws_L115 B ht h
    · rw [if_neg c104] at h
      refine g_iconst (pc := 107) B dX12_draws_107 (1 : Int32) (by decide) ?_
      refine g_iload (pc := 108) B dX12_draws_108 2 rfl ?_
      refine g_ishl (pc := 110) B dX12_draws_110 ?_
      refine g_goto (pc := 111) (tgt := 115) B dX12_draws_111 (by decide) ?_
      refine g_sub (pc := 115) [1, 2, 3, 4] rfl ?_
      exact cb_X12_draws_L115 B ht h
set_option maxRecDepth 100000 in
set_option maxHeartbeats 4000000 in
theorem cb_X12_draws_L58 {D : DD} {ev : EV} {m z : Nat} {X0 : SM} {X : SM} {x4 : Int32} {x6 : Int32} {s0 : Int32} {r : SM} (B : Amb D (foot (xS m X0 z)) ev RX12 "draws" cX12_draws 9 (none) rmX12_draws) (ht : Tb0 ev)  (h : fX12_draws_L58 X x4 x6 s0 = some r) : Gd D (foot (xS m X0 z)) ev (QF D ev (xS m X0 z) (.inr (none)) (xS m r z) rmX12_draws) (xS m X z) 0 0 58 [(0, vA (some m)), (4, vI x4), (6, vI x6)] [vI s0] := by
  unfold fX12_draws_L58 at h
  refine g_istore (pc := 58) (L' := [(7, vI s0), (0, vA (some m)), (4, vI x4), (6, vI x6)]) B dX12_draws_58 (by decide) rfl ?_
  refine g_iload (pc := 60) B dX12_draws_60 0 rfl ?_
  refine g_if_eq (pc := 62) (tgt := 75) B dX12_draws_62 (by decide) (fun c62 => ?_) (fun c62 => ?_)
  · rw [if_pos c62] at h
    refine g_aload_n (pc := 75) B dX12_draws_75 1 rfl ?_
    refine gs_arr (pc := 76) 19 14 B (by decide) (by decide) kfX12_53 dX12_draws_76 ?_
    refine g_iload (pc := 79) B dX12_draws_79 3 rfl ?_
    obtain ⟨c81, h⟩ := chk h
    refine gs_iald (pc := 81) B c81 dX12_draws_81 ?_
    refine g_sub (pc := 82) [1, 2, 3, 0] rfl ?_
    exact cb_X12_draws_L82 B ht h
  · rw [if_neg c62] at h
    refine g_aload_n (pc := 65) B dX12_draws_65 1 rfl ?_
    refine gs_arr (pc := 66) 18 13 B (by decide) (by decide) kfX12_50 dX12_draws_66 ?_
    refine g_iload (pc := 69) B dX12_draws_69 3 rfl ?_
    obtain ⟨c71, h⟩ := chk h
    refine gs_iald (pc := 71) B c71 dX12_draws_71 ?_
    refine g_goto (pc := 72) (tgt := 82) B dX12_draws_72 (by decide) ?_
    refine g_sub (pc := 82) [1, 2, 3, 0] rfl ?_
    exact cb_X12_draws_L82 B ht h
set_option maxRecDepth 100000 in
set_option maxHeartbeats 4000000 in
theorem cb_X12_draws_L34 {D : DD} {ev : EV} {m z : Nat} {X0 : SM} {X : SM} {x1 : Int32} {x2 : Int32} {x4 : Int32} {s0 : Int32} {r : SM} (B : Amb D (foot (xS m X0 z)) ev RX12 "draws" cX12_draws 9 (none) rmX12_draws) (ht : Tb0 ev)  (h : fX12_draws_L34 X x1 x2 x4 s0 = some r) : Gd D (foot (xS m X0 z)) ev (QF D ev (xS m X0 z) (.inr (none)) (xS m r z) rmX12_draws) (xS m X z) 0 0 34 [(0, vA (some m)), (1, vI x1), (2, vI x2), (4, vI x4)] [vI s0] := by
  unfold fX12_draws_L34 at h
  refine g_istore (pc := 34) (L' := [(5, vI s0), (0, vA (some m)), (1, vI x1), (2, vI x2), (4, vI x4)]) B dX12_draws_34 (by decide) rfl ?_
  refine g_bipush (pc := 36) B dX12_draws_36 (16 : Int32) (by decide) ?_
  refine g_iload_n (pc := 38) B dX12_draws_38 2 rfl ?_
  refine g_imul (pc := 39) B dX12_draws_39 ?_
  refine g_iload (pc := 40) B dX12_draws_40 0 rfl ?_
  refine g_iadd (pc := 42) B dX12_draws_42 ?_
  refine g_istore (pc := 43) (L' := [(6, vI (((16 : Int32) * x1) + s0)), (5, vI s0), (0, vA (some m)), (1, vI x1), (2, vI x2), (4, vI x4)]) B dX12_draws_43 (by decide) rfl ?_
  refine g_iload_n (pc := 45) B dX12_draws_45 4 rfl ?_
  refine g_aload_n (pc := 46) B dX12_draws_46 2 rfl ?_
  refine gs_get (pc := 47) 21 B (by decide) (by decide) kfX12_160 dX12_draws_47 ?_
  refine g_icmp_eq (pc := 50) (tgt := 57) B dX12_draws_50 (by decide) (fun c50 => ?_) (fun c50 => ?_)
  · rw [if_pos c50] at h
    refine g_iconst (pc := 57) B dX12_draws_57 (0 : Int32) (by decide) ?_
    refine g_sub (pc := 58) [2, 5, 0] rfl ?_
    exact cb_X12_draws_L58 B ht h
  · rw [if_neg c50] at h
    refine g_iconst (pc := 53) B dX12_draws_53 (1 : Int32) (by decide) ?_
    refine g_goto (pc := 54) (tgt := 58) B dX12_draws_54 (by decide) ?_
    refine g_sub (pc := 58) [2, 5, 0] rfl ?_
    exact cb_X12_draws_L58 B ht h
set_option maxRecDepth 100000 in
set_option maxHeartbeats 4000000 in
theorem cb_X12_draws_L16 {D : DD} {ev : EV} {m z : Nat} {X0 : SM} {X : SM} {x1 : Int32} {x2 : Int32} {x3 : Int32} {s0 : Int32} {r : SM} (B : Amb D (foot (xS m X0 z)) ev RX12 "draws" cX12_draws 9 (none) rmX12_draws) (ht : Tb0 ev)  (h : fX12_draws_L16 X x1 x2 x3 s0 = some r) : Gd D (foot (xS m X0 z)) ev (QF D ev (xS m X0 z) (.inr (none)) (xS m r z) rmX12_draws) (xS m X z) 0 0 16 [(0, vA (some m)), (1, vI x1), (2, vI x2), (3, vI x3)] [vI s0] := by
  unfold fX12_draws_L16 at h
  refine g_istore (pc := 16) (L' := [(4, vI s0), (0, vA (some m)), (1, vI x1), (2, vI x2), (3, vI x3)]) B dX12_draws_16 (by decide) rfl ?_
  refine g_iload_n (pc := 18) B dX12_draws_18 4 rfl ?_
  refine g_aload_n (pc := 19) B dX12_draws_19 1 rfl ?_
  refine gs_get (pc := 20) 22 B (by decide) (by decide) kfX12_163 dX12_draws_20 ?_
  refine g_icmp_ge (pc := 23) (tgt := 30) B dX12_draws_23 (by decide) (fun c23 => ?_) (fun c23 => ?_)
  · rw [if_pos c23] at h
    refine g_aload_n (pc := 30) B dX12_draws_30 1 rfl ?_
    refine gs_get (pc := 31) 22 B (by decide) (by decide) kfX12_163 dX12_draws_31 ?_
    refine g_sub (pc := 34) [1, 2, 3, 0] rfl ?_
    exact cb_X12_draws_L34 B ht h
  · rw [if_neg c23] at h
    refine g_iload_n (pc := 26) B dX12_draws_26 4 rfl ?_
    refine g_goto (pc := 27) (tgt := 34) B dX12_draws_27 (by decide) ?_
    refine g_sub (pc := 34) [1, 2, 3, 0] rfl ?_
    exact cb_X12_draws_L34 B ht h
set_option maxRecDepth 100000 in
set_option maxHeartbeats 4000000 in
theorem cb_X12_draws_L0 {D : DD} {ev : EV} {m z : Nat} {X0 : SM} {X : SM} {x1 : Int32} {x2 : Int32} {x3 : Int32} {r : SM} (B : Amb D (foot (xS m X0 z)) ev RX12 "draws" cX12_draws 9 (none) rmX12_draws) (ht : Tb0 ev)  (h : fX12_draws X x1 x2 x3 = some r) : Gd D (foot (xS m X0 z)) ev (QF D ev (xS m X0 z) (.inr (none)) (xS m r z) rmX12_draws) (xS m X z) 0 0 0 [(0, vA (some m)), (1, vI x1), (2, vI x2), (3, vI x3)] [] := by
  unfold fX12_draws at h
  refine g_iload_n (pc := 0) B dX12_draws_0 2 rfl ?_
  refine g_aload_n (pc := 1) B dX12_draws_1 0 rfl ?_
  refine gs_get (pc := 2) 21 B (by decide) (by decide) kfX12_160 dX12_draws_2 ?_
  refine g_icmp_ge (pc := 5) (tgt := 12) B dX12_draws_5 (by decide) (fun c5 => ?_) (fun c5 => ?_)
  · rw [if_pos c5] at h
    refine g_aload_n (pc := 12) B dX12_draws_12 0 rfl ?_
    refine gs_get (pc := 13) 21 B (by decide) (by decide) kfX12_160 dX12_draws_13 ?_
    refine g_sub (pc := 16) [0, 1, 2, 3] rfl ?_
    exact cb_X12_draws_L16 B ht h
  · rw [if_neg c5] at h
    refine g_iload_n (pc := 8) B dX12_draws_8 2 rfl ?_
    refine g_goto (pc := 9) (tgt := 16) B dX12_draws_9 (by decide) ?_
    refine g_sub (pc := 16) [0, 1, 2, 3] rfl ?_
    exact cb_X12_draws_L16 B ht h
theorem ct_X12_draws {D : DD} {l : Launch} {m z : Nat} {X0 : SM} {x1 : Int32} {x2 : Int32} {x3 : Int32} {r : SM} (hl : l.stackTraces = false) (h : fX12_draws X0 x1 x2 x3 = some r) : Ctr D l yX12_draws cX12_draws 9 (none) rmX12_draws [vA (some m), vI x1, vI x2, vI x3] (xS m X0 z) (.inr (none)) (xS m r z) :=
  ctr_of hl (plainFor_of_name (by decide)) (Nat.le_of_ble_eq_true rfl) fun ev _ ht B => cb_X12_draws_L0 B ht h
set_option maxRecDepth 100000 in
set_option maxHeartbeats 4000000 in
theorem cb_X12_goes_L108 {D : DD} {ev : EV} {m z : Nat} {X0 : SM} {X : SM} {x2 : Int32} {x3 : Int32} {r : SM} (B : Amb D (foot (xS m X0 z)) ev RX12 "goes" cX12_goes 4 (none) rmX12_goes) (ht : Tb0 ev)  (h : fX12_goes_L108 X x2 x3 = some r) : Gd D (foot (xS m X0 z)) ev (QF D ev (xS m X0 z) (.inr (none)) (xS m r z) rmX12_goes) (xS m X z) 0 0 108 [(0, vA (some m)), (2, vI x2), (3, vI x3)] [] := by
  unfold fX12_goes_L108 at h
  refine g_aload_n (pc := 108) B dX12_goes_108 0 rfl ?_
  refine g_iload_n (pc := 109) B dX12_goes_109 1 rfl ?_
  refine gs_put (pc := 110) 21 B (by decide) (by decide) rfl kfX12_160 dX12_goes_110 ?_
  refine g_aload_n (pc := 113) B dX12_goes_113 0 rfl ?_
  refine g_iload_n (pc := 114) B dX12_goes_114 2 rfl ?_
  refine gs_put (pc := 115) 22 B (by decide) (by decide) rfl kfX12_163 dX12_goes_115 ?_
  obtain rfl := Option.some.inj h
  exact g_ret_V (pc := 118) B rfl (by decide) (by decide) dX12_goes_118
set_option maxRecDepth 100000 in
set_option maxHeartbeats 4000000 in
theorem cb_X12_goes_L87 {D : DD} {ev : EV} {m z : Nat} {X0 : SM} {X : SM} {x1 : Int32} {x2 : Int32} {x3 : Int32} {r : SM} (B : Amb D (foot (xS m X0 z)) ev RX12 "goes" cX12_goes 4 (none) rmX12_goes) (ht : Tb0 ev)  (h : fX12_goes_L87 X x1 x2 x3 = some r) : Gd D (foot (xS m X0 z)) ev (QF D ev (xS m X0 z) (.inr (none)) (xS m r z) rmX12_goes) (xS m X z) 0 0 87 [(0, vA (some m)), (1, vI x1), (2, vI x2), (3, vI x3)] [] := by
  unfold fX12_goes_L87 at h
  refine g_aload_n (pc := 87) B dX12_goes_87 0 rfl ?_
  obtain ⟨v88, X88, e88, h⟩ := obW h
  refine h_callV (pc := 88) (As := []) (st := []) (X' := (xS m X88 z)) (cs' := 0) (sl' := 0) (st10 := [vI v88]) B cal_X12_counts kmX12_173 kn_X12_counts ks_X12_counts hkS (by decide) rfl (fun l hl => ct_X12_counts hl e88) rfl (Nat.le_of_ble_eq_true rfl) (by decide) (by decide) dX12_goes_88 rfl rfl rfl rfl ?_
  refine g_if_eq (pc := 91) (tgt := 118) B dX12_goes_91 (by decide) (fun c91 => ?_) (fun c91 => ?_)
  · rw [if_pos c91] at h
    obtain rfl := Option.some.inj h
    exact g_ret_V (pc := 118) B rfl (by decide) (by decide) dX12_goes_118
  · rw [if_neg c91] at h
    refine g_aload_n (pc := 94) B dX12_goes_94 0 rfl ?_
    refine gs_get (pc := 95) 24 B (by decide) (by decide) kfX12_177 dX12_goes_95 ?_
    refine g_if_eq (pc := 98) (tgt := 108) B dX12_goes_98 (by decide) (fun c98 => ?_) (fun c98 => ?_)
    · rw [if_pos c98] at h
      refine g_sub (pc := 108) [0, 2, 3] rfl ?_
      exact cb_X12_goes_L108 B ht h
    · rw [if_neg c98] at h
      refine g_aload_n (pc := 101) B dX12_goes_101 0 rfl ?_
      refine g_iload_n (pc := 102) B dX12_goes_102 1 rfl ?_
      refine g_iload_n (pc := 103) B dX12_goes_103 2 rfl ?_
      refine g_iload_n (pc := 104) B dX12_goes_104 3 rfl ?_
      obtain ⟨X105, e105, h⟩ := ob h
      refine h_callV (pc := 105) (As := [vI x1, vI x2, vI x3]) (st := []) (X' := (xS m X105 z)) (cs' := 0) (sl' := 0) (st10 := []) B cal_X12_draws kmX12_181 kn_X12_draws ks_X12_draws hkS (by decide) rfl (fun l hl => ct_X12_draws hl e105) rfl (Nat.le_of_ble_eq_true rfl) (by decide) (by decide) dX12_goes_105 rfl rfl rfl rfl ?_
      refine g_sub (pc := 108) [0, 2, 3] rfl ?_
      exact cb_X12_goes_L108 B ht h
set_option maxRecDepth 100000 in
set_option maxHeartbeats 4000000 in
theorem cb_X12_goes_L59 {D : DD} {ev : EV} {m z : Nat} {X0 : SM} {X : SM} {x1 : Int32} {x2 : Int32} {s0 : Int32} {s1 : Int32} {r : SM} (B : Amb D (foot (xS m X0 z)) ev RX12 "goes" cX12_goes 4 (none) rmX12_goes) (ht : Tb0 ev)  (h : fX12_goes_L59 X x1 x2 s0 s1 = some r) : Gd D (foot (xS m X0 z)) ev (QF D ev (xS m X0 z) (.inr (none)) (xS m r z) rmX12_goes) (xS m X z) 0 0 59 [(0, vA (some m)), (1, vI x1), (2, vI x2)] [vI s1, vI s0] := by
  unfold fX12_goes_L59 at h
  refine g_iadd (pc := 59) B dX12_goes_59 ?_
  refine g_istore_n (pc := 60) (L' := [(3, vI (s0 + s1)), (0, vA (some m)), (1, vI x1), (2, vI x2)]) B dX12_goes_60 (by decide) rfl ?_
  refine g_aload_n (pc := 61) B dX12_goes_61 1 rfl ?_
  refine gs_get (pc := 62) 25 B (by decide) (by decide) kfX12_157 dX12_goes_62 ?_
  refine g_sipush (pc := 65) B dX12_goes_65 (600 : Int32) (by decide) ?_
  refine g_icmp_ge (pc := 68) (tgt := 87) B dX12_goes_68 (by decide) (fun c68 => ?_) (fun c68 => ?_)
  · rw [if_pos c68] at h
    refine g_sub (pc := 87) [1, 2, 3, 0] rfl ?_
    exact cb_X12_goes_L87 B ht h
  · rw [if_neg c68] at h
    refine g_iload_n (pc := 71) B dX12_goes_71 3 rfl ?_
    refine g_iload_n (pc := 72) B dX12_goes_72 0 rfl ?_
    obtain ⟨v73, e73, h⟩ := ob h
    refine h_callS (pc := 73) (As := [vI x2, vI (s0 + s1)]) (st := []) (X' := (xS m X z)) (cs' := 0) (sl' := 0) (st10 := [vI v73]) B cal_X12_isOn kmX12_169 kz_X12_isOn (fun l hl => ct_X12_isOn hl e73) rfl (Nat.le_of_ble_eq_true rfl) (by decide) (by decide) dX12_goes_73 rfl rfl rfl rfl ?_
    refine g_if_ne (pc := 76) (tgt := 87) B dX12_goes_76 (by decide) (fun c76 => ?_) (fun c76 => ?_)
    · rw [if_neg c76] at h
      refine g_sub (pc := 87) [1, 2, 3, 0] rfl ?_
      exact cb_X12_goes_L87 B ht h
    · rw [if_pos c76] at h
      refine g_aload_n (pc := 79) B dX12_goes_79 1 rfl ?_
      refine g_iconst (pc := 80) B dX12_goes_80 (2 : Int32) (by decide) ?_
      refine gs_put (pc := 81) 26 B (by decide) (by decide) rfl kfX12_154 dX12_goes_81 ?_
      refine g_goto (pc := 84) (tgt := 118) B dX12_goes_84 (by decide) ?_
      obtain rfl := Option.some.inj h
      exact g_ret_V (pc := 118) B rfl (by decide) (by decide) dX12_goes_118
set_option maxRecDepth 100000 in
set_option maxHeartbeats 4000000 in
theorem cb_X12_goes_L29 {D : DD} {ev : EV} {m z : Nat} {X0 : SM} {X : SM} {x1 : Int32} {s0 : Int32} {s1 : Int32} {r : SM} (B : Amb D (foot (xS m X0 z)) ev RX12 "goes" cX12_goes 4 (none) rmX12_goes) (ht : Tb0 ev)  (h : fX12_goes_L29 X x1 s0 s1 = some r) : Gd D (foot (xS m X0 z)) ev (QF D ev (xS m X0 z) (.inr (none)) (xS m r z) rmX12_goes) (xS m X z) 0 0 29 [(0, vA (some m)), (1, vI x1)] [vI s1, vI s0] := by
  unfold fX12_goes_L29 at h
  refine g_iadd (pc := 29) B dX12_goes_29 ?_
  refine g_istore_n (pc := 30) (L' := [(2, vI (s0 + s1)), (0, vA (some m)), (1, vI x1)]) B dX12_goes_30 (by decide) rfl ?_
  refine g_aload_n (pc := 31) B dX12_goes_31 1 rfl ?_
  refine gs_get (pc := 32) 22 B (by decide) (by decide) kfX12_163 dX12_goes_32 ?_
  refine g_aload_n (pc := 35) B dX12_goes_35 1 rfl ?_
  refine gs_get (pc := 36) 23 B (by decide) (by decide) kfX12_166 dX12_goes_36 ?_
  refine g_if_ne (pc := 39) (tgt := 46) B dX12_goes_39 (by decide) (fun c39 => ?_) (fun c39 => ?_)
  · rw [if_neg c39] at h
    refine g_aload_n (pc := 46) B dX12_goes_46 1 rfl ?_
    refine gs_get (pc := 47) 23 B (by decide) (by decide) kfX12_166 dX12_goes_47 ?_
    refine g_iconst (pc := 50) B dX12_goes_50 (2 : Int32) (by decide) ?_
    refine g_icmp_ne (pc := 51) (tgt := 58) B dX12_goes_51 (by decide) (fun c51 => ?_) (fun c51 => ?_)
    · rw [if_neg c51] at h
      refine g_iconst (pc := 58) B dX12_goes_58 (0 : Int32) (by decide) ?_
      refine g_sub (pc := 59) [1, 2, 0] rfl ?_
      exact cb_X12_goes_L59 B ht h
    · rw [if_pos c51] at h
      refine g_iconst (pc := 54) B dX12_goes_54 (-1) (by decide) ?_
      refine g_goto (pc := 55) (tgt := 59) B dX12_goes_55 (by decide) ?_
      refine g_sub (pc := 59) [1, 2, 0] rfl ?_
      exact cb_X12_goes_L59 B ht h
  · rw [if_pos c39] at h
    refine g_iconst (pc := 42) B dX12_goes_42 (1 : Int32) (by decide) ?_
    refine g_goto (pc := 43) (tgt := 59) B dX12_goes_43 (by decide) ?_
    refine g_sub (pc := 59) [1, 2, 0] rfl ?_
    exact cb_X12_goes_L59 B ht h
set_option maxRecDepth 100000 in
set_option maxHeartbeats 4000000 in
theorem cb_X12_goes_L0 {D : DD} {ev : EV} {m z : Nat} {X0 : SM} {X : SM} {x1 : Int32} {r : SM} (B : Amb D (foot (xS m X0 z)) ev RX12 "goes" cX12_goes 4 (none) rmX12_goes) (ht : Tb0 ev)  (h : fX12_goes X x1 = some r) : Gd D (foot (xS m X0 z)) ev (QF D ev (xS m X0 z) (.inr (none)) (xS m r z) rmX12_goes) (xS m X z) 0 0 0 [(0, vA (some m)), (1, vI x1)] [] := by
  unfold fX12_goes at h
  refine g_aload_n (pc := 0) B dX12_goes_0 0 rfl ?_
  refine gs_get (pc := 1) 21 B (by decide) (by decide) kfX12_160 dX12_goes_1 ?_
  refine g_aload_n (pc := 4) B dX12_goes_4 0 rfl ?_
  refine gs_get (pc := 5) 23 B (by decide) (by decide) kfX12_166 dX12_goes_5 ?_
  refine g_iconst (pc := 8) B dX12_goes_8 (1 : Int32) (by decide) ?_
  refine g_icmp_ne (pc := 9) (tgt := 16) B dX12_goes_9 (by decide) (fun c9 => ?_) (fun c9 => ?_)
  · rw [if_neg c9] at h
    refine g_aload_n (pc := 16) B dX12_goes_16 0 rfl ?_
    refine gs_get (pc := 17) 23 B (by decide) (by decide) kfX12_166 dX12_goes_17 ?_
    refine g_iconst (pc := 20) B dX12_goes_20 (3 : Int32) (by decide) ?_
    refine g_icmp_ne (pc := 21) (tgt := 28) B dX12_goes_21 (by decide) (fun c21 => ?_) (fun c21 => ?_)
    · rw [if_neg c21] at h
      refine g_iconst (pc := 28) B dX12_goes_28 (0 : Int32) (by decide) ?_
      refine g_sub (pc := 29) [0, 1] rfl ?_
      exact cb_X12_goes_L29 B ht h
    · rw [if_pos c21] at h
      refine g_iconst (pc := 24) B dX12_goes_24 (-1) (by decide) ?_
      refine g_goto (pc := 25) (tgt := 29) B dX12_goes_25 (by decide) ?_
      refine g_sub (pc := 29) [0, 1] rfl ?_
      exact cb_X12_goes_L29 B ht h
  · rw [if_pos c9] at h
    refine g_iconst (pc := 12) B dX12_goes_12 (1 : Int32) (by decide) ?_
    refine g_goto (pc := 13) (tgt := 29) B dX12_goes_13 (by decide) ?_
    refine g_sub (pc := 29) [0, 1] rfl ?_
    exact cb_X12_goes_L29 B ht h
theorem ct_X12_goes {D : DD} {l : Launch} {m z : Nat} {X0 : SM} {x1 : Int32} {r : SM} (hl : l.stackTraces = false) (h : fX12_goes X0 x1 = some r) : Ctr D l yX12_goes cX12_goes 4 (none) rmX12_goes [vA (some m), vI x1] (xS m X0 z) (.inr (none)) (xS m r z) :=
  ctr_of hl (plainFor_of_name (by decide)) (Nat.le_of_ble_eq_true rfl) fun ev _ ht B => cb_X12_goes_L0 B ht h
set_option maxRecDepth 100000 in
set_option maxHeartbeats 4000000 in
theorem cb_X12_enters_L0 {D : DD} {ev : EV} {m z : Nat} {X0 : SM} {X : SM} {x1 : Int32} {x2 : Int32} {r : SM} (B : Amb D (foot (xS m X0 z)) ev RX12 "enters" cX12_enters 3 (none) rmX12_enters) (ht : Tb0 ev)  (h : fX12_enters X x1 x2 = some r) : Gd D (foot (xS m X0 z)) ev (QF D ev (xS m X0 z) (.inr (none)) (xS m r z) rmX12_enters) (xS m X z) 0 0 0 [(0, vA (some m)), (1, vI x1), (2, vI x2)] [] := by
  unfold fX12_enters at h
  refine g_aload_n (pc := 0) B dX12_enters_0 0 rfl ?_
  refine gs_arr (pc := 1) 30 16 B (by decide) (by decide) kfX12_59 dX12_enters_1 ?_
  refine g_aload_n (pc := 4) B dX12_enters_4 0 rfl ?_
  refine gs_get (pc := 5) 28 B (by decide) (by decide) kfX12_185 dX12_enters_5 ?_
  refine g_iload_n (pc := 8) B dX12_enters_8 1 rfl ?_
  obtain ⟨c9, h⟩ := chk h
  refine gs_iast (pc := 9) B c9 dX12_enters_9 ?_
  refine g_aload_n (pc := 10) B dX12_enters_10 0 rfl ?_
  refine gs_arr (pc := 11) 31 17 B (by decide) (by decide) kfX12_62 dX12_enters_11 ?_
  refine g_aload_n (pc := 14) B dX12_enters_14 0 rfl ?_
  refine gs_get (pc := 15) 28 B (by decide) (by decide) kfX12_185 dX12_enters_15 ?_
  refine g_iload_n (pc := 18) B dX12_enters_18 2 rfl ?_
  obtain ⟨c19, h⟩ := chk h
  refine gs_iast (pc := 19) B c19 dX12_enters_19 ?_
  refine g_aload_n (pc := 20) B dX12_enters_20 0 rfl ?_
  refine g_dup (pc := 21) B dX12_enters_21 rfl ?_
  refine gs_get (pc := 22) 28 B (by decide) (by decide) kfX12_185 dX12_enters_22 ?_
  refine g_iconst (pc := 25) B dX12_enters_25 (1 : Int32) (by decide) ?_
  refine g_iadd (pc := 26) B dX12_enters_26 ?_
  refine gs_put (pc := 27) 28 B (by decide) (by decide) rfl kfX12_185 dX12_enters_27 ?_
  obtain rfl := Option.some.inj h
  exact g_ret_V (pc := 30) B rfl (by decide) (by decide) dX12_enters_30
theorem ct_X12_enters {D : DD} {l : Launch} {m z : Nat} {X0 : SM} {x1 : Int32} {x2 : Int32} {r : SM} (hl : l.stackTraces = false) (h : fX12_enters X0 x1 x2 = some r) : Ctr D l yX12_enters cX12_enters 3 (none) rmX12_enters [vA (some m), vI x1, vI x2] (xS m X0 z) (.inr (none)) (xS m r z) :=
  ctr_of hl (plainFor_of_name (by decide)) (Nat.le_of_ble_eq_true rfl) fun ev _ ht B => cb_X12_enters_L0 B ht h
set_option maxRecDepth 100000 in
set_option maxHeartbeats 4000000 in
theorem cb_X12_blockOf_L55 {D : DD} {ev : EV} {m z : Nat} {X0 : SM} {fu : Nat} {rec5 : Int32 → Int32 → Int32 → Int32 → Option (Int32)} {x1 : Int32} {x2 : Int32} {x4 : Int32} {s0 : Int32} {r : Int32} (B : Amb D (foot (xS m X0 z)) ev RX12 "blockOf" cX12_blockOf 5 (some .int) rmX12_blockOf) (ht : Tb0 ev) (hrec5 : ∀ {x1 : Int32} {x2 : Int32} {x3 : Int32} {x4 : Int32} {r : Int32}, rec5 x1 x2 x3 x4 = some r → Gd D (foot (xS m X0 z)) ev (QF D ev (xS m X0 z) (.inr (some (vI r))) (xS m X0 z) rmX12_blockOf) (xS m X0 z) 0 0 5 [(0, vA (some m)), (1, vI x1), (2, vI x2), (3, vI x3), (4, vI x4)] []) (h : fX12_blockOf_L55 fu X0 rec5 x1 x2 x4 s0 = some r) : Gd D (foot (xS m X0 z)) ev (QF D ev (xS m X0 z) (.inr (some (vI r))) (xS m X0 z) rmX12_blockOf) (xS m X0 z) 0 0 55 [(0, vA (some m)), (1, vI x1), (2, vI x2), (4, vI x4)] [vI s0] := by
  unfold fX12_blockOf_L55 at h
  refine g_istore_n (pc := 55) (L' := [(3, vI s0), (0, vA (some m)), (1, vI x1), (2, vI x2), (4, vI x4)]) B dX12_blockOf_55 (by decide) rfl ?_
  refine g_iinc (pc := 56) (v := (x4 + (1 : Int32))) (L' := [(4, vI (x4 + (1 : Int32))), (3, vI s0), (0, vA (some m)), (1, vI x1), (2, vI x2)]) B dX12_blockOf_56 (by decide) 4 rfl rfl rfl ?_
  refine g_goto (pc := 59) (tgt := 5) B dX12_blockOf_59 (by decide) ?_
  refine g_sub (pc := 5) [2, 3, 4, 1, 0] rfl ?_
  exact hrec5 h
set_option maxRecDepth 100000 in
set_option maxHeartbeats 4000000 in
theorem cb_X12_blockOf_L54 {D : DD} {ev : EV} {m z : Nat} {X0 : SM} {fu : Nat} {rec5 : Int32 → Int32 → Int32 → Int32 → Option (Int32)} {x1 : Int32} {x2 : Int32} {x3 : Int32} {x4 : Int32} {r : Int32} (B : Amb D (foot (xS m X0 z)) ev RX12 "blockOf" cX12_blockOf 5 (some .int) rmX12_blockOf) (ht : Tb0 ev) (hrec5 : ∀ {x1 : Int32} {x2 : Int32} {x3 : Int32} {x4 : Int32} {r : Int32}, rec5 x1 x2 x3 x4 = some r → Gd D (foot (xS m X0 z)) ev (QF D ev (xS m X0 z) (.inr (some (vI r))) (xS m X0 z) rmX12_blockOf) (xS m X0 z) 0 0 5 [(0, vA (some m)), (1, vI x1), (2, vI x2), (3, vI x3), (4, vI x4)] []) (h : fX12_blockOf_L54 fu X0 rec5 x1 x2 x3 x4 = some r) : Gd D (foot (xS m X0 z)) ev (QF D ev (xS m X0 z) (.inr (some (vI r))) (xS m X0 z) rmX12_blockOf) (xS m X0 z) 0 0 54 [(0, vA (some m)), (1, vI x1), (2, vI x2), (3, vI x3), (4, vI x4)] [] := by
  unfold fX12_blockOf_L54 at h
  refine g_iload_n (pc := 54) B dX12_blockOf_54 3 rfl ?_
  refine g_sub (pc := 55) [0, 1, 2, 4] rfl ?_
  exact cb_X12_blockOf_L55 B ht hrec5 h
set_option maxRecDepth 100000 in
set_option maxHeartbeats 4000000 in
theorem cb_X12_blockOf_L5b {D : DD} {ev : EV} {m z : Nat} {X0 : SM} {fu : Nat} {rec5 : Int32 → Int32 → Int32 → Int32 → Option (Int32)} {x1 : Int32} {x2 : Int32} {x3 : Int32} {x4 : Int32} {r : Int32} (B : Amb D (foot (xS m X0 z)) ev RX12 "blockOf" cX12_blockOf 5 (some .int) rmX12_blockOf) (ht : Tb0 ev) (hrec5 : ∀ {x1 : Int32} {x2 : Int32} {x3 : Int32} {x4 : Int32} {r : Int32}, rec5 x1 x2 x3 x4 = some r → Gd D (foot (xS m X0 z)) ev (QF D ev (xS m X0 z) (.inr (some (vI r))) (xS m X0 z) rmX12_blockOf) (xS m X0 z) 0 0 5 [(0, vA (some m)), (1, vI x1), (2, vI x2), (3, vI x3), (4, vI x4)] []) (h : fX12_blockOf_L5b fu X0 rec5 x1 x2 x3 x4 = some r) : Gd D (foot (xS m X0 z)) ev (QF D ev (xS m X0 z) (.inr (some (vI r))) (xS m X0 z) rmX12_blockOf) (xS m X0 z) 0 0 5 [(0, vA (some m)), (1, vI x1), (2, vI x2), (3, vI x3), (4, vI x4)] [] := by
  unfold fX12_blockOf_L5b at h
  refine g_iload (pc := 5) B dX12_blockOf_5 4 rfl ?_
  refine g_aload_n (pc := 7) B dX12_blockOf_7 0 rfl ?_
  refine gs_arr (pc := 8) 10 5 B (by decide) (by decide) kfX12_26 dX12_blockOf_8 ?_
  refine g_iload_n (pc := 11) B dX12_blockOf_11 1 rfl ?_
  obtain ⟨c12, h⟩ := chk h
  refine gs_iald (pc := 12) B c12 dX12_blockOf_12 ?_
  refine g_icmp_ge (pc := 13) (tgt := 62) B dX12_blockOf_13 (by decide) (fun c13 => ?_) (fun c13 => ?_)
  · rw [if_pos c13] at h
    refine g_iload_n (pc := 62) B dX12_blockOf_62 3 rfl ?_
    obtain rfl := Option.some.inj h
    exact g_ret_I (pc := 63) B rfl (by decide) (by decide) dX12_blockOf_63
  · rw [if_neg c13] at h
    refine g_aload_n (pc := 16) B dX12_blockOf_16 0 rfl ?_
    refine gs_arr (pc := 17) 11 6 B (by decide) (by decide) kfX12_29 dX12_blockOf_17 ?_
    refine g_bipush (pc := 20) B dX12_blockOf_20 (30 : Int32) (by decide) ?_
    refine g_iload_n (pc := 22) B dX12_blockOf_22 1 rfl ?_
    refine g_imul (pc := 23) B dX12_blockOf_23 ?_
    refine g_iload (pc := 24) B dX12_blockOf_24 4 rfl ?_
    refine g_iadd (pc := 26) B dX12_blockOf_26 ?_
    obtain ⟨c27, h⟩ := chk h
    refine gs_iald (pc := 27) B c27 dX12_blockOf_27 ?_
    refine g_bipush (pc := 28) B dX12_blockOf_28 (6 : Int32) (by decide) ?_
    refine g_icmp_ne (pc := 30) (tgt := 54) B dX12_blockOf_30 (by decide) (fun c30 => ?_) (fun c30 => ?_)
    · rw [if_neg c30] at h
      refine g_sub (pc := 54) [0, 1, 2, 3, 4] rfl ?_
      exact cb_X12_blockOf_L54 B ht hrec5 h
    · rw [if_pos c30] at h
      refine g_aload_n (pc := 33) B dX12_blockOf_33 0 rfl ?_
      refine gs_arr (pc := 34) 12 7 B (by decide) (by decide) kfX12_32 dX12_blockOf_34 ?_
      refine g_bipush (pc := 37) B dX12_blockOf_37 (30 : Int32) (by decide) ?_
      refine g_iload_n (pc := 39) B dX12_blockOf_39 1 rfl ?_
      refine g_imul (pc := 40) B dX12_blockOf_40 ?_
      refine g_iload (pc := 41) B dX12_blockOf_41 4 rfl ?_
      refine g_iadd (pc := 43) B dX12_blockOf_43 ?_
      obtain ⟨c44, h⟩ := chk h
      refine gs_iald (pc := 44) B c44 dX12_blockOf_44 ?_
      refine g_iload_n (pc := 45) B dX12_blockOf_45 2 rfl ?_
      refine g_icmp_ne (pc := 46) (tgt := 54) B dX12_blockOf_46 (by decide) (fun c46 => ?_) (fun c46 => ?_)
      · rw [if_neg c46] at h
        refine g_sub (pc := 54) [0, 1, 2, 3, 4] rfl ?_
        exact cb_X12_blockOf_L54 B ht hrec5 h
      · rw [if_pos c46] at h
        refine g_iload (pc := 49) B dX12_blockOf_49 4 rfl ?_
        refine g_goto (pc := 51) (tgt := 55) B dX12_blockOf_51 (by decide) ?_
        refine g_sub (pc := 55) [0, 1, 2, 4] rfl ?_
        exact cb_X12_blockOf_L55 B ht hrec5 h
theorem cb_X12_blockOf_L5n {D : DD} {ev : EV} {m z : Nat} {X0 : SM} {fu : Nat} (B : Amb D (foot (xS m X0 z)) ev RX12 "blockOf" cX12_blockOf 5 (some .int) rmX12_blockOf) (ht : Tb0 ev)  : ∀ (n : Nat) {x1 : Int32} {x2 : Int32} {x3 : Int32} {x4 : Int32} {r : Int32}, fX12_blockOf_L5 fu X0 n x1 x2 x3 x4 = some r → Gd D (foot (xS m X0 z)) ev (QF D ev (xS m X0 z) (.inr (some (vI r))) (xS m X0 z) rmX12_blockOf) (xS m X0 z) 0 0 5 [(0, vA (some m)), (1, vI x1), (2, vI x2), (3, vI x3), (4, vI x4)] [] := by
  intro n
  induction n with
  | zero => intro x1 x2 x3 x4 r h; exact nomatch h
  | succ n ih => intro x1 x2 x3 x4 r h; exact cb_X12_blockOf_L5b (fu := fu) B ht (fun h9 => ih h9) h
theorem cb_X12_blockOf_L5 {D : DD} {ev : EV} {m z : Nat} {X0 : SM} {fu : Nat} {x1 : Int32} {x2 : Int32} {x3 : Int32} {x4 : Int32} {n : Nat} {r : Int32} (B : Amb D (foot (xS m X0 z)) ev RX12 "blockOf" cX12_blockOf 5 (some .int) rmX12_blockOf) (ht : Tb0 ev)  (h : fX12_blockOf_L5 fu X0 n x1 x2 x3 x4 = some r) : Gd D (foot (xS m X0 z)) ev (QF D ev (xS m X0 z) (.inr (some (vI r))) (xS m X0 z) rmX12_blockOf) (xS m X0 z) 0 0 5 [(0, vA (some m)), (1, vI x1), (2, vI x2), (3, vI x3), (4, vI x4)] [] := cb_X12_blockOf_L5n B ht n h
set_option maxRecDepth 100000 in
set_option maxHeartbeats 4000000 in
theorem cb_X12_blockOf_L0 {D : DD} {ev : EV} {m z : Nat} {X0 : SM} {fu : Nat} {x1 : Int32} {x2 : Int32} {r : Int32} (B : Amb D (foot (xS m X0 z)) ev RX12 "blockOf" cX12_blockOf 5 (some .int) rmX12_blockOf) (ht : Tb0 ev)  (h : fX12_blockOf fu X0 x1 x2 = some r) : Gd D (foot (xS m X0 z)) ev (QF D ev (xS m X0 z) (.inr (some (vI r))) (xS m X0 z) rmX12_blockOf) (xS m X0 z) 0 0 0 [(0, vA (some m)), (1, vI x1), (2, vI x2)] [] := by
  unfold fX12_blockOf at h
  refine g_iconst (pc := 0) B dX12_blockOf_0 (-1) (by decide) ?_
  refine g_istore_n (pc := 1) (L' := [(3, vI (-1)), (0, vA (some m)), (1, vI x1), (2, vI x2)]) B dX12_blockOf_1 (by decide) rfl ?_
  refine g_iconst (pc := 2) B dX12_blockOf_2 (0 : Int32) (by decide) ?_
  refine g_istore (pc := 3) (L' := [(4, vI (0 : Int32)), (3, vI (-1)), (0, vA (some m)), (1, vI x1), (2, vI x2)]) B dX12_blockOf_3 (by decide) rfl ?_
  refine g_sub (pc := 5) [2, 3, 4, 1, 0] rfl ?_
  exact cb_X12_blockOf_L5 B ht h
theorem ct_X12_blockOf {D : DD} {l : Launch} {m z : Nat} {X0 : SM} {fu : Nat} {x1 : Int32} {x2 : Int32} {r : Int32} (hl : l.stackTraces = false) (h : fX12_blockOf fu X0 x1 x2 = some r) : Ctr D l yX12_blockOf cX12_blockOf 5 (some .int) rmX12_blockOf [vA (some m), vI x1, vI x2] (xS m X0 z) (.inr (some (vI r))) (xS m X0 z) :=
  ctr_of hl (plainFor_of_name (by decide)) (Nat.le_of_ble_eq_true rfl) fun ev _ ht B => cb_X12_blockOf_L0 B ht h
set_option maxRecDepth 100000 in
set_option maxHeartbeats 4000000 in
theorem cb_X12_callsWord_L31 {D : DD} {ev : EV} {m z : Nat} {X0 : SM} {fu : Nat} {X : SM} {x3 : Int32} {s1 : Int32} {r : SM} (B : Amb D (foot (xS m X0 z)) ev RX12 "callsWord" cX12_callsWord 4 (none) rmX12_callsWord) (ht : Tb0 ev)  (h : fX12_callsWord_L31 fu X x3 s1 = some r) : Gd D (foot (xS m X0 z)) ev (QF D ev (xS m X0 z) (.inr (none)) (xS m r z) rmX12_callsWord) (xS m X z) 0 0 31 [(0, vA (some m)), (3, vI x3)] [vI s1, vA (some m)] := by
  unfold fX12_callsWord_L31 at h
  refine gs_put (pc := 31) 26 B (by decide) (by decide) rfl kfX12_154 dX12_callsWord_31 ?_
  refine g_aload_n (pc := 34) B dX12_callsWord_34 0 rfl ?_
  refine gs_get (pc := 35) 26 B (by decide) (by decide) kfX12_154 dX12_callsWord_35 ?_
  refine g_if_ne (pc := 38) (tgt := 65) B dX12_callsWord_38 (by decide) (fun c38 => ?_) (fun c38 => ?_)
  · rw [if_neg c38] at h
    obtain rfl := Option.some.inj h
    exact g_ret_V (pc := 65) B rfl (by decide) (by decide) dX12_callsWord_65
  · rw [if_pos c38] at h
    refine g_aload_n (pc := 41) B dX12_callsWord_41 0 rfl ?_
    refine g_dup (pc := 42) B dX12_callsWord_42 rfl ?_
    refine gs_get (pc := 43) 29 B (by decide) (by decide) kfX12_192 dX12_callsWord_43 ?_
    refine g_iconst (pc := 46) B dX12_callsWord_46 (1 : Int32) (by decide) ?_
    refine g_iadd (pc := 47) B dX12_callsWord_47 ?_
    refine gs_put (pc := 48) 29 B (by decide) (by decide) rfl kfX12_192 dX12_callsWord_48 ?_
    refine g_aload_n (pc := 51) B dX12_callsWord_51 0 rfl ?_
    refine g_aload_n (pc := 52) B dX12_callsWord_52 0 rfl ?_
    refine gs_get (pc := 53) 27 B (by decide) (by decide) kfX12_195 dX12_callsWord_53 ?_
    refine g_iconst (pc := 56) B dX12_callsWord_56 (-1) (by decide) ?_
    obtain ⟨X57, e57, h⟩ := ob h
    refine h_callV (pc := 57) (As := [vI (sc (uc (uc X 26 s1) 29 ((sc (uc X 26 s1) 29) + (1 : Int32))) 27), vI (-1)]) (st := []) (X' := (xS m X57 z)) (cs' := 0) (sl' := 0) (st10 := []) B cal_X12_enters kmX12_198 kn_X12_enters ks_X12_enters hkS (by decide) rfl (fun l hl => ct_X12_enters hl e57) rfl (Nat.le_of_ble_eq_true rfl) (by decide) (by decide) dX12_callsWord_57 rfl rfl rfl rfl ?_
    refine g_aload_n (pc := 60) B dX12_callsWord_60 0 rfl ?_
    refine g_iload_n (pc := 61) B dX12_callsWord_61 1 rfl ?_
    refine gs_put (pc := 62) 27 B (by decide) (by decide) rfl kfX12_195 dX12_callsWord_62 ?_
    obtain rfl := Option.some.inj h
    exact g_ret_V (pc := 65) B rfl (by decide) (by decide) dX12_callsWord_65
set_option maxRecDepth 100000 in
set_option maxHeartbeats 4000000 in
theorem cb_X12_callsWord_L0 {D : DD} {ev : EV} {m z : Nat} {X0 : SM} {fu : Nat} {X : SM} {x1 : Int32} {x2 : Int32} {r : SM} (B : Amb D (foot (xS m X0 z)) ev RX12 "callsWord" cX12_callsWord 4 (none) rmX12_callsWord) (ht : Tb0 ev)  (h : fX12_callsWord fu X x1 x2 = some r) : Gd D (foot (xS m X0 z)) ev (QF D ev (xS m X0 z) (.inr (none)) (xS m r z) rmX12_callsWord) (xS m X z) 0 0 0 [(0, vA (some m)), (1, vI x1), (2, vI x2)] [] := by
  unfold fX12_callsWord at h
  refine g_aload_n (pc := 0) B dX12_callsWord_0 0 rfl ?_
  refine g_iload_n (pc := 1) B dX12_callsWord_1 1 rfl ?_
  refine g_iload_n (pc := 2) B dX12_callsWord_2 2 rfl ?_
  obtain ⟨v3, e3, h⟩ := ob h
  refine h_callV (pc := 3) (As := [vI x1, vI x2]) (st := []) (X' := (xS m X z)) (cs' := 0) (sl' := 0) (st10 := [vI v3]) B cal_X12_blockOf kmX12_188 kn_X12_blockOf ks_X12_blockOf hkS (by decide) rfl (fun l hl => ct_X12_blockOf hl e3) rfl (Nat.le_of_ble_eq_true rfl) (by decide) (by decide) dX12_callsWord_3 rfl rfl rfl rfl ?_
  refine g_istore_n (pc := 6) (L' := [(3, vI v3), (0, vA (some m)), (1, vI x1), (2, vI x2)]) B dX12_callsWord_6 (by decide) rfl ?_
  refine g_aload_n (pc := 7) B dX12_callsWord_7 1 rfl ?_
  refine g_iload_n (pc := 8) B dX12_callsWord_8 0 rfl ?_
  refine g_iconst (pc := 9) B dX12_callsWord_9 (-1) (by decide) ?_
  refine g_icmp_ne (pc := 10) (tgt := 17) B dX12_callsWord_10 (by decide) (fun c10 => ?_) (fun c10 => ?_)
  · rw [if_neg c10] at h
    refine g_aload_n (pc := 17) B dX12_callsWord_17 1 rfl ?_
    refine gs_get (pc := 18) 29 B (by decide) (by decide) kfX12_192 dX12_callsWord_18 ?_
    refine g_bipush (pc := 21) B dX12_callsWord_21 (8 : Int32) (by decide) ?_
    refine g_icmp_ne (pc := 23) (tgt := 30) B dX12_callsWord_23 (by decide) (fun c23 => ?_) (fun c23 => ?_)
    · rw [if_neg c23] at h
      refine g_iconst (pc := 30) B dX12_callsWord_30 (0 : Int32) (by decide) ?_
      refine g_sub (pc := 31) [1, 0] rfl ?_
      exact cb_X12_callsWord_L31 B ht h
    · rw [if_pos c23] at h
      refine g_iconst (pc := 26) B dX12_callsWord_26 (4 : Int32) (by decide) ?_
      refine g_goto (pc := 27) (tgt := 31) B dX12_callsWord_27 (by decide) ?_
      refine g_sub (pc := 31) [1, 0] rfl ?_
      exact cb_X12_callsWord_L31 B ht h
  · rw [if_pos c10] at h
    refine g_iconst (pc := 13) B dX12_callsWord_13 (5 : Int32) (by decide) ?_
    refine g_goto (pc := 14) (tgt := 31) B dX12_callsWord_14 (by decide) ?_
    refine g_sub (pc := 31) [1, 0] rfl ?_
    exact cb_X12_callsWord_L31 B ht h
theorem ct_X12_callsWord {D : DD} {l : Launch} {m z : Nat} {X0 : SM} {fu : Nat} {x1 : Int32} {x2 : Int32} {r : SM} (hl : l.stackTraces = false) (h : fX12_callsWord fu X0 x1 x2 = some r) : Ctr D l yX12_callsWord cX12_callsWord 4 (none) rmX12_callsWord [vA (some m), vI x1, vI x2] (xS m X0 z) (.inr (none)) (xS m r z) :=
  ctr_of hl (plainFor_of_name (by decide)) (Nat.le_of_ble_eq_true rfl) fun ev _ ht B => cb_X12_callsWord_L0 B ht h
set_option maxRecDepth 100000 in
set_option maxHeartbeats 4000000 in
theorem cb_X12_does_L227 {D : DD} {ev : EV} {m z : Nat} {X0 : SM} {fu : Nat} {X : SM} {s1 : Int32} {s2 : Int32} {r : SM} (B : Amb D (foot (xS m X0 z)) ev RX12 "does" cX12_does 6 (none) rmX12_does) (ht : Tb0 ev)  (h : fX12_does_L227 fu X s1 s2 = some r) : Gd D (foot (xS m X0 z)) ev (QF D ev (xS m X0 z) (.inr (none)) (xS m r z) rmX12_does) (xS m X z) 0 0 227 [] [vI s2, vI s1, vA (some (m + 1 + 15))] := by
  unfold fX12_does_L227 at h
  obtain ⟨c227, h⟩ := chk h
  refine gs_iast (pc := 227) B c227 dX12_does_227 ?_
  refine g_goto (pc := 228) (tgt := 286) B dX12_does_228 (by decide) ?_
  obtain rfl := Option.some.inj h
  exact g_ret_V (pc := 286) B rfl (by decide) (by decide) dX12_does_286
set_option maxRecDepth 100000 in
set_option maxHeartbeats 4000000 in
theorem cb_X12_does_L191 {D : DD} {ev : EV} {m z : Nat} {X0 : SM} {fu : Nat} {X : SM} {x2 : Int32} {x5 : Int32} {s1 : Int32} {r : SM} (B : Amb D (foot (xS m X0 z)) ev RX12 "does" cX12_does 6 (none) rmX12_does) (ht : Tb0 ev)  (h : fX12_does_L191 fu X x2 x5 s1 = some r) : Gd D (foot (xS m X0 z)) ev (QF D ev (xS m X0 z) (.inr (none)) (xS m r z) rmX12_does) (xS m X z) 0 0 191 [(0, vA (some m)), (2, vI x2), (5, vI x5)] [vI s1, vA (some m)] := by
  unfold fX12_does_L191 at h
  refine gs_put (pc := 191) 26 B (by decide) (by decide) rfl kfX12_154 dX12_does_191 ?_
  refine g_aload_n (pc := 194) B dX12_does_194 0 rfl ?_
  refine gs_arr (pc := 195) 20 15 B (by decide) (by decide) kfX12_56 dX12_does_195 ?_
  refine g_aload_n (pc := 198) B dX12_does_198 0 rfl ?_
  refine gs_arr (pc := 199) 12 7 B (by decide) (by decide) kfX12_32 dX12_does_199 ?_
  refine g_iload_n (pc := 202) B dX12_does_202 1 rfl ?_
  obtain ⟨c203, h⟩ := chk h
  refine gs_iald (pc := 203) B c203 dX12_does_203 ?_
  refine g_aload_n (pc := 204) B dX12_does_204 0 rfl ?_
  refine gs_get (pc := 205) 26 B (by decide) (by decide) kfX12_154 dX12_does_205 ?_
  refine g_if_ne (pc := 208) (tgt := 216) B dX12_does_208 (by decide) (fun c208 => ?_) (fun c208 => ?_)
  · rw [if_neg c208] at h
    refine g_aload_n (pc := 216) B dX12_does_216 0 rfl ?_
    refine gs_arr (pc := 217) 20 15 B (by decide) (by decide) kfX12_56 dX12_does_217 ?_
    refine g_aload_n (pc := 220) B dX12_does_220 0 rfl ?_
    refine gs_arr (pc := 221) 12 7 B (by decide) (by decide) kfX12_32 dX12_does_221 ?_
    refine g_iload_n (pc := 224) B dX12_does_224 1 rfl ?_
    obtain ⟨c225, h⟩ := chk h
    refine gs_iald (pc := 225) B c225 dX12_does_225 ?_
    obtain ⟨c226, h⟩ := chk h
    refine gs_iald (pc := 226) B c226 dX12_does_226 ?_
    refine g_sub (pc := 227) [] rfl ?_
    exact cb_X12_does_L227 B ht h
  · rw [if_pos c208] at h
    refine g_iload (pc := 211) B dX12_does_211 2 rfl ?_
    refine g_goto (pc := 213) (tgt := 227) B dX12_does_213 (by decide) ?_
    refine g_sub (pc := 227) [] rfl ?_
    exact cb_X12_does_L227 B ht h
set_option maxRecDepth 100000 in
set_option maxHeartbeats 4000000 in
theorem cb_X12_does_L169 {D : DD} {ev : EV} {m z : Nat} {X0 : SM} {fu : Nat} {X : SM} {x2 : Int32} {s0 : Int32} {r : SM} (B : Amb D (foot (xS m X0 z)) ev RX12 "does" cX12_does 6 (none) rmX12_does) (ht : Tb0 ev)  (h : fX12_does_L169 fu X x2 s0 = some r) : Gd D (foot (xS m X0 z)) ev (QF D ev (xS m X0 z) (.inr (none)) (xS m r z) rmX12_does) (xS m X z) 0 0 169 [(0, vA (some m)), (2, vI x2)] [vI s0] := by
  unfold fX12_does_L169 at h
  refine g_istore (pc := 169) (L' := [(5, vI s0), (0, vA (some m)), (2, vI x2)]) B dX12_does_169 (by decide) rfl ?_
  refine g_aload_n (pc := 171) B dX12_does_171 1 rfl ?_
  refine g_iload (pc := 172) B dX12_does_172 0 rfl ?_
  refine g_sipush (pc := 174) B dX12_does_174 (-999) (by decide) ?_
  refine g_sipush (pc := 177) B dX12_does_177 (999 : Int32) (by decide) ?_
  obtain ⟨v180, e180, h⟩ := ob h
  refine h_callS (pc := 180) (As := [vI s0, vI (-999), vI (999 : Int32)]) (st := [vA (some m)]) (X' := (xS m X z)) (cs' := 0) (sl' := 0) (st10 := [vI v180, vA (some m)]) B cal_X12_isIn kmX12_115 kz_X12_isIn (fun l hl => ct_X12_isIn hl e180) rfl (Nat.le_of_ble_eq_true rfl) (by decide) (by decide) dX12_does_180 rfl rfl rfl rfl ?_
  refine g_if_eq (pc := 183) (tgt := 190) B dX12_does_183 (by decide) (fun c183 => ?_) (fun c183 => ?_)
  · rw [if_pos c183] at h
    refine g_iconst (pc := 190) B dX12_does_190 (3 : Int32) (by decide) ?_
    refine g_sub (pc := 191) [1, 2, 0] rfl ?_
    exact cb_X12_does_L191 B ht h
  · rw [if_neg c183] at h
    refine g_iconst (pc := 186) B dX12_does_186 (0 : Int32) (by decide) ?_
    refine g_goto (pc := 187) (tgt := 191) B dX12_does_187 (by decide) ?_
    refine g_sub (pc := 191) [1, 2, 0] rfl ?_
    exact cb_X12_does_L191 B ht h
set_option maxRecDepth 100000 in
set_option maxHeartbeats 4000000 in
theorem cb_X12_does_L146 {D : DD} {ev : EV} {m z : Nat} {X0 : SM} {fu : Nat} {X : SM} {x2 : Int32} {x3 : Int32} {x4 : Int32} {r : SM} (B : Amb D (foot (xS m X0 z)) ev RX12 "does" cX12_does 6 (none) rmX12_does) (ht : Tb0 ev)  (h : fX12_does_L146 fu X x2 x3 x4 = some r) : Gd D (foot (xS m X0 z)) ev (QF D ev (xS m X0 z) (.inr (none)) (xS m r z) rmX12_does) (xS m X z) 0 0 146 [(0, vA (some m)), (2, vI x2), (3, vI x3), (4, vI x4)] [] := by
  unfold fX12_does_L146 at h
  refine g_iload (pc := 146) B dX12_does_146 3 rfl ?_
  refine g_iconst (pc := 148) B dX12_does_148 (3 : Int32) (by decide) ?_
  refine g_icmp_ne (pc := 149) (tgt := 156) B dX12_does_149 (by decide) (fun c149 => ?_) (fun c149 => ?_)
  · rw [if_neg c149] at h
    refine g_aload_n (pc := 156) B dX12_does_156 0 rfl ?_
    refine gs_arr (pc := 157) 20 15 B (by decide) (by decide) kfX12_56 dX12_does_157 ?_
    refine g_aload_n (pc := 160) B dX12_does_160 0 rfl ?_
    refine gs_arr (pc := 161) 12 7 B (by decide) (by decide) kfX12_32 dX12_does_161 ?_
    refine g_iload_n (pc := 164) B dX12_does_164 1 rfl ?_
    obtain ⟨c165, h⟩ := chk h
    refine gs_iald (pc := 165) B c165 dX12_does_165 ?_
    obtain ⟨c166, h⟩ := chk h
    refine gs_iald (pc := 166) B c166 dX12_does_166 ?_
    refine g_iload_n (pc := 167) B dX12_does_167 2 rfl ?_
    refine g_iadd (pc := 168) B dX12_does_168 ?_
    refine g_sub (pc := 169) [0, 1] rfl ?_
    exact cb_X12_does_L169 B ht h
  · rw [if_pos c149] at h
    refine g_iload_n (pc := 152) B dX12_does_152 2 rfl ?_
    refine g_goto (pc := 153) (tgt := 169) B dX12_does_153 (by decide) ?_
    refine g_sub (pc := 169) [0, 1] rfl ?_
    exact cb_X12_does_L169 B ht h
set_option maxRecDepth 100000 in
set_option maxHeartbeats 4000000 in
theorem cb_X12_does_L257 {D : DD} {ev : EV} {m z : Nat} {X0 : SM} {fu : Nat} {X : SM} {x1 : Int32} {x2 : Int32} {x3 : Int32} {x4 : Int32} {r : SM} (B : Amb D (foot (xS m X0 z)) ev RX12 "does" cX12_does 6 (none) rmX12_does) (ht : Tb0 ev)  (h : fX12_does_L257 fu X x1 x2 x3 x4 = some r) : Gd D (foot (xS m X0 z)) ev (QF D ev (xS m X0 z) (.inr (none)) (xS m r z) rmX12_does) (xS m X z) 0 0 257 [(0, vA (some m)), (1, vI x1), (2, vI x2), (3, vI x3), (4, vI x4)] [] := by
  unfold fX12_does_L257 at h
  refine g_iload (pc := 257) B dX12_does_257 4 rfl ?_
  refine g_iconst (pc := 259) B dX12_does_259 (5 : Int32) (by decide) ?_
  refine g_icmp_ne (pc := 260) (tgt := 275) B dX12_does_260 (by decide) (fun c260 => ?_) (fun c260 => ?_)
  · rw [if_neg c260] at h
    refine g_aload_n (pc := 275) B dX12_does_275 0 rfl ?_
    refine g_iload_n (pc := 276) B dX12_does_276 1 rfl ?_
    refine g_aload_n (pc := 277) B dX12_does_277 0 rfl ?_
    refine gs_arr (pc := 278) 12 7 B (by decide) (by decide) kfX12_32 dX12_does_278 ?_
    refine g_iload_n (pc := 281) B dX12_does_281 2 rfl ?_
    obtain ⟨c282, h⟩ := chk h
    refine gs_iald (pc := 282) B c282 dX12_does_282 ?_
    obtain ⟨X283, e283, h⟩ := ob h
    refine h_callV (pc := 283) (As := [vI x1, vI (ar X 7 x2.toNatClampNeg)]) (st := []) (X' := (xS m X283 z)) (cs' := 0) (sl' := 0) (st10 := []) B cal_X12_callsWord kmX12_208 kn_X12_callsWord ks_X12_callsWord hkS (by decide) rfl (fun l hl => ct_X12_callsWord hl e283) rfl (Nat.le_of_ble_eq_true rfl) (by decide) (by decide) dX12_does_283 rfl rfl rfl rfl ?_
    obtain rfl := Option.some.inj h
    exact g_ret_V (pc := 286) B rfl (by decide) (by decide) dX12_does_286
  · rw [if_pos c260] at h
    refine g_aload_n (pc := 263) B dX12_does_263 0 rfl ?_
    refine g_aload_n (pc := 264) B dX12_does_264 0 rfl ?_
    refine gs_get (pc := 265) 27 B (by decide) (by decide) kfX12_195 dX12_does_265 ?_
    refine g_iload_n (pc := 268) B dX12_does_268 3 rfl ?_
    obtain ⟨X269, e269, h⟩ := ob h
    refine h_callV (pc := 269) (As := [vI (sc X 27), vI x3]) (st := []) (X' := (xS m X269 z)) (cs' := 0) (sl' := 0) (st10 := []) B cal_X12_enters kmX12_198 kn_X12_enters ks_X12_enters hkS (by decide) rfl (fun l hl => ct_X12_enters hl e269) rfl (Nat.le_of_ble_eq_true rfl) (by decide) (by decide) dX12_does_269 rfl rfl rfl rfl ?_
    refine g_goto (pc := 272) (tgt := 286) B dX12_does_272 (by decide) ?_
    obtain rfl := Option.some.inj h
    exact g_ret_V (pc := 286) B rfl (by decide) (by decide) dX12_does_286
set_option maxRecDepth 100000 in
set_option maxHeartbeats 4000000 in
theorem cb_X12_does_L128 {D : DD} {ev : EV} {m z : Nat} {X0 : SM} {fu : Nat} {X : SM} {s1 : Int32} {r : SM} (B : Amb D (foot (xS m X0 z)) ev RX12 "does" cX12_does 6 (none) rmX12_does) (ht : Tb0 ev)  (h : fX12_does_L128 fu X s1 = some r) : Gd D (foot (xS m X0 z)) ev (QF D ev (xS m X0 z) (.inr (none)) (xS m r z) rmX12_does) (xS m X z) 0 0 128 [] [vI s1, vA (some m)] := by
  unfold fX12_does_L128 at h
  obtain ⟨z128, h⟩ := chk h
  refine gs_putZ (pc := 128) 24 B (by decide) (by decide) rfl z128 kfX12_177 dX12_does_128 ?_
  refine g_goto (pc := 131) (tgt := 286) B dX12_does_131 (by decide) ?_
  obtain rfl := Option.some.inj h
  exact g_ret_V (pc := 286) B rfl (by decide) (by decide) dX12_does_286
set_option maxRecDepth 100000 in
set_option maxHeartbeats 4000000 in
theorem cb_X12_does_L59b {D : DD} {ev : EV} {m z : Nat} {X0 : SM} {fu : Nat} {rec59 : SM → Int32 → Int32 → Int32 → Option (SM)} {X : SM} {x1 : Int32} {x3 : Int32} {x5 : Int32} {r : SM} (B : Amb D (foot (xS m X0 z)) ev RX12 "does" cX12_does 6 (none) rmX12_does) (ht : Tb0 ev) (hrec59 : ∀ {X : SM} {x1 : Int32} {x3 : Int32} {x5 : Int32} {r : SM}, rec59 X x1 x3 x5 = some r → Gd D (foot (xS m X0 z)) ev (QF D ev (xS m X0 z) (.inr (none)) (xS m r z) rmX12_does) (xS m X z) 0 0 59 [(0, vA (some m)), (1, vI x1), (3, vI x3), (5, vI x5)] []) (h : fX12_does_L59b fu rec59 X x1 x3 x5 = some r) : Gd D (foot (xS m X0 z)) ev (QF D ev (xS m X0 z) (.inr (none)) (xS m r z) rmX12_does) (xS m X z) 0 0 59 [(0, vA (some m)), (1, vI x1), (3, vI x3), (5, vI x5)] [] := by
  unfold fX12_does_L59b at h
  refine g_iload (pc := 59) B dX12_does_59 3 rfl ?_
  refine g_iload_n (pc := 61) B dX12_does_61 2 rfl ?_
  refine g_icmp_ge (pc := 62) (tgt := 83) B dX12_does_62 (by decide) (fun c62 => ?_) (fun c62 => ?_)
  · rw [if_pos c62] at h
    refine g_goto (pc := 83) (tgt := 286) B dX12_does_83 (by decide) ?_
    obtain rfl := Option.some.inj h
    exact g_ret_V (pc := 286) B rfl (by decide) (by decide) dX12_does_286
  · rw [if_neg c62] at h
    refine g_aload_n (pc := 65) B dX12_does_65 0 rfl ?_
    refine gs_get (pc := 66) 26 B (by decide) (by decide) kfX12_154 dX12_does_66 ?_
    refine g_if_ne (pc := 69) (tgt := 83) B dX12_does_69 (by decide) (fun c69 => ?_) (fun c69 => ?_)
    · rw [if_neg c69] at h
      refine g_goto (pc := 83) (tgt := 286) B dX12_does_83 (by decide) ?_
      obtain rfl := Option.some.inj h
      exact g_ret_V (pc := 286) B rfl (by decide) (by decide) dX12_does_286
    · rw [if_pos c69] at h
      refine g_aload_n (pc := 72) B dX12_does_72 0 rfl ?_
      refine g_iload_n (pc := 73) B dX12_does_73 1 rfl ?_
      obtain ⟨X74, e74, h⟩ := ob h
      refine h_callV (pc := 74) (As := [vI x1]) (st := []) (X' := (xS m X74 z)) (cs' := 0) (sl' := 0) (st10 := []) B cal_X12_goes kmX12_202 kn_X12_goes ks_X12_goes hkS (by decide) rfl (fun l hl => ct_X12_goes hl e74) rfl (Nat.le_of_ble_eq_true rfl) (by decide) (by decide) dX12_does_74 rfl rfl rfl rfl ?_
      refine g_iinc (pc := 77) (v := (x5 + (1 : Int32))) (L' := [(5, vI (x5 + (1 : Int32))), (0, vA (some m)), (1, vI x1), (3, vI x3)]) B dX12_does_77 (by decide) 3 rfl rfl rfl ?_
      refine g_goto (pc := 80) (tgt := 59) B dX12_does_80 (by decide) ?_
      refine g_sub (pc := 59) [1, 2, 3, 0] rfl ?_
      exact hrec59 h
theorem cb_X12_does_L59n {D : DD} {ev : EV} {m z : Nat} {X0 : SM} {fu : Nat} (B : Amb D (foot (xS m X0 z)) ev RX12 "does" cX12_does 6 (none) rmX12_does) (ht : Tb0 ev)  : ∀ (n : Nat) {X : SM} {x1 : Int32} {x3 : Int32} {x5 : Int32} {r : SM}, fX12_does_L59 fu n X x1 x3 x5 = some r → Gd D (foot (xS m X0 z)) ev (QF D ev (xS m X0 z) (.inr (none)) (xS m r z) rmX12_does) (xS m X z) 0 0 59 [(0, vA (some m)), (1, vI x1), (3, vI x3), (5, vI x5)] [] := by
  intro n
  induction n with
  | zero => intro X x1 x3 x5 r h; exact nomatch h
  | succ n ih => intro X x1 x3 x5 r h; exact cb_X12_does_L59b (fu := fu) B ht (fun h9 => ih h9) h
theorem cb_X12_does_L59 {D : DD} {ev : EV} {m z : Nat} {X0 : SM} {fu : Nat} {X : SM} {x1 : Int32} {x3 : Int32} {x5 : Int32} {n : Nat} {r : SM} (B : Amb D (foot (xS m X0 z)) ev RX12 "does" cX12_does 6 (none) rmX12_does) (ht : Tb0 ev)  (h : fX12_does_L59 fu n X x1 x3 x5 = some r) : Gd D (foot (xS m X0 z)) ev (QF D ev (xS m X0 z) (.inr (none)) (xS m r z) rmX12_does) (xS m X z) 0 0 59 [(0, vA (some m)), (1, vI x1), (3, vI x3), (5, vI x5)] [] := cb_X12_does_L59n B ht n h
set_option maxRecDepth 100000 in
set_option maxHeartbeats 4000000 in
theorem cb_X12_does_L53 {D : DD} {ev : EV} {m z : Nat} {X0 : SM} {fu : Nat} {X : SM} {x1 : Int32} {x3 : Int32} {s1 : Int32} {r : SM} (B : Amb D (foot (xS m X0 z)) ev RX12 "does" cX12_does 6 (none) rmX12_does) (ht : Tb0 ev)  (h : fX12_does_L53 fu X x1 x3 s1 = some r) : Gd D (foot (xS m X0 z)) ev (QF D ev (xS m X0 z) (.inr (none)) (xS m r z) rmX12_does) (xS m X z) 0 0 53 [(0, vA (some m)), (1, vI x1), (3, vI x3)] [vI s1, vA (some m)] := by
  unfold fX12_does_L53 at h
  refine gs_put (pc := 53) 26 B (by decide) (by decide) rfl kfX12_154 dX12_does_53 ?_
  refine g_iconst (pc := 56) B dX12_does_56 (0 : Int32) (by decide) ?_
  refine g_istore (pc := 57) (L' := [(5, vI (0 : Int32)), (0, vA (some m)), (1, vI x1), (3, vI x3)]) B dX12_does_57 (by decide) rfl ?_
  refine g_sub (pc := 59) [1, 2, 3, 0] rfl ?_
  exact cb_X12_does_L59 B ht h
set_option maxRecDepth 100000 in
set_option maxHeartbeats 4000000 in
theorem cb_X12_does_L29 {D : DD} {ev : EV} {m z : Nat} {X0 : SM} {fu : Nat} {X : SM} {x1 : Int32} {x2 : Int32} {s0 : Int32} {r : SM} (B : Amb D (foot (xS m X0 z)) ev RX12 "does" cX12_does 6 (none) rmX12_does) (ht : Tb0 ev)  (h : fX12_does_L29 fu X x1 x2 s0 = some r) : Gd D (foot (xS m X0 z)) ev (QF D ev (xS m X0 z) (.inr (none)) (xS m r z) rmX12_does) (xS m X z) 0 0 29 [(0, vA (some m)), (1, vI x1), (2, vI x2)] [vI s0] := by
  unfold fX12_does_L29 at h
  refine g_istore_n (pc := 29) (L' := [(3, vI s0), (0, vA (some m)), (1, vI x1), (2, vI x2)]) B dX12_does_29 (by decide) rfl ?_
  refine g_aload_n (pc := 30) B dX12_does_30 1 rfl ?_
  refine gs_arr (pc := 31) 11 6 B (by decide) (by decide) kfX12_29 dX12_does_31 ?_
  refine g_iload_n (pc := 34) B dX12_does_34 3 rfl ?_
  obtain ⟨c35, h⟩ := chk h
  refine gs_iald (pc := 35) B c35 dX12_does_35 ?_
  refine g_istore (pc := 36) (L' := [(4, vI (ar X 6 x2.toNatClampNeg)), (3, vI s0), (0, vA (some m)), (1, vI x1), (2, vI x2)]) B dX12_does_36 (by decide) rfl ?_
  refine g_iload (pc := 38) B dX12_does_38 0 rfl ?_
  refine g_if_ne (pc := 40) (tgt := 86) B dX12_does_40 (by decide) (fun c40 => ?_) (fun c40 => ?_)
  · rw [if_neg c40] at h
    refine g_iload (pc := 86) B dX12_does_86 0 rfl ?_
    refine g_iconst (pc := 88) B dX12_does_88 (1 : Int32) (by decide) ?_
    refine g_icmp_ne (pc := 89) (tgt := 111) B dX12_does_89 (by decide) (fun c89 => ?_) (fun c89 => ?_)
    · rw [if_neg c89] at h
      refine g_iload (pc := 111) B dX12_does_111 0 rfl ?_
      refine g_iconst (pc := 113) B dX12_does_113 (2 : Int32) (by decide) ?_
      refine g_icmp_ne (pc := 114) (tgt := 134) B dX12_does_114 (by decide) (fun c114 => ?_) (fun c114 => ?_)
      · rw [if_neg c114] at h
        refine g_iload (pc := 134) B dX12_does_134 0 rfl ?_
        refine g_iconst (pc := 136) B dX12_does_136 (3 : Int32) (by decide) ?_
        refine g_icmp_eq (pc := 137) (tgt := 146) B dX12_does_137 (by decide) (fun c137 => ?_) (fun c137 => ?_)
        · rw [if_pos c137] at h
          refine g_sub (pc := 146) [2, 4, 1, 0] rfl ?_
          exact cb_X12_does_L146 B ht h
        · rw [if_neg c137] at h
          refine g_iload (pc := 140) B dX12_does_140 0 rfl ?_
          refine g_iconst (pc := 142) B dX12_does_142 (4 : Int32) (by decide) ?_
          refine g_icmp_ne (pc := 143) (tgt := 231) B dX12_does_143 (by decide) (fun c143 => ?_) (fun c143 => ?_)
          · rw [if_neg c143] at h
            refine g_iload (pc := 231) B dX12_does_231 0 rfl ?_
            refine g_iconst (pc := 233) B dX12_does_233 (5 : Int32) (by decide) ?_
            refine g_icmp_ne (pc := 234) (tgt := 257) B dX12_does_234 (by decide) (fun c234 => ?_) (fun c234 => ?_)
            · rw [if_neg c234] at h
              refine g_sub (pc := 257) [2, 3, 4, 1, 0] rfl ?_
              exact cb_X12_does_L257 B ht h
            · rw [if_pos c234] at h
              refine g_iload_n (pc := 237) B dX12_does_237 1 rfl ?_
              refine g_if_gt (pc := 238) (tgt := 257) B dX12_does_238 (by decide) (fun c238 => ?_) (fun c238 => ?_)
              · rw [if_pos c238] at h
                refine g_sub (pc := 257) [2, 3, 4, 1, 0] rfl ?_
                exact cb_X12_does_L257 B ht h
              · rw [if_neg c238] at h
                refine g_aload_n (pc := 241) B dX12_does_241 2 rfl ?_
                refine g_aload_n (pc := 242) B dX12_does_242 2 rfl ?_
                refine g_iload_n (pc := 243) B dX12_does_243 3 rfl ?_
                refine g_aload_n (pc := 244) B dX12_does_244 2 rfl ?_
                refine gs_get (pc := 245) 27 B (by decide) (by decide) kfX12_195 dX12_does_245 ?_
                obtain ⟨v248, e248, h⟩ := ob h
                refine h_callV (pc := 248) (As := [vI x1, vI (sc X 27)]) (st := [vA (some m)]) (X' := (xS m X z)) (cs' := 0) (sl' := 0) (st10 := [vI v248, vA (some m)]) B cal_X12_endOf kmX12_205 kn_X12_endOf ks_X12_endOf hkS (by decide) rfl (fun l hl => ct_X12_endOf hl e248) rfl (Nat.le_of_ble_eq_true rfl) (by decide) (by decide) dX12_does_248 rfl rfl rfl rfl ?_
                refine gs_put (pc := 251) 27 B (by decide) (by decide) rfl kfX12_195 dX12_does_251 ?_
                refine g_goto (pc := 254) (tgt := 286) B dX12_does_254 (by decide) ?_
                obtain rfl := Option.some.inj h
                exact g_ret_V (pc := 286) B rfl (by decide) (by decide) dX12_does_286
          · rw [if_pos c143] at h
            refine g_sub (pc := 146) [2, 4, 1, 0] rfl ?_
            exact cb_X12_does_L146 B ht h
      · rw [if_pos c114] at h
        refine g_aload_n (pc := 117) B dX12_does_117 2 rfl ?_
        refine g_iload_n (pc := 118) B dX12_does_118 1 rfl ?_
        refine g_iconst (pc := 119) B dX12_does_119 (1 : Int32) (by decide) ?_
        refine g_icmp_ne (pc := 120) (tgt := 127) B dX12_does_120 (by decide) (fun c120 => ?_) (fun c120 => ?_)
        · rw [if_neg c120] at h
          refine g_iconst (pc := 127) B dX12_does_127 (0 : Int32) (by decide) ?_
          refine g_sub (pc := 128) [] rfl ?_
          exact cb_X12_does_L128 B ht h
        · rw [if_pos c120] at h
          refine g_iconst (pc := 123) B dX12_does_123 (1 : Int32) (by decide) ?_
          refine g_goto (pc := 124) (tgt := 128) B dX12_does_124 (by decide) ?_
          refine g_sub (pc := 128) [] rfl ?_
          exact cb_X12_does_L128 B ht h
    · rw [if_pos c89] at h
      refine g_aload_n (pc := 92) B dX12_does_92 2 rfl ?_
      refine g_aload_n (pc := 93) B dX12_does_93 2 rfl ?_
      refine gs_get (pc := 94) 23 B (by decide) (by decide) kfX12_166 dX12_does_94 ?_
      refine g_iload_n (pc := 97) B dX12_does_97 1 rfl ?_
      refine g_iadd (pc := 98) B dX12_does_98 ?_
      refine g_iconst (pc := 99) B dX12_does_99 (4 : Int32) (by decide) ?_
      refine g_irem (pc := 100) B dX12_does_100 (by decide) ?_
      refine g_iconst (pc := 101) B dX12_does_101 (4 : Int32) (by decide) ?_
      refine g_iadd (pc := 102) B dX12_does_102 ?_
      refine g_iconst (pc := 103) B dX12_does_103 (4 : Int32) (by decide) ?_
      refine g_irem (pc := 104) B dX12_does_104 (by decide) ?_
      refine gs_put (pc := 105) 23 B (by decide) (by decide) rfl kfX12_166 dX12_does_105 ?_
      refine g_goto (pc := 108) (tgt := 286) B dX12_does_108 (by decide) ?_
      obtain rfl := Option.some.inj h
      exact g_ret_V (pc := 286) B rfl (by decide) (by decide) dX12_does_286
  · rw [if_pos c40] at h
    refine g_aload_n (pc := 43) B dX12_does_43 2 rfl ?_
    refine g_iload_n (pc := 44) B dX12_does_44 1 rfl ?_
    refine g_if_ge (pc := 45) (tgt := 52) B dX12_does_45 (by decide) (fun c45 => ?_) (fun c45 => ?_)
    · rw [if_pos c45] at h
      refine g_iconst (pc := 52) B dX12_does_52 (0 : Int32) (by decide) ?_
      refine g_sub (pc := 53) [2, 3, 1] rfl ?_
      exact cb_X12_does_L53 B ht h
    · rw [if_neg c45] at h
      refine g_iconst (pc := 48) B dX12_does_48 (3 : Int32) (by decide) ?_
      refine g_goto (pc := 49) (tgt := 53) B dX12_does_49 (by decide) ?_
      refine g_sub (pc := 53) [2, 3, 1] rfl ?_
      exact cb_X12_does_L53 B ht h
set_option maxRecDepth 100000 in
set_option maxHeartbeats 4000000 in
theorem cb_X12_does_L0 {D : DD} {ev : EV} {m z : Nat} {X0 : SM} {fu : Nat} {X : SM} {x1 : Int32} {x2 : Int32} {r : SM} (B : Amb D (foot (xS m X0 z)) ev RX12 "does" cX12_does 6 (none) rmX12_does) (ht : Tb0 ev)  (h : fX12_does fu X x1 x2 = some r) : Gd D (foot (xS m X0 z)) ev (QF D ev (xS m X0 z) (.inr (none)) (xS m r z) rmX12_does) (xS m X z) 0 0 0 [(0, vA (some m)), (1, vI x1), (2, vI x2)] [] := by
  unfold fX12_does at h
  refine g_aload_n (pc := 0) B dX12_does_0 0 rfl ?_
  refine gs_arr (pc := 1) 14 9 B (by decide) (by decide) kfX12_38 dX12_does_1 ?_
  refine g_iload_n (pc := 4) B dX12_does_4 2 rfl ?_
  obtain ⟨c5, h⟩ := chk h
  refine gs_zald (pc := 5) B c5 dX12_does_5 ?_
  refine g_if_eq (pc := 6) (tgt := 23) B dX12_does_6 (by decide) (fun c6 => ?_) (fun c6 => ?_)
  · rw [if_pos c6] at h
    refine g_aload_n (pc := 23) B dX12_does_23 0 rfl ?_
    refine gs_arr (pc := 24) 13 8 B (by decide) (by decide) kfX12_35 dX12_does_24 ?_
    refine g_iload_n (pc := 27) B dX12_does_27 2 rfl ?_
    obtain ⟨c28, h⟩ := chk h
    refine gs_iald (pc := 28) B c28 dX12_does_28 ?_
    refine g_sub (pc := 29) [0, 1, 2] rfl ?_
    exact cb_X12_does_L29 B ht h
  · rw [if_neg c6] at h
    refine g_aload_n (pc := 9) B dX12_does_9 0 rfl ?_
    refine gs_arr (pc := 10) 20 15 B (by decide) (by decide) kfX12_56 dX12_does_10 ?_
    refine g_aload_n (pc := 13) B dX12_does_13 0 rfl ?_
    refine gs_arr (pc := 14) 13 8 B (by decide) (by decide) kfX12_35 dX12_does_14 ?_
    refine g_iload_n (pc := 17) B dX12_does_17 2 rfl ?_
    obtain ⟨c18, h⟩ := chk h
    refine gs_iald (pc := 18) B c18 dX12_does_18 ?_
    obtain ⟨c19, h⟩ := chk h
    refine gs_iald (pc := 19) B c19 dX12_does_19 ?_
    refine g_goto (pc := 20) (tgt := 29) B dX12_does_20 (by decide) ?_
    refine g_sub (pc := 29) [0, 1, 2] rfl ?_
    exact cb_X12_does_L29 B ht h
theorem ct_X12_does {D : DD} {l : Launch} {m z : Nat} {X0 : SM} {fu : Nat} {x1 : Int32} {x2 : Int32} {r : SM} (hl : l.stackTraces = false) (h : fX12_does fu X0 x1 x2 = some r) : Ctr D l yX12_does cX12_does 6 (none) rmX12_does [vA (some m), vI x1, vI x2] (xS m X0 z) (.inr (none)) (xS m r z) :=
  ctr_of hl (plainFor_of_name (by decide)) (Nat.le_of_ble_eq_true rfl) fun ev _ ht B => cb_X12_does_L0 B ht h
set_option maxRecDepth 100000 in
set_option maxHeartbeats 4000000 in
theorem cb_X12_runs_L93 {D : DD} {ev : EV} {m z : Nat} {X0 : SM} {fu : Nat} {rec5 : SM → Int32 → Option (SM)} {X : SM} {x1 : Int32} {r : SM} (B : Amb D (foot (xS m X0 z)) ev RX12 "runs" cX12_runs 3 (none) rmX12_runs) (ht : Tb0 ev) (hrec5 : ∀ {X : SM} {x1 : Int32} {r : SM}, rec5 X x1 = some r → Gd D (foot (xS m X0 z)) ev (QF D ev (xS m X0 z) (.inr (none)) (xS m r z) rmX12_runs) (xS m X z) 0 0 5 [(0, vA (some m)), (1, vI x1)] []) (h : fX12_runs_L93 fu rec5 X x1 = some r) : Gd D (foot (xS m X0 z)) ev (QF D ev (xS m X0 z) (.inr (none)) (xS m r z) rmX12_runs) (xS m X z) 0 0 93 [(0, vA (some m)), (1, vI x1)] [] := by
  unfold fX12_runs_L93 at h
  refine g_aload_n (pc := 93) B dX12_runs_93 0 rfl ?_
  refine g_dup (pc := 94) B dX12_runs_94 rfl ?_
  refine gs_get (pc := 95) 27 B (by decide) (by decide) kfX12_195 dX12_runs_95 ?_
  refine g_iconst (pc := 98) B dX12_runs_98 (1 : Int32) (by decide) ?_
  refine g_iadd (pc := 99) B dX12_runs_99 ?_
  refine gs_put (pc := 100) 27 B (by decide) (by decide) rfl kfX12_195 dX12_runs_100 ?_
  refine g_goto (pc := 103) (tgt := 5) B dX12_runs_103 (by decide) ?_
  refine g_sub (pc := 5) [0, 1] rfl ?_
  exact hrec5 h
set_option maxRecDepth 100000 in
set_option maxHeartbeats 4000000 in
theorem cb_X12_runs_L5b {D : DD} {ev : EV} {m z : Nat} {X0 : SM} {fu : Nat} {rec5 : SM → Int32 → Option (SM)} {X : SM} {x1 : Int32} {r : SM} (B : Amb D (foot (xS m X0 z)) ev RX12 "runs" cX12_runs 3 (none) rmX12_runs) (ht : Tb0 ev) (hrec5 : ∀ {X : SM} {x1 : Int32} {r : SM}, rec5 X x1 = some r → Gd D (foot (xS m X0 z)) ev (QF D ev (xS m X0 z) (.inr (none)) (xS m r z) rmX12_runs) (xS m X z) 0 0 5 [(0, vA (some m)), (1, vI x1)] []) (h : fX12_runs_L5b fu rec5 X x1 = some r) : Gd D (foot (xS m X0 z)) ev (QF D ev (xS m X0 z) (.inr (none)) (xS m r z) rmX12_runs) (xS m X z) 0 0 5 [(0, vA (some m)), (1, vI x1)] [] := by
  unfold fX12_runs_L5b at h
  refine g_aload_n (pc := 5) B dX12_runs_5 0 rfl ?_
  refine gs_get (pc := 6) 27 B (by decide) (by decide) kfX12_195 dX12_runs_6 ?_
  refine g_aload_n (pc := 9) B dX12_runs_9 0 rfl ?_
  refine gs_arr (pc := 10) 10 5 B (by decide) (by decide) kfX12_26 dX12_runs_10 ?_
  refine g_iload_n (pc := 13) B dX12_runs_13 1 rfl ?_
  obtain ⟨c14, h⟩ := chk h
  refine gs_iald (pc := 14) B c14 dX12_runs_14 ?_
  refine g_icmp_ge (pc := 15) (tgt := 106) B dX12_runs_15 (by decide) (fun c15 => ?_) (fun c15 => ?_)
  · rw [if_pos c15] at h
    obtain rfl := Option.some.inj h
    exact g_ret_V (pc := 106) B rfl (by decide) (by decide) dX12_runs_106
  · rw [if_neg c15] at h
    refine g_aload_n (pc := 18) B dX12_runs_18 0 rfl ?_
    refine gs_get (pc := 19) 26 B (by decide) (by decide) kfX12_154 dX12_runs_19 ?_
    refine g_if_ne (pc := 22) (tgt := 106) B dX12_runs_22 (by decide) (fun c22 => ?_) (fun c22 => ?_)
    · rw [if_neg c22] at h
      obtain rfl := Option.some.inj h
      exact g_ret_V (pc := 106) B rfl (by decide) (by decide) dX12_runs_106
    · rw [if_pos c22] at h
      refine g_bipush (pc := 25) B dX12_runs_25 (30 : Int32) (by decide) ?_
      refine g_iload_n (pc := 27) B dX12_runs_27 1 rfl ?_
      refine g_imul (pc := 28) B dX12_runs_28 ?_
      refine g_aload_n (pc := 29) B dX12_runs_29 0 rfl ?_
      refine gs_get (pc := 30) 27 B (by decide) (by decide) kfX12_195 dX12_runs_30 ?_
      refine g_iadd (pc := 33) B dX12_runs_33 ?_
      refine g_istore_n (pc := 34) (L' := [(2, vI (((30 : Int32) * x1) + (sc X 27))), (0, vA (some m)), (1, vI x1)]) B dX12_runs_34 (by decide) rfl ?_
      refine g_aload_n (pc := 35) B dX12_runs_35 1 rfl ?_
      refine gs_arr (pc := 36) 11 6 B (by decide) (by decide) kfX12_29 dX12_runs_36 ?_
      refine g_iload_n (pc := 39) B dX12_runs_39 0 rfl ?_
      obtain ⟨c40, h⟩ := chk h
      refine gs_iald (pc := 40) B c40 dX12_runs_40 ?_
      refine g_bipush (pc := 41) B dX12_runs_41 (6 : Int32) (by decide) ?_
      refine g_icmp_ne (pc := 43) (tgt := 62) B dX12_runs_43 (by decide) (fun c43 => ?_) (fun c43 => ?_)
      · rw [if_neg c43] at h
        refine g_aload_n (pc := 62) B dX12_runs_62 1 rfl ?_
        refine gs_arr (pc := 63) 11 6 B (by decide) (by decide) kfX12_29 dX12_runs_63 ?_
        refine g_iload_n (pc := 66) B dX12_runs_66 0 rfl ?_
        obtain ⟨c67, h⟩ := chk h
        refine gs_iald (pc := 67) B c67 dX12_runs_67 ?_
        refine g_bipush (pc := 68) B dX12_runs_68 (8 : Int32) (by decide) ?_
        refine g_icmp_ne (pc := 70) (tgt := 80) B dX12_runs_70 (by decide) (fun c70 => ?_) (fun c70 => ?_)
        · rw [if_neg c70] at h
          refine g_aload_n (pc := 80) B dX12_runs_80 1 rfl ?_
          obtain ⟨v81, X81, e81, h⟩ := obW h
          refine h_callV (pc := 81) (As := []) (st := []) (X' := (xS m X81 z)) (cs' := 0) (sl' := 0) (st10 := [vI v81]) B cal_X12_counts kmX12_173 kn_X12_counts ks_X12_counts hkS (by decide) rfl (fun l hl => ct_X12_counts hl e81) rfl (Nat.le_of_ble_eq_true rfl) (by decide) (by decide) dX12_runs_81 rfl rfl rfl rfl ?_
          refine g_if_eq (pc := 84) (tgt := 93) B dX12_runs_84 (by decide) (fun c84 => ?_) (fun c84 => ?_)
          · rw [if_pos c84] at h
            refine g_sub (pc := 93) [1, 2] rfl ?_
            exact cb_X12_runs_L93 B ht hrec5 h
          · rw [if_neg c84] at h
            refine g_aload_n (pc := 87) B dX12_runs_87 1 rfl ?_
            refine g_iload_n (pc := 88) B dX12_runs_88 2 rfl ?_
            refine g_iload_n (pc := 89) B dX12_runs_89 0 rfl ?_
            obtain ⟨X90, e90, h⟩ := ob h
            refine h_callV (pc := 90) (As := [vI x1, vI (((30 : Int32) * x1) + (sc X 27))]) (st := []) (X' := (xS m X90 z)) (cs' := 0) (sl' := 0) (st10 := []) B cal_X12_does kmX12_217 kn_X12_does ks_X12_does hkS (by decide) rfl (fun l hl => ct_X12_does hl e90) rfl (Nat.le_of_ble_eq_true rfl) (by decide) (by decide) dX12_runs_90 rfl rfl rfl rfl ?_
            refine g_sub (pc := 93) [1, 2] rfl ?_
            exact cb_X12_runs_L93 B ht hrec5 h
        · rw [if_pos c70] at h
          refine g_aload_n (pc := 73) B dX12_runs_73 1 rfl ?_
          obtain ⟨X74, e74, h⟩ := ob h
          refine h_callV (pc := 74) (As := []) (st := []) (X' := (xS m X74 z)) (cs' := 0) (sl' := 0) (st10 := []) B cal_X12_ends kmX12_214 kn_X12_ends ks_X12_ends hkS (by decide) rfl (fun l hl => ct_X12_ends hl e74) rfl (Nat.le_of_ble_eq_true rfl) (by decide) (by decide) dX12_runs_74 rfl rfl rfl rfl ?_
          refine g_goto (pc := 77) (tgt := 93) B dX12_runs_77 (by decide) ?_
          refine g_sub (pc := 93) [1, 2] rfl ?_
          exact cb_X12_runs_L93 B ht hrec5 h
      · rw [if_pos c43] at h
        refine g_aload_n (pc := 46) B dX12_runs_46 1 rfl ?_
        refine g_aload_n (pc := 47) B dX12_runs_47 1 rfl ?_
        refine g_iload_n (pc := 48) B dX12_runs_48 2 rfl ?_
        refine g_aload_n (pc := 49) B dX12_runs_49 1 rfl ?_
        refine gs_get (pc := 50) 27 B (by decide) (by decide) kfX12_195 dX12_runs_50 ?_
        obtain ⟨v53, e53, h⟩ := ob h
        refine h_callV (pc := 53) (As := [vI x1, vI (sc X 27)]) (st := [vA (some m)]) (X' := (xS m X z)) (cs' := 0) (sl' := 0) (st10 := [vI v53, vA (some m)]) B cal_X12_endOf kmX12_205 kn_X12_endOf ks_X12_endOf hkS (by decide) rfl (fun l hl => ct_X12_endOf hl e53) rfl (Nat.le_of_ble_eq_true rfl) (by decide) (by decide) dX12_runs_53 rfl rfl rfl rfl ?_
        refine gs_put (pc := 56) 27 B (by decide) (by decide) rfl kfX12_195 dX12_runs_56 ?_
        refine g_goto (pc := 59) (tgt := 93) B dX12_runs_59 (by decide) ?_
        refine g_sub (pc := 93) [1, 2] rfl ?_
        exact cb_X12_runs_L93 B ht hrec5 h
theorem cb_X12_runs_L5n {D : DD} {ev : EV} {m z : Nat} {X0 : SM} {fu : Nat} (B : Amb D (foot (xS m X0 z)) ev RX12 "runs" cX12_runs 3 (none) rmX12_runs) (ht : Tb0 ev)  : ∀ (n : Nat) {X : SM} {x1 : Int32} {r : SM}, fX12_runs_L5 fu n X x1 = some r → Gd D (foot (xS m X0 z)) ev (QF D ev (xS m X0 z) (.inr (none)) (xS m r z) rmX12_runs) (xS m X z) 0 0 5 [(0, vA (some m)), (1, vI x1)] [] := by
  intro n
  induction n with
  | zero => intro X x1 r h; exact nomatch h
  | succ n ih => intro X x1 r h; exact cb_X12_runs_L5b (fu := fu) B ht (fun h9 => ih h9) h
theorem cb_X12_runs_L5 {D : DD} {ev : EV} {m z : Nat} {X0 : SM} {fu : Nat} {X : SM} {x1 : Int32} {n : Nat} {r : SM} (B : Amb D (foot (xS m X0 z)) ev RX12 "runs" cX12_runs 3 (none) rmX12_runs) (ht : Tb0 ev)  (h : fX12_runs_L5 fu n X x1 = some r) : Gd D (foot (xS m X0 z)) ev (QF D ev (xS m X0 z) (.inr (none)) (xS m r z) rmX12_runs) (xS m X z) 0 0 5 [(0, vA (some m)), (1, vI x1)] [] := cb_X12_runs_L5n B ht n h
set_option maxRecDepth 100000 in
set_option maxHeartbeats 4000000 in
theorem cb_X12_runs_L0 {D : DD} {ev : EV} {m z : Nat} {X0 : SM} {fu : Nat} {X : SM} {x1 : Int32} {r : SM} (B : Amb D (foot (xS m X0 z)) ev RX12 "runs" cX12_runs 3 (none) rmX12_runs) (ht : Tb0 ev)  (h : fX12_runs fu X x1 = some r) : Gd D (foot (xS m X0 z)) ev (QF D ev (xS m X0 z) (.inr (none)) (xS m r z) rmX12_runs) (xS m X z) 0 0 0 [(0, vA (some m)), (1, vI x1)] [] := by
  unfold fX12_runs at h
  refine g_aload_n (pc := 0) B dX12_runs_0 0 rfl ?_
  refine g_iload_n (pc := 1) B dX12_runs_1 1 rfl ?_
  obtain ⟨X2, e2, h⟩ := ob h
  refine h_callV (pc := 2) (As := [vI x1]) (st := []) (X' := (xS m X2 z)) (cs' := 0) (sl' := 0) (st10 := []) B cal_X12_begins kmX12_211 kn_X12_begins ks_X12_begins hkS (by decide) rfl (fun l hl => ct_X12_begins hl e2) rfl (Nat.le_of_ble_eq_true rfl) (by decide) (by decide) dX12_runs_2 rfl rfl rfl rfl ?_
  refine g_sub (pc := 5) [0, 1] rfl ?_
  exact cb_X12_runs_L5 B ht h
theorem ct_X12_runs {D : DD} {l : Launch} {m z : Nat} {X0 : SM} {fu : Nat} {x1 : Int32} {r : SM} (hl : l.stackTraces = false) (h : fX12_runs fu X0 x1 = some r) : Ctr D l yX12_runs cX12_runs 3 (none) rmX12_runs [vA (some m), vI x1] (xS m X0 z) (.inr (none)) (xS m r z) :=
  ctr_of hl (plainFor_of_name (by decide)) (Nat.le_of_ble_eq_true rfl) fun ev _ ht B => cb_X12_runs_L0 B ht h
set_option maxRecDepth 100000 in
set_option maxHeartbeats 4000000 in
theorem cb_X12_write_L54b {D : DD} {ev : EV} {m z : Nat} {X0 : SM} {fu : Nat} {rec54 : SM → Int32 → Int32 → Option (Int32 × SM)} {X : SM} {x1 : Int32} {x3 : Int32} {r : Int32 × SM} (B : Amb D (foot (xS m X0 z)) ev RX12 "write" cX12_write 5 (some .int) rmX12_write) (ht : Tb0 ev) (hrec54 : ∀ {X : SM} {x1 : Int32} {x3 : Int32} {r : Int32 × SM}, rec54 X x1 x3 = some r → Gd D (foot (xS m X0 z)) ev (QF D ev (xS m X0 z) (.inr (some (vI r.1))) (xS m r.2 z) rmX12_write) (xS m X z) 0 0 54 [(0, vA (some m)), (1, vI x1), (3, vI x3)] []) (h : fX12_write_L54b fu rec54 X x1 x3 = some r) : Gd D (foot (xS m X0 z)) ev (QF D ev (xS m X0 z) (.inr (some (vI r.1))) (xS m r.2 z) rmX12_write) (xS m X z) 0 0 54 [(0, vA (some m)), (1, vI x1), (3, vI x3)] [] := by
  unfold fX12_write_L54b at h
  refine g_iload_n (pc := 54) B dX12_write_54 2 rfl ?_
  refine g_aload_n (pc := 55) B dX12_write_55 0 rfl ?_
  refine gs_get (pc := 56) 1 B (by decide) (by decide) kfX12_119 dX12_write_56 ?_
  refine g_icmp_ge (pc := 59) (tgt := 131) B dX12_write_59 (by decide) (fun c59 => ?_) (fun c59 => ?_)
  · rw [if_pos c59] at h
    refine g_aload_n (pc := 131) B dX12_write_131 0 rfl ?_
    refine gs_arr (pc := 132) 9 4 B (by decide) (by decide) kfX12_23 dX12_write_132 ?_
    refine g_aload_n (pc := 135) B dX12_write_135 0 rfl ?_
    refine gs_get (pc := 136) 8 B (by decide) (by decide) kfX12_147 dX12_write_136 ?_
    refine g_iload_n (pc := 139) B dX12_write_139 1 rfl ?_
    obtain ⟨c140, h⟩ := chk h
    refine gs_iast (pc := 140) B c140 dX12_write_140 ?_
    refine g_aload_n (pc := 141) B dX12_write_141 0 rfl ?_
    refine gs_arr (pc := 142) 10 5 B (by decide) (by decide) kfX12_26 dX12_write_142 ?_
    refine g_aload_n (pc := 145) B dX12_write_145 0 rfl ?_
    refine gs_get (pc := 146) 8 B (by decide) (by decide) kfX12_147 dX12_write_146 ?_
    refine g_aload_n (pc := 149) B dX12_write_149 0 rfl ?_
    refine gs_get (pc := 150) 1 B (by decide) (by decide) kfX12_119 dX12_write_150 ?_
    obtain ⟨c153, h⟩ := chk h
    refine gs_iast (pc := 153) B c153 dX12_write_153 ?_
    refine g_aload_n (pc := 154) B dX12_write_154 0 rfl ?_
    obtain ⟨v155, X155, e155, h⟩ := obW h
    refine h_callV (pc := 155) (As := []) (st := []) (X' := (xS m X155 z)) (cs' := 0) (sl' := 0) (st10 := [vI v155]) B cal_X12_wipes kmX12_143 kn_X12_wipes ks_X12_wipes hkS (by decide) rfl (fun l hl => ct_X12_wipes hl e155) rfl (Nat.le_of_ble_eq_true rfl) (by decide) (by decide) dX12_write_155 rfl rfl rfl rfl ?_
    refine g_istore_n (pc := 158) (L' := [(3, vI v155), (0, vA (some m)), (1, vI x1)]) B dX12_write_158 (by decide) rfl ?_
    refine g_aload_n (pc := 159) B dX12_write_159 1 rfl ?_
    refine g_dup (pc := 160) B dX12_write_160 rfl ?_
    refine gs_get (pc := 161) 8 B (by decide) (by decide) kfX12_147 dX12_write_161 ?_
    refine g_iconst (pc := 164) B dX12_write_164 (1 : Int32) (by decide) ?_
    refine g_iadd (pc := 165) B dX12_write_165 ?_
    refine gs_put (pc := 166) 8 B (by decide) (by decide) rfl kfX12_147 dX12_write_166 ?_
    refine g_aload_n (pc := 169) B dX12_write_169 1 rfl ?_
    refine g_aload_n (pc := 170) B dX12_write_170 1 rfl ?_
    refine gs_get (pc := 171) 8 B (by decide) (by decide) kfX12_147 dX12_write_171 ?_
    refine g_iconst (pc := 174) B dX12_write_174 (1 : Int32) (by decide) ?_
    refine g_isub (pc := 175) B dX12_write_175 ?_
    obtain ⟨X176, e176, h⟩ := ob h
    refine h_callV (pc := 176) (As := [vI ((sc (uc X155 8 ((sc X155 8) + (1 : Int32))) 8) - (1 : Int32))]) (st := []) (X' := (xS m X176 z)) (cs' := 0) (sl' := 0) (st10 := []) B cal_X12_runs kmX12_150 kn_X12_runs ks_X12_runs hkS (by decide) rfl (fun l hl => ct_X12_runs hl e176) rfl (Nat.le_of_ble_eq_true rfl) (by decide) (by decide) dX12_write_176 rfl rfl rfl rfl ?_
    refine g_aload_n (pc := 179) B dX12_write_179 1 rfl ?_
    refine gs_arr (pc := 180) 15 10 B (by decide) (by decide) kfX12_41 dX12_write_180 ?_
    refine g_aload_n (pc := 183) B dX12_write_183 1 rfl ?_
    refine gs_get (pc := 184) 8 B (by decide) (by decide) kfX12_147 dX12_write_184 ?_
    refine g_iconst (pc := 187) B dX12_write_187 (1 : Int32) (by decide) ?_
    refine g_isub (pc := 188) B dX12_write_188 ?_
    refine g_aload_n (pc := 189) B dX12_write_189 1 rfl ?_
    refine gs_get (pc := 190) 26 B (by decide) (by decide) kfX12_154 dX12_write_190 ?_
    obtain ⟨c193, h⟩ := chk h
    refine gs_iast (pc := 193) B c193 dX12_write_193 ?_
    refine g_aload_n (pc := 194) B dX12_write_194 1 rfl ?_
    refine gs_arr (pc := 195) 16 11 B (by decide) (by decide) kfX12_44 dX12_write_195 ?_
    refine g_aload_n (pc := 198) B dX12_write_198 1 rfl ?_
    refine gs_get (pc := 199) 8 B (by decide) (by decide) kfX12_147 dX12_write_199 ?_
    refine g_iconst (pc := 202) B dX12_write_202 (1 : Int32) (by decide) ?_
    refine g_isub (pc := 203) B dX12_write_203 ?_
    refine g_aload_n (pc := 204) B dX12_write_204 1 rfl ?_
    refine gs_get (pc := 205) 25 B (by decide) (by decide) kfX12_157 dX12_write_205 ?_
    obtain ⟨c208, h⟩ := chk h
    refine gs_iast (pc := 208) B c208 dX12_write_208 ?_
    refine g_aload_n (pc := 209) B dX12_write_209 1 rfl ?_
    refine gs_arr (pc := 210) 17 12 B (by decide) (by decide) kfX12_47 dX12_write_210 ?_
    refine g_aload_n (pc := 213) B dX12_write_213 1 rfl ?_
    refine gs_get (pc := 214) 8 B (by decide) (by decide) kfX12_147 dX12_write_214 ?_
    refine g_iconst (pc := 217) B dX12_write_217 (1 : Int32) (by decide) ?_
    refine g_isub (pc := 218) B dX12_write_218 ?_
    refine g_aload_n (pc := 219) B dX12_write_219 1 rfl ?_
    refine gs_arr (pc := 220) 32 18 B (by decide) (by decide) kfX12_65 dX12_write_220 ?_
    refine g_aload_n (pc := 223) B dX12_write_223 1 rfl ?_
    refine gs_get (pc := 224) 25 B (by decide) (by decide) kfX12_157 dX12_write_224 ?_
    obtain ⟨c227, h⟩ := chk h
    refine gs_iald (pc := 227) B c227 dX12_write_227 ?_
    obtain ⟨c228, h⟩ := chk h
    refine gs_iast (pc := 228) B c228 dX12_write_228 ?_
    refine g_aload_n (pc := 229) B dX12_write_229 1 rfl ?_
    refine gs_get (pc := 230) 8 B (by decide) (by decide) kfX12_147 dX12_write_230 ?_
    refine g_iconst (pc := 233) B dX12_write_233 (1 : Int32) (by decide) ?_
    refine g_isub (pc := 234) B dX12_write_234 ?_
    obtain rfl := Option.some.inj h
    exact g_ret_I (pc := 235) B rfl (by decide) (by decide) dX12_write_235
  · rw [if_neg c59] at h
    refine g_bipush (pc := 62) B dX12_write_62 (30 : Int32) (by decide) ?_
    refine g_aload_n (pc := 64) B dX12_write_64 0 rfl ?_
    refine gs_get (pc := 65) 8 B (by decide) (by decide) kfX12_147 dX12_write_65 ?_
    refine g_imul (pc := 68) B dX12_write_68 ?_
    refine g_iload_n (pc := 69) B dX12_write_69 2 rfl ?_
    refine g_iadd (pc := 70) B dX12_write_70 ?_
    refine g_istore (pc := 71) (L' := [(4, vI (((30 : Int32) * (sc X 8)) + x3)), (0, vA (some m)), (1, vI x1), (3, vI x3)]) B dX12_write_71 (by decide) rfl ?_
    refine g_aload_n (pc := 73) B dX12_write_73 1 rfl ?_
    refine gs_arr (pc := 74) 11 6 B (by decide) (by decide) kfX12_29 dX12_write_74 ?_
    refine g_iload (pc := 77) B dX12_write_77 0 rfl ?_
    refine g_aload_n (pc := 79) B dX12_write_79 1 rfl ?_
    refine gs_arr (pc := 80) 4 0 B (by decide) (by decide) kfX12_7 dX12_write_80 ?_
    refine g_iload_n (pc := 83) B dX12_write_83 3 rfl ?_
    obtain ⟨c84, h⟩ := chk h
    refine gs_iald (pc := 84) B c84 dX12_write_84 ?_
    obtain ⟨c85, h⟩ := chk h
    refine gs_iast (pc := 85) B c85 dX12_write_85 ?_
    refine g_aload_n (pc := 86) B dX12_write_86 1 rfl ?_
    refine gs_arr (pc := 87) 12 7 B (by decide) (by decide) kfX12_32 dX12_write_87 ?_
    refine g_iload (pc := 90) B dX12_write_90 0 rfl ?_
    refine g_aload_n (pc := 92) B dX12_write_92 1 rfl ?_
    refine gs_arr (pc := 93) 5 1 B (by decide) (by decide) kfX12_13 dX12_write_93 ?_
    refine g_iload_n (pc := 96) B dX12_write_96 3 rfl ?_
    obtain ⟨c97, h⟩ := chk h
    refine gs_iald (pc := 97) B c97 dX12_write_97 ?_
    obtain ⟨c98, h⟩ := chk h
    refine gs_iast (pc := 98) B c98 dX12_write_98 ?_
    refine g_aload_n (pc := 99) B dX12_write_99 1 rfl ?_
    refine gs_arr (pc := 100) 13 8 B (by decide) (by decide) kfX12_35 dX12_write_100 ?_
    refine g_iload (pc := 103) B dX12_write_103 0 rfl ?_
    refine g_aload_n (pc := 105) B dX12_write_105 1 rfl ?_
    refine gs_arr (pc := 106) 6 2 B (by decide) (by decide) kfX12_16 dX12_write_106 ?_
    refine g_iload_n (pc := 109) B dX12_write_109 3 rfl ?_
    obtain ⟨c110, h⟩ := chk h
    refine gs_iald (pc := 110) B c110 dX12_write_110 ?_
    obtain ⟨c111, h⟩ := chk h
    refine gs_iast (pc := 111) B c111 dX12_write_111 ?_
    refine g_aload_n (pc := 112) B dX12_write_112 1 rfl ?_
    refine gs_arr (pc := 113) 14 9 B (by decide) (by decide) kfX12_38 dX12_write_113 ?_
    refine g_iload (pc := 116) B dX12_write_116 0 rfl ?_
    refine g_aload_n (pc := 118) B dX12_write_118 1 rfl ?_
    refine gs_arr (pc := 119) 7 3 B (by decide) (by decide) kfX12_19 dX12_write_119 ?_
    refine g_iload_n (pc := 122) B dX12_write_122 3 rfl ?_
    obtain ⟨c123, h⟩ := chk h
    refine gs_zald (pc := 123) B c123 dX12_write_123 ?_
    obtain ⟨c124, h⟩ := chk h
    obtain ⟨z124, h⟩ := chk h
    refine gs_zast (pc := 124) B c124 z124 dX12_write_124 ?_
    refine g_iinc (pc := 125) (v := (x3 + (1 : Int32))) (L' := [(3, vI (x3 + (1 : Int32))), (4, vI (((30 : Int32) * (sc X 8)) + x3)), (0, vA (some m)), (1, vI x1)]) B dX12_write_125 (by decide) 3 rfl rfl rfl ?_
    refine g_goto (pc := 128) (tgt := 54) B dX12_write_128 (by decide) ?_
    refine g_sub (pc := 54) [2, 3, 0] rfl ?_
    exact hrec54 h
theorem cb_X12_write_L54n {D : DD} {ev : EV} {m z : Nat} {X0 : SM} {fu : Nat} (B : Amb D (foot (xS m X0 z)) ev RX12 "write" cX12_write 5 (some .int) rmX12_write) (ht : Tb0 ev)  : ∀ (n : Nat) {X : SM} {x1 : Int32} {x3 : Int32} {r : Int32 × SM}, fX12_write_L54 fu n X x1 x3 = some r → Gd D (foot (xS m X0 z)) ev (QF D ev (xS m X0 z) (.inr (some (vI r.1))) (xS m r.2 z) rmX12_write) (xS m X z) 0 0 54 [(0, vA (some m)), (1, vI x1), (3, vI x3)] [] := by
  intro n
  induction n with
  | zero => intro X x1 x3 r h; exact nomatch h
  | succ n ih => intro X x1 x3 r h; exact cb_X12_write_L54b (fu := fu) B ht (fun h9 => ih h9) h
theorem cb_X12_write_L54 {D : DD} {ev : EV} {m z : Nat} {X0 : SM} {fu : Nat} {X : SM} {x1 : Int32} {x3 : Int32} {n : Nat} {r : Int32 × SM} (B : Amb D (foot (xS m X0 z)) ev RX12 "write" cX12_write 5 (some .int) rmX12_write) (ht : Tb0 ev)  (h : fX12_write_L54 fu n X x1 x3 = some r) : Gd D (foot (xS m X0 z)) ev (QF D ev (xS m X0 z) (.inr (some (vI r.1))) (xS m r.2 z) rmX12_write) (xS m X z) 0 0 54 [(0, vA (some m)), (1, vI x1), (3, vI x3)] [] := cb_X12_write_L54n B ht n h
set_option maxRecDepth 100000 in
set_option maxHeartbeats 4000000 in
theorem cb_X12_write_L44 {D : DD} {ev : EV} {m z : Nat} {X0 : SM} {fu : Nat} {X : SM} {x1 : Int32} {s1 : Int32} {r : Int32 × SM} (B : Amb D (foot (xS m X0 z)) ev RX12 "write" cX12_write 5 (some .int) rmX12_write) (ht : Tb0 ev)  (h : fX12_write_L44 fu X x1 s1 = some r) : Gd D (foot (xS m X0 z)) ev (QF D ev (xS m X0 z) (.inr (some (vI r.1))) (xS m r.2 z) rmX12_write) (xS m X z) 0 0 44 [(0, vA (some m)), (1, vI x1)] [vI s1, vA (some m)] := by
  unfold fX12_write_L44 at h
  obtain ⟨v44, X44, e44, h⟩ := obW h
  refine h_callV (pc := 44) (As := [vI s1]) (st := []) (X' := (xS m X44 z)) (cs' := 0) (sl' := 0) (st10 := [vI v44]) B cal_X12_holds kmX12_126 kn_X12_holds ks_X12_holds hkS (by decide) rfl (fun l hl => ct_X12_holds hl e44) rfl (Nat.le_of_ble_eq_true rfl) (by decide) (by decide) dX12_write_44 rfl rfl rfl rfl ?_
  refine g_if_ne (pc := 47) (tgt := 52) B dX12_write_47 (by decide) (fun c47 => ?_) (fun c47 => ?_)
  · rw [if_neg c47] at h
    refine g_iconst (pc := 52) B dX12_write_52 (0 : Int32) (by decide) ?_
    refine g_istore_n (pc := 53) (L' := [(3, vI (0 : Int32)), (0, vA (some m)), (1, vI x1)]) B dX12_write_53 (by decide) rfl ?_
    refine g_sub (pc := 54) [1, 2, 0] rfl ?_
    exact cb_X12_write_L54 B ht h
  · rw [if_pos c47] at h
    refine g_iconst (pc := 50) B dX12_write_50 (0 : Int32) (by decide) ?_
    obtain rfl := Option.some.inj h
    exact g_ret_I (pc := 51) B rfl (by decide) (by decide) dX12_write_51
set_option maxRecDepth 100000 in
set_option maxHeartbeats 4000000 in
theorem cb_X12_write_L39 {D : DD} {ev : EV} {m z : Nat} {X0 : SM} {fu : Nat} {X : SM} {x1 : Int32} {r : Int32 × SM} (B : Amb D (foot (xS m X0 z)) ev RX12 "write" cX12_write 5 (some .int) rmX12_write) (ht : Tb0 ev)  (h : fX12_write_L39 fu X x1 = some r) : Gd D (foot (xS m X0 z)) ev (QF D ev (xS m X0 z) (.inr (some (vI r.1))) (xS m r.2 z) rmX12_write) (xS m X z) 0 0 39 [(0, vA (some m)), (1, vI x1)] [vA (some m)] := by
  unfold fX12_write_L39 at h
  refine g_iconst (pc := 39) B dX12_write_39 (2 : Int32) (by decide) ?_
  refine g_goto (pc := 40) (tgt := 44) B dX12_write_40 (by decide) ?_
  refine g_sub (pc := 44) [0, 1] rfl ?_
  exact cb_X12_write_L44 B ht h
set_option maxRecDepth 100000 in
set_option maxHeartbeats 4000000 in
theorem cb_X12_write_L0 {D : DD} {ev : EV} {m z : Nat} {X0 : SM} {fu : Nat} {X : SM} {x1 : Int32} {r : Int32 × SM} (B : Amb D (foot (xS m X0 z)) ev RX12 "write" cX12_write 5 (some .int) rmX12_write) (ht : Tb0 ev)  (h : fX12_write fu X x1 = some r) : Gd D (foot (xS m X0 z)) ev (QF D ev (xS m X0 z) (.inr (some (vI r.1))) (xS m r.2 z) rmX12_write) (xS m X z) 0 0 0 [(0, vA (some m)), (1, vI x1)] [] := by
  unfold fX12_write at h
  refine g_iload_n (pc := 0) B dX12_write_0 1 rfl ?_
  refine g_iconst (pc := 1) B dX12_write_1 (0 : Int32) (by decide) ?_
  refine g_iconst (pc := 2) B dX12_write_2 (5 : Int32) (by decide) ?_
  obtain ⟨v3, e3, h⟩ := ob h
  refine h_callS (pc := 3) (As := [vI x1, vI (0 : Int32), vI (5 : Int32)]) (st := []) (X' := (xS m X z)) (cs' := 0) (sl' := 0) (st10 := [vI v3]) B cal_X12_isIn kmX12_115 kz_X12_isIn (fun l hl => ct_X12_isIn hl e3) rfl (Nat.le_of_ble_eq_true rfl) (by decide) (by decide) dX12_write_3 rfl rfl rfl rfl ?_
  refine g_istore_n (pc := 6) (L' := [(2, vI v3), (0, vA (some m)), (1, vI x1)]) B dX12_write_6 (by decide) rfl ?_
  refine g_aload_n (pc := 7) B dX12_write_7 1 rfl ?_
  refine g_iload_n (pc := 8) B dX12_write_8 0 rfl ?_
  refine g_if_ne (pc := 9) (tgt := 16) B dX12_write_9 (by decide) (fun c9 => ?_) (fun c9 => ?_)
  · rw [if_neg c9] at h
    refine g_aload_n (pc := 16) B dX12_write_16 1 rfl ?_
    refine gs_get (pc := 17) 1 B (by decide) (by decide) kfX12_119 dX12_write_17 ?_
    refine g_if_eq (pc := 20) (tgt := 39) B dX12_write_20 (by decide) (fun c20 => ?_) (fun c20 => ?_)
    · rw [if_pos c20] at h
      refine g_sub (pc := 39) [1, 2] rfl ?_
      exact cb_X12_write_L39 B ht h
    · rw [if_neg c20] at h
      refine g_aload_n (pc := 23) B dX12_write_23 1 rfl ?_
      refine gs_get (pc := 24) 2 B (by decide) (by decide) kfX12_137 dX12_write_24 ?_
      refine g_if_gt (pc := 27) (tgt := 39) B dX12_write_27 (by decide) (fun c27 => ?_) (fun c27 => ?_)
      · rw [if_pos c27] at h
        refine g_sub (pc := 39) [1, 2] rfl ?_
        exact cb_X12_write_L39 B ht h
      · rw [if_neg c27] at h
        refine g_aload_n (pc := 30) B dX12_write_30 1 rfl ?_
        refine gs_get (pc := 31) 8 B (by decide) (by decide) kfX12_147 dX12_write_31 ?_
        refine g_bipush (pc := 34) B dX12_write_34 (30 : Int32) (by decide) ?_
        refine g_icmp_ne (pc := 36) (tgt := 43) B dX12_write_36 (by decide) (fun c36 => ?_) (fun c36 => ?_)
        · rw [if_neg c36] at h
          refine g_iconst (pc := 43) B dX12_write_43 (0 : Int32) (by decide) ?_
          refine g_sub (pc := 44) [1, 2] rfl ?_
          exact cb_X12_write_L44 B ht h
        · rw [if_pos c36] at h
          refine g_sub (pc := 39) [1, 2] rfl ?_
          exact cb_X12_write_L39 B ht h
  · rw [if_pos c9] at h
    refine g_iconst (pc := 12) B dX12_write_12 (1 : Int32) (by decide) ?_
    refine g_goto (pc := 13) (tgt := 44) B dX12_write_13 (by decide) ?_
    refine g_sub (pc := 44) [1, 2] rfl ?_
    exact cb_X12_write_L44 B ht h
theorem ct_X12_write {D : DD} {l : Launch} {m z : Nat} {X0 : SM} {fu : Nat} {x1 : Int32} {r : Int32 × SM} (hl : l.stackTraces = false) (h : fX12_write fu X0 x1 = some r) : Ctr D l yX12_write cX12_write 5 (some .int) rmX12_write [vA (some m), vI x1] (xS m X0 z) (.inr (some (vI r.1))) (xS m r.2 z) :=
  ctr_of hl (plainFor_of_name (by decide)) (Nat.le_of_ble_eq_true rfl) fun ev _ ht B => cb_X12_write_L0 B ht h
set_option maxRecDepth 100000 in
set_option maxHeartbeats 4000000 in
theorem cb_X12_isProgram_L0 {D : DD} {ev : EV} {m z : Nat} {X0 : SM} {x1 : Int32} {r : Int32} (B : Amb D (foot (xS m X0 z)) ev RX12 "isProgram" cX12_isProgram 2 (some .boolean) rmX12_isProgram) (ht : Tb0 ev)  (h : fX12_isProgram X0 x1 = some r) : Gd D (foot (xS m X0 z)) ev (QF D ev (xS m X0 z) (.inr (some (vI r))) (xS m X0 z) rmX12_isProgram) (xS m X0 z) 0 0 0 [(0, vA (some m)), (1, vI x1)] [] := by
  unfold fX12_isProgram at h
  refine g_iload_n (pc := 0) B dX12_isProgram_0 1 rfl ?_
  refine g_iconst (pc := 1) B dX12_isProgram_1 (0 : Int32) (by decide) ?_
  refine g_aload_n (pc := 2) B dX12_isProgram_2 0 rfl ?_
  refine gs_get (pc := 3) 8 B (by decide) (by decide) kfX12_147 dX12_isProgram_3 ?_
  refine g_iconst (pc := 6) B dX12_isProgram_6 (1 : Int32) (by decide) ?_
  refine g_isub (pc := 7) B dX12_isProgram_7 ?_
  obtain ⟨v8, e8, h⟩ := ob h
  refine h_callS (pc := 8) (As := [vI x1, vI (0 : Int32), vI ((sc X0 8) - (1 : Int32))]) (st := []) (X' := (xS m X0 z)) (cs' := 0) (sl' := 0) (st10 := [vI v8]) B cal_X12_isIn kmX12_115 kz_X12_isIn (fun l hl => ct_X12_isIn hl e8) rfl (Nat.le_of_ble_eq_true rfl) (by decide) (by decide) dX12_isProgram_8 rfl rfl rfl rfl ?_
  obtain ⟨z11, h⟩ := chk h
  obtain rfl := Option.some.inj h
  exact g_ret_Z (pc := 11) B rfl z11 (by decide) (by decide) dX12_isProgram_11
theorem ct_X12_isProgram {D : DD} {l : Launch} {m z : Nat} {X0 : SM} {x1 : Int32} {r : Int32} (hl : l.stackTraces = false) (h : fX12_isProgram X0 x1 = some r) : Ctr D l yX12_isProgram cX12_isProgram 2 (some .boolean) rmX12_isProgram [vA (some m), vI x1] (xS m X0 z) (.inr (some (vI r))) (xS m X0 z) :=
  ctr_of hl (plainFor_of_name (by decide)) (Nat.le_of_ble_eq_true rfl) fun ev _ ht B => cb_X12_isProgram_L0 B ht h
set_option maxRecDepth 100000 in
set_option maxHeartbeats 4000000 in
theorem cb_X12_areLimits_L0 {D : DD} {ev : EV} {m z : Nat} {X0 : SM} {x0 : Int32} {x1 : Int32} {r : Int32} (B : Amb D (foot (xS m X0 z)) ev RX12 "areLimits" cX12_areLimits 2 (some .boolean) rmX12_areLimits) (ht : Tb0 ev)  (h : fX12_areLimits X0 x0 x1 = some r) : Gd D (foot (xS m X0 z)) ev (QF D ev (xS m X0 z) (.inr (some (vI r))) (xS m X0 z) rmX12_areLimits) (xS m X0 z) 0 0 0 [(0, vI x0), (1, vI x1)] [] := by
  unfold fX12_areLimits at h
  refine g_iload_n (pc := 0) B dX12_areLimits_0 0 rfl ?_
  refine g_iconst (pc := 1) B dX12_areLimits_1 (1 : Int32) (by decide) ?_
  refine g_bipush (pc := 2) B dX12_areLimits_2 (30 : Int32) (by decide) ?_
  obtain ⟨v4, e4, h⟩ := ob h
  refine h_callS (pc := 4) (As := [vI x0, vI (1 : Int32), vI (30 : Int32)]) (st := []) (X' := (xS m X0 z)) (cs' := 0) (sl' := 0) (st10 := [vI v4]) B cal_X12_isIn kmX12_115 kz_X12_isIn (fun l hl => ct_X12_isIn hl e4) rfl (Nat.le_of_ble_eq_true rfl) (by decide) (by decide) dX12_areLimits_4 rfl rfl rfl rfl ?_
  refine g_if_eq (pc := 7) (tgt := 25) B dX12_areLimits_7 (by decide) (fun c7 => ?_) (fun c7 => ?_)
  · rw [if_pos c7] at h
    refine g_iconst (pc := 25) B dX12_areLimits_25 (0 : Int32) (by decide) ?_
    obtain rfl := Option.some.inj h
    exact g_ret_Z (pc := 26) B rfl (Or.inl rfl) (by decide) (by decide) dX12_areLimits_26
  · rw [if_neg c7] at h
    refine g_iload_n (pc := 10) B dX12_areLimits_10 1 rfl ?_
    refine g_iconst (pc := 11) B dX12_areLimits_11 (0 : Int32) (by decide) ?_
    refine g_sipush (pc := 12) B dX12_areLimits_12 (600 : Int32) (by decide) ?_
    obtain ⟨v15, e15, h⟩ := ob h
    refine h_callS (pc := 15) (As := [vI x1, vI (0 : Int32), vI (600 : Int32)]) (st := []) (X' := (xS m X0 z)) (cs' := 0) (sl' := 0) (st10 := [vI v15]) B cal_X12_isIn kmX12_115 kz_X12_isIn (fun l hl => ct_X12_isIn hl e15) rfl (Nat.le_of_ble_eq_true rfl) (by decide) (by decide) dX12_areLimits_15 rfl rfl rfl rfl ?_
    refine g_if_eq (pc := 18) (tgt := 25) B dX12_areLimits_18 (by decide) (fun c18 => ?_) (fun c18 => ?_)
    · rw [if_pos c18] at h
      refine g_iconst (pc := 25) B dX12_areLimits_25 (0 : Int32) (by decide) ?_
      obtain rfl := Option.some.inj h
      exact g_ret_Z (pc := 26) B rfl (Or.inl rfl) (by decide) (by decide) dX12_areLimits_26
    · rw [if_neg c18] at h
      refine g_iconst (pc := 21) B dX12_areLimits_21 (1 : Int32) (by decide) ?_
      refine g_goto (pc := 22) (tgt := 26) B dX12_areLimits_22 (by decide) ?_
      obtain rfl := Option.some.inj h
      exact g_ret_Z (pc := 26) B rfl (Or.inr rfl) (by decide) (by decide) dX12_areLimits_26
theorem ct_X12_areLimits {D : DD} {l : Launch} {m z : Nat} {X0 : SM} {x0 : Int32} {x1 : Int32} {r : Int32} (hl : l.stackTraces = false) (h : fX12_areLimits X0 x0 x1 = some r) : Ctr D l yX12_areLimits cX12_areLimits 2 (some .boolean) rmX12_areLimits [vI x0, vI x1] (xS m X0 z) (.inr (some (vI r))) (xS m X0 z) :=
  ctr_of hl (plainFor_of_name (by decide)) (Nat.le_of_ble_eq_true rfl) fun ev _ ht B => cb_X12_areLimits_L0 B ht h
set_option maxRecDepth 100000 in
set_option maxHeartbeats 4000000 in
theorem cb_X12_exercise_L43 {D : DD} {ev : EV} {m z : Nat} {X0 : SM} {X : SM} {x1 : Int32} {x2 : Int32} {x3 : Int32} {s1 : Int32} {r : Int32 × SM} (B : Amb D (foot (xS m X0 z)) ev RX12 "exercise" cX12_exercise 5 (some .int) rmX12_exercise) (ht : Tb0 ev)  (h : fX12_exercise_L43 X x1 x2 x3 s1 = some r) : Gd D (foot (xS m X0 z)) ev (QF D ev (xS m X0 z) (.inr (some (vI r.1))) (xS m r.2 z) rmX12_exercise) (xS m X z) 0 0 43 [(0, vA (some m)), (1, vI x1), (2, vI x2), (3, vI x3)] [vI s1, vA (some m)] := by
  unfold fX12_exercise_L43 at h
  obtain ⟨v43, X43, e43, h⟩ := obW h
  refine h_callV (pc := 43) (As := [vI s1]) (st := []) (X' := (xS m X43 z)) (cs' := 0) (sl' := 0) (st10 := [vI v43]) B cal_X12_holds kmX12_126 kn_X12_holds ks_X12_holds hkS (by decide) rfl (fun l hl => ct_X12_holds hl e43) rfl (Nat.le_of_ble_eq_true rfl) (by decide) (by decide) dX12_exercise_43 rfl rfl rfl rfl ?_
  refine g_if_ne (pc := 46) (tgt := 51) B dX12_exercise_46 (by decide) (fun c46 => ?_) (fun c46 => ?_)
  · rw [if_neg c46] at h
    refine g_aload_n (pc := 51) B dX12_exercise_51 0 rfl ?_
    refine gs_arr (pc := 52) 38 23 B (by decide) (by decide) kfX12_80 dX12_exercise_52 ?_
    refine g_aload_n (pc := 55) B dX12_exercise_55 0 rfl ?_
    refine gs_get (pc := 56) 37 B (by decide) (by decide) kfX12_226 dX12_exercise_56 ?_
    refine g_iload_n (pc := 59) B dX12_exercise_59 1 rfl ?_
    obtain ⟨c60, h⟩ := chk h
    refine gs_iast (pc := 60) B c60 dX12_exercise_60 ?_
    refine g_aload_n (pc := 61) B dX12_exercise_61 0 rfl ?_
    refine gs_arr (pc := 62) 39 24 B (by decide) (by decide) kfX12_83 dX12_exercise_62 ?_
    refine g_aload_n (pc := 65) B dX12_exercise_65 0 rfl ?_
    refine gs_get (pc := 66) 37 B (by decide) (by decide) kfX12_226 dX12_exercise_66 ?_
    refine g_iload_n (pc := 69) B dX12_exercise_69 2 rfl ?_
    obtain ⟨c70, h⟩ := chk h
    refine gs_iast (pc := 70) B c70 dX12_exercise_70 ?_
    refine g_aload_n (pc := 71) B dX12_exercise_71 0 rfl ?_
    refine gs_arr (pc := 72) 40 25 B (by decide) (by decide) kfX12_86 dX12_exercise_72 ?_
    refine g_aload_n (pc := 75) B dX12_exercise_75 0 rfl ?_
    refine gs_get (pc := 76) 37 B (by decide) (by decide) kfX12_226 dX12_exercise_76 ?_
    refine g_iload_n (pc := 79) B dX12_exercise_79 3 rfl ?_
    obtain ⟨c80, h⟩ := chk h
    refine gs_iast (pc := 80) B c80 dX12_exercise_80 ?_
    refine g_aload_n (pc := 81) B dX12_exercise_81 0 rfl ?_
    refine g_dup (pc := 82) B dX12_exercise_82 rfl ?_
    refine gs_get (pc := 83) 37 B (by decide) (by decide) kfX12_226 dX12_exercise_83 ?_
    refine g_iconst (pc := 86) B dX12_exercise_86 (1 : Int32) (by decide) ?_
    refine g_iadd (pc := 87) B dX12_exercise_87 ?_
    refine gs_put (pc := 88) 37 B (by decide) (by decide) rfl kfX12_226 dX12_exercise_88 ?_
    refine g_aload_n (pc := 91) B dX12_exercise_91 0 rfl ?_
    refine gs_get (pc := 92) 37 B (by decide) (by decide) kfX12_226 dX12_exercise_92 ?_
    refine g_iconst (pc := 95) B dX12_exercise_95 (1 : Int32) (by decide) ?_
    refine g_isub (pc := 96) B dX12_exercise_96 ?_
    obtain rfl := Option.some.inj h
    exact g_ret_I (pc := 97) B rfl (by decide) (by decide) dX12_exercise_97
  · rw [if_pos c46] at h
    refine g_iconst (pc := 49) B dX12_exercise_49 (0 : Int32) (by decide) ?_
    obtain rfl := Option.some.inj h
    exact g_ret_I (pc := 50) B rfl (by decide) (by decide) dX12_exercise_50
set_option maxRecDepth 100000 in
set_option maxHeartbeats 4000000 in
theorem cb_X12_exercise_L0 {D : DD} {ev : EV} {m z : Nat} {X0 : SM} {X : SM} {x1 : Int32} {x2 : Int32} {x3 : Int32} {r : Int32 × SM} (B : Amb D (foot (xS m X0 z)) ev RX12 "exercise" cX12_exercise 5 (some .int) rmX12_exercise) (ht : Tb0 ev)  (h : fX12_exercise X x1 x2 x3 = some r) : Gd D (foot (xS m X0 z)) ev (QF D ev (xS m X0 z) (.inr (some (vI r.1))) (xS m r.2 z) rmX12_exercise) (xS m X z) 0 0 0 [(0, vA (some m)), (1, vI x1), (2, vI x2), (3, vI x3)] [] := by
  unfold fX12_exercise at h
  refine g_aload_n (pc := 0) B dX12_exercise_0 0 rfl ?_
  refine g_iload_n (pc := 1) B dX12_exercise_1 1 rfl ?_
  obtain ⟨v2, e2, h⟩ := ob h
  refine h_callV (pc := 2) (As := [vI x1]) (st := []) (X' := (xS m X z)) (cs' := 0) (sl' := 0) (st10 := [vI v2]) B cal_X12_isProgram kmX12_220 kn_X12_isProgram ks_X12_isProgram hkS (by decide) rfl (fun l hl => ct_X12_isProgram hl e2) rfl (Nat.le_of_ble_eq_true rfl) (by decide) (by decide) dX12_exercise_2 rfl rfl rfl rfl ?_
  refine g_istore (pc := 5) (L' := [(4, vI v2), (0, vA (some m)), (1, vI x1), (2, vI x2), (3, vI x3)]) B dX12_exercise_5 (by decide) rfl ?_
  refine g_aload_n (pc := 7) B dX12_exercise_7 1 rfl ?_
  refine g_iload (pc := 8) B dX12_exercise_8 0 rfl ?_
  refine g_if_ne (pc := 10) (tgt := 17) B dX12_exercise_10 (by decide) (fun c10 => ?_) (fun c10 => ?_)
  · rw [if_neg c10] at h
    refine g_iload_n (pc := 17) B dX12_exercise_17 3 rfl ?_
    refine g_iload_n (pc := 18) B dX12_exercise_18 4 rfl ?_
    obtain ⟨v19, e19, h⟩ := ob h
    refine h_callS (pc := 19) (As := [vI x2, vI x3]) (st := [vA (some m)]) (X' := (xS m X z)) (cs' := 0) (sl' := 0) (st10 := [vI v19, vA (some m)]) B cal_X12_areLimits kmX12_223 kz_X12_areLimits (fun l hl => ct_X12_areLimits hl e19) rfl (Nat.le_of_ble_eq_true rfl) (by decide) (by decide) dX12_exercise_19 rfl rfl rfl rfl ?_
    refine g_if_ne (pc := 22) (tgt := 29) B dX12_exercise_22 (by decide) (fun c22 => ?_) (fun c22 => ?_)
    · rw [if_neg c22] at h
      refine g_aload_n (pc := 29) B dX12_exercise_29 1 rfl ?_
      refine gs_get (pc := 30) 37 B (by decide) (by decide) kfX12_226 dX12_exercise_30 ?_
      refine g_bipush (pc := 33) B dX12_exercise_33 (6 : Int32) (by decide) ?_
      refine g_icmp_ne (pc := 35) (tgt := 42) B dX12_exercise_35 (by decide) (fun c35 => ?_) (fun c35 => ?_)
      · rw [if_neg c35] at h
        refine g_iconst (pc := 42) B dX12_exercise_42 (0 : Int32) (by decide) ?_
        refine g_sub (pc := 43) [1, 2, 3, 4] rfl ?_
        exact cb_X12_exercise_L43 B ht h
      · rw [if_pos c35] at h
        refine g_iconst (pc := 38) B dX12_exercise_38 (3 : Int32) (by decide) ?_
        refine g_goto (pc := 39) (tgt := 43) B dX12_exercise_39 (by decide) ?_
        refine g_sub (pc := 43) [1, 2, 3, 4] rfl ?_
        exact cb_X12_exercise_L43 B ht h
    · rw [if_pos c22] at h
      refine g_iconst (pc := 25) B dX12_exercise_25 (2 : Int32) (by decide) ?_
      refine g_goto (pc := 26) (tgt := 43) B dX12_exercise_26 (by decide) ?_
      refine g_sub (pc := 43) [1, 2, 3, 4] rfl ?_
      exact cb_X12_exercise_L43 B ht h
  · rw [if_pos c10] at h
    refine g_iconst (pc := 13) B dX12_exercise_13 (1 : Int32) (by decide) ?_
    refine g_goto (pc := 14) (tgt := 43) B dX12_exercise_14 (by decide) ?_
    refine g_sub (pc := 43) [1, 2, 3, 4] rfl ?_
    exact cb_X12_exercise_L43 B ht h
theorem ct_X12_exercise {D : DD} {l : Launch} {m z : Nat} {X0 : SM} {x1 : Int32} {x2 : Int32} {x3 : Int32} {r : Int32 × SM} (hl : l.stackTraces = false) (h : fX12_exercise X0 x1 x2 x3 = some r) : Ctr D l yX12_exercise cX12_exercise 5 (some .int) rmX12_exercise [vA (some m), vI x1, vI x2, vI x3] (xS m X0 z) (.inr (some (vI r.1))) (xS m r.2 z) :=
  ctr_of hl (plainFor_of_name (by decide)) (Nat.le_of_ble_eq_true rfl) fun ev _ ht B => cb_X12_exercise_L0 B ht h
set_option maxRecDepth 100000 in
set_option maxHeartbeats 4000000 in
theorem cb_X12_isExercise_L0 {D : DD} {ev : EV} {m z : Nat} {X0 : SM} {x1 : Int32} {r : Int32} (B : Amb D (foot (xS m X0 z)) ev RX12 "isExercise" cX12_isExercise 2 (some .boolean) rmX12_isExercise) (ht : Tb0 ev)  (h : fX12_isExercise X0 x1 = some r) : Gd D (foot (xS m X0 z)) ev (QF D ev (xS m X0 z) (.inr (some (vI r))) (xS m X0 z) rmX12_isExercise) (xS m X0 z) 0 0 0 [(0, vA (some m)), (1, vI x1)] [] := by
  unfold fX12_isExercise at h
  refine g_iload_n (pc := 0) B dX12_isExercise_0 1 rfl ?_
  refine g_iconst (pc := 1) B dX12_isExercise_1 (0 : Int32) (by decide) ?_
  refine g_aload_n (pc := 2) B dX12_isExercise_2 0 rfl ?_
  refine gs_get (pc := 3) 37 B (by decide) (by decide) kfX12_226 dX12_isExercise_3 ?_
  refine g_iconst (pc := 6) B dX12_isExercise_6 (1 : Int32) (by decide) ?_
  refine g_isub (pc := 7) B dX12_isExercise_7 ?_
  obtain ⟨v8, e8, h⟩ := ob h
  refine h_callS (pc := 8) (As := [vI x1, vI (0 : Int32), vI ((sc X0 37) - (1 : Int32))]) (st := []) (X' := (xS m X0 z)) (cs' := 0) (sl' := 0) (st10 := [vI v8]) B cal_X12_isIn kmX12_115 kz_X12_isIn (fun l hl => ct_X12_isIn hl e8) rfl (Nat.le_of_ble_eq_true rfl) (by decide) (by decide) dX12_isExercise_8 rfl rfl rfl rfl ?_
  obtain ⟨z11, h⟩ := chk h
  obtain rfl := Option.some.inj h
  exact g_ret_Z (pc := 11) B rfl z11 (by decide) (by decide) dX12_isExercise_11
theorem ct_X12_isExercise {D : DD} {l : Launch} {m z : Nat} {X0 : SM} {x1 : Int32} {r : Int32} (hl : l.stackTraces = false) (h : fX12_isExercise X0 x1 = some r) : Ctr D l yX12_isExercise cX12_isExercise 2 (some .boolean) rmX12_isExercise [vA (some m), vI x1] (xS m X0 z) (.inr (some (vI r))) (xS m X0 z) :=
  ctr_of hl (plainFor_of_name (by decide)) (Nat.le_of_ble_eq_true rfl) fun ev _ ht B => cb_X12_isExercise_L0 B ht h
set_option maxRecDepth 100000 in
set_option maxHeartbeats 4000000 in
theorem cb_X12_leastOf_L113 {D : DD} {ev : EV} {m z : Nat} {X0 : SM} {fu : Nat} {rec19 : Int32 → Int32 → Int32 → Int32 → Option (Int32)} {x1 : Int32} {x2 : Int32} {x4 : Int32} {s0 : Int32} {r : Int32} (B : Amb D (foot (xS m X0 z)) ev RX12 "leastOf" cX12_leastOf 7 (some .int) rmX12_leastOf) (ht : Tb0 ev) (hrec19 : ∀ {x1 : Int32} {x2 : Int32} {x3 : Int32} {x4 : Int32} {r : Int32}, rec19 x1 x2 x3 x4 = some r → Gd D (foot (xS m X0 z)) ev (QF D ev (xS m X0 z) (.inr (some (vI r))) (xS m X0 z) rmX12_leastOf) (xS m X0 z) 0 0 19 [(0, vA (some m)), (1, vI x1), (2, vI x2), (3, vI x3), (4, vI x4)] []) (h : fX12_leastOf_L113 fu X0 rec19 x1 x2 x4 s0 = some r) : Gd D (foot (xS m X0 z)) ev (QF D ev (xS m X0 z) (.inr (some (vI r))) (xS m X0 z) rmX12_leastOf) (xS m X0 z) 0 0 113 [(0, vA (some m)), (1, vI x1), (2, vI x2), (4, vI x4)] [vI s0] := by
  unfold fX12_leastOf_L113 at h
  refine g_istore_n (pc := 113) (L' := [(3, vI s0), (0, vA (some m)), (1, vI x1), (2, vI x2), (4, vI x4)]) B dX12_leastOf_113 (by decide) rfl ?_
  refine g_iinc (pc := 114) (v := (x4 + (1 : Int32))) (L' := [(4, vI (x4 + (1 : Int32))), (3, vI s0), (0, vA (some m)), (1, vI x1), (2, vI x2)]) B dX12_leastOf_114 (by decide) 4 rfl rfl rfl ?_
  refine g_goto (pc := 117) (tgt := 19) B dX12_leastOf_117 (by decide) ?_
  refine g_sub (pc := 19) [2, 3, 4, 1, 0] rfl ?_
  exact hrec19 h
set_option maxRecDepth 100000 in
set_option maxHeartbeats 4000000 in
theorem cb_X12_leastOf_L112 {D : DD} {ev : EV} {m z : Nat} {X0 : SM} {fu : Nat} {rec19 : Int32 → Int32 → Int32 → Int32 → Option (Int32)} {x1 : Int32} {x2 : Int32} {x3 : Int32} {x4 : Int32} {r : Int32} (B : Amb D (foot (xS m X0 z)) ev RX12 "leastOf" cX12_leastOf 7 (some .int) rmX12_leastOf) (ht : Tb0 ev) (hrec19 : ∀ {x1 : Int32} {x2 : Int32} {x3 : Int32} {x4 : Int32} {r : Int32}, rec19 x1 x2 x3 x4 = some r → Gd D (foot (xS m X0 z)) ev (QF D ev (xS m X0 z) (.inr (some (vI r))) (xS m X0 z) rmX12_leastOf) (xS m X0 z) 0 0 19 [(0, vA (some m)), (1, vI x1), (2, vI x2), (3, vI x3), (4, vI x4)] []) (h : fX12_leastOf_L112 fu X0 rec19 x1 x2 x3 x4 = some r) : Gd D (foot (xS m X0 z)) ev (QF D ev (xS m X0 z) (.inr (some (vI r))) (xS m X0 z) rmX12_leastOf) (xS m X0 z) 0 0 112 [(0, vA (some m)), (1, vI x1), (2, vI x2), (3, vI x3), (4, vI x4)] [] := by
  unfold fX12_leastOf_L112 at h
  refine g_iload_n (pc := 112) B dX12_leastOf_112 3 rfl ?_
  refine g_sub (pc := 113) [0, 1, 2, 4] rfl ?_
  exact cb_X12_leastOf_L113 B ht hrec19 h
set_option maxRecDepth 100000 in
set_option maxHeartbeats 4000000 in
theorem cb_X12_leastOf_L94 {D : DD} {ev : EV} {m z : Nat} {X0 : SM} {fu : Nat} {rec19 : Int32 → Int32 → Int32 → Int32 → Option (Int32)} {x1 : Int32} {x2 : Int32} {x3 : Int32} {x4 : Int32} {x5 : Int32} {s0 : Int32} {r : Int32} (B : Amb D (foot (xS m X0 z)) ev RX12 "leastOf" cX12_leastOf 7 (some .int) rmX12_leastOf) (ht : Tb0 ev) (hrec19 : ∀ {x1 : Int32} {x2 : Int32} {x3 : Int32} {x4 : Int32} {r : Int32}, rec19 x1 x2 x3 x4 = some r → Gd D (foot (xS m X0 z)) ev (QF D ev (xS m X0 z) (.inr (some (vI r))) (xS m X0 z) rmX12_leastOf) (xS m X0 z) 0 0 19 [(0, vA (some m)), (1, vI x1), (2, vI x2), (3, vI x3), (4, vI x4)] []) (h : fX12_leastOf_L94 fu X0 rec19 x1 x2 x3 x4 x5 s0 = some r) : Gd D (foot (xS m X0 z)) ev (QF D ev (xS m X0 z) (.inr (some (vI r))) (xS m X0 z) rmX12_leastOf) (xS m X0 z) 0 0 94 [(0, vA (some m)), (1, vI x1), (2, vI x2), (3, vI x3), (4, vI x4), (5, vI x5)] [vI s0] := by
  unfold fX12_leastOf_L94 at h
  refine g_istore (pc := 94) (L' := [(6, vI s0), (0, vA (some m)), (1, vI x1), (2, vI x2), (3, vI x3), (4, vI x4), (5, vI x5)]) B dX12_leastOf_94 (by decide) rfl ?_
  refine g_iload (pc := 96) B dX12_leastOf_96 6 rfl ?_
  refine g_if_eq (pc := 98) (tgt := 112) B dX12_leastOf_98 (by decide) (fun c98 => ?_) (fun c98 => ?_)
  · rw [if_pos c98] at h
    refine g_sub (pc := 112) [1, 2, 3, 4, 5] rfl ?_
    exact cb_X12_leastOf_L112 B ht hrec19 h
  · rw [if_neg c98] at h
    refine g_iload (pc := 101) B dX12_leastOf_101 0 rfl ?_
    refine g_iload_n (pc := 103) B dX12_leastOf_103 4 rfl ?_
    refine g_icmp_ge (pc := 104) (tgt := 112) B dX12_leastOf_104 (by decide) (fun c104 => ?_) (fun c104 => ?_)
    · rw [if_pos c104] at h
      refine g_sub (pc := 112) [1, 2, 3, 4, 5] rfl ?_
      exact cb_X12_leastOf_L112 B ht hrec19 h
    · rw [if_neg c104] at h
      refine g_iload (pc := 107) B dX12_leastOf_107 0 rfl ?_
      refine g_goto (pc := 109) (tgt := 113) B dX12_leastOf_109 (by decide) ?_
      refine g_sub (pc := 113) [1, 2, 3, 5] rfl ?_
      exact cb_X12_leastOf_L113 B ht hrec19 h
set_option maxRecDepth 100000 in
set_option maxHeartbeats 4000000 in
theorem cb_X12_leastOf_L75 {D : DD} {ev : EV} {m z : Nat} {X0 : SM} {fu : Nat} {rec19 : Int32 → Int32 → Int32 → Int32 → Option (Int32)} {x1 : Int32} {x2 : Int32} {x3 : Int32} {x4 : Int32} {s0 : Int32} {r : Int32} (B : Amb D (foot (xS m X0 z)) ev RX12 "leastOf" cX12_leastOf 7 (some .int) rmX12_leastOf) (ht : Tb0 ev) (hrec19 : ∀ {x1 : Int32} {x2 : Int32} {x3 : Int32} {x4 : Int32} {r : Int32}, rec19 x1 x2 x3 x4 = some r → Gd D (foot (xS m X0 z)) ev (QF D ev (xS m X0 z) (.inr (some (vI r))) (xS m X0 z) rmX12_leastOf) (xS m X0 z) 0 0 19 [(0, vA (some m)), (1, vI x1), (2, vI x2), (3, vI x3), (4, vI x4)] []) (h : fX12_leastOf_L75 fu X0 rec19 x1 x2 x3 x4 s0 = some r) : Gd D (foot (xS m X0 z)) ev (QF D ev (xS m X0 z) (.inr (some (vI r))) (xS m X0 z) rmX12_leastOf) (xS m X0 z) 0 0 75 [(0, vA (some m)), (1, vI x1), (2, vI x2), (3, vI x3), (4, vI x4)] [vI s0] := by
  unfold fX12_leastOf_L75 at h
  refine g_istore (pc := 75) (L' := [(5, vI s0), (0, vA (some m)), (1, vI x1), (2, vI x2), (3, vI x3), (4, vI x4)]) B dX12_leastOf_75 (by decide) rfl ?_
  refine g_iload_n (pc := 77) B dX12_leastOf_77 3 rfl ?_
  refine g_if_eq (pc := 78) (tgt := 89) B dX12_leastOf_78 (by decide) (fun c78 => ?_) (fun c78 => ?_)
  · rw [if_pos c78] at h
    refine g_iload (pc := 89) B dX12_leastOf_89 5 rfl ?_
    refine g_bipush (pc := 91) B dX12_leastOf_91 (16 : Int32) (by decide) ?_
    refine g_idiv (pc := 93) B dX12_leastOf_93 (by decide) ?_
    refine g_sub (pc := 94) [1, 2, 3, 4, 5, 0] rfl ?_
    exact cb_X12_leastOf_L94 B ht hrec19 h
  · rw [if_neg c78] at h
    refine g_iload (pc := 81) B dX12_leastOf_81 5 rfl ?_
    refine g_bipush (pc := 83) B dX12_leastOf_83 (16 : Int32) (by decide) ?_
    refine g_irem (pc := 85) B dX12_leastOf_85 (by decide) ?_
    refine g_goto (pc := 86) (tgt := 94) B dX12_leastOf_86 (by decide) ?_
    refine g_sub (pc := 94) [1, 2, 3, 4, 5, 0] rfl ?_
    exact cb_X12_leastOf_L94 B ht hrec19 h
set_option maxRecDepth 100000 in
set_option maxHeartbeats 4000000 in
theorem cb_X12_leastOf_L19b {D : DD} {ev : EV} {m z : Nat} {X0 : SM} {fu : Nat} {rec19 : Int32 → Int32 → Int32 → Int32 → Option (Int32)} {x1 : Int32} {x2 : Int32} {x3 : Int32} {x4 : Int32} {r : Int32} (B : Amb D (foot (xS m X0 z)) ev RX12 "leastOf" cX12_leastOf 7 (some .int) rmX12_leastOf) (ht : Tb0 ev) (hrec19 : ∀ {x1 : Int32} {x2 : Int32} {x3 : Int32} {x4 : Int32} {r : Int32}, rec19 x1 x2 x3 x4 = some r → Gd D (foot (xS m X0 z)) ev (QF D ev (xS m X0 z) (.inr (some (vI r))) (xS m X0 z) rmX12_leastOf) (xS m X0 z) 0 0 19 [(0, vA (some m)), (1, vI x1), (2, vI x2), (3, vI x3), (4, vI x4)] []) (h : fX12_leastOf_L19b fu X0 rec19 x1 x2 x3 x4 = some r) : Gd D (foot (xS m X0 z)) ev (QF D ev (xS m X0 z) (.inr (some (vI r))) (xS m X0 z) rmX12_leastOf) (xS m X0 z) 0 0 19 [(0, vA (some m)), (1, vI x1), (2, vI x2), (3, vI x3), (4, vI x4)] [] := by
  unfold fX12_leastOf_L19b at h
  refine g_iload (pc := 19) B dX12_leastOf_19 4 rfl ?_
  refine g_sipush (pc := 21) B dX12_leastOf_21 (256 : Int32) (by decide) ?_
  refine g_icmp_ge (pc := 24) (tgt := 120) B dX12_leastOf_24 (by decide) (fun c24 => ?_) (fun c24 => ?_)
  · rw [if_pos c24] at h
    refine g_iload_n (pc := 120) B dX12_leastOf_120 3 rfl ?_
    obtain rfl := Option.some.inj h
    exact g_ret_I (pc := 121) B rfl (by decide) (by decide) dX12_leastOf_121
  · rw [if_neg c24] at h
    refine g_aload_n (pc := 27) B dX12_leastOf_27 0 rfl ?_
    refine gs_arr (pc := 28) 18 13 B (by decide) (by decide) kfX12_50 dX12_leastOf_28 ?_
    refine g_bipush (pc := 31) B dX12_leastOf_31 (16 : Int32) (by decide) ?_
    refine g_iload_n (pc := 33) B dX12_leastOf_33 1 rfl ?_
    refine g_imul (pc := 34) B dX12_leastOf_34 ?_
    refine g_iload (pc := 35) B dX12_leastOf_35 4 rfl ?_
    refine g_bipush (pc := 37) B dX12_leastOf_37 (16 : Int32) (by decide) ?_
    refine g_idiv (pc := 39) B dX12_leastOf_39 (by decide) ?_
    refine g_iadd (pc := 40) B dX12_leastOf_40 ?_
    obtain ⟨c41, h⟩ := chk h
    refine gs_iald (pc := 41) B c41 dX12_leastOf_41 ?_
    refine g_aload_n (pc := 42) B dX12_leastOf_42 0 rfl ?_
    refine gs_arr (pc := 43) 19 14 B (by decide) (by decide) kfX12_53 dX12_leastOf_43 ?_
    refine g_bipush (pc := 46) B dX12_leastOf_46 (16 : Int32) (by decide) ?_
    refine g_iload_n (pc := 48) B dX12_leastOf_48 1 rfl ?_
    refine g_imul (pc := 49) B dX12_leastOf_49 ?_
    refine g_iload (pc := 50) B dX12_leastOf_50 4 rfl ?_
    refine g_bipush (pc := 52) B dX12_leastOf_52 (16 : Int32) (by decide) ?_
    refine g_idiv (pc := 54) B dX12_leastOf_54 (by decide) ?_
    refine g_iadd (pc := 55) B dX12_leastOf_55 ?_
    obtain ⟨c56, h⟩ := chk h
    refine gs_iald (pc := 56) B c56 dX12_leastOf_56 ?_
    refine g_ior (pc := 57) B dX12_leastOf_57 ?_
    refine g_iload (pc := 58) B dX12_leastOf_58 4 rfl ?_
    refine g_bipush (pc := 60) B dX12_leastOf_60 (16 : Int32) (by decide) ?_
    refine g_irem (pc := 62) B dX12_leastOf_62 (by decide) ?_
    refine g_ishr (pc := 63) B dX12_leastOf_63 ?_
    refine g_iconst (pc := 64) B dX12_leastOf_64 (1 : Int32) (by decide) ?_
    refine g_iand (pc := 65) B dX12_leastOf_65 ?_
    refine g_iconst (pc := 66) B dX12_leastOf_66 (1 : Int32) (by decide) ?_
    refine g_icmp_ne (pc := 67) (tgt := 74) B dX12_leastOf_67 (by decide) (fun c67 => ?_) (fun c67 => ?_)
    · rw [if_neg c67] at h
      refine g_iconst (pc := 74) B dX12_leastOf_74 (0 : Int32) (by decide) ?_
      refine g_sub (pc := 75) [0, 1, 2, 3, 4] rfl ?_
      exact cb_X12_leastOf_L75 B ht hrec19 h
    · rw [if_pos c67] at h
      refine g_iconst (pc := 70) B dX12_leastOf_70 (1 : Int32) (by decide) ?_
      refine g_goto (pc := 71) (tgt := 75) B dX12_leastOf_71 (by decide) ?_
      refine g_sub (pc := 75) [0, 1, 2, 3, 4] rfl ?_
      exact cb_X12_leastOf_L75 B ht hrec19 h
theorem cb_X12_leastOf_L19n {D : DD} {ev : EV} {m z : Nat} {X0 : SM} {fu : Nat} (B : Amb D (foot (xS m X0 z)) ev RX12 "leastOf" cX12_leastOf 7 (some .int) rmX12_leastOf) (ht : Tb0 ev)  : ∀ (n : Nat) {x1 : Int32} {x2 : Int32} {x3 : Int32} {x4 : Int32} {r : Int32}, fX12_leastOf_L19 fu X0 n x1 x2 x3 x4 = some r → Gd D (foot (xS m X0 z)) ev (QF D ev (xS m X0 z) (.inr (some (vI r))) (xS m X0 z) rmX12_leastOf) (xS m X0 z) 0 0 19 [(0, vA (some m)), (1, vI x1), (2, vI x2), (3, vI x3), (4, vI x4)] [] := by
  intro n
  induction n with
  | zero => intro x1 x2 x3 x4 r h; exact nomatch h
  | succ n ih => intro x1 x2 x3 x4 r h; exact cb_X12_leastOf_L19b (fu := fu) B ht (fun h9 => ih h9) h
theorem cb_X12_leastOf_L19 {D : DD} {ev : EV} {m z : Nat} {X0 : SM} {fu : Nat} {x1 : Int32} {x2 : Int32} {x3 : Int32} {x4 : Int32} {n : Nat} {r : Int32} (B : Amb D (foot (xS m X0 z)) ev RX12 "leastOf" cX12_leastOf 7 (some .int) rmX12_leastOf) (ht : Tb0 ev)  (h : fX12_leastOf_L19 fu X0 n x1 x2 x3 x4 = some r) : Gd D (foot (xS m X0 z)) ev (QF D ev (xS m X0 z) (.inr (some (vI r))) (xS m X0 z) rmX12_leastOf) (xS m X0 z) 0 0 19 [(0, vA (some m)), (1, vI x1), (2, vI x2), (3, vI x3), (4, vI x4)] [] := cb_X12_leastOf_L19n B ht n h
set_option maxRecDepth 100000 in
set_option maxHeartbeats 4000000 in
theorem cb_X12_leastOf_L15 {D : DD} {ev : EV} {m z : Nat} {X0 : SM} {fu : Nat} {x1 : Int32} {x2 : Int32} {s0 : Int32} {r : Int32} (B : Amb D (foot (xS m X0 z)) ev RX12 "leastOf" cX12_leastOf 7 (some .int) rmX12_leastOf) (ht : Tb0 ev)  (h : fX12_leastOf_L15 fu X0 x1 x2 s0 = some r) : Gd D (foot (xS m X0 z)) ev (QF D ev (xS m X0 z) (.inr (some (vI r))) (xS m X0 z) rmX12_leastOf) (xS m X0 z) 0 0 15 [(0, vA (some m)), (1, vI x1), (2, vI x2)] [vI s0] := by
  unfold fX12_leastOf_L15 at h
  refine g_istore_n (pc := 15) (L' := [(3, vI s0), (0, vA (some m)), (1, vI x1), (2, vI x2)]) B dX12_leastOf_15 (by decide) rfl ?_
  refine g_iconst (pc := 16) B dX12_leastOf_16 (0 : Int32) (by decide) ?_
  refine g_istore (pc := 17) (L' := [(4, vI (0 : Int32)), (3, vI s0), (0, vA (some m)), (1, vI x1), (2, vI x2)]) B dX12_leastOf_17 (by decide) rfl ?_
  refine g_sub (pc := 19) [2, 3, 4, 1, 0] rfl ?_
  exact cb_X12_leastOf_L19 B ht h
set_option maxRecDepth 100000 in
set_option maxHeartbeats 4000000 in
theorem cb_X12_leastOf_L0 {D : DD} {ev : EV} {m z : Nat} {X0 : SM} {fu : Nat} {x1 : Int32} {x2 : Int32} {r : Int32} (B : Amb D (foot (xS m X0 z)) ev RX12 "leastOf" cX12_leastOf 7 (some .int) rmX12_leastOf) (ht : Tb0 ev)  (h : fX12_leastOf fu X0 x1 x2 = some r) : Gd D (foot (xS m X0 z)) ev (QF D ev (xS m X0 z) (.inr (some (vI r))) (xS m X0 z) rmX12_leastOf) (xS m X0 z) 0 0 0 [(0, vA (some m)), (1, vI x1), (2, vI x2)] [] := by
  unfold fX12_leastOf at h
  refine g_aload_n (pc := 0) B dX12_leastOf_0 0 rfl ?_
  refine gs_arr (pc := 1) 17 12 B (by decide) (by decide) kfX12_47 dX12_leastOf_1 ?_
  refine g_iload_n (pc := 4) B dX12_leastOf_4 1 rfl ?_
  obtain ⟨c5, h⟩ := chk h
  refine gs_iald (pc := 5) B c5 dX12_leastOf_5 ?_
  refine g_if_ne (pc := 6) (tgt := 13) B dX12_leastOf_6 (by decide) (fun c6 => ?_) (fun c6 => ?_)
  · rw [if_neg c6] at h
    refine g_bipush (pc := 13) B dX12_leastOf_13 (16 : Int32) (by decide) ?_
    refine g_sub (pc := 15) [0, 1, 2] rfl ?_
    exact cb_X12_leastOf_L15 B ht h
  · rw [if_pos c6] at h
    refine g_iconst (pc := 9) B dX12_leastOf_9 (0 : Int32) (by decide) ?_
    refine g_goto (pc := 10) (tgt := 15) B dX12_leastOf_10 (by decide) ?_
    refine g_sub (pc := 15) [0, 1, 2] rfl ?_
    exact cb_X12_leastOf_L15 B ht h
theorem ct_X12_leastOf {D : DD} {l : Launch} {m z : Nat} {X0 : SM} {fu : Nat} {x1 : Int32} {x2 : Int32} {r : Int32} (hl : l.stackTraces = false) (h : fX12_leastOf fu X0 x1 x2 = some r) : Ctr D l yX12_leastOf cX12_leastOf 7 (some .int) rmX12_leastOf [vA (some m), vI x1, vI x2] (xS m X0 z) (.inr (some (vI r))) (xS m X0 z) :=
  ctr_of hl (plainFor_of_name (by decide)) (Nat.le_of_ble_eq_true rfl) fun ev _ ht B => cb_X12_leastOf_L0 B ht h
set_option maxRecDepth 100000 in
set_option maxHeartbeats 4000000 in
theorem cb_X12_alike_L216 {D : DD} {ev : EV} {m z : Nat} {X0 : SM} {fu : Nat} {rec54 : Int32 → Int32 → Int32 → Int32 → Int32 → Int32 → Int32 → Int32 → Option (Int32)} {x1 : Int32} {x2 : Int32} {x3 : Int32} {x4 : Int32} {x5 : Int32} {x6 : Int32} {x8 : Int32} {s0 : Int32} {r : Int32} (B : Amb D (foot (xS m X0 z)) ev RX12 "alike" cX12_alike 13 (some .boolean) rmX12_alike) (ht : Tb0 ev) (hrec54 : ∀ {x1 : Int32} {x2 : Int32} {x3 : Int32} {x4 : Int32} {x5 : Int32} {x6 : Int32} {x7 : Int32} {x8 : Int32} {r : Int32}, rec54 x1 x2 x3 x4 x5 x6 x7 x8 = some r → Gd D (foot (xS m X0 z)) ev (QF D ev (xS m X0 z) (.inr (some (vI r))) (xS m X0 z) rmX12_alike) (xS m X0 z) 0 0 54 [(0, vA (some m)), (1, vI x1), (2, vI x2), (3, vI x3), (4, vI x4), (5, vI x5), (6, vI x6), (7, vI x7), (8, vI x8)] []) (h : fX12_alike_L216 fu X0 rec54 x1 x2 x3 x4 x5 x6 x8 s0 = some r) : Gd D (foot (xS m X0 z)) ev (QF D ev (xS m X0 z) (.inr (some (vI r))) (xS m X0 z) rmX12_alike) (xS m X0 z) 0 0 216 [(0, vA (some m)), (1, vI x1), (2, vI x2), (3, vI x3), (4, vI x4), (5, vI x5), (6, vI x6), (8, vI x8)] [vI s0] := by
  unfold fX12_alike_L216 at h
  refine g_istore (pc := 216) (L' := [(7, vI s0), (0, vA (some m)), (1, vI x1), (2, vI x2), (3, vI x3), (4, vI x4), (5, vI x5), (6, vI x6), (8, vI x8)]) B dX12_alike_216 (by decide) rfl ?_
  refine g_iinc (pc := 218) (v := (x8 + (1 : Int32))) (L' := [(8, vI (x8 + (1 : Int32))), (7, vI s0), (0, vA (some m)), (1, vI x1), (2, vI x2), (3, vI x3), (4, vI x4), (5, vI x5), (6, vI x6)]) B dX12_alike_218 (by decide) 8 rfl rfl rfl ?_
  refine g_goto (pc := 221) (tgt := 54) B dX12_alike_221 (by decide) ?_
  refine g_sub (pc := 54) [2, 3, 4, 5, 6, 7, 8, 1, 0] rfl ?_
  exact hrec54 h
set_option maxRecDepth 100000 in
set_option maxHeartbeats 4000000 in
theorem cb_X12_alike_L215 {D : DD} {ev : EV} {m z : Nat} {X0 : SM} {fu : Nat} {rec54 : Int32 → Int32 → Int32 → Int32 → Int32 → Int32 → Int32 → Int32 → Option (Int32)} {x1 : Int32} {x2 : Int32} {x3 : Int32} {x4 : Int32} {x5 : Int32} {x6 : Int32} {x8 : Int32} {r : Int32} (B : Amb D (foot (xS m X0 z)) ev RX12 "alike" cX12_alike 13 (some .boolean) rmX12_alike) (ht : Tb0 ev) (hrec54 : ∀ {x1 : Int32} {x2 : Int32} {x3 : Int32} {x4 : Int32} {x5 : Int32} {x6 : Int32} {x7 : Int32} {x8 : Int32} {r : Int32}, rec54 x1 x2 x3 x4 x5 x6 x7 x8 = some r → Gd D (foot (xS m X0 z)) ev (QF D ev (xS m X0 z) (.inr (some (vI r))) (xS m X0 z) rmX12_alike) (xS m X0 z) 0 0 54 [(0, vA (some m)), (1, vI x1), (2, vI x2), (3, vI x3), (4, vI x4), (5, vI x5), (6, vI x6), (7, vI x7), (8, vI x8)] []) (h : fX12_alike_L215 fu X0 rec54 x1 x2 x3 x4 x5 x6 x8 = some r) : Gd D (foot (xS m X0 z)) ev (QF D ev (xS m X0 z) (.inr (some (vI r))) (xS m X0 z) rmX12_alike) (xS m X0 z) 0 0 215 [(0, vA (some m)), (1, vI x1), (2, vI x2), (3, vI x3), (4, vI x4), (5, vI x5), (6, vI x6), (8, vI x8)] [] := by
  unfold fX12_alike_L215 at h
  refine g_iconst (pc := 215) B dX12_alike_215 (0 : Int32) (by decide) ?_
  refine g_sub (pc := 216) [0, 1, 2, 3, 4, 5, 6, 7] rfl ?_
  exact cb_X12_alike_L216 B ht hrec54 h
set_option maxRecDepth 100000 in
set_option maxHeartbeats 4000000 in
theorem cb_X12_alike_L208 {D : DD} {ev : EV} {m z : Nat} {X0 : SM} {fu : Nat} {rec54 : Int32 → Int32 → Int32 → Int32 → Int32 → Int32 → Int32 → Int32 → Option (Int32)} {x1 : Int32} {x2 : Int32} {x3 : Int32} {x4 : Int32} {x5 : Int32} {x6 : Int32} {x8 : Int32} {s0 : Int32} {s1 : Int32} {r : Int32} (B : Amb D (foot (xS m X0 z)) ev RX12 "alike" cX12_alike 13 (some .boolean) rmX12_alike) (ht : Tb0 ev) (hrec54 : ∀ {x1 : Int32} {x2 : Int32} {x3 : Int32} {x4 : Int32} {x5 : Int32} {x6 : Int32} {x7 : Int32} {x8 : Int32} {r : Int32}, rec54 x1 x2 x3 x4 x5 x6 x7 x8 = some r → Gd D (foot (xS m X0 z)) ev (QF D ev (xS m X0 z) (.inr (some (vI r))) (xS m X0 z) rmX12_alike) (xS m X0 z) 0 0 54 [(0, vA (some m)), (1, vI x1), (2, vI x2), (3, vI x3), (4, vI x4), (5, vI x5), (6, vI x6), (7, vI x7), (8, vI x8)] []) (h : fX12_alike_L208 fu X0 rec54 x1 x2 x3 x4 x5 x6 x8 s0 s1 = some r) : Gd D (foot (xS m X0 z)) ev (QF D ev (xS m X0 z) (.inr (some (vI r))) (xS m X0 z) rmX12_alike) (xS m X0 z) 0 0 208 [(0, vA (some m)), (1, vI x1), (2, vI x2), (3, vI x3), (4, vI x4), (5, vI x5), (6, vI x6), (8, vI x8)] [vI s1, vI s0] := by
  unfold fX12_alike_L208 at h
  refine g_icmp_ne (pc := 208) (tgt := 215) B dX12_alike_208 (by decide) (fun c208 => ?_) (fun c208 => ?_)
  · rw [if_neg c208] at h
    refine g_sub (pc := 215) [0, 1, 2, 3, 4, 5, 6, 7] rfl ?_
    exact cb_X12_alike_L215 B ht hrec54 h
  · rw [if_pos c208] at h
    refine g_iconst (pc := 211) B dX12_alike_211 (1 : Int32) (by decide) ?_
    refine g_goto (pc := 212) (tgt := 216) B dX12_alike_212 (by decide) ?_
    refine g_sub (pc := 216) [0, 1, 2, 3, 4, 5, 6, 7] rfl ?_
    exact cb_X12_alike_L216 B ht hrec54 h
set_option maxRecDepth 100000 in
set_option maxHeartbeats 4000000 in
theorem cb_X12_alike_L179 {D : DD} {ev : EV} {m z : Nat} {X0 : SM} {fu : Nat} {rec54 : Int32 → Int32 → Int32 → Int32 → Int32 → Int32 → Int32 → Int32 → Option (Int32)} {x1 : Int32} {x2 : Int32} {x3 : Int32} {x4 : Int32} {x5 : Int32} {x6 : Int32} {x8 : Int32} {x10 : Int32} {x12 : Int32} {s0 : Int32} {s1 : Int32} {r : Int32} (B : Amb D (foot (xS m X0 z)) ev RX12 "alike" cX12_alike 13 (some .boolean) rmX12_alike) (ht : Tb0 ev) (hrec54 : ∀ {x1 : Int32} {x2 : Int32} {x3 : Int32} {x4 : Int32} {x5 : Int32} {x6 : Int32} {x7 : Int32} {x8 : Int32} {r : Int32}, rec54 x1 x2 x3 x4 x5 x6 x7 x8 = some r → Gd D (foot (xS m X0 z)) ev (QF D ev (xS m X0 z) (.inr (some (vI r))) (xS m X0 z) rmX12_alike) (xS m X0 z) 0 0 54 [(0, vA (some m)), (1, vI x1), (2, vI x2), (3, vI x3), (4, vI x4), (5, vI x5), (6, vI x6), (7, vI x7), (8, vI x8)] []) (h : fX12_alike_L179 fu X0 rec54 x1 x2 x3 x4 x5 x6 x8 x10 x12 s0 s1 = some r) : Gd D (foot (xS m X0 z)) ev (QF D ev (xS m X0 z) (.inr (some (vI r))) (xS m X0 z) rmX12_alike) (xS m X0 z) 0 0 179 [(0, vA (some m)), (1, vI x1), (2, vI x2), (3, vI x3), (4, vI x4), (5, vI x5), (6, vI x6), (8, vI x8), (10, vI x10), (12, vI x12)] [vI s1, vI s0] := by
  unfold fX12_alike_L179 at h
  refine g_icmp_ne (pc := 179) (tgt := 215) B dX12_alike_179 (by decide) (fun c179 => ?_) (fun c179 => ?_)
  · rw [if_neg c179] at h
    refine g_sub (pc := 215) [0, 1, 2, 3, 4, 5, 6, 7] rfl ?_
    exact cb_X12_alike_L215 B ht hrec54 h
  · rw [if_pos c179] at h
    refine g_iload (pc := 182) B dX12_alike_182 9 rfl ?_
    refine g_iload (pc := 184) B dX12_alike_184 6 rfl ?_
    refine g_iload (pc := 186) B dX12_alike_186 7 rfl ?_
    refine g_iadd (pc := 188) B dX12_alike_188 ?_
    refine g_bipush (pc := 189) B dX12_alike_189 (16 : Int32) (by decide) ?_
    refine g_icmp_ge (pc := 191) (tgt := 207) B dX12_alike_191 (by decide) (fun c191 => ?_) (fun c191 => ?_)
    · rw [if_pos c191] at h
      refine g_iconst (pc := 207) B dX12_alike_207 (0 : Int32) (by decide) ?_
      refine g_sub (pc := 208) [0, 1, 2, 3, 4, 5, 6, 7] rfl ?_
      exact cb_X12_alike_L208 B ht hrec54 h
    · rw [if_neg c191] at h
      refine g_aload_n (pc := 194) B dX12_alike_194 0 rfl ?_
      refine gs_arr (pc := 195) 19 14 B (by decide) (by decide) kfX12_53 dX12_alike_195 ?_
      refine g_iload (pc := 198) B dX12_alike_198 8 rfl ?_
      obtain ⟨c200, h⟩ := chk h
      refine gs_iald (pc := 200) B c200 dX12_alike_200 ?_
      refine g_iload (pc := 201) B dX12_alike_201 5 rfl ?_
      refine g_ishr (pc := 203) B dX12_alike_203 ?_
      refine g_goto (pc := 204) (tgt := 208) B dX12_alike_204 (by decide) ?_
      refine g_sub (pc := 208) [0, 1, 2, 3, 4, 5, 6, 7] rfl ?_
      exact cb_X12_alike_L208 B ht hrec54 h
set_option maxRecDepth 100000 in
set_option maxHeartbeats 4000000 in
theorem cb_X12_alike_L146 {D : DD} {ev : EV} {m z : Nat} {X0 : SM} {fu : Nat} {rec54 : Int32 → Int32 → Int32 → Int32 → Int32 → Int32 → Int32 → Int32 → Option (Int32)} {x1 : Int32} {x2 : Int32} {x3 : Int32} {x4 : Int32} {x5 : Int32} {x6 : Int32} {x7 : Int32} {x8 : Int32} {x10 : Int32} {x11 : Int32} {s0 : Int32} {r : Int32} (B : Amb D (foot (xS m X0 z)) ev RX12 "alike" cX12_alike 13 (some .boolean) rmX12_alike) (ht : Tb0 ev) (hrec54 : ∀ {x1 : Int32} {x2 : Int32} {x3 : Int32} {x4 : Int32} {x5 : Int32} {x6 : Int32} {x7 : Int32} {x8 : Int32} {r : Int32}, rec54 x1 x2 x3 x4 x5 x6 x7 x8 = some r → Gd D (foot (xS m X0 z)) ev (QF D ev (xS m X0 z) (.inr (some (vI r))) (xS m X0 z) rmX12_alike) (xS m X0 z) 0 0 54 [(0, vA (some m)), (1, vI x1), (2, vI x2), (3, vI x3), (4, vI x4), (5, vI x5), (6, vI x6), (7, vI x7), (8, vI x8)] []) (h : fX12_alike_L146 fu X0 rec54 x1 x2 x3 x4 x5 x6 x7 x8 x10 x11 s0 = some r) : Gd D (foot (xS m X0 z)) ev (QF D ev (xS m X0 z) (.inr (some (vI r))) (xS m X0 z) rmX12_alike) (xS m X0 z) 0 0 146 [(0, vA (some m)), (1, vI x1), (2, vI x2), (3, vI x3), (4, vI x4), (5, vI x5), (6, vI x6), (7, vI x7), (8, vI x8), (10, vI x10), (11, vI x11)] [vI s0] := by
  unfold fX12_alike_L146 at h
  refine g_istore (pc := 146) (L' := [(12, vI s0), (0, vA (some m)), (1, vI x1), (2, vI x2), (3, vI x3), (4, vI x4), (5, vI x5), (6, vI x6), (7, vI x7), (8, vI x8), (10, vI x10), (11, vI x11)]) B dX12_alike_146 (by decide) rfl ?_
  refine g_iload (pc := 148) B dX12_alike_148 8 rfl ?_
  refine g_if_eq (pc := 150) (tgt := 215) B dX12_alike_150 (by decide) (fun c150 => ?_) (fun c150 => ?_)
  · rw [if_pos c150] at h
    refine g_sub (pc := 215) [1, 2, 3, 4, 5, 6, 7, 9] rfl ?_
    exact cb_X12_alike_L215 B ht hrec54 h
  · rw [if_neg c150] at h
    refine g_iload (pc := 153) B dX12_alike_153 11 rfl ?_
    refine g_iload (pc := 155) B dX12_alike_155 7 rfl ?_
    refine g_iload (pc := 157) B dX12_alike_157 9 rfl ?_
    refine g_iadd (pc := 159) B dX12_alike_159 ?_
    refine g_bipush (pc := 160) B dX12_alike_160 (16 : Int32) (by decide) ?_
    refine g_icmp_ge (pc := 162) (tgt := 178) B dX12_alike_162 (by decide) (fun c162 => ?_) (fun c162 => ?_)
    · rw [if_pos c162] at h
      refine g_iconst (pc := 178) B dX12_alike_178 (0 : Int32) (by decide) ?_
      refine g_sub (pc := 179) [1, 2, 3, 4, 5, 6, 7, 9, 10, 0] rfl ?_
      exact cb_X12_alike_L179 B ht hrec54 h
    · rw [if_neg c162] at h
      refine g_aload_n (pc := 165) B dX12_alike_165 1 rfl ?_
      refine gs_arr (pc := 166) 18 13 B (by decide) (by decide) kfX12_50 dX12_alike_166 ?_
      refine g_iload (pc := 169) B dX12_alike_169 10 rfl ?_
      obtain ⟨c171, h⟩ := chk h
      refine gs_iald (pc := 171) B c171 dX12_alike_171 ?_
      refine g_iload (pc := 172) B dX12_alike_172 6 rfl ?_
      refine g_ishr (pc := 174) B dX12_alike_174 ?_
      refine g_goto (pc := 175) (tgt := 179) B dX12_alike_175 (by decide) ?_
      refine g_sub (pc := 179) [1, 2, 3, 4, 5, 6, 7, 9, 10, 0] rfl ?_
      exact cb_X12_alike_L179 B ht hrec54 h
set_option maxRecDepth 100000 in
set_option maxHeartbeats 4000000 in
theorem cb_X12_alike_L121 {D : DD} {ev : EV} {m z : Nat} {X0 : SM} {fu : Nat} {rec54 : Int32 → Int32 → Int32 → Int32 → Int32 → Int32 → Int32 → Int32 → Option (Int32)} {x1 : Int32} {x2 : Int32} {x3 : Int32} {x4 : Int32} {x5 : Int32} {x6 : Int32} {x7 : Int32} {x8 : Int32} {x9 : Int32} {x10 : Int32} {s0 : Int32} {r : Int32} (B : Amb D (foot (xS m X0 z)) ev RX12 "alike" cX12_alike 13 (some .boolean) rmX12_alike) (ht : Tb0 ev) (hrec54 : ∀ {x1 : Int32} {x2 : Int32} {x3 : Int32} {x4 : Int32} {x5 : Int32} {x6 : Int32} {x7 : Int32} {x8 : Int32} {r : Int32}, rec54 x1 x2 x3 x4 x5 x6 x7 x8 = some r → Gd D (foot (xS m X0 z)) ev (QF D ev (xS m X0 z) (.inr (some (vI r))) (xS m X0 z) rmX12_alike) (xS m X0 z) 0 0 54 [(0, vA (some m)), (1, vI x1), (2, vI x2), (3, vI x3), (4, vI x4), (5, vI x5), (6, vI x6), (7, vI x7), (8, vI x8)] []) (h : fX12_alike_L121 fu X0 rec54 x1 x2 x3 x4 x5 x6 x7 x8 x9 x10 s0 = some r) : Gd D (foot (xS m X0 z)) ev (QF D ev (xS m X0 z) (.inr (some (vI r))) (xS m X0 z) rmX12_alike) (xS m X0 z) 0 0 121 [(0, vA (some m)), (1, vI x1), (2, vI x2), (3, vI x3), (4, vI x4), (5, vI x5), (6, vI x6), (7, vI x7), (8, vI x8), (9, vI x9), (10, vI x10)] [vI s0] := by
  unfold fX12_alike_L121 at h
  refine g_istore (pc := 121) (L' := [(11, vI s0), (0, vA (some m)), (1, vI x1), (2, vI x2), (3, vI x3), (4, vI x4), (5, vI x5), (6, vI x6), (7, vI x7), (8, vI x8), (9, vI x9), (10, vI x10)]) B dX12_alike_121 (by decide) rfl ?_
  refine g_iload (pc := 123) B dX12_alike_123 5 rfl ?_
  refine g_iload (pc := 125) B dX12_alike_125 9 rfl ?_
  refine g_iadd (pc := 127) B dX12_alike_127 ?_
  refine g_bipush (pc := 128) B dX12_alike_128 (16 : Int32) (by decide) ?_
  refine g_icmp_ge (pc := 130) (tgt := 145) B dX12_alike_130 (by decide) (fun c130 => ?_) (fun c130 => ?_)
  · rw [if_pos c130] at h
    refine g_iconst (pc := 145) B dX12_alike_145 (0 : Int32) (by decide) ?_
    refine g_sub (pc := 146) [1, 2, 3, 4, 5, 6, 7, 8, 9, 11, 0] rfl ?_
    exact cb_X12_alike_L146 B ht hrec54 h
  · rw [if_neg c130] at h
    refine g_aload_n (pc := 133) B dX12_alike_133 1 rfl ?_
    refine gs_arr (pc := 134) 19 14 B (by decide) (by decide) kfX12_53 dX12_alike_134 ?_
    refine g_iload (pc := 137) B dX12_alike_137 10 rfl ?_
    obtain ⟨c139, h⟩ := chk h
    refine gs_iald (pc := 139) B c139 dX12_alike_139 ?_
    refine g_iload_n (pc := 140) B dX12_alike_140 4 rfl ?_
    refine g_ishr (pc := 141) B dX12_alike_141 ?_
    refine g_goto (pc := 142) (tgt := 146) B dX12_alike_142 (by decide) ?_
    refine g_sub (pc := 146) [1, 2, 3, 4, 5, 6, 7, 8, 9, 11, 0] rfl ?_
    exact cb_X12_alike_L146 B ht hrec54 h
set_option maxRecDepth 100000 in
set_option maxHeartbeats 4000000 in
theorem cb_X12_alike_L74 {D : DD} {ev : EV} {m z : Nat} {X0 : SM} {fu : Nat} {rec54 : Int32 → Int32 → Int32 → Int32 → Int32 → Int32 → Int32 → Int32 → Option (Int32)} {x1 : Int32} {x2 : Int32} {x3 : Int32} {x4 : Int32} {x5 : Int32} {x6 : Int32} {x7 : Int32} {x8 : Int32} {r : Int32} (B : Amb D (foot (xS m X0 z)) ev RX12 "alike" cX12_alike 13 (some .boolean) rmX12_alike) (ht : Tb0 ev) (hrec54 : ∀ {x1 : Int32} {x2 : Int32} {x3 : Int32} {x4 : Int32} {x5 : Int32} {x6 : Int32} {x7 : Int32} {x8 : Int32} {r : Int32}, rec54 x1 x2 x3 x4 x5 x6 x7 x8 = some r → Gd D (foot (xS m X0 z)) ev (QF D ev (xS m X0 z) (.inr (some (vI r))) (xS m X0 z) rmX12_alike) (xS m X0 z) 0 0 54 [(0, vA (some m)), (1, vI x1), (2, vI x2), (3, vI x3), (4, vI x4), (5, vI x5), (6, vI x6), (7, vI x7), (8, vI x8)] []) (h : fX12_alike_L74 fu X0 rec54 x1 x2 x3 x4 x5 x6 x7 x8 = some r) : Gd D (foot (xS m X0 z)) ev (QF D ev (xS m X0 z) (.inr (some (vI r))) (xS m X0 z) rmX12_alike) (xS m X0 z) 0 0 74 [(0, vA (some m)), (1, vI x1), (2, vI x2), (3, vI x3), (4, vI x4), (5, vI x5), (6, vI x6), (7, vI x7), (8, vI x8)] [] := by
  unfold fX12_alike_L74 at h
  refine g_bipush (pc := 74) B dX12_alike_74 (16 : Int32) (by decide) ?_
  refine g_iload_n (pc := 76) B dX12_alike_76 1 rfl ?_
  refine g_imul (pc := 77) B dX12_alike_77 ?_
  refine g_iload (pc := 78) B dX12_alike_78 4 rfl ?_
  refine g_iadd (pc := 80) B dX12_alike_80 ?_
  refine g_iload (pc := 81) B dX12_alike_81 8 rfl ?_
  refine g_iadd (pc := 83) B dX12_alike_83 ?_
  refine g_istore (pc := 84) (L' := [(9, vI ((((16 : Int32) * x1) + x4) + x8)), (0, vA (some m)), (1, vI x1), (2, vI x2), (3, vI x3), (4, vI x4), (5, vI x5), (6, vI x6), (7, vI x7), (8, vI x8)]) B dX12_alike_84 (by decide) rfl ?_
  refine g_bipush (pc := 86) B dX12_alike_86 (16 : Int32) (by decide) ?_
  refine g_iload_n (pc := 88) B dX12_alike_88 3 rfl ?_
  refine g_imul (pc := 89) B dX12_alike_89 ?_
  refine g_iload (pc := 90) B dX12_alike_90 7 rfl ?_
  refine g_iadd (pc := 92) B dX12_alike_92 ?_
  refine g_iload (pc := 93) B dX12_alike_93 9 rfl ?_
  refine g_iadd (pc := 95) B dX12_alike_95 ?_
  refine g_istore (pc := 96) (L' := [(10, vI ((((16 : Int32) * x2) + x6) + x8)), (9, vI ((((16 : Int32) * x1) + x4) + x8)), (0, vA (some m)), (1, vI x1), (2, vI x2), (3, vI x3), (4, vI x4), (5, vI x5), (6, vI x6), (7, vI x7), (8, vI x8)]) B dX12_alike_96 (by decide) rfl ?_
  refine g_iload (pc := 98) B dX12_alike_98 6 rfl ?_
  refine g_iload (pc := 100) B dX12_alike_100 10 rfl ?_
  refine g_iadd (pc := 102) B dX12_alike_102 ?_
  refine g_bipush (pc := 103) B dX12_alike_103 (16 : Int32) (by decide) ?_
  refine g_icmp_ge (pc := 105) (tgt := 120) B dX12_alike_105 (by decide) (fun c105 => ?_) (fun c105 => ?_)
  · rw [if_pos c105] at h
    refine g_iconst (pc := 120) B dX12_alike_120 (0 : Int32) (by decide) ?_
    refine g_sub (pc := 121) [2, 3, 4, 5, 6, 7, 8, 9, 10, 1, 0] rfl ?_
    exact cb_X12_alike_L121 B ht hrec54 h
  · rw [if_neg c105] at h
    refine g_aload_n (pc := 108) B dX12_alike_108 2 rfl ?_
    refine gs_arr (pc := 109) 18 13 B (by decide) (by decide) kfX12_50 dX12_alike_109 ?_
    refine g_iload (pc := 112) B dX12_alike_112 1 rfl ?_
    obtain ⟨c114, h⟩ := chk h
    refine gs_iald (pc := 114) B c114 dX12_alike_114 ?_
    refine g_iload_n (pc := 115) B dX12_alike_115 5 rfl ?_
    refine g_ishr (pc := 116) B dX12_alike_116 ?_
    refine g_goto (pc := 117) (tgt := 121) B dX12_alike_117 (by decide) ?_
    refine g_sub (pc := 121) [2, 3, 4, 5, 6, 7, 8, 9, 10, 1, 0] rfl ?_
    exact cb_X12_alike_L121 B ht hrec54 h
set_option maxRecDepth 100000 in
set_option maxHeartbeats 4000000 in
theorem cb_X12_alike_L54b {D : DD} {ev : EV} {m z : Nat} {X0 : SM} {fu : Nat} {rec54 : Int32 → Int32 → Int32 → Int32 → Int32 → Int32 → Int32 → Int32 → Option (Int32)} {x1 : Int32} {x2 : Int32} {x3 : Int32} {x4 : Int32} {x5 : Int32} {x6 : Int32} {x7 : Int32} {x8 : Int32} {r : Int32} (B : Amb D (foot (xS m X0 z)) ev RX12 "alike" cX12_alike 13 (some .boolean) rmX12_alike) (ht : Tb0 ev) (hrec54 : ∀ {x1 : Int32} {x2 : Int32} {x3 : Int32} {x4 : Int32} {x5 : Int32} {x6 : Int32} {x7 : Int32} {x8 : Int32} {r : Int32}, rec54 x1 x2 x3 x4 x5 x6 x7 x8 = some r → Gd D (foot (xS m X0 z)) ev (QF D ev (xS m X0 z) (.inr (some (vI r))) (xS m X0 z) rmX12_alike) (xS m X0 z) 0 0 54 [(0, vA (some m)), (1, vI x1), (2, vI x2), (3, vI x3), (4, vI x4), (5, vI x5), (6, vI x6), (7, vI x7), (8, vI x8)] []) (h : fX12_alike_L54b fu X0 rec54 x1 x2 x3 x4 x5 x6 x7 x8 = some r) : Gd D (foot (xS m X0 z)) ev (QF D ev (xS m X0 z) (.inr (some (vI r))) (xS m X0 z) rmX12_alike) (xS m X0 z) 0 0 54 [(0, vA (some m)), (1, vI x1), (2, vI x2), (3, vI x3), (4, vI x4), (5, vI x5), (6, vI x6), (7, vI x7), (8, vI x8)] [] := by
  unfold fX12_alike_L54b at h
  refine g_iload (pc := 54) B dX12_alike_54 8 rfl ?_
  refine g_iload (pc := 56) B dX12_alike_56 4 rfl ?_
  refine g_iadd (pc := 58) B dX12_alike_58 ?_
  refine g_bipush (pc := 59) B dX12_alike_59 (16 : Int32) (by decide) ?_
  refine g_icmp_lt (pc := 61) (tgt := 74) B dX12_alike_61 (by decide) (fun c61 => ?_) (fun c61 => ?_)
  · rw [if_pos c61] at h
    refine g_sub (pc := 74) [0, 1, 2, 3, 4, 5, 6, 7, 8] rfl ?_
    exact cb_X12_alike_L74 B ht hrec54 h
  · rw [if_neg c61] at h
    refine g_iload (pc := 64) B dX12_alike_64 8 rfl ?_
    refine g_iload (pc := 66) B dX12_alike_66 6 rfl ?_
    refine g_iadd (pc := 68) B dX12_alike_68 ?_
    refine g_bipush (pc := 69) B dX12_alike_69 (16 : Int32) (by decide) ?_
    refine g_icmp_ge (pc := 71) (tgt := 224) B dX12_alike_71 (by decide) (fun c71 => ?_) (fun c71 => ?_)
    · rw [if_pos c71] at h
      refine g_iload (pc := 224) B dX12_alike_224 7 rfl ?_
      obtain ⟨z226, h⟩ := chk h
      obtain rfl := Option.some.inj h
      exact g_ret_Z (pc := 226) B rfl z226 (by decide) (by decide) dX12_alike_226
    · rw [if_neg c71] at h
      refine g_sub (pc := 74) [0, 1, 2, 3, 4, 5, 6, 7, 8] rfl ?_
      exact cb_X12_alike_L74 B ht hrec54 h
theorem cb_X12_alike_L54n {D : DD} {ev : EV} {m z : Nat} {X0 : SM} {fu : Nat} (B : Amb D (foot (xS m X0 z)) ev RX12 "alike" cX12_alike 13 (some .boolean) rmX12_alike) (ht : Tb0 ev)  : ∀ (n : Nat) {x1 : Int32} {x2 : Int32} {x3 : Int32} {x4 : Int32} {x5 : Int32} {x6 : Int32} {x7 : Int32} {x8 : Int32} {r : Int32}, fX12_alike_L54 fu X0 n x1 x2 x3 x4 x5 x6 x7 x8 = some r → Gd D (foot (xS m X0 z)) ev (QF D ev (xS m X0 z) (.inr (some (vI r))) (xS m X0 z) rmX12_alike) (xS m X0 z) 0 0 54 [(0, vA (some m)), (1, vI x1), (2, vI x2), (3, vI x3), (4, vI x4), (5, vI x5), (6, vI x6), (7, vI x7), (8, vI x8)] [] := by
  intro n
  induction n with
  | zero => intro x1 x2 x3 x4 x5 x6 x7 x8 r h; exact nomatch h
  | succ n ih => intro x1 x2 x3 x4 x5 x6 x7 x8 r h; exact cb_X12_alike_L54b (fu := fu) B ht (fun h9 => ih h9) h
theorem cb_X12_alike_L54 {D : DD} {ev : EV} {m z : Nat} {X0 : SM} {fu : Nat} {x1 : Int32} {x2 : Int32} {x3 : Int32} {x4 : Int32} {x5 : Int32} {x6 : Int32} {x7 : Int32} {x8 : Int32} {n : Nat} {r : Int32} (B : Amb D (foot (xS m X0 z)) ev RX12 "alike" cX12_alike 13 (some .boolean) rmX12_alike) (ht : Tb0 ev)  (h : fX12_alike_L54 fu X0 n x1 x2 x3 x4 x5 x6 x7 x8 = some r) : Gd D (foot (xS m X0 z)) ev (QF D ev (xS m X0 z) (.inr (some (vI r))) (xS m X0 z) rmX12_alike) (xS m X0 z) 0 0 54 [(0, vA (some m)), (1, vI x1), (2, vI x2), (3, vI x3), (4, vI x4), (5, vI x5), (6, vI x6), (7, vI x7), (8, vI x8)] [] := cb_X12_alike_L54n B ht n h
set_option maxRecDepth 100000 in
set_option maxHeartbeats 4000000 in
theorem cb_X12_alike_L0 {D : DD} {ev : EV} {m z : Nat} {X0 : SM} {fu : Nat} {x1 : Int32} {x2 : Int32} {r : Int32} (B : Amb D (foot (xS m X0 z)) ev RX12 "alike" cX12_alike 13 (some .boolean) rmX12_alike) (ht : Tb0 ev)  (h : fX12_alike fu X0 x1 x2 = some r) : Gd D (foot (xS m X0 z)) ev (QF D ev (xS m X0 z) (.inr (some (vI r))) (xS m X0 z) rmX12_alike) (xS m X0 z) 0 0 0 [(0, vA (some m)), (1, vI x1), (2, vI x2)] [] := by
  unfold fX12_alike at h
  refine g_aload_n (pc := 0) B dX12_alike_0 0 rfl ?_
  refine gs_arr (pc := 1) 17 12 B (by decide) (by decide) kfX12_47 dX12_alike_1 ?_
  refine g_iload_n (pc := 4) B dX12_alike_4 1 rfl ?_
  obtain ⟨c5, h⟩ := chk h
  refine gs_iald (pc := 5) B c5 dX12_alike_5 ?_
  refine g_aload_n (pc := 6) B dX12_alike_6 0 rfl ?_
  refine gs_arr (pc := 7) 17 12 B (by decide) (by decide) kfX12_47 dX12_alike_7 ?_
  refine g_iload_n (pc := 10) B dX12_alike_10 2 rfl ?_
  obtain ⟨c11, h⟩ := chk h
  refine gs_iald (pc := 11) B c11 dX12_alike_11 ?_
  refine g_icmp_eq (pc := 12) (tgt := 17) B dX12_alike_12 (by decide) (fun c12 => ?_) (fun c12 => ?_)
  · rw [if_pos c12] at h
    refine g_aload_n (pc := 17) B dX12_alike_17 0 rfl ?_
    refine g_iload_n (pc := 18) B dX12_alike_18 1 rfl ?_
    refine g_iconst (pc := 19) B dX12_alike_19 (1 : Int32) (by decide) ?_
    obtain ⟨v20, e20, h⟩ := ob h
    refine h_callV (pc := 20) (As := [vI x1, vI (1 : Int32)]) (st := []) (X' := (xS m X0 z)) (cs' := 0) (sl' := 0) (st10 := [vI v20]) B cal_X12_leastOf kmX12_244 kn_X12_leastOf ks_X12_leastOf hkS (by decide) rfl (fun l hl => ct_X12_leastOf hl e20) rfl (Nat.le_of_ble_eq_true rfl) (by decide) (by decide) dX12_alike_20 rfl rfl rfl rfl ?_
    refine g_istore_n (pc := 23) (L' := [(3, vI v20), (0, vA (some m)), (1, vI x1), (2, vI x2)]) B dX12_alike_23 (by decide) rfl ?_
    refine g_aload_n (pc := 24) B dX12_alike_24 1 rfl ?_
    refine g_iload_n (pc := 25) B dX12_alike_25 2 rfl ?_
    refine g_iconst (pc := 26) B dX12_alike_26 (0 : Int32) (by decide) ?_
    obtain ⟨v27, e27, h⟩ := ob h
    refine h_callV (pc := 27) (As := [vI x1, vI (0 : Int32)]) (st := []) (X' := (xS m X0 z)) (cs' := 0) (sl' := 0) (st10 := [vI v27]) B cal_X12_leastOf kmX12_244 kn_X12_leastOf ks_X12_leastOf hkS (by decide) rfl (fun l hl => ct_X12_leastOf hl e27) rfl (Nat.le_of_ble_eq_true rfl) (by decide) (by decide) dX12_alike_27 rfl rfl rfl rfl ?_
    refine g_istore (pc := 30) (L' := [(4, vI v27), (3, vI v20), (0, vA (some m)), (1, vI x1), (2, vI x2)]) B dX12_alike_30 (by decide) rfl ?_
    refine g_aload_n (pc := 32) B dX12_alike_32 2 rfl ?_
    refine g_iload_n (pc := 33) B dX12_alike_33 4 rfl ?_
    refine g_iconst (pc := 34) B dX12_alike_34 (1 : Int32) (by decide) ?_
    obtain ⟨v35, e35, h⟩ := ob h
    refine h_callV (pc := 35) (As := [vI x2, vI (1 : Int32)]) (st := []) (X' := (xS m X0 z)) (cs' := 0) (sl' := 0) (st10 := [vI v35]) B cal_X12_leastOf kmX12_244 kn_X12_leastOf ks_X12_leastOf hkS (by decide) rfl (fun l hl => ct_X12_leastOf hl e35) rfl (Nat.le_of_ble_eq_true rfl) (by decide) (by decide) dX12_alike_35 rfl rfl rfl rfl ?_
    refine g_istore (pc := 38) (L' := [(5, vI v35), (4, vI v27), (3, vI v20), (0, vA (some m)), (1, vI x1), (2, vI x2)]) B dX12_alike_38 (by decide) rfl ?_
    refine g_aload_n (pc := 40) B dX12_alike_40 3 rfl ?_
    refine g_iload_n (pc := 41) B dX12_alike_41 5 rfl ?_
    refine g_iconst (pc := 42) B dX12_alike_42 (0 : Int32) (by decide) ?_
    obtain ⟨v43, e43, h⟩ := ob h
    refine h_callV (pc := 43) (As := [vI x2, vI (0 : Int32)]) (st := []) (X' := (xS m X0 z)) (cs' := 0) (sl' := 0) (st10 := [vI v43]) B cal_X12_leastOf kmX12_244 kn_X12_leastOf ks_X12_leastOf hkS (by decide) rfl (fun l hl => ct_X12_leastOf hl e43) rfl (Nat.le_of_ble_eq_true rfl) (by decide) (by decide) dX12_alike_43 rfl rfl rfl rfl ?_
    refine g_istore (pc := 46) (L' := [(6, vI v43), (5, vI v35), (4, vI v27), (3, vI v20), (0, vA (some m)), (1, vI x1), (2, vI x2)]) B dX12_alike_46 (by decide) rfl ?_
    refine g_iconst (pc := 48) B dX12_alike_48 (1 : Int32) (by decide) ?_
    refine g_istore (pc := 49) (L' := [(7, vI (1 : Int32)), (6, vI v43), (5, vI v35), (4, vI v27), (3, vI v20), (0, vA (some m)), (1, vI x1), (2, vI x2)]) B dX12_alike_49 (by decide) rfl ?_
    refine g_iconst (pc := 51) B dX12_alike_51 (0 : Int32) (by decide) ?_
    refine g_istore (pc := 52) (L' := [(8, vI (0 : Int32)), (7, vI (1 : Int32)), (6, vI v43), (5, vI v35), (4, vI v27), (3, vI v20), (0, vA (some m)), (1, vI x1), (2, vI x2)]) B dX12_alike_52 (by decide) rfl ?_
    refine g_sub (pc := 54) [6, 7, 8, 5, 4, 3, 2, 1, 0] rfl ?_
    exact cb_X12_alike_L54 B ht h
  · rw [if_neg c12] at h
    refine g_iconst (pc := 15) B dX12_alike_15 (0 : Int32) (by decide) ?_
    obtain rfl := Option.some.inj h
    exact g_ret_Z (pc := 16) B rfl (Or.inl rfl) (by decide) (by decide) dX12_alike_16
theorem ct_X12_alike {D : DD} {l : Launch} {m z : Nat} {X0 : SM} {fu : Nat} {x1 : Int32} {x2 : Int32} {r : Int32} (hl : l.stackTraces = false) (h : fX12_alike fu X0 x1 x2 = some r) : Ctr D l yX12_alike cX12_alike 13 (some .boolean) rmX12_alike [vA (some m), vI x1, vI x2] (xS m X0 z) (.inr (some (vI r))) (xS m X0 z) :=
  ctr_of hl (plainFor_of_name (by decide)) (Nat.le_of_ble_eq_true rfl) fun ev _ ht B => cb_X12_alike_L0 B ht h
set_option maxRecDepth 100000 in
set_option maxHeartbeats 4000000 in
theorem cb_X12_doesMeet_L58 {D : DD} {ev : EV} {m z : Nat} {X0 : SM} {fu : Nat} {x2 : Int32} {x3 : Int32} {s0 : Int32} {r : Int32} (B : Amb D (foot (xS m X0 z)) ev RX12 "doesMeet" cX12_doesMeet 5 (some .boolean) rmX12_doesMeet) (ht : Tb0 ev)  (h : fX12_doesMeet_L58 fu X0 x2 x3 s0 = some r) : Gd D (foot (xS m X0 z)) ev (QF D ev (xS m X0 z) (.inr (some (vI r))) (xS m X0 z) rmX12_doesMeet) (xS m X0 z) 0 0 58 [(0, vA (some m)), (2, vI x2), (3, vI x3)] [vI s0] := by
  unfold fX12_doesMeet_L58 at h
  refine g_istore (pc := 58) (L' := [(4, vI s0), (0, vA (some m)), (2, vI x2), (3, vI x3)]) B dX12_doesMeet_58 (by decide) rfl ?_
  refine g_iload (pc := 60) B dX12_doesMeet_60 0 rfl ?_
  refine g_if_eq (pc := 62) (tgt := 83) B dX12_doesMeet_62 (by decide) (fun c62 => ?_) (fun c62 => ?_)
  · rw [if_pos c62] at h
    refine g_iconst (pc := 83) B dX12_doesMeet_83 (0 : Int32) (by decide) ?_
    obtain rfl := Option.some.inj h
    exact g_ret_Z (pc := 84) B rfl (Or.inl rfl) (by decide) (by decide) dX12_doesMeet_84
  · rw [if_neg c62] at h
    refine g_aload_n (pc := 65) B dX12_doesMeet_65 1 rfl ?_
    refine g_iload_n (pc := 66) B dX12_doesMeet_66 2 rfl ?_
    refine g_aload_n (pc := 67) B dX12_doesMeet_67 1 rfl ?_
    refine gs_arr (pc := 68) 38 23 B (by decide) (by decide) kfX12_80 dX12_doesMeet_68 ?_
    refine g_iload_n (pc := 71) B dX12_doesMeet_71 3 rfl ?_
    obtain ⟨c72, h⟩ := chk h
    refine gs_iald (pc := 72) B c72 dX12_doesMeet_72 ?_
    obtain ⟨v73, e73, h⟩ := ob h
    refine h_callV (pc := 73) (As := [vI x2, vI (ar X0 23 x3.toNatClampNeg)]) (st := []) (X' := (xS m X0 z)) (cs' := 0) (sl' := 0) (st10 := [vI v73]) B cal_X12_alike kmX12_255 kn_X12_alike ks_X12_alike hkS (by decide) rfl (fun l hl => ct_X12_alike hl e73) rfl (Nat.le_of_ble_eq_true rfl) (by decide) (by decide) dX12_doesMeet_73 rfl rfl rfl rfl ?_
    refine g_if_eq (pc := 76) (tgt := 83) B dX12_doesMeet_76 (by decide) (fun c76 => ?_) (fun c76 => ?_)
    · rw [if_pos c76] at h
      refine g_iconst (pc := 83) B dX12_doesMeet_83 (0 : Int32) (by decide) ?_
      obtain rfl := Option.some.inj h
      exact g_ret_Z (pc := 84) B rfl (Or.inl rfl) (by decide) (by decide) dX12_doesMeet_84
    · rw [if_neg c76] at h
      refine g_iconst (pc := 79) B dX12_doesMeet_79 (1 : Int32) (by decide) ?_
      refine g_goto (pc := 80) (tgt := 84) B dX12_doesMeet_80 (by decide) ?_
      obtain rfl := Option.some.inj h
      exact g_ret_Z (pc := 84) B rfl (Or.inr rfl) (by decide) (by decide) dX12_doesMeet_84
set_option maxRecDepth 100000 in
set_option maxHeartbeats 4000000 in
theorem cb_X12_doesMeet_L57 {D : DD} {ev : EV} {m z : Nat} {X0 : SM} {fu : Nat} {x2 : Int32} {x3 : Int32} {r : Int32} (B : Amb D (foot (xS m X0 z)) ev RX12 "doesMeet" cX12_doesMeet 5 (some .boolean) rmX12_doesMeet) (ht : Tb0 ev)  (h : fX12_doesMeet_L57 fu X0 x2 x3 = some r) : Gd D (foot (xS m X0 z)) ev (QF D ev (xS m X0 z) (.inr (some (vI r))) (xS m X0 z) rmX12_doesMeet) (xS m X0 z) 0 0 57 [(0, vA (some m)), (2, vI x2), (3, vI x3)] [] := by
  unfold fX12_doesMeet_L57 at h
  refine g_iconst (pc := 57) B dX12_doesMeet_57 (0 : Int32) (by decide) ?_
  refine g_sub (pc := 58) [0, 1, 2] rfl ?_
  exact cb_X12_doesMeet_L58 B ht h
set_option maxRecDepth 100000 in
set_option maxHeartbeats 4000000 in
theorem cb_X12_doesMeet_L0 {D : DD} {ev : EV} {m z : Nat} {X0 : SM} {fu : Nat} {x1 : Int32} {r : Int32} (B : Amb D (foot (xS m X0 z)) ev RX12 "doesMeet" cX12_doesMeet 5 (some .boolean) rmX12_doesMeet) (ht : Tb0 ev)  (h : fX12_doesMeet fu X0 x1 = some r) : Gd D (foot (xS m X0 z)) ev (QF D ev (xS m X0 z) (.inr (some (vI r))) (xS m X0 z) rmX12_doesMeet) (xS m X0 z) 0 0 0 [(0, vA (some m)), (1, vI x1)] [] := by
  unfold fX12_doesMeet at h
  refine g_aload_n (pc := 0) B dX12_doesMeet_0 0 rfl ?_
  refine gs_arr (pc := 1) 42 26 B (by decide) (by decide) kfX12_89 dX12_doesMeet_1 ?_
  refine g_iload_n (pc := 4) B dX12_doesMeet_4 1 rfl ?_
  obtain ⟨c5, h⟩ := chk h
  refine gs_iald (pc := 5) B c5 dX12_doesMeet_5 ?_
  refine g_istore_n (pc := 6) (L' := [(2, vI (ar X0 26 x1.toNatClampNeg)), (0, vA (some m)), (1, vI x1)]) B dX12_doesMeet_6 (by decide) rfl ?_
  refine g_aload_n (pc := 7) B dX12_doesMeet_7 1 rfl ?_
  refine gs_arr (pc := 8) 43 27 B (by decide) (by decide) kfX12_92 dX12_doesMeet_8 ?_
  refine g_iload_n (pc := 11) B dX12_doesMeet_11 2 rfl ?_
  obtain ⟨c12, h⟩ := chk h
  refine gs_iald (pc := 12) B c12 dX12_doesMeet_12 ?_
  refine g_istore_n (pc := 13) (L' := [(3, vI (ar X0 27 x1.toNatClampNeg)), (2, vI (ar X0 26 x1.toNatClampNeg)), (0, vA (some m)), (1, vI x1)]) B dX12_doesMeet_13 (by decide) rfl ?_
  refine g_aload_n (pc := 14) B dX12_doesMeet_14 2 rfl ?_
  refine gs_arr (pc := 15) 15 10 B (by decide) (by decide) kfX12_41 dX12_doesMeet_15 ?_
  refine g_iload_n (pc := 18) B dX12_doesMeet_18 1 rfl ?_
  obtain ⟨c19, h⟩ := chk h
  refine gs_iald (pc := 19) B c19 dX12_doesMeet_19 ?_
  refine g_if_ne (pc := 20) (tgt := 57) B dX12_doesMeet_20 (by decide) (fun c20 => ?_) (fun c20 => ?_)
  · rw [if_neg c20] at h
    refine g_sub (pc := 57) [2, 1, 0] rfl ?_
    exact cb_X12_doesMeet_L57 B ht h
  · rw [if_pos c20] at h
    refine g_aload_n (pc := 23) B dX12_doesMeet_23 2 rfl ?_
    refine gs_arr (pc := 24) 10 5 B (by decide) (by decide) kfX12_26 dX12_doesMeet_24 ?_
    refine g_iload_n (pc := 27) B dX12_doesMeet_27 1 rfl ?_
    obtain ⟨c28, h⟩ := chk h
    refine gs_iald (pc := 28) B c28 dX12_doesMeet_28 ?_
    refine g_aload_n (pc := 29) B dX12_doesMeet_29 2 rfl ?_
    refine gs_arr (pc := 30) 39 24 B (by decide) (by decide) kfX12_83 dX12_doesMeet_30 ?_
    refine g_iload_n (pc := 33) B dX12_doesMeet_33 0 rfl ?_
    obtain ⟨c34, h⟩ := chk h
    refine gs_iald (pc := 34) B c34 dX12_doesMeet_34 ?_
    refine g_icmp_gt (pc := 35) (tgt := 57) B dX12_doesMeet_35 (by decide) (fun c35 => ?_) (fun c35 => ?_)
    · rw [if_pos c35] at h
      refine g_sub (pc := 57) [2, 1, 0] rfl ?_
      exact cb_X12_doesMeet_L57 B ht h
    · rw [if_neg c35] at h
      refine g_aload_n (pc := 38) B dX12_doesMeet_38 2 rfl ?_
      refine gs_arr (pc := 39) 16 11 B (by decide) (by decide) kfX12_44 dX12_doesMeet_39 ?_
      refine g_iload_n (pc := 42) B dX12_doesMeet_42 1 rfl ?_
      obtain ⟨c43, h⟩ := chk h
      refine gs_iald (pc := 43) B c43 dX12_doesMeet_43 ?_
      refine g_aload_n (pc := 44) B dX12_doesMeet_44 2 rfl ?_
      refine gs_arr (pc := 45) 40 25 B (by decide) (by decide) kfX12_86 dX12_doesMeet_45 ?_
      refine g_iload_n (pc := 48) B dX12_doesMeet_48 0 rfl ?_
      obtain ⟨c49, h⟩ := chk h
      refine gs_iald (pc := 49) B c49 dX12_doesMeet_49 ?_
      refine g_icmp_gt (pc := 50) (tgt := 57) B dX12_doesMeet_50 (by decide) (fun c50 => ?_) (fun c50 => ?_)
      · rw [if_pos c50] at h
        refine g_sub (pc := 57) [2, 1, 0] rfl ?_
        exact cb_X12_doesMeet_L57 B ht h
      · rw [if_neg c50] at h
        refine g_iconst (pc := 53) B dX12_doesMeet_53 (1 : Int32) (by decide) ?_
        refine g_goto (pc := 54) (tgt := 58) B dX12_doesMeet_54 (by decide) ?_
        refine g_sub (pc := 58) [2, 1, 0] rfl ?_
        exact cb_X12_doesMeet_L58 B ht h
theorem ct_X12_doesMeet {D : DD} {l : Launch} {m z : Nat} {X0 : SM} {fu : Nat} {x1 : Int32} {r : Int32} (hl : l.stackTraces = false) (h : fX12_doesMeet fu X0 x1 = some r) : Ctr D l yX12_doesMeet cX12_doesMeet 5 (some .boolean) rmX12_doesMeet [vA (some m), vI x1] (xS m X0 z) (.inr (some (vI r))) (xS m X0 z) :=
  ctr_of hl (plainFor_of_name (by decide)) (Nat.le_of_ble_eq_true rfl) fun ev _ ht B => cb_X12_doesMeet_L0 B ht h
set_option maxRecDepth 100000 in
set_option maxHeartbeats 4000000 in
theorem cb_X12_allow_L90 {D : DD} {ev : EV} {m z : Nat} {X0 : SM} {fu : Nat} {rec54 : SM → Int32 → Int32 → Int32 → Option (Int32 × SM)} {X : SM} {x1 : Int32} {x5 : Int32} {s0 : Int32} {s1 : Int32} {r : Int32 × SM} (B : Amb D (foot (xS m X0 z)) ev RX12 "allow" cX12_allow 6 (some .int) rmX12_allow) (ht : Tb0 ev) (hrec54 : ∀ {X : SM} {x1 : Int32} {x4 : Int32} {x5 : Int32} {r : Int32 × SM}, rec54 X x1 x4 x5 = some r → Gd D (foot (xS m X0 z)) ev (QF D ev (xS m X0 z) (.inr (some (vI r.1))) (xS m r.2 z) rmX12_allow) (xS m X z) 0 0 54 [(0, vA (some m)), (1, vI x1), (4, vI x4), (5, vI x5)] []) (h : fX12_allow_L90 fu rec54 X x1 x5 s0 s1 = some r) : Gd D (foot (xS m X0 z)) ev (QF D ev (xS m X0 z) (.inr (some (vI r.1))) (xS m r.2 z) rmX12_allow) (xS m X z) 0 0 90 [(0, vA (some m)), (1, vI x1), (5, vI x5)] [vI s1, vI s0] := by
  unfold fX12_allow_L90 at h
  refine g_iadd (pc := 90) B dX12_allow_90 ?_
  refine g_istore (pc := 91) (L' := [(4, vI (s0 + s1)), (0, vA (some m)), (1, vI x1), (5, vI x5)]) B dX12_allow_91 (by decide) rfl ?_
  refine g_iinc (pc := 93) (v := (x5 + (1 : Int32))) (L' := [(5, vI (x5 + (1 : Int32))), (4, vI (s0 + s1)), (0, vA (some m)), (1, vI x1)]) B dX12_allow_93 (by decide) 3 rfl rfl rfl ?_
  refine g_goto (pc := 96) (tgt := 54) B dX12_allow_96 (by decide) ?_
  refine g_sub (pc := 54) [2, 3, 1, 0] rfl ?_
  exact hrec54 h
set_option maxRecDepth 100000 in
set_option maxHeartbeats 4000000 in
theorem cb_X12_allow_L89 {D : DD} {ev : EV} {m z : Nat} {X0 : SM} {fu : Nat} {rec54 : SM → Int32 → Int32 → Int32 → Option (Int32 × SM)} {X : SM} {x1 : Int32} {x5 : Int32} {s0 : Int32} {r : Int32 × SM} (B : Amb D (foot (xS m X0 z)) ev RX12 "allow" cX12_allow 6 (some .int) rmX12_allow) (ht : Tb0 ev) (hrec54 : ∀ {X : SM} {x1 : Int32} {x4 : Int32} {x5 : Int32} {r : Int32 × SM}, rec54 X x1 x4 x5 = some r → Gd D (foot (xS m X0 z)) ev (QF D ev (xS m X0 z) (.inr (some (vI r.1))) (xS m r.2 z) rmX12_allow) (xS m X z) 0 0 54 [(0, vA (some m)), (1, vI x1), (4, vI x4), (5, vI x5)] []) (h : fX12_allow_L89 fu rec54 X x1 x5 s0 = some r) : Gd D (foot (xS m X0 z)) ev (QF D ev (xS m X0 z) (.inr (some (vI r.1))) (xS m r.2 z) rmX12_allow) (xS m X z) 0 0 89 [(0, vA (some m)), (1, vI x1), (5, vI x5)] [vI s0] := by
  unfold fX12_allow_L89 at h
  refine g_iconst (pc := 89) B dX12_allow_89 (0 : Int32) (by decide) ?_
  refine g_sub (pc := 90) [0, 1, 2] rfl ?_
  exact cb_X12_allow_L90 B ht hrec54 h
set_option maxRecDepth 100000 in
set_option maxHeartbeats 4000000 in
theorem cb_X12_allow_L54b {D : DD} {ev : EV} {m z : Nat} {X0 : SM} {fu : Nat} {rec54 : SM → Int32 → Int32 → Int32 → Option (Int32 × SM)} {X : SM} {x1 : Int32} {x4 : Int32} {x5 : Int32} {r : Int32 × SM} (B : Amb D (foot (xS m X0 z)) ev RX12 "allow" cX12_allow 6 (some .int) rmX12_allow) (ht : Tb0 ev) (hrec54 : ∀ {X : SM} {x1 : Int32} {x4 : Int32} {x5 : Int32} {r : Int32 × SM}, rec54 X x1 x4 x5 = some r → Gd D (foot (xS m X0 z)) ev (QF D ev (xS m X0 z) (.inr (some (vI r.1))) (xS m r.2 z) rmX12_allow) (xS m X z) 0 0 54 [(0, vA (some m)), (1, vI x1), (4, vI x4), (5, vI x5)] []) (h : fX12_allow_L54b fu rec54 X x1 x4 x5 = some r) : Gd D (foot (xS m X0 z)) ev (QF D ev (xS m X0 z) (.inr (some (vI r.1))) (xS m r.2 z) rmX12_allow) (xS m X z) 0 0 54 [(0, vA (some m)), (1, vI x1), (4, vI x4), (5, vI x5)] [] := by
  unfold fX12_allow_L54b at h
  refine g_iload (pc := 54) B dX12_allow_54 3 rfl ?_
  refine g_aload_n (pc := 56) B dX12_allow_56 0 rfl ?_
  refine gs_get (pc := 57) 41 B (by decide) (by decide) kfX12_232 dX12_allow_57 ?_
  refine g_icmp_ge (pc := 60) (tgt := 99) B dX12_allow_60 (by decide) (fun c60 => ?_) (fun c60 => ?_)
  · rw [if_pos c60] at h
    refine g_iload (pc := 99) B dX12_allow_99 2 rfl ?_
    obtain rfl := Option.some.inj h
    exact g_ret_I (pc := 101) B rfl (by decide) (by decide) dX12_allow_101
  · rw [if_neg c60] at h
    refine g_iload (pc := 63) B dX12_allow_63 2 rfl ?_
    refine g_aload_n (pc := 65) B dX12_allow_65 0 rfl ?_
    refine gs_arr (pc := 66) 43 27 B (by decide) (by decide) kfX12_92 dX12_allow_66 ?_
    refine g_iload (pc := 69) B dX12_allow_69 3 rfl ?_
    obtain ⟨c71, h⟩ := chk h
    refine gs_iald (pc := 71) B c71 dX12_allow_71 ?_
    refine g_iload_n (pc := 72) B dX12_allow_72 1 rfl ?_
    refine g_icmp_ne (pc := 73) (tgt := 89) B dX12_allow_73 (by decide) (fun c73 => ?_) (fun c73 => ?_)
    · rw [if_neg c73] at h
      refine g_sub (pc := 89) [0, 1, 3] rfl ?_
      exact cb_X12_allow_L89 B ht hrec54 h
    · rw [if_pos c73] at h
      refine g_aload_n (pc := 76) B dX12_allow_76 0 rfl ?_
      refine g_iload (pc := 77) B dX12_allow_77 3 rfl ?_
      obtain ⟨v79, e79, h⟩ := ob h
      refine h_callV (pc := 79) (As := [vI x5]) (st := [vI x4]) (X' := (xS m X z)) (cs' := 0) (sl' := 0) (st10 := [vI v79, vI x4]) B cal_X12_doesMeet kmX12_235 kn_X12_doesMeet ks_X12_doesMeet hkS (by decide) rfl (fun l hl => ct_X12_doesMeet hl e79) rfl (Nat.le_of_ble_eq_true rfl) (by decide) (by decide) dX12_allow_79 rfl rfl rfl rfl ?_
      refine g_if_eq (pc := 82) (tgt := 89) B dX12_allow_82 (by decide) (fun c82 => ?_) (fun c82 => ?_)
      · rw [if_pos c82] at h
        refine g_sub (pc := 89) [0, 1, 3] rfl ?_
        exact cb_X12_allow_L89 B ht hrec54 h
      · rw [if_neg c82] at h
        refine g_iconst (pc := 85) B dX12_allow_85 (1 : Int32) (by decide) ?_
        refine g_goto (pc := 86) (tgt := 90) B dX12_allow_86 (by decide) ?_
        refine g_sub (pc := 90) [0, 1, 3] rfl ?_
        exact cb_X12_allow_L90 B ht hrec54 h
theorem cb_X12_allow_L54n {D : DD} {ev : EV} {m z : Nat} {X0 : SM} {fu : Nat} (B : Amb D (foot (xS m X0 z)) ev RX12 "allow" cX12_allow 6 (some .int) rmX12_allow) (ht : Tb0 ev)  : ∀ (n : Nat) {X : SM} {x1 : Int32} {x4 : Int32} {x5 : Int32} {r : Int32 × SM}, fX12_allow_L54 fu n X x1 x4 x5 = some r → Gd D (foot (xS m X0 z)) ev (QF D ev (xS m X0 z) (.inr (some (vI r.1))) (xS m r.2 z) rmX12_allow) (xS m X z) 0 0 54 [(0, vA (some m)), (1, vI x1), (4, vI x4), (5, vI x5)] [] := by
  intro n
  induction n with
  | zero => intro X x1 x4 x5 r h; exact nomatch h
  | succ n ih => intro X x1 x4 x5 r h; exact cb_X12_allow_L54b (fu := fu) B ht (fun h9 => ih h9) h
theorem cb_X12_allow_L54 {D : DD} {ev : EV} {m z : Nat} {X0 : SM} {fu : Nat} {X : SM} {x1 : Int32} {x4 : Int32} {x5 : Int32} {n : Nat} {r : Int32 × SM} (B : Amb D (foot (xS m X0 z)) ev RX12 "allow" cX12_allow 6 (some .int) rmX12_allow) (ht : Tb0 ev)  (h : fX12_allow_L54 fu n X x1 x4 x5 = some r) : Gd D (foot (xS m X0 z)) ev (QF D ev (xS m X0 z) (.inr (some (vI r.1))) (xS m r.2 z) rmX12_allow) (xS m X z) 0 0 54 [(0, vA (some m)), (1, vI x1), (4, vI x4), (5, vI x5)] [] := cb_X12_allow_L54n B ht n h
set_option maxRecDepth 100000 in
set_option maxHeartbeats 4000000 in
theorem cb_X12_allow_L26 {D : DD} {ev : EV} {m z : Nat} {X0 : SM} {fu : Nat} {X : SM} {x1 : Int32} {x2 : Int32} {x3 : Int32} {s1 : Int32} {r : Int32 × SM} (B : Amb D (foot (xS m X0 z)) ev RX12 "allow" cX12_allow 6 (some .int) rmX12_allow) (ht : Tb0 ev)  (h : fX12_allow_L26 fu X x1 x2 x3 s1 = some r) : Gd D (foot (xS m X0 z)) ev (QF D ev (xS m X0 z) (.inr (some (vI r.1))) (xS m r.2 z) rmX12_allow) (xS m X z) 0 0 26 [(0, vA (some m)), (1, vI x1), (2, vI x2), (3, vI x3)] [vI s1, vA (some m)] := by
  unfold fX12_allow_L26 at h
  obtain ⟨v26, X26, e26, h⟩ := obW h
  refine h_callV (pc := 26) (As := [vI s1]) (st := []) (X' := (xS m X26 z)) (cs' := 0) (sl' := 0) (st10 := [vI v26]) B cal_X12_holds kmX12_126 kn_X12_holds ks_X12_holds hkS (by decide) rfl (fun l hl => ct_X12_holds hl e26) rfl (Nat.le_of_ble_eq_true rfl) (by decide) (by decide) dX12_allow_26 rfl rfl rfl rfl ?_
  refine g_if_ne (pc := 29) (tgt := 34) B dX12_allow_29 (by decide) (fun c29 => ?_) (fun c29 => ?_)
  · rw [if_neg c29] at h
    refine g_aload_n (pc := 34) B dX12_allow_34 0 rfl ?_
    refine gs_arr (pc := 35) 39 24 B (by decide) (by decide) kfX12_83 dX12_allow_35 ?_
    refine g_iload_n (pc := 38) B dX12_allow_38 1 rfl ?_
    refine g_iload_n (pc := 39) B dX12_allow_39 2 rfl ?_
    obtain ⟨c40, h⟩ := chk h
    refine gs_iast (pc := 40) B c40 dX12_allow_40 ?_
    refine g_aload_n (pc := 41) B dX12_allow_41 0 rfl ?_
    refine gs_arr (pc := 42) 40 25 B (by decide) (by decide) kfX12_86 dX12_allow_42 ?_
    refine g_iload_n (pc := 45) B dX12_allow_45 1 rfl ?_
    refine g_iload_n (pc := 46) B dX12_allow_46 3 rfl ?_
    obtain ⟨c47, h⟩ := chk h
    refine gs_iast (pc := 47) B c47 dX12_allow_47 ?_
    refine g_iconst (pc := 48) B dX12_allow_48 (0 : Int32) (by decide) ?_
    refine g_istore (pc := 49) (L' := [(4, vI (0 : Int32)), (0, vA (some m)), (1, vI x1), (2, vI x2), (3, vI x3)]) B dX12_allow_49 (by decide) rfl ?_
    refine g_iconst (pc := 51) B dX12_allow_51 (0 : Int32) (by decide) ?_
    refine g_istore (pc := 52) (L' := [(5, vI (0 : Int32)), (4, vI (0 : Int32)), (0, vA (some m)), (1, vI x1), (2, vI x2), (3, vI x3)]) B dX12_allow_52 (by decide) rfl ?_
    refine g_sub (pc := 54) [2, 3, 1, 0] rfl ?_
    exact cb_X12_allow_L54 B ht h
  · rw [if_pos c29] at h
    refine g_iconst (pc := 32) B dX12_allow_32 (0 : Int32) (by decide) ?_
    obtain rfl := Option.some.inj h
    exact g_ret_I (pc := 33) B rfl (by decide) (by decide) dX12_allow_33
set_option maxRecDepth 100000 in
set_option maxHeartbeats 4000000 in
theorem cb_X12_allow_L0 {D : DD} {ev : EV} {m z : Nat} {X0 : SM} {fu : Nat} {X : SM} {x1 : Int32} {x2 : Int32} {x3 : Int32} {r : Int32 × SM} (B : Amb D (foot (xS m X0 z)) ev RX12 "allow" cX12_allow 6 (some .int) rmX12_allow) (ht : Tb0 ev)  (h : fX12_allow fu X x1 x2 x3 = some r) : Gd D (foot (xS m X0 z)) ev (QF D ev (xS m X0 z) (.inr (some (vI r.1))) (xS m r.2 z) rmX12_allow) (xS m X z) 0 0 0 [(0, vA (some m)), (1, vI x1), (2, vI x2), (3, vI x3)] [] := by
  unfold fX12_allow at h
  refine g_aload_n (pc := 0) B dX12_allow_0 0 rfl ?_
  refine g_aload_n (pc := 1) B dX12_allow_1 0 rfl ?_
  refine g_iload_n (pc := 2) B dX12_allow_2 1 rfl ?_
  obtain ⟨v3, e3, h⟩ := ob h
  refine h_callV (pc := 3) (As := [vI x1]) (st := [vA (some m)]) (X' := (xS m X z)) (cs' := 0) (sl' := 0) (st10 := [vI v3, vA (some m)]) B cal_X12_isExercise kmX12_229 kn_X12_isExercise ks_X12_isExercise hkS (by decide) rfl (fun l hl => ct_X12_isExercise hl e3) rfl (Nat.le_of_ble_eq_true rfl) (by decide) (by decide) dX12_allow_3 rfl rfl rfl rfl ?_
  refine g_if_ne (pc := 6) (tgt := 13) B dX12_allow_6 (by decide) (fun c6 => ?_) (fun c6 => ?_)
  · rw [if_neg c6] at h
    refine g_iload_n (pc := 13) B dX12_allow_13 2 rfl ?_
    refine g_iload_n (pc := 14) B dX12_allow_14 3 rfl ?_
    obtain ⟨v15, e15, h⟩ := ob h
    refine h_callS (pc := 15) (As := [vI x2, vI x3]) (st := [vA (some m)]) (X' := (xS m X z)) (cs' := 0) (sl' := 0) (st10 := [vI v15, vA (some m)]) B cal_X12_areLimits kmX12_223 kz_X12_areLimits (fun l hl => ct_X12_areLimits hl e15) rfl (Nat.le_of_ble_eq_true rfl) (by decide) (by decide) dX12_allow_15 rfl rfl rfl rfl ?_
    refine g_if_eq (pc := 18) (tgt := 25) B dX12_allow_18 (by decide) (fun c18 => ?_) (fun c18 => ?_)
    · rw [if_pos c18] at h
      refine g_iconst (pc := 25) B dX12_allow_25 (2 : Int32) (by decide) ?_
      refine g_sub (pc := 26) [0, 1, 2, 3] rfl ?_
      exact cb_X12_allow_L26 B ht h
    · rw [if_neg c18] at h
      refine g_iconst (pc := 21) B dX12_allow_21 (0 : Int32) (by decide) ?_
      refine g_goto (pc := 22) (tgt := 26) B dX12_allow_22 (by decide) ?_
      refine g_sub (pc := 26) [0, 1, 2, 3] rfl ?_
      exact cb_X12_allow_L26 B ht h
  · rw [if_pos c6] at h
    refine g_iconst (pc := 9) B dX12_allow_9 (1 : Int32) (by decide) ?_
    refine g_goto (pc := 10) (tgt := 26) B dX12_allow_10 (by decide) ?_
    refine g_sub (pc := 26) [0, 1, 2, 3] rfl ?_
    exact cb_X12_allow_L26 B ht h
theorem ct_X12_allow {D : DD} {l : Launch} {m z : Nat} {X0 : SM} {fu : Nat} {x1 : Int32} {x2 : Int32} {x3 : Int32} {r : Int32 × SM} (hl : l.stackTraces = false) (h : fX12_allow fu X0 x1 x2 x3 = some r) : Ctr D l yX12_allow cX12_allow 6 (some .int) rmX12_allow [vA (some m), vI x1, vI x2, vI x3] (xS m X0 z) (.inr (some (vI r.1))) (xS m r.2 z) :=
  ctr_of hl (plainFor_of_name (by decide)) (Nat.le_of_ble_eq_true rfl) fun ev _ ht B => cb_X12_allow_L0 B ht h
set_option maxRecDepth 100000 in
set_option maxHeartbeats 4000000 in
theorem cb_X12_handIn_L45 {D : DD} {ev : EV} {m z : Nat} {X0 : SM} {X : SM} {x1 : Int32} {x2 : Int32} {s1 : Int32} {r : Int32 × SM} (B : Amb D (foot (xS m X0 z)) ev RX12 "handIn" cX12_handIn 4 (some .int) rmX12_handIn) (ht : Tb0 ev)  (h : fX12_handIn_L45 X x1 x2 s1 = some r) : Gd D (foot (xS m X0 z)) ev (QF D ev (xS m X0 z) (.inr (some (vI r.1))) (xS m r.2 z) rmX12_handIn) (xS m X z) 0 0 45 [(0, vA (some m)), (1, vI x1), (2, vI x2)] [vI s1, vA (some m)] := by
  unfold fX12_handIn_L45 at h
  obtain ⟨v45, X45, e45, h⟩ := obW h
  refine h_callV (pc := 45) (As := [vI s1]) (st := []) (X' := (xS m X45 z)) (cs' := 0) (sl' := 0) (st10 := [vI v45]) B cal_X12_holds kmX12_126 kn_X12_holds ks_X12_holds hkS (by decide) rfl (fun l hl => ct_X12_holds hl e45) rfl (Nat.le_of_ble_eq_true rfl) (by decide) (by decide) dX12_handIn_45 rfl rfl rfl rfl ?_
  refine g_if_ne (pc := 48) (tgt := 53) B dX12_handIn_48 (by decide) (fun c48 => ?_) (fun c48 => ?_)
  · rw [if_neg c48] at h
    refine g_aload_n (pc := 53) B dX12_handIn_53 0 rfl ?_
    refine gs_arr (pc := 54) 42 26 B (by decide) (by decide) kfX12_89 dX12_handIn_54 ?_
    refine g_aload_n (pc := 57) B dX12_handIn_57 0 rfl ?_
    refine gs_get (pc := 58) 41 B (by decide) (by decide) kfX12_232 dX12_handIn_58 ?_
    refine g_iload_n (pc := 61) B dX12_handIn_61 1 rfl ?_
    obtain ⟨c62, h⟩ := chk h
    refine gs_iast (pc := 62) B c62 dX12_handIn_62 ?_
    refine g_aload_n (pc := 63) B dX12_handIn_63 0 rfl ?_
    refine gs_arr (pc := 64) 43 27 B (by decide) (by decide) kfX12_92 dX12_handIn_64 ?_
    refine g_aload_n (pc := 67) B dX12_handIn_67 0 rfl ?_
    refine gs_get (pc := 68) 41 B (by decide) (by decide) kfX12_232 dX12_handIn_68 ?_
    refine g_iload_n (pc := 71) B dX12_handIn_71 2 rfl ?_
    obtain ⟨c72, h⟩ := chk h
    refine gs_iast (pc := 72) B c72 dX12_handIn_72 ?_
    refine g_aload_n (pc := 73) B dX12_handIn_73 0 rfl ?_
    refine g_dup (pc := 74) B dX12_handIn_74 rfl ?_
    refine gs_get (pc := 75) 41 B (by decide) (by decide) kfX12_232 dX12_handIn_75 ?_
    refine g_iconst (pc := 78) B dX12_handIn_78 (1 : Int32) (by decide) ?_
    refine g_iadd (pc := 79) B dX12_handIn_79 ?_
    refine gs_put (pc := 80) 41 B (by decide) (by decide) rfl kfX12_232 dX12_handIn_80 ?_
    refine g_aload_n (pc := 83) B dX12_handIn_83 0 rfl ?_
    refine gs_get (pc := 84) 41 B (by decide) (by decide) kfX12_232 dX12_handIn_84 ?_
    refine g_iconst (pc := 87) B dX12_handIn_87 (1 : Int32) (by decide) ?_
    refine g_isub (pc := 88) B dX12_handIn_88 ?_
    obtain rfl := Option.some.inj h
    exact g_ret_I (pc := 89) B rfl (by decide) (by decide) dX12_handIn_89
  · rw [if_pos c48] at h
    refine g_iconst (pc := 51) B dX12_handIn_51 (0 : Int32) (by decide) ?_
    obtain rfl := Option.some.inj h
    exact g_ret_I (pc := 52) B rfl (by decide) (by decide) dX12_handIn_52
set_option maxRecDepth 100000 in
set_option maxHeartbeats 4000000 in
theorem cb_X12_handIn_L21 {D : DD} {ev : EV} {m z : Nat} {X0 : SM} {X : SM} {x1 : Int32} {x2 : Int32} {s0 : Int32} {r : Int32 × SM} (B : Amb D (foot (xS m X0 z)) ev RX12 "handIn" cX12_handIn 4 (some .int) rmX12_handIn) (ht : Tb0 ev)  (h : fX12_handIn_L21 X x1 x2 s0 = some r) : Gd D (foot (xS m X0 z)) ev (QF D ev (xS m X0 z) (.inr (some (vI r.1))) (xS m r.2 z) rmX12_handIn) (xS m X z) 0 0 21 [(0, vA (some m)), (1, vI x1), (2, vI x2)] [vI s0] := by
  unfold fX12_handIn_L21 at h
  refine g_istore_n (pc := 21) (L' := [(3, vI s0), (0, vA (some m)), (1, vI x1), (2, vI x2)]) B dX12_handIn_21 (by decide) rfl ?_
  refine g_aload_n (pc := 22) B dX12_handIn_22 1 rfl ?_
  refine g_iload_n (pc := 23) B dX12_handIn_23 0 rfl ?_
  refine g_if_ne (pc := 24) (tgt := 31) B dX12_handIn_24 (by decide) (fun c24 => ?_) (fun c24 => ?_)
  · rw [if_neg c24] at h
    refine g_aload_n (pc := 31) B dX12_handIn_31 1 rfl ?_
    refine gs_get (pc := 32) 41 B (by decide) (by decide) kfX12_232 dX12_handIn_32 ?_
    refine g_bipush (pc := 35) B dX12_handIn_35 (24 : Int32) (by decide) ?_
    refine g_icmp_ne (pc := 37) (tgt := 44) B dX12_handIn_37 (by decide) (fun c37 => ?_) (fun c37 => ?_)
    · rw [if_neg c37] at h
      refine g_iconst (pc := 44) B dX12_handIn_44 (0 : Int32) (by decide) ?_
      refine g_sub (pc := 45) [1, 2, 3] rfl ?_
      exact cb_X12_handIn_L45 B ht h
    · rw [if_pos c37] at h
      refine g_iconst (pc := 40) B dX12_handIn_40 (2 : Int32) (by decide) ?_
      refine g_goto (pc := 41) (tgt := 45) B dX12_handIn_41 (by decide) ?_
      refine g_sub (pc := 45) [1, 2, 3] rfl ?_
      exact cb_X12_handIn_L45 B ht h
  · rw [if_pos c24] at h
    refine g_iconst (pc := 27) B dX12_handIn_27 (1 : Int32) (by decide) ?_
    refine g_goto (pc := 28) (tgt := 45) B dX12_handIn_28 (by decide) ?_
    refine g_sub (pc := 45) [1, 2, 3] rfl ?_
    exact cb_X12_handIn_L45 B ht h
set_option maxRecDepth 100000 in
set_option maxHeartbeats 4000000 in
theorem cb_X12_handIn_L20 {D : DD} {ev : EV} {m z : Nat} {X0 : SM} {X : SM} {x1 : Int32} {x2 : Int32} {r : Int32 × SM} (B : Amb D (foot (xS m X0 z)) ev RX12 "handIn" cX12_handIn 4 (some .int) rmX12_handIn) (ht : Tb0 ev)  (h : fX12_handIn_L20 X x1 x2 = some r) : Gd D (foot (xS m X0 z)) ev (QF D ev (xS m X0 z) (.inr (some (vI r.1))) (xS m r.2 z) rmX12_handIn) (xS m X z) 0 0 20 [(0, vA (some m)), (1, vI x1), (2, vI x2)] [] := by
  unfold fX12_handIn_L20 at h
  refine g_iconst (pc := 20) B dX12_handIn_20 (0 : Int32) (by decide) ?_
  refine g_sub (pc := 21) [0, 1, 2] rfl ?_
  exact cb_X12_handIn_L21 B ht h
set_option maxRecDepth 100000 in
set_option maxHeartbeats 4000000 in
theorem cb_X12_handIn_L0 {D : DD} {ev : EV} {m z : Nat} {X0 : SM} {X : SM} {x1 : Int32} {x2 : Int32} {r : Int32 × SM} (B : Amb D (foot (xS m X0 z)) ev RX12 "handIn" cX12_handIn 4 (some .int) rmX12_handIn) (ht : Tb0 ev)  (h : fX12_handIn X x1 x2 = some r) : Gd D (foot (xS m X0 z)) ev (QF D ev (xS m X0 z) (.inr (some (vI r.1))) (xS m r.2 z) rmX12_handIn) (xS m X z) 0 0 0 [(0, vA (some m)), (1, vI x1), (2, vI x2)] [] := by
  unfold fX12_handIn at h
  refine g_aload_n (pc := 0) B dX12_handIn_0 0 rfl ?_
  refine g_iload_n (pc := 1) B dX12_handIn_1 1 rfl ?_
  obtain ⟨v2, e2, h⟩ := ob h
  refine h_callV (pc := 2) (As := [vI x1]) (st := []) (X' := (xS m X z)) (cs' := 0) (sl' := 0) (st10 := [vI v2]) B cal_X12_isProgram kmX12_220 kn_X12_isProgram ks_X12_isProgram hkS (by decide) rfl (fun l hl => ct_X12_isProgram hl e2) rfl (Nat.le_of_ble_eq_true rfl) (by decide) (by decide) dX12_handIn_2 rfl rfl rfl rfl ?_
  refine g_if_eq (pc := 5) (tgt := 20) B dX12_handIn_5 (by decide) (fun c5 => ?_) (fun c5 => ?_)
  · rw [if_pos c5] at h
    refine g_sub (pc := 20) [0, 1, 2] rfl ?_
    exact cb_X12_handIn_L20 B ht h
  · rw [if_neg c5] at h
    refine g_aload_n (pc := 8) B dX12_handIn_8 0 rfl ?_
    refine g_iload_n (pc := 9) B dX12_handIn_9 2 rfl ?_
    obtain ⟨v10, e10, h⟩ := ob h
    refine h_callV (pc := 10) (As := [vI x2]) (st := []) (X' := (xS m X z)) (cs' := 0) (sl' := 0) (st10 := [vI v10]) B cal_X12_isExercise kmX12_229 kn_X12_isExercise ks_X12_isExercise hkS (by decide) rfl (fun l hl => ct_X12_isExercise hl e10) rfl (Nat.le_of_ble_eq_true rfl) (by decide) (by decide) dX12_handIn_10 rfl rfl rfl rfl ?_
    refine g_if_eq (pc := 13) (tgt := 20) B dX12_handIn_13 (by decide) (fun c13 => ?_) (fun c13 => ?_)
    · rw [if_pos c13] at h
      refine g_sub (pc := 20) [0, 1, 2] rfl ?_
      exact cb_X12_handIn_L20 B ht h
    · rw [if_neg c13] at h
      refine g_iconst (pc := 16) B dX12_handIn_16 (1 : Int32) (by decide) ?_
      refine g_goto (pc := 17) (tgt := 21) B dX12_handIn_17 (by decide) ?_
      refine g_sub (pc := 21) [0, 1, 2] rfl ?_
      exact cb_X12_handIn_L21 B ht h
theorem ct_X12_handIn {D : DD} {l : Launch} {m z : Nat} {X0 : SM} {x1 : Int32} {x2 : Int32} {r : Int32 × SM} (hl : l.stackTraces = false) (h : fX12_handIn X0 x1 x2 = some r) : Ctr D l yX12_handIn cX12_handIn 4 (some .int) rmX12_handIn [vA (some m), vI x1, vI x2] (xS m X0 z) (.inr (some (vI r.1))) (xS m r.2 z) :=
  ctr_of hl (plainFor_of_name (by decide)) (Nat.le_of_ble_eq_true rfl) fun ev _ ht B => cb_X12_handIn_L0 B ht h
set_option maxRecDepth 100000 in
set_option maxHeartbeats 4000000 in
theorem cb_X12_isWork_L0 {D : DD} {ev : EV} {m z : Nat} {X0 : SM} {x1 : Int32} {r : Int32} (B : Amb D (foot (xS m X0 z)) ev RX12 "isWork" cX12_isWork 2 (some .boolean) rmX12_isWork) (ht : Tb0 ev)  (h : fX12_isWork X0 x1 = some r) : Gd D (foot (xS m X0 z)) ev (QF D ev (xS m X0 z) (.inr (some (vI r))) (xS m X0 z) rmX12_isWork) (xS m X0 z) 0 0 0 [(0, vA (some m)), (1, vI x1)] [] := by
  unfold fX12_isWork at h
  refine g_iload_n (pc := 0) B dX12_isWork_0 1 rfl ?_
  refine g_iconst (pc := 1) B dX12_isWork_1 (0 : Int32) (by decide) ?_
  refine g_aload_n (pc := 2) B dX12_isWork_2 0 rfl ?_
  refine gs_get (pc := 3) 41 B (by decide) (by decide) kfX12_232 dX12_isWork_3 ?_
  refine g_iconst (pc := 6) B dX12_isWork_6 (1 : Int32) (by decide) ?_
  refine g_isub (pc := 7) B dX12_isWork_7 ?_
  obtain ⟨v8, e8, h⟩ := ob h
  refine h_callS (pc := 8) (As := [vI x1, vI (0 : Int32), vI ((sc X0 41) - (1 : Int32))]) (st := []) (X' := (xS m X0 z)) (cs' := 0) (sl' := 0) (st10 := [vI v8]) B cal_X12_isIn kmX12_115 kz_X12_isIn (fun l hl => ct_X12_isIn hl e8) rfl (Nat.le_of_ble_eq_true rfl) (by decide) (by decide) dX12_isWork_8 rfl rfl rfl rfl ?_
  obtain ⟨z11, h⟩ := chk h
  obtain rfl := Option.some.inj h
  exact g_ret_Z (pc := 11) B rfl z11 (by decide) (by decide) dX12_isWork_11
theorem ct_X12_isWork {D : DD} {l : Launch} {m z : Nat} {X0 : SM} {x1 : Int32} {r : Int32} (hl : l.stackTraces = false) (h : fX12_isWork X0 x1 = some r) : Ctr D l yX12_isWork cX12_isWork 2 (some .boolean) rmX12_isWork [vA (some m), vI x1] (xS m X0 z) (.inr (some (vI r))) (xS m X0 z) :=
  ctr_of hl (plainFor_of_name (by decide)) (Nat.le_of_ble_eq_true rfl) fun ev _ ht B => cb_X12_isWork_L0 B ht h
set_option maxRecDepth 100000 in
set_option maxHeartbeats 4000000 in
theorem cb_X12_clear_L14 {D : DD} {ev : EV} {m z : Nat} {X0 : SM} {X : SM} {x1 : Int32} {x2 : Int32} {s1 : Int32} {r : Int32 × SM} (B : Amb D (foot (xS m X0 z)) ev RX12 "clear" cX12_clear 4 (some .boolean) rmX12_clear) (ht : Tb0 ev)  (h : fX12_clear_L14 X x1 x2 s1 = some r) : Gd D (foot (xS m X0 z)) ev (QF D ev (xS m X0 z) (.inr (some (vI r.1))) (xS m r.2 z) rmX12_clear) (xS m X z) 0 0 14 [(0, vA (some m)), (1, vI x1), (2, vI x2)] [vI s1, vA (some m)] := by
  unfold fX12_clear_L14 at h
  obtain ⟨v14, X14, e14, h⟩ := obW h
  refine h_callV (pc := 14) (As := [vI s1]) (st := []) (X' := (xS m X14 z)) (cs' := 0) (sl' := 0) (st10 := [vI v14]) B cal_X12_holds kmX12_126 kn_X12_holds ks_X12_holds hkS (by decide) rfl (fun l hl => ct_X12_holds hl e14) rfl (Nat.le_of_ble_eq_true rfl) (by decide) (by decide) dX12_clear_14 rfl rfl rfl rfl ?_
  refine g_if_ne (pc := 17) (tgt := 22) B dX12_clear_17 (by decide) (fun c17 => ?_) (fun c17 => ?_)
  · rw [if_neg c17] at h
    refine g_aload_n (pc := 22) B dX12_clear_22 0 rfl ?_
    refine gs_arr (pc := 23) 44 28 B (by decide) (by decide) kfX12_95 dX12_clear_23 ?_
    refine g_iload_n (pc := 26) B dX12_clear_26 1 rfl ?_
    obtain ⟨c27, h⟩ := chk h
    refine gs_zald (pc := 27) B c27 dX12_clear_27 ?_
    refine g_istore_n (pc := 28) (L' := [(3, vI (ar X14 28 x1.toNatClampNeg)), (0, vA (some m)), (1, vI x1), (2, vI x2)]) B dX12_clear_28 (by decide) rfl ?_
    refine g_aload_n (pc := 29) B dX12_clear_29 1 rfl ?_
    refine gs_arr (pc := 30) 44 28 B (by decide) (by decide) kfX12_95 dX12_clear_30 ?_
    refine g_iload_n (pc := 33) B dX12_clear_33 2 rfl ?_
    refine g_iload_n (pc := 34) B dX12_clear_34 3 rfl ?_
    obtain ⟨c35, h⟩ := chk h
    obtain ⟨z35, h⟩ := chk h
    refine gs_zast (pc := 35) B c35 z35 dX12_clear_35 ?_
    refine g_iload_n (pc := 36) B dX12_clear_36 0 rfl ?_
    obtain ⟨z37, h⟩ := chk h
    obtain rfl := Option.some.inj h
    exact g_ret_Z (pc := 37) B rfl z37 (by decide) (by decide) dX12_clear_37
  · rw [if_pos c17] at h
    refine g_iconst (pc := 20) B dX12_clear_20 (0 : Int32) (by decide) ?_
    obtain rfl := Option.some.inj h
    exact g_ret_Z (pc := 21) B rfl (Or.inl rfl) (by decide) (by decide) dX12_clear_21
set_option maxRecDepth 100000 in
set_option maxHeartbeats 4000000 in
theorem cb_X12_clear_L0 {D : DD} {ev : EV} {m z : Nat} {X0 : SM} {X : SM} {x1 : Int32} {x2 : Int32} {r : Int32 × SM} (B : Amb D (foot (xS m X0 z)) ev RX12 "clear" cX12_clear 4 (some .boolean) rmX12_clear) (ht : Tb0 ev)  (h : fX12_clear X x1 x2 = some r) : Gd D (foot (xS m X0 z)) ev (QF D ev (xS m X0 z) (.inr (some (vI r.1))) (xS m r.2 z) rmX12_clear) (xS m X z) 0 0 0 [(0, vA (some m)), (1, vI x1), (2, vI x2)] [] := by
  unfold fX12_clear at h
  refine g_aload_n (pc := 0) B dX12_clear_0 0 rfl ?_
  refine g_aload_n (pc := 1) B dX12_clear_1 0 rfl ?_
  refine g_iload_n (pc := 2) B dX12_clear_2 1 rfl ?_
  obtain ⟨v3, e3, h⟩ := ob h
  refine h_callV (pc := 3) (As := [vI x1]) (st := [vA (some m)]) (X' := (xS m X z)) (cs' := 0) (sl' := 0) (st10 := [vI v3, vA (some m)]) B cal_X12_isWork kmX12_238 kn_X12_isWork ks_X12_isWork hkS (by decide) rfl (fun l hl => ct_X12_isWork hl e3) rfl (Nat.le_of_ble_eq_true rfl) (by decide) (by decide) dX12_clear_3 rfl rfl rfl rfl ?_
  refine g_if_eq (pc := 6) (tgt := 13) B dX12_clear_6 (by decide) (fun c6 => ?_) (fun c6 => ?_)
  · rw [if_pos c6] at h
    refine g_iconst (pc := 13) B dX12_clear_13 (1 : Int32) (by decide) ?_
    refine g_sub (pc := 14) [0, 1, 2] rfl ?_
    exact cb_X12_clear_L14 B ht h
  · rw [if_neg c6] at h
    refine g_iconst (pc := 9) B dX12_clear_9 (0 : Int32) (by decide) ?_
    refine g_goto (pc := 10) (tgt := 14) B dX12_clear_10 (by decide) ?_
    refine g_sub (pc := 14) [0, 1, 2] rfl ?_
    exact cb_X12_clear_L14 B ht h
theorem ct_X12_clear {D : DD} {l : Launch} {m z : Nat} {X0 : SM} {x1 : Int32} {x2 : Int32} {r : Int32 × SM} (hl : l.stackTraces = false) (h : fX12_clear X0 x1 x2 = some r) : Ctr D l yX12_clear cX12_clear 4 (some .boolean) rmX12_clear [vA (some m), vI x1, vI x2] (xS m X0 z) (.inr (some (vI r.1))) (xS m r.2 z) :=
  ctr_of hl (plainFor_of_name (by decide)) (Nat.le_of_ble_eq_true rfl) fun ev _ ht B => cb_X12_clear_L0 B ht h
set_option maxRecDepth 100000 in
set_option maxHeartbeats 4000000 in
theorem cb_X12_anew_L46 {D : DD} {ev : EV} {m z : Nat} {X0 : SM} {fu : Nat} {X : SM} {x0 : Nat} {x1 : Int32} {s0 : Nat} {s1 : Int32} {s2 : Int32} {r : Int32 × SM} (B : Amb D (foot (xS m X0 z)) ev RX12 "anew" cX12_anew 4 (some .int) rmX12_anew) (ht : Tb0 ev)  (h : fX12_anew_L46 fu X x0 x1 s0 s1 s2 = some r) : Gd D (foot (xS m X0 z)) ev (QF D ev (xS m X0 z) (.inr (some (vI r.1))) (xS m r.2 z) rmX12_anew) (xS m X z) 0 0 46 [(0, vA (some (m + 1 + x0))), (1, vI x1)] [vI s2, vI s1, vA (some (m + 1 + s0))] := by
  unfold fX12_anew_L46 at h
  obtain ⟨c46, h⟩ := chk h
  refine gs_iast (pc := 46) B c46 dX12_anew_46 ?_
  refine g_aload_n (pc := 47) B dX12_anew_47 0 rfl ?_
  refine g_iload_n (pc := 48) B dX12_anew_48 1 rfl ?_
  obtain ⟨c49, h⟩ := chk h
  refine gs_iald (pc := 49) B c49 dX12_anew_49 ?_
  obtain rfl := Option.some.inj h
  exact g_ret_I (pc := 50) B rfl (by decide) (by decide) dX12_anew_50
set_option maxRecDepth 100000 in
set_option maxHeartbeats 4000000 in
theorem cb_X12_anew_L22 {D : DD} {ev : EV} {m z : Nat} {X0 : SM} {fu : Nat} {rec4 : SM → Nat → Int32 → Int32 → Int32 → Option (Int32 × SM)} {X : SM} {x0 : Nat} {x1 : Int32} {x3 : Int32} {s0 : Int32} {s1 : Int32} {r : Int32 × SM} (B : Amb D (foot (xS m X0 z)) ev RX12 "anew" cX12_anew 4 (some .int) rmX12_anew) (ht : Tb0 ev) (hrec4 : ∀ {X : SM} {x0 : Nat} {x1 : Int32} {x2 : Int32} {x3 : Int32} {r : Int32 × SM}, rec4 X x0 x1 x2 x3 = some r → Gd D (foot (xS m X0 z)) ev (QF D ev (xS m X0 z) (.inr (some (vI r.1))) (xS m r.2 z) rmX12_anew) (xS m X z) 0 0 4 [(0, vA (some (m + 1 + x0))), (1, vI x1), (2, vI x2), (3, vI x3)] []) (h : fX12_anew_L22 fu rec4 X x0 x1 x3 s0 s1 = some r) : Gd D (foot (xS m X0 z)) ev (QF D ev (xS m X0 z) (.inr (some (vI r.1))) (xS m r.2 z) rmX12_anew) (xS m X z) 0 0 22 [(0, vA (some (m + 1 + x0))), (1, vI x1), (3, vI x3)] [vI s1, vI s0] := by
  unfold fX12_anew_L22 at h
  refine g_iadd (pc := 22) B dX12_anew_22 ?_
  refine g_istore_n (pc := 23) (L' := [(2, vI (s0 + s1)), (0, vA (some (m + 1 + x0))), (1, vI x1), (3, vI x3)]) B dX12_anew_23 (by decide) rfl ?_
  refine g_iinc (pc := 24) (v := (x3 + (1 : Int32))) (L' := [(3, vI (x3 + (1 : Int32))), (2, vI (s0 + s1)), (0, vA (some (m + 1 + x0))), (1, vI x1)]) B dX12_anew_24 (by decide) 3 rfl rfl rfl ?_
  refine g_goto (pc := 27) (tgt := 4) B dX12_anew_27 (by decide) ?_
  refine g_sub (pc := 4) [2, 3, 1, 0] rfl ?_
  exact hrec4 h
set_option maxRecDepth 100000 in
set_option maxHeartbeats 4000000 in
theorem cb_X12_anew_L4b {D : DD} {ev : EV} {m z : Nat} {X0 : SM} {fu : Nat} {rec4 : SM → Nat → Int32 → Int32 → Int32 → Option (Int32 × SM)} {X : SM} {x0 : Nat} {x1 : Int32} {x2 : Int32} {x3 : Int32} {r : Int32 × SM} (B : Amb D (foot (xS m X0 z)) ev RX12 "anew" cX12_anew 4 (some .int) rmX12_anew) (ht : Tb0 ev) (hrec4 : ∀ {X : SM} {x0 : Nat} {x1 : Int32} {x2 : Int32} {x3 : Int32} {r : Int32 × SM}, rec4 X x0 x1 x2 x3 = some r → Gd D (foot (xS m X0 z)) ev (QF D ev (xS m X0 z) (.inr (some (vI r.1))) (xS m r.2 z) rmX12_anew) (xS m X z) 0 0 4 [(0, vA (some (m + 1 + x0))), (1, vI x1), (2, vI x2), (3, vI x3)] []) (h : fX12_anew_L4b fu rec4 X x0 x1 x2 x3 = some r) : Gd D (foot (xS m X0 z)) ev (QF D ev (xS m X0 z) (.inr (some (vI r.1))) (xS m r.2 z) rmX12_anew) (xS m X z) 0 0 4 [(0, vA (some (m + 1 + x0))), (1, vI x1), (2, vI x2), (3, vI x3)] [] := by
  unfold fX12_anew_L4b at h
  refine g_iload_n (pc := 4) B dX12_anew_4 3 rfl ?_
  refine g_iconst (pc := 5) B dX12_anew_5 (4 : Int32) (by decide) ?_
  refine g_icmp_ge (pc := 6) (tgt := 30) B dX12_anew_6 (by decide) (fun c6 => ?_) (fun c6 => ?_)
  · rw [if_pos c6] at h
    refine g_aload_n (pc := 30) B dX12_anew_30 0 rfl ?_
    refine g_iload_n (pc := 31) B dX12_anew_31 1 rfl ?_
    refine g_aload_n (pc := 32) B dX12_anew_32 0 rfl ?_
    refine g_iload_n (pc := 33) B dX12_anew_33 1 rfl ?_
    obtain ⟨c34, h⟩ := chk h
    refine gs_iald (pc := 34) B c34 dX12_anew_34 ?_
    refine g_iconst (pc := 35) B dX12_anew_35 (-1) (by decide) ?_
    refine g_icmp_ne (pc := 36) (tgt := 43) B dX12_anew_36 (by decide) (fun c36 => ?_) (fun c36 => ?_)
    · rw [if_neg c36] at h
      refine g_aload_n (pc := 43) B dX12_anew_43 0 rfl ?_
      refine g_iload_n (pc := 44) B dX12_anew_44 1 rfl ?_
      obtain ⟨c45, h⟩ := chk h
      refine gs_iald (pc := 45) B c45 dX12_anew_45 ?_
      refine g_sub (pc := 46) [0, 1] rfl ?_
      exact cb_X12_anew_L46 B ht h
    · rw [if_pos c36] at h
      refine g_iload_n (pc := 39) B dX12_anew_39 2 rfl ?_
      refine g_goto (pc := 40) (tgt := 46) B dX12_anew_40 (by decide) ?_
      refine g_sub (pc := 46) [0, 1] rfl ?_
      exact cb_X12_anew_L46 B ht h
  · rw [if_neg c6] at h
    refine g_iload_n (pc := 9) B dX12_anew_9 2 rfl ?_
    refine g_aload_n (pc := 10) B dX12_anew_10 0 rfl ?_
    refine g_iload_n (pc := 11) B dX12_anew_11 3 rfl ?_
    obtain ⟨c12, h⟩ := chk h
    refine gs_iald (pc := 12) B c12 dX12_anew_12 ?_
    refine g_iconst (pc := 13) B dX12_anew_13 (-1) (by decide) ?_
    refine g_icmp_eq (pc := 14) (tgt := 21) B dX12_anew_14 (by decide) (fun c14 => ?_) (fun c14 => ?_)
    · rw [if_pos c14] at h
      refine g_iconst (pc := 21) B dX12_anew_21 (0 : Int32) (by decide) ?_
      refine g_sub (pc := 22) [0, 1, 3] rfl ?_
      exact cb_X12_anew_L22 B ht hrec4 h
    · rw [if_neg c14] at h
      refine g_iconst (pc := 17) B dX12_anew_17 (1 : Int32) (by decide) ?_
      refine g_goto (pc := 18) (tgt := 22) B dX12_anew_18 (by decide) ?_
      refine g_sub (pc := 22) [0, 1, 3] rfl ?_
      exact cb_X12_anew_L22 B ht hrec4 h
theorem cb_X12_anew_L4n {D : DD} {ev : EV} {m z : Nat} {X0 : SM} {fu : Nat} (B : Amb D (foot (xS m X0 z)) ev RX12 "anew" cX12_anew 4 (some .int) rmX12_anew) (ht : Tb0 ev)  : ∀ (n : Nat) {X : SM} {x0 : Nat} {x1 : Int32} {x2 : Int32} {x3 : Int32} {r : Int32 × SM}, fX12_anew_L4 fu n X x0 x1 x2 x3 = some r → Gd D (foot (xS m X0 z)) ev (QF D ev (xS m X0 z) (.inr (some (vI r.1))) (xS m r.2 z) rmX12_anew) (xS m X z) 0 0 4 [(0, vA (some (m + 1 + x0))), (1, vI x1), (2, vI x2), (3, vI x3)] [] := by
  intro n
  induction n with
  | zero => intro X x0 x1 x2 x3 r h; exact nomatch h
  | succ n ih => intro X x0 x1 x2 x3 r h; exact cb_X12_anew_L4b (fu := fu) B ht (fun h9 => ih h9) h
theorem cb_X12_anew_L4 {D : DD} {ev : EV} {m z : Nat} {X0 : SM} {fu : Nat} {X : SM} {x0 : Nat} {x1 : Int32} {x2 : Int32} {x3 : Int32} {n : Nat} {r : Int32 × SM} (B : Amb D (foot (xS m X0 z)) ev RX12 "anew" cX12_anew 4 (some .int) rmX12_anew) (ht : Tb0 ev)  (h : fX12_anew_L4 fu n X x0 x1 x2 x3 = some r) : Gd D (foot (xS m X0 z)) ev (QF D ev (xS m X0 z) (.inr (some (vI r.1))) (xS m r.2 z) rmX12_anew) (xS m X z) 0 0 4 [(0, vA (some (m + 1 + x0))), (1, vI x1), (2, vI x2), (3, vI x3)] [] := cb_X12_anew_L4n B ht n h
set_option maxRecDepth 100000 in
set_option maxHeartbeats 4000000 in
theorem cb_X12_anew_L0 {D : DD} {ev : EV} {m z : Nat} {X0 : SM} {fu : Nat} {X : SM} {x0 : Nat} {x1 : Int32} {r : Int32 × SM} (B : Amb D (foot (xS m X0 z)) ev RX12 "anew" cX12_anew 4 (some .int) rmX12_anew) (ht : Tb0 ev)  (h : fX12_anew fu X x0 x1 = some r) : Gd D (foot (xS m X0 z)) ev (QF D ev (xS m X0 z) (.inr (some (vI r.1))) (xS m r.2 z) rmX12_anew) (xS m X z) 0 0 0 [(0, vA (some (m + 1 + x0))), (1, vI x1)] [] := by
  unfold fX12_anew at h
  refine g_iconst (pc := 0) B dX12_anew_0 (0 : Int32) (by decide) ?_
  refine g_istore_n (pc := 1) (L' := [(2, vI (0 : Int32)), (0, vA (some (m + 1 + x0))), (1, vI x1)]) B dX12_anew_1 (by decide) rfl ?_
  refine g_iconst (pc := 2) B dX12_anew_2 (0 : Int32) (by decide) ?_
  refine g_istore_n (pc := 3) (L' := [(3, vI (0 : Int32)), (2, vI (0 : Int32)), (0, vA (some (m + 1 + x0))), (1, vI x1)]) B dX12_anew_3 (by decide) rfl ?_
  refine g_sub (pc := 4) [2, 3, 1, 0] rfl ?_
  exact cb_X12_anew_L4 B ht h
theorem ct_X12_anew {D : DD} {l : Launch} {m z : Nat} {X0 : SM} {fu : Nat} {x0 : Nat} {x1 : Int32} {r : Int32 × SM} (hl : l.stackTraces = false) (h : fX12_anew fu X0 x0 x1 = some r) : Ctr D l yX12_anew cX12_anew 4 (some .int) rmX12_anew [vA (some (m + 1 + x0)), vI x1] (xS m X0 z) (.inr (some (vI r.1))) (xS m r.2 z) :=
  ctr_of hl (plainFor_of_name (by decide)) (Nat.le_of_ble_eq_true rfl) fun ev _ ht B => cb_X12_anew_L0 B ht h
set_option maxRecDepth 100000 in
set_option maxHeartbeats 4000000 in
theorem cb_X12_lays_L160 {D : DD} {ev : EV} {m z : Nat} {X0 : SM} {fu : Nat} {rec29 : SM → Int32 → Int32 → Int32 → Option (SM)} {X : SM} {x1 : Int32} {x2 : Int32} {x3 : Int32} {x5 : Int32} {x6 : Int32} {s0 : Int32} {r : SM} (B : Amb D (foot (xS m X0 z)) ev RX12 "lays" cX12_lays 8 (none) rmX12_lays) (ht : Tb0 ev) (hrec29 : ∀ {X : SM} {x1 : Int32} {x2 : Int32} {x3 : Int32} {r : SM}, rec29 X x1 x2 x3 = some r → Gd D (foot (xS m X0 z)) ev (QF D ev (xS m X0 z) (.inr (none)) (xS m r z) rmX12_lays) (xS m X z) 0 0 29 [(0, vA (some m)), (1, vI x1), (2, vI x2), (3, vI x3)] []) (h : fX12_lays_L160 fu rec29 X x1 x2 x3 x5 x6 s0 = some r) : Gd D (foot (xS m X0 z)) ev (QF D ev (xS m X0 z) (.inr (none)) (xS m r z) rmX12_lays) (xS m X z) 0 0 160 [(0, vA (some m)), (1, vI x1), (2, vI x2), (3, vI x3), (5, vI x5), (6, vI x6)] [vI s0] := by
  unfold fX12_lays_L160 at h
  refine g_istore (pc := 160) (L' := [(7, vI s0), (0, vA (some m)), (1, vI x1), (2, vI x2), (3, vI x3), (5, vI x5), (6, vI x6)]) B dX12_lays_160 (by decide) rfl ?_
  refine g_aload_n (pc := 162) B dX12_lays_162 1 rfl ?_
  refine gs_arr (pc := 163) 33 19 B (by decide) (by decide) kfX12_68 dX12_lays_163 ?_
  refine g_bipush (pc := 166) B dX12_lays_166 (30 : Int32) (by decide) ?_
  refine g_iload_n (pc := 168) B dX12_lays_168 3 rfl ?_
  refine g_imul (pc := 169) B dX12_lays_169 ?_
  refine g_iload_n (pc := 170) B dX12_lays_170 4 rfl ?_
  refine g_iadd (pc := 171) B dX12_lays_171 ?_
  refine g_sipush (pc := 172) B dX12_lays_172 (10000 : Int32) (by decide) ?_
  refine g_iload (pc := 175) B dX12_lays_175 5 rfl ?_
  refine g_imul (pc := 177) B dX12_lays_177 ?_
  refine g_sipush (pc := 178) B dX12_lays_178 (1000 : Int32) (by decide) ?_
  refine g_iload (pc := 181) B dX12_lays_181 6 rfl ?_
  refine g_imul (pc := 183) B dX12_lays_183 ?_
  refine g_iadd (pc := 184) B dX12_lays_184 ?_
  refine g_iload (pc := 185) B dX12_lays_185 0 rfl ?_
  refine g_iadd (pc := 187) B dX12_lays_187 ?_
  obtain ⟨c188, h⟩ := chk h
  refine gs_iast (pc := 188) B c188 dX12_lays_188 ?_
  refine g_iinc (pc := 189) (v := (x3 + (1 : Int32))) (L' := [(3, vI (x3 + (1 : Int32))), (7, vI s0), (0, vA (some m)), (1, vI x1), (2, vI x2), (5, vI x5), (6, vI x6)]) B dX12_lays_189 (by decide) 4 rfl rfl rfl ?_
  refine g_goto (pc := 192) (tgt := 29) B dX12_lays_192 (by decide) ?_
  refine g_sub (pc := 29) [2, 3, 4, 0] rfl ?_
  exact hrec29 h
set_option maxRecDepth 100000 in
set_option maxHeartbeats 4000000 in
theorem cb_X12_lays_L117 {D : DD} {ev : EV} {m z : Nat} {X0 : SM} {fu : Nat} {rec29 : SM → Int32 → Int32 → Int32 → Option (SM)} {X : SM} {x1 : Int32} {x2 : Int32} {x3 : Int32} {x4 : Int32} {x5 : Int32} {s0 : Int32} {r : SM} (B : Amb D (foot (xS m X0 z)) ev RX12 "lays" cX12_lays 8 (none) rmX12_lays) (ht : Tb0 ev) (hrec29 : ∀ {X : SM} {x1 : Int32} {x2 : Int32} {x3 : Int32} {r : SM}, rec29 X x1 x2 x3 = some r → Gd D (foot (xS m X0 z)) ev (QF D ev (xS m X0 z) (.inr (none)) (xS m r z) rmX12_lays) (xS m X z) 0 0 29 [(0, vA (some m)), (1, vI x1), (2, vI x2), (3, vI x3)] []) (h : fX12_lays_L117 fu rec29 X x1 x2 x3 x4 x5 s0 = some r) : Gd D (foot (xS m X0 z)) ev (QF D ev (xS m X0 z) (.inr (none)) (xS m r z) rmX12_lays) (xS m X z) 0 0 117 [(0, vA (some m)), (1, vI x1), (2, vI x2), (3, vI x3), (4, vI x4), (5, vI x5)] [vI s0] := by
  unfold fX12_lays_L117 at h
  refine g_istore (pc := 117) (L' := [(6, vI s0), (0, vA (some m)), (1, vI x1), (2, vI x2), (3, vI x3), (4, vI x4), (5, vI x5)]) B dX12_lays_117 (by decide) rfl ?_
  refine g_aload_n (pc := 119) B dX12_lays_119 1 rfl ?_
  refine gs_arr (pc := 120) 14 9 B (by decide) (by decide) kfX12_38 dX12_lays_120 ?_
  refine g_iload (pc := 123) B dX12_lays_123 5 rfl ?_
  obtain ⟨c125, h⟩ := chk h
  refine gs_zald (pc := 125) B c125 dX12_lays_125 ?_
  refine g_if_eq (pc := 126) (tgt := 150) B dX12_lays_126 (by decide) (fun c126 => ?_) (fun c126 => ?_)
  · rw [if_pos c126] at h
    refine g_bipush (pc := 150) B dX12_lays_150 (100 : Int32) (by decide) ?_
    refine g_aload_n (pc := 152) B dX12_lays_152 1 rfl ?_
    refine gs_arr (pc := 153) 13 8 B (by decide) (by decide) kfX12_35 dX12_lays_153 ?_
    refine g_iload (pc := 156) B dX12_lays_156 5 rfl ?_
    obtain ⟨c158, h⟩ := chk h
    refine gs_iald (pc := 158) B c158 dX12_lays_158 ?_
    refine g_iadd (pc := 159) B dX12_lays_159 ?_
    refine g_sub (pc := 160) [1, 2, 3, 4, 6, 0] rfl ?_
    exact cb_X12_lays_L160 B ht hrec29 h
  · rw [if_neg c126] at h
    refine g_sipush (pc := 129) B dX12_lays_129 (500 : Int32) (by decide) ?_
    refine g_aload_n (pc := 132) B dX12_lays_132 1 rfl ?_
    refine gs_arr (pc := 133) 34 20 B (by decide) (by decide) kfX12_71 dX12_lays_133 ?_
    refine g_aload_n (pc := 136) B dX12_lays_136 1 rfl ?_
    refine gs_arr (pc := 137) 13 8 B (by decide) (by decide) kfX12_35 dX12_lays_137 ?_
    refine g_iload (pc := 140) B dX12_lays_140 5 rfl ?_
    obtain ⟨c142, h⟩ := chk h
    refine gs_iald (pc := 142) B c142 dX12_lays_142 ?_
    obtain ⟨v143, X143, e143, h⟩ := obW h
    refine h_callS (pc := 143) (As := [vA (some (m + 1 + 20)), vI (ar X 8 x4.toNatClampNeg)]) (st := [vI (500 : Int32)]) (X' := (xS m X143 z)) (cs' := 0) (sl' := 0) (st10 := [vI v143, vI (500 : Int32)]) B cal_X12_anew kmX12_248 kz_X12_anew (fun l hl => ct_X12_anew hl e143) rfl (Nat.le_of_ble_eq_true rfl) (by decide) (by decide) dX12_lays_143 rfl rfl rfl rfl ?_
    refine g_iadd (pc := 146) B dX12_lays_146 ?_
    refine g_goto (pc := 147) (tgt := 160) B dX12_lays_147 (by decide) ?_
    refine g_sub (pc := 160) [1, 2, 3, 4, 6, 0] rfl ?_
    exact cb_X12_lays_L160 B ht hrec29 h
set_option maxRecDepth 100000 in
set_option maxHeartbeats 4000000 in
theorem cb_X12_lays_L68 {D : DD} {ev : EV} {m z : Nat} {X0 : SM} {fu : Nat} {rec29 : SM → Int32 → Int32 → Int32 → Option (SM)} {X : SM} {x1 : Int32} {x2 : Int32} {x3 : Int32} {x4 : Int32} {x5 : Int32} {r : SM} (B : Amb D (foot (xS m X0 z)) ev RX12 "lays" cX12_lays 8 (none) rmX12_lays) (ht : Tb0 ev) (hrec29 : ∀ {X : SM} {x1 : Int32} {x2 : Int32} {x3 : Int32} {r : SM}, rec29 X x1 x2 x3 = some r → Gd D (foot (xS m X0 z)) ev (QF D ev (xS m X0 z) (.inr (none)) (xS m r z) rmX12_lays) (xS m X z) 0 0 29 [(0, vA (some m)), (1, vI x1), (2, vI x2), (3, vI x3)] []) (h : fX12_lays_L68 fu rec29 X x1 x2 x3 x4 x5 = some r) : Gd D (foot (xS m X0 z)) ev (QF D ev (xS m X0 z) (.inr (none)) (xS m r z) rmX12_lays) (xS m X z) 0 0 68 [(0, vA (some m)), (1, vI x1), (2, vI x2), (3, vI x3), (4, vI x4), (5, vI x5)] [] := by
  unfold fX12_lays_L68 at h
  refine g_aload_n (pc := 68) B dX12_lays_68 0 rfl ?_
  refine gs_arr (pc := 69) 34 20 B (by decide) (by decide) kfX12_71 dX12_lays_69 ?_
  refine g_aload_n (pc := 72) B dX12_lays_72 0 rfl ?_
  refine gs_arr (pc := 73) 12 7 B (by decide) (by decide) kfX12_32 dX12_lays_73 ?_
  refine g_iload (pc := 76) B dX12_lays_76 4 rfl ?_
  obtain ⟨c78, h⟩ := chk h
  refine gs_iald (pc := 78) B c78 dX12_lays_78 ?_
  obtain ⟨v79, X79, e79, h⟩ := obW h
  refine h_callS (pc := 79) (As := [vA (some (m + 1 + 20)), vI (ar X 7 x4.toNatClampNeg)]) (st := []) (X' := (xS m X79 z)) (cs' := 0) (sl' := 0) (st10 := [vI v79]) B cal_X12_anew kmX12_248 kz_X12_anew (fun l hl => ct_X12_anew hl e79) rfl (Nat.le_of_ble_eq_true rfl) (by decide) (by decide) dX12_lays_79 rfl rfl rfl rfl ?_
  refine g_goto (pc := 82) (tgt := 117) B dX12_lays_82 (by decide) ?_
  refine g_sub (pc := 117) [0, 1, 2, 3, 4, 5] rfl ?_
  exact cb_X12_lays_L117 B ht hrec29 h
set_option maxRecDepth 100000 in
set_option maxHeartbeats 4000000 in
theorem cb_X12_lays_L99 {D : DD} {ev : EV} {m z : Nat} {X0 : SM} {fu : Nat} {rec29 : SM → Int32 → Int32 → Int32 → Option (SM)} {X : SM} {x1 : Int32} {x2 : Int32} {x3 : Int32} {x4 : Int32} {x5 : Int32} {r : SM} (B : Amb D (foot (xS m X0 z)) ev RX12 "lays" cX12_lays 8 (none) rmX12_lays) (ht : Tb0 ev) (hrec29 : ∀ {X : SM} {x1 : Int32} {x2 : Int32} {x3 : Int32} {r : SM}, rec29 X x1 x2 x3 = some r → Gd D (foot (xS m X0 z)) ev (QF D ev (xS m X0 z) (.inr (none)) (xS m r z) rmX12_lays) (xS m X z) 0 0 29 [(0, vA (some m)), (1, vI x1), (2, vI x2), (3, vI x3)] []) (h : fX12_lays_L99 fu rec29 X x1 x2 x3 x4 x5 = some r) : Gd D (foot (xS m X0 z)) ev (QF D ev (xS m X0 z) (.inr (none)) (xS m r z) rmX12_lays) (xS m X z) 0 0 99 [(0, vA (some m)), (1, vI x1), (2, vI x2), (3, vI x3), (4, vI x4), (5, vI x5)] [] := by
  unfold fX12_lays_L99 at h
  refine g_aload_n (pc := 99) B dX12_lays_99 0 rfl ?_
  refine gs_arr (pc := 100) 35 21 B (by decide) (by decide) kfX12_74 dX12_lays_100 ?_
  refine g_aload_n (pc := 103) B dX12_lays_103 0 rfl ?_
  refine gs_arr (pc := 104) 12 7 B (by decide) (by decide) kfX12_32 dX12_lays_104 ?_
  refine g_iload (pc := 107) B dX12_lays_107 4 rfl ?_
  obtain ⟨c109, h⟩ := chk h
  refine gs_iald (pc := 109) B c109 dX12_lays_109 ?_
  obtain ⟨v110, X110, e110, h⟩ := obW h
  refine h_callS (pc := 110) (As := [vA (some (m + 1 + 21)), vI (ar X 7 x4.toNatClampNeg)]) (st := []) (X' := (xS m X110 z)) (cs' := 0) (sl' := 0) (st10 := [vI v110]) B cal_X12_anew kmX12_248 kz_X12_anew (fun l hl => ct_X12_anew hl e110) rfl (Nat.le_of_ble_eq_true rfl) (by decide) (by decide) dX12_lays_110 rfl rfl rfl rfl ?_
  refine g_goto (pc := 113) (tgt := 117) B dX12_lays_113 (by decide) ?_
  refine g_sub (pc := 117) [0, 1, 2, 3, 4, 5] rfl ?_
  exact cb_X12_lays_L117 B ht hrec29 h
set_option maxRecDepth 100000 in
set_option maxHeartbeats 4000000 in
theorem cb_X12_lays_L29b {D : DD} {ev : EV} {m z : Nat} {X0 : SM} {fu : Nat} {rec29 : SM → Int32 → Int32 → Int32 → Option (SM)} {X : SM} {x1 : Int32} {x2 : Int32} {x3 : Int32} {r : SM} (B : Amb D (foot (xS m X0 z)) ev RX12 "lays" cX12_lays 8 (none) rmX12_lays) (ht : Tb0 ev) (hrec29 : ∀ {X : SM} {x1 : Int32} {x2 : Int32} {x3 : Int32} {r : SM}, rec29 X x1 x2 x3 = some r → Gd D (foot (xS m X0 z)) ev (QF D ev (xS m X0 z) (.inr (none)) (xS m r z) rmX12_lays) (xS m X z) 0 0 29 [(0, vA (some m)), (1, vI x1), (2, vI x2), (3, vI x3)] []) (h : fX12_lays_L29b fu rec29 X x1 x2 x3 = some r) : Gd D (foot (xS m X0 z)) ev (QF D ev (xS m X0 z) (.inr (none)) (xS m r z) rmX12_lays) (xS m X z) 0 0 29 [(0, vA (some m)), (1, vI x1), (2, vI x2), (3, vI x3)] [] := by
  unfold fX12_lays_L29b at h
  refine g_iload_n (pc := 29) B dX12_lays_29 3 rfl ?_
  refine g_aload_n (pc := 30) B dX12_lays_30 0 rfl ?_
  refine gs_arr (pc := 31) 10 5 B (by decide) (by decide) kfX12_26 dX12_lays_31 ?_
  refine g_iload_n (pc := 34) B dX12_lays_34 1 rfl ?_
  obtain ⟨c35, h⟩ := chk h
  refine gs_iald (pc := 35) B c35 dX12_lays_35 ?_
  refine g_icmp_ge (pc := 36) (tgt := 195) B dX12_lays_36 (by decide) (fun c36 => ?_) (fun c36 => ?_)
  · rw [if_pos c36] at h
    obtain rfl := Option.some.inj h
    exact g_ret_V (pc := 195) B rfl (by decide) (by decide) dX12_lays_195
  · rw [if_neg c36] at h
    refine g_bipush (pc := 39) B dX12_lays_39 (30 : Int32) (by decide) ?_
    refine g_iload_n (pc := 41) B dX12_lays_41 1 rfl ?_
    refine g_imul (pc := 42) B dX12_lays_42 ?_
    refine g_iload_n (pc := 43) B dX12_lays_43 3 rfl ?_
    refine g_iadd (pc := 44) B dX12_lays_44 ?_
    refine g_istore (pc := 45) (L' := [(4, vI (((30 : Int32) * x1) + x3)), (0, vA (some m)), (1, vI x1), (2, vI x2), (3, vI x3)]) B dX12_lays_45 (by decide) rfl ?_
    refine g_aload_n (pc := 47) B dX12_lays_47 1 rfl ?_
    refine gs_arr (pc := 48) 11 6 B (by decide) (by decide) kfX12_29 dX12_lays_48 ?_
    refine g_iload (pc := 51) B dX12_lays_51 0 rfl ?_
    obtain ⟨c53, h⟩ := chk h
    refine gs_iald (pc := 53) B c53 dX12_lays_53 ?_
    refine g_istore (pc := 54) (L' := [(5, vI (ar X 6 (((30 : Int32) * x1) + x3).toNatClampNeg)), (4, vI (((30 : Int32) * x1) + x3)), (0, vA (some m)), (1, vI x1), (2, vI x2), (3, vI x3)]) B dX12_lays_54 (by decide) rfl ?_
    refine g_iload (pc := 56) B dX12_lays_56 0 rfl ?_
    refine g_iconst (pc := 58) B dX12_lays_58 (3 : Int32) (by decide) ?_
    refine g_icmp_eq (pc := 59) (tgt := 68) B dX12_lays_59 (by decide) (fun c59 => ?_) (fun c59 => ?_)
    · rw [if_pos c59] at h
      refine g_sub (pc := 68) [2, 3, 4, 5, 1, 0] rfl ?_
      exact cb_X12_lays_L68 B ht hrec29 h
    · rw [if_neg c59] at h
      refine g_iload (pc := 62) B dX12_lays_62 0 rfl ?_
      refine g_iconst (pc := 64) B dX12_lays_64 (4 : Int32) (by decide) ?_
      refine g_icmp_ne (pc := 65) (tgt := 85) B dX12_lays_65 (by decide) (fun c65 => ?_) (fun c65 => ?_)
      · rw [if_neg c65] at h
        refine g_iload (pc := 85) B dX12_lays_85 0 rfl ?_
        refine g_bipush (pc := 87) B dX12_lays_87 (6 : Int32) (by decide) ?_
        refine g_icmp_eq (pc := 89) (tgt := 99) B dX12_lays_89 (by decide) (fun c89 => ?_) (fun c89 => ?_)
        · rw [if_pos c89] at h
          refine g_sub (pc := 99) [2, 3, 4, 5, 1, 0] rfl ?_
          exact cb_X12_lays_L99 B ht hrec29 h
        · rw [if_neg c89] at h
          refine g_iload (pc := 92) B dX12_lays_92 0 rfl ?_
          refine g_bipush (pc := 94) B dX12_lays_94 (7 : Int32) (by decide) ?_
          refine g_icmp_ne (pc := 96) (tgt := 116) B dX12_lays_96 (by decide) (fun c96 => ?_) (fun c96 => ?_)
          · rw [if_neg c96] at h
            refine g_iconst (pc := 116) B dX12_lays_116 (0 : Int32) (by decide) ?_
            refine g_sub (pc := 117) [2, 3, 4, 5, 1, 0] rfl ?_
            exact cb_X12_lays_L117 B ht hrec29 h
          · rw [if_pos c96] at h
            refine g_sub (pc := 99) [2, 3, 4, 5, 1, 0] rfl ?_
            exact cb_X12_lays_L99 B ht hrec29 h
      · rw [if_pos c65] at h
        refine g_sub (pc := 68) [2, 3, 4, 5, 1, 0] rfl ?_
        exact cb_X12_lays_L68 B ht hrec29 h
theorem cb_X12_lays_L29n {D : DD} {ev : EV} {m z : Nat} {X0 : SM} {fu : Nat} (B : Amb D (foot (xS m X0 z)) ev RX12 "lays" cX12_lays 8 (none) rmX12_lays) (ht : Tb0 ev)  : ∀ (n : Nat) {X : SM} {x1 : Int32} {x2 : Int32} {x3 : Int32} {r : SM}, fX12_lays_L29 fu n X x1 x2 x3 = some r → Gd D (foot (xS m X0 z)) ev (QF D ev (xS m X0 z) (.inr (none)) (xS m r z) rmX12_lays) (xS m X z) 0 0 29 [(0, vA (some m)), (1, vI x1), (2, vI x2), (3, vI x3)] [] := by
  intro n
  induction n with
  | zero => intro X x1 x2 x3 r h; exact nomatch h
  | succ n ih => intro X x1 x2 x3 r h; exact cb_X12_lays_L29b (fu := fu) B ht (fun h9 => ih h9) h
theorem cb_X12_lays_L29 {D : DD} {ev : EV} {m z : Nat} {X0 : SM} {fu : Nat} {X : SM} {x1 : Int32} {x2 : Int32} {x3 : Int32} {n : Nat} {r : SM} (B : Amb D (foot (xS m X0 z)) ev RX12 "lays" cX12_lays 8 (none) rmX12_lays) (ht : Tb0 ev)  (h : fX12_lays_L29 fu n X x1 x2 x3 = some r) : Gd D (foot (xS m X0 z)) ev (QF D ev (xS m X0 z) (.inr (none)) (xS m r z) rmX12_lays) (xS m X z) 0 0 29 [(0, vA (some m)), (1, vI x1), (2, vI x2), (3, vI x3)] [] := cb_X12_lays_L29n B ht n h
set_option maxRecDepth 100000 in
set_option maxHeartbeats 4000000 in
theorem cb_X12_lays_L2b {D : DD} {ev : EV} {m z : Nat} {X0 : SM} {fu : Nat} {rec2 : SM → Int32 → Int32 → Int32 → Option (SM)} {X : SM} {x1 : Int32} {x2 : Int32} {x3 : Int32} {r : SM} (B : Amb D (foot (xS m X0 z)) ev RX12 "lays" cX12_lays 8 (none) rmX12_lays) (ht : Tb0 ev) (hrec2 : ∀ {X : SM} {x1 : Int32} {x2 : Int32} {x3 : Int32} {r : SM}, rec2 X x1 x2 x3 = some r → Gd D (foot (xS m X0 z)) ev (QF D ev (xS m X0 z) (.inr (none)) (xS m r z) rmX12_lays) (xS m X z) 0 0 2 [(0, vA (some m)), (1, vI x1), (2, vI x2), (3, vI x3)] []) (h : fX12_lays_L2b fu rec2 X x1 x2 x3 = some r) : Gd D (foot (xS m X0 z)) ev (QF D ev (xS m X0 z) (.inr (none)) (xS m r z) rmX12_lays) (xS m X z) 0 0 2 [(0, vA (some m)), (1, vI x1), (2, vI x2), (3, vI x3)] [] := by
  unfold fX12_lays_L2b at h
  refine g_iload_n (pc := 2) B dX12_lays_2 3 rfl ?_
  refine g_iconst (pc := 3) B dX12_lays_3 (4 : Int32) (by decide) ?_
  refine g_icmp_ge (pc := 4) (tgt := 27) B dX12_lays_4 (by decide) (fun c4 => ?_) (fun c4 => ?_)
  · rw [if_pos c4] at h
    refine g_iconst (pc := 27) B dX12_lays_27 (0 : Int32) (by decide) ?_
    refine g_istore_n (pc := 28) (L' := [(3, vI (0 : Int32)), (0, vA (some m)), (1, vI x1), (2, vI x2)]) B dX12_lays_28 (by decide) rfl ?_
    refine g_sub (pc := 29) [1, 2, 3, 0] rfl ?_
    exact cb_X12_lays_L29 B ht h
  · rw [if_neg c4] at h
    refine g_aload_n (pc := 7) B dX12_lays_7 0 rfl ?_
    refine gs_arr (pc := 8) 34 20 B (by decide) (by decide) kfX12_71 dX12_lays_8 ?_
    refine g_iload_n (pc := 11) B dX12_lays_11 3 rfl ?_
    refine g_iconst (pc := 12) B dX12_lays_12 (-1) (by decide) ?_
    obtain ⟨c13, h⟩ := chk h
    refine gs_iast (pc := 13) B c13 dX12_lays_13 ?_
    refine g_aload_n (pc := 14) B dX12_lays_14 0 rfl ?_
    refine gs_arr (pc := 15) 35 21 B (by decide) (by decide) kfX12_74 dX12_lays_15 ?_
    refine g_iload_n (pc := 18) B dX12_lays_18 3 rfl ?_
    refine g_iconst (pc := 19) B dX12_lays_19 (-1) (by decide) ?_
    obtain ⟨c20, h⟩ := chk h
    refine gs_iast (pc := 20) B c20 dX12_lays_20 ?_
    refine g_iinc (pc := 21) (v := (x3 + (1 : Int32))) (L' := [(3, vI (x3 + (1 : Int32))), (0, vA (some m)), (1, vI x1), (2, vI x2)]) B dX12_lays_21 (by decide) 3 rfl rfl rfl ?_
    refine g_goto (pc := 24) (tgt := 2) B dX12_lays_24 (by decide) ?_
    refine g_sub (pc := 2) [1, 2, 3, 0] rfl ?_
    exact hrec2 h
theorem cb_X12_lays_L2n {D : DD} {ev : EV} {m z : Nat} {X0 : SM} {fu : Nat} (B : Amb D (foot (xS m X0 z)) ev RX12 "lays" cX12_lays 8 (none) rmX12_lays) (ht : Tb0 ev)  : ∀ (n : Nat) {X : SM} {x1 : Int32} {x2 : Int32} {x3 : Int32} {r : SM}, fX12_lays_L2 fu n X x1 x2 x3 = some r → Gd D (foot (xS m X0 z)) ev (QF D ev (xS m X0 z) (.inr (none)) (xS m r z) rmX12_lays) (xS m X z) 0 0 2 [(0, vA (some m)), (1, vI x1), (2, vI x2), (3, vI x3)] [] := by
  intro n
  induction n with
  | zero => intro X x1 x2 x3 r h; exact nomatch h
  | succ n ih => intro X x1 x2 x3 r h; exact cb_X12_lays_L2b (fu := fu) B ht (fun h9 => ih h9) h
theorem cb_X12_lays_L2 {D : DD} {ev : EV} {m z : Nat} {X0 : SM} {fu : Nat} {X : SM} {x1 : Int32} {x2 : Int32} {x3 : Int32} {n : Nat} {r : SM} (B : Amb D (foot (xS m X0 z)) ev RX12 "lays" cX12_lays 8 (none) rmX12_lays) (ht : Tb0 ev)  (h : fX12_lays_L2 fu n X x1 x2 x3 = some r) : Gd D (foot (xS m X0 z)) ev (QF D ev (xS m X0 z) (.inr (none)) (xS m r z) rmX12_lays) (xS m X z) 0 0 2 [(0, vA (some m)), (1, vI x1), (2, vI x2), (3, vI x3)] [] := cb_X12_lays_L2n B ht n h
set_option maxRecDepth 100000 in
set_option maxHeartbeats 4000000 in
theorem cb_X12_lays_L0 {D : DD} {ev : EV} {m z : Nat} {X0 : SM} {fu : Nat} {X : SM} {x1 : Int32} {x2 : Int32} {r : SM} (B : Amb D (foot (xS m X0 z)) ev RX12 "lays" cX12_lays 8 (none) rmX12_lays) (ht : Tb0 ev)  (h : fX12_lays fu X x1 x2 = some r) : Gd D (foot (xS m X0 z)) ev (QF D ev (xS m X0 z) (.inr (none)) (xS m r z) rmX12_lays) (xS m X z) 0 0 0 [(0, vA (some m)), (1, vI x1), (2, vI x2)] [] := by
  unfold fX12_lays at h
  refine g_iconst (pc := 0) B dX12_lays_0 (0 : Int32) (by decide) ?_
  refine g_istore_n (pc := 1) (L' := [(3, vI (0 : Int32)), (0, vA (some m)), (1, vI x1), (2, vI x2)]) B dX12_lays_1 (by decide) rfl ?_
  refine g_sub (pc := 2) [1, 2, 3, 0] rfl ?_
  exact cb_X12_lays_L2 B ht h
theorem ct_X12_lays {D : DD} {l : Launch} {m z : Nat} {X0 : SM} {fu : Nat} {x1 : Int32} {x2 : Int32} {r : SM} (hl : l.stackTraces = false) (h : fX12_lays fu X0 x1 x2 = some r) : Ctr D l yX12_lays cX12_lays 8 (none) rmX12_lays [vA (some m), vI x1, vI x2] (xS m X0 z) (.inr (none)) (xS m r z) :=
  ctr_of hl (plainFor_of_name (by decide)) (Nat.le_of_ble_eq_true rfl) fun ev _ ht B => cb_X12_lays_L0 B ht h
set_option maxRecDepth 100000 in
set_option maxHeartbeats 4000000 in
theorem cb_X12_oneForm_L76 {D : DD} {ev : EV} {m z : Nat} {X0 : SM} {fu : Nat} {rec36 : SM → Int32 → Int32 → Int32 → Option (Int32 × SM)} {X : SM} {x1 : Int32} {x4 : Int32} {s0 : Int32} {r : Int32 × SM} (B : Amb D (foot (xS m X0 z)) ev RX12 "oneForm" cX12_oneForm 5 (some .boolean) rmX12_oneForm) (ht : Tb0 ev) (hrec36 : ∀ {X : SM} {x1 : Int32} {x3 : Int32} {x4 : Int32} {r : Int32 × SM}, rec36 X x1 x3 x4 = some r → Gd D (foot (xS m X0 z)) ev (QF D ev (xS m X0 z) (.inr (some (vI r.1))) (xS m r.2 z) rmX12_oneForm) (xS m X z) 0 0 36 [(0, vA (some m)), (1, vI x1), (3, vI x3), (4, vI x4)] []) (h : fX12_oneForm_L76 fu rec36 X x1 x4 s0 = some r) : Gd D (foot (xS m X0 z)) ev (QF D ev (xS m X0 z) (.inr (some (vI r.1))) (xS m r.2 z) rmX12_oneForm) (xS m X z) 0 0 76 [(0, vA (some m)), (1, vI x1), (4, vI x4)] [vI s0] := by
  unfold fX12_oneForm_L76 at h
  refine g_istore_n (pc := 76) (L' := [(3, vI s0), (0, vA (some m)), (1, vI x1), (4, vI x4)]) B dX12_oneForm_76 (by decide) rfl ?_
  refine g_iinc (pc := 77) (v := (x4 + (1 : Int32))) (L' := [(4, vI (x4 + (1 : Int32))), (3, vI s0), (0, vA (some m)), (1, vI x1)]) B dX12_oneForm_77 (by decide) 3 rfl rfl rfl ?_
  refine g_goto (pc := 80) (tgt := 36) B dX12_oneForm_80 (by decide) ?_
  refine g_sub (pc := 36) [2, 3, 1, 0] rfl ?_
  exact hrec36 h
set_option maxRecDepth 100000 in
set_option maxHeartbeats 4000000 in
theorem cb_X12_oneForm_L75 {D : DD} {ev : EV} {m z : Nat} {X0 : SM} {fu : Nat} {rec36 : SM → Int32 → Int32 → Int32 → Option (Int32 × SM)} {X : SM} {x1 : Int32} {x4 : Int32} {r : Int32 × SM} (B : Amb D (foot (xS m X0 z)) ev RX12 "oneForm" cX12_oneForm 5 (some .boolean) rmX12_oneForm) (ht : Tb0 ev) (hrec36 : ∀ {X : SM} {x1 : Int32} {x3 : Int32} {x4 : Int32} {r : Int32 × SM}, rec36 X x1 x3 x4 = some r → Gd D (foot (xS m X0 z)) ev (QF D ev (xS m X0 z) (.inr (some (vI r.1))) (xS m r.2 z) rmX12_oneForm) (xS m X z) 0 0 36 [(0, vA (some m)), (1, vI x1), (3, vI x3), (4, vI x4)] []) (h : fX12_oneForm_L75 fu rec36 X x1 x4 = some r) : Gd D (foot (xS m X0 z)) ev (QF D ev (xS m X0 z) (.inr (some (vI r.1))) (xS m r.2 z) rmX12_oneForm) (xS m X z) 0 0 75 [(0, vA (some m)), (1, vI x1), (4, vI x4)] [] := by
  unfold fX12_oneForm_L75 at h
  refine g_iconst (pc := 75) B dX12_oneForm_75 (0 : Int32) (by decide) ?_
  refine g_sub (pc := 76) [0, 1, 2] rfl ?_
  exact cb_X12_oneForm_L76 B ht hrec36 h
set_option maxRecDepth 100000 in
set_option maxHeartbeats 4000000 in
theorem cb_X12_oneForm_L36b {D : DD} {ev : EV} {m z : Nat} {X0 : SM} {fu : Nat} {rec36 : SM → Int32 → Int32 → Int32 → Option (Int32 × SM)} {X : SM} {x1 : Int32} {x3 : Int32} {x4 : Int32} {r : Int32 × SM} (B : Amb D (foot (xS m X0 z)) ev RX12 "oneForm" cX12_oneForm 5 (some .boolean) rmX12_oneForm) (ht : Tb0 ev) (hrec36 : ∀ {X : SM} {x1 : Int32} {x3 : Int32} {x4 : Int32} {r : Int32 × SM}, rec36 X x1 x3 x4 = some r → Gd D (foot (xS m X0 z)) ev (QF D ev (xS m X0 z) (.inr (some (vI r.1))) (xS m r.2 z) rmX12_oneForm) (xS m X z) 0 0 36 [(0, vA (some m)), (1, vI x1), (3, vI x3), (4, vI x4)] []) (h : fX12_oneForm_L36b fu rec36 X x1 x3 x4 = some r) : Gd D (foot (xS m X0 z)) ev (QF D ev (xS m X0 z) (.inr (some (vI r.1))) (xS m r.2 z) rmX12_oneForm) (xS m X z) 0 0 36 [(0, vA (some m)), (1, vI x1), (3, vI x3), (4, vI x4)] [] := by
  unfold fX12_oneForm_L36b at h
  refine g_iload (pc := 36) B dX12_oneForm_36 3 rfl ?_
  refine g_aload_n (pc := 38) B dX12_oneForm_38 0 rfl ?_
  refine gs_arr (pc := 39) 10 5 B (by decide) (by decide) kfX12_26 dX12_oneForm_39 ?_
  refine g_iload_n (pc := 42) B dX12_oneForm_42 1 rfl ?_
  obtain ⟨c43, h⟩ := chk h
  refine gs_iald (pc := 43) B c43 dX12_oneForm_43 ?_
  refine g_icmp_ge (pc := 44) (tgt := 83) B dX12_oneForm_44 (by decide) (fun c44 => ?_) (fun c44 => ?_)
  · rw [if_pos c44] at h
    refine g_iload_n (pc := 83) B dX12_oneForm_83 2 rfl ?_
    obtain ⟨z84, h⟩ := chk h
    obtain rfl := Option.some.inj h
    exact g_ret_Z (pc := 84) B rfl z84 (by decide) (by decide) dX12_oneForm_84
  · rw [if_neg c44] at h
    refine g_iload_n (pc := 47) B dX12_oneForm_47 2 rfl ?_
    refine g_if_eq (pc := 48) (tgt := 75) B dX12_oneForm_48 (by decide) (fun c48 => ?_) (fun c48 => ?_)
    · rw [if_pos c48] at h
      refine g_sub (pc := 75) [0, 1, 3] rfl ?_
      exact cb_X12_oneForm_L75 B ht hrec36 h
    · rw [if_neg c48] at h
      refine g_aload_n (pc := 51) B dX12_oneForm_51 0 rfl ?_
      refine gs_arr (pc := 52) 33 19 B (by decide) (by decide) kfX12_68 dX12_oneForm_52 ?_
      refine g_iload (pc := 55) B dX12_oneForm_55 3 rfl ?_
      obtain ⟨c57, h⟩ := chk h
      refine gs_iald (pc := 57) B c57 dX12_oneForm_57 ?_
      refine g_aload_n (pc := 58) B dX12_oneForm_58 0 rfl ?_
      refine gs_arr (pc := 59) 33 19 B (by decide) (by decide) kfX12_68 dX12_oneForm_59 ?_
      refine g_bipush (pc := 62) B dX12_oneForm_62 (30 : Int32) (by decide) ?_
      refine g_iload (pc := 64) B dX12_oneForm_64 3 rfl ?_
      refine g_iadd (pc := 66) B dX12_oneForm_66 ?_
      obtain ⟨c67, h⟩ := chk h
      refine gs_iald (pc := 67) B c67 dX12_oneForm_67 ?_
      refine g_icmp_ne (pc := 68) (tgt := 75) B dX12_oneForm_68 (by decide) (fun c68 => ?_) (fun c68 => ?_)
      · rw [if_neg c68] at h
        refine g_sub (pc := 75) [0, 1, 3] rfl ?_
        exact cb_X12_oneForm_L75 B ht hrec36 h
      · rw [if_pos c68] at h
        refine g_iconst (pc := 71) B dX12_oneForm_71 (1 : Int32) (by decide) ?_
        refine g_goto (pc := 72) (tgt := 76) B dX12_oneForm_72 (by decide) ?_
        refine g_sub (pc := 76) [0, 1, 3] rfl ?_
        exact cb_X12_oneForm_L76 B ht hrec36 h
theorem cb_X12_oneForm_L36n {D : DD} {ev : EV} {m z : Nat} {X0 : SM} {fu : Nat} (B : Amb D (foot (xS m X0 z)) ev RX12 "oneForm" cX12_oneForm 5 (some .boolean) rmX12_oneForm) (ht : Tb0 ev)  : ∀ (n : Nat) {X : SM} {x1 : Int32} {x3 : Int32} {x4 : Int32} {r : Int32 × SM}, fX12_oneForm_L36 fu n X x1 x3 x4 = some r → Gd D (foot (xS m X0 z)) ev (QF D ev (xS m X0 z) (.inr (some (vI r.1))) (xS m r.2 z) rmX12_oneForm) (xS m X z) 0 0 36 [(0, vA (some m)), (1, vI x1), (3, vI x3), (4, vI x4)] [] := by
  intro n
  induction n with
  | zero => intro X x1 x3 x4 r h; exact nomatch h
  | succ n ih => intro X x1 x3 x4 r h; exact cb_X12_oneForm_L36b (fu := fu) B ht (fun h9 => ih h9) h
theorem cb_X12_oneForm_L36 {D : DD} {ev : EV} {m z : Nat} {X0 : SM} {fu : Nat} {X : SM} {x1 : Int32} {x3 : Int32} {x4 : Int32} {n : Nat} {r : Int32 × SM} (B : Amb D (foot (xS m X0 z)) ev RX12 "oneForm" cX12_oneForm 5 (some .boolean) rmX12_oneForm) (ht : Tb0 ev)  (h : fX12_oneForm_L36 fu n X x1 x3 x4 = some r) : Gd D (foot (xS m X0 z)) ev (QF D ev (xS m X0 z) (.inr (some (vI r.1))) (xS m r.2 z) rmX12_oneForm) (xS m X z) 0 0 36 [(0, vA (some m)), (1, vI x1), (3, vI x3), (4, vI x4)] [] := cb_X12_oneForm_L36n B ht n h
set_option maxRecDepth 100000 in
set_option maxHeartbeats 4000000 in
theorem cb_X12_oneForm_L32 {D : DD} {ev : EV} {m z : Nat} {X0 : SM} {fu : Nat} {X : SM} {x1 : Int32} {s0 : Int32} {r : Int32 × SM} (B : Amb D (foot (xS m X0 z)) ev RX12 "oneForm" cX12_oneForm 5 (some .boolean) rmX12_oneForm) (ht : Tb0 ev)  (h : fX12_oneForm_L32 fu X x1 s0 = some r) : Gd D (foot (xS m X0 z)) ev (QF D ev (xS m X0 z) (.inr (some (vI r.1))) (xS m r.2 z) rmX12_oneForm) (xS m X z) 0 0 32 [(0, vA (some m)), (1, vI x1)] [vI s0] := by
  unfold fX12_oneForm_L32 at h
  refine g_istore_n (pc := 32) (L' := [(3, vI s0), (0, vA (some m)), (1, vI x1)]) B dX12_oneForm_32 (by decide) rfl ?_
  refine g_iconst (pc := 33) B dX12_oneForm_33 (0 : Int32) (by decide) ?_
  refine g_istore (pc := 34) (L' := [(4, vI (0 : Int32)), (3, vI s0), (0, vA (some m)), (1, vI x1)]) B dX12_oneForm_34 (by decide) rfl ?_
  refine g_sub (pc := 36) [2, 3, 1, 0] rfl ?_
  exact cb_X12_oneForm_L36 B ht h
set_option maxRecDepth 100000 in
set_option maxHeartbeats 4000000 in
theorem cb_X12_oneForm_L0 {D : DD} {ev : EV} {m z : Nat} {X0 : SM} {fu : Nat} {X : SM} {x1 : Int32} {x2 : Int32} {r : Int32 × SM} (B : Amb D (foot (xS m X0 z)) ev RX12 "oneForm" cX12_oneForm 5 (some .boolean) rmX12_oneForm) (ht : Tb0 ev)  (h : fX12_oneForm fu X x1 x2 = some r) : Gd D (foot (xS m X0 z)) ev (QF D ev (xS m X0 z) (.inr (some (vI r.1))) (xS m r.2 z) rmX12_oneForm) (xS m X z) 0 0 0 [(0, vA (some m)), (1, vI x1), (2, vI x2)] [] := by
  unfold fX12_oneForm at h
  refine g_aload_n (pc := 0) B dX12_oneForm_0 0 rfl ?_
  refine g_iload_n (pc := 1) B dX12_oneForm_1 1 rfl ?_
  refine g_iconst (pc := 2) B dX12_oneForm_2 (0 : Int32) (by decide) ?_
  obtain ⟨X3, e3, h⟩ := ob h
  refine h_callV (pc := 3) (As := [vI x1, vI (0 : Int32)]) (st := []) (X' := (xS m X3 z)) (cs' := 0) (sl' := 0) (st10 := []) B cal_X12_lays kmX12_252 kn_X12_lays ks_X12_lays hkS (by decide) rfl (fun l hl => ct_X12_lays hl e3) rfl (Nat.le_of_ble_eq_true rfl) (by decide) (by decide) dX12_oneForm_3 rfl rfl rfl rfl ?_
  refine g_aload_n (pc := 6) B dX12_oneForm_6 0 rfl ?_
  refine g_iload_n (pc := 7) B dX12_oneForm_7 2 rfl ?_
  refine g_iconst (pc := 8) B dX12_oneForm_8 (1 : Int32) (by decide) ?_
  obtain ⟨X9, e9, h⟩ := ob h
  refine h_callV (pc := 9) (As := [vI x2, vI (1 : Int32)]) (st := []) (X' := (xS m X9 z)) (cs' := 0) (sl' := 0) (st10 := []) B cal_X12_lays kmX12_252 kn_X12_lays ks_X12_lays hkS (by decide) rfl (fun l hl => ct_X12_lays hl e9) rfl (Nat.le_of_ble_eq_true rfl) (by decide) (by decide) dX12_oneForm_9 rfl rfl rfl rfl ?_
  refine g_aload_n (pc := 12) B dX12_oneForm_12 0 rfl ?_
  refine gs_arr (pc := 13) 10 5 B (by decide) (by decide) kfX12_26 dX12_oneForm_13 ?_
  refine g_iload_n (pc := 16) B dX12_oneForm_16 1 rfl ?_
  obtain ⟨c17, h⟩ := chk h
  refine gs_iald (pc := 17) B c17 dX12_oneForm_17 ?_
  refine g_aload_n (pc := 18) B dX12_oneForm_18 0 rfl ?_
  refine gs_arr (pc := 19) 10 5 B (by decide) (by decide) kfX12_26 dX12_oneForm_19 ?_
  refine g_iload_n (pc := 22) B dX12_oneForm_22 2 rfl ?_
  obtain ⟨c23, h⟩ := chk h
  refine gs_iald (pc := 23) B c23 dX12_oneForm_23 ?_
  refine g_icmp_ne (pc := 24) (tgt := 31) B dX12_oneForm_24 (by decide) (fun c24 => ?_) (fun c24 => ?_)
  · rw [if_neg c24] at h
    refine g_iconst (pc := 31) B dX12_oneForm_31 (0 : Int32) (by decide) ?_
    refine g_sub (pc := 32) [0, 1] rfl ?_
    exact cb_X12_oneForm_L32 B ht h
  · rw [if_pos c24] at h
    refine g_iconst (pc := 27) B dX12_oneForm_27 (1 : Int32) (by decide) ?_
    refine g_goto (pc := 28) (tgt := 32) B dX12_oneForm_28 (by decide) ?_
    refine g_sub (pc := 32) [0, 1] rfl ?_
    exact cb_X12_oneForm_L32 B ht h
theorem ct_X12_oneForm {D : DD} {l : Launch} {m z : Nat} {X0 : SM} {fu : Nat} {x1 : Int32} {x2 : Int32} {r : Int32 × SM} (hl : l.stackTraces = false) (h : fX12_oneForm fu X0 x1 x2 = some r) : Ctr D l yX12_oneForm cX12_oneForm 5 (some .boolean) rmX12_oneForm [vA (some m), vI x1, vI x2] (xS m X0 z) (.inr (some (vI r.1))) (xS m r.2 z) :=
  ctr_of hl (plainFor_of_name (by decide)) (Nat.le_of_ble_eq_true rfl) fun ev _ ht B => cb_X12_oneForm_L0 B ht h
