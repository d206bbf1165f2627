set_option maxRecDepth 100000 in
set_option maxHeartbeats 4000000 in
theorem cb_X8_go_L60 {D : DD} {ev : EV} {X0 : Mem} {X : Mem} {x0 : Nat} {x2 : Int32} {x3 : Int32} {r : Mem} (B : Amb D (foot X0) ev RX8 "go" cX8_go 4 (none) rmX8_go) (ht : Tb0 ev)  (h : fX8_go_L60 X x0 x2 x3 = some r) : Gd D (foot X0) ev (QF D ev X0 (.inr (none)) r rmX8_go) X 0 0 60 [(0, vA (some x0)), (2, vI x2), (3, vI x3)] [] := by
  unfold fX8_go_L60 at h
  refine g_aload_n (pc := 60) B dX8_go_60 0 rfl ?_
  refine g_iload_n (pc := 61) B dX8_go_61 1 rfl ?_
  obtain ⟨k62_1, h⟩ := chk h
  refine g_putI (pc := 62) 8 0 B k62_1 (by decide) (by decide) rfl rfl kfX8_9 dX8_go_62 ?_
  refine g_aload_n (pc := 65) B dX8_go_65 0 rfl ?_
  refine g_iload_n (pc := 66) B dX8_go_66 2 rfl ?_
  refine g_putI (pc := 67) 8 1 B k62_1 (by decide) (by decide) rfl rfl kfX8_15 dX8_go_67 ?_
  obtain rfl := Option.some.inj h
  exact g_ret_V (pc := 70) B rfl (by decide) (by decide) dX8_go_70
set_option maxRecDepth 100000 in
set_option maxHeartbeats 4000000 in
theorem cb_X8_go_L57 {D : DD} {ev : EV} {X0 : Mem} {X : Mem} {x0 : Nat} {x2 : Int32} {x3 : Int32} {s0 : Option Nat} {s1 : Int32} {s2 : Int32} {s3 : Int32} {r : Mem} (B : Amb D (foot X0) ev RX8 "go" cX8_go 4 (none) rmX8_go) (ht : Tb0 ev)  (h : fX8_go_L57 X x0 x2 x3 s0 s1 s2 s3 = some r) : Gd D (foot X0) ev (QF D ev X0 (.inr (none)) r rmX8_go) X 0 0 57 [(0, vA (some x0)), (2, vI x2), (3, vI x3)] [vI s3, vI s2, vI s1, vA s0] := by
  unfold fX8_go_L57 at h
  obtain ⟨a57_1, ea57_1, h⟩ := ob h
  rw [ea57_1]
  obtain ⟨k57_2, h⟩ := chk h
  obtain ⟨X57, e57, h⟩ := ob h
  refine h_callV (pc := 57) (As := [vI s1, vI s2, vI s3]) (st := []) (X' := X57) (cs' := 0) (sl' := 0) (st10 := []) B cal_X2_draw kmX8_45 kn_X2_draw ks_X2_draw k57_2 (by decide) rfl (fun l hl => ct_X2_draw hl e57) rfl (Nat.le_of_ble_eq_true rfl) (by decide) (by decide) dX8_go_57 rfl rfl rfl rfl ?_
  refine g_sub (pc := 60) [0, 1, 2] rfl ?_
  exact cb_X8_go_L60 B ht h
set_option maxRecDepth 100000 in
set_option maxHeartbeats 4000000 in
theorem cb_X8_go_L0 {D : DD} {ev : EV} {X0 : Mem} {X : Mem} {x0 : Nat} {x1 : Option Nat} {r : Mem} (B : Amb D (foot X0) ev RX8 "go" cX8_go 4 (none) rmX8_go) (ht : Tb0 ev)  (h : fX8_go X x0 x1 = some r) : Gd D (foot X0) ev (QF D ev X0 (.inr (none)) r rmX8_go) X 0 0 0 [(0, vA (some x0)), (1, vA x1)] [] := by
  unfold fX8_go at h
  refine g_aload_n (pc := 0) B dX8_go_0 0 rfl ?_
  obtain ⟨k1_1, h⟩ := chk h
  refine g_getI (pc := 1) 8 0 B k1_1 (by decide) (by decide) rfl kfX8_9 dX8_go_1 ?_
  refine g_aload_n (pc := 4) B dX8_go_4 0 rfl ?_
  obtain ⟨v5, e5, h⟩ := ob h
  refine h_callV (pc := 5) (As := []) (st := [vI (mI X 800 x0)]) (X' := X) (cs' := 0) (sl' := 0) (st10 := [vI v5, vI (mI X 800 x0)]) B cal_X8_aheadX kmX8_31 kn_X8_aheadX ks_X8_aheadX k1_1 (by decide) rfl (fun l hl => ct_X8_aheadX hl e5) rfl (Nat.le_of_ble_eq_true rfl) (by decide) (by decide) dX8_go_5 rfl rfl rfl rfl ?_
  refine g_iadd (pc := 8) B dX8_go_8 ?_
  refine g_istore_n (pc := 9) (L' := [(2, vI ((mI X 800 x0) + v5)), (0, vA (some x0)), (1, vA x1)]) B dX8_go_9 (by decide) rfl ?_
  refine g_aload_n (pc := 10) B dX8_go_10 1 rfl ?_
  refine g_getI (pc := 11) 8 1 B k1_1 (by decide) (by decide) rfl kfX8_15 dX8_go_11 ?_
  refine g_aload_n (pc := 14) B dX8_go_14 1 rfl ?_
  obtain ⟨v15, e15, h⟩ := ob h
  refine h_callV (pc := 15) (As := []) (st := [vI (mI X 801 x0)]) (X' := X) (cs' := 0) (sl' := 0) (st10 := [vI v15, vI (mI X 801 x0)]) B cal_X8_aheadY kmX8_39 kn_X8_aheadY ks_X8_aheadY k1_1 (by decide) rfl (fun l hl => ct_X8_aheadY hl e15) rfl (Nat.le_of_ble_eq_true rfl) (by decide) (by decide) dX8_go_15 rfl rfl rfl rfl ?_
  refine g_iadd (pc := 18) B dX8_go_18 ?_
  refine g_istore_n (pc := 19) (L' := [(3, vI ((mI X 801 x0) + v15)), (2, vI ((mI X 800 x0) + v5)), (0, vA (some x0)), (1, vA x1)]) B dX8_go_19 (by decide) rfl ?_
  refine g_aload_n (pc := 20) B dX8_go_20 2 rfl ?_
  refine g_getI (pc := 21) 8 3 B k1_1 (by decide) (by decide) rfl kfX8_21 dX8_go_21 ?_
  refine g_if_eq (pc := 24) (tgt := 60) B dX8_go_24 (by decide) (fun c24 => ?_) (fun c24 => ?_)
  · rw [if_pos c24] at h
    refine g_sub (pc := 60) [2, 1, 0] rfl ?_
    exact cb_X8_go_L60 B ht h
  · rw [if_neg c24] at h
    refine g_aload_n (pc := 27) B dX8_go_27 3 rfl ?_
    refine g_aload_n (pc := 28) B dX8_go_28 2 rfl ?_
    refine g_getI (pc := 29) 8 0 B k1_1 (by decide) (by decide) rfl kfX8_9 dX8_go_29 ?_
    refine g_iload_n (pc := 32) B dX8_go_32 1 rfl ?_
    obtain ⟨v33, e33, h⟩ := ob h
    refine h_callS (pc := 33) (As := [vI (mI X 800 x0), vI ((mI X 800 x0) + v5)]) (st := [vA x1]) (X' := X) (cs' := 0) (sl' := 0) (st10 := [vI v33, vA x1]) B cal_J9_min_7cf53 kmX8_42 kz_J9_min_7cf53 (fun l hl => ct_J9_min_7cf53 hl e33) rfl (Nat.le_of_ble_eq_true rfl) (by decide) (by decide) dX8_go_33 rfl rfl rfl rfl ?_
    refine g_aload_n (pc := 36) B dX8_go_36 2 rfl ?_
    refine g_getI (pc := 37) 8 1 B k1_1 (by decide) (by decide) rfl kfX8_15 dX8_go_37 ?_
    refine g_iload_n (pc := 40) B dX8_go_40 0 rfl ?_
    obtain ⟨v41, e41, h⟩ := ob h
    refine h_callS (pc := 41) (As := [vI (mI X 801 x0), vI ((mI X 801 x0) + v15)]) (st := [vI v33, vA x1]) (X' := X) (cs' := 0) (sl' := 0) (st10 := [vI v41, vI v33, vA x1]) B cal_J9_min_7cf53 kmX8_42 kz_J9_min_7cf53 (fun l hl => ct_J9_min_7cf53 hl e41) rfl (Nat.le_of_ble_eq_true rfl) (by decide) (by decide) dX8_go_41 rfl rfl rfl rfl ?_
    refine g_aload_n (pc := 44) B dX8_go_44 2 rfl ?_
    refine g_getI (pc := 45) 8 0 B k1_1 (by decide) (by decide) rfl kfX8_9 dX8_go_45 ?_
    refine g_iload_n (pc := 48) B dX8_go_48 1 rfl ?_
    refine g_icmp_ne (pc := 49) (tgt := 56) B dX8_go_49 (by decide) (fun c49 => ?_) (fun c49 => ?_)
    · rw [if_neg c49] at h
      refine g_iconst (pc := 56) B dX8_go_56 (0 : Int32) (by decide) ?_
      refine g_sub (pc := 57) [2, 1, 0] rfl ?_
      exact cb_X8_go_L57 B ht h
    · rw [if_pos c49] at h
      refine g_iconst (pc := 52) B dX8_go_52 (1 : Int32) (by decide) ?_
      refine g_goto (pc := 53) (tgt := 57) B dX8_go_53 (by decide) ?_
      refine g_sub (pc := 57) [2, 1, 0] rfl ?_
      exact cb_X8_go_L57 B ht h
theorem ct_X8_go {D : DD} {l : Launch} {X0 : Mem} {x0 : Nat} {x1 : Option Nat} {r : Mem} (hl : l.stackTraces = false) (h : fX8_go X0 x0 x1 = some r) : Ctr D l yX8_go cX8_go 4 (none) rmX8_go [vA (some x0), vA x1] X0 (.inr (none)) r :=
  ctr_of hl (plainFor_of_name (by decide)) (Nat.le_of_ble_eq_true rfl) fun ev _ ht B => cb_X8_go_L0 B ht h
set_option maxRecDepth 100000 in
set_option maxHeartbeats 4000000 in
theorem cb_X7_goForward_L13b {D : DD} {ev : EV} {X0 : Mem} {fu : Nat} {rec13 : Mem → Nat → Int32 → Int32 → Option (Int32 × Mem)} {X : Mem} {x0 : Nat} {x1 : Int32} {x2 : Int32} {r : Int32 × Mem} (B : Amb D (foot X0) ev RX7 "goForward" cX7_goForward 3 (some .boolean) rmX7_goForward) (ht : Tb0 ev) (hrec13 : ∀ {X : Mem} {x0 : Nat} {x1 : Int32} {x2 : Int32} {r : Int32 × Mem}, rec13 X x0 x1 x2 = some r → Gd D (foot X0) ev (QF D ev X0 (.inr (some (vI r.1))) r.2 rmX7_goForward) X 0 0 13 [(0, vA (some x0)), (1, vI x1), (2, vI x2)] []) (h : fX7_goForward_L13b fu rec13 X x0 x1 x2 = some r) : Gd D (foot X0) ev (QF D ev X0 (.inr (some (vI r.1))) r.2 rmX7_goForward) X 0 0 13 [(0, vA (some x0)), (1, vI x1), (2, vI x2)] [] := by
  unfold fX7_goForward_L13b at h
  refine g_iload_n (pc := 13) B dX7_goForward_13 2 rfl ?_
  refine g_iload_n (pc := 14) B dX7_goForward_14 1 rfl ?_
  refine g_icmp_ge (pc := 15) (tgt := 71) B dX7_goForward_15 (by decide) (fun c15 => ?_) (fun c15 => ?_)
  · rw [if_pos c15] at h
    refine g_iconst (pc := 71) B dX7_goForward_71 (1 : Int32) (by decide) ?_
    obtain rfl := Option.some.inj h
    exact g_ret_Z (pc := 72) B rfl (Or.inr rfl) (by decide) (by decide) dX7_goForward_72
  · rw [if_neg c15] at h
    refine g_aload_n (pc := 18) B dX7_goForward_18 0 rfl ?_
    obtain ⟨k19_1, h⟩ := chk h
    obtain ⟨v19, X19, e19, h⟩ := obW h
    refine h_callV (pc := 19) (As := []) (st := []) (X' := X19) (cs' := 0) (sl' := 0) (st10 := [vI v19]) B cal_X7_canCount kmX7_78 kn_X7_canCount ks_X7_canCount k19_1 (by decide) rfl (fun l hl => ct_X7_canCount hl e19) rfl (Nat.le_of_ble_eq_true rfl) (by decide) (by decide) dX7_goForward_19 rfl rfl rfl rfl ?_
    refine g_if_ne (pc := 22) (tgt := 27) B dX7_goForward_22 (by decide) (fun c22 => ?_) (fun c22 => ?_)
    · rw [if_neg c22] at h
      refine g_aload_n (pc := 27) B dX7_goForward_27 0 rfl ?_
      obtain ⟨k28_2, h⟩ := chk h
      refine g_getR (pc := 28) 7 0 B k28_2 (by decide) (by decide) rfl kfX7_12 dX7_goForward_28 ?_
      obtain ⟨a31_3, ea31_3, h⟩ := ob h
      rw [ea31_3]
      obtain ⟨k31_4, h⟩ := chk h
      obtain ⟨v31, e31, h⟩ := ob h
      refine h_callV (pc := 31) (As := []) (st := []) (X' := X19) (cs' := 0) (sl' := 0) (st10 := [vI v31]) B cal_X8_canGo kmX7_122 kn_X8_canGo ks_X8_canGo k31_4 (by decide) rfl (fun l hl => ct_X8_canGo hl e31) rfl (Nat.le_of_ble_eq_true rfl) (by decide) (by decide) dX7_goForward_31 rfl rfl rfl rfl ?_
      refine g_if_ne (pc := 34) (tgt := 44) B dX7_goForward_34 (by decide) (fun c34 => ?_) (fun c34 => ?_)
      · rw [if_neg c34] at h
        refine g_aload_n (pc := 44) B dX7_goForward_44 0 rfl ?_
        refine g_dup (pc := 45) B dX7_goForward_45 rfl ?_
        refine g_getI (pc := 46) 7 7 B k28_2 (by decide) (by decide) rfl kfX7_39 dX7_goForward_46 ?_
        refine g_iconst (pc := 49) B dX7_goForward_49 (1 : Int32) (by decide) ?_
        refine g_iadd (pc := 50) B dX7_goForward_50 ?_
        refine g_putI (pc := 51) 7 7 B k28_2 (by decide) (by decide) rfl rfl kfX7_39 dX7_goForward_51 ?_
        refine g_aload_n (pc := 54) B dX7_goForward_54 0 rfl ?_
        refine g_getR (pc := 55) 7 0 B k28_2 (by decide) (by decide) rfl kfX7_12 dX7_goForward_55 ?_
        refine g_aload_n (pc := 58) B dX7_goForward_58 0 rfl ?_
        refine g_getR (pc := 59) 7 4 B k28_2 (by decide) (by decide) rfl kfX7_31 dX7_goForward_59 ?_
        obtain ⟨a62_5, ea62_5, h⟩ := ob h
        rw [ea62_5]
        obtain ⟨k62_6, h⟩ := chk h
        obtain ⟨X62, e62, h⟩ := ob h
        refine h_callV (pc := 62) (As := [vA (mR (wI X19 707 x0 ((mI X19 707 x0) + (1 : Int32))) 704 x0)]) (st := []) (X' := X62) (cs' := 0) (sl' := 0) (st10 := []) B cal_X8_go kmX7_125 kn_X8_go ks_X8_go k62_6 (by decide) rfl (fun l hl => ct_X8_go hl e62) rfl (Nat.le_of_ble_eq_true rfl) (by decide) (by decide) dX7_goForward_62 rfl rfl rfl rfl ?_
        refine g_iinc (pc := 65) (v := (x2 + (1 : Int32))) (L' := [(2, vI (x2 + (1 : Int32))), (0, vA (some x0)), (1, vI x1)]) B dX7_goForward_65 (by decide) 2 rfl rfl rfl ?_
        refine g_goto (pc := 68) (tgt := 13) B dX7_goForward_68 (by decide) ?_
        refine g_sub (pc := 13) [1, 2, 0] rfl ?_
        exact hrec13 h
      · rw [if_pos c34] at h
        refine g_aload_n (pc := 37) B dX7_goForward_37 0 rfl ?_
        refine g_iconst (pc := 38) B dX7_goForward_38 (2 : Int32) (by decide) ?_
        refine g_putI (pc := 39) 7 8 B k28_2 (by decide) (by decide) rfl rfl kfX7_35 dX7_goForward_39 ?_
        refine g_iconst (pc := 42) B dX7_goForward_42 (0 : Int32) (by decide) ?_
        obtain rfl := Option.some.inj h
        exact g_ret_Z (pc := 43) B rfl (Or.inl rfl) (by decide) (by decide) dX7_goForward_43
    · rw [if_pos c22] at h
      refine g_iconst (pc := 25) B dX7_goForward_25 (0 : Int32) (by decide) ?_
      obtain rfl := Option.some.inj h
      exact g_ret_Z (pc := 26) B rfl (Or.inl rfl) (by decide) (by decide) dX7_goForward_26
theorem cb_X7_goForward_L13n {D : DD} {ev : EV} {X0 : Mem} {fu : Nat} (B : Amb D (foot X0) ev RX7 "goForward" cX7_goForward 3 (some .boolean) rmX7_goForward) (ht : Tb0 ev)  : ∀ (n : Nat) {X : Mem} {x0 : Nat} {x1 : Int32} {x2 : Int32} {r : Int32 × Mem}, fX7_goForward_L13 fu n X x0 x1 x2 = some r → Gd D (foot X0) ev (QF D ev X0 (.inr (some (vI r.1))) r.2 rmX7_goForward) X 0 0 13 [(0, vA (some x0)), (1, vI x1), (2, vI x2)] [] := by
  intro n
  induction n with
  | zero => intro X x0 x1 x2 r h; exact nomatch h
  | succ n ih => intro X x0 x1 x2 r h; exact cb_X7_goForward_L13b (fu := fu) B ht (fun h9 => ih h9) h
theorem cb_X7_goForward_L13 {D : DD} {ev : EV} {X0 : Mem} {fu : Nat} {X : Mem} {x0 : Nat} {x1 : Int32} {x2 : Int32} {n : Nat} {r : Int32 × Mem} (B : Amb D (foot X0) ev RX7 "goForward" cX7_goForward 3 (some .boolean) rmX7_goForward) (ht : Tb0 ev)  (h : fX7_goForward_L13 fu n X x0 x1 x2 = some r) : Gd D (foot X0) ev (QF D ev X0 (.inr (some (vI r.1))) r.2 rmX7_goForward) X 0 0 13 [(0, vA (some x0)), (1, vI x1), (2, vI x2)] [] := cb_X7_goForward_L13n B ht n h
set_option maxRecDepth 100000 in
set_option maxHeartbeats 4000000 in
theorem cb_X7_goForward_L0 {D : DD} {ev : EV} {X0 : Mem} {fu : Nat} {X : Mem} {x0 : Nat} {x1 : Int32} {r : Int32 × Mem} (B : Amb D (foot X0) ev RX7 "goForward" cX7_goForward 3 (some .boolean) rmX7_goForward) (ht : Tb0 ev)  (h : fX7_goForward fu X x0 x1 = some r) : Gd D (foot X0) ev (QF D ev X0 (.inr (some (vI r.1))) r.2 rmX7_goForward) X 0 0 0 [(0, vA (some x0)), (1, vI x1)] [] := by
  unfold fX7_goForward at h
  refine g_iload_n (pc := 0) B dX7_goForward_0 1 rfl ?_
  refine g_if_ge (pc := 1) (tgt := 11) B dX7_goForward_1 (by decide) (fun c1 => ?_) (fun c1 => ?_)
  · rw [if_pos c1] at h
    refine g_iconst (pc := 11) B dX7_goForward_11 (0 : Int32) (by decide) ?_
    refine g_istore_n (pc := 12) (L' := [(2, vI (0 : Int32)), (0, vA (some x0)), (1, vI x1)]) B dX7_goForward_12 (by decide) rfl ?_
    refine g_sub (pc := 13) [1, 2, 0] rfl ?_
    exact cb_X7_goForward_L13 B ht h
  · rw [if_neg c1] at h
    refine g_aload_n (pc := 4) B dX7_goForward_4 0 rfl ?_
    refine g_iconst (pc := 5) B dX7_goForward_5 (3 : Int32) (by decide) ?_
    obtain ⟨k6_1, h⟩ := chk h
    refine g_putI (pc := 6) 7 8 B k6_1 (by decide) (by decide) rfl rfl kfX7_35 dX7_goForward_6 ?_
    refine g_iconst (pc := 9) B dX7_goForward_9 (0 : Int32) (by decide) ?_
    obtain rfl := Option.some.inj h
    exact g_ret_Z (pc := 10) B rfl (Or.inl rfl) (by decide) (by decide) dX7_goForward_10
theorem ct_X7_goForward {D : DD} {l : Launch} {X0 : Mem} {fu : Nat} {x0 : Nat} {x1 : Int32} {r : Int32 × Mem} (hl : l.stackTraces = false) (h : fX7_goForward fu X0 x0 x1 = some r) : Ctr D l yX7_goForward cX7_goForward 3 (some .boolean) rmX7_goForward [vA (some x0), vI x1] X0 (.inr (some (vI r.1))) r.2 :=
  ctr_of hl (plainFor_of_name (by decide)) (Nat.le_of_ble_eq_true rfl) fun ev _ ht B => cb_X7_goForward_L0 B ht h
set_option maxRecDepth 100000 in
set_option maxHeartbeats 4000000 in
theorem cb_J9_floorMod_7cf53_L0 {D : DD} {ev : EV} {X0 : Mem} {x0 : Int32} {x1 : Int32} {r : Int32} (B : Amb D (foot X0) ev RJ9 "floorMod" cJ9_floorMod_7cf53 3 (some .int) rmJ9_floorMod_7cf53) (ht : Tb0 ev)  (h : fJ9_floorMod_7cf53 X0 x0 x1 = some r) : Gd D (foot X0) ev (QF D ev X0 (.inr (some (vI r))) X0 rmJ9_floorMod_7cf53) X0 0 0 0 [(0, vI x0), (1, vI x1)] [] := by
  unfold fJ9_floorMod_7cf53 at h
  refine g_iload_n (pc := 0) B dJ9_floorMod_7cf53_0 0 rfl ?_
  refine g_iload_n (pc := 1) B dJ9_floorMod_7cf53_1 1 rfl ?_
  obtain ⟨c2, h⟩ := chkN h
  refine g_irem (pc := 2) B dJ9_floorMod_7cf53_2 c2 ?_
  refine g_istore_n (pc := 3) (L' := [(2, vI (x0 - x0 / x1 * x1)), (0, vI x0), (1, vI x1)]) B dJ9_floorMod_7cf53_3 (by decide) rfl ?_
  refine g_iload_n (pc := 4) B dJ9_floorMod_7cf53_4 1 rfl ?_
  refine g_iload_n (pc := 5) B dJ9_floorMod_7cf53_5 2 rfl ?_
  refine g_ixor (pc := 6) B dJ9_floorMod_7cf53_6 ?_
  refine g_if_ge (pc := 7) (tgt := 18) B dJ9_floorMod_7cf53_7 (by decide) (fun c7 => ?_) (fun c7 => ?_)
  · rw [if_pos c7] at h
    refine g_iload_n (pc := 18) B dJ9_floorMod_7cf53_18 0 rfl ?_
    obtain rfl := Option.some.inj h
    exact g_ret_I (pc := 19) B rfl (by decide) (by decide) dJ9_floorMod_7cf53_19
  · rw [if_neg c7] at h
    refine g_iload_n (pc := 10) B dJ9_floorMod_7cf53_10 0 rfl ?_
    refine g_if_eq (pc := 11) (tgt := 18) B dJ9_floorMod_7cf53_11 (by decide) (fun c11 => ?_) (fun c11 => ?_)
    · rw [if_pos c11] at h
      refine g_iload_n (pc := 18) B dJ9_floorMod_7cf53_18 0 rfl ?_
      obtain rfl := Option.some.inj h
      exact g_ret_I (pc := 19) B rfl (by decide) (by decide) dJ9_floorMod_7cf53_19
    · rw [if_neg c11] at h
      refine g_iload_n (pc := 14) B dJ9_floorMod_7cf53_14 0 rfl ?_
      refine g_iload_n (pc := 15) B dJ9_floorMod_7cf53_15 2 rfl ?_
      refine g_iadd (pc := 16) B dJ9_floorMod_7cf53_16 ?_
      obtain rfl := Option.some.inj h
      exact g_ret_I (pc := 17) B rfl (by decide) (by decide) dJ9_floorMod_7cf53_17
theorem ct_J9_floorMod_7cf53 {D : DD} {l : Launch} {X0 : Mem} {x0 : Int32} {x1 : Int32} {r : Int32} (hl : l.stackTraces = false) (h : fJ9_floorMod_7cf53 X0 x0 x1 = some r) : Ctr D l yJ9_floorMod_7cf53 cJ9_floorMod_7cf53 3 (some .int) rmJ9_floorMod_7cf53 [vI x0, vI x1] X0 (.inr (some (vI r))) X0 :=
  ctr_of hl (by decide +kernel) (Nat.le_of_ble_eq_true rfl) fun ev _ ht B => cb_J9_floorMod_7cf53_L0 B ht h
set_option maxRecDepth 100000 in
set_option maxHeartbeats 4000000 in
theorem cb_X8_turnBy_L0 {D : DD} {ev : EV} {X0 : Mem} {X : Mem} {x0 : Nat} {x1 : Int32} {r : Mem} (B : Amb D (foot X0) ev RX8 "turnBy" cX8_turnBy 2 (none) rmX8_turnBy) (ht : Tb0 ev)  (h : fX8_turnBy X x0 x1 = some r) : Gd D (foot X0) ev (QF D ev X0 (.inr (none)) r rmX8_turnBy) X 0 0 0 [(0, vA (some x0)), (1, vI x1)] [] := by
  unfold fX8_turnBy at h
  refine g_aload_n (pc := 0) B dX8_turnBy_0 0 rfl ?_
  refine g_aload_n (pc := 1) B dX8_turnBy_1 0 rfl ?_
  obtain ⟨k2_1, h⟩ := chk h
  refine g_getI (pc := 2) 8 2 B k2_1 (by decide) (by decide) rfl kfX8_18 dX8_turnBy_2 ?_
  refine g_iload_n (pc := 5) B dX8_turnBy_5 1 rfl ?_
  refine g_iadd (pc := 6) B dX8_turnBy_6 ?_
  refine g_iconst (pc := 7) B dX8_turnBy_7 (4 : Int32) (by decide) ?_
  obtain ⟨v8, e8, h⟩ := ob h
  refine h_callS (pc := 8) (As := [vI ((mI X 802 x0) + x1), vI (4 : Int32)]) (st := [vA (some x0)]) (X' := X) (cs' := 0) (sl' := 0) (st10 := [vI v8, vA (some x0)]) B cal_J9_floorMod_7cf53 kmX8_25 kz_J9_floorMod_7cf53 (fun l hl => ct_J9_floorMod_7cf53 hl e8) rfl (Nat.le_of_ble_eq_true rfl) (by decide) (by decide) dX8_turnBy_8 rfl rfl rfl rfl ?_
  refine g_putI (pc := 11) 8 2 B k2_1 (by decide) (by decide) rfl rfl kfX8_18 dX8_turnBy_11 ?_
  obtain rfl := Option.some.inj h
  exact g_ret_V (pc := 14) B rfl (by decide) (by decide) dX8_turnBy_14
theorem ct_X8_turnBy {D : DD} {l : Launch} {X0 : Mem} {x0 : Nat} {x1 : Int32} {r : Mem} (hl : l.stackTraces = false) (h : fX8_turnBy X0 x0 x1 = some r) : Ctr D l yX8_turnBy cX8_turnBy 2 (none) rmX8_turnBy [vA (some x0), vI x1] X0 (.inr (none)) r :=
  ctr_of hl (plainFor_of_name (by decide)) (Nat.le_of_ble_eq_true rfl) fun ev _ ht B => cb_X8_turnBy_L0 B ht h
set_option maxRecDepth 100000 in
set_option maxHeartbeats 4000000 in
theorem cb_X8_putPen_L0 {D : DD} {ev : EV} {X0 : Mem} {X : Mem} {x0 : Nat} {x1 : Int32} {r : Mem} (B : Amb D (foot X0) ev RX8 "putPen" cX8_putPen 2 (none) rmX8_putPen) (ht : Tb0 ev)  (h : fX8_putPen X x0 x1 = some r) : Gd D (foot X0) ev (QF D ev X0 (.inr (none)) r rmX8_putPen) X 0 0 0 [(0, vA (some x0)), (1, vI x1)] [] := by
  unfold fX8_putPen at h
  refine g_aload_n (pc := 0) B dX8_putPen_0 0 rfl ?_
  refine g_iload_n (pc := 1) B dX8_putPen_1 1 rfl ?_
  obtain ⟨k2_1, h⟩ := chk h
  obtain ⟨z2, h⟩ := chk h
  refine g_putZ (pc := 2) 8 3 B k2_1 (by decide) (by decide) rfl z2 rfl kfX8_21 dX8_putPen_2 ?_
  obtain rfl := Option.some.inj h
  exact g_ret_V (pc := 5) B rfl (by decide) (by decide) dX8_putPen_5
theorem ct_X8_putPen {D : DD} {l : Launch} {X0 : Mem} {x0 : Nat} {x1 : Int32} {r : Mem} (hl : l.stackTraces = false) (h : fX8_putPen X0 x0 x1 = some r) : Ctr D l yX8_putPen cX8_putPen 2 (none) rmX8_putPen [vA (some x0), vI x1] X0 (.inr (none)) r :=
  ctr_of hl (plainFor_of_name (by decide)) (Nat.le_of_ble_eq_true rfl) fun ev _ ht B => cb_X8_putPen_L0 B ht h
set_option maxRecDepth 100000 in
set_option maxHeartbeats 4000000 in
theorem cb_X7_putName_L14 {D : DD} {ev : EV} {X0 : Mem} {X : Mem} {x0 : Nat} {r : Int32 × Mem} (B : Amb D (foot X0) ev RX7 "putName" cX7_putName 3 (some .boolean) rmX7_putName) (ht : Tb0 ev)  (h : fX7_putName_L14 X x0 = some r) : Gd D (foot X0) ev (QF D ev X0 (.inr (some (vI r.1))) r.2 rmX7_putName) X 0 0 14 [(0, vA (some x0))] [] := by
  unfold fX7_putName_L14 at h
  refine g_aload_n (pc := 14) B dX7_putName_14 0 rfl ?_
  refine g_iconst (pc := 15) B dX7_putName_15 (3 : Int32) (by decide) ?_
  obtain ⟨k16_1, h⟩ := chk h
  refine g_putI (pc := 16) 7 8 B k16_1 (by decide) (by decide) rfl rfl kfX7_35 dX7_putName_16 ?_
  refine g_iconst (pc := 19) B dX7_putName_19 (0 : Int32) (by decide) ?_
  obtain rfl := Option.some.inj h
  exact g_ret_Z (pc := 20) B rfl (Or.inl rfl) (by decide) (by decide) dX7_putName_20
set_option maxRecDepth 100000 in
set_option maxHeartbeats 4000000 in
theorem cb_X7_putName_L0 {D : DD} {ev : EV} {X0 : Mem} {X : Mem} {x0 : Nat} {x1 : Int32} {x2 : Int32} {r : Int32 × Mem} (B : Amb D (foot X0) ev RX7 "putName" cX7_putName 3 (some .boolean) rmX7_putName) (ht : Tb0 ev)  (h : fX7_putName X x0 x1 x2 = some r) : Gd D (foot X0) ev (QF D ev X0 (.inr (some (vI r.1))) r.2 rmX7_putName) X 0 0 0 [(0, vA (some x0)), (1, vI x1), (2, vI x2)] [] := by
  unfold fX7_putName at h
  refine g_iload_n (pc := 0) B dX7_putName_0 2 rfl ?_
  refine g_sipush (pc := 1) B dX7_putName_1 (999 : Int32) (by decide) ?_
  refine g_icmp_gt (pc := 4) (tgt := 14) B dX7_putName_4 (by decide) (fun c4 => ?_) (fun c4 => ?_)
  · rw [if_pos c4] at h
    refine g_sub (pc := 14) [0] rfl ?_
    exact cb_X7_putName_L14 B ht h
  · rw [if_neg c4] at h
    refine g_iload_n (pc := 7) B dX7_putName_7 2 rfl ?_
    refine g_sipush (pc := 8) B dX7_putName_8 (-999) (by decide) ?_
    refine g_icmp_ge (pc := 11) (tgt := 21) B dX7_putName_11 (by decide) (fun c11 => ?_) (fun c11 => ?_)
    · rw [if_pos c11] at h
      refine g_iload_n (pc := 21) B dX7_putName_21 1 rfl ?_
      refine g_if_lt (pc := 22) (tgt := 41) B dX7_putName_22 (by decide) (fun c22 => ?_) (fun c22 => ?_)
      · rw [if_pos c22] at h
        refine g_iconst (pc := 41) B dX7_putName_41 (1 : Int32) (by decide) ?_
        obtain rfl := Option.some.inj h
        exact g_ret_Z (pc := 42) B rfl (Or.inr rfl) (by decide) (by decide) dX7_putName_42
      · rw [if_neg c22] at h
        refine g_iload_n (pc := 25) B dX7_putName_25 1 rfl ?_
        refine g_aload_n (pc := 26) B dX7_putName_26 0 rfl ?_
        obtain ⟨k27_1, h⟩ := chk h
        refine g_getR (pc := 27) 7 1 B k27_1 (by decide) (by decide) rfl kfX7_18 dX7_putName_27 ?_
        obtain ⟨a30_2, ea30_2, h⟩ := ob h
        rw [ea30_2]
        obtain ⟨n30_2, en30_2, h⟩ := ob h
        obtain ⟨tn30_2, kn30_2, qn30_2⟩ := alen_s en30_2
        refine g_alen (pc := 30) B kn30_2 qn30_2 dX7_putName_30 ?_
        refine g_icmp_ge (pc := 31) (tgt := 41) B dX7_putName_31 (by decide) (fun c31 => ?_) (fun c31 => ?_)
        · rw [if_pos c31] at h
          refine g_iconst (pc := 41) B dX7_putName_41 (1 : Int32) (by decide) ?_
          obtain rfl := Option.some.inj h
          exact g_ret_Z (pc := 42) B rfl (Or.inr rfl) (by decide) (by decide) dX7_putName_42
        · rw [if_neg c31] at h
          refine g_aload_n (pc := 34) B dX7_putName_34 0 rfl ?_
          refine g_getR (pc := 35) 7 1 B k27_1 (by decide) (by decide) rfl kfX7_18 dX7_putName_35 ?_
          refine g_iload_n (pc := 38) B dX7_putName_38 1 rfl ?_
          refine g_iload_n (pc := 39) B dX7_putName_39 2 rfl ?_
          obtain ⟨a40_4, ea40_4, h⟩ := ob h
          rw [ea40_4]
          obtain ⟨c40, h⟩ := chk h
          obtain ⟨nc40, kc40, ic40⟩ := inb_s c40
          refine g_iast (pc := 40) B kc40 ic40 dX7_putName_40 ?_
          refine g_iconst (pc := 41) B dX7_putName_41 (1 : Int32) (by decide) ?_
          obtain rfl := Option.some.inj h
          exact g_ret_Z (pc := 42) B rfl (Or.inr rfl) (by decide) (by decide) dX7_putName_42
    · rw [if_neg c11] at h
      refine g_sub (pc := 14) [0] rfl ?_
      exact cb_X7_putName_L14 B ht h
theorem ct_X7_putName {D : DD} {l : Launch} {X0 : Mem} {x0 : Nat} {x1 : Int32} {x2 : Int32} {r : Int32 × Mem} (hl : l.stackTraces = false) (h : fX7_putName X0 x0 x1 x2 = some r) : Ctr D l yX7_putName cX7_putName 3 (some .boolean) rmX7_putName [vA (some x0), vI x1, vI x2] X0 (.inr (some (vI r.1))) r.2 :=
  ctr_of hl (plainFor_of_name (by decide)) (Nat.le_of_ble_eq_true rfl) fun ev _ ht B => cb_X7_putName_L0 B ht h
set_option maxRecDepth 100000 in
set_option maxHeartbeats 4000000 in
theorem cb_X7_beginRepeat_L35 {D : DD} {ev : EV} {X0 : Mem} {X : Mem} {x0 : Nat} {x2 : Int32} {x3 : Int32} {x4 : Int32} {x5 : Int32} {s0 : Int32} {r : Int32 × Mem} (B : Amb D (foot X0) ev RX7 "beginRepeat" cX7_beginRepeat 7 (some .int) rmX7_beginRepeat) (ht : Tb0 ev)  (h : fX7_beginRepeat_L35 X x0 x2 x3 x4 x5 s0 = some r) : Gd D (foot X0) ev (QF D ev X0 (.inr (some (vI r.1))) r.2 rmX7_beginRepeat) X 0 0 35 [(0, vA (some x0)), (2, vI x2), (3, vI x3), (4, vI x4), (5, vI x5)] [vI s0] := by
  unfold fX7_beginRepeat_L35 at h
  refine g_istore (pc := 35) (L' := [(6, vI s0), (0, vA (some x0)), (2, vI x2), (3, vI x3), (4, vI x4), (5, vI x5)]) B dX7_beginRepeat_35 (by decide) rfl ?_
  refine g_iload (pc := 37) B dX7_beginRepeat_37 0 rfl ?_
  refine g_if_ne (pc := 39) (tgt := 57) B dX7_beginRepeat_39 (by decide) (fun c39 => ?_) (fun c39 => ?_)
  · rw [if_neg c39] at h
    refine g_iload (pc := 57) B dX7_beginRepeat_57 4 rfl ?_
    refine g_iconst (pc := 59) B dX7_beginRepeat_59 (1 : Int32) (by decide) ?_
    refine g_iadd (pc := 60) B dX7_beginRepeat_60 ?_
    obtain rfl := Option.some.inj h
    exact g_ret_I (pc := 61) B rfl (by decide) (by decide) dX7_beginRepeat_61
  · rw [if_pos c39] at h
    refine g_iload (pc := 42) B dX7_beginRepeat_42 5 rfl ?_
    refine g_if_lt (pc := 44) (tgt := 57) B dX7_beginRepeat_44 (by decide) (fun c44 => ?_) (fun c44 => ?_)
    · rw [if_pos c44] at h
      refine g_iload (pc := 57) B dX7_beginRepeat_57 4 rfl ?_
      refine g_iconst (pc := 59) B dX7_beginRepeat_59 (1 : Int32) (by decide) ?_
      refine g_iadd (pc := 60) B dX7_beginRepeat_60 ?_
      obtain rfl := Option.some.inj h
      exact g_ret_I (pc := 61) B rfl (by decide) (by decide) dX7_beginRepeat_61
    · rw [if_neg c44] at h
      refine g_iload (pc := 47) B dX7_beginRepeat_47 5 rfl ?_
      refine g_aload_n (pc := 49) B dX7_beginRepeat_49 1 rfl ?_
      obtain ⟨k50_1, h⟩ := chk h
      refine g_getR (pc := 50) 7 2 B k50_1 (by decide) (by decide) rfl kfX7_22 dX7_beginRepeat_50 ?_
      obtain ⟨a53_2, ea53_2, h⟩ := ob h
      rw [ea53_2]
      obtain ⟨n53_2, en53_2, h⟩ := ob h
      obtain ⟨tn53_2, kn53_2, qn53_2⟩ := alen_s en53_2
      refine g_alen (pc := 53) B kn53_2 qn53_2 dX7_beginRepeat_53 ?_
      refine g_icmp_lt (pc := 54) (tgt := 62) B dX7_beginRepeat_54 (by decide) (fun c54 => ?_) (fun c54 => ?_)
      · rw [if_pos c54] at h
        refine g_aload_n (pc := 62) B dX7_beginRepeat_62 1 rfl ?_
        refine g_getR (pc := 63) 7 2 B k50_1 (by decide) (by decide) rfl kfX7_22 dX7_beginRepeat_63 ?_
        refine g_iload (pc := 66) B dX7_beginRepeat_66 5 rfl ?_
        refine g_iload_n (pc := 68) B dX7_beginRepeat_68 3 rfl ?_
        obtain ⟨a69_4, ea69_4, h⟩ := ob h
        rw [ea69_4]
        obtain ⟨c69, h⟩ := chk h
        obtain ⟨nc69, kc69, ic69⟩ := inb_s c69
        refine g_iast (pc := 69) B kc69 ic69 dX7_beginRepeat_69 ?_
        refine g_iload_n (pc := 70) B dX7_beginRepeat_70 2 rfl ?_
        refine g_iconst (pc := 71) B dX7_beginRepeat_71 (1 : Int32) (by decide) ?_
        refine g_iadd (pc := 72) B dX7_beginRepeat_72 ?_
        obtain rfl := Option.some.inj h
        exact g_ret_I (pc := 73) B rfl (by decide) (by decide) dX7_beginRepeat_73
      · rw [if_neg c54] at h
        refine g_iload (pc := 57) B dX7_beginRepeat_57 4 rfl ?_
        refine g_iconst (pc := 59) B dX7_beginRepeat_59 (1 : Int32) (by decide) ?_
        refine g_iadd (pc := 60) B dX7_beginRepeat_60 ?_
        obtain rfl := Option.some.inj h
        exact g_ret_I (pc := 61) B rfl (by decide) (by decide) dX7_beginRepeat_61
set_option maxRecDepth 100000 in
set_option maxHeartbeats 4000000 in
theorem cb_X7_beginRepeat_L30 {D : DD} {ev : EV} {X0 : Mem} {X : Mem} {x0 : Nat} {x2 : Int32} {x3 : Int32} {x4 : Int32} {x5 : Int32} {r : Int32 × Mem} (B : Amb D (foot X0) ev RX7 "beginRepeat" cX7_beginRepeat 7 (some .int) rmX7_beginRepeat) (ht : Tb0 ev)  (h : fX7_beginRepeat_L30 X x0 x2 x3 x4 x5 = some r) : Gd D (foot X0) ev (QF D ev X0 (.inr (some (vI r.1))) r.2 rmX7_beginRepeat) X 0 0 30 [(0, vA (some x0)), (2, vI x2), (3, vI x3), (4, vI x4), (5, vI x5)] [] := by
  unfold fX7_beginRepeat_L30 at h
  refine g_iconst (pc := 30) B dX7_beginRepeat_30 (1 : Int32) (by decide) ?_
  refine g_goto (pc := 31) (tgt := 35) B dX7_beginRepeat_31 (by decide) ?_
  refine g_sub (pc := 35) [0, 1, 2, 3, 4] rfl ?_
  exact cb_X7_beginRepeat_L35 B ht h
set_option maxRecDepth 100000 in
set_option maxHeartbeats 4000000 in
theorem cb_X7_beginRepeat_L0 {D : DD} {ev : EV} {X0 : Mem} {X : Mem} {x0 : Nat} {x1 : Option Nat} {x2 : Int32} {x3 : Int32} {r : Int32 × Mem} (B : Amb D (foot X0) ev RX7 "beginRepeat" cX7_beginRepeat 7 (some .int) rmX7_beginRepeat) (ht : Tb0 ev)  (h : fX7_beginRepeat X x0 x1 x2 x3 = some r) : Gd D (foot X0) ev (QF D ev X0 (.inr (some (vI r.1))) r.2 rmX7_beginRepeat) X 0 0 0 [(0, vA (some x0)), (1, vA x1), (2, vI x2), (3, vI x3)] [] := by
  unfold fX7_beginRepeat at h
  refine g_aload_n (pc := 0) B dX7_beginRepeat_0 1 rfl ?_
  refine g_iload_n (pc := 1) B dX7_beginRepeat_1 2 rfl ?_
  obtain ⟨a2_1, ea2_1, h⟩ := ob h
  rw [ea2_1]
  obtain ⟨k2_2, h⟩ := chk h
  obtain ⟨v2, e2, h⟩ := ob h
  refine h_callV (pc := 2) (As := [vI x2]) (st := []) (X' := X) (cs' := 0) (sl' := 0) (st10 := [vI v2]) B cal_X5_partnerOf kmX7_71 kn_X5_partnerOf ks_X5_partnerOf k2_2 (by decide) rfl (fun l hl => ct_X5_partnerOf hl e2) rfl (Nat.le_of_ble_eq_true rfl) (by decide) (by decide) dX7_beginRepeat_2 rfl rfl rfl rfl ?_
  refine g_istore (pc := 5) (L' := [(4, vI v2), (0, vA (some x0)), (1, vA (some a2_1)), (2, vI x2), (3, vI x3)]) B dX7_beginRepeat_5 (by decide) rfl ?_
  refine g_aload_n (pc := 7) B dX7_beginRepeat_7 1 rfl ?_
  obtain ⟨k8_3, h⟩ := chk h
  refine g_getI (pc := 8) 7 5 B k8_3 (by decide) (by decide) rfl kfX7_45 dX7_beginRepeat_8 ?_
  refine g_bipush (pc := 11) B dX7_beginRepeat_11 (30 : Int32) (by decide) ?_
  refine g_imul (pc := 13) B dX7_beginRepeat_13 ?_
  refine g_iload_n (pc := 14) B dX7_beginRepeat_14 3 rfl ?_
  refine g_iadd (pc := 15) B dX7_beginRepeat_15 ?_
  refine g_istore (pc := 16) (L' := [(5, vI (((mI X 705 x0) * (30 : Int32)) + x2)), (4, vI v2), (0, vA (some x0)), (1, vA (some a2_1)), (2, vI x2), (3, vI x3)]) B dX7_beginRepeat_16 (by decide) rfl ?_
  refine g_iload_n (pc := 18) B dX7_beginRepeat_18 5 rfl ?_
  refine g_if_le (pc := 19) (tgt := 30) B dX7_beginRepeat_19 (by decide) (fun c19 => ?_) (fun c19 => ?_)
  · rw [if_pos c19] at h
    refine g_sub (pc := 30) [2, 4, 5, 1, 0] rfl ?_
    exact cb_X7_beginRepeat_L30 B ht h
  · rw [if_neg c19] at h
    refine g_iload (pc := 22) B dX7_beginRepeat_22 1 rfl ?_
    refine g_iload_n (pc := 24) B dX7_beginRepeat_24 4 rfl ?_
    refine g_iconst (pc := 25) B dX7_beginRepeat_25 (1 : Int32) (by decide) ?_
    refine g_iadd (pc := 26) B dX7_beginRepeat_26 ?_
    refine g_icmp_ne (pc := 27) (tgt := 34) B dX7_beginRepeat_27 (by decide) (fun c27 => ?_) (fun c27 => ?_)
    · rw [if_neg c27] at h
      refine g_iconst (pc := 34) B dX7_beginRepeat_34 (0 : Int32) (by decide) ?_
      refine g_sub (pc := 35) [2, 4, 5, 1, 0] rfl ?_
      exact cb_X7_beginRepeat_L35 B ht h
    · rw [if_pos c27] at h
      refine g_sub (pc := 30) [2, 4, 5, 1, 0] rfl ?_
      exact cb_X7_beginRepeat_L30 B ht h
theorem ct_X7_beginRepeat {D : DD} {l : Launch} {X0 : Mem} {x0 : Nat} {x1 : Option Nat} {x2 : Int32} {x3 : Int32} {r : Int32 × Mem} (hl : l.stackTraces = false) (h : fX7_beginRepeat X0 x0 x1 x2 x3 = some r) : Ctr D l yX7_beginRepeat cX7_beginRepeat 7 (some .int) rmX7_beginRepeat [vA (some x0), vA x1, vI x2, vI x3] X0 (.inr (some (vI r.1))) r.2 :=
  ctr_of hl (plainFor_of_name (by decide)) (Nat.le_of_ble_eq_true rfl) fun ev _ ht B => cb_X7_beginRepeat_L0 B ht h
set_option maxRecDepth 100000 in
set_option maxHeartbeats 4000000 in
theorem cb_X5_startOf_L0 {D : DD} {ev : EV} {X0 : Mem} {x0 : Nat} {x1 : Int32} {r : Int32} (B : Amb D (foot X0) ev RX5 "startOf" cX5_startOf 2 (some .int) rmX5_startOf) (ht : Tb0 ev)  (h : fX5_startOf X0 x0 x1 = some r) : Gd D (foot X0) ev (QF D ev X0 (.inr (some (vI r))) X0 rmX5_startOf) X0 0 0 0 [(0, vA (some x0)), (1, vI x1)] [] := by
  unfold fX5_startOf at h
  refine g_iload_n (pc := 0) B dX5_startOf_0 1 rfl ?_
  refine g_if_lt (pc := 1) (tgt := 22) B dX5_startOf_1 (by decide) (fun c1 => ?_) (fun c1 => ?_)
  · rw [if_pos c1] at h
    refine g_iconst (pc := 22) B dX5_startOf_22 (-1) (by decide) ?_
    obtain rfl := Option.some.inj h
    exact g_ret_I (pc := 23) B rfl (by decide) (by decide) dX5_startOf_23
  · rw [if_neg c1] at h
    refine g_iload_n (pc := 4) B dX5_startOf_4 1 rfl ?_
    refine g_aload_n (pc := 5) B dX5_startOf_5 0 rfl ?_
    obtain ⟨k6_1, h⟩ := chk h
    refine g_getR (pc := 6) 5 3 B k6_1 (by decide) (by decide) rfl kfX5_34 dX5_startOf_6 ?_
    obtain ⟨a9_2, ea9_2, h⟩ := ob h
    rw [ea9_2]
    obtain ⟨n9_2, en9_2, h⟩ := ob h
    obtain ⟨tn9_2, kn9_2, qn9_2⟩ := alen_s en9_2
    refine g_alen (pc := 9) B kn9_2 qn9_2 dX5_startOf_9 ?_
    refine g_icmp_ge (pc := 10) (tgt := 22) B dX5_startOf_10 (by decide) (fun c10 => ?_) (fun c10 => ?_)
    · rw [if_pos c10] at h
      refine g_iconst (pc := 22) B dX5_startOf_22 (-1) (by decide) ?_
      obtain rfl := Option.some.inj h
      exact g_ret_I (pc := 23) B rfl (by decide) (by decide) dX5_startOf_23
    · rw [if_neg c10] at h
      refine g_aload_n (pc := 13) B dX5_startOf_13 0 rfl ?_
      refine g_getR (pc := 14) 5 3 B k6_1 (by decide) (by decide) rfl kfX5_34 dX5_startOf_14 ?_
      refine g_iload_n (pc := 17) B dX5_startOf_17 1 rfl ?_
      obtain ⟨a18_4, ea18_4, h⟩ := ob h
      rw [ea18_4]
      obtain ⟨c18, h⟩ := chk h
      obtain ⟨nc18, kc18, ic18⟩ := inb_s c18
      refine g_iald (pc := 18) B kc18 ic18 dX5_startOf_18 ?_
      refine g_goto (pc := 19) (tgt := 23) B dX5_startOf_19 (by decide) ?_
      obtain rfl := Option.some.inj h
      exact g_ret_I (pc := 23) B rfl (by decide) (by decide) dX5_startOf_23
theorem ct_X5_startOf {D : DD} {l : Launch} {X0 : Mem} {x0 : Nat} {x1 : Int32} {r : Int32} (hl : l.stackTraces = false) (h : fX5_startOf X0 x0 x1 = some r) : Ctr D l yX5_startOf cX5_startOf 2 (some .int) rmX5_startOf [vA (some x0), vI x1] X0 (.inr (some (vI r))) X0 :=
  ctr_of hl (plainFor_of_name (by decide)) (Nat.le_of_ble_eq_true rfl) fun ev _ ht B => cb_X5_startOf_L0 B ht h
set_option maxRecDepth 100000 in
set_option maxHeartbeats 4000000 in
theorem cb_X7_enterWord_L39 {D : DD} {ev : EV} {X0 : Mem} {X : Mem} {x0 : Nat} {r : Int32 × Mem} (B : Amb D (foot X0) ev RX7 "enterWord" cX7_enterWord 5 (some .int) rmX7_enterWord) (ht : Tb0 ev)  (h : fX7_enterWord_L39 X x0 = some r) : Gd D (foot X0) ev (QF D ev X0 (.inr (some (vI r.1))) r.2 rmX7_enterWord) X 0 0 39 [(0, vA (some x0))] [] := by
  unfold fX7_enterWord_L39 at h
  refine g_aload_n (pc := 39) B dX7_enterWord_39 0 rfl ?_
  refine g_iconst (pc := 40) B dX7_enterWord_40 (4 : Int32) (by decide) ?_
  obtain ⟨k41_1, h⟩ := chk h
  refine g_putI (pc := 41) 7 8 B k41_1 (by decide) (by decide) rfl rfl kfX7_35 dX7_enterWord_41 ?_
  refine g_iconst (pc := 44) B dX7_enterWord_44 (-1) (by decide) ?_
  obtain rfl := Option.some.inj h
  exact g_ret_I (pc := 45) B rfl (by decide) (by decide) dX7_enterWord_45
set_option maxRecDepth 100000 in
set_option maxHeartbeats 4000000 in
theorem cb_X7_enterWord_L0 {D : DD} {ev : EV} {X0 : Mem} {X : Mem} {x0 : Nat} {x1 : Option Nat} {x2 : Int32} {x3 : Int32} {r : Int32 × Mem} (B : Amb D (foot X0) ev RX7 "enterWord" cX7_enterWord 5 (some .int) rmX7_enterWord) (ht : Tb0 ev)  (h : fX7_enterWord X x0 x1 x2 x3 = some r) : Gd D (foot X0) ev (QF D ev X0 (.inr (some (vI r.1))) r.2 rmX7_enterWord) X 0 0 0 [(0, vA (some x0)), (1, vA x1), (2, vI x2), (3, vI x3)] [] := by
  unfold fX7_enterWord at h
  refine g_aload_n (pc := 0) B dX7_enterWord_0 1 rfl ?_
  refine g_iload_n (pc := 1) B dX7_enterWord_1 3 rfl ?_
  obtain ⟨a2_1, ea2_1, h⟩ := ob h
  rw [ea2_1]
  obtain ⟨k2_2, h⟩ := chk h
  obtain ⟨v2, e2, h⟩ := ob h
  refine h_callV (pc := 2) (As := [vI x3]) (st := []) (X' := X) (cs' := 0) (sl' := 0) (st10 := [vI v2]) B cal_X5_startOf kmX7_129 kn_X5_startOf ks_X5_startOf k2_2 (by decide) rfl (fun l hl => ct_X5_startOf hl e2) rfl (Nat.le_of_ble_eq_true rfl) (by decide) (by decide) dX7_enterWord_2 rfl rfl rfl rfl ?_
  refine g_istore (pc := 5) (L' := [(4, vI v2), (0, vA (some x0)), (1, vA (some a2_1)), (2, vI x2), (3, vI x3)]) B dX7_enterWord_5 (by decide) rfl ?_
  refine g_iload (pc := 7) B dX7_enterWord_7 0 rfl ?_
  refine g_iconst (pc := 9) B dX7_enterWord_9 (-1) (by decide) ?_
  refine g_icmp_ne (pc := 10) (tgt := 20) B dX7_enterWord_10 (by decide) (fun c10 => ?_) (fun c10 => ?_)
  · rw [if_neg c10] at h
    refine g_aload_n (pc := 20) B dX7_enterWord_20 1 rfl ?_
    obtain ⟨k21_3, h⟩ := chk h
    refine g_getI (pc := 21) 7 5 B k21_3 (by decide) (by decide) rfl kfX7_45 dX7_enterWord_21 ?_
    refine g_if_lt (pc := 24) (tgt := 39) B dX7_enterWord_24 (by decide) (fun c24 => ?_) (fun c24 => ?_)
    · rw [if_pos c24] at h
      refine g_sub (pc := 39) [1] rfl ?_
      exact cb_X7_enterWord_L39 B ht h
    · rw [if_neg c24] at h
      refine g_aload_n (pc := 27) B dX7_enterWord_27 1 rfl ?_
      refine g_getI (pc := 28) 7 5 B k21_3 (by decide) (by decide) rfl kfX7_45 dX7_enterWord_28 ?_
      refine g_aload_n (pc := 31) B dX7_enterWord_31 1 rfl ?_
      refine g_getR (pc := 32) 7 3 B k21_3 (by decide) (by decide) rfl kfX7_25 dX7_enterWord_32 ?_
      obtain ⟨a35_4, ea35_4, h⟩ := ob h
      rw [ea35_4]
      obtain ⟨n35_4, en35_4, h⟩ := ob h
      obtain ⟨tn35_4, kn35_4, qn35_4⟩ := alen_s en35_4
      refine g_alen (pc := 35) B kn35_4 qn35_4 dX7_enterWord_35 ?_
      refine g_icmp_lt (pc := 36) (tgt := 46) B dX7_enterWord_36 (by decide) (fun c36 => ?_) (fun c36 => ?_)
      · rw [if_pos c36] at h
        refine g_aload_n (pc := 46) B dX7_enterWord_46 1 rfl ?_
        refine g_getR (pc := 47) 7 3 B k21_3 (by decide) (by decide) rfl kfX7_25 dX7_enterWord_47 ?_
        refine g_aload_n (pc := 50) B dX7_enterWord_50 1 rfl ?_
        refine g_getI (pc := 51) 7 5 B k21_3 (by decide) (by decide) rfl kfX7_45 dX7_enterWord_51 ?_
        refine g_iload_n (pc := 54) B dX7_enterWord_54 3 rfl ?_
        obtain ⟨a55_6, ea55_6, h⟩ := ob h
        rw [ea55_6]
        obtain ⟨c55, h⟩ := chk h
        obtain ⟨nc55, kc55, ic55⟩ := inb_s c55
        refine g_iast (pc := 55) B kc55 ic55 dX7_enterWord_55 ?_
        refine g_aload_n (pc := 56) B dX7_enterWord_56 1 rfl ?_
        refine g_dup (pc := 57) B dX7_enterWord_57 rfl ?_
        refine g_getI (pc := 58) 7 5 B k21_3 (by decide) (by decide) rfl kfX7_45 dX7_enterWord_58 ?_
        refine g_iconst (pc := 61) B dX7_enterWord_61 (1 : Int32) (by decide) ?_
        refine g_iadd (pc := 62) B dX7_enterWord_62 ?_
        refine g_putI (pc := 63) 7 5 B k21_3 (by decide) (by decide) rfl rfl kfX7_45 dX7_enterWord_63 ?_
        refine g_iload (pc := 66) B dX7_enterWord_66 0 rfl ?_
        refine g_iconst (pc := 68) B dX7_enterWord_68 (1 : Int32) (by decide) ?_
        refine g_iadd (pc := 69) B dX7_enterWord_69 ?_
        obtain rfl := Option.some.inj h
        exact g_ret_I (pc := 70) B rfl (by decide) (by decide) dX7_enterWord_70
      · rw [if_neg c36] at h
        refine g_sub (pc := 39) [1] rfl ?_
        exact cb_X7_enterWord_L39 B ht h
  · rw [if_pos c10] at h
    refine g_aload_n (pc := 13) B dX7_enterWord_13 1 rfl ?_
    refine g_iconst (pc := 14) B dX7_enterWord_14 (5 : Int32) (by decide) ?_
    obtain ⟨k15_7, h⟩ := chk h
    refine g_putI (pc := 15) 7 8 B k15_7 (by decide) (by decide) rfl rfl kfX7_35 dX7_enterWord_15 ?_
    refine g_iconst (pc := 18) B dX7_enterWord_18 (-1) (by decide) ?_
    obtain rfl := Option.some.inj h
    exact g_ret_I (pc := 19) B rfl (by decide) (by decide) dX7_enterWord_19
theorem ct_X7_enterWord {D : DD} {l : Launch} {X0 : Mem} {x0 : Nat} {x1 : Option Nat} {x2 : Int32} {x3 : Int32} {r : Int32 × Mem} (hl : l.stackTraces = false) (h : fX7_enterWord X0 x0 x1 x2 x3 = some r) : Ctr D l yX7_enterWord cX7_enterWord 5 (some .int) rmX7_enterWord [vA (some x0), vA x1, vI x2, vI x3] X0 (.inr (some (vI r.1))) r.2 :=
  ctr_of hl (plainFor_of_name (by decide)) (Nat.le_of_ble_eq_true rfl) fun ev _ ht B => cb_X7_enterWord_L0 B ht h
set_option maxRecDepth 100000 in
set_option maxHeartbeats 4000000 in
theorem cb_X7_follow_L165 {D : DD} {ev : EV} {X0 : Mem} {fu : Nat} {X : Mem} {x2 : Int32} {s0 : Option Nat} {s1 : Int32} {r : Int32 × Mem} (B : Amb D (foot X0) ev RX7 "follow" cX7_follow 5 (some .int) rmX7_follow) (ht : Tb0 ev)  (h : fX7_follow_L165 fu X x2 s0 s1 = some r) : Gd D (foot X0) ev (QF D ev X0 (.inr (some (vI r.1))) r.2 rmX7_follow) X 0 0 165 [(2, vI x2)] [vI s1, vA s0] := by
  unfold fX7_follow_L165 at h
  obtain ⟨a165_1, ea165_1, h⟩ := ob h
  rw [ea165_1]
  obtain ⟨k165_2, h⟩ := chk h
  obtain ⟨X165, e165, h⟩ := ob h
  refine h_callV (pc := 165) (As := [vI s1]) (st := []) (X' := X165) (cs' := 0) (sl' := 0) (st10 := []) B cal_X8_putPen kmX7_94 kn_X8_putPen ks_X8_putPen k165_2 (by decide) rfl (fun l hl => ct_X8_putPen hl e165) rfl (Nat.le_of_ble_eq_true rfl) (by decide) (by decide) dX7_follow_165 rfl rfl rfl rfl ?_
  refine g_iload_n (pc := 168) B dX7_follow_168 0 rfl ?_
  refine g_iconst (pc := 169) B dX7_follow_169 (1 : Int32) (by decide) ?_
  refine g_iadd (pc := 170) B dX7_follow_170 ?_
  obtain rfl := Option.some.inj h
  exact g_ret_I (pc := 171) B rfl (by decide) (by decide) dX7_follow_171
set_option maxRecDepth 100000 in
set_option maxHeartbeats 4000000 in
theorem cb_X7_follow_L0 {D : DD} {ev : EV} {X0 : Mem} {fu : Nat} {X : Mem} {x0 : Nat} {x1 : Option Nat} {x2 : Int32} {r : Int32 × Mem} (B : Amb D (foot X0) ev RX7 "follow" cX7_follow 5 (some .int) rmX7_follow) (ht : Tb0 ev)  (h : fX7_follow fu X x0 x1 x2 = some r) : Gd D (foot X0) ev (QF D ev X0 (.inr (some (vI r.1))) r.2 rmX7_follow) X 0 0 0 [(0, vA (some x0)), (1, vA x1), (2, vI x2)] [] := by
  unfold fX7_follow at h
  refine g_aload_n (pc := 0) B dX7_follow_0 1 rfl ?_
  refine g_iload_n (pc := 1) B dX7_follow_1 2 rfl ?_
  obtain ⟨a2_1, ea2_1, h⟩ := ob h
  rw [ea2_1]
  obtain ⟨k2_2, h⟩ := chk h
  obtain ⟨v2, e2, h⟩ := ob h
  refine h_callV (pc := 2) (As := [vI x2]) (st := []) (X' := X) (cs' := 0) (sl' := 0) (st10 := [vA v2]) B cal_X5_orderAt kmX7_62 kn_X5_orderAt ks_X5_orderAt k2_2 (by decide) rfl (fun l hl => ct_X5_orderAt hl e2) rfl (Nat.le_of_ble_eq_true rfl) (by decide) (by decide) dX7_follow_2 rfl rfl rfl rfl ?_
  refine g_astore_n (pc := 5) (L' := [(3, vA v2), (0, vA (some x0)), (1, vA (some a2_1)), (2, vI x2)]) B dX7_follow_5 (by decide) rfl ?_
  refine g_aload_n (pc := 6) B dX7_follow_6 0 rfl ?_
  refine g_ifnonnull (pc := 7) (tgt := 12) B dX7_follow_7 (by decide) (fun c7 => ?_) (fun c7 => ?_)
  · rw [if_neg c7] at h
    refine g_aload_n (pc := 12) B dX7_follow_12 0 rfl ?_
    obtain ⟨a13_3, ea13_3, h⟩ := ob h
    rw [ea13_3]
    obtain ⟨k13_4, h⟩ := chk h
    refine g_getIN (pc := 13) 4 0 B k13_4 (by decide) (by decide) rfl kfX7_66 dX7_follow_13 ?_
    refine g_bipush (pc := 16) B dX7_follow_16 (6 : Int32) (by decide) ?_
    refine g_icmp_ne (pc := 18) (tgt := 29) B dX7_follow_18 (by decide) (fun c18 => ?_) (fun c18 => ?_)
    · rw [if_neg c18] at h
      refine g_aload_n (pc := 29) B dX7_follow_29 0 rfl ?_
      refine g_getIN (pc := 30) 4 0 B k13_4 (by decide) (by decide) rfl kfX7_66 dX7_follow_30 ?_
      refine g_bipush (pc := 33) B dX7_follow_33 (8 : Int32) (by decide) ?_
      refine g_icmp_ne (pc := 35) (tgt := 45) B dX7_follow_35 (by decide) (fun c35 => ?_) (fun c35 => ?_)
      · rw [if_neg c35] at h
        refine g_aload_n (pc := 45) B dX7_follow_45 1 rfl ?_
        obtain ⟨k46_5, h⟩ := chk h
        obtain ⟨v46, X46, e46, h⟩ := obW h
        refine h_callV (pc := 46) (As := []) (st := []) (X' := X46) (cs' := 0) (sl' := 0) (st10 := [vI v46]) B cal_X7_canCount kmX7_78 kn_X7_canCount ks_X7_canCount k46_5 (by decide) rfl (fun l hl => ct_X7_canCount hl e46) rfl (Nat.le_of_ble_eq_true rfl) (by decide) (by decide) dX7_follow_46 rfl rfl rfl rfl ?_
        refine g_if_ne (pc := 49) (tgt := 54) B dX7_follow_49 (by decide) (fun c49 => ?_) (fun c49 => ?_)
        · rw [if_neg c49] at h
          refine g_aload_n (pc := 54) B dX7_follow_54 1 rfl ?_
          refine g_dup (pc := 55) B dX7_follow_55 rfl ?_
          obtain ⟨k56_6, h⟩ := chk h
          refine g_getI (pc := 56) 7 7 B k56_6 (by decide) (by decide) rfl kfX7_39 dX7_follow_56 ?_
          refine g_iconst (pc := 59) B dX7_follow_59 (1 : Int32) (by decide) ?_
          refine g_iadd (pc := 60) B dX7_follow_60 ?_
          refine g_putI (pc := 61) 7 7 B k56_6 (by decide) (by decide) rfl rfl kfX7_39 dX7_follow_61 ?_
          refine g_aload_n (pc := 64) B dX7_follow_64 1 rfl ?_
          refine g_aload_n (pc := 65) B dX7_follow_65 0 rfl ?_
          obtain ⟨v66, e66, h⟩ := ob h
          refine h_callV (pc := 66) (As := [vA (some a13_3)]) (st := []) (X' := (wI X46 707 x0 ((mI X46 707 x0) + (1 : Int32)))) (cs' := 0) (sl' := 0) (st10 := [vI v66]) B cal_X7_valueOf kmX7_82 kn_X7_valueOf ks_X7_valueOf k56_6 (by decide) rfl (fun l hl => ct_X7_valueOf hl e66) rfl (Nat.le_of_ble_eq_true rfl) (by decide) (by decide) dX7_follow_66 rfl rfl rfl rfl ?_
          refine g_istore (pc := 69) (L' := [(4, vI v66), (3, vA (some a13_3)), (0, vA (some x0)), (1, vA (some a2_1)), (2, vI x2)]) B dX7_follow_69 (by decide) rfl ?_
          refine g_aload_n (pc := 71) B dX7_follow_71 1 rfl ?_
          obtain ⟨k72_7, h⟩ := chk h
          refine g_getIN (pc := 72) 4 0 B k72_7 (by decide) (by decide) rfl kfX7_66 dX7_follow_72 ?_
          by_cases c75v0 : (mI (wI X46 707 x0 ((mI X46 707 x0) + (1 : Int32))) 400 a13_3) = (0 : Int32)
          · rw [if_pos c75v0] at h
            refine g_tableIn (pc := 75) (tgt := 120) (off := 45) B dX7_follow_75 (by rw [c75v0]; decide) (by rw [c75v0]; decide) (by rw [c75v0]; decide +kernel) (by decide) ?_
            refine g_aload_n (pc := 120) B dX7_follow_120 2 rfl ?_
            refine g_iload (pc := 121) B dX7_follow_121 0 rfl ?_
            obtain ⟨v123, X123, e123, h⟩ := obW h
            refine h_callV (pc := 123) (As := [vI v66]) (st := []) (X' := X123) (cs' := 0) (sl' := 0) (st10 := [vI v123]) B cal_X7_goForward kmX7_86 kn_X7_goForward ks_X7_goForward k56_6 (by decide) rfl (fun l hl => ct_X7_goForward hl e123) rfl (Nat.le_of_ble_eq_true rfl) (by decide) (by decide) dX7_follow_123 rfl rfl rfl rfl ?_
            refine g_if_eq (pc := 126) (tgt := 135) B dX7_follow_126 (by decide) (fun c126 => ?_) (fun c126 => ?_)
            · rw [if_pos c126] at h
              refine g_iconst (pc := 135) B dX7_follow_135 (-1) (by decide) ?_
              obtain rfl := Option.some.inj h
              exact g_ret_I (pc := 136) B rfl (by decide) (by decide) dX7_follow_136
            · rw [if_neg c126] at h
              refine g_iload_n (pc := 129) B dX7_follow_129 4 rfl ?_
              refine g_iconst (pc := 130) B dX7_follow_130 (1 : Int32) (by decide) ?_
              refine g_iadd (pc := 131) B dX7_follow_131 ?_
              refine g_goto (pc := 132) (tgt := 136) B dX7_follow_132 (by decide) ?_
              obtain rfl := Option.some.inj h
              exact g_ret_I (pc := 136) B rfl (by decide) (by decide) dX7_follow_136
          · rw [if_neg c75v0] at h
            by_cases c75v1 : (mI (wI X46 707 x0 ((mI X46 707 x0) + (1 : Int32))) 400 a13_3) = (1 : Int32)
            · rw [if_pos c75v1] at h
              refine g_tableIn (pc := 75) (tgt := 137) (off := 62) B dX7_follow_75 (by rw [c75v1]; decide) (by rw [c75v1]; decide) (by rw [c75v1]; decide +kernel) (by decide) ?_
              refine g_aload_n (pc := 137) B dX7_follow_137 2 rfl ?_
              refine g_getR (pc := 138) 7 0 B k56_6 (by decide) (by decide) rfl kfX7_12 dX7_follow_138 ?_
              refine g_iload (pc := 141) B dX7_follow_141 0 rfl ?_
              obtain ⟨a143_8, ea143_8, h⟩ := ob h
              rw [ea143_8]
              obtain ⟨k143_9, h⟩ := chk h
              obtain ⟨X143, e143, h⟩ := ob h
              refine h_callV (pc := 143) (As := [vI v66]) (st := []) (X' := X143) (cs' := 0) (sl' := 0) (st10 := []) B cal_X8_turnBy kmX7_90 kn_X8_turnBy ks_X8_turnBy k143_9 (by decide) rfl (fun l hl => ct_X8_turnBy hl e143) rfl (Nat.le_of_ble_eq_true rfl) (by decide) (by decide) dX7_follow_143 rfl rfl rfl rfl ?_
              refine g_iload_n (pc := 146) B dX7_follow_146 4 rfl ?_
              refine g_iconst (pc := 147) B dX7_follow_147 (1 : Int32) (by decide) ?_
              refine g_iadd (pc := 148) B dX7_follow_148 ?_
              obtain rfl := Option.some.inj h
              exact g_ret_I (pc := 149) B rfl (by decide) (by decide) dX7_follow_149
            · rw [if_neg c75v1] at h
              by_cases c75v2 : (mI (wI X46 707 x0 ((mI X46 707 x0) + (1 : Int32))) 400 a13_3) = (2 : Int32)
              · rw [if_pos c75v2] at h
                refine g_tableIn (pc := 75) (tgt := 150) (off := 75) B dX7_follow_75 (by rw [c75v2]; decide) (by rw [c75v2]; decide) (by rw [c75v2]; decide +kernel) (by decide) ?_
                refine g_aload_n (pc := 150) B dX7_follow_150 2 rfl ?_
                refine g_getR (pc := 151) 7 0 B k56_6 (by decide) (by decide) rfl kfX7_12 dX7_follow_151 ?_
                refine g_iload (pc := 154) B dX7_follow_154 0 rfl ?_
                refine g_iconst (pc := 156) B dX7_follow_156 (1 : Int32) (by decide) ?_
                refine g_icmp_ne (pc := 157) (tgt := 164) B dX7_follow_157 (by decide) (fun c157 => ?_) (fun c157 => ?_)
                · rw [if_neg c157] at h
                  refine g_iconst (pc := 164) B dX7_follow_164 (0 : Int32) (by decide) ?_
                  refine g_sub (pc := 165) [4] rfl ?_
                  exact cb_X7_follow_L165 B ht h
                · rw [if_pos c157] at h
                  refine g_iconst (pc := 160) B dX7_follow_160 (1 : Int32) (by decide) ?_
                  refine g_goto (pc := 161) (tgt := 165) B dX7_follow_161 (by decide) ?_
                  refine g_sub (pc := 165) [4] rfl ?_
                  exact cb_X7_follow_L165 B ht h
              · rw [if_neg c75v2] at h
                by_cases c75v3 : (mI (wI X46 707 x0 ((mI X46 707 x0) + (1 : Int32))) 400 a13_3) = (3 : Int32)
                · rw [if_pos c75v3] at h
                  refine g_tableIn (pc := 75) (tgt := 172) (off := 97) B dX7_follow_75 (by rw [c75v3]; decide) (by rw [c75v3]; decide) (by rw [c75v3]; decide +kernel) (by decide) ?_
                  refine g_aload_n (pc := 172) B dX7_follow_172 2 rfl ?_
                  refine g_aload_n (pc := 173) B dX7_follow_173 1 rfl ?_
                  refine g_getIN (pc := 174) 4 1 B k72_7 (by decide) (by decide) rfl kfX7_98 dX7_follow_174 ?_
                  refine g_iload (pc := 177) B dX7_follow_177 0 rfl ?_
                  obtain ⟨v179, X179, e179, h⟩ := obW h
                  refine h_callV (pc := 179) (As := [vI (mI (wI X46 707 x0 ((mI X46 707 x0) + (1 : Int32))) 401 a13_3), vI v66]) (st := []) (X' := X179) (cs' := 0) (sl' := 0) (st10 := [vI v179]) B cal_X7_putName kmX7_101 kn_X7_putName ks_X7_putName k56_6 (by decide) rfl (fun l hl => ct_X7_putName hl e179) rfl (Nat.le_of_ble_eq_true rfl) (by decide) (by decide) dX7_follow_179 rfl rfl rfl rfl ?_
                  refine g_if_eq (pc := 182) (tgt := 191) B dX7_follow_182 (by decide) (fun c182 => ?_) (fun c182 => ?_)
                  · rw [if_pos c182] at h
                    refine g_iconst (pc := 191) B dX7_follow_191 (-1) (by decide) ?_
                    obtain rfl := Option.some.inj h
                    exact g_ret_I (pc := 192) B rfl (by decide) (by decide) dX7_follow_192
                  · rw [if_neg c182] at h
                    refine g_iload_n (pc := 185) B dX7_follow_185 4 rfl ?_
                    refine g_iconst (pc := 186) B dX7_follow_186 (1 : Int32) (by decide) ?_
                    refine g_iadd (pc := 187) B dX7_follow_187 ?_
                    refine g_goto (pc := 188) (tgt := 192) B dX7_follow_188 (by decide) ?_
                    obtain rfl := Option.some.inj h
                    exact g_ret_I (pc := 192) B rfl (by decide) (by decide) dX7_follow_192
                · rw [if_neg c75v3] at h
                  by_cases c75v4 : (mI (wI X46 707 x0 ((mI X46 707 x0) + (1 : Int32))) 400 a13_3) = (4 : Int32)
                  · rw [if_pos c75v4] at h
                    refine g_tableIn (pc := 75) (tgt := 193) (off := 118) B dX7_follow_75 (by rw [c75v4]; decide) (by rw [c75v4]; decide) (by rw [c75v4]; decide +kernel) (by decide) ?_
                    refine g_aload_n (pc := 193) B dX7_follow_193 2 rfl ?_
                    refine g_aload_n (pc := 194) B dX7_follow_194 1 rfl ?_
                    refine g_getIN (pc := 195) 4 1 B k72_7 (by decide) (by decide) rfl kfX7_98 dX7_follow_195 ?_
                    refine g_aload_n (pc := 198) B dX7_follow_198 2 rfl ?_
                    refine g_aload_n (pc := 199) B dX7_follow_199 1 rfl ?_
                    refine g_getIN (pc := 200) 4 1 B k72_7 (by decide) (by decide) rfl kfX7_98 dX7_follow_200 ?_
                    obtain ⟨v203, e203, h⟩ := ob h
                    refine h_callV (pc := 203) (As := [vI (mI (wI X46 707 x0 ((mI X46 707 x0) + (1 : Int32))) 401 a13_3)]) (st := [vI (mI (wI X46 707 x0 ((mI X46 707 x0) + (1 : Int32))) 401 a13_3), vA (some x0)]) (X' := (wI X46 707 x0 ((mI X46 707 x0) + (1 : Int32)))) (cs' := 0) (sl' := 0) (st10 := [vI v203, vI (mI (wI X46 707 x0 ((mI X46 707 x0) + (1 : Int32))) 401 a13_3), vA (some x0)]) B cal_X7_nameAt kmX7_105 kn_X7_nameAt ks_X7_nameAt k56_6 (by decide) rfl (fun l hl => ct_X7_nameAt hl e203) rfl (Nat.le_of_ble_eq_true rfl) (by decide) (by decide) dX7_follow_203 rfl rfl rfl rfl ?_
                    refine g_iload (pc := 206) B dX7_follow_206 0 rfl ?_
                    refine g_iadd (pc := 208) B dX7_follow_208 ?_
                    obtain ⟨v209, X209, e209, h⟩ := obW h
                    refine h_callV (pc := 209) (As := [vI (mI (wI X46 707 x0 ((mI X46 707 x0) + (1 : Int32))) 401 a13_3), vI (v203 + v66)]) (st := []) (X' := X209) (cs' := 0) (sl' := 0) (st10 := [vI v209]) B cal_X7_putName kmX7_101 kn_X7_putName ks_X7_putName k56_6 (by decide) rfl (fun l hl => ct_X7_putName hl e209) rfl (Nat.le_of_ble_eq_true rfl) (by decide) (by decide) dX7_follow_209 rfl rfl rfl rfl ?_
                    refine g_if_eq (pc := 212) (tgt := 221) B dX7_follow_212 (by decide) (fun c212 => ?_) (fun c212 => ?_)
                    · rw [if_pos c212] at h
                      refine g_iconst (pc := 221) B dX7_follow_221 (-1) (by decide) ?_
                      obtain rfl := Option.some.inj h
                      exact g_ret_I (pc := 222) B rfl (by decide) (by decide) dX7_follow_222
                    · rw [if_neg c212] at h
                      refine g_iload_n (pc := 215) B dX7_follow_215 4 rfl ?_
                      refine g_iconst (pc := 216) B dX7_follow_216 (1 : Int32) (by decide) ?_
                      refine g_iadd (pc := 217) B dX7_follow_217 ?_
                      refine g_goto (pc := 218) (tgt := 222) B dX7_follow_218 (by decide) ?_
                      obtain rfl := Option.some.inj h
                      exact g_ret_I (pc := 222) B rfl (by decide) (by decide) dX7_follow_222
                  · rw [if_neg c75v4] at h
                    by_cases c75v5 : (mI (wI X46 707 x0 ((mI X46 707 x0) + (1 : Int32))) 400 a13_3) = (5 : Int32)
                    · rw [if_pos c75v5] at h
                      refine g_tableIn (pc := 75) (tgt := 223) (off := 148) B dX7_follow_75 (by rw [c75v5]; decide) (by rw [c75v5]; decide) (by rw [c75v5]; decide +kernel) (by decide) ?_
                      refine g_aload_n (pc := 223) B dX7_follow_223 2 rfl ?_
                      refine g_aload_n (pc := 224) B dX7_follow_224 3 rfl ?_
                      refine g_iload_n (pc := 225) B dX7_follow_225 4 rfl ?_
                      refine g_iload (pc := 226) B dX7_follow_226 0 rfl ?_
                      obtain ⟨v228, X228, e228, h⟩ := obW h
                      refine h_callV (pc := 228) (As := [vA (some a2_1), vI x2, vI v66]) (st := []) (X' := X228) (cs' := 0) (sl' := 0) (st10 := [vI v228]) B cal_X7_beginRepeat kmX7_108 kn_X7_beginRepeat ks_X7_beginRepeat k56_6 (by decide) rfl (fun l hl => ct_X7_beginRepeat hl e228) rfl (Nat.le_of_ble_eq_true rfl) (by decide) (by decide) dX7_follow_228 rfl rfl rfl rfl ?_
                      obtain rfl := Option.some.inj h
                      exact g_ret_I (pc := 231) B rfl (by decide) (by decide) dX7_follow_231
                    · rw [if_neg c75v5] at h
                      by_cases c75v6 : (mI (wI X46 707 x0 ((mI X46 707 x0) + (1 : Int32))) 400 a13_3) = (6 : Int32)
                      · rw [if_pos c75v6] at h
                        refine g_tableIn (pc := 75) (tgt := 243) (off := 168) B dX7_follow_75 (by rw [c75v6]; decide) (by rw [c75v6]; decide) (by rw [c75v6]; decide +kernel) (by decide) ?_
                        refine g_iconst (pc := 243) B dX7_follow_243 (-1) (by decide) ?_
                        obtain rfl := Option.some.inj h
                        exact g_ret_I (pc := 244) B rfl (by decide) (by decide) dX7_follow_244
                      · rw [if_neg c75v6] at h
                        by_cases c75v7 : (mI (wI X46 707 x0 ((mI X46 707 x0) + (1 : Int32))) 400 a13_3) = (7 : Int32)
                        · rw [if_pos c75v7] at h
                          refine g_tableIn (pc := 75) (tgt := 232) (off := 157) B dX7_follow_75 (by rw [c75v7]; decide) (by rw [c75v7]; decide) (by rw [c75v7]; decide +kernel) (by decide) ?_
                          refine g_aload_n (pc := 232) B dX7_follow_232 2 rfl ?_
                          refine g_aload_n (pc := 233) B dX7_follow_233 3 rfl ?_
                          refine g_iload_n (pc := 234) B dX7_follow_234 4 rfl ?_
                          refine g_aload_n (pc := 235) B dX7_follow_235 1 rfl ?_
                          refine g_getIN (pc := 236) 4 1 B k72_7 (by decide) (by decide) rfl kfX7_98 dX7_follow_236 ?_
                          obtain ⟨v239, X239, e239, h⟩ := obW h
                          refine h_callV (pc := 239) (As := [vA (some a2_1), vI x2, vI (mI (wI X46 707 x0 ((mI X46 707 x0) + (1 : Int32))) 401 a13_3)]) (st := []) (X' := X239) (cs' := 0) (sl' := 0) (st10 := [vI v239]) B cal_X7_enterWord kmX7_112 kn_X7_enterWord ks_X7_enterWord k56_6 (by decide) rfl (fun l hl => ct_X7_enterWord hl e239) rfl (Nat.le_of_ble_eq_true rfl) (by decide) (by decide) dX7_follow_239 rfl rfl rfl rfl ?_
                          obtain rfl := Option.some.inj h
                          exact g_ret_I (pc := 242) B rfl (by decide) (by decide) dX7_follow_242
                        · rw [if_neg c75v7] at h
                          by_cases c75d : (mI (wI X46 707 x0 ((mI X46 707 x0) + (1 : Int32))) 400 a13_3).toInt < 0 ∨ 7 < (mI (wI X46 707 x0 ((mI X46 707 x0) + (1 : Int32))) 400 a13_3).toInt
                          · rw [if_pos c75d] at h
                            refine g_tableOut (pc := 75) (tgt := 243) B dX7_follow_75 c75d (by decide) ?_
                            refine g_iconst (pc := 243) B dX7_follow_243 (-1) (by decide) ?_
                            obtain rfl := Option.some.inj h
                            exact g_ret_I (pc := 244) B rfl (by decide) (by decide) dX7_follow_244
                          · rw [if_neg c75d] at h
                            exact nomatch h
        · rw [if_pos c49] at h
          refine g_iconst (pc := 52) B dX7_follow_52 (-1) (by decide) ?_
          obtain rfl := Option.some.inj h
          exact g_ret_I (pc := 53) B rfl (by decide) (by decide) dX7_follow_53
      · rw [if_pos c35] at h
        refine g_aload_n (pc := 38) B dX7_follow_38 1 rfl ?_
        refine g_aload_n (pc := 39) B dX7_follow_39 2 rfl ?_
        refine g_iload_n (pc := 40) B dX7_follow_40 3 rfl ?_
        obtain ⟨k41_10, h⟩ := chk h
        obtain ⟨v41, X41, e41, h⟩ := obW h
        refine h_callV (pc := 41) (As := [vA (some a2_1), vI x2]) (st := []) (X' := X41) (cs' := 0) (sl' := 0) (st10 := [vI v41]) B cal_X7_closeBlock kmX7_75 kn_X7_closeBlock ks_X7_closeBlock k41_10 (by decide) rfl (fun l hl => ct_X7_closeBlock hl e41) rfl (Nat.le_of_ble_eq_true rfl) (by decide) (by decide) dX7_follow_41 rfl rfl rfl rfl ?_
        obtain rfl := Option.some.inj h
        exact g_ret_I (pc := 44) B rfl (by decide) (by decide) dX7_follow_44
    · rw [if_pos c18] at h
      refine g_aload_n (pc := 21) B dX7_follow_21 2 rfl ?_
      refine g_iload_n (pc := 22) B dX7_follow_22 3 rfl ?_
      obtain ⟨v23, e23, h⟩ := ob h
      refine h_callV (pc := 23) (As := [vI x2]) (st := []) (X' := X) (cs' := 0) (sl' := 0) (st10 := [vI v23]) B cal_X5_partnerOf kmX7_71 kn_X5_partnerOf ks_X5_partnerOf k2_2 (by decide) rfl (fun l hl => ct_X5_partnerOf hl e23) rfl (Nat.le_of_ble_eq_true rfl) (by decide) (by decide) dX7_follow_23 rfl rfl rfl rfl ?_
      refine g_iconst (pc := 26) B dX7_follow_26 (1 : Int32) (by decide) ?_
      refine g_iadd (pc := 27) B dX7_follow_27 ?_
      obtain rfl := Option.some.inj h
      exact g_ret_I (pc := 28) B rfl (by decide) (by decide) dX7_follow_28
  · rw [if_pos c7] at h
    refine g_iconst (pc := 10) B dX7_follow_10 (-1) (by decide) ?_
    obtain rfl := Option.some.inj h
    exact g_ret_I (pc := 11) B rfl (by decide) (by decide) dX7_follow_11
theorem ct_X7_follow {D : DD} {l : Launch} {X0 : Mem} {fu : Nat} {x0 : Nat} {x1 : Option Nat} {x2 : Int32} {r : Int32 × Mem} (hl : l.stackTraces = false) (h : fX7_follow fu X0 x0 x1 x2 = some r) : Ctr D l yX7_follow cX7_follow 5 (some .int) rmX7_follow [vA (some x0), vA x1, vI x2] X0 (.inr (some (vI r.1))) r.2 :=
  ctr_of hl (plainFor_of_name (by decide)) (Nat.le_of_ble_eq_true rfl) fun ev _ ht B => cb_X7_follow_L0 B ht h
set_option maxRecDepth 100000 in
set_option maxHeartbeats 4000000 in
theorem cb_X7_perform_L65b {D : DD} {ev : EV} {X0 : Mem} {fu : Nat} {rec65 : Mem → Nat → (Option Nat) → Int32 → Int32 → Option (Mem)} {X : Mem} {x0 : Nat} {x1 : Option Nat} {x4 : Int32} {x5 : Int32} {r : Mem} (B : Amb D (foot X0) ev RX7 "perform" cX7_perform 6 (none) rmX7_perform) (ht : Tb0 ev) (hrec65 : ∀ {X : Mem} {x0 : Nat} {x1 : Option Nat} {x4 : Int32} {x5 : Int32} {r : Mem}, rec65 X x0 x1 x4 x5 = some r → Gd D (foot X0) ev (QF D ev X0 (.inr (none)) r rmX7_perform) X 0 0 65 [(0, vA (some x0)), (1, vA x1), (4, vI x4), (5, vI x5)] []) (h : fX7_perform_L65b fu rec65 X x0 x1 x4 x5 = some r) : Gd D (foot X0) ev (QF D ev X0 (.inr (none)) r rmX7_perform) X 0 0 65 [(0, vA (some x0)), (1, vA x1), (4, vI x4), (5, vI x5)] [] := by
  unfold fX7_perform_L65b at h
  refine g_iload (pc := 65) B dX7_perform_65 3 rfl ?_
  refine g_ldc (pc := 67) (v := (100000 : Int32)) B kkX7_51 dX7_perform_67 ?_
  refine g_icmp_ge (pc := 69) (tgt := 101) B dX7_perform_69 (by decide) (fun c69 => ?_) (fun c69 => ?_)
  · rw [if_pos c69] at h
    obtain rfl := Option.some.inj h
    exact g_ret_V (pc := 101) B rfl (by decide) (by decide) dX7_perform_101
  · rw [if_neg c69] at h
    refine g_iload (pc := 72) B dX7_perform_72 2 rfl ?_
    refine g_if_lt (pc := 74) (tgt := 101) B dX7_perform_74 (by decide) (fun c74 => ?_) (fun c74 => ?_)
    · rw [if_pos c74] at h
      obtain rfl := Option.some.inj h
      exact g_ret_V (pc := 101) B rfl (by decide) (by decide) dX7_perform_101
    · rw [if_neg c74] at h
      refine g_iload (pc := 77) B dX7_perform_77 2 rfl ?_
      refine g_aload_n (pc := 79) B dX7_perform_79 1 rfl ?_
      obtain ⟨a80_1, ea80_1, h⟩ := ob h
      rw [ea80_1]
      obtain ⟨k80_2, h⟩ := chk h
      obtain ⟨v80, e80, h⟩ := ob h
      refine h_callV (pc := 80) (As := []) (st := [vI x4]) (X' := X) (cs' := 0) (sl' := 0) (st10 := [vI v80, vI x4]) B cal_X5_length kmX7_52 kn_X5_length ks_X5_length k80_2 (by decide) rfl (fun l hl => ct_X5_length hl e80) rfl (Nat.le_of_ble_eq_true rfl) (by decide) (by decide) dX7_perform_80 rfl rfl rfl rfl ?_
      refine g_icmp_ge (pc := 83) (tgt := 101) B dX7_perform_83 (by decide) (fun c83 => ?_) (fun c83 => ?_)
      · rw [if_pos c83] at h
        obtain rfl := Option.some.inj h
        exact g_ret_V (pc := 101) B rfl (by decide) (by decide) dX7_perform_101
      · rw [if_neg c83] at h
        refine g_aload_n (pc := 86) B dX7_perform_86 0 rfl ?_
        refine g_aload_n (pc := 87) B dX7_perform_87 1 rfl ?_
        refine g_iload (pc := 88) B dX7_perform_88 2 rfl ?_
        obtain ⟨k90_3, h⟩ := chk h
        obtain ⟨v90, X90, e90, h⟩ := obW h
        refine h_callV (pc := 90) (As := [vA (some a80_1), vI x4]) (st := []) (X' := X90) (cs' := 0) (sl' := 0) (st10 := [vI v90]) B cal_X7_follow kmX7_58 kn_X7_follow ks_X7_follow k90_3 (by decide) rfl (fun l hl => ct_X7_follow hl e90) rfl (Nat.le_of_ble_eq_true rfl) (by decide) (by decide) dX7_perform_90 rfl rfl rfl rfl ?_
        refine g_istore (pc := 93) (L' := [(4, vI v90), (0, vA (some x0)), (1, vA (some a80_1)), (5, vI x5)]) B dX7_perform_93 (by decide) rfl ?_
        refine g_iinc (pc := 95) (v := (x5 + (1 : Int32))) (L' := [(5, vI (x5 + (1 : Int32))), (4, vI v90), (0, vA (some x0)), (1, vA (some a80_1))]) B dX7_perform_95 (by decide) 3 rfl rfl rfl ?_
        refine g_goto (pc := 98) (tgt := 65) B dX7_perform_98 (by decide) ?_
        refine g_sub (pc := 65) [2, 3, 1, 0] rfl ?_
        exact hrec65 h
theorem cb_X7_perform_L65n {D : DD} {ev : EV} {X0 : Mem} {fu : Nat} (B : Amb D (foot X0) ev RX7 "perform" cX7_perform 6 (none) rmX7_perform) (ht : Tb0 ev)  : ∀ (n : Nat) {X : Mem} {x0 : Nat} {x1 : Option Nat} {x4 : Int32} {x5 : Int32} {r : Mem}, fX7_perform_L65 fu n X x0 x1 x4 x5 = some r → Gd D (foot X0) ev (QF D ev X0 (.inr (none)) r rmX7_perform) X 0 0 65 [(0, vA (some x0)), (1, vA x1), (4, vI x4), (5, vI x5)] [] := by
  intro n
  induction n with
  | zero => intro X x0 x1 x4 x5 r h; exact nomatch h
  | succ n ih => intro X x0 x1 x4 x5 r h; exact cb_X7_perform_L65b (fu := fu) B ht (fun h9 => ih h9) h
theorem cb_X7_perform_L65 {D : DD} {ev : EV} {X0 : Mem} {fu : Nat} {X : Mem} {x0 : Nat} {x1 : Option Nat} {x4 : Int32} {x5 : Int32} {n : Nat} {r : Mem} (B : Amb D (foot X0) ev RX7 "perform" cX7_perform 6 (none) rmX7_perform) (ht : Tb0 ev)  (h : fX7_perform_L65 fu n X x0 x1 x4 x5 = some r) : Gd D (foot X0) ev (QF D ev X0 (.inr (none)) r rmX7_perform) X 0 0 65 [(0, vA (some x0)), (1, vA x1), (4, vI x4), (5, vI x5)] [] := cb_X7_perform_L65n B ht n h
set_option maxRecDepth 100000 in
set_option maxHeartbeats 4000000 in
theorem cb_X7_perform_L35b {D : DD} {ev : EV} {X0 : Mem} {fu : Nat} {rec35 : Mem → Nat → (Option Nat) → Int32 → Option (Mem)} {X : Mem} {x0 : Nat} {x1 : Option Nat} {x4 : Int32} {r : Mem} (B : Amb D (foot X0) ev RX7 "perform" cX7_perform 6 (none) rmX7_perform) (ht : Tb0 ev) (hrec35 : ∀ {X : Mem} {x0 : Nat} {x1 : Option Nat} {x4 : Int32} {r : Mem}, rec35 X x0 x1 x4 = some r → Gd D (foot X0) ev (QF D ev X0 (.inr (none)) r rmX7_perform) X 0 0 35 [(0, vA (some x0)), (1, vA x1), (4, vI x4)] []) (h : fX7_perform_L35b fu rec35 X x0 x1 x4 = some r) : Gd D (foot X0) ev (QF D ev X0 (.inr (none)) r rmX7_perform) X 0 0 35 [(0, vA (some x0)), (1, vA x1), (4, vI x4)] [] := by
  unfold fX7_perform_L35b at h
  refine g_iload (pc := 35) B dX7_perform_35 2 rfl ?_
  refine g_aload_n (pc := 37) B dX7_perform_37 0 rfl ?_
  obtain ⟨k38_1, h⟩ := chk h
  refine g_getR (pc := 38) 7 1 B k38_1 (by decide) (by decide) rfl kfX7_18 dX7_perform_38 ?_
  obtain ⟨a41_2, ea41_2, h⟩ := ob h
  rw [ea41_2]
  obtain ⟨n41_2, en41_2, h⟩ := ob h
  obtain ⟨tn41_2, kn41_2, qn41_2⟩ := alen_s en41_2
  refine g_alen (pc := 41) B kn41_2 qn41_2 dX7_perform_41 ?_
  refine g_icmp_ge (pc := 42) (tgt := 59) B dX7_perform_42 (by decide) (fun c42 => ?_) (fun c42 => ?_)
  · rw [if_pos c42] at h
    refine g_iconst (pc := 59) B dX7_perform_59 (0 : Int32) (by decide) ?_
    refine g_istore (pc := 60) (L' := [(4, vI (0 : Int32)), (0, vA (some x0)), (1, vA x1)]) B dX7_perform_60 (by decide) rfl ?_
    refine g_iconst (pc := 62) B dX7_perform_62 (0 : Int32) (by decide) ?_
    refine g_istore (pc := 63) (L' := [(5, vI (0 : Int32)), (4, vI (0 : Int32)), (0, vA (some x0)), (1, vA x1)]) B dX7_perform_63 (by decide) rfl ?_
    refine g_sub (pc := 65) [2, 3, 1, 0] rfl ?_
    exact cb_X7_perform_L65 B ht h
  · rw [if_neg c42] at h
    refine g_aload_n (pc := 45) B dX7_perform_45 0 rfl ?_
    refine g_getR (pc := 46) 7 1 B k38_1 (by decide) (by decide) rfl kfX7_18 dX7_perform_46 ?_
    refine g_iload (pc := 49) B dX7_perform_49 2 rfl ?_
    refine g_iconst (pc := 51) B dX7_perform_51 (0 : Int32) (by decide) ?_
    obtain ⟨a52_4, ea52_4, h⟩ := ob h
    rw [ea52_4]
    obtain ⟨c52, h⟩ := chk h
    obtain ⟨nc52, kc52, ic52⟩ := inb_s c52
    refine g_iast (pc := 52) B kc52 ic52 dX7_perform_52 ?_
    refine g_iinc (pc := 53) (v := (x4 + (1 : Int32))) (L' := [(4, vI (x4 + (1 : Int32))), (0, vA (some x0)), (1, vA x1)]) B dX7_perform_53 (by decide) 2 rfl rfl rfl ?_
    refine g_goto (pc := 56) (tgt := 35) B dX7_perform_56 (by decide) ?_
    refine g_sub (pc := 35) [1, 2, 0] rfl ?_
    exact hrec35 h
theorem cb_X7_perform_L35n {D : DD} {ev : EV} {X0 : Mem} {fu : Nat} (B : Amb D (foot X0) ev RX7 "perform" cX7_perform 6 (none) rmX7_perform) (ht : Tb0 ev)  : ∀ (n : Nat) {X : Mem} {x0 : Nat} {x1 : Option Nat} {x4 : Int32} {r : Mem}, fX7_perform_L35 fu n X x0 x1 x4 = some r → Gd D (foot X0) ev (QF D ev X0 (.inr (none)) r rmX7_perform) X 0 0 35 [(0, vA (some x0)), (1, vA x1), (4, vI x4)] [] := by
  intro n
  induction n with
  | zero => intro X x0 x1 x4 r h; exact nomatch h
  | succ n ih => intro X x0 x1 x4 r h; exact cb_X7_perform_L35b (fu := fu) B ht (fun h9 => ih h9) h
theorem cb_X7_perform_L35 {D : DD} {ev : EV} {X0 : Mem} {fu : Nat} {X : Mem} {x0 : Nat} {x1 : Option Nat} {x4 : Int32} {n : Nat} {r : Mem} (B : Amb D (foot X0) ev RX7 "perform" cX7_perform 6 (none) rmX7_perform) (ht : Tb0 ev)  (h : fX7_perform_L35 fu n X x0 x1 x4 = some r) : Gd D (foot X0) ev (QF D ev X0 (.inr (none)) r rmX7_perform) X 0 0 35 [(0, vA (some x0)), (1, vA x1), (4, vI x4)] [] := cb_X7_perform_L35n B ht n h
set_option maxRecDepth 100000 in
set_option maxHeartbeats 4000000 in
theorem cb_X7_perform_L0 {D : DD} {ev : EV} {X0 : Mem} {fu : Nat} {X : Mem} {x0 : Nat} {x1 : Option Nat} {x2 : Option Nat} {x3 : Int32} {r : Mem} (B : Amb D (foot X0) ev RX7 "perform" cX7_perform 6 (none) rmX7_perform) (ht : Tb0 ev)  (h : fX7_perform fu X x0 x1 x2 x3 = some r) : Gd D (foot X0) ev (QF D ev X0 (.inr (none)) r rmX7_perform) X 0 0 0 [(0, vA (some x0)), (1, vA x1), (2, vA x2), (3, vI x3)] [] := by
  unfold fX7_perform at h
  refine g_aload_n (pc := 0) B dX7_perform_0 0 rfl ?_
  refine g_aload_n (pc := 1) B dX7_perform_1 2 rfl ?_
  obtain ⟨k2_1, h⟩ := chk h
  refine g_putR (pc := 2) 7 4 B k2_1 (by decide) (by decide) rfl rfl kfX7_31 dX7_perform_2 ?_
  refine g_aload_n (pc := 5) B dX7_perform_5 0 rfl ?_
  refine g_iload_n (pc := 6) B dX7_perform_6 3 rfl ?_
  refine g_putI (pc := 7) 7 6 B k2_1 (by decide) (by decide) rfl rfl kfX7_42 dX7_perform_7 ?_
  refine g_aload_n (pc := 10) B dX7_perform_10 0 rfl ?_
  refine g_iconst (pc := 11) B dX7_perform_11 (0 : Int32) (by decide) ?_
  refine g_putI (pc := 12) 7 7 B k2_1 (by decide) (by decide) rfl rfl kfX7_39 dX7_perform_12 ?_
  refine g_aload_n (pc := 15) B dX7_perform_15 0 rfl ?_
  refine g_iconst (pc := 16) B dX7_perform_16 (0 : Int32) (by decide) ?_
  refine g_putI (pc := 17) 7 5 B k2_1 (by decide) (by decide) rfl rfl kfX7_45 dX7_perform_17 ?_
  refine g_aload_n (pc := 20) B dX7_perform_20 0 rfl ?_
  refine g_iconst (pc := 21) B dX7_perform_21 (0 : Int32) (by decide) ?_
  refine g_putI (pc := 22) 7 8 B k2_1 (by decide) (by decide) rfl rfl kfX7_35 dX7_perform_22 ?_
  refine g_aload_n (pc := 25) B dX7_perform_25 0 rfl ?_
  refine g_getR (pc := 26) 7 0 B k2_1 (by decide) (by decide) rfl kfX7_12 dX7_perform_26 ?_
  obtain ⟨a29_2, ea29_2, h⟩ := ob h
  rw [ea29_2]
  obtain ⟨k29_3, h⟩ := chk h
  obtain ⟨X29, e29, h⟩ := ob h
  refine h_callV (pc := 29) (As := []) (st := []) (X' := X29) (cs' := 0) (sl' := 0) (st10 := []) B cal_X8_begin kmX7_48 kn_X8_begin ks_X8_begin k29_3 (by decide) rfl (fun l hl => ct_X8_begin hl e29) rfl (Nat.le_of_ble_eq_true rfl) (by decide) (by decide) dX7_perform_29 rfl rfl rfl rfl ?_
  refine g_iconst (pc := 32) B dX7_perform_32 (0 : Int32) (by decide) ?_
  refine g_istore (pc := 33) (L' := [(4, vI (0 : Int32)), (0, vA (some x0)), (1, vA x1), (2, vA x2), (3, vI x3)]) B dX7_perform_33 (by decide) rfl ?_
  refine g_sub (pc := 35) [1, 2, 0] rfl ?_
  exact cb_X7_perform_L35 B ht h
theorem ct_X7_perform {D : DD} {l : Launch} {X0 : Mem} {fu : Nat} {x0 : Nat} {x1 : Option Nat} {x2 : Option Nat} {x3 : Int32} {r : Mem} (hl : l.stackTraces = false) (h : fX7_perform fu X0 x0 x1 x2 x3 = some r) : Ctr D l yX7_perform cX7_perform 6 (none) rmX7_perform [vA (some x0), vA x1, vA x2, vI x3] X0 (.inr (none)) r :=
  ctr_of hl (plainFor_of_name (by decide)) (Nat.le_of_ble_eq_true rfl) fun ev _ ht B => cb_X7_perform_L0 B ht h
set_option maxRecDepth 100000 in
set_option maxHeartbeats 4000000 in
theorem cb_X7_brokenBy_L0 {D : DD} {ev : EV} {X0 : Mem} {x0 : Nat} {r : Int32} (B : Amb D (foot X0) ev RX7 "brokenBy" cX7_brokenBy 1 (some .int) rmX7_brokenBy) (ht : Tb0 ev)  (h : fX7_brokenBy X0 x0 = some r) : Gd D (foot X0) ev (QF D ev X0 (.inr (some (vI r))) X0 rmX7_brokenBy) X0 0 0 0 [(0, vA (some x0))] [] := by
  unfold fX7_brokenBy at h
  refine g_aload_n (pc := 0) B dX7_brokenBy_0 0 rfl ?_
  obtain ⟨k1_1, h⟩ := chk h
  refine g_getI (pc := 1) 7 8 B k1_1 (by decide) (by decide) rfl kfX7_35 dX7_brokenBy_1 ?_
  obtain rfl := Option.some.inj h
  exact g_ret_I (pc := 4) B rfl (by decide) (by decide) dX7_brokenBy_4
theorem ct_X7_brokenBy {D : DD} {l : Launch} {X0 : Mem} {x0 : Nat} {r : Int32} (hl : l.stackTraces = false) (h : fX7_brokenBy X0 x0 = some r) : Ctr D l yX7_brokenBy cX7_brokenBy 1 (some .int) rmX7_brokenBy [vA (some x0)] X0 (.inr (some (vI r))) X0 :=
  ctr_of hl (plainFor_of_name (by decide)) (Nat.le_of_ble_eq_true rfl) fun ev _ ht B => cb_X7_brokenBy_L0 B ht h
set_option maxRecDepth 100000 in
set_option maxHeartbeats 4000000 in
theorem cb_X7_counted_L0 {D : DD} {ev : EV} {X0 : Mem} {x0 : Nat} {r : Int32} (B : Amb D (foot X0) ev RX7 "counted" cX7_counted 1 (some .int) rmX7_counted) (ht : Tb0 ev)  (h : fX7_counted X0 x0 = some r) : Gd D (foot X0) ev (QF D ev X0 (.inr (some (vI r))) X0 rmX7_counted) X0 0 0 0 [(0, vA (some x0))] [] := by
  unfold fX7_counted at h
  refine g_aload_n (pc := 0) B dX7_counted_0 0 rfl ?_
  obtain ⟨k1_1, h⟩ := chk h
  refine g_getI (pc := 1) 7 7 B k1_1 (by decide) (by decide) rfl kfX7_39 dX7_counted_1 ?_
  obtain rfl := Option.some.inj h
  exact g_ret_I (pc := 4) B rfl (by decide) (by decide) dX7_counted_4
theorem ct_X7_counted {D : DD} {l : Launch} {X0 : Mem} {x0 : Nat} {r : Int32} (hl : l.stackTraces = false) (h : fX7_counted X0 x0 = some r) : Ctr D l yX7_counted cX7_counted 1 (some .int) rmX7_counted [vA (some x0)] X0 (.inr (some (vI r))) X0 :=
  ctr_of hl (plainFor_of_name (by decide)) (Nat.le_of_ble_eq_true rfl) fun ev _ ht B => cb_X7_counted_L0 B ht h
set_option maxRecDepth 100000 in
set_option maxHeartbeats 4000000 in
theorem cb_X5_keepOutcome_L0 {D : DD} {ev : EV} {X0 : Mem} {X : Mem} {x0 : Nat} {x1 : Int32} {x2 : Int32} {r : Mem} (B : Amb D (foot X0) ev RX5 "keepOutcome" cX5_keepOutcome 3 (none) rmX5_keepOutcome) (ht : Tb0 ev)  (h : fX5_keepOutcome X x0 x1 x2 = some r) : Gd D (foot X0) ev (QF D ev X0 (.inr (none)) r rmX5_keepOutcome) X 0 0 0 [(0, vA (some x0)), (1, vI x1), (2, vI x2)] [] := by
  unfold fX5_keepOutcome at h
  refine g_aload_n (pc := 0) B dX5_keepOutcome_0 0 rfl ?_
  refine g_iload_n (pc := 1) B dX5_keepOutcome_1 1 rfl ?_
  obtain ⟨k2_1, h⟩ := chk h
  refine g_putI (pc := 2) 5 6 B k2_1 (by decide) (by decide) rfl rfl kfX5_57 dX5_keepOutcome_2 ?_
  refine g_aload_n (pc := 5) B dX5_keepOutcome_5 0 rfl ?_
  refine g_iload_n (pc := 6) B dX5_keepOutcome_6 2 rfl ?_
  refine g_putI (pc := 7) 5 7 B k2_1 (by decide) (by decide) rfl rfl kfX5_60 dX5_keepOutcome_7 ?_
  obtain rfl := Option.some.inj h
  exact g_ret_V (pc := 10) B rfl (by decide) (by decide) dX5_keepOutcome_10
theorem ct_X5_keepOutcome {D : DD} {l : Launch} {X0 : Mem} {x0 : Nat} {x1 : Int32} {x2 : Int32} {r : Mem} (hl : l.stackTraces = false) (h : fX5_keepOutcome X0 x0 x1 x2 = some r) : Ctr D l yX5_keepOutcome cX5_keepOutcome 3 (none) rmX5_keepOutcome [vA (some x0), vI x1, vI x2] X0 (.inr (none)) r :=
  ctr_of hl (plainFor_of_name (by decide)) (Nat.le_of_ble_eq_true rfl) fun ev _ ht B => cb_X5_keepOutcome_L0 B ht h
set_option maxRecDepth 100000 in
set_option maxHeartbeats 4000000 in
theorem cb_X11_write_L0 {D : DD} {ev : EV} {X0 : Mem} {fu : Nat} {x0 : Nat} {x1 : Int32} {r : Int32 × Mem} (B : Amb D (foot X0) ev RX11 "write" cX11_write 4 (some .int) rmX11_write) (ht : Tb0 ev)  (h : fX11_write fu X0 x0 x1 = some (.inr r)) : Gd D (foot X0) ev (QF D ev X0 (.inr (some (vI r.1))) r.2 rmX11_write) X0 0 0 0 [(0, vA (some x0)), (1, vI x1)] [] := by
  unfold fX11_write at h
  refine g_iload_n (pc := 0) B dX11_write_0 1 rfl ?_
  rcases bE_c h with ⟨E1, e1, hr1⟩ | ⟨v1, e1, h⟩
  · exact nomatch hr1
  refine h_callS (pc := 1) (As := [vI x1]) (st := []) (X' := X0) (cs' := 0) (sl' := 0) (st10 := []) B cal_X11_checkPupil kmX11_100 kz_X11_checkPupil (fun l hl => ct_X11_checkPupil hl e1) rfl (Nat.le_of_ble_eq_true rfl) (by decide) (by decide) dX11_write_1 rfl rfl rfl rfl ?_
  refine g_aload_n (pc := 4) B dX11_write_4 0 rfl ?_
  obtain ⟨k5_1, h⟩ := chk h
  refine g_getR (pc := 5) 11 0 B k5_1 (by decide) (by decide) rfl kfX11_10 dX11_write_5 ?_
  obtain ⟨a8_2, ea8_2, h⟩ := ob h
  rw [ea8_2]
  obtain ⟨k8_3, h⟩ := chk h
  obtain ⟨v8, e8, h⟩ := ob h
  refine h_callV (pc := 8) (As := []) (st := []) (X' := X0) (cs' := 0) (sl' := 0) (st10 := [vI v8]) B cal_X1_length kmX11_94 kn_X1_length ks_X1_length k8_3 (by decide) rfl (fun l hl => ct_X1_length hl e8) rfl (Nat.le_of_ble_eq_true rfl) (by decide) (by decide) dX11_write_8 rfl rfl rfl rfl ?_
  refine g_if_eq (pc := 11) (tgt := 24) B dX11_write_11 (by decide) (fun c11 => ?_) (fun c11 => ?_)
  · rw [if_pos c11] at h
    exact nomatch (Option.some.inj h)
  · rw [if_neg c11] at h
    refine g_aload_n (pc := 14) B dX11_write_14 0 rfl ?_
    refine g_getR (pc := 15) 11 0 B k5_1 (by decide) (by decide) rfl kfX11_10 dX11_write_15 ?_
    obtain ⟨a18_4, ea18_4, h⟩ := ob h
    rw [ea18_4]
    obtain ⟨k18_5, h⟩ := chk h
    obtain ⟨v18, e18, h⟩ := ob h
    refine h_callV (pc := 18) (As := []) (st := []) (X' := X0) (cs' := 0) (sl' := 0) (st10 := [vI v18]) B cal_X1_openBlocks kmX11_77 kn_X1_openBlocks ks_X1_openBlocks k18_5 (by decide) rfl (fun l hl => ct_X1_openBlocks hl e18) rfl (Nat.le_of_ble_eq_true rfl) (by decide) (by decide) dX11_write_18 rfl rfl rfl rfl ?_
    refine g_if_le (pc := 21) (tgt := 34) B dX11_write_21 (by decide) (fun c21 => ?_) (fun c21 => ?_)
    · rw [if_pos c21] at h
      refine g_aload_n (pc := 34) B dX11_write_34 0 rfl ?_
      refine g_getI (pc := 35) 11 8 B k5_1 (by decide) (by decide) rfl kfX11_105 dX11_write_35 ?_
      refine g_istore_n (pc := 38) (L' := [(2, vI (mI X0 1108 x0)), (0, vA (some x0)), (1, vI x1)]) B dX11_write_38 (by decide) rfl ?_
      refine g_iload_n (pc := 39) B dX11_write_39 0 rfl ?_
      refine g_if_lt (pc := 40) (tgt := 52) B dX11_write_40 (by decide) (fun c40 => ?_) (fun c40 => ?_)
      · rw [if_pos c40] at h
        exact nomatch (Option.some.inj h)
      · rw [if_neg c40] at h
        refine g_iload_n (pc := 43) B dX11_write_43 0 rfl ?_
        refine g_aload_n (pc := 44) B dX11_write_44 1 rfl ?_
        refine g_getR (pc := 45) 11 5 B k5_1 (by decide) (by decide) rfl kfX11_46 dX11_write_45 ?_
        obtain ⟨a48_6, ea48_6, h⟩ := ob h
        rw [ea48_6]
        obtain ⟨n48_6, en48_6, h⟩ := ob h
        obtain ⟨tn48_6, kn48_6, qn48_6⟩ := alen_s en48_6
        refine g_alen (pc := 48) B kn48_6 qn48_6 dX11_write_48 ?_
        refine g_icmp_lt (pc := 49) (tgt := 62) B dX11_write_49 (by decide) (fun c49 => ?_) (fun c49 => ?_)
        · rw [if_pos c49] at h
          obtain ⟨q62, eq62, h⟩ := ob h
          obtain ⟨X62, eX62, h⟩ := ob h
          refine n_new (pc := 62) 5 B eX62 eq62 (by decide) kxX11_44 kin5 kiz5 (by decide) (by decide) dX11_write_62 ?_
          refine g_widen (cs' := 1) (sl' := 8) (by decide) (by decide) ?_
          refine g_dup (pc := 65) B dX11_write_65 rfl ?_
          refine g_iload_n (pc := 66) B dX11_write_66 2 rfl ?_
          refine g_aload_n (pc := 67) B dX11_write_67 1 rfl ?_
          obtain ⟨k68_8, h⟩ := chk h
          refine g_getR (pc := 68) 11 0 B k68_8 (by decide) (by decide) rfl kfX11_10 dX11_write_68 ?_
          obtain ⟨X71, e71, h⟩ := ob h
          refine h_callI (pc := 71) (As := [vI x1, vA (mR X62 1100 x0)]) (st := [vA (some q62)]) (X' := X71) (cs' := 12) (sl' := 159) B cal_X5_init kmX11_111 kn_X5_init rfl (fun l hl => ct_X5_init hl e71) rfl (Nat.le_of_ble_eq_true rfl) (by decide) (by decide) dX11_write_71 rfl rfl rfl ?_
          refine g_astore_n (pc := 74) (L' := [(3, vA (some q62)), (2, vI (mI X0 1108 x0)), (0, vA (some x0)), (1, vI x1)]) B dX11_write_74 (by decide) rfl ?_
          refine g_aload_n (pc := 75) B dX11_write_75 2 rfl ?_
          obtain ⟨k76_9, h⟩ := chk h
          refine g_getR (pc := 76) 11 1 B k76_9 (by decide) (by decide) rfl kfX11_19 dX11_write_76 ?_
          refine g_aload_n (pc := 79) B dX11_write_79 0 rfl ?_
          refine g_aload_n (pc := 80) B dX11_write_80 0 rfl ?_
          obtain ⟨k81_10, h⟩ := chk h
          refine g_getRN (pc := 81) 5 5 B k81_10 (by decide) (by decide) rfl kfX11_114 dX11_write_81 ?_
          refine g_sipush (pc := 84) B dX11_write_84 (600 : Int32) (by decide) ?_
          obtain ⟨a87_11, ea87_11, h⟩ := ob h
          rw [ea87_11]
          obtain ⟨k87_12, h⟩ := chk h
          obtain ⟨X87, e87, h⟩ := ob h
          refine h_callV (pc := 87) (As := [vA (some q62), vA (mR X71 505 q62), vI (600 : Int32)]) (st := []) (X' := X87) (cs' := 12) (sl' := 159) (st10 := []) B cal_X7_perform kmX11_117 kn_X7_perform ks_X7_perform k87_12 (by decide) rfl (fun l hl => ct_X7_perform hl e87) rfl (Nat.le_of_ble_eq_true rfl) (by decide) (by decide) dX11_write_87 rfl rfl rfl rfl ?_
          refine g_aload_n (pc := 90) B dX11_write_90 0 rfl ?_
          refine g_aload_n (pc := 91) B dX11_write_91 2 rfl ?_
          obtain ⟨k92_13, h⟩ := chk h
          refine g_getR (pc := 92) 11 1 B k92_13 (by decide) (by decide) rfl kfX11_19 dX11_write_92 ?_
          obtain ⟨a95_14, ea95_14, h⟩ := ob h
          rw [ea95_14]
          obtain ⟨k95_15, h⟩ := chk h
          obtain ⟨v95, e95, h⟩ := ob h
          refine h_callV (pc := 95) (As := []) (st := [vA (some q62)]) (X' := X87) (cs' := 12) (sl' := 159) (st10 := [vI v95, vA (some q62)]) B cal_X7_brokenBy kmX11_121 kn_X7_brokenBy ks_X7_brokenBy k95_15 (by decide) rfl (fun l hl => ct_X7_brokenBy hl e95) rfl (Nat.le_of_ble_eq_true rfl) (by decide) (by decide) dX11_write_95 rfl rfl rfl rfl ?_
          refine g_aload_n (pc := 98) B dX11_write_98 2 rfl ?_
          refine g_getR (pc := 99) 11 1 B k92_13 (by decide) (by decide) rfl kfX11_19 dX11_write_99 ?_
          obtain ⟨a102_16, ea102_16, h⟩ := ob h
          rw [ea102_16]
          obtain ⟨k102_17, h⟩ := chk h
          obtain ⟨v102, e102, h⟩ := ob h
          refine h_callV (pc := 102) (As := []) (st := [vI v95, vA (some q62)]) (X' := X87) (cs' := 12) (sl' := 159) (st10 := [vI v102, vI v95, vA (some q62)]) B cal_X7_counted kmX11_124 kn_X7_counted ks_X7_counted k102_17 (by decide) rfl (fun l hl => ct_X7_counted hl e102) rfl (Nat.le_of_ble_eq_true rfl) (by decide) (by decide) dX11_write_102 rfl rfl rfl rfl ?_
          obtain ⟨k105_18, h⟩ := chk h
          obtain ⟨X105, e105, h⟩ := ob h
          refine h_callV (pc := 105) (As := [vI v95, vI v102]) (st := []) (X' := X105) (cs' := 12) (sl' := 159) (st10 := []) B cal_X5_keepOutcome kmX11_127 kn_X5_keepOutcome ks_X5_keepOutcome k105_18 (by decide) rfl (fun l hl => ct_X5_keepOutcome hl e105) rfl (Nat.le_of_ble_eq_true rfl) (by decide) (by decide) dX11_write_105 rfl rfl rfl rfl ?_
          refine g_aload_n (pc := 108) B dX11_write_108 2 rfl ?_
          obtain ⟨k109_19, h⟩ := chk h
          refine g_getR (pc := 109) 11 5 B k109_19 (by decide) (by decide) rfl kfX11_46 dX11_write_109 ?_
          refine g_iload_n (pc := 112) B dX11_write_112 1 rfl ?_
          refine g_aload_n (pc := 113) B dX11_write_113 0 rfl ?_
          obtain ⟨a114_20, ea114_20, h⟩ := ob h
          rw [ea114_20]
          obtain ⟨c114, h⟩ := chk h
          obtain ⟨nc114, kc114, ic114⟩ := inb_s c114
          obtain ⟨k114_21, h⟩ := chk h
          refine g_aast (pc := 114) (c := 5) B kc114 (by decide) (by decide) k114_21 (by decide) rfl ic114 dX11_write_114 ?_
          refine g_aload_n (pc := 115) B dX11_write_115 2 rfl ?_
          refine g_iload_n (pc := 116) B dX11_write_116 1 rfl ?_
          refine g_iconst (pc := 117) B dX11_write_117 (1 : Int32) (by decide) ?_
          refine g_iadd (pc := 118) B dX11_write_118 ?_
          refine g_putI (pc := 119) 11 8 B k109_19 (by decide) (by decide) rfl rfl kfX11_105 dX11_write_119 ?_
          refine g_aload_n (pc := 122) B dX11_write_122 2 rfl ?_
          refine g_getR (pc := 123) 11 0 B k109_19 (by decide) (by decide) rfl kfX11_10 dX11_write_123 ?_
          obtain ⟨a126_22, ea126_22, h⟩ := ob h
          rw [ea126_22]
          obtain ⟨k126_23, h⟩ := chk h
          obtain ⟨X126, e126, h⟩ := ob h
          refine h_callV (pc := 126) (As := []) (st := []) (X' := X126) (cs' := 12) (sl' := 159) (st10 := []) B cal_X1_makeEmpty kmX11_97 kn_X1_makeEmpty ks_X1_makeEmpty k126_23 (by decide) rfl (fun l hl => ct_X1_makeEmpty hl e126) rfl (Nat.le_of_ble_eq_true rfl) (by decide) (by decide) dX11_write_126 rfl rfl rfl rfl ?_
          refine g_iload_n (pc := 129) B dX11_write_129 1 rfl ?_
          obtain rfl := Sum.inr.inj (Option.some.inj h)
          exact g_ret_I (pc := 130) B rfl (by decide) (by decide) dX11_write_130
        · rw [if_neg c49] at h
          exact nomatch (Option.some.inj h)
    · rw [if_neg c21] at h
      exact nomatch (Option.some.inj h)
theorem ct_X11_write {D : DD} {l : Launch} {X0 : Mem} {fu : Nat} {x0 : Nat} {x1 : Int32} {r : Int32 × Mem} (hl : l.stackTraces = false) (h : fX11_write fu X0 x0 x1 = some (.inr r)) : Ctr D l yX11_write cX11_write 4 (some .int) rmX11_write [vA (some x0), vI x1] X0 (.inr (some (vI r.1))) r.2 :=
  ctr_of hl (plainFor_of_name (by decide)) (Nat.le_of_ble_eq_true rfl) fun ev _ ht B => cb_X11_write_L0 B ht h
set_option maxRecDepth 100000 in
set_option maxHeartbeats 4000000 in
theorem cb_X11_programAt_L30 {D : DD} {ev : EV} {X0 : Mem} {x2 : Option Nat} {r : Option Nat} (B : Amb D (foot X0) ev RX11 "programAt" cX11_programAt 3 (some (.object "TurtleChalk$Program")) rmX11_programAt) (ht : Tb0 ev)  (h : fX11_programAt_L30 X0 x2 = some (.inr r)) : Gd D (foot X0) ev (QF D ev X0 (.inr (some (vA r))) X0 rmX11_programAt) X0 0 0 30 [(2, vA x2)] [] := by
  unfold fX11_programAt_L30 at h
  refine g_aload_n (pc := 30) B dX11_programAt_30 0 rfl ?_
  refine g_ifnonnull (pc := 31) (tgt := 45) B dX11_programAt_31 (by decide) (fun c31 => ?_) (fun c31 => ?_)
  · rw [if_neg c31] at h
    refine g_aload_n (pc := 45) B dX11_programAt_45 0 rfl ?_
    obtain rfl := Sum.inr.inj (Option.some.inj h)
    exact g_ret_A (pc := 46) B rfl (by decide) (by decide) dX11_programAt_46
  · rw [if_pos c31] at h
    exact nomatch (Option.some.inj h)
set_option maxRecDepth 100000 in
set_option maxHeartbeats 4000000 in
theorem cb_X11_programAt_L0 {D : DD} {ev : EV} {X0 : Mem} {x0 : Nat} {x1 : Int32} {r : Option Nat} (B : Amb D (foot X0) ev RX11 "programAt" cX11_programAt 3 (some (.object "TurtleChalk$Program")) rmX11_programAt) (ht : Tb0 ev)  (h : fX11_programAt X0 x0 x1 = some (.inr r)) : Gd D (foot X0) ev (QF D ev X0 (.inr (some (vA r))) X0 rmX11_programAt) X0 0 0 0 [(0, vA (some x0)), (1, vI x1)] [] := by
  unfold fX11_programAt at h
  refine g_null (pc := 0) B dX11_programAt_0 ?_
  refine g_astore_n (pc := 1) (L' := [(2, vA none), (0, vA (some x0)), (1, vI x1)]) B dX11_programAt_1 (by decide) rfl ?_
  refine g_iload_n (pc := 2) B dX11_programAt_2 2 rfl ?_
  refine g_if_lt (pc := 3) (tgt := 30) B dX11_programAt_3 (by decide) (fun c3 => ?_) (fun c3 => ?_)
  · rw [if_pos c3] at h
    refine g_sub (pc := 30) [0] rfl ?_
    exact cb_X11_programAt_L30 B ht h
  · rw [if_neg c3] at h
    refine g_iload_n (pc := 6) B dX11_programAt_6 2 rfl ?_
    refine g_aload_n (pc := 7) B dX11_programAt_7 1 rfl ?_
    obtain ⟨k8_1, h⟩ := chk h
    refine g_getI (pc := 8) 11 8 B k8_1 (by decide) (by decide) rfl kfX11_105 dX11_programAt_8 ?_
    refine g_icmp_ge (pc := 11) (tgt := 30) B dX11_programAt_11 (by decide) (fun c11 => ?_) (fun c11 => ?_)
    · rw [if_pos c11] at h
      refine g_sub (pc := 30) [0] rfl ?_
      exact cb_X11_programAt_L30 B ht h
    · rw [if_neg c11] at h
      refine g_iload_n (pc := 14) B dX11_programAt_14 2 rfl ?_
      refine g_aload_n (pc := 15) B dX11_programAt_15 1 rfl ?_
      refine g_getR (pc := 16) 11 5 B k8_1 (by decide) (by decide) rfl kfX11_46 dX11_programAt_16 ?_
      obtain ⟨a19_2, ea19_2, h⟩ := ob h
      rw [ea19_2]
      obtain ⟨n19_2, en19_2, h⟩ := ob h
      obtain ⟨tn19_2, kn19_2, qn19_2⟩ := alen_s en19_2
      refine g_alen (pc := 19) B kn19_2 qn19_2 dX11_programAt_19 ?_
      refine g_icmp_ge (pc := 20) (tgt := 30) B dX11_programAt_20 (by decide) (fun c20 => ?_) (fun c20 => ?_)
      · rw [if_pos c20] at h
        refine g_sub (pc := 30) [0] rfl ?_
        exact cb_X11_programAt_L30 B ht h
      · rw [if_neg c20] at h
        refine g_aload_n (pc := 23) B dX11_programAt_23 1 rfl ?_
        refine g_getR (pc := 24) 11 5 B k8_1 (by decide) (by decide) rfl kfX11_46 dX11_programAt_24 ?_
        refine g_iload_n (pc := 27) B dX11_programAt_27 2 rfl ?_
        obtain ⟨a28_4, ea28_4, h⟩ := ob h
        rw [ea28_4]
        obtain ⟨c28, h⟩ := chk h
        obtain ⟨nc28, kc28, ic28⟩ := inb_s c28
        refine g_aald (pc := 28) B kc28 (by decide) (by decide) ic28 dX11_programAt_28 ?_
        refine g_astore_n (pc := 29) (L' := [(2, vA (aR X0 a28_4 x1.toNatClampNeg)), (0, vA (some x0)), (1, vI x1)]) B dX11_programAt_29 (by decide) rfl ?_
        refine g_sub (pc := 30) [0] rfl ?_
        exact cb_X11_programAt_L30 B ht h
theorem ct_X11_programAt {D : DD} {l : Launch} {X0 : Mem} {x0 : Nat} {x1 : Int32} {r : Option Nat} (hl : l.stackTraces = false) (h : fX11_programAt X0 x0 x1 = some (.inr r)) : Ctr D l yX11_programAt cX11_programAt 3 (some (.object "TurtleChalk$Program")) rmX11_programAt [vA (some x0), vI x1] X0 (.inr (some (vA r))) X0 :=
  ctr_of hl (plainFor_of_name (by decide)) (Nat.le_of_ble_eq_true rfl) fun ev _ ht B => cb_X11_programAt_L0 B ht h
set_option maxRecDepth 100000 in
set_option maxHeartbeats 4000000 in
theorem cb_X11_checkAllowance_L0 {D : DD} {ev : EV} {X0 : Mem} {x0 : Int32} {x1 : Int32} {r : Unit} (B : Amb D (foot X0) ev RX11 "checkAllowance" cX11_checkAllowance 2 (none) rmX11_checkAllowance) (ht : Tb0 ev)  (h : fX11_checkAllowance X0 x0 x1 = some (.inr r)) : Gd D (foot X0) ev (QF D ev X0 (.inr (none)) X0 rmX11_checkAllowance) X0 0 0 0 [(0, vI x0), (1, vI x1)] [] := by
  unfold fX11_checkAllowance at h
  refine g_iload_n (pc := 0) B dX11_checkAllowance_0 0 rfl ?_
  refine g_iconst (pc := 1) B dX11_checkAllowance_1 (1 : Int32) (by decide) ?_
  refine g_icmp_lt (pc := 2) (tgt := 22) B dX11_checkAllowance_2 (by decide) (fun c2 => ?_) (fun c2 => ?_)
  · rw [if_pos c2] at h
    exact nomatch (Option.some.inj h)
  · rw [if_neg c2] at h
    refine g_iload_n (pc := 5) B dX11_checkAllowance_5 0 rfl ?_
    refine g_bipush (pc := 6) B dX11_checkAllowance_6 (30 : Int32) (by decide) ?_
    refine g_icmp_gt (pc := 8) (tgt := 22) B dX11_checkAllowance_8 (by decide) (fun c8 => ?_) (fun c8 => ?_)
    · rw [if_pos c8] at h
      exact nomatch (Option.some.inj h)
    · rw [if_neg c8] at h
      refine g_iload_n (pc := 11) B dX11_checkAllowance_11 1 rfl ?_
      refine g_if_lt (pc := 12) (tgt := 22) B dX11_checkAllowance_12 (by decide) (fun c12 => ?_) (fun c12 => ?_)
      · rw [if_pos c12] at h
        exact nomatch (Option.some.inj h)
      · rw [if_neg c12] at h
        refine g_iload_n (pc := 15) B dX11_checkAllowance_15 1 rfl ?_
        refine g_sipush (pc := 16) B dX11_checkAllowance_16 (600 : Int32) (by decide) ?_
        refine g_icmp_le (pc := 19) (tgt := 33) B dX11_checkAllowance_19 (by decide) (fun c19 => ?_) (fun c19 => ?_)
        · rw [if_pos c19] at h
          obtain rfl := Sum.inr.inj (Option.some.inj h)
          exact g_ret_V (pc := 33) B rfl (by decide) (by decide) dX11_checkAllowance_33
        · rw [if_neg c19] at h
          exact nomatch (Option.some.inj h)
theorem ct_X11_checkAllowance {D : DD} {l : Launch} {X0 : Mem} {x0 : Int32} {x1 : Int32} {r : Unit} (hl : l.stackTraces = false) (h : fX11_checkAllowance X0 x0 x1 = some (.inr r)) : Ctr D l yX11_checkAllowance cX11_checkAllowance 2 (none) rmX11_checkAllowance [vI x0, vI x1] X0 (.inr (none)) X0 :=
  ctr_of hl (plainFor_of_name (by decide)) (Nat.le_of_ble_eq_true rfl) fun ev _ ht B => cb_X11_checkAllowance_L0 B ht h
set_option maxRecDepth 100000 in
set_option maxHeartbeats 4000000 in
theorem cb_X3_init_L0 {D : DD} {ev : EV} {X0 : Mem} {X : Mem} {x0 : Nat} {x1 : Option Nat} {x2 : Int32} {x3 : Int32} {r : Mem} (B : Amb D (foot X0) ev RX3 "<init>" cX3_init 4 (none) rmX3_init) (ht : Tb0 ev)  (h : fX3_init X x0 x1 x2 x3 = some r) : Gd D (foot X0) ev (QF D ev X0 (.inr (none)) r rmX3_init) X 0 0 0 [(0, vA (some x0)), (1, vA x1), (2, vI x2), (3, vI x3)] [] := by
  unfold fX3_init at h
  refine g_aload_n (pc := 0) B dX3_init_0 0 rfl ?_
  refine g_objInit (pc := 1) B kmX3_3 kon koc (Nat.le_of_ble_eq_true rfl) (by decide) dX3_init_1 ?_
  refine g_aload_n (pc := 4) B dX3_init_4 0 rfl ?_
  refine g_aload_n (pc := 5) B dX3_init_5 1 rfl ?_
  obtain ⟨k6_1, h⟩ := chk h
  refine g_putRF (pc := 6) 3 0 B k6_1 (by decide) (by decide) rfl rfl rfl rfl kfX3_9 dX3_init_6 ?_
  refine g_aload_n (pc := 9) B dX3_init_9 0 rfl ?_
  refine g_iload_n (pc := 10) B dX3_init_10 2 rfl ?_
  refine g_putI (pc := 11) 3 1 B k6_1 (by decide) (by decide) rfl rfl kfX3_15 dX3_init_11 ?_
  refine g_aload_n (pc := 14) B dX3_init_14 0 rfl ?_
  refine g_iload_n (pc := 15) B dX3_init_15 3 rfl ?_
  refine g_putI (pc := 16) 3 2 B k6_1 (by decide) (by decide) rfl rfl kfX3_19 dX3_init_16 ?_
  obtain rfl := Option.some.inj h
  exact g_ret_V (pc := 19) B rfl (by decide) (by decide) dX3_init_19
theorem ct_X3_init {D : DD} {l : Launch} {X0 : Mem} {x0 : Nat} {x1 : Option Nat} {x2 : Int32} {x3 : Int32} {r : Mem} (hl : l.stackTraces = false) (h : fX3_init X0 x0 x1 x2 x3 = some r) : Ctr D l yX3_init cX3_init 4 (none) rmX3_init [vA (some x0), vA x1, vI x2, vI x3] X0 (.inr (none)) r :=
  ctr_of hl (plainFor_of_name (by decide)) (Nat.le_of_ble_eq_true rfl) fun ev _ ht B => cb_X3_init_L0 B ht h
set_option maxRecDepth 100000 in
set_option maxHeartbeats 4000000 in
theorem cb_X11_exercise_L0 {D : DD} {ev : EV} {X0 : Mem} {x0 : Nat} {x1 : Int32} {x2 : Int32} {x3 : Int32} {r : Int32 × Mem} (B : Amb D (foot X0) ev RX11 "exercise" cX11_exercise 6 (some .int) rmX11_exercise) (ht : Tb0 ev)  (h : fX11_exercise X0 x0 x1 x2 x3 = some (.inr r)) : Gd D (foot X0) ev (QF D ev X0 (.inr (some (vI r.1))) r.2 rmX11_exercise) X0 0 0 0 [(0, vA (some x0)), (1, vI x1), (2, vI x2), (3, vI x3)] [] := by
  unfold fX11_exercise at h
  refine g_aload_n (pc := 0) B dX11_exercise_0 0 rfl ?_
  refine g_iload_n (pc := 1) B dX11_exercise_1 1 rfl ?_
  obtain ⟨k2_1, h⟩ := chk h
  rcases bE_c h with ⟨E2, e2, hr2⟩ | ⟨v2, e2, h⟩
  · exact nomatch hr2
  refine h_callV (pc := 2) (As := [vI x1]) (st := []) (X' := X0) (cs' := 0) (sl' := 0) (st10 := [vA v2]) B cal_X11_programAt kmX11_131 kn_X11_programAt ks_X11_programAt k2_1 (by decide) rfl (fun l hl => ct_X11_programAt hl e2) rfl (Nat.le_of_ble_eq_true rfl) (by decide) (by decide) dX11_exercise_2 rfl rfl rfl rfl ?_
  refine g_astore (pc := 5) (L' := [(4, vA v2), (0, vA (some x0)), (1, vI x1), (2, vI x2), (3, vI x3)]) B dX11_exercise_5 (by decide) rfl ?_
  refine g_iload_n (pc := 7) B dX11_exercise_7 3 rfl ?_
  refine g_iload_n (pc := 8) B dX11_exercise_8 4 rfl ?_
  rcases bE_c h with ⟨E9, e9, hr9⟩ | ⟨v9, e9, h⟩
  · exact nomatch hr9
  refine h_callS (pc := 9) (As := [vI x2, vI x3]) (st := []) (X' := X0) (cs' := 0) (sl' := 0) (st10 := []) B cal_X11_checkAllowance kmX11_135 kz_X11_checkAllowance (fun l hl => ct_X11_checkAllowance hl e9) rfl (Nat.le_of_ble_eq_true rfl) (by decide) (by decide) dX11_exercise_9 rfl rfl rfl rfl ?_
  refine g_aload_n (pc := 12) B dX11_exercise_12 1 rfl ?_
  refine g_getI (pc := 13) 11 9 B k2_1 (by decide) (by decide) rfl kfX11_138 dX11_exercise_13 ?_
  refine g_istore (pc := 16) (L' := [(5, vI (mI X0 1109 x0)), (4, vA v2), (0, vA (some x0)), (1, vI x1), (2, vI x2), (3, vI x3)]) B dX11_exercise_16 (by decide) rfl ?_
  refine g_iload (pc := 18) B dX11_exercise_18 0 rfl ?_
  refine g_if_lt (pc := 20) (tgt := 33) B dX11_exercise_20 (by decide) (fun c20 => ?_) (fun c20 => ?_)
  · rw [if_pos c20] at h
    exact nomatch (Option.some.inj h)
  · rw [if_neg c20] at h
    refine g_iload (pc := 23) B dX11_exercise_23 0 rfl ?_
    refine g_aload_n (pc := 25) B dX11_exercise_25 2 rfl ?_
    refine g_getR (pc := 26) 11 6 B k2_1 (by decide) (by decide) rfl kfX11_52 dX11_exercise_26 ?_
    obtain ⟨a29_2, ea29_2, h⟩ := ob h
    rw [ea29_2]
    obtain ⟨n29_2, en29_2, h⟩ := ob h
    obtain ⟨tn29_2, kn29_2, qn29_2⟩ := alen_s en29_2
    refine g_alen (pc := 29) B kn29_2 qn29_2 dX11_exercise_29 ?_
    refine g_icmp_lt (pc := 30) (tgt := 43) B dX11_exercise_30 (by decide) (fun c30 => ?_) (fun c30 => ?_)
    · rw [if_pos c30] at h
      refine g_aload_n (pc := 43) B dX11_exercise_43 2 rfl ?_
      refine g_getR (pc := 44) 11 6 B k2_1 (by decide) (by decide) rfl kfX11_52 dX11_exercise_44 ?_
      refine g_iload (pc := 47) B dX11_exercise_47 0 rfl ?_
      obtain ⟨q49, eq49, h⟩ := ob h
      obtain ⟨X49, eX49, h⟩ := ob h
      refine n_new (pc := 49) 3 B eX49 eq49 (by decide) kxX11_50 kin3 kiz3 (by decide) (by decide) dX11_exercise_49 ?_
      refine g_widen (cs' := 1) (sl' := 3) (by decide) (by decide) ?_
      refine g_dup (pc := 52) B dX11_exercise_52 rfl ?_
      refine g_aload (pc := 53) B dX11_exercise_53 1 rfl ?_
      refine g_iload_n (pc := 55) B dX11_exercise_55 4 rfl ?_
      refine g_iload_n (pc := 56) B dX11_exercise_56 5 rfl ?_
      obtain ⟨X57, e57, h⟩ := ob h
      refine h_callI (pc := 57) (As := [vA v2, vI x2, vI x3]) (st := [vA (some q49), vI (mI X0 1109 x0), vA (mR X0 1106 x0)]) (X' := X57) (cs' := 1) (sl' := 3) B cal_X3_init kmX11_143 kn_X3_init rfl (fun l hl => ct_X3_init hl e57) rfl (Nat.le_of_ble_eq_true rfl) (by decide) (by decide) dX11_exercise_57 rfl rfl rfl ?_
      obtain ⟨a60_4, ea60_4, h⟩ := ob h
      rw [ea60_4]
      obtain ⟨c60, h⟩ := chk h
      obtain ⟨nc60, kc60, ic60⟩ := inb_s c60
      obtain ⟨k60_5, h⟩ := chk h
      refine g_aast (pc := 60) (c := 3) B kc60 (by decide) (by decide) k60_5 (by decide) rfl ic60 dX11_exercise_60 ?_
      refine g_aload_n (pc := 61) B dX11_exercise_61 2 rfl ?_
      refine g_iload (pc := 62) B dX11_exercise_62 0 rfl ?_
      refine g_iconst (pc := 64) B dX11_exercise_64 (1 : Int32) (by decide) ?_
      refine g_iadd (pc := 65) B dX11_exercise_65 ?_
      obtain ⟨k66_6, h⟩ := chk h
      refine g_putI (pc := 66) 11 9 B k66_6 (by decide) (by decide) rfl rfl kfX11_138 dX11_exercise_66 ?_
      refine g_iload (pc := 69) B dX11_exercise_69 0 rfl ?_
      obtain rfl := Sum.inr.inj (Option.some.inj h)
      exact g_ret_I (pc := 71) B rfl (by decide) (by decide) dX11_exercise_71
    · rw [if_neg c30] at h
      exact nomatch (Option.some.inj h)
theorem ct_X11_exercise {D : DD} {l : Launch} {X0 : Mem} {x0 : Nat} {x1 : Int32} {x2 : Int32} {x3 : Int32} {r : Int32 × Mem} (hl : l.stackTraces = false) (h : fX11_exercise X0 x0 x1 x2 x3 = some (.inr r)) : Ctr D l yX11_exercise cX11_exercise 6 (some .int) rmX11_exercise [vA (some x0), vI x1, vI x2, vI x3] X0 (.inr (some (vI r.1))) r.2 :=
  ctr_of hl (plainFor_of_name (by decide)) (Nat.le_of_ble_eq_true rfl) fun ev _ ht B => cb_X11_exercise_L0 B ht h
set_option maxRecDepth 100000 in
set_option maxHeartbeats 4000000 in
theorem cb_X11_exerciseAt_L30 {D : DD} {ev : EV} {X0 : Mem} {x2 : Option Nat} {r : Option Nat} (B : Amb D (foot X0) ev RX11 "exerciseAt" cX11_exerciseAt 3 (some (.object "TurtleChalk$Exercise")) rmX11_exerciseAt) (ht : Tb0 ev)  (h : fX11_exerciseAt_L30 X0 x2 = some (.inr r)) : Gd D (foot X0) ev (QF D ev X0 (.inr (some (vA r))) X0 rmX11_exerciseAt) X0 0 0 30 [(2, vA x2)] [] := by
  unfold fX11_exerciseAt_L30 at h
  refine g_aload_n (pc := 30) B dX11_exerciseAt_30 0 rfl ?_
  refine g_ifnonnull (pc := 31) (tgt := 45) B dX11_exerciseAt_31 (by decide) (fun c31 => ?_) (fun c31 => ?_)
  · rw [if_neg c31] at h
    refine g_aload_n (pc := 45) B dX11_exerciseAt_45 0 rfl ?_
    obtain rfl := Sum.inr.inj (Option.some.inj h)
    exact g_ret_A (pc := 46) B rfl (by decide) (by decide) dX11_exerciseAt_46
  · rw [if_pos c31] at h
    exact nomatch (Option.some.inj h)
set_option maxRecDepth 100000 in
set_option maxHeartbeats 4000000 in
theorem cb_X11_exerciseAt_L0 {D : DD} {ev : EV} {X0 : Mem} {x0 : Nat} {x1 : Int32} {r : Option Nat} (B : Amb D (foot X0) ev RX11 "exerciseAt" cX11_exerciseAt 3 (some (.object "TurtleChalk$Exercise")) rmX11_exerciseAt) (ht : Tb0 ev)  (h : fX11_exerciseAt X0 x0 x1 = some (.inr r)) : Gd D (foot X0) ev (QF D ev X0 (.inr (some (vA r))) X0 rmX11_exerciseAt) X0 0 0 0 [(0, vA (some x0)), (1, vI x1)] [] := by
  unfold fX11_exerciseAt at h
  refine g_null (pc := 0) B dX11_exerciseAt_0 ?_
  refine g_astore_n (pc := 1) (L' := [(2, vA none), (0, vA (some x0)), (1, vI x1)]) B dX11_exerciseAt_1 (by decide) rfl ?_
  refine g_iload_n (pc := 2) B dX11_exerciseAt_2 2 rfl ?_
  refine g_if_lt (pc := 3) (tgt := 30) B dX11_exerciseAt_3 (by decide) (fun c3 => ?_) (fun c3 => ?_)
  · rw [if_pos c3] at h
    refine g_sub (pc := 30) [0] rfl ?_
    exact cb_X11_exerciseAt_L30 B ht h
  · rw [if_neg c3] at h
    refine g_iload_n (pc := 6) B dX11_exerciseAt_6 2 rfl ?_
    refine g_aload_n (pc := 7) B dX11_exerciseAt_7 1 rfl ?_
    obtain ⟨k8_1, h⟩ := chk h
    refine g_getI (pc := 8) 11 9 B k8_1 (by decide) (by decide) rfl kfX11_138 dX11_exerciseAt_8 ?_
    refine g_icmp_ge (pc := 11) (tgt := 30) B dX11_exerciseAt_11 (by decide) (fun c11 => ?_) (fun c11 => ?_)
    · rw [if_pos c11] at h
      refine g_sub (pc := 30) [0] rfl ?_
      exact cb_X11_exerciseAt_L30 B ht h
    · rw [if_neg c11] at h
      refine g_iload_n (pc := 14) B dX11_exerciseAt_14 2 rfl ?_
      refine g_aload_n (pc := 15) B dX11_exerciseAt_15 1 rfl ?_
      refine g_getR (pc := 16) 11 6 B k8_1 (by decide) (by decide) rfl kfX11_52 dX11_exerciseAt_16 ?_
      obtain ⟨a19_2, ea19_2, h⟩ := ob h
      rw [ea19_2]
      obtain ⟨n19_2, en19_2, h⟩ := ob h
      obtain ⟨tn19_2, kn19_2, qn19_2⟩ := alen_s en19_2
      refine g_alen (pc := 19) B kn19_2 qn19_2 dX11_exerciseAt_19 ?_
      refine g_icmp_ge (pc := 20) (tgt := 30) B dX11_exerciseAt_20 (by decide) (fun c20 => ?_) (fun c20 => ?_)
      · rw [if_pos c20] at h
        refine g_sub (pc := 30) [0] rfl ?_
        exact cb_X11_exerciseAt_L30 B ht h
      · rw [if_neg c20] at h
        refine g_aload_n (pc := 23) B dX11_exerciseAt_23 1 rfl ?_
        refine g_getR (pc := 24) 11 6 B k8_1 (by decide) (by decide) rfl kfX11_52 dX11_exerciseAt_24 ?_
        refine g_iload_n (pc := 27) B dX11_exerciseAt_27 2 rfl ?_
        obtain ⟨a28_4, ea28_4, h⟩ := ob h
        rw [ea28_4]
        obtain ⟨c28, h⟩ := chk h
        obtain ⟨nc28, kc28, ic28⟩ := inb_s c28
        refine g_aald (pc := 28) B kc28 (by decide) (by decide) ic28 dX11_exerciseAt_28 ?_
        refine g_astore_n (pc := 29) (L' := [(2, vA (aR X0 a28_4 x1.toNatClampNeg)), (0, vA (some x0)), (1, vI x1)]) B dX11_exerciseAt_29 (by decide) rfl ?_
        refine g_sub (pc := 30) [0] rfl ?_
        exact cb_X11_exerciseAt_L30 B ht h
theorem ct_X11_exerciseAt {D : DD} {l : Launch} {X0 : Mem} {x0 : Nat} {x1 : Int32} {r : Option Nat} (hl : l.stackTraces = false) (h : fX11_exerciseAt X0 x0 x1 = some (.inr r)) : Ctr D l yX11_exerciseAt cX11_exerciseAt 3 (some (.object "TurtleChalk$Exercise")) rmX11_exerciseAt [vA (some x0), vI x1] X0 (.inr (some (vA r))) X0 :=
  ctr_of hl (plainFor_of_name (by decide)) (Nat.le_of_ble_eq_true rfl) fun ev _ ht B => cb_X11_exerciseAt_L0 B ht h
set_option maxRecDepth 100000 in
set_option maxHeartbeats 4000000 in
theorem cb_X3_allowAtMost_L0 {D : DD} {ev : EV} {X0 : Mem} {X : Mem} {x0 : Nat} {x1 : Int32} {x2 : Int32} {r : Mem} (B : Amb D (foot X0) ev RX3 "allowAtMost" cX3_allowAtMost 3 (none) rmX3_allowAtMost) (ht : Tb0 ev)  (h : fX3_allowAtMost X x0 x1 x2 = some r) : Gd D (foot X0) ev (QF D ev X0 (.inr (none)) r rmX3_allowAtMost) X 0 0 0 [(0, vA (some x0)), (1, vI x1), (2, vI x2)] [] := by
  unfold fX3_allowAtMost at h
  refine g_aload_n (pc := 0) B dX3_allowAtMost_0 0 rfl ?_
  refine g_iload_n (pc := 1) B dX3_allowAtMost_1 1 rfl ?_
  obtain ⟨k2_1, h⟩ := chk h
  refine g_putI (pc := 2) 3 1 B k2_1 (by decide) (by decide) rfl rfl kfX3_15 dX3_allowAtMost_2 ?_
  refine g_aload_n (pc := 5) B dX3_allowAtMost_5 0 rfl ?_
  refine g_iload_n (pc := 6) B dX3_allowAtMost_6 2 rfl ?_
  refine g_putI (pc := 7) 3 2 B k2_1 (by decide) (by decide) rfl rfl kfX3_19 dX3_allowAtMost_7 ?_
  obtain rfl := Option.some.inj h
  exact g_ret_V (pc := 10) B rfl (by decide) (by decide) dX3_allowAtMost_10
theorem ct_X3_allowAtMost {D : DD} {l : Launch} {X0 : Mem} {x0 : Nat} {x1 : Int32} {x2 : Int32} {r : Mem} (hl : l.stackTraces = false) (h : fX3_allowAtMost X0 x0 x1 x2 = some r) : Ctr D l yX3_allowAtMost cX3_allowAtMost 3 (none) rmX3_allowAtMost [vA (some x0), vI x1, vI x2] X0 (.inr (none)) r :=
  ctr_of hl (plainFor_of_name (by decide)) (Nat.le_of_ble_eq_true rfl) fun ev _ ht B => cb_X3_allowAtMost_L0 B ht h
set_option maxRecDepth 100000 in
set_option maxHeartbeats 4000000 in
theorem cb_X9_makeEmpty_L2b {D : DD} {ev : EV} {X0 : Mem} {fu : Nat} {rec2 : Mem → Nat → Int32 → Option (Mem)} {X : Mem} {x0 : Nat} {x1 : Int32} {r : Mem} (B : Amb D (foot X0) ev RX9 "makeEmpty" cX9_makeEmpty 2 (none) rmX9_makeEmpty) (ht : Tb0 ev) (hrec2 : ∀ {X : Mem} {x0 : Nat} {x1 : Int32} {r : Mem}, rec2 X x0 x1 = some r → Gd D (foot X0) ev (QF D ev X0 (.inr (none)) r rmX9_makeEmpty) X 0 0 2 [(0, vA (some x0)), (1, vI x1)] []) (h : fX9_makeEmpty_L2b fu rec2 X x0 x1 = some r) : Gd D (foot X0) ev (QF D ev X0 (.inr (none)) r rmX9_makeEmpty) X 0 0 2 [(0, vA (some x0)), (1, vI x1)] [] := by
  unfold fX9_makeEmpty_L2b at h
  refine g_iload_n (pc := 2) B dX9_makeEmpty_2 1 rfl ?_
  refine g_aload_n (pc := 3) B dX9_makeEmpty_3 0 rfl ?_
  obtain ⟨k4_1, h⟩ := chk h
  refine g_getR (pc := 4) 9 0 B k4_1 (by decide) (by decide) rfl kfX9_9 dX9_makeEmpty_4 ?_
  obtain ⟨a7_2, ea7_2, h⟩ := ob h
  rw [ea7_2]
  obtain ⟨n7_2, en7_2, h⟩ := ob h
  obtain ⟨tn7_2, kn7_2, qn7_2⟩ := alen_s en7_2
  refine g_alen (pc := 7) B kn7_2 qn7_2 dX9_makeEmpty_7 ?_
  refine g_icmp_ge (pc := 8) (tgt := 24) B dX9_makeEmpty_8 (by decide) (fun c8 => ?_) (fun c8 => ?_)
  · rw [if_pos c8] at h
    obtain rfl := Option.some.inj h
    exact g_ret_V (pc := 24) B rfl (by decide) (by decide) dX9_makeEmpty_24
  · rw [if_neg c8] at h
    refine g_aload_n (pc := 11) B dX9_makeEmpty_11 0 rfl ?_
    refine g_getR (pc := 12) 9 0 B k4_1 (by decide) (by decide) rfl kfX9_9 dX9_makeEmpty_12 ?_
    refine g_iload_n (pc := 15) B dX9_makeEmpty_15 1 rfl ?_
    refine g_lconst (pc := 16) B dX9_makeEmpty_16 (0 : Int64) (by decide) ?_
    obtain ⟨a17_4, ea17_4, h⟩ := ob h
    rw [ea17_4]
    obtain ⟨c17, h⟩ := chk h
    obtain ⟨nc17, kc17, ic17⟩ := inb_s c17
    refine g_last (pc := 17) B kc17 ic17 dX9_makeEmpty_17 ?_
    refine g_iinc (pc := 18) (v := (x1 + (1 : Int32))) (L' := [(1, vI (x1 + (1 : Int32))), (0, vA (some x0))]) B dX9_makeEmpty_18 (by decide) 1 rfl rfl rfl ?_
    refine g_goto (pc := 21) (tgt := 2) B dX9_makeEmpty_21 (by decide) ?_
    refine g_sub (pc := 2) [1, 0] rfl ?_
    exact hrec2 h
theorem cb_X9_makeEmpty_L2n {D : DD} {ev : EV} {X0 : Mem} {fu : Nat} (B : Amb D (foot X0) ev RX9 "makeEmpty" cX9_makeEmpty 2 (none) rmX9_makeEmpty) (ht : Tb0 ev)  : ∀ (n : Nat) {X : Mem} {x0 : Nat} {x1 : Int32} {r : Mem}, fX9_makeEmpty_L2 fu n X x0 x1 = some r → Gd D (foot X0) ev (QF D ev X0 (.inr (none)) r rmX9_makeEmpty) X 0 0 2 [(0, vA (some x0)), (1, vI x1)] [] := by
  intro n
  induction n with
  | zero => intro X x0 x1 r h; exact nomatch h
  | succ n ih => intro X x0 x1 r h; exact cb_X9_makeEmpty_L2b (fu := fu) B ht (fun h9 => ih h9) h
theorem cb_X9_makeEmpty_L2 {D : DD} {ev : EV} {X0 : Mem} {fu : Nat} {X : Mem} {x0 : Nat} {x1 : Int32} {n : Nat} {r : Mem} (B : Amb D (foot X0) ev RX9 "makeEmpty" cX9_makeEmpty 2 (none) rmX9_makeEmpty) (ht : Tb0 ev)  (h : fX9_makeEmpty_L2 fu n X x0 x1 = some r) : Gd D (foot X0) ev (QF D ev X0 (.inr (none)) r rmX9_makeEmpty) X 0 0 2 [(0, vA (some x0)), (1, vI x1)] [] := cb_X9_makeEmpty_L2n B ht n h
set_option maxRecDepth 100000 in
set_option maxHeartbeats 4000000 in
theorem cb_X9_makeEmpty_L0 {D : DD} {ev : EV} {X0 : Mem} {fu : Nat} {X : Mem} {x0 : Nat} {r : Mem} (B : Amb D (foot X0) ev RX9 "makeEmpty" cX9_makeEmpty 2 (none) rmX9_makeEmpty) (ht : Tb0 ev)  (h : fX9_makeEmpty fu X x0 = some r) : Gd D (foot X0) ev (QF D ev X0 (.inr (none)) r rmX9_makeEmpty) X 0 0 0 [(0, vA (some x0))] [] := by
  unfold fX9_makeEmpty at h
  refine g_iconst (pc := 0) B dX9_makeEmpty_0 (0 : Int32) (by decide) ?_
  refine g_istore_n (pc := 1) (L' := [(1, vI (0 : Int32)), (0, vA (some x0))]) B dX9_makeEmpty_1 (by decide) rfl ?_
  refine g_sub (pc := 2) [1, 0] rfl ?_
  exact cb_X9_makeEmpty_L2 B ht h
theorem ct_X9_makeEmpty {D : DD} {l : Launch} {X0 : Mem} {fu : Nat} {x0 : Nat} {r : Mem} (hl : l.stackTraces = false) (h : fX9_makeEmpty fu X0 x0 = some r) : Ctr D l yX9_makeEmpty cX9_makeEmpty 2 (none) rmX9_makeEmpty [vA (some x0)] X0 (.inr (none)) r :=
  ctr_of hl (plainFor_of_name (by decide)) (Nat.le_of_ble_eq_true rfl) fun ev _ ht B => cb_X9_makeEmpty_L0 B ht h
set_option maxRecDepth 100000 in
set_option maxHeartbeats 4000000 in
theorem cb_X2_rowInCorner_L0 {D : DD} {ev : EV} {X0 : Mem} {x0 : Nat} {x1 : Option Nat} {x2 : Int32} {r : Int32} (B : Amb D (foot X0) ev RX2 "rowInCorner" cX2_rowInCorner 4 (some .int) rmX2_rowInCorner) (ht : Tb0 ev)  (h : fX2_rowInCorner X0 x0 x1 x2 = some r) : Gd D (foot X0) ev (QF D ev X0 (.inr (some (vI r))) X0 rmX2_rowInCorner) X0 0 0 0 [(0, vA (some x0)), (1, vA x1), (2, vI x2)] [] := by
  unfold fX2_rowInCorner at h
  refine g_aload_n (pc := 0) B dX2_rowInCorner_0 0 rfl ?_
  obtain ⟨k1_1, h⟩ := chk h
  refine g_getI (pc := 1) 2 4 B k1_1 (by decide) (by decide) rfl kfX2_33 dX2_rowInCorner_1 ?_
  refine g_iload_n (pc := 4) B dX2_rowInCorner_4 2 rfl ?_
  refine g_iadd (pc := 5) B dX2_rowInCorner_5 ?_
  refine g_istore_n (pc := 6) (L' := [(3, vI ((mI X0 204 x0) + x2)), (0, vA (some x0)), (1, vA x1), (2, vI x2)]) B dX2_rowInCorner_6 (by decide) rfl ?_
  refine g_aload_n (pc := 7) B dX2_rowInCorner_7 1 rfl ?_
  refine g_getI (pc := 8) 2 3 B k1_1 (by decide) (by decide) rfl kfX2_30 dX2_rowInCorner_8 ?_
  obtain ⟨v11, e11, h⟩ := ob h
  refine h_callSN (pc := 11) (As := [vI (mI X0 203 x0)]) (st := []) (X' := X0) (cs' := 0) (sl' := 0) (st10 := [vI v11]) B cal_X11_isOnGround kmX2_22 kz_X11_isOnGround (fun l hl => ct_X11_isOnGround hl e11) rfl (Nat.le_of_ble_eq_true rfl) (by decide) (by decide) dX2_rowInCorner_11 rfl rfl rfl rfl ?_
  refine g_if_eq (pc := 14) (tgt := 38) B dX2_rowInCorner_14 (by decide) (fun c14 => ?_) (fun c14 => ?_)
  · rw [if_pos c14] at h
    refine g_iconst (pc := 38) B dX2_rowInCorner_38 (0 : Int32) (by decide) ?_
    obtain rfl := Option.some.inj h
    exact g_ret_I (pc := 39) B rfl (by decide) (by decide) dX2_rowInCorner_39
  · rw [if_neg c14] at h
    refine g_iload_n (pc := 17) B dX2_rowInCorner_17 0 rfl ?_
    refine g_if_lt (pc := 18) (tgt := 38) B dX2_rowInCorner_18 (by decide) (fun c18 => ?_) (fun c18 => ?_)
    · rw [if_pos c18] at h
      refine g_iconst (pc := 38) B dX2_rowInCorner_38 (0 : Int32) (by decide) ?_
      obtain rfl := Option.some.inj h
      exact g_ret_I (pc := 39) B rfl (by decide) (by decide) dX2_rowInCorner_39
    · rw [if_neg c18] at h
      refine g_iload_n (pc := 21) B dX2_rowInCorner_21 0 rfl ?_
      refine g_aload_n (pc := 22) B dX2_rowInCorner_22 2 rfl ?_
      obtain ⟨a23_2, ea23_2, h⟩ := ob h
      rw [ea23_2]
      obtain ⟨n23_2, en23_2, h⟩ := ob h
      obtain ⟨tn23_2, kn23_2, qn23_2⟩ := alen_s en23_2
      refine g_alen (pc := 23) B kn23_2 qn23_2 dX2_rowInCorner_23 ?_
      refine g_icmp_ge (pc := 24) (tgt := 38) B dX2_rowInCorner_24 (by decide) (fun c24 => ?_) (fun c24 => ?_)
      · rw [if_pos c24] at h
        refine g_iconst (pc := 38) B dX2_rowInCorner_38 (0 : Int32) (by decide) ?_
        obtain rfl := Option.some.inj h
        exact g_ret_I (pc := 39) B rfl (by decide) (by decide) dX2_rowInCorner_39
      · rw [if_neg c24] at h
        refine g_aload_n (pc := 27) B dX2_rowInCorner_27 2 rfl ?_
        refine g_iload_n (pc := 28) B dX2_rowInCorner_28 0 rfl ?_
        obtain ⟨c29, h⟩ := chk h
        obtain ⟨nc29, kc29, ic29⟩ := inb_s c29
        refine g_iald (pc := 29) B kc29 ic29 dX2_rowInCorner_29 ?_
        refine g_aload_n (pc := 30) B dX2_rowInCorner_30 1 rfl ?_
        refine g_getI (pc := 31) 2 3 B k1_1 (by decide) (by decide) rfl kfX2_30 dX2_rowInCorner_31 ?_
        refine g_ishr (pc := 34) B dX2_rowInCorner_34 ?_
        refine g_goto (pc := 35) (tgt := 39) B dX2_rowInCorner_35 (by decide) ?_
        obtain rfl := Option.some.inj h
        exact g_ret_I (pc := 39) B rfl (by decide) (by decide) dX2_rowInCorner_39
theorem ct_X2_rowInCorner {D : DD} {l : Launch} {X0 : Mem} {x0 : Nat} {x1 : Option Nat} {x2 : Int32} {r : Int32} (hl : l.stackTraces = false) (h : fX2_rowInCorner X0 x0 x1 x2 = some r) : Ctr D l yX2_rowInCorner cX2_rowInCorner 4 (some .int) rmX2_rowInCorner [vA (some x0), vA x1, vI x2] X0 (.inr (some (vI r))) X0 :=
  ctr_of hl (plainFor_of_name (by decide)) (Nat.le_of_ble_eq_true rfl) fun ev _ ht B => cb_X2_rowInCorner_L0 B ht h
set_option maxRecDepth 100000 in
set_option maxHeartbeats 4000000 in
theorem cb_X2_isShiftOf_L24b {D : DD} {ev : EV} {X0 : Mem} {fu : Nat} {rec24 : Nat → Nat → Int32 → Option (Int32)} {x0 : Nat} {x1 : Nat} {x2 : Int32} {r : Int32} (B : Amb D (foot X0) ev RX2 "isShiftOf" cX2_isShiftOf 3 (some .boolean) rmX2_isShiftOf) (ht : Tb0 ev) (hrec24 : ∀ {x0 : Nat} {x1 : Nat} {x2 : Int32} {r : Int32}, rec24 x0 x1 x2 = some r → Gd D (foot X0) ev (QF D ev X0 (.inr (some (vI r))) X0 rmX2_isShiftOf) X0 0 0 24 [(0, vA (some x0)), (1, vA (some x1)), (2, vI x2)] []) (h : fX2_isShiftOf_L24b fu X0 rec24 x0 x1 x2 = some r) : Gd D (foot X0) ev (QF D ev X0 (.inr (some (vI r))) X0 rmX2_isShiftOf) X0 0 0 24 [(0, vA (some x0)), (1, vA (some x1)), (2, vI x2)] [] := by
  unfold fX2_isShiftOf_L24b at h
  refine g_iload_n (pc := 24) B dX2_isShiftOf_24 2 rfl ?_
  refine g_bipush (pc := 25) B dX2_isShiftOf_25 (16 : Int32) (by decide) ?_
  refine g_icmp_ge (pc := 27) (tgt := 80) B dX2_isShiftOf_27 (by decide) (fun c27 => ?_) (fun c27 => ?_)
  · rw [if_pos c27] at h
    refine g_iconst (pc := 80) B dX2_isShiftOf_80 (1 : Int32) (by decide) ?_
    obtain rfl := Option.some.inj h
    exact g_ret_Z (pc := 81) B rfl (Or.inr rfl) (by decide) (by decide) dX2_isShiftOf_81
  · rw [if_neg c27] at h
    refine g_aload_n (pc := 30) B dX2_isShiftOf_30 0 rfl ?_
    refine g_aload_n (pc := 31) B dX2_isShiftOf_31 0 rfl ?_
    obtain ⟨k32_1, h⟩ := chk h
    refine g_getR (pc := 32) 2 0 B k32_1 (by decide) (by decide) rfl kfX2_9 dX2_isShiftOf_32 ?_
    refine g_iload_n (pc := 35) B dX2_isShiftOf_35 2 rfl ?_
    obtain ⟨v36, e36, h⟩ := ob h
    refine h_callV (pc := 36) (As := [vA (mR X0 200 x0), vI x2]) (st := []) (X' := X0) (cs' := 0) (sl' := 0) (st10 := [vI v36]) B cal_X2_rowInCorner kmX2_42 kn_X2_rowInCorner ks_X2_rowInCorner k32_1 (by decide) rfl (fun l hl => ct_X2_rowInCorner hl e36) rfl (Nat.le_of_ble_eq_true rfl) (by decide) (by decide) dX2_isShiftOf_36 rfl rfl rfl rfl ?_
    refine g_aload_n (pc := 39) B dX2_isShiftOf_39 1 rfl ?_
    refine g_aload_n (pc := 40) B dX2_isShiftOf_40 1 rfl ?_
    obtain ⟨k41_2, h⟩ := chk h
    refine g_getR (pc := 41) 2 0 B k41_2 (by decide) (by decide) rfl kfX2_9 dX2_isShiftOf_41 ?_
    refine g_iload_n (pc := 44) B dX2_isShiftOf_44 2 rfl ?_
    obtain ⟨v45, e45, h⟩ := ob h
    refine h_callV (pc := 45) (As := [vA (mR X0 200 x1), vI x2]) (st := [vI v36]) (X' := X0) (cs' := 0) (sl' := 0) (st10 := [vI v45, vI v36]) B cal_X2_rowInCorner kmX2_42 kn_X2_rowInCorner ks_X2_rowInCorner k41_2 (by decide) rfl (fun l hl => ct_X2_rowInCorner hl e45) rfl (Nat.le_of_ble_eq_true rfl) (by decide) (by decide) dX2_isShiftOf_45 rfl rfl rfl rfl ?_
    refine g_icmp_ne (pc := 48) (tgt := 72) B dX2_isShiftOf_48 (by decide) (fun c48 => ?_) (fun c48 => ?_)
    · rw [if_neg c48] at h
      refine g_iconst (pc := 72) B dX2_isShiftOf_72 (0 : Int32) (by decide) ?_
      obtain rfl := Option.some.inj h
      exact g_ret_Z (pc := 73) B rfl (Or.inl rfl) (by decide) (by decide) dX2_isShiftOf_73
    · rw [if_pos c48] at h
      refine g_aload_n (pc := 51) B dX2_isShiftOf_51 0 rfl ?_
      refine g_aload_n (pc := 52) B dX2_isShiftOf_52 0 rfl ?_
      refine g_getR (pc := 53) 2 1 B k32_1 (by decide) (by decide) rfl kfX2_15 dX2_isShiftOf_53 ?_
      refine g_iload_n (pc := 56) B dX2_isShiftOf_56 2 rfl ?_
      obtain ⟨v57, e57, h⟩ := ob h
      refine h_callV (pc := 57) (As := [vA (mR X0 201 x0), vI x2]) (st := []) (X' := X0) (cs' := 0) (sl' := 0) (st10 := [vI v57]) B cal_X2_rowInCorner kmX2_42 kn_X2_rowInCorner ks_X2_rowInCorner k32_1 (by decide) rfl (fun l hl => ct_X2_rowInCorner hl e57) rfl (Nat.le_of_ble_eq_true rfl) (by decide) (by decide) dX2_isShiftOf_57 rfl rfl rfl rfl ?_
      refine g_aload_n (pc := 60) B dX2_isShiftOf_60 1 rfl ?_
      refine g_aload_n (pc := 61) B dX2_isShiftOf_61 1 rfl ?_
      refine g_getR (pc := 62) 2 1 B k41_2 (by decide) (by decide) rfl kfX2_15 dX2_isShiftOf_62 ?_
      refine g_iload_n (pc := 65) B dX2_isShiftOf_65 2 rfl ?_
      obtain ⟨v66, e66, h⟩ := ob h
      refine h_callV (pc := 66) (As := [vA (mR X0 201 x1), vI x2]) (st := [vI v57]) (X' := X0) (cs' := 0) (sl' := 0) (st10 := [vI v66, vI v57]) B cal_X2_rowInCorner kmX2_42 kn_X2_rowInCorner ks_X2_rowInCorner k41_2 (by decide) rfl (fun l hl => ct_X2_rowInCorner hl e66) rfl (Nat.le_of_ble_eq_true rfl) (by decide) (by decide) dX2_isShiftOf_66 rfl rfl rfl rfl ?_
      refine g_icmp_eq (pc := 69) (tgt := 74) B dX2_isShiftOf_69 (by decide) (fun c69 => ?_) (fun c69 => ?_)
      · rw [if_pos c69] at h
        refine g_iinc (pc := 74) (v := (x2 + (1 : Int32))) (L' := [(2, vI (x2 + (1 : Int32))), (0, vA (some x0)), (1, vA (some x1))]) B dX2_isShiftOf_74 (by decide) 2 rfl rfl rfl ?_
        refine g_goto (pc := 77) (tgt := 24) B dX2_isShiftOf_77 (by decide) ?_
        refine g_sub (pc := 24) [1, 2, 0] rfl ?_
        exact hrec24 h
      · rw [if_neg c69] at h
        refine g_iconst (pc := 72) B dX2_isShiftOf_72 (0 : Int32) (by decide) ?_
        obtain rfl := Option.some.inj h
        exact g_ret_Z (pc := 73) B rfl (Or.inl rfl) (by decide) (by decide) dX2_isShiftOf_73
theorem cb_X2_isShiftOf_L24n {D : DD} {ev : EV} {X0 : Mem} {fu : Nat} (B : Amb D (foot X0) ev RX2 "isShiftOf" cX2_isShiftOf 3 (some .boolean) rmX2_isShiftOf) (ht : Tb0 ev)  : ∀ (n : Nat) {x0 : Nat} {x1 : Nat} {x2 : Int32} {r : Int32}, fX2_isShiftOf_L24 fu X0 n x0 x1 x2 = some r → Gd D (foot X0) ev (QF D ev X0 (.inr (some (vI r))) X0 rmX2_isShiftOf) X0 0 0 24 [(0, vA (some x0)), (1, vA (some x1)), (2, vI x2)] [] := by
  intro n
  induction n with
  | zero => intro x0 x1 x2 r h; exact nomatch h
  | succ n ih => intro x0 x1 x2 r h; exact cb_X2_isShiftOf_L24b (fu := fu) B ht (fun h9 => ih h9) h
theorem cb_X2_isShiftOf_L24 {D : DD} {ev : EV} {X0 : Mem} {fu : Nat} {x0 : Nat} {x1 : Nat} {x2 : Int32} {n : Nat} {r : Int32} (B : Amb D (foot X0) ev RX2 "isShiftOf" cX2_isShiftOf 3 (some .boolean) rmX2_isShiftOf) (ht : Tb0 ev)  (h : fX2_isShiftOf_L24 fu X0 n x0 x1 x2 = some r) : Gd D (foot X0) ev (QF D ev X0 (.inr (some (vI r))) X0 rmX2_isShiftOf) X0 0 0 24 [(0, vA (some x0)), (1, vA (some x1)), (2, vI x2)] [] := cb_X2_isShiftOf_L24n B ht n h
set_option maxRecDepth 100000 in
set_option maxHeartbeats 4000000 in
theorem cb_X2_isShiftOf_L0 {D : DD} {ev : EV} {X0 : Mem} {fu : Nat} {x0 : Nat} {x1 : Option Nat} {r : Int32} (B : Amb D (foot X0) ev RX2 "isShiftOf" cX2_isShiftOf 3 (some .boolean) rmX2_isShiftOf) (ht : Tb0 ev)  (h : fX2_isShiftOf fu X0 x0 x1 = some r) : Gd D (foot X0) ev (QF D ev X0 (.inr (some (vI r))) X0 rmX2_isShiftOf) X0 0 0 0 [(0, vA (some x0)), (1, vA x1)] [] := by
  unfold fX2_isShiftOf at h
  refine g_aload_n (pc := 0) B dX2_isShiftOf_0 0 rfl ?_
  obtain ⟨k1_1, h⟩ := chk h
  refine g_getI (pc := 1) 2 2 B k1_1 (by decide) (by decide) rfl kfX2_18 dX2_isShiftOf_1 ?_
  refine g_aload_n (pc := 4) B dX2_isShiftOf_4 1 rfl ?_
  obtain ⟨a5_2, ea5_2, h⟩ := ob h
  rw [ea5_2]
  obtain ⟨k5_3, h⟩ := chk h
  refine g_getI (pc := 5) 2 2 B k5_3 (by decide) (by decide) rfl kfX2_18 dX2_isShiftOf_5 ?_
  refine g_icmp_eq (pc := 8) (tgt := 13) B dX2_isShiftOf_8 (by decide) (fun c8 => ?_) (fun c8 => ?_)
  · rw [if_pos c8] at h
    refine g_aload_n (pc := 13) B dX2_isShiftOf_13 0 rfl ?_
    refine g_getI (pc := 14) 2 2 B k1_1 (by decide) (by decide) rfl kfX2_18 dX2_isShiftOf_14 ?_
    refine g_if_ne (pc := 17) (tgt := 22) B dX2_isShiftOf_17 (by decide) (fun c17 => ?_) (fun c17 => ?_)
    · rw [if_neg c17] at h
      refine g_iconst (pc := 22) B dX2_isShiftOf_22 (0 : Int32) (by decide) ?_
      refine g_istore_n (pc := 23) (L' := [(2, vI (0 : Int32)), (0, vA (some x0)), (1, vA (some a5_2))]) B dX2_isShiftOf_23 (by decide) rfl ?_
      refine g_sub (pc := 24) [1, 2, 0] rfl ?_
      exact cb_X2_isShiftOf_L24 B ht h
    · rw [if_pos c17] at h
      refine g_iconst (pc := 20) B dX2_isShiftOf_20 (1 : Int32) (by decide) ?_
      obtain rfl := Option.some.inj h
      exact g_ret_Z (pc := 21) B rfl (Or.inr rfl) (by decide) (by decide) dX2_isShiftOf_21
  · rw [if_neg c8] at h
    refine g_iconst (pc := 11) B dX2_isShiftOf_11 (0 : Int32) (by decide) ?_
    obtain rfl := Option.some.inj h
    exact g_ret_Z (pc := 12) B rfl (Or.inl rfl) (by decide) (by decide) dX2_isShiftOf_12
theorem ct_X2_isShiftOf {D : DD} {l : Launch} {X0 : Mem} {fu : Nat} {x0 : Nat} {x1 : Option Nat} {r : Int32} (hl : l.stackTraces = false) (h : fX2_isShiftOf fu X0 x0 x1 = some r) : Ctr D l yX2_isShiftOf cX2_isShiftOf 3 (some .boolean) rmX2_isShiftOf [vA (some x0), vA x1] X0 (.inr (some (vI r))) X0 :=
  ctr_of hl (plainFor_of_name (by decide)) (Nat.le_of_ble_eq_true rfl) fun ev _ ht B => cb_X2_isShiftOf_L0 B ht h
set_option maxRecDepth 100000 in
set_option maxHeartbeats 4000000 in
theorem cb_X3_isMetBy_L0 {D : DD} {ev : EV} {X0 : Mem} {fu : Nat} {x0 : Nat} {x1 : Option Nat} {r : Int32} (B : Amb D (foot X0) ev RX3 "isMetBy" cX3_isMetBy 2 (some .boolean) rmX3_isMetBy) (ht : Tb0 ev)  (h : fX3_isMetBy fu X0 x0 x1 = some r) : Gd D (foot X0) ev (QF D ev X0 (.inr (some (vI r))) X0 rmX3_isMetBy) X0 0 0 0 [(0, vA (some x0)), (1, vA x1)] [] := by
  unfold fX3_isMetBy at h
  refine g_aload_n (pc := 0) B dX3_isMetBy_0 1 rfl ?_
  obtain ⟨a1_1, ea1_1, h⟩ := ob h
  rw [ea1_1]
  obtain ⟨k1_2, h⟩ := chk h
  refine g_getIN (pc := 1) 5 6 B k1_2 (by decide) (by decide) rfl kfX3_22 dX3_isMetBy_1 ?_
  refine g_if_ne (pc := 4) (tgt := 50) B dX3_isMetBy_4 (by decide) (fun c4 => ?_) (fun c4 => ?_)
  · rw [if_neg c4] at h
    refine g_iconst (pc := 50) B dX3_isMetBy_50 (0 : Int32) (by decide) ?_
    obtain rfl := Option.some.inj h
    exact g_ret_Z (pc := 51) B rfl (Or.inl rfl) (by decide) (by decide) dX3_isMetBy_51
  · rw [if_pos c4] at h
    refine g_aload_n (pc := 7) B dX3_isMetBy_7 1 rfl ?_
    obtain ⟨v8, e8, h⟩ := ob h
    refine h_callV (pc := 8) (As := []) (st := []) (X' := X0) (cs' := 0) (sl' := 0) (st10 := [vI v8]) B cal_X5_length kmX3_27 kn_X5_length ks_X5_length k1_2 (by decide) rfl (fun l hl => ct_X5_length hl e8) rfl (Nat.le_of_ble_eq_true rfl) (by decide) (by decide) dX3_isMetBy_8 rfl rfl rfl rfl ?_
    refine g_aload_n (pc := 11) B dX3_isMetBy_11 0 rfl ?_
    obtain ⟨k12_3, h⟩ := chk h
    refine g_getI (pc := 12) 3 1 B k12_3 (by decide) (by decide) rfl kfX3_15 dX3_isMetBy_12 ?_
    refine g_icmp_gt (pc := 15) (tgt := 50) B dX3_isMetBy_15 (by decide) (fun c15 => ?_) (fun c15 => ?_)
    · rw [if_pos c15] at h
      refine g_iconst (pc := 50) B dX3_isMetBy_50 (0 : Int32) (by decide) ?_
      obtain rfl := Option.some.inj h
      exact g_ret_Z (pc := 51) B rfl (Or.inl rfl) (by decide) (by decide) dX3_isMetBy_51
    · rw [if_neg c15] at h
      refine g_aload_n (pc := 18) B dX3_isMetBy_18 1 rfl ?_
      refine g_getIN (pc := 19) 5 7 B k1_2 (by decide) (by decide) rfl kfX3_31 dX3_isMetBy_19 ?_
      refine g_aload_n (pc := 22) B dX3_isMetBy_22 0 rfl ?_
      refine g_getI (pc := 23) 3 2 B k12_3 (by decide) (by decide) rfl kfX3_19 dX3_isMetBy_23 ?_
      refine g_icmp_gt (pc := 26) (tgt := 50) B dX3_isMetBy_26 (by decide) (fun c26 => ?_) (fun c26 => ?_)
      · rw [if_pos c26] at h
        refine g_iconst (pc := 50) B dX3_isMetBy_50 (0 : Int32) (by decide) ?_
        obtain rfl := Option.some.inj h
        exact g_ret_Z (pc := 51) B rfl (Or.inl rfl) (by decide) (by decide) dX3_isMetBy_51
      · rw [if_neg c26] at h
        refine g_aload_n (pc := 29) B dX3_isMetBy_29 1 rfl ?_
        refine g_getRN (pc := 30) 5 5 B k1_2 (by decide) (by decide) rfl kfX3_34 dX3_isMetBy_30 ?_
        refine g_aload_n (pc := 33) B dX3_isMetBy_33 0 rfl ?_
        refine g_getR (pc := 34) 3 0 B k12_3 (by decide) (by decide) rfl kfX3_9 dX3_isMetBy_34 ?_
        obtain ⟨a37_4, ea37_4, h⟩ := ob h
        rw [ea37_4]
        obtain ⟨k37_5, h⟩ := chk h
        refine g_getRN (pc := 37) 5 5 B k37_5 (by decide) (by decide) rfl kfX3_34 dX3_isMetBy_37 ?_
        obtain ⟨a40_6, ea40_6, h⟩ := ob h
        rw [ea40_6]
        obtain ⟨k40_7, h⟩ := chk h
        obtain ⟨v40, e40, h⟩ := ob h
        refine h_callV (pc := 40) (As := [vA (mR X0 505 a37_4)]) (st := []) (X' := X0) (cs' := 0) (sl' := 0) (st10 := [vI v40]) B cal_X2_isShiftOf kmX3_38 kn_X2_isShiftOf ks_X2_isShiftOf k40_7 (by decide) rfl (fun l hl => ct_X2_isShiftOf hl e40) rfl (Nat.le_of_ble_eq_true rfl) (by decide) (by decide) dX3_isMetBy_40 rfl rfl rfl rfl ?_
        refine g_if_eq (pc := 43) (tgt := 50) B dX3_isMetBy_43 (by decide) (fun c43 => ?_) (fun c43 => ?_)
        · rw [if_pos c43] at h
          refine g_iconst (pc := 50) B dX3_isMetBy_50 (0 : Int32) (by decide) ?_
          obtain rfl := Option.some.inj h
          exact g_ret_Z (pc := 51) B rfl (Or.inl rfl) (by decide) (by decide) dX3_isMetBy_51
        · rw [if_neg c43] at h
          refine g_iconst (pc := 46) B dX3_isMetBy_46 (1 : Int32) (by decide) ?_
          refine g_goto (pc := 47) (tgt := 51) B dX3_isMetBy_47 (by decide) ?_
          obtain rfl := Option.some.inj h
          exact g_ret_Z (pc := 51) B rfl (Or.inr rfl) (by decide) (by decide) dX3_isMetBy_51
theorem ct_X3_isMetBy {D : DD} {l : Launch} {X0 : Mem} {fu : Nat} {x0 : Nat} {x1 : Option Nat} {r : Int32} (hl : l.stackTraces = false) (h : fX3_isMetBy fu X0 x0 x1 = some r) : Ctr D l yX3_isMetBy cX3_isMetBy 2 (some .boolean) rmX3_isMetBy [vA (some x0), vA x1] X0 (.inr (some (vI r))) X0 :=
  ctr_of hl (plainFor_of_name (by decide)) (Nat.le_of_ble_eq_true rfl) fun ev _ ht B => cb_X3_isMetBy_L0 B ht h
set_option maxRecDepth 100000 in
set_option maxHeartbeats 4000000 in
theorem cb_X10_meetsExercise_L0 {D : DD} {ev : EV} {X0 : Mem} {fu : Nat} {x0 : Nat} {r : Int32} (B : Amb D (foot X0) ev RX10 "meetsExercise" cX10_meetsExercise 1 (some .boolean) rmX10_meetsExercise) (ht : Tb0 ev)  (h : fX10_meetsExercise fu X0 x0 = some r) : Gd D (foot X0) ev (QF D ev X0 (.inr (some (vI r))) X0 rmX10_meetsExercise) X0 0 0 0 [(0, vA (some x0))] [] := by
  unfold fX10_meetsExercise at h
  refine g_aload_n (pc := 0) B dX10_meetsExercise_0 0 rfl ?_
  obtain ⟨k1_1, h⟩ := chk h
  refine g_getR (pc := 1) 10 1 B k1_1 (by decide) (by decide) rfl kfX10_15 dX10_meetsExercise_1 ?_
  refine g_aload_n (pc := 4) B dX10_meetsExercise_4 0 rfl ?_
  refine g_getR (pc := 5) 10 0 B k1_1 (by decide) (by decide) rfl kfX10_9 dX10_meetsExercise_5 ?_
  obtain ⟨a8_2, ea8_2, h⟩ := ob h
  rw [ea8_2]
  obtain ⟨k8_3, h⟩ := chk h
  obtain ⟨v8, e8, h⟩ := ob h
  refine h_callV (pc := 8) (As := [vA (mR X0 1000 x0)]) (st := []) (X' := X0) (cs' := 0) (sl' := 0) (st10 := [vI v8]) B cal_X3_isMetBy kmX10_23 kn_X3_isMetBy ks_X3_isMetBy k8_3 (by decide) rfl (fun l hl => ct_X3_isMetBy hl e8) rfl (Nat.le_of_ble_eq_true rfl) (by decide) (by decide) dX10_meetsExercise_8 rfl rfl rfl rfl ?_
  obtain ⟨z11, h⟩ := chk h
  obtain rfl := Option.some.inj h
  exact g_ret_Z (pc := 11) B rfl z11 (by decide) (by decide) dX10_meetsExercise_11
theorem ct_X10_meetsExercise {D : DD} {l : Launch} {X0 : Mem} {fu : Nat} {x0 : Nat} {r : Int32} (hl : l.stackTraces = false) (h : fX10_meetsExercise fu X0 x0 = some r) : Ctr D l yX10_meetsExercise cX10_meetsExercise 1 (some .boolean) rmX10_meetsExercise [vA (some x0)] X0 (.inr (some (vI r))) X0 :=
  ctr_of hl (plainFor_of_name (by decide)) (Nat.le_of_ble_eq_true rfl) fun ev _ ht B => cb_X10_meetsExercise_L0 B ht h
set_option maxRecDepth 100000 in
set_option maxHeartbeats 4000000 in
theorem cb_X10_isInDoubt_L0 {D : DD} {ev : EV} {X0 : Mem} {x0 : Nat} {r : Int32} (B : Amb D (foot X0) ev RX10 "isInDoubt" cX10_isInDoubt 1 (some .boolean) rmX10_isInDoubt) (ht : Tb0 ev)  (h : fX10_isInDoubt X0 x0 = some r) : Gd D (foot X0) ev (QF D ev X0 (.inr (some (vI r))) X0 rmX10_isInDoubt) X0 0 0 0 [(0, vA (some x0))] [] := by
  unfold fX10_isInDoubt at h
  refine g_aload_n (pc := 0) B dX10_isInDoubt_0 0 rfl ?_
  obtain ⟨k1_1, h⟩ := chk h
  refine g_getI (pc := 1) 10 2 B k1_1 (by decide) (by decide) rfl kfX10_19 dX10_isInDoubt_1 ?_
  refine g_iconst (pc := 4) B dX10_isInDoubt_4 (-1) (by decide) ?_
  refine g_icmp_eq (pc := 5) (tgt := 19) B dX10_isInDoubt_5 (by decide) (fun c5 => ?_) (fun c5 => ?_)
  · rw [if_pos c5] at h
    refine g_iconst (pc := 19) B dX10_isInDoubt_19 (0 : Int32) (by decide) ?_
    obtain rfl := Option.some.inj h
    exact g_ret_Z (pc := 20) B rfl (Or.inl rfl) (by decide) (by decide) dX10_isInDoubt_20
  · rw [if_neg c5] at h
    refine g_aload_n (pc := 8) B dX10_isInDoubt_8 0 rfl ?_
    refine g_getI (pc := 9) 10 3 B k1_1 (by decide) (by decide) rfl kfX10_29 dX10_isInDoubt_9 ?_
    refine g_if_ne (pc := 12) (tgt := 19) B dX10_isInDoubt_12 (by decide) (fun c12 => ?_) (fun c12 => ?_)
    · rw [if_neg c12] at h
      refine g_iconst (pc := 19) B dX10_isInDoubt_19 (0 : Int32) (by decide) ?_
      obtain rfl := Option.some.inj h
      exact g_ret_Z (pc := 20) B rfl (Or.inl rfl) (by decide) (by decide) dX10_isInDoubt_20
    · rw [if_pos c12] at h
      refine g_iconst (pc := 15) B dX10_isInDoubt_15 (1 : Int32) (by decide) ?_
      refine g_goto (pc := 16) (tgt := 20) B dX10_isInDoubt_16 (by decide) ?_
      obtain rfl := Option.some.inj h
      exact g_ret_Z (pc := 20) B rfl (Or.inr rfl) (by decide) (by decide) dX10_isInDoubt_20
theorem ct_X10_isInDoubt {D : DD} {l : Launch} {X0 : Mem} {x0 : Nat} {r : Int32} (hl : l.stackTraces = false) (h : fX10_isInDoubt X0 x0 = some r) : Ctr D l yX10_isInDoubt cX10_isInDoubt 1 (some .boolean) rmX10_isInDoubt [vA (some x0)] X0 (.inr (some (vI r))) X0 :=
  ctr_of hl (plainFor_of_name (by decide)) (Nat.le_of_ble_eq_true rfl) fun ev _ ht B => cb_X10_isInDoubt_L0 B ht h
set_option maxRecDepth 100000 in
set_option maxHeartbeats 4000000 in
theorem cb_X2_cellsWide_L0 {D : DD} {ev : EV} {X0 : Mem} {x0 : Nat} {r : Int32} (B : Amb D (foot X0) ev RX2 "cellsWide" cX2_cellsWide 1 (some .int) rmX2_cellsWide) (ht : Tb0 ev)  (h : fX2_cellsWide X0 x0 = some r) : Gd D (foot X0) ev (QF D ev X0 (.inr (some (vI r))) X0 rmX2_cellsWide) X0 0 0 0 [(0, vA (some x0))] [] := by
  unfold fX2_cellsWide at h
  refine g_aload_n (pc := 0) B dX2_cellsWide_0 0 rfl ?_
  obtain ⟨k1_1, h⟩ := chk h
  refine g_getI (pc := 1) 2 2 B k1_1 (by decide) (by decide) rfl kfX2_18 dX2_cellsWide_1 ?_
  refine g_if_ne (pc := 4) (tgt := 11) B dX2_cellsWide_4 (by decide) (fun c4 => ?_) (fun c4 => ?_)
  · rw [if_neg c4] at h
    refine g_aload_n (pc := 11) B dX2_cellsWide_11 0 rfl ?_
    refine g_getI (pc := 12) 2 5 B k1_1 (by decide) (by decide) rfl kfX2_36 dX2_cellsWide_12 ?_
    refine g_aload_n (pc := 15) B dX2_cellsWide_15 0 rfl ?_
    refine g_getI (pc := 16) 2 3 B k1_1 (by decide) (by decide) rfl kfX2_30 dX2_cellsWide_16 ?_
    refine g_isub (pc := 19) B dX2_cellsWide_19 ?_
    refine g_iconst (pc := 20) B dX2_cellsWide_20 (1 : Int32) (by decide) ?_
    refine g_iadd (pc := 21) B dX2_cellsWide_21 ?_
    obtain rfl := Option.some.inj h
    exact g_ret_I (pc := 22) B rfl (by decide) (by decide) dX2_cellsWide_22
  · rw [if_pos c4] at h
    refine g_iconst (pc := 7) B dX2_cellsWide_7 (1 : Int32) (by decide) ?_
    refine g_goto (pc := 8) (tgt := 22) B dX2_cellsWide_8 (by decide) ?_
    obtain rfl := Option.some.inj h
    exact g_ret_I (pc := 22) B rfl (by decide) (by decide) dX2_cellsWide_22
theorem ct_X2_cellsWide {D : DD} {l : Launch} {X0 : Mem} {x0 : Nat} {r : Int32} (hl : l.stackTraces = false) (h : fX2_cellsWide X0 x0 = some r) : Ctr D l yX2_cellsWide cX2_cellsWide 1 (some .int) rmX2_cellsWide [vA (some x0)] X0 (.inr (some (vI r))) X0 :=
  ctr_of hl (plainFor_of_name (by decide)) (Nat.le_of_ble_eq_true rfl) fun ev _ ht B => cb_X2_cellsWide_L0 B ht h
set_option maxRecDepth 100000 in
set_option maxHeartbeats 4000000 in
theorem cb_X2_cellsHigh_L0 {D : DD} {ev : EV} {X0 : Mem} {x0 : Nat} {r : Int32} (B : Amb D (foot X0) ev RX2 "cellsHigh" cX2_cellsHigh 1 (some .int) rmX2_cellsHigh) (ht : Tb0 ev)  (h : fX2_cellsHigh X0 x0 = some r) : Gd D (foot X0) ev (QF D ev X0 (.inr (some (vI r))) X0 rmX2_cellsHigh) X0 0 0 0 [(0, vA (some x0))] [] := by
  unfold fX2_cellsHigh at h
  refine g_aload_n (pc := 0) B dX2_cellsHigh_0 0 rfl ?_
  obtain ⟨k1_1, h⟩ := chk h
  refine g_getI (pc := 1) 2 2 B k1_1 (by decide) (by decide) rfl kfX2_18 dX2_cellsHigh_1 ?_
  refine g_if_ne (pc := 4) (tgt := 11) B dX2_cellsHigh_4 (by decide) (fun c4 => ?_) (fun c4 => ?_)
  · rw [if_neg c4] at h
    refine g_aload_n (pc := 11) B dX2_cellsHigh_11 0 rfl ?_
    refine g_getI (pc := 12) 2 6 B k1_1 (by decide) (by decide) rfl kfX2_39 dX2_cellsHigh_12 ?_
    refine g_aload_n (pc := 15) B dX2_cellsHigh_15 0 rfl ?_
    refine g_getI (pc := 16) 2 4 B k1_1 (by decide) (by decide) rfl kfX2_33 dX2_cellsHigh_16 ?_
    refine g_isub (pc := 19) B dX2_cellsHigh_19 ?_
    refine g_iconst (pc := 20) B dX2_cellsHigh_20 (1 : Int32) (by decide) ?_
    refine g_iadd (pc := 21) B dX2_cellsHigh_21 ?_
    obtain rfl := Option.some.inj h
    exact g_ret_I (pc := 22) B rfl (by decide) (by decide) dX2_cellsHigh_22
  · rw [if_pos c4] at h
    refine g_iconst (pc := 7) B dX2_cellsHigh_7 (1 : Int32) (by decide) ?_
    refine g_goto (pc := 8) (tgt := 22) B dX2_cellsHigh_8 (by decide) ?_
    obtain rfl := Option.some.inj h
    exact g_ret_I (pc := 22) B rfl (by decide) (by decide) dX2_cellsHigh_22
theorem ct_X2_cellsHigh {D : DD} {l : Launch} {X0 : Mem} {x0 : Nat} {r : Int32} (hl : l.stackTraces = false) (h : fX2_cellsHigh X0 x0 = some r) : Ctr D l yX2_cellsHigh cX2_cellsHigh 1 (some .int) rmX2_cellsHigh [vA (some x0)] X0 (.inr (some (vI r))) X0 :=
  ctr_of hl (plainFor_of_name (by decide)) (Nat.le_of_ble_eq_true rfl) fun ev _ ht B => cb_X2_cellsHigh_L0 B ht h
set_option maxRecDepth 100000 in
set_option maxHeartbeats 4000000 in
theorem cb_X9_takenFrom_L5b {D : DD} {ev : EV} {X0 : Mem} {fu : Nat} {rec5 : Nat → Int32 → Int32 → Int64 → Int32 → Option (Int64)} {x0 : Nat} {x1 : Int32} {x2 : Int32} {x3 : Int64} {x5 : Int32} {r : Int64} (B : Amb D (foot X0) ev RX9 "takenFrom" cX9_takenFrom 6 (some .long) rmX9_takenFrom) (ht : Tb0 ev) (hrec5 : ∀ {x0 : Nat} {x1 : Int32} {x2 : Int32} {x3 : Int64} {x5 : Int32} {r : Int64}, rec5 x0 x1 x2 x3 x5 = some r → Gd D (foot X0) ev (QF D ev X0 (.inr (some (vJ r))) X0 rmX9_takenFrom) X0 0 0 5 [(0, vA (some x0)), (1, vI x1), (2, vI x2), (3, vJ x3), (5, vI x5)] []) (h : fX9_takenFrom_L5b fu X0 rec5 x0 x1 x2 x3 x5 = some r) : Gd D (foot X0) ev (QF D ev X0 (.inr (some (vJ r))) X0 rmX9_takenFrom) X0 0 0 5 [(0, vA (some x0)), (1, vI x1), (2, vI x2), (3, vJ x3), (5, vI x5)] [] := by
  unfold fX9_takenFrom_L5b at h
  refine g_iload (pc := 5) B dX9_takenFrom_5 4 rfl ?_
  refine g_iload_n (pc := 7) B dX9_takenFrom_7 1 rfl ?_
  refine g_iload_n (pc := 8) B dX9_takenFrom_8 2 rfl ?_
  refine g_iadd (pc := 9) B dX9_takenFrom_9 ?_
  refine g_icmp_ge (pc := 10) (tgt := 44) B dX9_takenFrom_10 (by decide) (fun c10 => ?_) (fun c10 => ?_)
  · rw [if_pos c10] at h
    refine g_lload_n (pc := 44) B dX9_takenFrom_44 3 rfl ?_
    obtain rfl := Option.some.inj h
    exact g_ret_J (pc := 45) B rfl (by decide) (by decide) dX9_takenFrom_45
  · rw [if_neg c10] at h
    refine g_iload (pc := 13) B dX9_takenFrom_13 4 rfl ?_
    refine g_if_lt (pc := 15) (tgt := 44) B dX9_takenFrom_15 (by decide) (fun c15 => ?_) (fun c15 => ?_)
    · rw [if_pos c15] at h
      refine g_lload_n (pc := 44) B dX9_takenFrom_44 3 rfl ?_
      obtain rfl := Option.some.inj h
      exact g_ret_J (pc := 45) B rfl (by decide) (by decide) dX9_takenFrom_45
    · rw [if_neg c15] at h
      refine g_iload (pc := 18) B dX9_takenFrom_18 4 rfl ?_
      refine g_aload_n (pc := 20) B dX9_takenFrom_20 0 rfl ?_
      obtain ⟨k21_1, h⟩ := chk h
      refine g_getR (pc := 21) 9 0 B k21_1 (by decide) (by decide) rfl kfX9_9 dX9_takenFrom_21 ?_
      obtain ⟨a24_2, ea24_2, h⟩ := ob h
      rw [ea24_2]
      obtain ⟨n24_2, en24_2, h⟩ := ob h
      obtain ⟨tn24_2, kn24_2, qn24_2⟩ := alen_s en24_2
      refine g_alen (pc := 24) B kn24_2 qn24_2 dX9_takenFrom_24 ?_
      refine g_icmp_ge (pc := 25) (tgt := 44) B dX9_takenFrom_25 (by decide) (fun c25 => ?_) (fun c25 => ?_)
      · rw [if_pos c25] at h
        refine g_lload_n (pc := 44) B dX9_takenFrom_44 3 rfl ?_
        obtain rfl := Option.some.inj h
        exact g_ret_J (pc := 45) B rfl (by decide) (by decide) dX9_takenFrom_45
      · rw [if_neg c25] at h
        refine g_lload_n (pc := 28) B dX9_takenFrom_28 3 rfl ?_
        refine g_aload_n (pc := 29) B dX9_takenFrom_29 0 rfl ?_
        refine g_getR (pc := 30) 9 0 B k21_1 (by decide) (by decide) rfl kfX9_9 dX9_takenFrom_30 ?_
        refine g_iload (pc := 33) B dX9_takenFrom_33 4 rfl ?_
        obtain ⟨a35_4, ea35_4, h⟩ := ob h
        rw [ea35_4]
        obtain ⟨c35, h⟩ := chk h
        obtain ⟨nc35, kc35, ic35⟩ := inb_s c35
        refine g_lald (pc := 35) B kc35 ic35 dX9_takenFrom_35 ?_
        refine g_lor (pc := 36) B dX9_takenFrom_36 ?_
        refine g_lstore_n (pc := 37) (L' := [(3, vJ (x3 ||| (aJ X0 a35_4 x5.toNatClampNeg))), (0, vA (some x0)), (1, vI x1), (2, vI x2), (5, vI x5)]) B dX9_takenFrom_37 (by decide) rfl ?_
        refine g_iinc (pc := 38) (v := (x5 + (1 : Int32))) (L' := [(5, vI (x5 + (1 : Int32))), (3, vJ (x3 ||| (aJ X0 a35_4 x5.toNatClampNeg))), (0, vA (some x0)), (1, vI x1), (2, vI x2)]) B dX9_takenFrom_38 (by decide) 4 rfl rfl rfl ?_
        refine g_goto (pc := 41) (tgt := 5) B dX9_takenFrom_41 (by decide) ?_
        refine g_sub (pc := 5) [2, 3, 4, 1, 0] rfl ?_
        exact hrec5 h
theorem cb_X9_takenFrom_L5n {D : DD} {ev : EV} {X0 : Mem} {fu : Nat} (B : Amb D (foot X0) ev RX9 "takenFrom" cX9_takenFrom 6 (some .long) rmX9_takenFrom) (ht : Tb0 ev)  : ∀ (n : Nat) {x0 : Nat} {x1 : Int32} {x2 : Int32} {x3 : Int64} {x5 : Int32} {r : Int64}, fX9_takenFrom_L5 fu X0 n x0 x1 x2 x3 x5 = some r → Gd D (foot X0) ev (QF D ev X0 (.inr (some (vJ r))) X0 rmX9_takenFrom) X0 0 0 5 [(0, vA (some x0)), (1, vI x1), (2, vI x2), (3, vJ x3), (5, vI x5)] [] := by
  intro n
  induction n with
  | zero => intro x0 x1 x2 x3 x5 r h; exact nomatch h
  | succ n ih => intro x0 x1 x2 x3 x5 r h; exact cb_X9_takenFrom_L5b (fu := fu) B ht (fun h9 => ih h9) h
theorem cb_X9_takenFrom_L5 {D : DD} {ev : EV} {X0 : Mem} {fu : Nat} {x0 : Nat} {x1 : Int32} {x2 : Int32} {x3 : Int64} {x5 : Int32} {n : Nat} {r : Int64} (B : Amb D (foot X0) ev RX9 "takenFrom" cX9_takenFrom 6 (some .long) rmX9_takenFrom) (ht : Tb0 ev)  (h : fX9_takenFrom_L5 fu X0 n x0 x1 x2 x3 x5 = some r) : Gd D (foot X0) ev (QF D ev X0 (.inr (some (vJ r))) X0 rmX9_takenFrom) X0 0 0 5 [(0, vA (some x0)), (1, vI x1), (2, vI x2), (3, vJ x3), (5, vI x5)] [] := cb_X9_takenFrom_L5n B ht n h
set_option maxRecDepth 100000 in
set_option maxHeartbeats 4000000 in
theorem cb_X9_takenFrom_L0 {D : DD} {ev : EV} {X0 : Mem} {fu : Nat} {x0 : Nat} {x1 : Int32} {x2 : Int32} {r : Int64} (B : Amb D (foot X0) ev RX9 "takenFrom" cX9_takenFrom 6 (some .long) rmX9_takenFrom) (ht : Tb0 ev)  (h : fX9_takenFrom fu X0 x0 x1 x2 = some r) : Gd D (foot X0) ev (QF D ev X0 (.inr (some (vJ r))) X0 rmX9_takenFrom) X0 0 0 0 [(0, vA (some x0)), (1, vI x1), (2, vI x2)] [] := by
  unfold fX9_takenFrom at h
  refine g_lconst (pc := 0) B dX9_takenFrom_0 (0 : Int64) (by decide) ?_
  refine g_lstore_n (pc := 1) (L' := [(3, vJ (0 : Int64)), (0, vA (some x0)), (1, vI x1), (2, vI x2)]) B dX9_takenFrom_1 (by decide) rfl ?_
  refine g_iload_n (pc := 2) B dX9_takenFrom_2 2 rfl ?_
  refine g_istore (pc := 3) (L' := [(5, vI x1), (3, vJ (0 : Int64)), (0, vA (some x0)), (1, vI x1), (2, vI x2)]) B dX9_takenFrom_3 (by decide) rfl ?_
  refine g_sub (pc := 5) [2, 3, 4, 1, 0] rfl ?_
  exact cb_X9_takenFrom_L5 B ht h
theorem ct_X9_takenFrom {D : DD} {l : Launch} {X0 : Mem} {fu : Nat} {x0 : Nat} {x1 : Int32} {x2 : Int32} {r : Int64} (hl : l.stackTraces = false) (h : fX9_takenFrom fu X0 x0 x1 x2 = some r) : Ctr D l yX9_takenFrom cX9_takenFrom 6 (some .long) rmX9_takenFrom [vA (some x0), vI x1, vI x2] X0 (.inr (some (vJ r))) X0 :=
  ctr_of hl (plainFor_of_name (by decide)) (Nat.le_of_ble_eq_true rfl) fun ev _ ht B => cb_X9_takenFrom_L0 B ht h
set_option maxRecDepth 100000 in
set_option maxHeartbeats 4000000 in
theorem cb_X9_firstFree_L3b {D : DD} {ev : EV} {X0 : Mem} {fu : Nat} {rec3 : Int64 → Int64 → Int32 → Int32 → Option (Int32)} {x0 : Int64} {x2 : Int64} {x4 : Int32} {x5 : Int32} {r : Int32} (B : Amb D (foot X0) ev RX9 "firstFree" cX9_firstFree 6 (some .int) rmX9_firstFree) (ht : Tb0 ev) (hrec3 : ∀ {x0 : Int64} {x2 : Int64} {x4 : Int32} {x5 : Int32} {r : Int32}, rec3 x0 x2 x4 x5 = some r → Gd D (foot X0) ev (QF D ev X0 (.inr (some (vI r))) X0 rmX9_firstFree) X0 0 0 3 [(0, vJ x0), (2, vJ x2), (4, vI x4), (5, vI x5)] []) (h : fX9_firstFree_L3b fu X0 rec3 x0 x2 x4 x5 = some r) : Gd D (foot X0) ev (QF D ev X0 (.inr (some (vI r))) X0 rmX9_firstFree) X0 0 0 3 [(0, vJ x0), (2, vJ x2), (4, vI x4), (5, vI x5)] [] := by
  unfold fX9_firstFree_L3b at h
  refine g_iload (pc := 3) B dX9_firstFree_3 3 rfl ?_
  refine g_iload (pc := 5) B dX9_firstFree_5 2 rfl ?_
  refine g_icmp_gt (pc := 7) (tgt := 30) B dX9_firstFree_7 (by decide) (fun c7 => ?_) (fun c7 => ?_)
  · rw [if_pos c7] at h
    refine g_iconst (pc := 30) B dX9_firstFree_30 (-1) (by decide) ?_
    obtain rfl := Option.some.inj h
    exact g_ret_I (pc := 31) B rfl (by decide) (by decide) dX9_firstFree_31
  · rw [if_neg c7] at h
    refine g_lload_n (pc := 10) B dX9_firstFree_10 0 rfl ?_
    refine g_iload (pc := 11) B dX9_firstFree_11 3 rfl ?_
    refine g_lshr (pc := 13) B dX9_firstFree_13 ?_
    refine g_lload_n (pc := 14) B dX9_firstFree_14 1 rfl ?_
    refine g_land (pc := 15) B dX9_firstFree_15 ?_
    refine g_lconst (pc := 16) B dX9_firstFree_16 (0 : Int64) (by decide) ?_
    refine g_lcmp (pc := 17) B dX9_firstFree_17 ?_
    refine g_if_ne (pc := 18) (tgt := 24) B dX9_firstFree_18 (by decide) (fun c18 => ?_) (fun c18 => ?_)
    · rw [if_neg c18] at h
      refine g_iinc (pc := 24) (v := (x5 + (1 : Int32))) (L' := [(5, vI (x5 + (1 : Int32))), (0, vJ x0), (2, vJ x2), (4, vI x4)]) B dX9_firstFree_24 (by decide) 3 rfl rfl rfl ?_
      refine g_goto (pc := 27) (tgt := 3) B dX9_firstFree_27 (by decide) ?_
      refine g_sub (pc := 3) [1, 2, 3, 0] rfl ?_
      exact hrec3 h
    · rw [if_pos c18] at h
      refine g_iload (pc := 21) B dX9_firstFree_21 3 rfl ?_
      obtain rfl := Option.some.inj h
      exact g_ret_I (pc := 23) B rfl (by decide) (by decide) dX9_firstFree_23
theorem cb_X9_firstFree_L3n {D : DD} {ev : EV} {X0 : Mem} {fu : Nat} (B : Amb D (foot X0) ev RX9 "firstFree" cX9_firstFree 6 (some .int) rmX9_firstFree) (ht : Tb0 ev)  : ∀ (n : Nat) {x0 : Int64} {x2 : Int64} {x4 : Int32} {x5 : Int32} {r : Int32}, fX9_firstFree_L3 fu X0 n x0 x2 x4 x5 = some r → Gd D (foot X0) ev (QF D ev X0 (.inr (some (vI r))) X0 rmX9_firstFree) X0 0 0 3 [(0, vJ x0), (2, vJ x2), (4, vI x4), (5, vI x5)] [] := by
  intro n
  induction n with
  | zero => intro x0 x2 x4 x5 r h; exact nomatch h
  | succ n ih => intro x0 x2 x4 x5 r h; exact cb_X9_firstFree_L3b (fu := fu) B ht (fun h9 => ih h9) h
theorem cb_X9_firstFree_L3 {D : DD} {ev : EV} {X0 : Mem} {fu : Nat} {x0 : Int64} {x2 : Int64} {x4 : Int32} {x5 : Int32} {n : Nat} {r : Int32} (B : Amb D (foot X0) ev RX9 "firstFree" cX9_firstFree 6 (some .int) rmX9_firstFree) (ht : Tb0 ev)  (h : fX9_firstFree_L3 fu X0 n x0 x2 x4 x5 = some r) : Gd D (foot X0) ev (QF D ev X0 (.inr (some (vI r))) X0 rmX9_firstFree) X0 0 0 3 [(0, vJ x0), (2, vJ x2), (4, vI x4), (5, vI x5)] [] := cb_X9_firstFree_L3n B ht n h
set_option maxRecDepth 100000 in
set_option maxHeartbeats 4000000 in
theorem cb_X9_firstFree_L0 {D : DD} {ev : EV} {X0 : Mem} {fu : Nat} {x0 : Int64} {x2 : Int64} {x4 : Int32} {r : Int32} (B : Amb D (foot X0) ev RX9 "firstFree" cX9_firstFree 6 (some .int) rmX9_firstFree) (ht : Tb0 ev)  (h : fX9_firstFree fu X0 x0 x2 x4 = some r) : Gd D (foot X0) ev (QF D ev X0 (.inr (some (vI r))) X0 rmX9_firstFree) X0 0 0 0 [(0, vJ x0), (2, vJ x2), (4, vI x4)] [] := by
  unfold fX9_firstFree at h
  refine g_iconst (pc := 0) B dX9_firstFree_0 (0 : Int32) (by decide) ?_
  refine g_istore (pc := 1) (L' := [(5, vI (0 : Int32)), (0, vJ x0), (2, vJ x2), (4, vI x4)]) B dX9_firstFree_1 (by decide) rfl ?_
  refine g_sub (pc := 3) [1, 2, 3, 0] rfl ?_
  exact cb_X9_firstFree_L3 B ht h
theorem ct_X9_firstFree {D : DD} {l : Launch} {X0 : Mem} {fu : Nat} {x0 : Int64} {x2 : Int64} {x4 : Int32} {r : Int32} (hl : l.stackTraces = false) (h : fX9_firstFree fu X0 x0 x2 x4 = some r) : Ctr D l yX9_firstFree cX9_firstFree 6 (some .int) rmX9_firstFree [vJ x0, vJ x2, vI x4] X0 (.inr (some (vI r))) X0 :=
  ctr_of hl (plainFor_of_name (by decide)) (Nat.le_of_ble_eq_true rfl) fun ev _ ht B => cb_X9_firstFree_L0 B ht h
set_option maxRecDepth 100000 in
set_option maxHeartbeats 4000000 in
theorem cb_X9_take_L3b {D : DD} {ev : EV} {X0 : Mem} {fu : Nat} {rec3 : Mem → Nat → Int32 → Int32 → Int64 → Int32 → Option (Mem)} {X : Mem} {x0 : Nat} {x1 : Int32} {x2 : Int32} {x3 : Int64} {x5 : Int32} {r : Mem} (B : Amb D (foot X0) ev RX9 "take" cX9_take 6 (none) rmX9_take) (ht : Tb0 ev) (hrec3 : ∀ {X : Mem} {x0 : Nat} {x1 : Int32} {x2 : Int32} {x3 : Int64} {x5 : Int32} {r : Mem}, rec3 X x0 x1 x2 x3 x5 = some r → Gd D (foot X0) ev (QF D ev X0 (.inr (none)) r rmX9_take) X 0 0 3 [(0, vA (some x0)), (1, vI x1), (2, vI x2), (3, vJ x3), (5, vI x5)] []) (h : fX9_take_L3b fu rec3 X x0 x1 x2 x3 x5 = some r) : Gd D (foot X0) ev (QF D ev X0 (.inr (none)) r rmX9_take) X 0 0 3 [(0, vA (some x0)), (1, vI x1), (2, vI x2), (3, vJ x3), (5, vI x5)] [] := by
  unfold fX9_take_L3b at h
  refine g_iload (pc := 3) B dX9_take_3 4 rfl ?_
  refine g_iload_n (pc := 5) B dX9_take_5 1 rfl ?_
  refine g_iload_n (pc := 6) B dX9_take_6 2 rfl ?_
  refine g_iadd (pc := 7) B dX9_take_7 ?_
  refine g_icmp_ge (pc := 8) (tgt := 43) B dX9_take_8 (by decide) (fun c8 => ?_) (fun c8 => ?_)
  · rw [if_pos c8] at h
    obtain rfl := Option.some.inj h
    exact g_ret_V (pc := 43) B rfl (by decide) (by decide) dX9_take_43
  · rw [if_neg c8] at h
    refine g_iload (pc := 11) B dX9_take_11 4 rfl ?_
    refine g_if_lt (pc := 13) (tgt := 43) B dX9_take_13 (by decide) (fun c13 => ?_) (fun c13 => ?_)
    · rw [if_pos c13] at h
      obtain rfl := Option.some.inj h
      exact g_ret_V (pc := 43) B rfl (by decide) (by decide) dX9_take_43
    · rw [if_neg c13] at h
      refine g_iload (pc := 16) B dX9_take_16 4 rfl ?_
      refine g_aload_n (pc := 18) B dX9_take_18 0 rfl ?_
      obtain ⟨k19_1, h⟩ := chk h
      refine g_getR (pc := 19) 9 0 B k19_1 (by decide) (by decide) rfl kfX9_9 dX9_take_19 ?_
      obtain ⟨a22_2, ea22_2, h⟩ := ob h
      rw [ea22_2]
      obtain ⟨n22_2, en22_2, h⟩ := ob h
      obtain ⟨tn22_2, kn22_2, qn22_2⟩ := alen_s en22_2
      refine g_alen (pc := 22) B kn22_2 qn22_2 dX9_take_22 ?_
      refine g_icmp_ge (pc := 23) (tgt := 43) B dX9_take_23 (by decide) (fun c23 => ?_) (fun c23 => ?_)
      · rw [if_pos c23] at h
        obtain rfl := Option.some.inj h
        exact g_ret_V (pc := 43) B rfl (by decide) (by decide) dX9_take_43
      · rw [if_neg c23] at h
        refine g_aload_n (pc := 26) B dX9_take_26 0 rfl ?_
        refine g_getR (pc := 27) 9 0 B k19_1 (by decide) (by decide) rfl kfX9_9 dX9_take_27 ?_
        refine g_iload (pc := 30) B dX9_take_30 4 rfl ?_
        refine g_dup2 (pc := 32) B dX9_take_32 rfl rfl ?_
        obtain ⟨a33_4, ea33_4, h⟩ := ob h
        rw [ea33_4]
        obtain ⟨c33, h⟩ := chk h
        obtain ⟨nc33, kc33, ic33⟩ := inb_s c33
        refine g_lald (pc := 33) B kc33 ic33 dX9_take_33 ?_
        refine g_lload_n (pc := 34) B dX9_take_34 3 rfl ?_
        refine g_lor (pc := 35) B dX9_take_35 ?_
        obtain ⟨c36, h⟩ := chk h
        obtain ⟨nc36, kc36, ic36⟩ := inb_s c36
        refine g_last (pc := 36) B kc36 ic36 dX9_take_36 ?_
        refine g_iinc (pc := 37) (v := (x5 + (1 : Int32))) (L' := [(5, vI (x5 + (1 : Int32))), (0, vA (some x0)), (1, vI x1), (2, vI x2), (3, vJ x3)]) B dX9_take_37 (by decide) 4 rfl rfl rfl ?_
        refine g_goto (pc := 40) (tgt := 3) B dX9_take_40 (by decide) ?_
        refine g_sub (pc := 3) [1, 2, 3, 4, 0] rfl ?_
        exact hrec3 h
theorem cb_X9_take_L3n {D : DD} {ev : EV} {X0 : Mem} {fu : Nat} (B : Amb D (foot X0) ev RX9 "take" cX9_take 6 (none) rmX9_take) (ht : Tb0 ev)  : ∀ (n : Nat) {X : Mem} {x0 : Nat} {x1 : Int32} {x2 : Int32} {x3 : Int64} {x5 : Int32} {r : Mem}, fX9_take_L3 fu n X x0 x1 x2 x3 x5 = some r → Gd D (foot X0) ev (QF D ev X0 (.inr (none)) r rmX9_take) X 0 0 3 [(0, vA (some x0)), (1, vI x1), (2, vI x2), (3, vJ x3), (5, vI x5)] [] := by
  intro n
  induction n with
  | zero => intro X x0 x1 x2 x3 x5 r h; exact nomatch h
  | succ n ih => intro X x0 x1 x2 x3 x5 r h; exact cb_X9_take_L3b (fu := fu) B ht (fun h9 => ih h9) h
theorem cb_X9_take_L3 {D : DD} {ev : EV} {X0 : Mem} {fu : Nat} {X : Mem} {x0 : Nat} {x1 : Int32} {x2 : Int32} {x3 : Int64} {x5 : Int32} {n : Nat} {r : Mem} (B : Amb D (foot X0) ev RX9 "take" cX9_take 6 (none) rmX9_take) (ht : Tb0 ev)  (h : fX9_take_L3 fu n X x0 x1 x2 x3 x5 = some r) : Gd D (foot X0) ev (QF D ev X0 (.inr (none)) r rmX9_take) X 0 0 3 [(0, vA (some x0)), (1, vI x1), (2, vI x2), (3, vJ x3), (5, vI x5)] [] := cb_X9_take_L3n B ht n h
set_option maxRecDepth 100000 in
set_option maxHeartbeats 4000000 in
theorem cb_X9_take_L0 {D : DD} {ev : EV} {X0 : Mem} {fu : Nat} {X : Mem} {x0 : Nat} {x1 : Int32} {x2 : Int32} {x3 : Int64} {r : Mem} (B : Amb D (foot X0) ev RX9 "take" cX9_take 6 (none) rmX9_take) (ht : Tb0 ev)  (h : fX9_take fu X x0 x1 x2 x3 = some r) : Gd D (foot X0) ev (QF D ev X0 (.inr (none)) r rmX9_take) X 0 0 0 [(0, vA (some x0)), (1, vI x1), (2, vI x2), (3, vJ x3)] [] := by
  unfold fX9_take at h
  refine g_iload_n (pc := 0) B dX9_take_0 1 rfl ?_
  refine g_istore (pc := 1) (L' := [(5, vI x1), (0, vA (some x0)), (1, vI x1), (2, vI x2), (3, vJ x3)]) B dX9_take_1 (by decide) rfl ?_
  refine g_sub (pc := 3) [1, 2, 3, 4, 0] rfl ?_
  exact cb_X9_take_L3 B ht h
theorem ct_X9_take {D : DD} {l : Launch} {X0 : Mem} {fu : Nat} {x0 : Nat} {x1 : Int32} {x2 : Int32} {x3 : Int64} {r : Mem} (hl : l.stackTraces = false) (h : fX9_take fu X0 x0 x1 x2 x3 = some r) : Ctr D l yX9_take cX9_take 6 (none) rmX9_take [vA (some x0), vI x1, vI x2, vJ x3] X0 (.inr (none)) r :=
  ctr_of hl (plainFor_of_name (by decide)) (Nat.le_of_ble_eq_true rfl) fun ev _ ht B => cb_X9_take_L0 B ht h
set_option maxRecDepth 100000 in
set_option maxHeartbeats 4000000 in
theorem cb_X10_hangAt_L0 {D : DD} {ev : EV} {X0 : Mem} {X : Mem} {x0 : Nat} {x1 : Int32} {x2 : Int32} {r : Mem} (B : Amb D (foot X0) ev RX10 "hangAt" cX10_hangAt 3 (none) rmX10_hangAt) (ht : Tb0 ev)  (h : fX10_hangAt X x0 x1 x2 = some r) : Gd D (foot X0) ev (QF D ev X0 (.inr (none)) r rmX10_hangAt) X 0 0 0 [(0, vA (some x0)), (1, vI x1), (2, vI x2)] [] := by
  unfold fX10_hangAt at h
  refine g_aload_n (pc := 0) B dX10_hangAt_0 0 rfl ?_
  refine g_iload_n (pc := 1) B dX10_hangAt_1 1 rfl ?_
  obtain ⟨k2_1, h⟩ := chk h
  refine g_putI (pc := 2) 10 5 B k2_1 (by decide) (by decide) rfl rfl kfX10_36 dX10_hangAt_2 ?_
  refine g_aload_n (pc := 5) B dX10_hangAt_5 0 rfl ?_
  refine g_iload_n (pc := 6) B dX10_hangAt_6 2 rfl ?_
  refine g_putI (pc := 7) 10 6 B k2_1 (by decide) (by decide) rfl rfl kfX10_51 dX10_hangAt_7 ?_
  refine g_aload_n (pc := 10) B dX10_hangAt_10 0 rfl ?_
  refine g_iconst (pc := 11) B dX10_hangAt_11 (1 : Int32) (by decide) ?_
  refine g_putZ (pc := 12) 10 4 B k2_1 (by decide) (by decide) rfl (Or.inr rfl) rfl kfX10_33 dX10_hangAt_12 ?_
  obtain rfl := Option.some.inj h
  exact g_ret_V (pc := 15) B rfl (by decide) (by decide) dX10_hangAt_15
theorem ct_X10_hangAt {D : DD} {l : Launch} {X0 : Mem} {x0 : Nat} {x1 : Int32} {x2 : Int32} {r : Mem} (hl : l.stackTraces = false) (h : fX10_hangAt X0 x0 x1 x2 = some r) : Ctr D l yX10_hangAt cX10_hangAt 3 (none) rmX10_hangAt [vA (some x0), vI x1, vI x2] X0 (.inr (none)) r :=
  ctr_of hl (plainFor_of_name (by decide)) (Nat.le_of_ble_eq_true rfl) fun ev _ ht B => cb_X10_hangAt_L0 B ht h
set_option maxRecDepth 100000 in
set_option maxHeartbeats 4000000 in
theorem cb_X9_place_L32b {D : DD} {ev : EV} {X0 : Mem} {fu : Nat} {rec32 : Mem → Nat → Nat → Int32 → Int32 → Int64 → Int32 → Option (Mem)} {X : Mem} {x0 : Nat} {x1 : Nat} {x2 : Int32} {x3 : Int32} {x4 : Int64} {x6 : Int32} {r : Mem} (B : Amb D (foot X0) ev RX9 "place" cX9_place 8 (none) rmX9_place) (ht : Tb0 ev) (hrec32 : ∀ {X : Mem} {x0 : Nat} {x1 : Nat} {x2 : Int32} {x3 : Int32} {x4 : Int64} {x6 : Int32} {r : Mem}, rec32 X x0 x1 x2 x3 x4 x6 = some r → Gd D (foot X0) ev (QF D ev X0 (.inr (none)) r rmX9_place) X 0 0 32 [(0, vA (some x0)), (1, vA (some x1)), (2, vI x2), (3, vI x3), (4, vJ x4), (6, vI x6)] []) (h : fX9_place_L32b fu rec32 X x0 x1 x2 x3 x4 x6 = some r) : Gd D (foot X0) ev (QF D ev X0 (.inr (none)) r rmX9_place) X 0 0 32 [(0, vA (some x0)), (1, vA (some x1)), (2, vI x2), (3, vI x3), (4, vJ x4), (6, vI x6)] [] := by
  unfold fX9_place_L32b at h
  refine g_iload (pc := 32) B dX9_place_32 5 rfl ?_
  refine g_aload_n (pc := 34) B dX9_place_34 0 rfl ?_
  obtain ⟨k35_1, h⟩ := chk h
  refine g_getI (pc := 35) 9 2 B k35_1 (by decide) (by decide) rfl kfX9_19 dX9_place_35 ?_
  refine g_iload_n (pc := 38) B dX9_place_38 3 rfl ?_
  refine g_isub (pc := 39) B dX9_place_39 ?_
  refine g_icmp_gt (pc := 40) (tgt := 96) B dX9_place_40 (by decide) (fun c40 => ?_) (fun c40 => ?_)
  · rw [if_pos c40] at h
    obtain rfl := Option.some.inj h
    exact g_ret_V (pc := 96) B rfl (by decide) (by decide) dX9_place_96
  · rw [if_neg c40] at h
    refine g_aload_n (pc := 43) B dX9_place_43 0 rfl ?_
    refine g_iload (pc := 44) B dX9_place_44 5 rfl ?_
    refine g_iload_n (pc := 46) B dX9_place_46 3 rfl ?_
    obtain ⟨v47, e47, h⟩ := ob h
    refine h_callV (pc := 47) (As := [vI x6, vI x3]) (st := []) (X' := X) (cs' := 0) (sl' := 0) (st10 := [vJ v47]) B cal_X9_takenFrom kmX9_43 kn_X9_takenFrom ks_X9_takenFrom k35_1 (by decide) rfl (fun l hl => ct_X9_takenFrom hl e47) rfl (Nat.le_of_ble_eq_true rfl) (by decide) (by decide) dX9_place_47 rfl rfl rfl rfl ?_
    refine g_lload (pc := 50) B dX9_place_50 4 rfl ?_
    refine g_aload_n (pc := 52) B dX9_place_52 0 rfl ?_
    refine g_getI (pc := 53) 9 1 B k35_1 (by decide) (by decide) rfl kfX9_15 dX9_place_53 ?_
    refine g_iload_n (pc := 56) B dX9_place_56 2 rfl ?_
    refine g_isub (pc := 57) B dX9_place_57 ?_
    obtain ⟨v58, e58, h⟩ := ob h
    refine h_callS (pc := 58) (As := [vJ v47, vJ x4, vI ((mI X 901 x0) - x2)]) (st := []) (X' := X) (cs' := 0) (sl' := 0) (st10 := [vI v58]) B cal_X9_firstFree kmX9_47 kz_X9_firstFree (fun l hl => ct_X9_firstFree hl e58) rfl (Nat.le_of_ble_eq_true rfl) (by decide) (by decide) dX9_place_58 rfl rfl rfl rfl ?_
    refine g_istore (pc := 61) (L' := [(7, vI v58), (0, vA (some x0)), (1, vA (some x1)), (2, vI x2), (3, vI x3), (4, vJ x4), (6, vI x6)]) B dX9_place_61 (by decide) rfl ?_
    refine g_iload (pc := 63) B dX9_place_63 0 rfl ?_
    refine g_iconst (pc := 65) B dX9_place_65 (-1) (by decide) ?_
    refine g_icmp_eq (pc := 66) (tgt := 90) B dX9_place_66 (by decide) (fun c66 => ?_) (fun c66 => ?_)
    · rw [if_pos c66] at h
      refine g_iinc (pc := 90) (v := (x6 + (1 : Int32))) (L' := [(6, vI (x6 + (1 : Int32))), (7, vI v58), (0, vA (some x0)), (1, vA (some x1)), (2, vI x2), (3, vI x3), (4, vJ x4)]) B dX9_place_90 (by decide) 6 rfl rfl rfl ?_
      refine g_goto (pc := 93) (tgt := 32) B dX9_place_93 (by decide) ?_
      refine g_sub (pc := 32) [2, 3, 4, 5, 6, 0] rfl ?_
      exact hrec32 h
    · rw [if_neg c66] at h
      refine g_aload_n (pc := 69) B dX9_place_69 1 rfl ?_
      refine g_iload (pc := 70) B dX9_place_70 6 rfl ?_
      refine g_iload_n (pc := 72) B dX9_place_72 4 rfl ?_
      refine g_lload (pc := 73) B dX9_place_73 5 rfl ?_
      refine g_iload (pc := 75) B dX9_place_75 0 rfl ?_
      refine g_lshl (pc := 77) B dX9_place_77 ?_
      obtain ⟨X78, e78, h⟩ := ob h
      refine h_callV (pc := 78) (As := [vI x6, vI x3, vJ (x4 <<< (v58.toInt64 &&& 63))]) (st := []) (X' := X78) (cs' := 0) (sl' := 0) (st10 := []) B cal_X9_take kmX9_51 kn_X9_take ks_X9_take k35_1 (by decide) rfl (fun l hl => ct_X9_take hl e78) rfl (Nat.le_of_ble_eq_true rfl) (by decide) (by decide) dX9_place_78 rfl rfl rfl rfl ?_
      refine g_aload_n (pc := 81) B dX9_place_81 2 rfl ?_
      refine g_iload (pc := 82) B dX9_place_82 0 rfl ?_
      refine g_iload (pc := 84) B dX9_place_84 6 rfl ?_
      obtain ⟨k86_2, h⟩ := chk h
      obtain ⟨X86, e86, h⟩ := ob h
      refine h_callV (pc := 86) (As := [vI v58, vI x6]) (st := []) (X' := X86) (cs' := 0) (sl' := 0) (st10 := []) B cal_X10_hangAt kmX9_55 kn_X10_hangAt ks_X10_hangAt k86_2 (by decide) rfl (fun l hl => ct_X10_hangAt hl e86) rfl (Nat.le_of_ble_eq_true rfl) (by decide) (by decide) dX9_place_86 rfl rfl rfl rfl ?_
      obtain rfl := Option.some.inj h
      exact g_ret_V (pc := 89) B rfl (by decide) (by decide) dX9_place_89
theorem cb_X9_place_L32n {D : DD} {ev : EV} {X0 : Mem} {fu : Nat} (B : Amb D (foot X0) ev RX9 "place" cX9_place 8 (none) rmX9_place) (ht : Tb0 ev)  : ∀ (n : Nat) {X : Mem} {x0 : Nat} {x1 : Nat} {x2 : Int32} {x3 : Int32} {x4 : Int64} {x6 : Int32} {r : Mem}, fX9_place_L32 fu n X x0 x1 x2 x3 x4 x6 = some r → Gd D (foot X0) ev (QF D ev X0 (.inr (none)) r rmX9_place) X 0 0 32 [(0, vA (some x0)), (1, vA (some x1)), (2, vI x2), (3, vI x3), (4, vJ x4), (6, vI x6)] [] := by
  intro n
  induction n with
  | zero => intro X x0 x1 x2 x3 x4 x6 r h; exact nomatch h
  | succ n ih => intro X x0 x1 x2 x3 x4 x6 r h; exact cb_X9_place_L32b (fu := fu) B ht (fun h9 => ih h9) h
theorem cb_X9_place_L32 {D : DD} {ev : EV} {X0 : Mem} {fu : Nat} {X : Mem} {x0 : Nat} {x1 : Nat} {x2 : Int32} {x3 : Int32} {x4 : Int64} {x6 : Int32} {n : Nat} {r : Mem} (B : Amb D (foot X0) ev RX9 "place" cX9_place 8 (none) rmX9_place) (ht : Tb0 ev)  (h : fX9_place_L32 fu n X x0 x1 x2 x3 x4 x6 = some r) : Gd D (foot X0) ev (QF D ev X0 (.inr (none)) r rmX9_place) X 0 0 32 [(0, vA (some x0)), (1, vA (some x1)), (2, vI x2), (3, vI x3), (4, vJ x4), (6, vI x6)] [] := cb_X9_place_L32n B ht n h
set_option maxRecDepth 100000 in
set_option maxHeartbeats 4000000 in
theorem cb_X9_place_L0 {D : DD} {ev : EV} {X0 : Mem} {fu : Nat} {X : Mem} {x0 : Nat} {x1 : Option Nat} {r : Mem} (B : Amb D (foot X0) ev RX9 "place" cX9_place 8 (none) rmX9_place) (ht : Tb0 ev)  (h : fX9_place fu X x0 x1 = some r) : Gd D (foot X0) ev (QF D ev X0 (.inr (none)) r rmX9_place) X 0 0 0 [(0, vA (some x0)), (1, vA x1)] [] := by
  unfold fX9_place at h
  refine g_aload_n (pc := 0) B dX9_place_0 1 rfl ?_
  obtain ⟨a1_1, ea1_1, h⟩ := ob h
  rw [ea1_1]
  obtain ⟨k1_2, h⟩ := chk h
  refine g_getRN (pc := 1) 10 0 B k1_2 (by decide) (by decide) rfl kfX9_22 dX9_place_1 ?_
  obtain ⟨a4_3, ea4_3, h⟩ := ob h
  rw [ea4_3]
  obtain ⟨k4_4, h⟩ := chk h
  refine g_getRN (pc := 4) 5 5 B k4_4 (by decide) (by decide) rfl kfX9_28 dX9_place_4 ?_
  obtain ⟨a7_5, ea7_5, h⟩ := ob h
  rw [ea7_5]
  obtain ⟨k7_6, h⟩ := chk h
  obtain ⟨v7, e7, h⟩ := ob h
  refine h_callV (pc := 7) (As := []) (st := []) (X' := X) (cs' := 0) (sl' := 0) (st10 := [vI v7]) B cal_X2_cellsWide kmX9_34 kn_X2_cellsWide ks_X2_cellsWide k7_6 (by decide) rfl (fun l hl => ct_X2_cellsWide hl e7) rfl (Nat.le_of_ble_eq_true rfl) (by decide) (by decide) dX9_place_7 rfl rfl rfl rfl ?_
  refine g_istore_n (pc := 10) (L' := [(2, vI v7), (0, vA (some x0)), (1, vA (some a1_1))]) B dX9_place_10 (by decide) rfl ?_
  refine g_aload_n (pc := 11) B dX9_place_11 2 rfl ?_
  refine g_getRN (pc := 12) 10 0 B k1_2 (by decide) (by decide) rfl kfX9_22 dX9_place_12 ?_
  obtain ⟨a15_7, ea15_7, h⟩ := ob h
  rw [ea15_7]
  obtain ⟨k15_8, h⟩ := chk h
  refine g_getRN (pc := 15) 5 5 B k15_8 (by decide) (by decide) rfl kfX9_28 dX9_place_15 ?_
  obtain ⟨a18_9, ea18_9, h⟩ := ob h
  rw [ea18_9]
  obtain ⟨k18_10, h⟩ := chk h
  obtain ⟨v18, e18, h⟩ := ob h
  refine h_callV (pc := 18) (As := []) (st := []) (X' := X) (cs' := 0) (sl' := 0) (st10 := [vI v18]) B cal_X2_cellsHigh kmX9_40 kn_X2_cellsHigh ks_X2_cellsHigh k18_10 (by decide) rfl (fun l hl => ct_X2_cellsHigh hl e18) rfl (Nat.le_of_ble_eq_true rfl) (by decide) (by decide) dX9_place_18 rfl rfl rfl rfl ?_
  refine g_istore_n (pc := 21) (L' := [(3, vI v18), (2, vI v7), (0, vA (some x0)), (1, vA (some a1_1))]) B dX9_place_21 (by decide) rfl ?_
  refine g_lconst (pc := 22) B dX9_place_22 (1 : Int64) (by decide) ?_
  refine g_iload_n (pc := 23) B dX9_place_23 1 rfl ?_
  refine g_lshl (pc := 24) B dX9_place_24 ?_
  refine g_lconst (pc := 25) B dX9_place_25 (1 : Int64) (by decide) ?_
  refine g_lsub (pc := 26) B dX9_place_26 ?_
  refine g_lstore (pc := 27) (L' := [(4, vJ (((1 : Int64) <<< (v7.toInt64 &&& 63)) - (1 : Int64))), (3, vI v18), (2, vI v7), (0, vA (some x0)), (1, vA (some a1_1))]) B dX9_place_27 (by decide) rfl ?_
  refine g_iconst (pc := 29) B dX9_place_29 (0 : Int32) (by decide) ?_
  refine g_istore (pc := 30) (L' := [(6, vI (0 : Int32)), (4, vJ (((1 : Int64) <<< (v7.toInt64 &&& 63)) - (1 : Int64))), (3, vI v18), (2, vI v7), (0, vA (some x0)), (1, vA (some a1_1))]) B dX9_place_30 (by decide) rfl ?_
  refine g_sub (pc := 32) [4, 5, 3, 2, 1, 0] rfl ?_
  exact cb_X9_place_L32 B ht h
theorem ct_X9_place {D : DD} {l : Launch} {X0 : Mem} {fu : Nat} {x0 : Nat} {x1 : Option Nat} {r : Mem} (hl : l.stackTraces = false) (h : fX9_place fu X0 x0 x1 = some r) : Ctr D l yX9_place cX9_place 8 (none) rmX9_place [vA (some x0), vA x1] X0 (.inr (none)) r :=
  ctr_of hl (plainFor_of_name (by decide)) (Nat.le_of_ble_eq_true rfl) fun ev _ ht B => cb_X9_place_L0 B ht h
set_option maxRecDepth 100000 in
set_option maxHeartbeats 4000000 in
theorem cb_X11_layWall_L64 {D : DD} {ev : EV} {X0 : Mem} {fu : Nat} {rec9 : Mem → Nat → Int32 → Option (Mem)} {X : Mem} {x0 : Nat} {x1 : Int32} {r : Mem} (B : Amb D (foot X0) ev RX11 "layWall" cX11_layWall 3 (none) rmX11_layWall) (ht : Tb0 ev) (hrec9 : ∀ {X : Mem} {x0 : Nat} {x1 : Int32} {r : Mem}, rec9 X x0 x1 = some r → Gd D (foot X0) ev (QF D ev X0 (.inr (none)) r rmX11_layWall) X 0 0 9 [(0, vA (some x0)), (1, vI x1)] []) (h : fX11_layWall_L64 fu rec9 X x0 x1 = some r) : Gd D (foot X0) ev (QF D ev X0 (.inr (none)) r rmX11_layWall) X 0 0 64 [(0, vA (some x0)), (1, vI x1)] [] := by
  unfold fX11_layWall_L64 at h
  refine g_iinc (pc := 64) (v := (x1 + (1 : Int32))) (L' := [(1, vI (x1 + (1 : Int32))), (0, vA (some x0))]) B dX11_layWall_64 (by decide) 1 rfl rfl rfl ?_
  refine g_goto (pc := 67) (tgt := 9) B dX11_layWall_67 (by decide) ?_
  refine g_sub (pc := 9) [1, 0] rfl ?_
  exact hrec9 h
set_option maxRecDepth 100000 in
set_option maxHeartbeats 4000000 in
theorem cb_X11_layWall_L9b {D : DD} {ev : EV} {X0 : Mem} {fu : Nat} {rec9 : Mem → Nat → Int32 → Option (Mem)} {X : Mem} {x0 : Nat} {x1 : Int32} {r : Mem} (B : Amb D (foot X0) ev RX11 "layWall" cX11_layWall 3 (none) rmX11_layWall) (ht : Tb0 ev) (hrec9 : ∀ {X : Mem} {x0 : Nat} {x1 : Int32} {r : Mem}, rec9 X x0 x1 = some r → Gd D (foot X0) ev (QF D ev X0 (.inr (none)) r rmX11_layWall) X 0 0 9 [(0, vA (some x0)), (1, vI x1)] []) (h : fX11_layWall_L9b fu rec9 X x0 x1 = some r) : Gd D (foot X0) ev (QF D ev X0 (.inr (none)) r rmX11_layWall) X 0 0 9 [(0, vA (some x0)), (1, vI x1)] [] := by
  unfold fX11_layWall_L9b at h
  refine g_iload_n (pc := 9) B dX11_layWall_9 1 rfl ?_
  refine g_aload_n (pc := 10) B dX11_layWall_10 0 rfl ?_
  obtain ⟨k11_1, h⟩ := chk h
  refine g_getI (pc := 11) 11 10 B k11_1 (by decide) (by decide) rfl kfX11_160 dX11_layWall_11 ?_
  refine g_icmp_ge (pc := 14) (tgt := 70) B dX11_layWall_14 (by decide) (fun c14 => ?_) (fun c14 => ?_)
  · rw [if_pos c14] at h
    obtain rfl := Option.some.inj h
    exact g_ret_V (pc := 70) B rfl (by decide) (by decide) dX11_layWall_70
  · rw [if_neg c14] at h
    refine g_iload_n (pc := 17) B dX11_layWall_17 1 rfl ?_
    refine g_aload_n (pc := 18) B dX11_layWall_18 0 rfl ?_
    refine g_getR (pc := 19) 11 7 B k11_1 (by decide) (by decide) rfl kfX11_58 dX11_layWall_19 ?_
    obtain ⟨a22_2, ea22_2, h⟩ := ob h
    rw [ea22_2]
    obtain ⟨n22_2, en22_2, h⟩ := ob h
    obtain ⟨tn22_2, kn22_2, qn22_2⟩ := alen_s en22_2
    refine g_alen (pc := 22) B kn22_2 qn22_2 dX11_layWall_22 ?_
    refine g_icmp_ge (pc := 23) (tgt := 70) B dX11_layWall_23 (by decide) (fun c23 => ?_) (fun c23 => ?_)
    · rw [if_pos c23] at h
      obtain rfl := Option.some.inj h
      exact g_ret_V (pc := 70) B rfl (by decide) (by decide) dX11_layWall_70
    · rw [if_neg c23] at h
      refine g_aload_n (pc := 26) B dX11_layWall_26 0 rfl ?_
      refine g_getR (pc := 27) 11 7 B k11_1 (by decide) (by decide) rfl kfX11_58 dX11_layWall_27 ?_
      refine g_iload_n (pc := 30) B dX11_layWall_30 1 rfl ?_
      obtain ⟨a31_4, ea31_4, h⟩ := ob h
      rw [ea31_4]
      obtain ⟨c31, h⟩ := chk h
      obtain ⟨nc31, kc31, ic31⟩ := inb_s c31
      refine g_aald (pc := 31) B kc31 (by decide) (by decide) ic31 dX11_layWall_31 ?_
      refine g_astore_n (pc := 32) (L' := [(2, vA (aR X a31_4 x1.toNatClampNeg)), (0, vA (some x0)), (1, vI x1)]) B dX11_layWall_32 (by decide) rfl ?_
      refine g_aload_n (pc := 33) B dX11_layWall_33 0 rfl ?_
      refine g_ifnull (pc := 34) (tgt := 64) B dX11_layWall_34 (by decide) (fun c34 => ?_) (fun c34 => ?_)
      · rw [if_pos c34] at h
        refine g_sub (pc := 64) [1, 2] rfl ?_
        exact cb_X11_layWall_L64 B ht hrec9 h
      · rw [if_neg c34] at h
        refine g_aload_n (pc := 37) B dX11_layWall_37 0 rfl ?_
        refine g_iconst (pc := 38) B dX11_layWall_38 (0 : Int32) (by decide) ?_
        obtain ⟨a39_5, ea39_5, h⟩ := ob h
        rw [ea39_5]
        obtain ⟨k39_6, h⟩ := chk h
        refine g_putZN (pc := 39) 10 4 B k39_6 (by decide) (by decide) rfl (Or.inl rfl) rfl kfX11_237 dX11_layWall_39 ?_
        refine g_aload_n (pc := 42) B dX11_layWall_42 0 rfl ?_
        obtain ⟨v43, e43, h⟩ := ob h
        refine h_callV (pc := 43) (As := []) (st := []) (X' := (wI X 1004 a39_5 (0 : Int32))) (cs' := 0) (sl' := 0) (st10 := [vI v43]) B cal_X10_meetsExercise kmX11_230 kn_X10_meetsExercise ks_X10_meetsExercise k39_6 (by decide) rfl (fun l hl => ct_X10_meetsExercise hl e43) rfl (Nat.le_of_ble_eq_true rfl) (by decide) (by decide) dX11_layWall_43 rfl rfl rfl rfl ?_
        refine g_if_eq (pc := 46) (tgt := 64) B dX11_layWall_46 (by decide) (fun c46 => ?_) (fun c46 => ?_)
        · rw [if_pos c46] at h
          refine g_sub (pc := 64) [1, 2] rfl ?_
          exact cb_X11_layWall_L64 B ht hrec9 h
        · rw [if_neg c46] at h
          refine g_aload_n (pc := 49) B dX11_layWall_49 0 rfl ?_
          obtain ⟨v50, e50, h⟩ := ob h
          refine h_callV (pc := 50) (As := []) (st := []) (X' := (wI X 1004 a39_5 (0 : Int32))) (cs' := 0) (sl' := 0) (st10 := [vI v50]) B cal_X10_isInDoubt kmX11_294 kn_X10_isInDoubt ks_X10_isInDoubt k39_6 (by decide) rfl (fun l hl => ct_X10_isInDoubt hl e50) rfl (Nat.le_of_ble_eq_true rfl) (by decide) (by decide) dX11_layWall_50 rfl rfl rfl rfl ?_
          refine g_if_ne (pc := 53) (tgt := 64) B dX11_layWall_53 (by decide) (fun c53 => ?_) (fun c53 => ?_)
          · rw [if_neg c53] at h
            refine g_sub (pc := 64) [1, 2] rfl ?_
            exact cb_X11_layWall_L64 B ht hrec9 h
          · rw [if_pos c53] at h
            refine g_aload_n (pc := 56) B dX11_layWall_56 1 rfl ?_
            refine g_getR (pc := 57) 11 4 B k11_1 (by decide) (by decide) rfl kfX11_40 dX11_layWall_57 ?_
            refine g_aload_n (pc := 60) B dX11_layWall_60 0 rfl ?_
            obtain ⟨a61_7, ea61_7, h⟩ := ob h
            rw [ea61_7]
            obtain ⟨k61_8, h⟩ := chk h
            obtain ⟨X61, e61, h⟩ := ob h
            refine h_callV (pc := 61) (As := [vA (some a39_5)]) (st := []) (X' := X61) (cs' := 0) (sl' := 0) (st10 := []) B cal_X9_place kmX11_297 kn_X9_place ks_X9_place k61_8 (by decide) rfl (fun l hl => ct_X9_place hl e61) rfl (Nat.le_of_ble_eq_true rfl) (by decide) (by decide) dX11_layWall_61 rfl rfl rfl rfl ?_
            refine g_sub (pc := 64) [1, 2] rfl ?_
            exact cb_X11_layWall_L64 B ht hrec9 h
theorem cb_X11_layWall_L9n {D : DD} {ev : EV} {X0 : Mem} {fu : Nat} (B : Amb D (foot X0) ev RX11 "layWall" cX11_layWall 3 (none) rmX11_layWall) (ht : Tb0 ev)  : ∀ (n : Nat) {X : Mem} {x0 : Nat} {x1 : Int32} {r : Mem}, fX11_layWall_L9 fu n X x0 x1 = some r → Gd D (foot X0) ev (QF D ev X0 (.inr (none)) r rmX11_layWall) X 0 0 9 [(0, vA (some x0)), (1, vI x1)] [] := by
  intro n
  induction n with
  | zero => intro X x0 x1 r h; exact nomatch h
  | succ n ih => intro X x0 x1 r h; exact cb_X11_layWall_L9b (fu := fu) B ht (fun h9 => ih h9) h
theorem cb_X11_layWall_L9 {D : DD} {ev : EV} {X0 : Mem} {fu : Nat} {X : Mem} {x0 : Nat} {x1 : Int32} {n : Nat} {r : Mem} (B : Amb D (foot X0) ev RX11 "layWall" cX11_layWall 3 (none) rmX11_layWall) (ht : Tb0 ev)  (h : fX11_layWall_L9 fu n X x0 x1 = some r) : Gd D (foot X0) ev (QF D ev X0 (.inr (none)) r rmX11_layWall) X 0 0 9 [(0, vA (some x0)), (1, vI x1)] [] := cb_X11_layWall_L9n B ht n h
set_option maxRecDepth 100000 in
set_option maxHeartbeats 4000000 in
theorem cb_X11_layWall_L0 {D : DD} {ev : EV} {X0 : Mem} {fu : Nat} {X : Mem} {x0 : Nat} {r : Mem} (B : Amb D (foot X0) ev RX11 "layWall" cX11_layWall 3 (none) rmX11_layWall) (ht : Tb0 ev)  (h : fX11_layWall fu X x0 = some r) : Gd D (foot X0) ev (QF D ev X0 (.inr (none)) r rmX11_layWall) X 0 0 0 [(0, vA (some x0))] [] := by
  unfold fX11_layWall at h
  refine g_aload_n (pc := 0) B dX11_layWall_0 0 rfl ?_
  obtain ⟨k1_1, h⟩ := chk h
  refine g_getR (pc := 1) 11 4 B k1_1 (by decide) (by decide) rfl kfX11_40 dX11_layWall_1 ?_
  obtain ⟨a4_2, ea4_2, h⟩ := ob h
  rw [ea4_2]
  obtain ⟨k4_3, h⟩ := chk h
  obtain ⟨X4, e4, h⟩ := ob h
  refine h_callV (pc := 4) (As := []) (st := []) (X' := X4) (cs' := 0) (sl' := 0) (st10 := []) B cal_X9_makeEmpty kmX11_293 kn_X9_makeEmpty ks_X9_makeEmpty k4_3 (by decide) rfl (fun l hl => ct_X9_makeEmpty hl e4) rfl (Nat.le_of_ble_eq_true rfl) (by decide) (by decide) dX11_layWall_4 rfl rfl rfl rfl ?_
  refine g_iconst (pc := 7) B dX11_layWall_7 (0 : Int32) (by decide) ?_
  refine g_istore_n (pc := 8) (L' := [(1, vI (0 : Int32)), (0, vA (some x0))]) B dX11_layWall_8 (by decide) rfl ?_
  refine g_sub (pc := 9) [1, 0] rfl ?_
  exact cb_X11_layWall_L9 B ht h
theorem ct_X11_layWall {D : DD} {l : Launch} {X0 : Mem} {fu : Nat} {x0 : Nat} {r : Mem} (hl : l.stackTraces = false) (h : fX11_layWall fu X0 x0 = some r) : Ctr D l yX11_layWall cX11_layWall 3 (none) rmX11_layWall [vA (some x0)] X0 (.inr (none)) r :=
  ctr_of hl (plainFor_of_name (by decide)) (Nat.le_of_ble_eq_true rfl) fun ev _ ht B => cb_X11_layWall_L0 B ht h
set_option maxRecDepth 100000 in
set_option maxHeartbeats 4000000 in
theorem cb_X11_countMeeting_L54 {D : DD} {ev : EV} {X0 : Mem} {fu : Nat} {rec4 : Nat → (Option Nat) → Int32 → Int32 → Option (Int32)} {x0 : Nat} {x1 : Option Nat} {x2 : Int32} {x3 : Int32} {r : Int32} (B : Amb D (foot X0) ev RX11 "countMeeting" cX11_countMeeting 5 (some .int) rmX11_countMeeting) (ht : Tb0 ev) (hrec4 : ∀ {x0 : Nat} {x1 : Option Nat} {x2 : Int32} {x3 : Int32} {r : Int32}, rec4 x0 x1 x2 x3 = some r → Gd D (foot X0) ev (QF D ev X0 (.inr (some (vI r))) X0 rmX11_countMeeting) X0 0 0 4 [(0, vA (some x0)), (1, vA x1), (2, vI x2), (3, vI x3)] []) (h : fX11_countMeeting_L54 fu X0 rec4 x0 x1 x2 x3 = some r) : Gd D (foot X0) ev (QF D ev X0 (.inr (some (vI r))) X0 rmX11_countMeeting) X0 0 0 54 [(0, vA (some x0)), (1, vA x1), (2, vI x2), (3, vI x3)] [] := by
  unfold fX11_countMeeting_L54 at h
  refine g_iinc (pc := 54) (v := (x3 + (1 : Int32))) (L' := [(3, vI (x3 + (1 : Int32))), (0, vA (some x0)), (1, vA x1), (2, vI x2)]) B dX11_countMeeting_54 (by decide) 3 rfl rfl rfl ?_
  refine g_goto (pc := 57) (tgt := 4) B dX11_countMeeting_57 (by decide) ?_
  refine g_sub (pc := 4) [1, 2, 3, 0] rfl ?_
  exact hrec4 h
set_option maxRecDepth 100000 in
set_option maxHeartbeats 4000000 in
theorem cb_X11_countMeeting_L4b {D : DD} {ev : EV} {X0 : Mem} {fu : Nat} {rec4 : Nat → (Option Nat) → Int32 → Int32 → Option (Int32)} {x0 : Nat} {x1 : Option Nat} {x2 : Int32} {x3 : Int32} {r : Int32} (B : Amb D (foot X0) ev RX11 "countMeeting" cX11_countMeeting 5 (some .int) rmX11_countMeeting) (ht : Tb0 ev) (hrec4 : ∀ {x0 : Nat} {x1 : Option Nat} {x2 : Int32} {x3 : Int32} {r : Int32}, rec4 x0 x1 x2 x3 = some r → Gd D (foot X0) ev (QF D ev X0 (.inr (some (vI r))) X0 rmX11_countMeeting) X0 0 0 4 [(0, vA (some x0)), (1, vA x1), (2, vI x2), (3, vI x3)] []) (h : fX11_countMeeting_L4b fu X0 rec4 x0 x1 x2 x3 = some r) : Gd D (foot X0) ev (QF D ev X0 (.inr (some (vI r))) X0 rmX11_countMeeting) X0 0 0 4 [(0, vA (some x0)), (1, vA x1), (2, vI x2), (3, vI x3)] [] := by
  unfold fX11_countMeeting_L4b at h
  refine g_iload_n (pc := 4) B dX11_countMeeting_4 3 rfl ?_
  refine g_aload_n (pc := 5) B dX11_countMeeting_5 0 rfl ?_
  obtain ⟨k6_1, h⟩ := chk h
  refine g_getI (pc := 6) 11 10 B k6_1 (by decide) (by decide) rfl kfX11_160 dX11_countMeeting_6 ?_
  refine g_icmp_ge (pc := 9) (tgt := 60) B dX11_countMeeting_9 (by decide) (fun c9 => ?_) (fun c9 => ?_)
  · rw [if_pos c9] at h
    refine g_iload_n (pc := 60) B dX11_countMeeting_60 2 rfl ?_
    obtain rfl := Option.some.inj h
    exact g_ret_I (pc := 61) B rfl (by decide) (by decide) dX11_countMeeting_61
  · rw [if_neg c9] at h
    refine g_iload_n (pc := 12) B dX11_countMeeting_12 3 rfl ?_
    refine g_aload_n (pc := 13) B dX11_countMeeting_13 0 rfl ?_
    refine g_getR (pc := 14) 11 7 B k6_1 (by decide) (by decide) rfl kfX11_58 dX11_countMeeting_14 ?_
    obtain ⟨a17_2, ea17_2, h⟩ := ob h
    rw [ea17_2]
    obtain ⟨n17_2, en17_2, h⟩ := ob h
    obtain ⟨tn17_2, kn17_2, qn17_2⟩ := alen_s en17_2
    refine g_alen (pc := 17) B kn17_2 qn17_2 dX11_countMeeting_17 ?_
    refine g_icmp_ge (pc := 18) (tgt := 60) B dX11_countMeeting_18 (by decide) (fun c18 => ?_) (fun c18 => ?_)
    · rw [if_pos c18] at h
      refine g_iload_n (pc := 60) B dX11_countMeeting_60 2 rfl ?_
      obtain rfl := Option.some.inj h
      exact g_ret_I (pc := 61) B rfl (by decide) (by decide) dX11_countMeeting_61
    · rw [if_neg c18] at h
      refine g_aload_n (pc := 21) B dX11_countMeeting_21 0 rfl ?_
      refine g_getR (pc := 22) 11 7 B k6_1 (by decide) (by decide) rfl kfX11_58 dX11_countMeeting_22 ?_
      refine g_iload_n (pc := 25) B dX11_countMeeting_25 3 rfl ?_
      obtain ⟨a26_4, ea26_4, h⟩ := ob h
      rw [ea26_4]
      obtain ⟨c26, h⟩ := chk h
      obtain ⟨nc26, kc26, ic26⟩ := inb_s c26
      refine g_aald (pc := 26) B kc26 (by decide) (by decide) ic26 dX11_countMeeting_26 ?_
      refine g_astore (pc := 27) (L' := [(4, vA (aR X0 a26_4 x3.toNatClampNeg)), (0, vA (some x0)), (1, vA x1), (2, vI x2), (3, vI x3)]) B dX11_countMeeting_27 (by decide) rfl ?_
      refine g_aload (pc := 29) B dX11_countMeeting_29 0 rfl ?_
      refine g_ifnull (pc := 31) (tgt := 54) B dX11_countMeeting_31 (by decide) (fun c31 => ?_) (fun c31 => ?_)
      · rw [if_pos c31] at h
        refine g_sub (pc := 54) [1, 2, 3, 4] rfl ?_
        exact cb_X11_countMeeting_L54 B ht hrec4 h
      · rw [if_neg c31] at h
        refine g_aload (pc := 34) B dX11_countMeeting_34 0 rfl ?_
        obtain ⟨a36_5, ea36_5, h⟩ := ob h
        rw [ea36_5]
        obtain ⟨k36_6, h⟩ := chk h
        refine g_getRN (pc := 36) 10 1 B k36_6 (by decide) (by decide) rfl kfX11_289 dX11_countMeeting_36 ?_
        refine g_aload_n (pc := 39) B dX11_countMeeting_39 2 rfl ?_
        refine g_acmp_ne (pc := 40) (tgt := 54) B dX11_countMeeting_40 (by decide) (fun c40 => ?_) (fun c40 => ?_)
        · rw [if_neg c40] at h
          refine g_sub (pc := 54) [1, 2, 3, 4] rfl ?_
          exact cb_X11_countMeeting_L54 B ht hrec4 h
        · rw [if_pos c40] at h
          refine g_aload (pc := 43) B dX11_countMeeting_43 0 rfl ?_
          obtain ⟨v45, e45, h⟩ := ob h
          refine h_callV (pc := 45) (As := []) (st := []) (X' := X0) (cs' := 0) (sl' := 0) (st10 := [vI v45]) B cal_X10_meetsExercise kmX11_230 kn_X10_meetsExercise ks_X10_meetsExercise k36_6 (by decide) rfl (fun l hl => ct_X10_meetsExercise hl e45) rfl (Nat.le_of_ble_eq_true rfl) (by decide) (by decide) dX11_countMeeting_45 rfl rfl rfl rfl ?_
          refine g_if_eq (pc := 48) (tgt := 54) B dX11_countMeeting_48 (by decide) (fun c48 => ?_) (fun c48 => ?_)
          · rw [if_pos c48] at h
            refine g_sub (pc := 54) [1, 2, 3, 4] rfl ?_
            exact cb_X11_countMeeting_L54 B ht hrec4 h
          · rw [if_neg c48] at h
            refine g_iinc (pc := 51) (v := (x2 + (1 : Int32))) (L' := [(2, vI (x2 + (1 : Int32))), (4, vA (some a36_5)), (0, vA (some x0)), (1, vA x1), (3, vI x3)]) B dX11_countMeeting_51 (by decide) 3 rfl rfl rfl ?_
            refine g_sub (pc := 54) [2, 3, 0, 4] rfl ?_
            exact cb_X11_countMeeting_L54 B ht hrec4 h
theorem cb_X11_countMeeting_L4n {D : DD} {ev : EV} {X0 : Mem} {fu : Nat} (B : Amb D (foot X0) ev RX11 "countMeeting" cX11_countMeeting 5 (some .int) rmX11_countMeeting) (ht : Tb0 ev)  : ∀ (n : Nat) {x0 : Nat} {x1 : Option Nat} {x2 : Int32} {x3 : Int32} {r : Int32}, fX11_countMeeting_L4 fu X0 n x0 x1 x2 x3 = some r → Gd D (foot X0) ev (QF D ev X0 (.inr (some (vI r))) X0 rmX11_countMeeting) X0 0 0 4 [(0, vA (some x0)), (1, vA x1), (2, vI x2), (3, vI x3)] [] := by
  intro n
  induction n with
  | zero => intro x0 x1 x2 x3 r h; exact nomatch h
  | succ n ih => intro x0 x1 x2 x3 r h; exact cb_X11_countMeeting_L4b (fu := fu) B ht (fun h9 => ih h9) h
theorem cb_X11_countMeeting_L4 {D : DD} {ev : EV} {X0 : Mem} {fu : Nat} {x0 : Nat} {x1 : Option Nat} {x2 : Int32} {x3 : Int32} {n : Nat} {r : Int32} (B : Amb D (foot X0) ev RX11 "countMeeting" cX11_countMeeting 5 (some .int) rmX11_countMeeting) (ht : Tb0 ev)  (h : fX11_countMeeting_L4 fu X0 n x0 x1 x2 x3 = some r) : Gd D (foot X0) ev (QF D ev X0 (.inr (some (vI r))) X0 rmX11_countMeeting) X0 0 0 4 [(0, vA (some x0)), (1, vA x1), (2, vI x2), (3, vI x3)] [] := cb_X11_countMeeting_L4n B ht n h
set_option maxRecDepth 100000 in
set_option maxHeartbeats 4000000 in
theorem cb_X11_countMeeting_L0 {D : DD} {ev : EV} {X0 : Mem} {fu : Nat} {x0 : Nat} {x1 : Option Nat} {r : Int32} (B : Amb D (foot X0) ev RX11 "countMeeting" cX11_countMeeting 5 (some .int) rmX11_countMeeting) (ht : Tb0 ev)  (h : fX11_countMeeting fu X0 x0 x1 = some r) : Gd D (foot X0) ev (QF D ev X0 (.inr (some (vI r))) X0 rmX11_countMeeting) X0 0 0 0 [(0, vA (some x0)), (1, vA x1)] [] := by
  unfold fX11_countMeeting at h
  refine g_iconst (pc := 0) B dX11_countMeeting_0 (0 : Int32) (by decide) ?_
  refine g_istore_n (pc := 1) (L' := [(2, vI (0 : Int32)), (0, vA (some x0)), (1, vA x1)]) B dX11_countMeeting_1 (by decide) rfl ?_
  refine g_iconst (pc := 2) B dX11_countMeeting_2 (0 : Int32) (by decide) ?_
  refine g_istore_n (pc := 3) (L' := [(3, vI (0 : Int32)), (2, vI (0 : Int32)), (0, vA (some x0)), (1, vA x1)]) B dX11_countMeeting_3 (by decide) rfl ?_
  refine g_sub (pc := 4) [2, 3, 1, 0] rfl ?_
  exact cb_X11_countMeeting_L4 B ht h
theorem ct_X11_countMeeting {D : DD} {l : Launch} {X0 : Mem} {fu : Nat} {x0 : Nat} {x1 : Option Nat} {r : Int32} (hl : l.stackTraces = false) (h : fX11_countMeeting fu X0 x0 x1 = some r) : Ctr D l yX11_countMeeting cX11_countMeeting 5 (some .int) rmX11_countMeeting [vA (some x0), vA x1] X0 (.inr (some (vI r))) X0 :=
  ctr_of hl (plainFor_of_name (by decide)) (Nat.le_of_ble_eq_true rfl) fun ev _ ht B => cb_X11_countMeeting_L0 B ht h
set_option maxRecDepth 100000 in
set_option maxHeartbeats 4000000 in
theorem cb_X11_allow_L0 {D : DD} {ev : EV} {X0 : Mem} {fu : Nat} {x0 : Nat} {x1 : Int32} {x2 : Int32} {x3 : Int32} {r : Int32 × Mem} (B : Amb D (foot X0) ev RX11 "allow" cX11_allow 5 (some .int) rmX11_allow) (ht : Tb0 ev)  (h : fX11_allow fu X0 x0 x1 x2 x3 = some (.inr r)) : Gd D (foot X0) ev (QF D ev X0 (.inr (some (vI r.1))) r.2 rmX11_allow) X0 0 0 0 [(0, vA (some x0)), (1, vI x1), (2, vI x2), (3, vI x3)] [] := by
  unfold fX11_allow at h
  refine g_aload_n (pc := 0) B dX11_allow_0 0 rfl ?_
  refine g_iload_n (pc := 1) B dX11_allow_1 1 rfl ?_
  obtain ⟨k2_1, h⟩ := chk h
  rcases bE_c h with ⟨E2, e2, hr2⟩ | ⟨v2, e2, h⟩
  · exact nomatch hr2
  refine h_callV (pc := 2) (As := [vI x1]) (st := []) (X' := X0) (cs' := 0) (sl' := 0) (st10 := [vA v2]) B cal_X11_exerciseAt kmX11_146 kn_X11_exerciseAt ks_X11_exerciseAt k2_1 (by decide) rfl (fun l hl => ct_X11_exerciseAt hl e2) rfl (Nat.le_of_ble_eq_true rfl) (by decide) (by decide) dX11_allow_2 rfl rfl rfl rfl ?_
  refine g_astore (pc := 5) (L' := [(4, vA v2), (0, vA (some x0)), (1, vI x1), (2, vI x2), (3, vI x3)]) B dX11_allow_5 (by decide) rfl ?_
  refine g_iload_n (pc := 7) B dX11_allow_7 3 rfl ?_
  refine g_iload_n (pc := 8) B dX11_allow_8 4 rfl ?_
  rcases bE_c h with ⟨E9, e9, hr9⟩ | ⟨v9, e9, h⟩
  · exact nomatch hr9
  refine h_callS (pc := 9) (As := [vI x2, vI x3]) (st := []) (X' := X0) (cs' := 0) (sl' := 0) (st10 := []) B cal_X11_checkAllowance kmX11_135 kz_X11_checkAllowance (fun l hl => ct_X11_checkAllowance hl e9) rfl (Nat.le_of_ble_eq_true rfl) (by decide) (by decide) dX11_allow_9 rfl rfl rfl rfl ?_
  refine g_aload (pc := 12) B dX11_allow_12 0 rfl ?_
  refine g_iload_n (pc := 14) B dX11_allow_14 3 rfl ?_
  refine g_iload_n (pc := 15) B dX11_allow_15 4 rfl ?_
  obtain ⟨a16_2, ea16_2, h⟩ := ob h
  rw [ea16_2]
  obtain ⟨k16_3, h⟩ := chk h
  obtain ⟨X16, e16, h⟩ := ob h
  refine h_callV (pc := 16) (As := [vI x2, vI x3]) (st := []) (X' := X16) (cs' := 0) (sl' := 0) (st10 := []) B cal_X3_allowAtMost kmX11_150 kn_X3_allowAtMost ks_X3_allowAtMost k16_3 (by decide) rfl (fun l hl => ct_X3_allowAtMost hl e16) rfl (Nat.le_of_ble_eq_true rfl) (by decide) (by decide) dX11_allow_16 rfl rfl rfl rfl ?_
  refine g_aload_n (pc := 19) B dX11_allow_19 1 rfl ?_
  obtain ⟨k20_4, h⟩ := chk h
  obtain ⟨X20, e20, h⟩ := ob h
  refine h_callV (pc := 20) (As := []) (st := []) (X' := X20) (cs' := 0) (sl' := 0) (st10 := []) B cal_X11_layWall kmX11_153 kn_X11_layWall ks_X11_layWall k20_4 (by decide) rfl (fun l hl => ct_X11_layWall hl e20) rfl (Nat.le_of_ble_eq_true rfl) (by decide) (by decide) dX11_allow_20 rfl rfl rfl rfl ?_
  refine g_aload_n (pc := 23) B dX11_allow_23 1 rfl ?_
  refine g_aload (pc := 24) B dX11_allow_24 0 rfl ?_
  obtain ⟨k26_5, h⟩ := chk h
  obtain ⟨v26, e26, h⟩ := ob h
  refine h_callV (pc := 26) (As := [vA (some a16_2)]) (st := []) (X' := X20) (cs' := 0) (sl' := 0) (st10 := [vI v26]) B cal_X11_countMeeting kmX11_156 kn_X11_countMeeting ks_X11_countMeeting k26_5 (by decide) rfl (fun l hl => ct_X11_countMeeting hl e26) rfl (Nat.le_of_ble_eq_true rfl) (by decide) (by decide) dX11_allow_26 rfl rfl rfl rfl ?_
  obtain rfl := Sum.inr.inj (Option.some.inj h)
  exact g_ret_I (pc := 29) B rfl (by decide) (by decide) dX11_allow_29
theorem ct_X11_allow {D : DD} {l : Launch} {X0 : Mem} {fu : Nat} {x0 : Nat} {x1 : Int32} {x2 : Int32} {x3 : Int32} {r : Int32 × Mem} (hl : l.stackTraces = false) (h : fX11_allow fu X0 x0 x1 x2 x3 = some (.inr r)) : Ctr D l yX11_allow cX11_allow 5 (some .int) rmX11_allow [vA (some x0), vI x1, vI x2, vI x3] X0 (.inr (some (vI r.1))) r.2 :=
  ctr_of hl (plainFor_of_name (by decide)) (Nat.le_of_ble_eq_true rfl) fun ev _ ht B => cb_X11_allow_L0 B ht h
set_option maxRecDepth 100000 in
set_option maxHeartbeats 4000000 in
theorem cb_X5_hasFormOf_L17b {D : DD} {ev : EV} {X0 : Mem} {fu : Nat} {rec17 : Nat → Nat → Int32 → Option (Int32)} {x0 : Nat} {x1 : Nat} {x2 : Int32} {r : Int32} (B : Amb D (foot X0) ev RX5 "hasFormOf" cX5_hasFormOf 3 (some .boolean) rmX5_hasFormOf) (ht : Tb0 ev) (hrec17 : ∀ {x0 : Nat} {x1 : Nat} {x2 : Int32} {r : Int32}, rec17 x0 x1 x2 = some r → Gd D (foot X0) ev (QF D ev X0 (.inr (some (vI r))) X0 rmX5_hasFormOf) X0 0 0 17 [(0, vA (some x0)), (1, vA (some x1)), (2, vI x2)] []) (h : fX5_hasFormOf_L17b fu X0 rec17 x0 x1 x2 = some r) : Gd D (foot X0) ev (QF D ev X0 (.inr (some (vI r))) X0 rmX5_hasFormOf) X0 0 0 17 [(0, vA (some x0)), (1, vA (some x1)), (2, vI x2)] [] := by
  unfold fX5_hasFormOf_L17b at h
  refine g_iload_n (pc := 17) B dX5_hasFormOf_17 2 rfl ?_
  refine g_aload_n (pc := 18) B dX5_hasFormOf_18 0 rfl ?_
  obtain ⟨k19_1, h⟩ := chk h
  refine g_getR (pc := 19) 5 4 B k19_1 (by decide) (by decide) rfl kfX5_31 dX5_hasFormOf_19 ?_
  obtain ⟨a22_2, ea22_2, h⟩ := ob h
  rw [ea22_2]
  obtain ⟨n22_2, en22_2, h⟩ := ob h
  obtain ⟨tn22_2, kn22_2, qn22_2⟩ := alen_s en22_2
  refine g_alen (pc := 22) B kn22_2 qn22_2 dX5_hasFormOf_22 ?_
  refine g_icmp_ge (pc := 23) (tgt := 58) B dX5_hasFormOf_23 (by decide) (fun c23 => ?_) (fun c23 => ?_)
  · rw [if_pos c23] at h
    refine g_iconst (pc := 58) B dX5_hasFormOf_58 (1 : Int32) (by decide) ?_
    obtain rfl := Option.some.inj h
    exact g_ret_Z (pc := 59) B rfl (Or.inr rfl) (by decide) (by decide) dX5_hasFormOf_59
  · rw [if_neg c23] at h
    refine g_iload_n (pc := 26) B dX5_hasFormOf_26 2 rfl ?_
    refine g_aload_n (pc := 27) B dX5_hasFormOf_27 1 rfl ?_
    obtain ⟨k28_4, h⟩ := chk h
    refine g_getR (pc := 28) 5 4 B k28_4 (by decide) (by decide) rfl kfX5_31 dX5_hasFormOf_28 ?_
    obtain ⟨a31_5, ea31_5, h⟩ := ob h
    rw [ea31_5]
    obtain ⟨n31_5, en31_5, h⟩ := ob h
    obtain ⟨tn31_5, kn31_5, qn31_5⟩ := alen_s en31_5
    refine g_alen (pc := 31) B kn31_5 qn31_5 dX5_hasFormOf_31 ?_
    refine g_icmp_ge (pc := 32) (tgt := 58) B dX5_hasFormOf_32 (by decide) (fun c32 => ?_) (fun c32 => ?_)
    · rw [if_pos c32] at h
      refine g_iconst (pc := 58) B dX5_hasFormOf_58 (1 : Int32) (by decide) ?_
      obtain rfl := Option.some.inj h
      exact g_ret_Z (pc := 59) B rfl (Or.inr rfl) (by decide) (by decide) dX5_hasFormOf_59
    · rw [if_neg c32] at h
      refine g_aload_n (pc := 35) B dX5_hasFormOf_35 0 rfl ?_
      refine g_getR (pc := 36) 5 4 B k19_1 (by decide) (by decide) rfl kfX5_31 dX5_hasFormOf_36 ?_
      refine g_iload_n (pc := 39) B dX5_hasFormOf_39 2 rfl ?_
      obtain ⟨a40_7, ea40_7, h⟩ := ob h
      rw [ea40_7]
      obtain ⟨c40, h⟩ := chk h
      obtain ⟨nc40, kc40, ic40⟩ := inb_s c40
      refine g_iald (pc := 40) B kc40 ic40 dX5_hasFormOf_40 ?_
      refine g_aload_n (pc := 41) B dX5_hasFormOf_41 1 rfl ?_
      refine g_getR (pc := 42) 5 4 B k28_4 (by decide) (by decide) rfl kfX5_31 dX5_hasFormOf_42 ?_
      refine g_iload_n (pc := 45) B dX5_hasFormOf_45 2 rfl ?_
      obtain ⟨a46_8, ea46_8, h⟩ := ob h
      rw [ea46_8]
      obtain ⟨c46, h⟩ := chk h
      obtain ⟨nc46, kc46, ic46⟩ := inb_s c46
      refine g_iald (pc := 46) B kc46 ic46 dX5_hasFormOf_46 ?_
      refine g_icmp_eq (pc := 47) (tgt := 52) B dX5_hasFormOf_47 (by decide) (fun c47 => ?_) (fun c47 => ?_)
      · rw [if_pos c47] at h
        refine g_iinc (pc := 52) (v := (x2 + (1 : Int32))) (L' := [(2, vI (x2 + (1 : Int32))), (0, vA (some x0)), (1, vA (some x1))]) B dX5_hasFormOf_52 (by decide) 2 rfl rfl rfl ?_
        refine g_goto (pc := 55) (tgt := 17) B dX5_hasFormOf_55 (by decide) ?_
        refine g_sub (pc := 17) [1, 2, 0] rfl ?_
        exact hrec17 h
      · rw [if_neg c47] at h
        refine g_iconst (pc := 50) B dX5_hasFormOf_50 (0 : Int32) (by decide) ?_
        obtain rfl := Option.some.inj h
        exact g_ret_Z (pc := 51) B rfl (Or.inl rfl) (by decide) (by decide) dX5_hasFormOf_51
theorem cb_X5_hasFormOf_L17n {D : DD} {ev : EV} {X0 : Mem} {fu : Nat} (B : Amb D (foot X0) ev RX5 "hasFormOf" cX5_hasFormOf 3 (some .boolean) rmX5_hasFormOf) (ht : Tb0 ev)  : ∀ (n : Nat) {x0 : Nat} {x1 : Nat} {x2 : Int32} {r : Int32}, fX5_hasFormOf_L17 fu X0 n x0 x1 x2 = some r → Gd D (foot X0) ev (QF D ev X0 (.inr (some (vI r))) X0 rmX5_hasFormOf) X0 0 0 17 [(0, vA (some x0)), (1, vA (some x1)), (2, vI x2)] [] := by
  intro n
  induction n with
  | zero => intro x0 x1 x2 r h; exact nomatch h
  | succ n ih => intro x0 x1 x2 r h; exact cb_X5_hasFormOf_L17b (fu := fu) B ht (fun h9 => ih h9) h
theorem cb_X5_hasFormOf_L17 {D : DD} {ev : EV} {X0 : Mem} {fu : Nat} {x0 : Nat} {x1 : Nat} {x2 : Int32} {n : Nat} {r : Int32} (B : Amb D (foot X0) ev RX5 "hasFormOf" cX5_hasFormOf 3 (some .boolean) rmX5_hasFormOf) (ht : Tb0 ev)  (h : fX5_hasFormOf_L17 fu X0 n x0 x1 x2 = some r) : Gd D (foot X0) ev (QF D ev X0 (.inr (some (vI r))) X0 rmX5_hasFormOf) X0 0 0 17 [(0, vA (some x0)), (1, vA (some x1)), (2, vI x2)] [] := cb_X5_hasFormOf_L17n B ht n h
set_option maxRecDepth 100000 in
set_option maxHeartbeats 4000000 in
theorem cb_X5_hasFormOf_L0 {D : DD} {ev : EV} {X0 : Mem} {fu : Nat} {x0 : Nat} {x1 : Option Nat} {r : Int32} (B : Amb D (foot X0) ev RX5 "hasFormOf" cX5_hasFormOf 3 (some .boolean) rmX5_hasFormOf) (ht : Tb0 ev)  (h : fX5_hasFormOf fu X0 x0 x1 = some r) : Gd D (foot X0) ev (QF D ev X0 (.inr (some (vI r))) X0 rmX5_hasFormOf) X0 0 0 0 [(0, vA (some x0)), (1, vA x1)] [] := by
  unfold fX5_hasFormOf at h
  refine g_aload_n (pc := 0) B dX5_hasFormOf_0 0 rfl ?_
  obtain ⟨k1_1, h⟩ := chk h
  refine g_getR (pc := 1) 5 4 B k1_1 (by decide) (by decide) rfl kfX5_31 dX5_hasFormOf_1 ?_
  obtain ⟨a4_2, ea4_2, h⟩ := ob h
  rw [ea4_2]
  obtain ⟨n4_2, en4_2, h⟩ := ob h
  obtain ⟨tn4_2, kn4_2, qn4_2⟩ := alen_s en4_2
  refine g_alen (pc := 4) B kn4_2 qn4_2 dX5_hasFormOf_4 ?_
  refine g_aload_n (pc := 5) B dX5_hasFormOf_5 1 rfl ?_
  obtain ⟨a6_4, ea6_4, h⟩ := ob h
  rw [ea6_4]
  obtain ⟨k6_5, h⟩ := chk h
  refine g_getR (pc := 6) 5 4 B k6_5 (by decide) (by decide) rfl kfX5_31 dX5_hasFormOf_6 ?_
  obtain ⟨a9_6, ea9_6, h⟩ := ob h
  rw [ea9_6]
  obtain ⟨n9_6, en9_6, h⟩ := ob h
  obtain ⟨tn9_6, kn9_6, qn9_6⟩ := alen_s en9_6
  refine g_alen (pc := 9) B kn9_6 qn9_6 dX5_hasFormOf_9 ?_
  refine g_icmp_eq (pc := 10) (tgt := 15) B dX5_hasFormOf_10 (by decide) (fun c10 => ?_) (fun c10 => ?_)
  · rw [if_pos c10] at h
    refine g_iconst (pc := 15) B dX5_hasFormOf_15 (0 : Int32) (by decide) ?_
    refine g_istore_n (pc := 16) (L' := [(2, vI (0 : Int32)), (0, vA (some x0)), (1, vA (some a6_4))]) B dX5_hasFormOf_16 (by decide) rfl ?_
    refine g_sub (pc := 17) [1, 2, 0] rfl ?_
    exact cb_X5_hasFormOf_L17 B ht h
  · rw [if_neg c10] at h
    refine g_iconst (pc := 13) B dX5_hasFormOf_13 (0 : Int32) (by decide) ?_
    obtain rfl := Option.some.inj h
    exact g_ret_Z (pc := 14) B rfl (Or.inl rfl) (by decide) (by decide) dX5_hasFormOf_14
theorem ct_X5_hasFormOf {D : DD} {l : Launch} {X0 : Mem} {fu : Nat} {x0 : Nat} {x1 : Option Nat} {r : Int32} (hl : l.stackTraces = false) (h : fX5_hasFormOf fu X0 x0 x1 = some r) : Ctr D l yX5_hasFormOf cX5_hasFormOf 3 (some .boolean) rmX5_hasFormOf [vA (some x0), vA x1] X0 (.inr (some (vI r))) X0 :=
  ctr_of hl (plainFor_of_name (by decide)) (Nat.le_of_ble_eq_true rfl) fun ev _ ht B => cb_X5_hasFormOf_L0 B ht h
set_option maxRecDepth 100000 in
set_option maxHeartbeats 4000000 in
theorem cb_X11_findOriginal_L70 {D : DD} {ev : EV} {X0 : Mem} {fu : Nat} {rec2 : Nat → (Option Nat) → (Option Nat) → Int32 → Option (Int32)} {x0 : Nat} {x1 : Option Nat} {x2 : Option Nat} {x3 : Int32} {r : Int32} (B : Amb D (foot X0) ev RX11 "findOriginal" cX11_findOriginal 5 (some .int) rmX11_findOriginal) (ht : Tb0 ev) (hrec2 : ∀ {x0 : Nat} {x1 : Option Nat} {x2 : Option Nat} {x3 : Int32} {r : Int32}, rec2 x0 x1 x2 x3 = some r → Gd D (foot X0) ev (QF D ev X0 (.inr (some (vI r))) X0 rmX11_findOriginal) X0 0 0 2 [(0, vA (some x0)), (1, vA x1), (2, vA x2), (3, vI x3)] []) (h : fX11_findOriginal_L70 fu X0 rec2 x0 x1 x2 x3 = some r) : Gd D (foot X0) ev (QF D ev X0 (.inr (some (vI r))) X0 rmX11_findOriginal) X0 0 0 70 [(0, vA (some x0)), (1, vA x1), (2, vA x2), (3, vI x3)] [] := by
  unfold fX11_findOriginal_L70 at h
  refine g_iinc (pc := 70) (v := (x3 + (1 : Int32))) (L' := [(3, vI (x3 + (1 : Int32))), (0, vA (some x0)), (1, vA x1), (2, vA x2)]) B dX11_findOriginal_70 (by decide) 3 rfl rfl rfl ?_
  refine g_goto (pc := 73) (tgt := 2) B dX11_findOriginal_73 (by decide) ?_
  refine g_sub (pc := 2) [1, 2, 3, 0] rfl ?_
  exact hrec2 h
set_option maxRecDepth 100000 in
set_option maxHeartbeats 4000000 in
theorem cb_X11_findOriginal_L2b {D : DD} {ev : EV} {X0 : Mem} {fu : Nat} {rec2 : Nat → (Option Nat) → (Option Nat) → Int32 → Option (Int32)} {x0 : Nat} {x1 : Option Nat} {x2 : Option Nat} {x3 : Int32} {r : Int32} (B : Amb D (foot X0) ev RX11 "findOriginal" cX11_findOriginal 5 (some .int) rmX11_findOriginal) (ht : Tb0 ev) (hrec2 : ∀ {x0 : Nat} {x1 : Option Nat} {x2 : Option Nat} {x3 : Int32} {r : Int32}, rec2 x0 x1 x2 x3 = some r → Gd D (foot X0) ev (QF D ev X0 (.inr (some (vI r))) X0 rmX11_findOriginal) X0 0 0 2 [(0, vA (some x0)), (1, vA x1), (2, vA x2), (3, vI x3)] []) (h : fX11_findOriginal_L2b fu X0 rec2 x0 x1 x2 x3 = some r) : Gd D (foot X0) ev (QF D ev X0 (.inr (some (vI r))) X0 rmX11_findOriginal) X0 0 0 2 [(0, vA (some x0)), (1, vA x1), (2, vA x2), (3, vI x3)] [] := by
  unfold fX11_findOriginal_L2b at h
  refine g_iload_n (pc := 2) B dX11_findOriginal_2 3 rfl ?_
  refine g_aload_n (pc := 3) B dX11_findOriginal_3 0 rfl ?_
  obtain ⟨k4_1, h⟩ := chk h
  refine g_getI (pc := 4) 11 10 B k4_1 (by decide) (by decide) rfl kfX11_160 dX11_findOriginal_4 ?_
  refine g_icmp_ge (pc := 7) (tgt := 76) B dX11_findOriginal_7 (by decide) (fun c7 => ?_) (fun c7 => ?_)
  · rw [if_pos c7] at h
    refine g_iconst (pc := 76) B dX11_findOriginal_76 (-1) (by decide) ?_
    obtain rfl := Option.some.inj h
    exact g_ret_I (pc := 77) B rfl (by decide) (by decide) dX11_findOriginal_77
  · rw [if_neg c7] at h
    refine g_iload_n (pc := 10) B dX11_findOriginal_10 3 rfl ?_
    refine g_aload_n (pc := 11) B dX11_findOriginal_11 0 rfl ?_
    refine g_getR (pc := 12) 11 7 B k4_1 (by decide) (by decide) rfl kfX11_58 dX11_findOriginal_12 ?_
    obtain ⟨a15_2, ea15_2, h⟩ := ob h
    rw [ea15_2]
    obtain ⟨n15_2, en15_2, h⟩ := ob h
    obtain ⟨tn15_2, kn15_2, qn15_2⟩ := alen_s en15_2
    refine g_alen (pc := 15) B kn15_2 qn15_2 dX11_findOriginal_15 ?_
    refine g_icmp_ge (pc := 16) (tgt := 76) B dX11_findOriginal_16 (by decide) (fun c16 => ?_) (fun c16 => ?_)
    · rw [if_pos c16] at h
      refine g_iconst (pc := 76) B dX11_findOriginal_76 (-1) (by decide) ?_
      obtain rfl := Option.some.inj h
      exact g_ret_I (pc := 77) B rfl (by decide) (by decide) dX11_findOriginal_77
    · rw [if_neg c16] at h
      refine g_aload_n (pc := 19) B dX11_findOriginal_19 0 rfl ?_
      refine g_getR (pc := 20) 11 7 B k4_1 (by decide) (by decide) rfl kfX11_58 dX11_findOriginal_20 ?_
      refine g_iload_n (pc := 23) B dX11_findOriginal_23 3 rfl ?_
      obtain ⟨a24_4, ea24_4, h⟩ := ob h
      rw [ea24_4]
      obtain ⟨c24, h⟩ := chk h
      obtain ⟨nc24, kc24, ic24⟩ := inb_s c24
      refine g_aald (pc := 24) B kc24 (by decide) (by decide) ic24 dX11_findOriginal_24 ?_
      refine g_astore (pc := 25) (L' := [(4, vA (aR X0 a24_4 x3.toNatClampNeg)), (0, vA (some x0)), (1, vA x1), (2, vA x2), (3, vI x3)]) B dX11_findOriginal_25 (by decide) rfl ?_
      refine g_aload (pc := 27) B dX11_findOriginal_27 0 rfl ?_
      refine g_ifnull (pc := 29) (tgt := 70) B dX11_findOriginal_29 (by decide) (fun c29 => ?_) (fun c29 => ?_)
      · rw [if_pos c29] at h
        refine g_sub (pc := 70) [1, 2, 3, 4] rfl ?_
        exact cb_X11_findOriginal_L70 B ht hrec2 h
      · rw [if_neg c29] at h
        refine g_aload (pc := 32) B dX11_findOriginal_32 0 rfl ?_
        obtain ⟨a34_5, ea34_5, h⟩ := ob h
        rw [ea34_5]
        obtain ⟨k34_6, h⟩ := chk h
        refine g_getRN (pc := 34) 10 1 B k34_6 (by decide) (by decide) rfl kfX11_289 dX11_findOriginal_34 ?_
        refine g_aload_n (pc := 37) B dX11_findOriginal_37 3 rfl ?_
        refine g_acmp_ne (pc := 38) (tgt := 70) B dX11_findOriginal_38 (by decide) (fun c38 => ?_) (fun c38 => ?_)
        · rw [if_neg c38] at h
          refine g_sub (pc := 70) [1, 2, 3, 4] rfl ?_
          exact cb_X11_findOriginal_L70 B ht hrec2 h
        · rw [if_pos c38] at h
          refine g_aload (pc := 41) B dX11_findOriginal_41 0 rfl ?_
          refine g_getRN (pc := 43) 10 0 B k34_6 (by decide) (by decide) rfl kfX11_255 dX11_findOriginal_43 ?_
          obtain ⟨a46_7, ea46_7, h⟩ := ob h
          rw [ea46_7]
          obtain ⟨k46_8, h⟩ := chk h
          refine g_getIN (pc := 46) 5 0 B k46_8 (by decide) (by decide) rfl kfX11_259 dX11_findOriginal_46 ?_
          refine g_aload_n (pc := 49) B dX11_findOriginal_49 2 rfl ?_
          obtain ⟨a50_9, ea50_9, h⟩ := ob h
          rw [ea50_9]
          obtain ⟨k50_10, h⟩ := chk h
          refine g_getIN (pc := 50) 5 0 B k50_10 (by decide) (by decide) rfl kfX11_259 dX11_findOriginal_50 ?_
          refine g_icmp_eq (pc := 53) (tgt := 70) B dX11_findOriginal_53 (by decide) (fun c53 => ?_) (fun c53 => ?_)
          · rw [if_pos c53] at h
            refine g_sub (pc := 70) [1, 2, 3, 4] rfl ?_
            exact cb_X11_findOriginal_L70 B ht hrec2 h
          · rw [if_neg c53] at h
            refine g_aload (pc := 56) B dX11_findOriginal_56 0 rfl ?_
            refine g_getRN (pc := 58) 10 0 B k34_6 (by decide) (by decide) rfl kfX11_255 dX11_findOriginal_58 ?_
            refine g_aload_n (pc := 61) B dX11_findOriginal_61 2 rfl ?_
            obtain ⟨a62_11, ea62_11, h⟩ := ob h
            rw [ea62_11]
            obtain ⟨k62_12, h⟩ := chk h
            obtain ⟨v62, e62, h⟩ := ob h
            refine h_callV (pc := 62) (As := [vA (some a50_9)]) (st := []) (X' := X0) (cs' := 0) (sl' := 0) (st10 := [vI v62]) B cal_X5_hasFormOf kmX11_217 kn_X5_hasFormOf ks_X5_hasFormOf k62_12 (by decide) rfl (fun l hl => ct_X5_hasFormOf hl e62) rfl (Nat.le_of_ble_eq_true rfl) (by decide) (by decide) dX11_findOriginal_62 rfl rfl rfl rfl ?_
            refine g_if_eq (pc := 65) (tgt := 70) B dX11_findOriginal_65 (by decide) (fun c65 => ?_) (fun c65 => ?_)
            · rw [if_pos c65] at h
              refine g_sub (pc := 70) [1, 2, 3, 4] rfl ?_
              exact cb_X11_findOriginal_L70 B ht hrec2 h
            · rw [if_neg c65] at h
              refine g_iload_n (pc := 68) B dX11_findOriginal_68 4 rfl ?_
              obtain rfl := Option.some.inj h
              exact g_ret_I (pc := 69) B rfl (by decide) (by decide) dX11_findOriginal_69
theorem cb_X11_findOriginal_L2n {D : DD} {ev : EV} {X0 : Mem} {fu : Nat} (B : Amb D (foot X0) ev RX11 "findOriginal" cX11_findOriginal 5 (some .int) rmX11_findOriginal) (ht : Tb0 ev)  : ∀ (n : Nat) {x0 : Nat} {x1 : Option Nat} {x2 : Option Nat} {x3 : Int32} {r : Int32}, fX11_findOriginal_L2 fu X0 n x0 x1 x2 x3 = some r → Gd D (foot X0) ev (QF D ev X0 (.inr (some (vI r))) X0 rmX11_findOriginal) X0 0 0 2 [(0, vA (some x0)), (1, vA x1), (2, vA x2), (3, vI x3)] [] := by
  intro n
  induction n with
  | zero => intro x0 x1 x2 x3 r h; exact nomatch h
  | succ n ih => intro x0 x1 x2 x3 r h; exact cb_X11_findOriginal_L2b (fu := fu) B ht (fun h9 => ih h9) h
theorem cb_X11_findOriginal_L2 {D : DD} {ev : EV} {X0 : Mem} {fu : Nat} {x0 : Nat} {x1 : Option Nat} {x2 : Option Nat} {x3 : Int32} {n : Nat} {r : Int32} (B : Amb D (foot X0) ev RX11 "findOriginal" cX11_findOriginal 5 (some .int) rmX11_findOriginal) (ht : Tb0 ev)  (h : fX11_findOriginal_L2 fu X0 n x0 x1 x2 x3 = some r) : Gd D (foot X0) ev (QF D ev X0 (.inr (some (vI r))) X0 rmX11_findOriginal) X0 0 0 2 [(0, vA (some x0)), (1, vA x1), (2, vA x2), (3, vI x3)] [] := cb_X11_findOriginal_L2n B ht n h
set_option maxRecDepth 100000 in
set_option maxHeartbeats 4000000 in
theorem cb_X11_findOriginal_L0 {D : DD} {ev : EV} {X0 : Mem} {fu : Nat} {x0 : Nat} {x1 : Option Nat} {x2 : Option Nat} {r : Int32} (B : Amb D (foot X0) ev RX11 "findOriginal" cX11_findOriginal 5 (some .int) rmX11_findOriginal) (ht : Tb0 ev)  (h : fX11_findOriginal fu X0 x0 x1 x2 = some r) : Gd D (foot X0) ev (QF D ev X0 (.inr (some (vI r))) X0 rmX11_findOriginal) X0 0 0 0 [(0, vA (some x0)), (1, vA x1), (2, vA x2)] [] := by
  unfold fX11_findOriginal at h
  refine g_iconst (pc := 0) B dX11_findOriginal_0 (0 : Int32) (by decide) ?_
  refine g_istore_n (pc := 1) (L' := [(3, vI (0 : Int32)), (0, vA (some x0)), (1, vA x1), (2, vA x2)]) B dX11_findOriginal_1 (by decide) rfl ?_
  refine g_sub (pc := 2) [1, 2, 3, 0] rfl ?_
  exact cb_X11_findOriginal_L2 B ht h
theorem ct_X11_findOriginal {D : DD} {l : Launch} {X0 : Mem} {fu : Nat} {x0 : Nat} {x1 : Option Nat} {x2 : Option Nat} {r : Int32} (hl : l.stackTraces = false) (h : fX11_findOriginal fu X0 x0 x1 x2 = some r) : Ctr D l yX11_findOriginal cX11_findOriginal 5 (some .int) rmX11_findOriginal [vA (some x0), vA x1, vA x2] X0 (.inr (some (vI r))) X0 :=
  ctr_of hl (plainFor_of_name (by decide)) (Nat.le_of_ble_eq_true rfl) fun ev _ ht B => cb_X11_findOriginal_L0 B ht h
set_option maxRecDepth 100000 in
set_option maxHeartbeats 4000000 in
theorem cb_X10_init_L0 {D : DD} {ev : EV} {X0 : Mem} {X : Mem} {x0 : Nat} {x1 : Option Nat} {x2 : Option Nat} {x3 : Int32} {r : Mem} (B : Amb D (foot X0) ev RX10 "<init>" cX10_init 4 (none) rmX10_init) (ht : Tb0 ev)  (h : fX10_init X x0 x1 x2 x3 = some r) : Gd D (foot X0) ev (QF D ev X0 (.inr (none)) r rmX10_init) X 0 0 0 [(0, vA (some x0)), (1, vA x1), (2, vA x2), (3, vI x3)] [] := by
  unfold fX10_init at h
  refine g_aload_n (pc := 0) B dX10_init_0 0 rfl ?_
  refine g_objInit (pc := 1) B kmX10_3 kon koc (Nat.le_of_ble_eq_true rfl) (by decide) dX10_init_1 ?_
  refine g_aload_n (pc := 4) B dX10_init_4 0 rfl ?_
  refine g_aload_n (pc := 5) B dX10_init_5 1 rfl ?_
  obtain ⟨k6_1, h⟩ := chk h
  refine g_putRF (pc := 6) 10 0 B k6_1 (by decide) (by decide) rfl rfl rfl rfl kfX10_9 dX10_init_6 ?_
  refine g_aload_n (pc := 9) B dX10_init_9 0 rfl ?_
  refine g_aload_n (pc := 10) B dX10_init_10 2 rfl ?_
  refine g_putRF (pc := 11) 10 1 B k6_1 (by decide) (by decide) rfl rfl rfl rfl kfX10_15 dX10_init_11 ?_
  refine g_aload_n (pc := 14) B dX10_init_14 0 rfl ?_
  refine g_iload_n (pc := 15) B dX10_init_15 3 rfl ?_
  refine g_putIF (pc := 16) 10 2 B k6_1 (by decide) (by decide) rfl rfl rfl rfl kfX10_19 dX10_init_16 ?_
  obtain rfl := Option.some.inj h
  exact g_ret_V (pc := 19) B rfl (by decide) (by decide) dX10_init_19
theorem ct_X10_init {D : DD} {l : Launch} {X0 : Mem} {x0 : Nat} {x1 : Option Nat} {x2 : Option Nat} {x3 : Int32} {r : Mem} (hl : l.stackTraces = false) (h : fX10_init X0 x0 x1 x2 x3 = some r) : Ctr D l yX10_init cX10_init 4 (none) rmX10_init [vA (some x0), vA x1, vA x2, vI x3] X0 (.inr (none)) r :=
  ctr_of hl (plainFor_of_name (by decide)) (Nat.le_of_ble_eq_true rfl) fun ev _ ht B => cb_X10_init_L0 B ht h
set_option maxRecDepth 100000 in
set_option maxHeartbeats 4000000 in
theorem cb_X11_handIn_L0 {D : DD} {ev : EV} {X0 : Mem} {fu : Nat} {x0 : Nat} {x1 : Int32} {x2 : Int32} {r : Int32 × Mem} (B : Amb D (foot X0) ev RX11 "handIn" cX11_handIn 6 (some .int) rmX11_handIn) (ht : Tb0 ev)  (h : fX11_handIn fu X0 x0 x1 x2 = some (.inr r)) : Gd D (foot X0) ev (QF D ev X0 (.inr (some (vI r.1))) r.2 rmX11_handIn) X0 0 0 0 [(0, vA (some x0)), (1, vI x1), (2, vI x2)] [] := by
  unfold fX11_handIn at h
  refine g_aload_n (pc := 0) B dX11_handIn_0 0 rfl ?_
  refine g_iload_n (pc := 1) B dX11_handIn_1 1 rfl ?_
  obtain ⟨k2_1, h⟩ := chk h
  rcases bE_c h with ⟨E2, e2, hr2⟩ | ⟨v2, e2, h⟩
  · exact nomatch hr2
  refine h_callV (pc := 2) (As := [vI x1]) (st := []) (X' := X0) (cs' := 0) (sl' := 0) (st10 := [vA v2]) B cal_X11_programAt kmX11_131 kn_X11_programAt ks_X11_programAt k2_1 (by decide) rfl (fun l hl => ct_X11_programAt hl e2) rfl (Nat.le_of_ble_eq_true rfl) (by decide) (by decide) dX11_handIn_2 rfl rfl rfl rfl ?_
  refine g_astore_n (pc := 5) (L' := [(3, vA v2), (0, vA (some x0)), (1, vI x1), (2, vI x2)]) B dX11_handIn_5 (by decide) rfl ?_
  refine g_aload_n (pc := 6) B dX11_handIn_6 1 rfl ?_
  refine g_iload_n (pc := 7) B dX11_handIn_7 3 rfl ?_
  rcases bE_c h with ⟨E8, e8, hr8⟩ | ⟨v8, e8, h⟩
  · exact nomatch hr8
  refine h_callV (pc := 8) (As := [vI x2]) (st := []) (X' := X0) (cs' := 0) (sl' := 0) (st10 := [vA v8]) B cal_X11_exerciseAt kmX11_146 kn_X11_exerciseAt ks_X11_exerciseAt k2_1 (by decide) rfl (fun l hl => ct_X11_exerciseAt hl e8) rfl (Nat.le_of_ble_eq_true rfl) (by decide) (by decide) dX11_handIn_8 rfl rfl rfl rfl ?_
  refine g_astore (pc := 11) (L' := [(4, vA v8), (3, vA v2), (0, vA (some x0)), (1, vI x1), (2, vI x2)]) B dX11_handIn_11 (by decide) rfl ?_
  refine g_aload_n (pc := 13) B dX11_handIn_13 2 rfl ?_
  refine g_getI (pc := 14) 11 10 B k2_1 (by decide) (by decide) rfl kfX11_160 dX11_handIn_14 ?_
  refine g_istore (pc := 17) (L' := [(5, vI (mI X0 1110 x0)), (4, vA v8), (3, vA v2), (0, vA (some x0)), (1, vI x1), (2, vI x2)]) B dX11_handIn_17 (by decide) rfl ?_
  refine g_iload (pc := 19) B dX11_handIn_19 0 rfl ?_
  refine g_if_lt (pc := 21) (tgt := 34) B dX11_handIn_21 (by decide) (fun c21 => ?_) (fun c21 => ?_)
  · rw [if_pos c21] at h
    exact nomatch (Option.some.inj h)
  · rw [if_neg c21] at h
    refine g_iload (pc := 24) B dX11_handIn_24 0 rfl ?_
    refine g_aload_n (pc := 26) B dX11_handIn_26 3 rfl ?_
    refine g_getR (pc := 27) 11 7 B k2_1 (by decide) (by decide) rfl kfX11_58 dX11_handIn_27 ?_
    obtain ⟨a30_2, ea30_2, h⟩ := ob h
    rw [ea30_2]
    obtain ⟨n30_2, en30_2, h⟩ := ob h
    obtain ⟨tn30_2, kn30_2, qn30_2⟩ := alen_s en30_2
    refine g_alen (pc := 30) B kn30_2 qn30_2 dX11_handIn_30 ?_
    refine g_icmp_lt (pc := 31) (tgt := 44) B dX11_handIn_31 (by decide) (fun c31 => ?_) (fun c31 => ?_)
    · rw [if_pos c31] at h
      refine g_aload_n (pc := 44) B dX11_handIn_44 3 rfl ?_
      refine g_getR (pc := 45) 11 7 B k2_1 (by decide) (by decide) rfl kfX11_58 dX11_handIn_45 ?_
      refine g_iload (pc := 48) B dX11_handIn_48 0 rfl ?_
      obtain ⟨q50, eq50, h⟩ := ob h
      obtain ⟨X50, eX50, h⟩ := ob h
      refine n_new (pc := 50) 10 B eX50 eq50 (by decide) kxX11_56 kin10 kiz10 (by decide) (by decide) dX11_handIn_50 ?_
      refine g_widen (cs' := 1) (sl' := 7) (by decide) (by decide) ?_
      refine g_dup (pc := 53) B dX11_handIn_53 rfl ?_
      refine g_aload_n (pc := 54) B dX11_handIn_54 2 rfl ?_
      refine g_aload (pc := 55) B dX11_handIn_55 1 rfl ?_
      refine g_aload_n (pc := 57) B dX11_handIn_57 3 rfl ?_
      refine g_aload_n (pc := 58) B dX11_handIn_58 2 rfl ?_
      refine g_aload (pc := 59) B dX11_handIn_59 1 rfl ?_
      obtain ⟨k61_4, h⟩ := chk h
      obtain ⟨v61, e61, h⟩ := ob h
      refine h_callV (pc := 61) (As := [vA v2, vA v8]) (st := [vA v8, vA v2, vA (some q50), vA (some q50), vI (mI X0 1110 x0), vA (mR X0 1107 x0)]) (X' := X50) (cs' := 1) (sl' := 7) (st10 := [vI v61, vA v8, vA v2, vA (some q50), vA (some q50), vI (mI X0 1110 x0), vA (mR X0 1107 x0)]) B cal_X11_findOriginal kmX11_165 kn_X11_findOriginal ks_X11_findOriginal k61_4 (by decide) rfl (fun l hl => ct_X11_findOriginal hl e61) rfl (Nat.le_of_ble_eq_true rfl) (by decide) (by decide) dX11_handIn_61 rfl rfl rfl rfl ?_
      obtain ⟨X64, e64, h⟩ := ob h
      refine h_callI (pc := 64) (As := [vA v2, vA v8, vI v61]) (st := [vA (some q50), vI (mI X0 1110 x0), vA (mR X0 1107 x0)]) (X' := X64) (cs' := 1) (sl' := 7) B cal_X10_init kmX11_169 kn_X10_init rfl (fun l hl => ct_X10_init hl e64) rfl (Nat.le_of_ble_eq_true rfl) (by decide) (by decide) dX11_handIn_64 rfl rfl rfl ?_
      obtain ⟨a67_5, ea67_5, h⟩ := ob h
      rw [ea67_5]
      obtain ⟨c67, h⟩ := chk h
      obtain ⟨nc67, kc67, ic67⟩ := inb_s c67
      obtain ⟨k67_6, h⟩ := chk h
      refine g_aast (pc := 67) (c := 10) B kc67 (by decide) (by decide) k67_6 (by decide) rfl ic67 dX11_handIn_67 ?_
      refine g_aload_n (pc := 68) B dX11_handIn_68 3 rfl ?_
      refine g_iload (pc := 69) B dX11_handIn_69 0 rfl ?_
      refine g_iconst (pc := 71) B dX11_handIn_71 (1 : Int32) (by decide) ?_
      refine g_iadd (pc := 72) B dX11_handIn_72 ?_
      obtain ⟨k73_7, h⟩ := chk h
      refine g_putI (pc := 73) 11 10 B k73_7 (by decide) (by decide) rfl rfl kfX11_160 dX11_handIn_73 ?_
      refine g_aload_n (pc := 76) B dX11_handIn_76 3 rfl ?_
      obtain ⟨X77, e77, h⟩ := ob h
      refine h_callV (pc := 77) (As := []) (st := []) (X' := X77) (cs' := 1) (sl' := 7) (st10 := []) B cal_X11_layWall kmX11_153 kn_X11_layWall ks_X11_layWall k73_7 (by decide) rfl (fun l hl => ct_X11_layWall hl e77) rfl (Nat.le_of_ble_eq_true rfl) (by decide) (by decide) dX11_handIn_77 rfl rfl rfl rfl ?_
      refine g_iload (pc := 80) B dX11_handIn_80 0 rfl ?_
      obtain rfl := Sum.inr.inj (Option.some.inj h)
      exact g_ret_I (pc := 82) B rfl (by decide) (by decide) dX11_handIn_82
    · rw [if_neg c31] at h
      exact nomatch (Option.some.inj h)
theorem ct_X11_handIn {D : DD} {l : Launch} {X0 : Mem} {fu : Nat} {x0 : Nat} {x1 : Int32} {x2 : Int32} {r : Int32 × Mem} (hl : l.stackTraces = false) (h : fX11_handIn fu X0 x0 x1 x2 = some (.inr r)) : Ctr D l yX11_handIn cX11_handIn 6 (some .int) rmX11_handIn [vA (some x0), vI x1, vI x2] X0 (.inr (some (vI r.1))) r.2 :=
  ctr_of hl (plainFor_of_name (by decide)) (Nat.le_of_ble_eq_true rfl) fun ev _ ht B => cb_X11_handIn_L0 B ht h
set_option maxRecDepth 100000 in
set_option maxHeartbeats 4000000 in
theorem cb_X11_workAt_L30 {D : DD} {ev : EV} {X0 : Mem} {x2 : Option Nat} {r : Option Nat} (B : Amb D (foot X0) ev RX11 "workAt" cX11_workAt 3 (some (.object "TurtleChalk$Work")) rmX11_workAt) (ht : Tb0 ev)  (h : fX11_workAt_L30 X0 x2 = some (.inr r)) : Gd D (foot X0) ev (QF D ev X0 (.inr (some (vA r))) X0 rmX11_workAt) X0 0 0 30 [(2, vA x2)] [] := by
  unfold fX11_workAt_L30 at h
  refine g_aload_n (pc := 30) B dX11_workAt_30 0 rfl ?_
  refine g_ifnonnull (pc := 31) (tgt := 45) B dX11_workAt_31 (by decide) (fun c31 => ?_) (fun c31 => ?_)
  · rw [if_neg c31] at h
    refine g_aload_n (pc := 45) B dX11_workAt_45 0 rfl ?_
    obtain rfl := Sum.inr.inj (Option.some.inj h)
    exact g_ret_A (pc := 46) B rfl (by decide) (by decide) dX11_workAt_46
  · rw [if_pos c31] at h
    exact nomatch (Option.some.inj h)
set_option maxRecDepth 100000 in
set_option maxHeartbeats 4000000 in
theorem cb_X11_workAt_L0 {D : DD} {ev : EV} {X0 : Mem} {x0 : Nat} {x1 : Int32} {r : Option Nat} (B : Amb D (foot X0) ev RX11 "workAt" cX11_workAt 3 (some (.object "TurtleChalk$Work")) rmX11_workAt) (ht : Tb0 ev)  (h : fX11_workAt X0 x0 x1 = some (.inr r)) : Gd D (foot X0) ev (QF D ev X0 (.inr (some (vA r))) X0 rmX11_workAt) X0 0 0 0 [(0, vA (some x0)), (1, vI x1)] [] := by
  unfold fX11_workAt at h
  refine g_null (pc := 0) B dX11_workAt_0 ?_
  refine g_astore_n (pc := 1) (L' := [(2, vA none), (0, vA (some x0)), (1, vI x1)]) B dX11_workAt_1 (by decide) rfl ?_
  refine g_iload_n (pc := 2) B dX11_workAt_2 2 rfl ?_
  refine g_if_lt (pc := 3) (tgt := 30) B dX11_workAt_3 (by decide) (fun c3 => ?_) (fun c3 => ?_)
  · rw [if_pos c3] at h
    refine g_sub (pc := 30) [0] rfl ?_
    exact cb_X11_workAt_L30 B ht h
  · rw [if_neg c3] at h
    refine g_iload_n (pc := 6) B dX11_workAt_6 2 rfl ?_
    refine g_aload_n (pc := 7) B dX11_workAt_7 1 rfl ?_
    obtain ⟨k8_1, h⟩ := chk h
    refine g_getI (pc := 8) 11 10 B k8_1 (by decide) (by decide) rfl kfX11_160 dX11_workAt_8 ?_
    refine g_icmp_ge (pc := 11) (tgt := 30) B dX11_workAt_11 (by decide) (fun c11 => ?_) (fun c11 => ?_)
    · rw [if_pos c11] at h
      refine g_sub (pc := 30) [0] rfl ?_
      exact cb_X11_workAt_L30 B ht h
    · rw [if_neg c11] at h
      refine g_iload_n (pc := 14) B dX11_workAt_14 2 rfl ?_
      refine g_aload_n (pc := 15) B dX11_workAt_15 1 rfl ?_
      refine g_getR (pc := 16) 11 7 B k8_1 (by decide) (by decide) rfl kfX11_58 dX11_workAt_16 ?_
      obtain ⟨a19_2, ea19_2, h⟩ := ob h
      rw [ea19_2]
      obtain ⟨n19_2, en19_2, h⟩ := ob h
      obtain ⟨tn19_2, kn19_2, qn19_2⟩ := alen_s en19_2
      refine g_alen (pc := 19) B kn19_2 qn19_2 dX11_workAt_19 ?_
      refine g_icmp_ge (pc := 20) (tgt := 30) B dX11_workAt_20 (by decide) (fun c20 => ?_) (fun c20 => ?_)
      · rw [if_pos c20] at h
        refine g_sub (pc := 30) [0] rfl ?_
        exact cb_X11_workAt_L30 B ht h
      · rw [if_neg c20] at h
        refine g_aload_n (pc := 23) B dX11_workAt_23 1 rfl ?_
        refine g_getR (pc := 24) 11 7 B k8_1 (by decide) (by decide) rfl kfX11_58 dX11_workAt_24 ?_
        refine g_iload_n (pc := 27) B dX11_workAt_27 2 rfl ?_
        obtain ⟨a28_4, ea28_4, h⟩ := ob h
        rw [ea28_4]
        obtain ⟨c28, h⟩ := chk h
        obtain ⟨nc28, kc28, ic28⟩ := inb_s c28
        refine g_aald (pc := 28) B kc28 (by decide) (by decide) ic28 dX11_workAt_28 ?_
        refine g_astore_n (pc := 29) (L' := [(2, vA (aR X0 a28_4 x1.toNatClampNeg)), (0, vA (some x0)), (1, vI x1)]) B dX11_workAt_29 (by decide) rfl ?_
        refine g_sub (pc := 30) [0] rfl ?_
        exact cb_X11_workAt_L30 B ht h
theorem ct_X11_workAt {D : DD} {l : Launch} {X0 : Mem} {x0 : Nat} {x1 : Int32} {r : Option Nat} (hl : l.stackTraces = false) (h : fX11_workAt X0 x0 x1 = some (.inr r)) : Ctr D l yX11_workAt cX11_workAt 3 (some (.object "TurtleChalk$Work")) rmX11_workAt [vA (some x0), vI x1] X0 (.inr (some (vA r))) X0 :=
  ctr_of hl (plainFor_of_name (by decide)) (Nat.le_of_ble_eq_true rfl) fun ev _ ht B => cb_X11_workAt_L0 B ht h
set_option maxRecDepth 100000 in
set_option maxHeartbeats 4000000 in
theorem cb_X11_clear_L0 {D : DD} {ev : EV} {X0 : Mem} {fu : Nat} {x0 : Nat} {x1 : Int32} {x2 : Int32} {r : Int32 × Mem} (B : Amb D (foot X0) ev RX11 "clear" cX11_clear 5 (some .boolean) rmX11_clear) (ht : Tb0 ev)  (h : fX11_clear fu X0 x0 x1 x2 = some (.inr r)) : Gd D (foot X0) ev (QF D ev X0 (.inr (some (vI r.1))) r.2 rmX11_clear) X0 0 0 0 [(0, vA (some x0)), (1, vI x1), (2, vI x2)] [] := by
  unfold fX11_clear at h
  refine g_aload_n (pc := 0) B dX11_clear_0 0 rfl ?_
  refine g_iload_n (pc := 1) B dX11_clear_1 1 rfl ?_
  obtain ⟨k2_1, h⟩ := chk h
  rcases bE_c h with ⟨E2, e2, hr2⟩ | ⟨v2, e2, h⟩
  · exact nomatch hr2
  refine h_callV (pc := 2) (As := [vI x1]) (st := []) (X' := X0) (cs' := 0) (sl' := 0) (st10 := [vA v2]) B cal_X11_workAt kmX11_172 kn_X11_workAt ks_X11_workAt k2_1 (by decide) rfl (fun l hl => ct_X11_workAt hl e2) rfl (Nat.le_of_ble_eq_true rfl) (by decide) (by decide) dX11_clear_2 rfl rfl rfl rfl ?_
  refine g_astore_n (pc := 5) (L' := [(3, vA v2), (0, vA (some x0)), (1, vI x1), (2, vI x2)]) B dX11_clear_5 (by decide) rfl ?_
  refine g_aload_n (pc := 6) B dX11_clear_6 0 rfl ?_
  obtain ⟨a7_2, ea7_2, h⟩ := ob h
  rw [ea7_2]
  obtain ⟨k7_3, h⟩ := chk h
  refine g_getIN (pc := 7) 10 3 B k7_3 (by decide) (by decide) rfl kfX11_176 dX11_clear_7 ?_
  refine g_istore (pc := 10) (L' := [(4, vI (mI X0 1003 a7_2)), (3, vA (some a7_2)), (0, vA (some x0)), (1, vI x1), (2, vI x2)]) B dX11_clear_10 (by decide) rfl ?_
  refine g_aload_n (pc := 12) B dX11_clear_12 1 rfl ?_
  refine g_iload_n (pc := 13) B dX11_clear_13 4 rfl ?_
  obtain ⟨z14, h⟩ := chk h
  refine g_putZN (pc := 14) 10 3 B k7_3 (by decide) (by decide) rfl z14 rfl kfX11_176 dX11_clear_14 ?_
  refine g_aload_n (pc := 17) B dX11_clear_17 2 rfl ?_
  obtain ⟨X18, e18, h⟩ := ob h
  refine h_callV (pc := 18) (As := []) (st := []) (X' := X18) (cs' := 0) (sl' := 0) (st10 := []) B cal_X11_layWall kmX11_153 kn_X11_layWall ks_X11_layWall k2_1 (by decide) rfl (fun l hl => ct_X11_layWall hl e18) rfl (Nat.le_of_ble_eq_true rfl) (by decide) (by decide) dX11_clear_18 rfl rfl rfl rfl ?_
  refine g_iload (pc := 21) B dX11_clear_21 0 rfl ?_
  obtain ⟨z23, h⟩ := chk h
  obtain rfl := Sum.inr.inj (Option.some.inj h)
  exact g_ret_Z (pc := 23) B rfl z23 (by decide) (by decide) dX11_clear_23
theorem ct_X11_clear {D : DD} {l : Launch} {X0 : Mem} {fu : Nat} {x0 : Nat} {x1 : Int32} {x2 : Int32} {r : Int32 × Mem} (hl : l.stackTraces = false) (h : fX11_clear fu X0 x0 x1 x2 = some (.inr r)) : Ctr D l yX11_clear cX11_clear 5 (some .boolean) rmX11_clear [vA (some x0), vI x1, vI x2] X0 (.inr (some (vI r.1))) r.2 :=
  ctr_of hl (plainFor_of_name (by decide)) (Nat.le_of_ble_eq_true rfl) fun ev _ ht B => cb_X11_clear_L0 B ht h
