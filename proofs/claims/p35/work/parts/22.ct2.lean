set_option maxRecDepth 100000 in
set_option maxHeartbeats 4000000 in
theorem cb_X9_measure_L0 {D : DD} {ev : EV} {X0 : Mem} {X : Mem} {x0 : Nat} {x1 : Int32} {x2 : Int32} {r : Mem} (B : Amb D (foot X0) ev RX9 "measure" cX9_measure 3 (none) rmX9_measure) (ht : Tb0 ev)  (h : fX9_measure X x0 x1 x2 = some r) : Gd D (foot X0) ev (QF D ev X0 (.inr (none)) r rmX9_measure) X 0 0 0 [(0, vA (some x0)), (1, vI x1), (2, vI x2)] [] := by
  unfold fX9_measure at h
  refine g_aload_n (pc := 0) B dX9_measure_0 0 rfl ?_
  refine g_iload_n (pc := 1) B dX9_measure_1 1 rfl ?_
  obtain ⟨k2_1, h⟩ := chk h
  refine g_putI (pc := 2) 9 1 B k2_1 (by decide) (by decide) rfl rfl kfX9_15 dX9_measure_2 ?_
  refine g_aload_n (pc := 5) B dX9_measure_5 0 rfl ?_
  refine g_iload_n (pc := 6) B dX9_measure_6 2 rfl ?_
  refine g_putI (pc := 7) 9 2 B k2_1 (by decide) (by decide) rfl rfl kfX9_19 dX9_measure_7 ?_
  obtain rfl := Option.some.inj h
  exact g_ret_V (pc := 10) B rfl (by decide) (by decide) dX9_measure_10
theorem ct_X9_measure {D : DD} {l : Launch} {X0 : Mem} {x0 : Nat} {x1 : Int32} {x2 : Int32} {r : Mem} (hl : l.stackTraces = false) (h : fX9_measure X0 x0 x1 x2 = some r) : Ctr D l yX9_measure cX9_measure 3 (none) rmX9_measure [vA (some x0), vI x1, vI x2] X0 (.inr (none)) r :=
  ctr_of hl (plainFor_of_name (by decide)) (Nat.le_of_ble_eq_true rfl) fun ev _ ht B => cb_X9_measure_L0 B ht h
set_option maxRecDepth 100000 in
set_option maxHeartbeats 4000000 in
theorem cb_X11_countHanging_L42 {D : DD} {ev : EV} {X0 : Mem} {fu : Nat} {rec4 : Nat → Int32 → Int32 → Option (Int32)} {x0 : Nat} {x1 : Int32} {x2 : Int32} {r : Int32} (B : Amb D (foot X0) ev RX11 "countHanging" cX11_countHanging 4 (some .int) rmX11_countHanging) (ht : Tb0 ev) (hrec4 : ∀ {x0 : Nat} {x1 : Int32} {x2 : Int32} {r : Int32}, rec4 x0 x1 x2 = some r → Gd D (foot X0) ev (QF D ev X0 (.inr (some (vI r))) X0 rmX11_countHanging) X0 0 0 4 [(0, vA (some x0)), (1, vI x1), (2, vI x2)] []) (h : fX11_countHanging_L42 fu X0 rec4 x0 x1 x2 = some r) : Gd D (foot X0) ev (QF D ev X0 (.inr (some (vI r))) X0 rmX11_countHanging) X0 0 0 42 [(0, vA (some x0)), (1, vI x1), (2, vI x2)] [] := by
  unfold fX11_countHanging_L42 at h
  refine g_iinc (pc := 42) (v := (x2 + (1 : Int32))) (L' := [(2, vI (x2 + (1 : Int32))), (0, vA (some x0)), (1, vI x1)]) B dX11_countHanging_42 (by decide) 2 rfl rfl rfl ?_
  refine g_goto (pc := 45) (tgt := 4) B dX11_countHanging_45 (by decide) ?_
  refine g_sub (pc := 4) [1, 2, 0] rfl ?_
  exact hrec4 h
set_option maxRecDepth 100000 in
set_option maxHeartbeats 4000000 in
theorem cb_X11_countHanging_L4b {D : DD} {ev : EV} {X0 : Mem} {fu : Nat} {rec4 : Nat → Int32 → Int32 → Option (Int32)} {x0 : Nat} {x1 : Int32} {x2 : Int32} {r : Int32} (B : Amb D (foot X0) ev RX11 "countHanging" cX11_countHanging 4 (some .int) rmX11_countHanging) (ht : Tb0 ev) (hrec4 : ∀ {x0 : Nat} {x1 : Int32} {x2 : Int32} {r : Int32}, rec4 x0 x1 x2 = some r → Gd D (foot X0) ev (QF D ev X0 (.inr (some (vI r))) X0 rmX11_countHanging) X0 0 0 4 [(0, vA (some x0)), (1, vI x1), (2, vI x2)] []) (h : fX11_countHanging_L4b fu X0 rec4 x0 x1 x2 = some r) : Gd D (foot X0) ev (QF D ev X0 (.inr (some (vI r))) X0 rmX11_countHanging) X0 0 0 4 [(0, vA (some x0)), (1, vI x1), (2, vI x2)] [] := by
  unfold fX11_countHanging_L4b at h
  refine g_iload_n (pc := 4) B dX11_countHanging_4 2 rfl ?_
  refine g_aload_n (pc := 5) B dX11_countHanging_5 0 rfl ?_
  obtain ⟨k6_1, h⟩ := chk h
  refine g_getI (pc := 6) 11 10 B k6_1 (by decide) (by decide) rfl kfX11_160 dX11_countHanging_6 ?_
  refine g_icmp_ge (pc := 9) (tgt := 48) B dX11_countHanging_9 (by decide) (fun c9 => ?_) (fun c9 => ?_)
  · rw [if_pos c9] at h
    refine g_iload_n (pc := 48) B dX11_countHanging_48 1 rfl ?_
    obtain rfl := Option.some.inj h
    exact g_ret_I (pc := 49) B rfl (by decide) (by decide) dX11_countHanging_49
  · rw [if_neg c9] at h
    refine g_iload_n (pc := 12) B dX11_countHanging_12 2 rfl ?_
    refine g_aload_n (pc := 13) B dX11_countHanging_13 0 rfl ?_
    refine g_getR (pc := 14) 11 7 B k6_1 (by decide) (by decide) rfl kfX11_58 dX11_countHanging_14 ?_
    obtain ⟨a17_2, ea17_2, h⟩ := ob h
    rw [ea17_2]
    obtain ⟨n17_2, en17_2, h⟩ := ob h
    obtain ⟨tn17_2, kn17_2, qn17_2⟩ := alen_s en17_2
    refine g_alen (pc := 17) B kn17_2 qn17_2 dX11_countHanging_17 ?_
    refine g_icmp_ge (pc := 18) (tgt := 48) B dX11_countHanging_18 (by decide) (fun c18 => ?_) (fun c18 => ?_)
    · rw [if_pos c18] at h
      refine g_iload_n (pc := 48) B dX11_countHanging_48 1 rfl ?_
      obtain rfl := Option.some.inj h
      exact g_ret_I (pc := 49) B rfl (by decide) (by decide) dX11_countHanging_49
    · rw [if_neg c18] at h
      refine g_aload_n (pc := 21) B dX11_countHanging_21 0 rfl ?_
      refine g_getR (pc := 22) 11 7 B k6_1 (by decide) (by decide) rfl kfX11_58 dX11_countHanging_22 ?_
      refine g_iload_n (pc := 25) B dX11_countHanging_25 2 rfl ?_
      obtain ⟨a26_4, ea26_4, h⟩ := ob h
      rw [ea26_4]
      obtain ⟨c26, h⟩ := chk h
      obtain ⟨nc26, kc26, ic26⟩ := inb_s c26
      refine g_aald (pc := 26) B kc26 (by decide) (by decide) ic26 dX11_countHanging_26 ?_
      refine g_astore_n (pc := 27) (L' := [(3, vA (aR X0 a26_4 x2.toNatClampNeg)), (0, vA (some x0)), (1, vI x1), (2, vI x2)]) B dX11_countHanging_27 (by decide) rfl ?_
      refine g_aload_n (pc := 28) B dX11_countHanging_28 0 rfl ?_
      refine g_ifnull (pc := 29) (tgt := 42) B dX11_countHanging_29 (by decide) (fun c29 => ?_) (fun c29 => ?_)
      · rw [if_pos c29] at h
        refine g_sub (pc := 42) [1, 2, 3] rfl ?_
        exact cb_X11_countHanging_L42 B ht hrec4 h
      · rw [if_neg c29] at h
        refine g_aload_n (pc := 32) B dX11_countHanging_32 0 rfl ?_
        obtain ⟨a33_5, ea33_5, h⟩ := ob h
        rw [ea33_5]
        obtain ⟨k33_6, h⟩ := chk h
        refine g_getIN (pc := 33) 10 4 B k33_6 (by decide) (by decide) rfl kfX11_237 dX11_countHanging_33 ?_
        refine g_if_eq (pc := 36) (tgt := 42) B dX11_countHanging_36 (by decide) (fun c36 => ?_) (fun c36 => ?_)
        · rw [if_pos c36] at h
          refine g_sub (pc := 42) [1, 2, 3] rfl ?_
          exact cb_X11_countHanging_L42 B ht hrec4 h
        · rw [if_neg c36] at h
          refine g_iinc (pc := 39) (v := (x1 + (1 : Int32))) (L' := [(1, vI (x1 + (1 : Int32))), (3, vA (some a33_5)), (0, vA (some x0)), (2, vI x2)]) B dX11_countHanging_39 (by decide) 2 rfl rfl rfl ?_
          refine g_sub (pc := 42) [2, 0, 3] rfl ?_
          exact cb_X11_countHanging_L42 B ht hrec4 h
theorem cb_X11_countHanging_L4n {D : DD} {ev : EV} {X0 : Mem} {fu : Nat} (B : Amb D (foot X0) ev RX11 "countHanging" cX11_countHanging 4 (some .int) rmX11_countHanging) (ht : Tb0 ev)  : ∀ (n : Nat) {x0 : Nat} {x1 : Int32} {x2 : Int32} {r : Int32}, fX11_countHanging_L4 fu X0 n x0 x1 x2 = some r → Gd D (foot X0) ev (QF D ev X0 (.inr (some (vI r))) X0 rmX11_countHanging) X0 0 0 4 [(0, vA (some x0)), (1, vI x1), (2, vI x2)] [] := by
  intro n
  induction n with
  | zero => intro x0 x1 x2 r h; exact nomatch h
  | succ n ih => intro x0 x1 x2 r h; exact cb_X11_countHanging_L4b (fu := fu) B ht (fun h9 => ih h9) h
theorem cb_X11_countHanging_L4 {D : DD} {ev : EV} {X0 : Mem} {fu : Nat} {x0 : Nat} {x1 : Int32} {x2 : Int32} {n : Nat} {r : Int32} (B : Amb D (foot X0) ev RX11 "countHanging" cX11_countHanging 4 (some .int) rmX11_countHanging) (ht : Tb0 ev)  (h : fX11_countHanging_L4 fu X0 n x0 x1 x2 = some r) : Gd D (foot X0) ev (QF D ev X0 (.inr (some (vI r))) X0 rmX11_countHanging) X0 0 0 4 [(0, vA (some x0)), (1, vI x1), (2, vI x2)] [] := cb_X11_countHanging_L4n B ht n h
set_option maxRecDepth 100000 in
set_option maxHeartbeats 4000000 in
theorem cb_X11_countHanging_L0 {D : DD} {ev : EV} {X0 : Mem} {fu : Nat} {x0 : Nat} {r : Int32} (B : Amb D (foot X0) ev RX11 "countHanging" cX11_countHanging 4 (some .int) rmX11_countHanging) (ht : Tb0 ev)  (h : fX11_countHanging fu X0 x0 = some r) : Gd D (foot X0) ev (QF D ev X0 (.inr (some (vI r))) X0 rmX11_countHanging) X0 0 0 0 [(0, vA (some x0))] [] := by
  unfold fX11_countHanging at h
  refine g_iconst (pc := 0) B dX11_countHanging_0 (0 : Int32) (by decide) ?_
  refine g_istore_n (pc := 1) (L' := [(1, vI (0 : Int32)), (0, vA (some x0))]) B dX11_countHanging_1 (by decide) rfl ?_
  refine g_iconst (pc := 2) B dX11_countHanging_2 (0 : Int32) (by decide) ?_
  refine g_istore_n (pc := 3) (L' := [(2, vI (0 : Int32)), (1, vI (0 : Int32)), (0, vA (some x0))]) B dX11_countHanging_3 (by decide) rfl ?_
  refine g_sub (pc := 4) [2, 1, 0] rfl ?_
  exact cb_X11_countHanging_L4 B ht h
theorem ct_X11_countHanging {D : DD} {l : Launch} {X0 : Mem} {fu : Nat} {x0 : Nat} {r : Int32} (hl : l.stackTraces = false) (h : fX11_countHanging fu X0 x0 = some r) : Ctr D l yX11_countHanging cX11_countHanging 4 (some .int) rmX11_countHanging [vA (some x0)] X0 (.inr (some (vI r))) X0 :=
  ctr_of hl (plainFor_of_name (by decide)) (Nat.le_of_ble_eq_true rfl) fun ev _ ht B => cb_X11_countHanging_L0 B ht h
set_option maxRecDepth 100000 in
set_option maxHeartbeats 4000000 in
theorem cb_X11_setWall_L0 {D : DD} {ev : EV} {X0 : Mem} {fu : Nat} {x0 : Nat} {x1 : Int32} {x2 : Int32} {r : Int32 × Mem} (B : Amb D (foot X0) ev RX11 "setWall" cX11_setWall 3 (some .int) rmX11_setWall) (ht : Tb0 ev)  (h : fX11_setWall fu X0 x0 x1 x2 = some (.inr r)) : Gd D (foot X0) ev (QF D ev X0 (.inr (some (vI r.1))) r.2 rmX11_setWall) X0 0 0 0 [(0, vA (some x0)), (1, vI x1), (2, vI x2)] [] := by
  unfold fX11_setWall at h
  refine g_iload_n (pc := 0) B dX11_setWall_0 1 rfl ?_
  refine g_iconst (pc := 1) B dX11_setWall_1 (1 : Int32) (by decide) ?_
  refine g_icmp_lt (pc := 2) (tgt := 22) B dX11_setWall_2 (by decide) (fun c2 => ?_) (fun c2 => ?_)
  · rw [if_pos c2] at h
    exact nomatch (Option.some.inj h)
  · rw [if_neg c2] at h
    refine g_iload_n (pc := 5) B dX11_setWall_5 1 rfl ?_
    refine g_bipush (pc := 6) B dX11_setWall_6 (40 : Int32) (by decide) ?_
    refine g_icmp_gt (pc := 8) (tgt := 22) B dX11_setWall_8 (by decide) (fun c8 => ?_) (fun c8 => ?_)
    · rw [if_pos c8] at h
      exact nomatch (Option.some.inj h)
    · rw [if_neg c8] at h
      refine g_iload_n (pc := 11) B dX11_setWall_11 2 rfl ?_
      refine g_iconst (pc := 12) B dX11_setWall_12 (1 : Int32) (by decide) ?_
      refine g_icmp_lt (pc := 13) (tgt := 22) B dX11_setWall_13 (by decide) (fun c13 => ?_) (fun c13 => ?_)
      · rw [if_pos c13] at h
        exact nomatch (Option.some.inj h)
      · rw [if_neg c13] at h
        refine g_iload_n (pc := 16) B dX11_setWall_16 2 rfl ?_
        refine g_bipush (pc := 17) B dX11_setWall_17 (40 : Int32) (by decide) ?_
        refine g_icmp_le (pc := 19) (tgt := 32) B dX11_setWall_19 (by decide) (fun c19 => ?_) (fun c19 => ?_)
        · rw [if_pos c19] at h
          refine g_aload_n (pc := 32) B dX11_setWall_32 0 rfl ?_
          obtain ⟨k33_1, h⟩ := chk h
          refine g_getR (pc := 33) 11 4 B k33_1 (by decide) (by decide) rfl kfX11_40 dX11_setWall_33 ?_
          refine g_iload_n (pc := 36) B dX11_setWall_36 1 rfl ?_
          refine g_iload_n (pc := 37) B dX11_setWall_37 2 rfl ?_
          obtain ⟨a38_2, ea38_2, h⟩ := ob h
          rw [ea38_2]
          obtain ⟨k38_3, h⟩ := chk h
          obtain ⟨X38, e38, h⟩ := ob h
          refine h_callV (pc := 38) (As := [vI x1, vI x2]) (st := []) (X' := X38) (cs' := 0) (sl' := 0) (st10 := []) B cal_X9_measure kmX11_185 kn_X9_measure ks_X9_measure k38_3 (by decide) rfl (fun l hl => ct_X9_measure hl e38) rfl (Nat.le_of_ble_eq_true rfl) (by decide) (by decide) dX11_setWall_38 rfl rfl rfl rfl ?_
          refine g_aload_n (pc := 41) B dX11_setWall_41 0 rfl ?_
          obtain ⟨k42_4, h⟩ := chk h
          obtain ⟨X42, e42, h⟩ := ob h
          refine h_callV (pc := 42) (As := []) (st := []) (X' := X42) (cs' := 0) (sl' := 0) (st10 := []) B cal_X11_layWall kmX11_153 kn_X11_layWall ks_X11_layWall k42_4 (by decide) rfl (fun l hl => ct_X11_layWall hl e42) rfl (Nat.le_of_ble_eq_true rfl) (by decide) (by decide) dX11_setWall_42 rfl rfl rfl rfl ?_
          refine g_aload_n (pc := 45) B dX11_setWall_45 0 rfl ?_
          obtain ⟨k46_5, h⟩ := chk h
          obtain ⟨v46, e46, h⟩ := ob h
          refine h_callV (pc := 46) (As := []) (st := []) (X' := X42) (cs' := 0) (sl' := 0) (st10 := [vI v46]) B cal_X11_countHanging kmX11_188 kn_X11_countHanging ks_X11_countHanging k46_5 (by decide) rfl (fun l hl => ct_X11_countHanging hl e46) rfl (Nat.le_of_ble_eq_true rfl) (by decide) (by decide) dX11_setWall_46 rfl rfl rfl rfl ?_
          obtain rfl := Sum.inr.inj (Option.some.inj h)
          exact g_ret_I (pc := 49) B rfl (by decide) (by decide) dX11_setWall_49
        · rw [if_neg c19] at h
          exact nomatch (Option.some.inj h)
theorem ct_X11_setWall {D : DD} {l : Launch} {X0 : Mem} {fu : Nat} {x0 : Nat} {x1 : Int32} {x2 : Int32} {r : Int32 × Mem} (hl : l.stackTraces = false) (h : fX11_setWall fu X0 x0 x1 x2 = some (.inr r)) : Ctr D l yX11_setWall cX11_setWall 3 (some .int) rmX11_setWall [vA (some x0), vI x1, vI x2] X0 (.inr (some (vI r.1))) r.2 :=
  ctr_of hl (plainFor_of_name (by decide)) (Nat.le_of_ble_eq_true rfl) fun ev _ ht B => cb_X11_setWall_L0 B ht h
set_option maxRecDepth 100000 in
set_option maxHeartbeats 4000000 in
theorem cb_X11_drafted_L0 {D : DD} {ev : EV} {X0 : Mem} {x0 : Nat} {r : Int32} (B : Amb D (foot X0) ev RX11 "drafted" cX11_drafted 1 (some .int) rmX11_drafted) (ht : Tb0 ev)  (h : fX11_drafted X0 x0 = some r) : Gd D (foot X0) ev (QF D ev X0 (.inr (some (vI r))) X0 rmX11_drafted) X0 0 0 0 [(0, vA (some x0))] [] := by
  unfold fX11_drafted at h
  refine g_aload_n (pc := 0) B dX11_drafted_0 0 rfl ?_
  obtain ⟨k1_1, h⟩ := chk h
  refine g_getR (pc := 1) 11 0 B k1_1 (by decide) (by decide) rfl kfX11_10 dX11_drafted_1 ?_
  obtain ⟨a4_2, ea4_2, h⟩ := ob h
  rw [ea4_2]
  obtain ⟨k4_3, h⟩ := chk h
  obtain ⟨v4, e4, h⟩ := ob h
  refine h_callV (pc := 4) (As := []) (st := []) (X' := X0) (cs' := 0) (sl' := 0) (st10 := [vI v4]) B cal_X1_length kmX11_94 kn_X1_length ks_X1_length k4_3 (by decide) rfl (fun l hl => ct_X1_length hl e4) rfl (Nat.le_of_ble_eq_true rfl) (by decide) (by decide) dX11_drafted_4 rfl rfl rfl rfl ?_
  obtain rfl := Option.some.inj h
  exact g_ret_I (pc := 7) B rfl (by decide) (by decide) dX11_drafted_7
theorem ct_X11_drafted {D : DD} {l : Launch} {X0 : Mem} {x0 : Nat} {r : Int32} (hl : l.stackTraces = false) (h : fX11_drafted X0 x0 = some r) : Ctr D l yX11_drafted cX11_drafted 1 (some .int) rmX11_drafted [vA (some x0)] X0 (.inr (some (vI r))) X0 :=
  ctr_of hl (plainFor_of_name (by decide)) (Nat.le_of_ble_eq_true rfl) fun ev _ ht B => cb_X11_drafted_L0 B ht h
set_option maxRecDepth 100000 in
set_option maxHeartbeats 4000000 in
theorem cb_X11_programs_L0 {D : DD} {ev : EV} {X0 : Mem} {x0 : Nat} {r : Int32} (B : Amb D (foot X0) ev RX11 "programs" cX11_programs 1 (some .int) rmX11_programs) (ht : Tb0 ev)  (h : fX11_programs X0 x0 = some r) : Gd D (foot X0) ev (QF D ev X0 (.inr (some (vI r))) X0 rmX11_programs) X0 0 0 0 [(0, vA (some x0))] [] := by
  unfold fX11_programs at h
  refine g_aload_n (pc := 0) B dX11_programs_0 0 rfl ?_
  obtain ⟨k1_1, h⟩ := chk h
  refine g_getI (pc := 1) 11 8 B k1_1 (by decide) (by decide) rfl kfX11_105 dX11_programs_1 ?_
  obtain rfl := Option.some.inj h
  exact g_ret_I (pc := 4) B rfl (by decide) (by decide) dX11_programs_4
theorem ct_X11_programs {D : DD} {l : Launch} {X0 : Mem} {x0 : Nat} {r : Int32} (hl : l.stackTraces = false) (h : fX11_programs X0 x0 = some r) : Ctr D l yX11_programs cX11_programs 1 (some .int) rmX11_programs [vA (some x0)] X0 (.inr (some (vI r))) X0 :=
  ctr_of hl (plainFor_of_name (by decide)) (Nat.le_of_ble_eq_true rfl) fun ev _ ht B => cb_X11_programs_L0 B ht h
set_option maxRecDepth 100000 in
set_option maxHeartbeats 4000000 in
theorem cb_X11_fault_L0 {D : DD} {ev : EV} {X0 : Mem} {x0 : Nat} {x1 : Int32} {r : Int32} (B : Amb D (foot X0) ev RX11 "fault" cX11_fault 2 (some .int) rmX11_fault) (ht : Tb0 ev)  (h : fX11_fault X0 x0 x1 = some (.inr r)) : Gd D (foot X0) ev (QF D ev X0 (.inr (some (vI r))) X0 rmX11_fault) X0 0 0 0 [(0, vA (some x0)), (1, vI x1)] [] := by
  unfold fX11_fault at h
  refine g_aload_n (pc := 0) B dX11_fault_0 0 rfl ?_
  refine g_iload_n (pc := 1) B dX11_fault_1 1 rfl ?_
  obtain ⟨k2_1, h⟩ := chk h
  rcases bE_c h with ⟨E2, e2, hr2⟩ | ⟨v2, e2, h⟩
  · exact nomatch hr2
  refine h_callV (pc := 2) (As := [vI x1]) (st := []) (X' := X0) (cs' := 0) (sl' := 0) (st10 := [vA v2]) B cal_X11_programAt kmX11_131 kn_X11_programAt ks_X11_programAt k2_1 (by decide) rfl (fun l hl => ct_X11_programAt hl e2) rfl (Nat.le_of_ble_eq_true rfl) (by decide) (by decide) dX11_fault_2 rfl rfl rfl rfl ?_
  obtain ⟨a5_2, ea5_2, h⟩ := ob h
  rw [ea5_2]
  obtain ⟨k5_3, h⟩ := chk h
  refine g_getIN (pc := 5) 5 6 B k5_3 (by decide) (by decide) rfl kfX11_191 dX11_fault_5 ?_
  obtain rfl := Sum.inr.inj (Option.some.inj h)
  exact g_ret_I (pc := 8) B rfl (by decide) (by decide) dX11_fault_8
theorem ct_X11_fault {D : DD} {l : Launch} {X0 : Mem} {x0 : Nat} {x1 : Int32} {r : Int32} (hl : l.stackTraces = false) (h : fX11_fault X0 x0 x1 = some (.inr r)) : Ctr D l yX11_fault cX11_fault 2 (some .int) rmX11_fault [vA (some x0), vI x1] X0 (.inr (some (vI r))) X0 :=
  ctr_of hl (plainFor_of_name (by decide)) (Nat.le_of_ble_eq_true rfl) fun ev _ ht B => cb_X11_fault_L0 B ht h
set_option maxRecDepth 100000 in
set_option maxHeartbeats 4000000 in
theorem cb_X11_steps_L0 {D : DD} {ev : EV} {X0 : Mem} {x0 : Nat} {x1 : Int32} {r : Int32} (B : Amb D (foot X0) ev RX11 "steps" cX11_steps 2 (some .int) rmX11_steps) (ht : Tb0 ev)  (h : fX11_steps X0 x0 x1 = some (.inr r)) : Gd D (foot X0) ev (QF D ev X0 (.inr (some (vI r))) X0 rmX11_steps) X0 0 0 0 [(0, vA (some x0)), (1, vI x1)] [] := by
  unfold fX11_steps at h
  refine g_aload_n (pc := 0) B dX11_steps_0 0 rfl ?_
  refine g_iload_n (pc := 1) B dX11_steps_1 1 rfl ?_
  obtain ⟨k2_1, h⟩ := chk h
  rcases bE_c h with ⟨E2, e2, hr2⟩ | ⟨v2, e2, h⟩
  · exact nomatch hr2
  refine h_callV (pc := 2) (As := [vI x1]) (st := []) (X' := X0) (cs' := 0) (sl' := 0) (st10 := [vA v2]) B cal_X11_programAt kmX11_131 kn_X11_programAt ks_X11_programAt k2_1 (by decide) rfl (fun l hl => ct_X11_programAt hl e2) rfl (Nat.le_of_ble_eq_true rfl) (by decide) (by decide) dX11_steps_2 rfl rfl rfl rfl ?_
  obtain ⟨a5_2, ea5_2, h⟩ := ob h
  rw [ea5_2]
  obtain ⟨k5_3, h⟩ := chk h
  refine g_getIN (pc := 5) 5 7 B k5_3 (by decide) (by decide) rfl kfX11_193 dX11_steps_5 ?_
  obtain rfl := Sum.inr.inj (Option.some.inj h)
  exact g_ret_I (pc := 8) B rfl (by decide) (by decide) dX11_steps_8
theorem ct_X11_steps {D : DD} {l : Launch} {X0 : Mem} {x0 : Nat} {x1 : Int32} {r : Int32} (hl : l.stackTraces = false) (h : fX11_steps X0 x0 x1 = some (.inr r)) : Ctr D l yX11_steps cX11_steps 2 (some .int) rmX11_steps [vA (some x0), vI x1] X0 (.inr (some (vI r))) X0 :=
  ctr_of hl (plainFor_of_name (by decide)) (Nat.le_of_ble_eq_true rfl) fun ev _ ht B => cb_X11_steps_L0 B ht h
set_option maxRecDepth 100000 in
set_option maxHeartbeats 4000000 in
theorem cb_X11_strokes_L0 {D : DD} {ev : EV} {X0 : Mem} {x0 : Nat} {x1 : Int32} {r : Int32} (B : Amb D (foot X0) ev RX11 "strokes" cX11_strokes 2 (some .int) rmX11_strokes) (ht : Tb0 ev)  (h : fX11_strokes X0 x0 x1 = some (.inr r)) : Gd D (foot X0) ev (QF D ev X0 (.inr (some (vI r))) X0 rmX11_strokes) X0 0 0 0 [(0, vA (some x0)), (1, vI x1)] [] := by
  unfold fX11_strokes at h
  refine g_aload_n (pc := 0) B dX11_strokes_0 0 rfl ?_
  refine g_iload_n (pc := 1) B dX11_strokes_1 1 rfl ?_
  obtain ⟨k2_1, h⟩ := chk h
  rcases bE_c h with ⟨E2, e2, hr2⟩ | ⟨v2, e2, h⟩
  · exact nomatch hr2
  refine h_callV (pc := 2) (As := [vI x1]) (st := []) (X' := X0) (cs' := 0) (sl' := 0) (st10 := [vA v2]) B cal_X11_programAt kmX11_131 kn_X11_programAt ks_X11_programAt k2_1 (by decide) rfl (fun l hl => ct_X11_programAt hl e2) rfl (Nat.le_of_ble_eq_true rfl) (by decide) (by decide) dX11_strokes_2 rfl rfl rfl rfl ?_
  obtain ⟨a5_2, ea5_2, h⟩ := ob h
  rw [ea5_2]
  obtain ⟨k5_3, h⟩ := chk h
  refine g_getRN (pc := 5) 5 5 B k5_3 (by decide) (by decide) rfl kfX11_114 dX11_strokes_5 ?_
  obtain ⟨a8_4, ea8_4, h⟩ := ob h
  rw [ea8_4]
  obtain ⟨k8_5, h⟩ := chk h
  refine g_getIN (pc := 8) 2 2 B k8_5 (by decide) (by decide) rfl kfX11_195 dX11_strokes_8 ?_
  obtain rfl := Sum.inr.inj (Option.some.inj h)
  exact g_ret_I (pc := 11) B rfl (by decide) (by decide) dX11_strokes_11
theorem ct_X11_strokes {D : DD} {l : Launch} {X0 : Mem} {x0 : Nat} {x1 : Int32} {r : Int32} (hl : l.stackTraces = false) (h : fX11_strokes X0 x0 x1 = some (.inr r)) : Ctr D l yX11_strokes cX11_strokes 2 (some .int) rmX11_strokes [vA (some x0), vI x1] X0 (.inr (some (vI r))) X0 :=
  ctr_of hl (plainFor_of_name (by decide)) (Nat.le_of_ble_eq_true rfl) fun ev _ ht B => cb_X11_strokes_L0 B ht h
set_option maxRecDepth 100000 in
set_option maxHeartbeats 4000000 in
theorem cb_X2_makeEmpty_L7b {D : DD} {ev : EV} {X0 : Mem} {fu : Nat} {rec7 : Mem → Nat → Int32 → Option (Mem)} {X : Mem} {x0 : Nat} {x1 : Int32} {r : Mem} (B : Amb D (foot X0) ev RX2 "makeEmpty" cX2_makeEmpty 2 (none) rmX2_makeEmpty) (ht : Tb0 ev) (hrec7 : ∀ {X : Mem} {x0 : Nat} {x1 : Int32} {r : Mem}, rec7 X x0 x1 = some r → Gd D (foot X0) ev (QF D ev X0 (.inr (none)) r rmX2_makeEmpty) X 0 0 7 [(0, vA (some x0)), (1, vI x1)] []) (h : fX2_makeEmpty_L7b fu rec7 X x0 x1 = some r) : Gd D (foot X0) ev (QF D ev X0 (.inr (none)) r rmX2_makeEmpty) X 0 0 7 [(0, vA (some x0)), (1, vI x1)] [] := by
  unfold fX2_makeEmpty_L7b at h
  refine g_iload_n (pc := 7) B dX2_makeEmpty_7 1 rfl ?_
  refine g_bipush (pc := 8) B dX2_makeEmpty_8 (16 : Int32) (by decide) ?_
  refine g_icmp_ge (pc := 10) (tgt := 51) B dX2_makeEmpty_10 (by decide) (fun c10 => ?_) (fun c10 => ?_)
  · rw [if_pos c10] at h
    obtain rfl := Option.some.inj h
    exact g_ret_V (pc := 51) B rfl (by decide) (by decide) dX2_makeEmpty_51
  · rw [if_neg c10] at h
    refine g_iload_n (pc := 13) B dX2_makeEmpty_13 1 rfl ?_
    refine g_aload_n (pc := 14) B dX2_makeEmpty_14 0 rfl ?_
    obtain ⟨k15_1, h⟩ := chk h
    refine g_getR (pc := 15) 2 0 B k15_1 (by decide) (by decide) rfl kfX2_9 dX2_makeEmpty_15 ?_
    obtain ⟨a18_2, ea18_2, h⟩ := ob h
    rw [ea18_2]
    obtain ⟨n18_2, en18_2, h⟩ := ob h
    obtain ⟨tn18_2, kn18_2, qn18_2⟩ := alen_s en18_2
    refine g_alen (pc := 18) B kn18_2 qn18_2 dX2_makeEmpty_18 ?_
    refine g_icmp_ge (pc := 19) (tgt := 51) B dX2_makeEmpty_19 (by decide) (fun c19 => ?_) (fun c19 => ?_)
    · rw [if_pos c19] at h
      obtain rfl := Option.some.inj h
      exact g_ret_V (pc := 51) B rfl (by decide) (by decide) dX2_makeEmpty_51
    · rw [if_neg c19] at h
      refine g_iload_n (pc := 22) B dX2_makeEmpty_22 1 rfl ?_
      refine g_aload_n (pc := 23) B dX2_makeEmpty_23 0 rfl ?_
      refine g_getR (pc := 24) 2 1 B k15_1 (by decide) (by decide) rfl kfX2_15 dX2_makeEmpty_24 ?_
      obtain ⟨a27_4, ea27_4, h⟩ := ob h
      rw [ea27_4]
      obtain ⟨n27_4, en27_4, h⟩ := ob h
      obtain ⟨tn27_4, kn27_4, qn27_4⟩ := alen_s en27_4
      refine g_alen (pc := 27) B kn27_4 qn27_4 dX2_makeEmpty_27 ?_
      refine g_icmp_ge (pc := 28) (tgt := 51) B dX2_makeEmpty_28 (by decide) (fun c28 => ?_) (fun c28 => ?_)
      · rw [if_pos c28] at h
        obtain rfl := Option.some.inj h
        exact g_ret_V (pc := 51) B rfl (by decide) (by decide) dX2_makeEmpty_51
      · rw [if_neg c28] at h
        refine g_aload_n (pc := 31) B dX2_makeEmpty_31 0 rfl ?_
        refine g_getR (pc := 32) 2 0 B k15_1 (by decide) (by decide) rfl kfX2_9 dX2_makeEmpty_32 ?_
        refine g_iload_n (pc := 35) B dX2_makeEmpty_35 1 rfl ?_
        refine g_iconst (pc := 36) B dX2_makeEmpty_36 (0 : Int32) (by decide) ?_
        obtain ⟨a37_6, ea37_6, h⟩ := ob h
        rw [ea37_6]
        obtain ⟨c37, h⟩ := chk h
        obtain ⟨nc37, kc37, ic37⟩ := inb_s c37
        refine g_iast (pc := 37) B kc37 ic37 dX2_makeEmpty_37 ?_
        refine g_aload_n (pc := 38) B dX2_makeEmpty_38 0 rfl ?_
        refine g_getR (pc := 39) 2 1 B k15_1 (by decide) (by decide) rfl kfX2_15 dX2_makeEmpty_39 ?_
        refine g_iload_n (pc := 42) B dX2_makeEmpty_42 1 rfl ?_
        refine g_iconst (pc := 43) B dX2_makeEmpty_43 (0 : Int32) (by decide) ?_
        obtain ⟨a44_7, ea44_7, h⟩ := ob h
        rw [ea44_7]
        obtain ⟨c44, h⟩ := chk h
        obtain ⟨nc44, kc44, ic44⟩ := inb_s c44
        refine g_iast (pc := 44) B kc44 ic44 dX2_makeEmpty_44 ?_
        refine g_iinc (pc := 45) (v := (x1 + (1 : Int32))) (L' := [(1, vI (x1 + (1 : Int32))), (0, vA (some x0))]) B dX2_makeEmpty_45 (by decide) 1 rfl rfl rfl ?_
        refine g_goto (pc := 48) (tgt := 7) B dX2_makeEmpty_48 (by decide) ?_
        refine g_sub (pc := 7) [1, 0] rfl ?_
        exact hrec7 h
theorem cb_X2_makeEmpty_L7n {D : DD} {ev : EV} {X0 : Mem} {fu : Nat} (B : Amb D (foot X0) ev RX2 "makeEmpty" cX2_makeEmpty 2 (none) rmX2_makeEmpty) (ht : Tb0 ev)  : ∀ (n : Nat) {X : Mem} {x0 : Nat} {x1 : Int32} {r : Mem}, fX2_makeEmpty_L7 fu n X x0 x1 = some r → Gd D (foot X0) ev (QF D ev X0 (.inr (none)) r rmX2_makeEmpty) X 0 0 7 [(0, vA (some x0)), (1, vI x1)] [] := by
  intro n
  induction n with
  | zero => intro X x0 x1 r h; exact nomatch h
  | succ n ih => intro X x0 x1 r h; exact cb_X2_makeEmpty_L7b (fu := fu) B ht (fun h9 => ih h9) h
theorem cb_X2_makeEmpty_L7 {D : DD} {ev : EV} {X0 : Mem} {fu : Nat} {X : Mem} {x0 : Nat} {x1 : Int32} {n : Nat} {r : Mem} (B : Amb D (foot X0) ev RX2 "makeEmpty" cX2_makeEmpty 2 (none) rmX2_makeEmpty) (ht : Tb0 ev)  (h : fX2_makeEmpty_L7 fu n X x0 x1 = some r) : Gd D (foot X0) ev (QF D ev X0 (.inr (none)) r rmX2_makeEmpty) X 0 0 7 [(0, vA (some x0)), (1, vI x1)] [] := cb_X2_makeEmpty_L7n B ht n h
set_option maxRecDepth 100000 in
set_option maxHeartbeats 4000000 in
theorem cb_X2_makeEmpty_L0 {D : DD} {ev : EV} {X0 : Mem} {fu : Nat} {X : Mem} {x0 : Nat} {r : Mem} (B : Amb D (foot X0) ev RX2 "makeEmpty" cX2_makeEmpty 2 (none) rmX2_makeEmpty) (ht : Tb0 ev)  (h : fX2_makeEmpty fu X x0 = some r) : Gd D (foot X0) ev (QF D ev X0 (.inr (none)) r rmX2_makeEmpty) X 0 0 0 [(0, vA (some x0))] [] := by
  unfold fX2_makeEmpty at h
  refine g_aload_n (pc := 0) B dX2_makeEmpty_0 0 rfl ?_
  refine g_iconst (pc := 1) B dX2_makeEmpty_1 (0 : Int32) (by decide) ?_
  obtain ⟨k2_1, h⟩ := chk h
  refine g_putI (pc := 2) 2 2 B k2_1 (by decide) (by decide) rfl rfl kfX2_18 dX2_makeEmpty_2 ?_
  refine g_iconst (pc := 5) B dX2_makeEmpty_5 (0 : Int32) (by decide) ?_
  refine g_istore_n (pc := 6) (L' := [(1, vI (0 : Int32)), (0, vA (some x0))]) B dX2_makeEmpty_6 (by decide) rfl ?_
  refine g_sub (pc := 7) [1, 0] rfl ?_
  exact cb_X2_makeEmpty_L7 B ht h
theorem ct_X2_makeEmpty {D : DD} {l : Launch} {X0 : Mem} {fu : Nat} {x0 : Nat} {r : Mem} (hl : l.stackTraces = false) (h : fX2_makeEmpty fu X0 x0 = some r) : Ctr D l yX2_makeEmpty cX2_makeEmpty 2 (none) rmX2_makeEmpty [vA (some x0)] X0 (.inr (none)) r :=
  ctr_of hl (plainFor_of_name (by decide)) (Nat.le_of_ble_eq_true rfl) fun ev _ ht B => cb_X2_makeEmpty_L0 B ht h
set_option maxRecDepth 100000 in
set_option maxHeartbeats 4000000 in
theorem cb_X11_strokesBySteps_L0 {D : DD} {ev : EV} {X0 : Mem} {fu : Nat} {x0 : Nat} {x1 : Int32} {x2 : Int32} {r : Int32 × Mem} (B : Amb D (foot X0) ev RX11 "strokesBySteps" cX11_strokesBySteps 4 (some .int) rmX11_strokesBySteps) (ht : Tb0 ev)  (h : fX11_strokesBySteps fu X0 x0 x1 x2 = some (.inr r)) : Gd D (foot X0) ev (QF D ev X0 (.inr (some (vI r.1))) r.2 rmX11_strokesBySteps) X0 0 0 0 [(0, vA (some x0)), (1, vI x1), (2, vI x2)] [] := by
  unfold fX11_strokesBySteps at h
  refine g_aload_n (pc := 0) B dX11_strokesBySteps_0 0 rfl ?_
  refine g_iload_n (pc := 1) B dX11_strokesBySteps_1 1 rfl ?_
  obtain ⟨k2_1, h⟩ := chk h
  rcases bE_c h with ⟨E2, e2, hr2⟩ | ⟨v2, e2, h⟩
  · exact nomatch hr2
  refine h_callV (pc := 2) (As := [vI x1]) (st := []) (X' := X0) (cs' := 0) (sl' := 0) (st10 := [vA v2]) B cal_X11_programAt kmX11_131 kn_X11_programAt ks_X11_programAt k2_1 (by decide) rfl (fun l hl => ct_X11_programAt hl e2) rfl (Nat.le_of_ble_eq_true rfl) (by decide) (by decide) dX11_strokesBySteps_2 rfl rfl rfl rfl ?_
  refine g_astore_n (pc := 5) (L' := [(3, vA v2), (0, vA (some x0)), (1, vI x1), (2, vI x2)]) B dX11_strokesBySteps_5 (by decide) rfl ?_
  refine g_iload_n (pc := 6) B dX11_strokesBySteps_6 3 rfl ?_
  refine g_if_lt (pc := 7) (tgt := 17) B dX11_strokesBySteps_7 (by decide) (fun c7 => ?_) (fun c7 => ?_)
  · rw [if_pos c7] at h
    exact nomatch (Option.some.inj h)
  · rw [if_neg c7] at h
    refine g_iload_n (pc := 10) B dX11_strokesBySteps_10 3 rfl ?_
    refine g_sipush (pc := 11) B dX11_strokesBySteps_11 (600 : Int32) (by decide) ?_
    refine g_icmp_le (pc := 14) (tgt := 27) B dX11_strokesBySteps_14 (by decide) (fun c14 => ?_) (fun c14 => ?_)
    · rw [if_pos c14] at h
      refine g_aload_n (pc := 27) B dX11_strokesBySteps_27 1 rfl ?_
      refine g_getR (pc := 28) 11 2 B k2_1 (by decide) (by decide) rfl kfX11_26 dX11_strokesBySteps_28 ?_
      obtain ⟨a31_2, ea31_2, h⟩ := ob h
      rw [ea31_2]
      obtain ⟨k31_3, h⟩ := chk h
      obtain ⟨X31, e31, h⟩ := ob h
      refine h_callV (pc := 31) (As := []) (st := []) (X' := X31) (cs' := 0) (sl' := 0) (st10 := []) B cal_X2_makeEmpty kmX11_200 kn_X2_makeEmpty ks_X2_makeEmpty k31_3 (by decide) rfl (fun l hl => ct_X2_makeEmpty hl e31) rfl (Nat.le_of_ble_eq_true rfl) (by decide) (by decide) dX11_strokesBySteps_31 rfl rfl rfl rfl ?_
      refine g_aload_n (pc := 34) B dX11_strokesBySteps_34 1 rfl ?_
      obtain ⟨k35_4, h⟩ := chk h
      refine g_getR (pc := 35) 11 1 B k35_4 (by decide) (by decide) rfl kfX11_19 dX11_strokesBySteps_35 ?_
      refine g_aload_n (pc := 38) B dX11_strokesBySteps_38 0 rfl ?_
      refine g_aload_n (pc := 39) B dX11_strokesBySteps_39 1 rfl ?_
      refine g_getR (pc := 40) 11 2 B k35_4 (by decide) (by decide) rfl kfX11_26 dX11_strokesBySteps_40 ?_
      refine g_iload_n (pc := 43) B dX11_strokesBySteps_43 3 rfl ?_
      obtain ⟨a44_5, ea44_5, h⟩ := ob h
      rw [ea44_5]
      obtain ⟨k44_6, h⟩ := chk h
      obtain ⟨X44, e44, h⟩ := ob h
      refine h_callV (pc := 44) (As := [vA v2, vA (mR X31 1102 x0), vI x2]) (st := []) (X' := X44) (cs' := 0) (sl' := 0) (st10 := []) B cal_X7_perform kmX11_117 kn_X7_perform ks_X7_perform k44_6 (by decide) rfl (fun l hl => ct_X7_perform hl e44) rfl (Nat.le_of_ble_eq_true rfl) (by decide) (by decide) dX11_strokesBySteps_44 rfl rfl rfl rfl ?_
      refine g_aload_n (pc := 47) B dX11_strokesBySteps_47 1 rfl ?_
      obtain ⟨k48_7, h⟩ := chk h
      refine g_getR (pc := 48) 11 2 B k48_7 (by decide) (by decide) rfl kfX11_26 dX11_strokesBySteps_48 ?_
      obtain ⟨a51_8, ea51_8, h⟩ := ob h
      rw [ea51_8]
      obtain ⟨k51_9, h⟩ := chk h
      refine g_getIN (pc := 51) 2 2 B k51_9 (by decide) (by decide) rfl kfX11_195 dX11_strokesBySteps_51 ?_
      obtain rfl := Sum.inr.inj (Option.some.inj h)
      exact g_ret_I (pc := 54) B rfl (by decide) (by decide) dX11_strokesBySteps_54
    · rw [if_neg c14] at h
      exact nomatch (Option.some.inj h)
theorem ct_X11_strokesBySteps {D : DD} {l : Launch} {X0 : Mem} {fu : Nat} {x0 : Nat} {x1 : Int32} {x2 : Int32} {r : Int32 × Mem} (hl : l.stackTraces = false) (h : fX11_strokesBySteps fu X0 x0 x1 x2 = some (.inr r)) : Ctr D l yX11_strokesBySteps cX11_strokesBySteps 4 (some .int) rmX11_strokesBySteps [vA (some x0), vI x1, vI x2] X0 (.inr (some (vI r.1))) r.2 :=
  ctr_of hl (plainFor_of_name (by decide)) (Nat.le_of_ble_eq_true rfl) fun ev _ ht B => cb_X11_strokesBySteps_L0 B ht h
set_option maxRecDepth 100000 in
set_option maxHeartbeats 4000000 in
theorem cb_X2_hasStroke_L15 {D : DD} {ev : EV} {X0 : Mem} {x1 : Int32} {x2 : Int32} {s0 : Option Nat} {r : Int32} (B : Amb D (foot X0) ev RX2 "hasStroke" cX2_hasStroke 5 (some .boolean) rmX2_hasStroke) (ht : Tb0 ev)  (h : fX2_hasStroke_L15 X0 x1 x2 s0 = some r) : Gd D (foot X0) ev (QF D ev X0 (.inr (some (vI r))) X0 rmX2_hasStroke) X0 0 0 15 [(1, vI x1), (2, vI x2)] [vA s0] := by
  unfold fX2_hasStroke_L15 at h
  refine g_astore (pc := 15) (L' := [(4, vA s0), (1, vI x1), (2, vI x2)]) B dX2_hasStroke_15 (by decide) rfl ?_
  refine g_iload_n (pc := 17) B dX2_hasStroke_17 1 rfl ?_
  obtain ⟨v18, e18, h⟩ := ob h
  refine h_callSN (pc := 18) (As := [vI x1]) (st := []) (X' := X0) (cs' := 0) (sl' := 0) (st10 := [vI v18]) B cal_X11_isOnGround kmX2_22 kz_X11_isOnGround (fun l hl => ct_X11_isOnGround hl e18) rfl (Nat.le_of_ble_eq_true rfl) (by decide) (by decide) dX2_hasStroke_18 rfl rfl rfl rfl ?_
  refine g_if_eq (pc := 21) (tgt := 51) B dX2_hasStroke_21 (by decide) (fun c21 => ?_) (fun c21 => ?_)
  · rw [if_pos c21] at h
    refine g_iconst (pc := 51) B dX2_hasStroke_51 (0 : Int32) (by decide) ?_
    obtain rfl := Option.some.inj h
    exact g_ret_Z (pc := 52) B rfl (Or.inl rfl) (by decide) (by decide) dX2_hasStroke_52
  · rw [if_neg c21] at h
    refine g_iload_n (pc := 24) B dX2_hasStroke_24 2 rfl ?_
    refine g_if_lt (pc := 25) (tgt := 51) B dX2_hasStroke_25 (by decide) (fun c25 => ?_) (fun c25 => ?_)
    · rw [if_pos c25] at h
      refine g_iconst (pc := 51) B dX2_hasStroke_51 (0 : Int32) (by decide) ?_
      obtain rfl := Option.some.inj h
      exact g_ret_Z (pc := 52) B rfl (Or.inl rfl) (by decide) (by decide) dX2_hasStroke_52
    · rw [if_neg c25] at h
      refine g_iload_n (pc := 28) B dX2_hasStroke_28 2 rfl ?_
      refine g_aload (pc := 29) B dX2_hasStroke_29 0 rfl ?_
      obtain ⟨a31_1, ea31_1, h⟩ := ob h
      rw [ea31_1]
      obtain ⟨n31_1, en31_1, h⟩ := ob h
      obtain ⟨tn31_1, kn31_1, qn31_1⟩ := alen_s en31_1
      refine g_alen (pc := 31) B kn31_1 qn31_1 dX2_hasStroke_31 ?_
      refine g_icmp_ge (pc := 32) (tgt := 51) B dX2_hasStroke_32 (by decide) (fun c32 => ?_) (fun c32 => ?_)
      · rw [if_pos c32] at h
        refine g_iconst (pc := 51) B dX2_hasStroke_51 (0 : Int32) (by decide) ?_
        obtain rfl := Option.some.inj h
        exact g_ret_Z (pc := 52) B rfl (Or.inl rfl) (by decide) (by decide) dX2_hasStroke_52
      · rw [if_neg c32] at h
        refine g_aload (pc := 35) B dX2_hasStroke_35 0 rfl ?_
        refine g_iload_n (pc := 37) B dX2_hasStroke_37 2 rfl ?_
        obtain ⟨c38, h⟩ := chk h
        obtain ⟨nc38, kc38, ic38⟩ := inb_s c38
        refine g_iald (pc := 38) B kc38 ic38 dX2_hasStroke_38 ?_
        refine g_iload_n (pc := 39) B dX2_hasStroke_39 1 rfl ?_
        refine g_ishr (pc := 40) B dX2_hasStroke_40 ?_
        refine g_iconst (pc := 41) B dX2_hasStroke_41 (1 : Int32) (by decide) ?_
        refine g_iand (pc := 42) B dX2_hasStroke_42 ?_
        refine g_iconst (pc := 43) B dX2_hasStroke_43 (1 : Int32) (by decide) ?_
        refine g_icmp_ne (pc := 44) (tgt := 51) B dX2_hasStroke_44 (by decide) (fun c44 => ?_) (fun c44 => ?_)
        · rw [if_neg c44] at h
          refine g_iconst (pc := 51) B dX2_hasStroke_51 (0 : Int32) (by decide) ?_
          obtain rfl := Option.some.inj h
          exact g_ret_Z (pc := 52) B rfl (Or.inl rfl) (by decide) (by decide) dX2_hasStroke_52
        · rw [if_pos c44] at h
          refine g_iconst (pc := 47) B dX2_hasStroke_47 (1 : Int32) (by decide) ?_
          refine g_goto (pc := 48) (tgt := 52) B dX2_hasStroke_48 (by decide) ?_
          obtain rfl := Option.some.inj h
          exact g_ret_Z (pc := 52) B rfl (Or.inr rfl) (by decide) (by decide) dX2_hasStroke_52
set_option maxRecDepth 100000 in
set_option maxHeartbeats 4000000 in
theorem cb_X2_hasStroke_L0 {D : DD} {ev : EV} {X0 : Mem} {x0 : Nat} {x1 : Int32} {x2 : Int32} {x3 : Int32} {r : Int32} (B : Amb D (foot X0) ev RX2 "hasStroke" cX2_hasStroke 5 (some .boolean) rmX2_hasStroke) (ht : Tb0 ev)  (h : fX2_hasStroke X0 x0 x1 x2 x3 = some r) : Gd D (foot X0) ev (QF D ev X0 (.inr (some (vI r))) X0 rmX2_hasStroke) X0 0 0 0 [(0, vA (some x0)), (1, vI x1), (2, vI x2), (3, vI x3)] [] := by
  unfold fX2_hasStroke at h
  refine g_iload_n (pc := 0) B dX2_hasStroke_0 3 rfl ?_
  refine g_if_eq (pc := 1) (tgt := 11) B dX2_hasStroke_1 (by decide) (fun c1 => ?_) (fun c1 => ?_)
  · rw [if_pos c1] at h
    refine g_aload_n (pc := 11) B dX2_hasStroke_11 0 rfl ?_
    obtain ⟨k12_1, h⟩ := chk h
    refine g_getR (pc := 12) 2 0 B k12_1 (by decide) (by decide) rfl kfX2_9 dX2_hasStroke_12 ?_
    refine g_sub (pc := 15) [1, 2] rfl ?_
    exact cb_X2_hasStroke_L15 B ht h
  · rw [if_neg c1] at h
    refine g_aload_n (pc := 4) B dX2_hasStroke_4 0 rfl ?_
    obtain ⟨k5_2, h⟩ := chk h
    refine g_getR (pc := 5) 2 1 B k5_2 (by decide) (by decide) rfl kfX2_15 dX2_hasStroke_5 ?_
    refine g_goto (pc := 8) (tgt := 15) B dX2_hasStroke_8 (by decide) ?_
    refine g_sub (pc := 15) [1, 2] rfl ?_
    exact cb_X2_hasStroke_L15 B ht h
theorem ct_X2_hasStroke {D : DD} {l : Launch} {X0 : Mem} {x0 : Nat} {x1 : Int32} {x2 : Int32} {x3 : Int32} {r : Int32} (hl : l.stackTraces = false) (h : fX2_hasStroke X0 x0 x1 x2 x3 = some r) : Ctr D l yX2_hasStroke cX2_hasStroke 5 (some .boolean) rmX2_hasStroke [vA (some x0), vI x1, vI x2, vI x3] X0 (.inr (some (vI r))) X0 :=
  ctr_of hl (plainFor_of_name (by decide)) (Nat.le_of_ble_eq_true rfl) fun ev _ ht B => cb_X2_hasStroke_L0 B ht h
set_option maxRecDepth 100000 in
set_option maxHeartbeats 4000000 in
theorem cb_X11_isDrawn_L0 {D : DD} {ev : EV} {X0 : Mem} {x0 : Nat} {x1 : Int32} {x2 : Int32} {x3 : Int32} {x4 : Int32} {r : Int32} (B : Amb D (foot X0) ev RX11 "isDrawn" cX11_isDrawn 6 (some .boolean) rmX11_isDrawn) (ht : Tb0 ev)  (h : fX11_isDrawn X0 x0 x1 x2 x3 x4 = some (.inr r)) : Gd D (foot X0) ev (QF D ev X0 (.inr (some (vI r))) X0 rmX11_isDrawn) X0 0 0 0 [(0, vA (some x0)), (1, vI x1), (2, vI x2), (3, vI x3), (4, vI x4)] [] := by
  unfold fX11_isDrawn at h
  refine g_aload_n (pc := 0) B dX11_isDrawn_0 0 rfl ?_
  refine g_iload_n (pc := 1) B dX11_isDrawn_1 1 rfl ?_
  obtain ⟨k2_1, h⟩ := chk h
  rcases bE_c h with ⟨E2, e2, hr2⟩ | ⟨v2, e2, h⟩
  · exact nomatch hr2
  refine h_callV (pc := 2) (As := [vI x1]) (st := []) (X' := X0) (cs' := 0) (sl' := 0) (st10 := [vA v2]) B cal_X11_programAt kmX11_131 kn_X11_programAt ks_X11_programAt k2_1 (by decide) rfl (fun l hl => ct_X11_programAt hl e2) rfl (Nat.le_of_ble_eq_true rfl) (by decide) (by decide) dX11_isDrawn_2 rfl rfl rfl rfl ?_
  refine g_astore (pc := 5) (L' := [(5, vA v2), (0, vA (some x0)), (1, vI x1), (2, vI x2), (3, vI x3), (4, vI x4)]) B dX11_isDrawn_5 (by decide) rfl ?_
  refine g_iload_n (pc := 7) B dX11_isDrawn_7 3 rfl ?_
  obtain ⟨v8, e8, h⟩ := ob h
  refine h_callS (pc := 8) (As := [vI x2]) (st := []) (X' := X0) (cs' := 0) (sl' := 0) (st10 := [vI v8]) B cal_X11_isOnGround kmX11_201 kz_X11_isOnGround (fun l hl => ct_X11_isOnGround hl e8) rfl (Nat.le_of_ble_eq_true rfl) (by decide) (by decide) dX11_isDrawn_8 rfl rfl rfl rfl ?_
  refine g_if_eq (pc := 11) (tgt := 21) B dX11_isDrawn_11 (by decide) (fun c11 => ?_) (fun c11 => ?_)
  · rw [if_pos c11] at h
    exact nomatch (Option.some.inj h)
  · rw [if_neg c11] at h
    refine g_iload_n (pc := 14) B dX11_isDrawn_14 4 rfl ?_
    obtain ⟨v15, e15, h⟩ := ob h
    refine h_callS (pc := 15) (As := [vI x3]) (st := []) (X' := X0) (cs' := 0) (sl' := 0) (st10 := [vI v15]) B cal_X11_isOnGround kmX11_201 kz_X11_isOnGround (fun l hl => ct_X11_isOnGround hl e15) rfl (Nat.le_of_ble_eq_true rfl) (by decide) (by decide) dX11_isDrawn_15 rfl rfl rfl rfl ?_
    refine g_if_ne (pc := 18) (tgt := 31) B dX11_isDrawn_18 (by decide) (fun c18 => ?_) (fun c18 => ?_)
    · rw [if_neg c18] at h
      refine g_aload (pc := 31) B dX11_isDrawn_31 0 rfl ?_
      obtain ⟨a33_2, ea33_2, h⟩ := ob h
      rw [ea33_2]
      obtain ⟨k33_3, h⟩ := chk h
      refine g_getRN (pc := 33) 5 5 B k33_3 (by decide) (by decide) rfl kfX11_114 dX11_isDrawn_33 ?_
      refine g_iload_n (pc := 36) B dX11_isDrawn_36 3 rfl ?_
      refine g_iload_n (pc := 37) B dX11_isDrawn_37 4 rfl ?_
      refine g_iload (pc := 38) B dX11_isDrawn_38 5 rfl ?_
      obtain ⟨a40_4, ea40_4, h⟩ := ob h
      rw [ea40_4]
      obtain ⟨k40_5, h⟩ := chk h
      obtain ⟨v40, e40, h⟩ := ob h
      refine h_callV (pc := 40) (As := [vI x2, vI x3, vI x4]) (st := []) (X' := X0) (cs' := 0) (sl' := 0) (st10 := [vI v40]) B cal_X2_hasStroke kmX11_209 kn_X2_hasStroke ks_X2_hasStroke k40_5 (by decide) rfl (fun l hl => ct_X2_hasStroke hl e40) rfl (Nat.le_of_ble_eq_true rfl) (by decide) (by decide) dX11_isDrawn_40 rfl rfl rfl rfl ?_
      obtain ⟨z43, h⟩ := chk h
      obtain rfl := Sum.inr.inj (Option.some.inj h)
      exact g_ret_Z (pc := 43) B rfl z43 (by decide) (by decide) dX11_isDrawn_43
    · rw [if_pos c18] at h
      exact nomatch (Option.some.inj h)
theorem ct_X11_isDrawn {D : DD} {l : Launch} {X0 : Mem} {x0 : Nat} {x1 : Int32} {x2 : Int32} {x3 : Int32} {x4 : Int32} {r : Int32} (hl : l.stackTraces = false) (h : fX11_isDrawn X0 x0 x1 x2 x3 x4 = some (.inr r)) : Ctr D l yX11_isDrawn cX11_isDrawn 6 (some .boolean) rmX11_isDrawn [vA (some x0), vI x1, vI x2, vI x3, vI x4] X0 (.inr (some (vI r))) X0 :=
  ctr_of hl (plainFor_of_name (by decide)) (Nat.le_of_ble_eq_true rfl) fun ev _ ht B => cb_X11_isDrawn_L0 B ht h
set_option maxRecDepth 100000 in
set_option maxHeartbeats 4000000 in
theorem cb_X11_areAlike_L0 {D : DD} {ev : EV} {X0 : Mem} {fu : Nat} {x0 : Nat} {x1 : Int32} {x2 : Int32} {r : Int32} (B : Amb D (foot X0) ev RX11 "areAlike" cX11_areAlike 5 (some .boolean) rmX11_areAlike) (ht : Tb0 ev)  (h : fX11_areAlike fu X0 x0 x1 x2 = some (.inr r)) : Gd D (foot X0) ev (QF D ev X0 (.inr (some (vI r))) X0 rmX11_areAlike) X0 0 0 0 [(0, vA (some x0)), (1, vI x1), (2, vI x2)] [] := by
  unfold fX11_areAlike at h
  refine g_aload_n (pc := 0) B dX11_areAlike_0 0 rfl ?_
  refine g_iload_n (pc := 1) B dX11_areAlike_1 1 rfl ?_
  obtain ⟨k2_1, h⟩ := chk h
  rcases bE_c h with ⟨E2, e2, hr2⟩ | ⟨v2, e2, h⟩
  · exact nomatch hr2
  refine h_callV (pc := 2) (As := [vI x1]) (st := []) (X' := X0) (cs' := 0) (sl' := 0) (st10 := [vA v2]) B cal_X11_programAt kmX11_131 kn_X11_programAt ks_X11_programAt k2_1 (by decide) rfl (fun l hl => ct_X11_programAt hl e2) rfl (Nat.le_of_ble_eq_true rfl) (by decide) (by decide) dX11_areAlike_2 rfl rfl rfl rfl ?_
  refine g_astore_n (pc := 5) (L' := [(3, vA v2), (0, vA (some x0)), (1, vI x1), (2, vI x2)]) B dX11_areAlike_5 (by decide) rfl ?_
  refine g_aload_n (pc := 6) B dX11_areAlike_6 1 rfl ?_
  refine g_iload_n (pc := 7) B dX11_areAlike_7 3 rfl ?_
  rcases bE_c h with ⟨E8, e8, hr8⟩ | ⟨v8, e8, h⟩
  · exact nomatch hr8
  refine h_callV (pc := 8) (As := [vI x2]) (st := []) (X' := X0) (cs' := 0) (sl' := 0) (st10 := [vA v8]) B cal_X11_programAt kmX11_131 kn_X11_programAt ks_X11_programAt k2_1 (by decide) rfl (fun l hl => ct_X11_programAt hl e8) rfl (Nat.le_of_ble_eq_true rfl) (by decide) (by decide) dX11_areAlike_8 rfl rfl rfl rfl ?_
  refine g_astore (pc := 11) (L' := [(4, vA v8), (3, vA v2), (0, vA (some x0)), (1, vI x1), (2, vI x2)]) B dX11_areAlike_11 (by decide) rfl ?_
  refine g_aload_n (pc := 13) B dX11_areAlike_13 1 rfl ?_
  obtain ⟨a14_2, ea14_2, h⟩ := ob h
  rw [ea14_2]
  obtain ⟨k14_3, h⟩ := chk h
  refine g_getRN (pc := 14) 5 5 B k14_3 (by decide) (by decide) rfl kfX11_114 dX11_areAlike_14 ?_
  refine g_aload (pc := 17) B dX11_areAlike_17 0 rfl ?_
  obtain ⟨a19_4, ea19_4, h⟩ := ob h
  rw [ea19_4]
  obtain ⟨k19_5, h⟩ := chk h
  refine g_getRN (pc := 19) 5 5 B k19_5 (by decide) (by decide) rfl kfX11_114 dX11_areAlike_19 ?_
  obtain ⟨a22_6, ea22_6, h⟩ := ob h
  rw [ea22_6]
  obtain ⟨k22_7, h⟩ := chk h
  obtain ⟨v22, e22, h⟩ := ob h
  refine h_callV (pc := 22) (As := [vA (mR X0 505 a19_4)]) (st := []) (X' := X0) (cs' := 0) (sl' := 0) (st10 := [vI v22]) B cal_X2_isShiftOf kmX11_213 kn_X2_isShiftOf ks_X2_isShiftOf k22_7 (by decide) rfl (fun l hl => ct_X2_isShiftOf hl e22) rfl (Nat.le_of_ble_eq_true rfl) (by decide) (by decide) dX11_areAlike_22 rfl rfl rfl rfl ?_
  obtain ⟨z25, h⟩ := chk h
  obtain rfl := Sum.inr.inj (Option.some.inj h)
  exact g_ret_Z (pc := 25) B rfl z25 (by decide) (by decide) dX11_areAlike_25
theorem ct_X11_areAlike {D : DD} {l : Launch} {X0 : Mem} {fu : Nat} {x0 : Nat} {x1 : Int32} {x2 : Int32} {r : Int32} (hl : l.stackTraces = false) (h : fX11_areAlike fu X0 x0 x1 x2 = some (.inr r)) : Ctr D l yX11_areAlike cX11_areAlike 5 (some .boolean) rmX11_areAlike [vA (some x0), vI x1, vI x2] X0 (.inr (some (vI r))) X0 :=
  ctr_of hl (plainFor_of_name (by decide)) (Nat.le_of_ble_eq_true rfl) fun ev _ ht B => cb_X11_areAlike_L0 B ht h
set_option maxRecDepth 100000 in
set_option maxHeartbeats 4000000 in
theorem cb_X11_haveOneForm_L0 {D : DD} {ev : EV} {X0 : Mem} {fu : Nat} {x0 : Nat} {x1 : Int32} {x2 : Int32} {r : Int32} (B : Amb D (foot X0) ev RX11 "haveOneForm" cX11_haveOneForm 5 (some .boolean) rmX11_haveOneForm) (ht : Tb0 ev)  (h : fX11_haveOneForm fu X0 x0 x1 x2 = some (.inr r)) : Gd D (foot X0) ev (QF D ev X0 (.inr (some (vI r))) X0 rmX11_haveOneForm) X0 0 0 0 [(0, vA (some x0)), (1, vI x1), (2, vI x2)] [] := by
  unfold fX11_haveOneForm at h
  refine g_aload_n (pc := 0) B dX11_haveOneForm_0 0 rfl ?_
  refine g_iload_n (pc := 1) B dX11_haveOneForm_1 1 rfl ?_
  obtain ⟨k2_1, h⟩ := chk h
  rcases bE_c h with ⟨E2, e2, hr2⟩ | ⟨v2, e2, h⟩
  · exact nomatch hr2
  refine h_callV (pc := 2) (As := [vI x1]) (st := []) (X' := X0) (cs' := 0) (sl' := 0) (st10 := [vA v2]) B cal_X11_programAt kmX11_131 kn_X11_programAt ks_X11_programAt k2_1 (by decide) rfl (fun l hl => ct_X11_programAt hl e2) rfl (Nat.le_of_ble_eq_true rfl) (by decide) (by decide) dX11_haveOneForm_2 rfl rfl rfl rfl ?_
  refine g_astore_n (pc := 5) (L' := [(3, vA v2), (0, vA (some x0)), (1, vI x1), (2, vI x2)]) B dX11_haveOneForm_5 (by decide) rfl ?_
  refine g_aload_n (pc := 6) B dX11_haveOneForm_6 1 rfl ?_
  refine g_iload_n (pc := 7) B dX11_haveOneForm_7 3 rfl ?_
  rcases bE_c h with ⟨E8, e8, hr8⟩ | ⟨v8, e8, h⟩
  · exact nomatch hr8
  refine h_callV (pc := 8) (As := [vI x2]) (st := []) (X' := X0) (cs' := 0) (sl' := 0) (st10 := [vA v8]) B cal_X11_programAt kmX11_131 kn_X11_programAt ks_X11_programAt k2_1 (by decide) rfl (fun l hl => ct_X11_programAt hl e8) rfl (Nat.le_of_ble_eq_true rfl) (by decide) (by decide) dX11_haveOneForm_8 rfl rfl rfl rfl ?_
  refine g_astore (pc := 11) (L' := [(4, vA v8), (3, vA v2), (0, vA (some x0)), (1, vI x1), (2, vI x2)]) B dX11_haveOneForm_11 (by decide) rfl ?_
  refine g_aload_n (pc := 13) B dX11_haveOneForm_13 1 rfl ?_
  refine g_aload (pc := 14) B dX11_haveOneForm_14 0 rfl ?_
  obtain ⟨a16_2, ea16_2, h⟩ := ob h
  rw [ea16_2]
  obtain ⟨k16_3, h⟩ := chk h
  obtain ⟨v16, e16, h⟩ := ob h
  refine h_callV (pc := 16) (As := [vA v8]) (st := []) (X' := X0) (cs' := 0) (sl' := 0) (st10 := [vI v16]) B cal_X5_hasFormOf kmX11_217 kn_X5_hasFormOf ks_X5_hasFormOf k16_3 (by decide) rfl (fun l hl => ct_X5_hasFormOf hl e16) rfl (Nat.le_of_ble_eq_true rfl) (by decide) (by decide) dX11_haveOneForm_16 rfl rfl rfl rfl ?_
  obtain ⟨z19, h⟩ := chk h
  obtain rfl := Sum.inr.inj (Option.some.inj h)
  exact g_ret_Z (pc := 19) B rfl z19 (by decide) (by decide) dX11_haveOneForm_19
theorem ct_X11_haveOneForm {D : DD} {l : Launch} {X0 : Mem} {fu : Nat} {x0 : Nat} {x1 : Int32} {x2 : Int32} {r : Int32} (hl : l.stackTraces = false) (h : fX11_haveOneForm fu X0 x0 x1 x2 = some (.inr r)) : Ctr D l yX11_haveOneForm cX11_haveOneForm 5 (some .boolean) rmX11_haveOneForm [vA (some x0), vI x1, vI x2] X0 (.inr (some (vI r))) X0 :=
  ctr_of hl (plainFor_of_name (by decide)) (Nat.le_of_ble_eq_true rfl) fun ev _ ht B => cb_X11_haveOneForm_L0 B ht h
set_option maxRecDepth 100000 in
set_option maxHeartbeats 4000000 in
theorem cb_J9_max_7cf53_L0 {D : DD} {ev : EV} {X0 : Mem} {x0 : Int32} {x1 : Int32} {r : Int32} (B : Amb D (foot X0) ev RJ9 "max" cJ9_max_7cf53 2 (some .int) rmJ9_max_7cf53) (ht : Tb0 ev)  (h : fJ9_max_7cf53 X0 x0 x1 = some r) : Gd D (foot X0) ev (QF D ev X0 (.inr (some (vI r))) X0 rmJ9_max_7cf53) X0 0 0 0 [(0, vI x0), (1, vI x1)] [] := by
  unfold fJ9_max_7cf53 at h
  refine g_iload_n (pc := 0) B dJ9_max_7cf53_0 0 rfl ?_
  refine g_iload_n (pc := 1) B dJ9_max_7cf53_1 1 rfl ?_
  refine g_icmp_lt (pc := 2) (tgt := 9) B dJ9_max_7cf53_2 (by decide) (fun c2 => ?_) (fun c2 => ?_)
  · rw [if_pos c2] at h
    refine g_iload_n (pc := 9) B dJ9_max_7cf53_9 1 rfl ?_
    obtain rfl := Option.some.inj h
    exact g_ret_I (pc := 10) B rfl (by decide) (by decide) dJ9_max_7cf53_10
  · rw [if_neg c2] at h
    refine g_iload_n (pc := 5) B dJ9_max_7cf53_5 0 rfl ?_
    refine g_goto (pc := 6) (tgt := 10) B dJ9_max_7cf53_6 (by decide) ?_
    obtain rfl := Option.some.inj h
    exact g_ret_I (pc := 10) B rfl (by decide) (by decide) dJ9_max_7cf53_10
theorem ct_J9_max_7cf53 {D : DD} {l : Launch} {X0 : Mem} {x0 : Int32} {x1 : Int32} {r : Int32} (hl : l.stackTraces = false) (h : fJ9_max_7cf53 X0 x0 x1 = some r) : Ctr D l yJ9_max_7cf53 cJ9_max_7cf53 2 (some .int) rmJ9_max_7cf53 [vI x0, vI x1] X0 (.inr (some (vI r))) X0 :=
  ctr_of hl (by decide +kernel) (Nat.le_of_ble_eq_true rfl) fun ev _ ht B => cb_J9_max_7cf53_L0 B ht h
set_option maxRecDepth 100000 in
set_option maxHeartbeats 4000000 in
theorem cb_X0_fillBelow_L108 {D : DD} {ev : EV} {X0 : Mem} {fu : Nat} {rec18 : Mem → Nat → Int32 → (Option Nat) → Int32 → Int32 → Option (Mem)} {X : Mem} {x0 : Nat} {x1 : Int32} {x2 : Nat} {x3 : Int32} {x4 : Int32} {r : Mem} (B : Amb D (foot X0) ev RX0 "fillBelow" cX0_fillBelow 5 (none) rmX0_fillBelow) (ht : Tb0 ev) (hrec18 : ∀ {X : Mem} {x0 : Nat} {x1 : Int32} {x2 : Option Nat} {x3 : Int32} {x4 : Int32} {r : Mem}, rec18 X x0 x1 x2 x3 x4 = some r → Gd D (foot X0) ev (QF D ev X0 (.inr (none)) r rmX0_fillBelow) X 0 0 18 [(0, vA (some x0)), (1, vI x1), (2, vA x2), (3, vI x3), (4, vI x4)] []) (h : fX0_fillBelow_L108 fu rec18 X x0 x1 x2 x3 x4 = some r) : Gd D (foot X0) ev (QF D ev X0 (.inr (none)) r rmX0_fillBelow) X 0 0 108 [(0, vA (some x0)), (1, vI x1), (2, vA (some x2)), (3, vI x3), (4, vI x4)] [] := by
  unfold fX0_fillBelow_L108 at h
  refine g_iinc (pc := 108) (v := (x4 + (1 : Int32))) (L' := [(4, vI (x4 + (1 : Int32))), (0, vA (some x0)), (1, vI x1), (2, vA (some x2)), (3, vI x3)]) B dX0_fillBelow_108 (by decide) 4 rfl rfl rfl ?_
  refine g_goto (pc := 111) (tgt := 18) B dX0_fillBelow_111 (by decide) ?_
  refine g_sub (pc := 18) [1, 2, 3, 4, 0] rfl ?_
  exact hrec18 h
set_option maxRecDepth 100000 in
set_option maxHeartbeats 4000000 in
theorem cb_X0_fillBelow_L18b {D : DD} {ev : EV} {X0 : Mem} {fu : Nat} {rec18 : Mem → Nat → Int32 → (Option Nat) → Int32 → Int32 → Option (Mem)} {X : Mem} {x0 : Nat} {x1 : Int32} {x2 : Option Nat} {x3 : Int32} {x4 : Int32} {r : Mem} (B : Amb D (foot X0) ev RX0 "fillBelow" cX0_fillBelow 5 (none) rmX0_fillBelow) (ht : Tb0 ev) (hrec18 : ∀ {X : Mem} {x0 : Nat} {x1 : Int32} {x2 : Option Nat} {x3 : Int32} {x4 : Int32} {r : Mem}, rec18 X x0 x1 x2 x3 x4 = some r → Gd D (foot X0) ev (QF D ev X0 (.inr (none)) r rmX0_fillBelow) X 0 0 18 [(0, vA (some x0)), (1, vI x1), (2, vA x2), (3, vI x3), (4, vI x4)] []) (h : fX0_fillBelow_L18b fu rec18 X x0 x1 x2 x3 x4 = some r) : Gd D (foot X0) ev (QF D ev X0 (.inr (none)) r rmX0_fillBelow) X 0 0 18 [(0, vA (some x0)), (1, vI x1), (2, vA x2), (3, vI x3), (4, vI x4)] [] := by
  unfold fX0_fillBelow_L18b at h
  refine g_iload (pc := 18) B dX0_fillBelow_18 4 rfl ?_
  refine g_iload_n (pc := 20) B dX0_fillBelow_20 3 rfl ?_
  refine g_icmp_gt (pc := 21) (tgt := 114) B dX0_fillBelow_21 (by decide) (fun c21 => ?_) (fun c21 => ?_)
  · rw [if_pos c21] at h
    obtain rfl := Option.some.inj h
    exact g_ret_V (pc := 114) B rfl (by decide) (by decide) dX0_fillBelow_114
  · rw [if_neg c21] at h
    refine g_iload (pc := 24) B dX0_fillBelow_24 4 rfl ?_
    refine g_aload_n (pc := 26) B dX0_fillBelow_26 0 rfl ?_
    obtain ⟨k27_1, h⟩ := chk h
    refine g_getR (pc := 27) 0 0 B k27_1 (by decide) (by decide) rfl kfX0_9 dX0_fillBelow_27 ?_
    obtain ⟨a30_2, ea30_2, h⟩ := ob h
    rw [ea30_2]
    obtain ⟨n30_2, en30_2, h⟩ := ob h
    obtain ⟨tn30_2, kn30_2, qn30_2⟩ := alen_s en30_2
    refine g_alen (pc := 30) B kn30_2 qn30_2 dX0_fillBelow_30 ?_
    refine g_icmp_ge (pc := 31) (tgt := 114) B dX0_fillBelow_31 (by decide) (fun c31 => ?_) (fun c31 => ?_)
    · rw [if_pos c31] at h
      obtain rfl := Option.some.inj h
      exact g_ret_V (pc := 114) B rfl (by decide) (by decide) dX0_fillBelow_114
    · rw [if_neg c31] at h
      refine g_iload (pc := 34) B dX0_fillBelow_34 4 rfl ?_
      refine g_aload_n (pc := 36) B dX0_fillBelow_36 0 rfl ?_
      refine g_getR (pc := 37) 0 1 B k27_1 (by decide) (by decide) rfl kfX0_15 dX0_fillBelow_37 ?_
      obtain ⟨a40_4, ea40_4, h⟩ := ob h
      rw [ea40_4]
      obtain ⟨n40_4, en40_4, h⟩ := ob h
      obtain ⟨tn40_4, kn40_4, qn40_4⟩ := alen_s en40_4
      refine g_alen (pc := 40) B kn40_4 qn40_4 dX0_fillBelow_40 ?_
      refine g_icmp_ge (pc := 41) (tgt := 114) B dX0_fillBelow_41 (by decide) (fun c41 => ?_) (fun c41 => ?_)
      · rw [if_pos c41] at h
        obtain rfl := Option.some.inj h
        exact g_ret_V (pc := 114) B rfl (by decide) (by decide) dX0_fillBelow_114
      · rw [if_neg c41] at h
        refine g_iload (pc := 44) B dX0_fillBelow_44 4 rfl ?_
        refine g_aload_n (pc := 46) B dX0_fillBelow_46 2 rfl ?_
        obtain ⟨a47_6, ea47_6, h⟩ := ob h
        rw [ea47_6]
        obtain ⟨n47_6, en47_6, h⟩ := ob h
        obtain ⟨tn47_6, kn47_6, qn47_6⟩ := alen_s en47_6
        refine g_alen (pc := 47) B kn47_6 qn47_6 dX0_fillBelow_47 ?_
        refine g_icmp_gt (pc := 48) (tgt := 114) B dX0_fillBelow_48 (by decide) (fun c48 => ?_) (fun c48 => ?_)
        · rw [if_pos c48] at h
          obtain rfl := Option.some.inj h
          exact g_ret_V (pc := 114) B rfl (by decide) (by decide) dX0_fillBelow_114
        · rw [if_neg c48] at h
          refine g_aload_n (pc := 51) B dX0_fillBelow_51 2 rfl ?_
          refine g_iload (pc := 52) B dX0_fillBelow_52 4 rfl ?_
          refine g_iconst (pc := 54) B dX0_fillBelow_54 (1 : Int32) (by decide) ?_
          refine g_isub (pc := 55) B dX0_fillBelow_55 ?_
          obtain ⟨c56, h⟩ := chk h
          obtain ⟨nc56, kc56, ic56⟩ := inb_s c56
          refine g_iald (pc := 56) B kc56 ic56 dX0_fillBelow_56 ?_
          refine g_iload_n (pc := 57) B dX0_fillBelow_57 1 rfl ?_
          refine g_icmp_ne (pc := 58) (tgt := 82) B dX0_fillBelow_58 (by decide) (fun c58 => ?_) (fun c58 => ?_)
          · rw [if_neg c58] at h
            refine g_aload_n (pc := 82) B dX0_fillBelow_82 0 rfl ?_
            refine g_getR (pc := 83) 0 1 B k27_1 (by decide) (by decide) rfl kfX0_15 dX0_fillBelow_83 ?_
            refine g_iload (pc := 86) B dX0_fillBelow_86 4 rfl ?_
            refine g_aload_n (pc := 88) B dX0_fillBelow_88 0 rfl ?_
            refine g_getR (pc := 89) 0 0 B k27_1 (by decide) (by decide) rfl kfX0_9 dX0_fillBelow_89 ?_
            refine g_iload (pc := 92) B dX0_fillBelow_92 4 rfl ?_
            obtain ⟨a94_8, ea94_8, h⟩ := ob h
            rw [ea94_8]
            obtain ⟨c94, h⟩ := chk h
            obtain ⟨nc94, kc94, ic94⟩ := inb_s c94
            refine g_iald (pc := 94) B kc94 ic94 dX0_fillBelow_94 ?_
            refine g_aload_n (pc := 95) B dX0_fillBelow_95 0 rfl ?_
            refine g_getR (pc := 96) 0 1 B k27_1 (by decide) (by decide) rfl kfX0_15 dX0_fillBelow_96 ?_
            refine g_iload (pc := 99) B dX0_fillBelow_99 4 rfl ?_
            refine g_iconst (pc := 101) B dX0_fillBelow_101 (1 : Int32) (by decide) ?_
            refine g_isub (pc := 102) B dX0_fillBelow_102 ?_
            obtain ⟨a103_9, ea103_9, h⟩ := ob h
            rw [ea103_9]
            obtain ⟨c103, h⟩ := chk h
            obtain ⟨nc103, kc103, ic103⟩ := inb_s c103
            refine g_iald (pc := 103) B kc103 ic103 dX0_fillBelow_103 ?_
            obtain ⟨v104, e104, h⟩ := ob h
            refine h_callS (pc := 104) (As := [vI (aI X a94_8 x4.toNatClampNeg), vI (aI X a103_9 (x4 - (1 : Int32)).toNatClampNeg)]) (st := [vI x4, vA (some a103_9)]) (X' := X) (cs' := 0) (sl' := 0) (st10 := [vI v104, vI x4, vA (some a103_9)]) B cal_J9_max_7cf53 kmX0_28 kz_J9_max_7cf53 (fun l hl => ct_J9_max_7cf53 hl e104) rfl (Nat.le_of_ble_eq_true rfl) (by decide) (by decide) dX0_fillBelow_104 rfl rfl rfl rfl ?_
            obtain ⟨c107, h⟩ := chk h
            obtain ⟨nc107, kc107, ic107⟩ := inb_s c107
            refine g_iast (pc := 107) B kc107 ic107 dX0_fillBelow_107 ?_
            refine g_sub (pc := 108) [0, 1, 2, 3, 4] rfl ?_
            exact cb_X0_fillBelow_L108 B ht hrec18 h
          · rw [if_pos c58] at h
            refine g_aload_n (pc := 61) B dX0_fillBelow_61 0 rfl ?_
            refine g_getR (pc := 62) 0 1 B k27_1 (by decide) (by decide) rfl kfX0_15 dX0_fillBelow_62 ?_
            refine g_iload (pc := 65) B dX0_fillBelow_65 4 rfl ?_
            refine g_aload_n (pc := 67) B dX0_fillBelow_67 0 rfl ?_
            refine g_getR (pc := 68) 0 0 B k27_1 (by decide) (by decide) rfl kfX0_9 dX0_fillBelow_68 ?_
            refine g_iload (pc := 71) B dX0_fillBelow_71 4 rfl ?_
            refine g_iconst (pc := 73) B dX0_fillBelow_73 (1 : Int32) (by decide) ?_
            refine g_isub (pc := 74) B dX0_fillBelow_74 ?_
            obtain ⟨a75_10, ea75_10, h⟩ := ob h
            rw [ea75_10]
            obtain ⟨c75, h⟩ := chk h
            obtain ⟨nc75, kc75, ic75⟩ := inb_s c75
            refine g_iald (pc := 75) B kc75 ic75 dX0_fillBelow_75 ?_
            refine g_iconst (pc := 76) B dX0_fillBelow_76 (1 : Int32) (by decide) ?_
            refine g_iadd (pc := 77) B dX0_fillBelow_77 ?_
            obtain ⟨a78_11, ea78_11, h⟩ := ob h
            rw [ea78_11]
            obtain ⟨c78, h⟩ := chk h
            obtain ⟨nc78, kc78, ic78⟩ := inb_s c78
            refine g_iast (pc := 78) B kc78 ic78 dX0_fillBelow_78 ?_
            refine g_goto (pc := 79) (tgt := 108) B dX0_fillBelow_79 (by decide) ?_
            refine g_sub (pc := 108) [0, 1, 2, 3, 4] rfl ?_
            exact cb_X0_fillBelow_L108 B ht hrec18 h
theorem cb_X0_fillBelow_L18n {D : DD} {ev : EV} {X0 : Mem} {fu : Nat} (B : Amb D (foot X0) ev RX0 "fillBelow" cX0_fillBelow 5 (none) rmX0_fillBelow) (ht : Tb0 ev)  : ∀ (n : Nat) {X : Mem} {x0 : Nat} {x1 : Int32} {x2 : Option Nat} {x3 : Int32} {x4 : Int32} {r : Mem}, fX0_fillBelow_L18 fu n X x0 x1 x2 x3 x4 = some r → Gd D (foot X0) ev (QF D ev X0 (.inr (none)) r rmX0_fillBelow) X 0 0 18 [(0, vA (some x0)), (1, vI x1), (2, vA x2), (3, vI x3), (4, vI x4)] [] := by
  intro n
  induction n with
  | zero => intro X x0 x1 x2 x3 x4 r h; exact nomatch h
  | succ n ih => intro X x0 x1 x2 x3 x4 r h; exact cb_X0_fillBelow_L18b (fu := fu) B ht (fun h9 => ih h9) h
theorem cb_X0_fillBelow_L18 {D : DD} {ev : EV} {X0 : Mem} {fu : Nat} {X : Mem} {x0 : Nat} {x1 : Int32} {x2 : Option Nat} {x3 : Int32} {x4 : Int32} {n : Nat} {r : Mem} (B : Amb D (foot X0) ev RX0 "fillBelow" cX0_fillBelow 5 (none) rmX0_fillBelow) (ht : Tb0 ev)  (h : fX0_fillBelow_L18 fu n X x0 x1 x2 x3 x4 = some r) : Gd D (foot X0) ev (QF D ev X0 (.inr (none)) r rmX0_fillBelow) X 0 0 18 [(0, vA (some x0)), (1, vI x1), (2, vA x2), (3, vI x3), (4, vI x4)] [] := cb_X0_fillBelow_L18n B ht n h
set_option maxRecDepth 100000 in
set_option maxHeartbeats 4000000 in
theorem cb_X0_fillBelow_L15 {D : DD} {ev : EV} {X0 : Mem} {fu : Nat} {X : Mem} {x0 : Nat} {x1 : Int32} {x2 : Option Nat} {x3 : Int32} {r : Mem} (B : Amb D (foot X0) ev RX0 "fillBelow" cX0_fillBelow 5 (none) rmX0_fillBelow) (ht : Tb0 ev)  (h : fX0_fillBelow_L15 fu X x0 x1 x2 x3 = some r) : Gd D (foot X0) ev (QF D ev X0 (.inr (none)) r rmX0_fillBelow) X 0 0 15 [(0, vA (some x0)), (1, vI x1), (2, vA x2), (3, vI x3)] [] := by
  unfold fX0_fillBelow_L15 at h
  refine g_iconst (pc := 15) B dX0_fillBelow_15 (1 : Int32) (by decide) ?_
  refine g_istore (pc := 16) (L' := [(4, vI (1 : Int32)), (0, vA (some x0)), (1, vI x1), (2, vA x2), (3, vI x3)]) B dX0_fillBelow_16 (by decide) rfl ?_
  refine g_sub (pc := 18) [1, 2, 3, 4, 0] rfl ?_
  exact cb_X0_fillBelow_L18 B ht h
set_option maxRecDepth 100000 in
set_option maxHeartbeats 4000000 in
theorem cb_X0_fillBelow_L0 {D : DD} {ev : EV} {X0 : Mem} {fu : Nat} {X : Mem} {x0 : Nat} {x1 : Int32} {x2 : Option Nat} {x3 : Int32} {r : Mem} (B : Amb D (foot X0) ev RX0 "fillBelow" cX0_fillBelow 5 (none) rmX0_fillBelow) (ht : Tb0 ev)  (h : fX0_fillBelow fu X x0 x1 x2 x3 = some r) : Gd D (foot X0) ev (QF D ev X0 (.inr (none)) r rmX0_fillBelow) X 0 0 0 [(0, vA (some x0)), (1, vI x1), (2, vA x2), (3, vI x3)] [] := by
  unfold fX0_fillBelow at h
  refine g_aload_n (pc := 0) B dX0_fillBelow_0 0 rfl ?_
  obtain ⟨k1_1, h⟩ := chk h
  refine g_getR (pc := 1) 0 1 B k1_1 (by decide) (by decide) rfl kfX0_15 dX0_fillBelow_1 ?_
  obtain ⟨a4_2, ea4_2, h⟩ := ob h
  rw [ea4_2]
  obtain ⟨n4_2, en4_2, h⟩ := ob h
  obtain ⟨tn4_2, kn4_2, qn4_2⟩ := alen_s en4_2
  refine g_alen (pc := 4) B kn4_2 qn4_2 dX0_fillBelow_4 ?_
  refine g_if_le (pc := 5) (tgt := 15) B dX0_fillBelow_5 (by decide) (fun c5 => ?_) (fun c5 => ?_)
  · rw [if_pos c5] at h
    refine g_sub (pc := 15) [0, 1, 2, 3] rfl ?_
    exact cb_X0_fillBelow_L15 B ht h
  · rw [if_neg c5] at h
    refine g_aload_n (pc := 8) B dX0_fillBelow_8 0 rfl ?_
    refine g_getR (pc := 9) 0 1 B k1_1 (by decide) (by decide) rfl kfX0_15 dX0_fillBelow_9 ?_
    refine g_iconst (pc := 12) B dX0_fillBelow_12 (0 : Int32) (by decide) ?_
    refine g_iconst (pc := 13) B dX0_fillBelow_13 (0 : Int32) (by decide) ?_
    obtain ⟨a14_4, ea14_4, h⟩ := ob h
    rw [ea14_4]
    obtain ⟨c14, h⟩ := chk h
    obtain ⟨nc14, kc14, ic14⟩ := inb_s c14
    refine g_iast (pc := 14) B kc14 ic14 dX0_fillBelow_14 ?_
    refine g_sub (pc := 15) [0, 1, 2, 3] rfl ?_
    exact cb_X0_fillBelow_L15 B ht h
theorem ct_X0_fillBelow {D : DD} {l : Launch} {X0 : Mem} {fu : Nat} {x0 : Nat} {x1 : Int32} {x2 : Option Nat} {x3 : Int32} {r : Mem} (hl : l.stackTraces = false) (h : fX0_fillBelow fu X0 x0 x1 x2 x3 = some r) : Ctr D l yX0_fillBelow cX0_fillBelow 5 (none) rmX0_fillBelow [vA (some x0), vI x1, vA x2, vI x3] X0 (.inr (none)) r :=
  ctr_of hl (plainFor_of_name (by decide)) (Nat.le_of_ble_eq_true rfl) fun ev _ ht B => cb_X0_fillBelow_L0 B ht h
set_option maxRecDepth 100000 in
set_option maxHeartbeats 4000000 in
theorem cb_X0_longestCommon_L51b {D : DD} {ev : EV} {X0 : Mem} {fu : Nat} {rec51 : Mem → Nat → (Option Nat) → Nat → Int32 → Int32 → Option (Int32 × Mem)} {X : Mem} {x0 : Nat} {x1 : Option Nat} {x2 : Nat} {x3 : Int32} {x4 : Int32} {r : Int32 × Mem} (B : Amb D (foot X0) ev RX0 "longestCommon" cX0_longestCommon 6 (some .int) rmX0_longestCommon) (ht : Tb0 ev) (hrec51 : ∀ {X : Mem} {x0 : Nat} {x1 : Option Nat} {x2 : Nat} {x3 : Int32} {x4 : Int32} {r : Int32 × Mem}, rec51 X x0 x1 x2 x3 x4 = some r → Gd D (foot X0) ev (QF D ev X0 (.inr (some (vI r.1))) r.2 rmX0_longestCommon) X 0 0 51 [(0, vA (some x0)), (1, vA x1), (2, vA (some x2)), (3, vI x3), (4, vI x4)] []) (h : fX0_longestCommon_L51b fu rec51 X x0 x1 x2 x3 x4 = some r) : Gd D (foot X0) ev (QF D ev X0 (.inr (some (vI r.1))) r.2 rmX0_longestCommon) X 0 0 51 [(0, vA (some x0)), (1, vA x1), (2, vA (some x2)), (3, vI x3), (4, vI x4)] [] := by
  unfold fX0_longestCommon_L51b at h
  refine g_iload (pc := 51) B dX0_longestCommon_51 4 rfl ?_
  refine g_aload_n (pc := 53) B dX0_longestCommon_53 1 rfl ?_
  obtain ⟨a54_1, ea54_1, h⟩ := ob h
  rw [ea54_1]
  obtain ⟨n54_1, en54_1, h⟩ := ob h
  obtain ⟨tn54_1, kn54_1, qn54_1⟩ := alen_s en54_1
  refine g_alen (pc := 54) B kn54_1 qn54_1 dX0_longestCommon_54 ?_
  refine g_icmp_ge (pc := 55) (tgt := 94) B dX0_longestCommon_55 (by decide) (fun c55 => ?_) (fun c55 => ?_)
  · rw [if_pos c55] at h
    refine g_iload_n (pc := 94) B dX0_longestCommon_94 3 rfl ?_
    refine g_if_lt (pc := 95) (tgt := 116) B dX0_longestCommon_95 (by decide) (fun c95 => ?_) (fun c95 => ?_)
    · rw [if_pos c95] at h
      refine g_iconst (pc := 116) B dX0_longestCommon_116 (0 : Int32) (by decide) ?_
      obtain rfl := Option.some.inj h
      exact g_ret_I (pc := 117) B rfl (by decide) (by decide) dX0_longestCommon_117
    · rw [if_neg c95] at h
      refine g_iload_n (pc := 98) B dX0_longestCommon_98 3 rfl ?_
      refine g_aload_n (pc := 99) B dX0_longestCommon_99 0 rfl ?_
      obtain ⟨k100_3, h⟩ := chk h
      refine g_getR (pc := 100) 0 0 B k100_3 (by decide) (by decide) rfl kfX0_9 dX0_longestCommon_100 ?_
      obtain ⟨a103_4, ea103_4, h⟩ := ob h
      rw [ea103_4]
      obtain ⟨n103_4, en103_4, h⟩ := ob h
      obtain ⟨tn103_4, kn103_4, qn103_4⟩ := alen_s en103_4
      refine g_alen (pc := 103) B kn103_4 qn103_4 dX0_longestCommon_103 ?_
      refine g_icmp_ge (pc := 104) (tgt := 116) B dX0_longestCommon_104 (by decide) (fun c104 => ?_) (fun c104 => ?_)
      · rw [if_pos c104] at h
        refine g_iconst (pc := 116) B dX0_longestCommon_116 (0 : Int32) (by decide) ?_
        obtain rfl := Option.some.inj h
        exact g_ret_I (pc := 117) B rfl (by decide) (by decide) dX0_longestCommon_117
      · rw [if_neg c104] at h
        refine g_aload_n (pc := 107) B dX0_longestCommon_107 0 rfl ?_
        refine g_getR (pc := 108) 0 0 B k100_3 (by decide) (by decide) rfl kfX0_9 dX0_longestCommon_108 ?_
        refine g_iload_n (pc := 111) B dX0_longestCommon_111 3 rfl ?_
        obtain ⟨a112_6, ea112_6, h⟩ := ob h
        rw [ea112_6]
        obtain ⟨c112, h⟩ := chk h
        obtain ⟨nc112, kc112, ic112⟩ := inb_s c112
        refine g_iald (pc := 112) B kc112 ic112 dX0_longestCommon_112 ?_
        refine g_goto (pc := 113) (tgt := 117) B dX0_longestCommon_113 (by decide) ?_
        obtain rfl := Option.some.inj h
        exact g_ret_I (pc := 117) B rfl (by decide) (by decide) dX0_longestCommon_117
  · rw [if_neg c55] at h
    refine g_aload_n (pc := 58) B dX0_longestCommon_58 0 rfl ?_
    refine g_aload_n (pc := 59) B dX0_longestCommon_59 1 rfl ?_
    refine g_iload (pc := 60) B dX0_longestCommon_60 4 rfl ?_
    obtain ⟨c62, h⟩ := chk h
    obtain ⟨nc62, kc62, ic62⟩ := inb_s c62
    refine g_iald (pc := 62) B kc62 ic62 dX0_longestCommon_62 ?_
    refine g_aload_n (pc := 63) B dX0_longestCommon_63 2 rfl ?_
    refine g_iload_n (pc := 64) B dX0_longestCommon_64 3 rfl ?_
    obtain ⟨k65_7, h⟩ := chk h
    obtain ⟨X65, e65, h⟩ := ob h
    refine h_callV (pc := 65) (As := [vI (aI X a54_1 x4.toNatClampNeg), vA (some x2), vI x3]) (st := []) (X' := X65) (cs' := 0) (sl' := 0) (st10 := []) B cal_X0_fillBelow kmX0_24 kn_X0_fillBelow ks_X0_fillBelow k65_7 (by decide) rfl (fun l hl => ct_X0_fillBelow hl e65) rfl (Nat.le_of_ble_eq_true rfl) (by decide) (by decide) dX0_longestCommon_65 rfl rfl rfl rfl ?_
    refine g_aload_n (pc := 68) B dX0_longestCommon_68 0 rfl ?_
    obtain ⟨k69_8, h⟩ := chk h
    refine g_getR (pc := 69) 0 0 B k69_8 (by decide) (by decide) rfl kfX0_9 dX0_longestCommon_69 ?_
    refine g_astore (pc := 72) (L' := [(5, vA (mR X65 0 x0)), (0, vA (some x0)), (1, vA (some a54_1)), (2, vA (some x2)), (3, vI x3), (4, vI x4)]) B dX0_longestCommon_72 (by decide) rfl ?_
    refine g_aload_n (pc := 74) B dX0_longestCommon_74 1 rfl ?_
    refine g_aload_n (pc := 75) B dX0_longestCommon_75 1 rfl ?_
    refine g_getR (pc := 76) 0 1 B k69_8 (by decide) (by decide) rfl kfX0_15 dX0_longestCommon_76 ?_
    refine g_putR (pc := 79) 0 0 B k69_8 (by decide) (by decide) rfl rfl kfX0_9 dX0_longestCommon_79 ?_
    refine g_aload_n (pc := 82) B dX0_longestCommon_82 1 rfl ?_
    refine g_aload (pc := 83) B dX0_longestCommon_83 0 rfl ?_
    refine g_putR (pc := 85) 0 1 B k69_8 (by decide) (by decide) rfl rfl kfX0_15 dX0_longestCommon_85 ?_
    refine g_iinc (pc := 88) (v := (x4 + (1 : Int32))) (L' := [(4, vI (x4 + (1 : Int32))), (5, vA (mR X65 0 x0)), (0, vA (some x0)), (1, vA (some a54_1)), (2, vA (some x2)), (3, vI x3)]) B dX0_longestCommon_88 (by decide) 5 rfl rfl rfl ?_
    refine g_goto (pc := 91) (tgt := 51) B dX0_longestCommon_91 (by decide) ?_
    refine g_sub (pc := 51) [2, 3, 4, 5, 0] rfl ?_
    exact hrec51 h
theorem cb_X0_longestCommon_L51n {D : DD} {ev : EV} {X0 : Mem} {fu : Nat} (B : Amb D (foot X0) ev RX0 "longestCommon" cX0_longestCommon 6 (some .int) rmX0_longestCommon) (ht : Tb0 ev)  : ∀ (n : Nat) {X : Mem} {x0 : Nat} {x1 : Option Nat} {x2 : Nat} {x3 : Int32} {x4 : Int32} {r : Int32 × Mem}, fX0_longestCommon_L51 fu n X x0 x1 x2 x3 x4 = some r → Gd D (foot X0) ev (QF D ev X0 (.inr (some (vI r.1))) r.2 rmX0_longestCommon) X 0 0 51 [(0, vA (some x0)), (1, vA x1), (2, vA (some x2)), (3, vI x3), (4, vI x4)] [] := by
  intro n
  induction n with
  | zero => intro X x0 x1 x2 x3 x4 r h; exact nomatch h
  | succ n ih => intro X x0 x1 x2 x3 x4 r h; exact cb_X0_longestCommon_L51b (fu := fu) B ht (fun h9 => ih h9) h
theorem cb_X0_longestCommon_L51 {D : DD} {ev : EV} {X0 : Mem} {fu : Nat} {X : Mem} {x0 : Nat} {x1 : Option Nat} {x2 : Nat} {x3 : Int32} {x4 : Int32} {n : Nat} {r : Int32 × Mem} (B : Amb D (foot X0) ev RX0 "longestCommon" cX0_longestCommon 6 (some .int) rmX0_longestCommon) (ht : Tb0 ev)  (h : fX0_longestCommon_L51 fu n X x0 x1 x2 x3 x4 = some r) : Gd D (foot X0) ev (QF D ev X0 (.inr (some (vI r.1))) r.2 rmX0_longestCommon) X 0 0 51 [(0, vA (some x0)), (1, vA x1), (2, vA (some x2)), (3, vI x3), (4, vI x4)] [] := cb_X0_longestCommon_L51n B ht n h
set_option maxRecDepth 100000 in
set_option maxHeartbeats 4000000 in
theorem cb_X0_longestCommon_L24b {D : DD} {ev : EV} {X0 : Mem} {fu : Nat} {rec24 : Mem → Nat → (Option Nat) → Nat → Int32 → Int32 → Option (Int32 × Mem)} {X : Mem} {x0 : Nat} {x1 : Option Nat} {x2 : Nat} {x3 : Int32} {x4 : Int32} {r : Int32 × Mem} (B : Amb D (foot X0) ev RX0 "longestCommon" cX0_longestCommon 6 (some .int) rmX0_longestCommon) (ht : Tb0 ev) (hrec24 : ∀ {X : Mem} {x0 : Nat} {x1 : Option Nat} {x2 : Nat} {x3 : Int32} {x4 : Int32} {r : Int32 × Mem}, rec24 X x0 x1 x2 x3 x4 = some r → Gd D (foot X0) ev (QF D ev X0 (.inr (some (vI r.1))) r.2 rmX0_longestCommon) X 0 0 24 [(0, vA (some x0)), (1, vA x1), (2, vA (some x2)), (3, vI x3), (4, vI x4)] []) (h : fX0_longestCommon_L24b fu rec24 X x0 x1 x2 x3 x4 = some r) : Gd D (foot X0) ev (QF D ev X0 (.inr (some (vI r.1))) r.2 rmX0_longestCommon) X 0 0 24 [(0, vA (some x0)), (1, vA x1), (2, vA (some x2)), (3, vI x3), (4, vI x4)] [] := by
  unfold fX0_longestCommon_L24b at h
  refine g_iload (pc := 24) B dX0_longestCommon_24 4 rfl ?_
  refine g_aload_n (pc := 26) B dX0_longestCommon_26 0 rfl ?_
  obtain ⟨k27_1, h⟩ := chk h
  refine g_getR (pc := 27) 0 0 B k27_1 (by decide) (by decide) rfl kfX0_9 dX0_longestCommon_27 ?_
  obtain ⟨a30_2, ea30_2, h⟩ := ob h
  rw [ea30_2]
  obtain ⟨n30_2, en30_2, h⟩ := ob h
  obtain ⟨tn30_2, kn30_2, qn30_2⟩ := alen_s en30_2
  refine g_alen (pc := 30) B kn30_2 qn30_2 dX0_longestCommon_30 ?_
  refine g_icmp_ge (pc := 31) (tgt := 48) B dX0_longestCommon_31 (by decide) (fun c31 => ?_) (fun c31 => ?_)
  · rw [if_pos c31] at h
    refine g_iconst (pc := 48) B dX0_longestCommon_48 (0 : Int32) (by decide) ?_
    refine g_istore (pc := 49) (L' := [(4, vI (0 : Int32)), (0, vA (some x0)), (1, vA x1), (2, vA (some x2)), (3, vI x3)]) B dX0_longestCommon_49 (by decide) rfl ?_
    refine g_sub (pc := 51) [1, 2, 3, 4, 0] rfl ?_
    exact cb_X0_longestCommon_L51 B ht h
  · rw [if_neg c31] at h
    refine g_aload_n (pc := 34) B dX0_longestCommon_34 0 rfl ?_
    refine g_getR (pc := 35) 0 0 B k27_1 (by decide) (by decide) rfl kfX0_9 dX0_longestCommon_35 ?_
    refine g_iload (pc := 38) B dX0_longestCommon_38 4 rfl ?_
    refine g_iconst (pc := 40) B dX0_longestCommon_40 (0 : Int32) (by decide) ?_
    obtain ⟨a41_4, ea41_4, h⟩ := ob h
    rw [ea41_4]
    obtain ⟨c41, h⟩ := chk h
    obtain ⟨nc41, kc41, ic41⟩ := inb_s c41
    refine g_iast (pc := 41) B kc41 ic41 dX0_longestCommon_41 ?_
    refine g_iinc (pc := 42) (v := (x4 + (1 : Int32))) (L' := [(4, vI (x4 + (1 : Int32))), (0, vA (some x0)), (1, vA x1), (2, vA (some x2)), (3, vI x3)]) B dX0_longestCommon_42 (by decide) 4 rfl rfl rfl ?_
    refine g_goto (pc := 45) (tgt := 24) B dX0_longestCommon_45 (by decide) ?_
    refine g_sub (pc := 24) [1, 2, 3, 4, 0] rfl ?_
    exact hrec24 h
theorem cb_X0_longestCommon_L24n {D : DD} {ev : EV} {X0 : Mem} {fu : Nat} (B : Amb D (foot X0) ev RX0 "longestCommon" cX0_longestCommon 6 (some .int) rmX0_longestCommon) (ht : Tb0 ev)  : ∀ (n : Nat) {X : Mem} {x0 : Nat} {x1 : Option Nat} {x2 : Nat} {x3 : Int32} {x4 : Int32} {r : Int32 × Mem}, fX0_longestCommon_L24 fu n X x0 x1 x2 x3 x4 = some r → Gd D (foot X0) ev (QF D ev X0 (.inr (some (vI r.1))) r.2 rmX0_longestCommon) X 0 0 24 [(0, vA (some x0)), (1, vA x1), (2, vA (some x2)), (3, vI x3), (4, vI x4)] [] := by
  intro n
  induction n with
  | zero => intro X x0 x1 x2 x3 x4 r h; exact nomatch h
  | succ n ih => intro X x0 x1 x2 x3 x4 r h; exact cb_X0_longestCommon_L24b (fu := fu) B ht (fun h9 => ih h9) h
theorem cb_X0_longestCommon_L24 {D : DD} {ev : EV} {X0 : Mem} {fu : Nat} {X : Mem} {x0 : Nat} {x1 : Option Nat} {x2 : Nat} {x3 : Int32} {x4 : Int32} {n : Nat} {r : Int32 × Mem} (B : Amb D (foot X0) ev RX0 "longestCommon" cX0_longestCommon 6 (some .int) rmX0_longestCommon) (ht : Tb0 ev)  (h : fX0_longestCommon_L24 fu n X x0 x1 x2 x3 x4 = some r) : Gd D (foot X0) ev (QF D ev X0 (.inr (some (vI r.1))) r.2 rmX0_longestCommon) X 0 0 24 [(0, vA (some x0)), (1, vA x1), (2, vA (some x2)), (3, vI x3), (4, vI x4)] [] := cb_X0_longestCommon_L24n B ht n h
set_option maxRecDepth 100000 in
set_option maxHeartbeats 4000000 in
theorem cb_X0_longestCommon_L0 {D : DD} {ev : EV} {X0 : Mem} {fu : Nat} {X : Mem} {x0 : Nat} {x1 : Option Nat} {x2 : Option Nat} {r : Int32 × Mem} (B : Amb D (foot X0) ev RX0 "longestCommon" cX0_longestCommon 6 (some .int) rmX0_longestCommon) (ht : Tb0 ev)  (h : fX0_longestCommon fu X x0 x1 x2 = some r) : Gd D (foot X0) ev (QF D ev X0 (.inr (some (vI r.1))) r.2 rmX0_longestCommon) X 0 0 0 [(0, vA (some x0)), (1, vA x1), (2, vA x2)] [] := by
  unfold fX0_longestCommon at h
  refine g_aload_n (pc := 0) B dX0_longestCommon_0 2 rfl ?_
  obtain ⟨a1_1, ea1_1, h⟩ := ob h
  rw [ea1_1]
  obtain ⟨n1_1, en1_1, h⟩ := ob h
  obtain ⟨tn1_1, kn1_1, qn1_1⟩ := alen_s en1_1
  refine g_alen (pc := 1) B kn1_1 qn1_1 dX0_longestCommon_1 ?_
  refine g_aload_n (pc := 2) B dX0_longestCommon_2 0 rfl ?_
  obtain ⟨k3_3, h⟩ := chk h
  refine g_getR (pc := 3) 0 0 B k3_3 (by decide) (by decide) rfl kfX0_9 dX0_longestCommon_3 ?_
  obtain ⟨a6_4, ea6_4, h⟩ := ob h
  rw [ea6_4]
  obtain ⟨n6_4, en6_4, h⟩ := ob h
  obtain ⟨tn6_4, kn6_4, qn6_4⟩ := alen_s en6_4
  refine g_alen (pc := 6) B kn6_4 qn6_4 dX0_longestCommon_6 ?_
  refine g_aload_n (pc := 7) B dX0_longestCommon_7 0 rfl ?_
  refine g_getR (pc := 8) 0 1 B k3_3 (by decide) (by decide) rfl kfX0_15 dX0_longestCommon_8 ?_
  obtain ⟨a11_6, ea11_6, h⟩ := ob h
  rw [ea11_6]
  obtain ⟨n11_6, en11_6, h⟩ := ob h
  obtain ⟨tn11_6, kn11_6, qn11_6⟩ := alen_s en11_6
  refine g_alen (pc := 11) B kn11_6 qn11_6 dX0_longestCommon_11 ?_
  obtain ⟨v12, e12, h⟩ := ob h
  refine h_callS (pc := 12) (As := [vI (nI n6_4), vI (nI n11_6)]) (st := [vI (nI n1_1)]) (X' := X) (cs' := 0) (sl' := 0) (st10 := [vI v12, vI (nI n1_1)]) B cal_J9_min_7cf53 kmX0_18 kz_J9_min_7cf53 (fun l hl => ct_J9_min_7cf53 hl e12) rfl (Nat.le_of_ble_eq_true rfl) (by decide) (by decide) dX0_longestCommon_12 rfl rfl rfl rfl ?_
  refine g_iconst (pc := 15) B dX0_longestCommon_15 (1 : Int32) (by decide) ?_
  refine g_isub (pc := 16) B dX0_longestCommon_16 ?_
  obtain ⟨v17, e17, h⟩ := ob h
  refine h_callS (pc := 17) (As := [vI (nI n1_1), vI (v12 - (1 : Int32))]) (st := []) (X' := X) (cs' := 0) (sl' := 0) (st10 := [vI v17]) B cal_J9_min_7cf53 kmX0_18 kz_J9_min_7cf53 (fun l hl => ct_J9_min_7cf53 hl e17) rfl (Nat.le_of_ble_eq_true rfl) (by decide) (by decide) dX0_longestCommon_17 rfl rfl rfl rfl ?_
  refine g_istore_n (pc := 20) (L' := [(3, vI v17), (0, vA (some x0)), (1, vA x1), (2, vA (some a1_1))]) B dX0_longestCommon_20 (by decide) rfl ?_
  refine g_iconst (pc := 21) B dX0_longestCommon_21 (0 : Int32) (by decide) ?_
  refine g_istore (pc := 22) (L' := [(4, vI (0 : Int32)), (3, vI v17), (0, vA (some x0)), (1, vA x1), (2, vA (some a1_1))]) B dX0_longestCommon_22 (by decide) rfl ?_
  refine g_sub (pc := 24) [2, 3, 4, 1, 0] rfl ?_
  exact cb_X0_longestCommon_L24 B ht h
theorem ct_X0_longestCommon {D : DD} {l : Launch} {X0 : Mem} {fu : Nat} {x0 : Nat} {x1 : Option Nat} {x2 : Option Nat} {r : Int32 × Mem} (hl : l.stackTraces = false) (h : fX0_longestCommon fu X0 x0 x1 x2 = some r) : Ctr D l yX0_longestCommon cX0_longestCommon 6 (some .int) rmX0_longestCommon [vA (some x0), vA x1, vA x2] X0 (.inr (some (vI r.1))) r.2 :=
  ctr_of hl (plainFor_of_name (by decide)) (Nat.le_of_ble_eq_true rfl) fun ev _ ht B => cb_X0_longestCommon_L0 B ht h
set_option maxRecDepth 100000 in
set_option maxHeartbeats 4000000 in
theorem cb_X11_likeness_L0 {D : DD} {ev : EV} {X0 : Mem} {fu : Nat} {x0 : Nat} {x1 : Int32} {x2 : Int32} {r : Int32 × Mem} (B : Amb D (foot X0) ev RX11 "likeness" cX11_likeness 6 (some .int) rmX11_likeness) (ht : Tb0 ev)  (h : fX11_likeness fu X0 x0 x1 x2 = some (.inr r)) : Gd D (foot X0) ev (QF D ev X0 (.inr (some (vI r.1))) r.2 rmX11_likeness) X0 0 0 0 [(0, vA (some x0)), (1, vI x1), (2, vI x2)] [] := by
  unfold fX11_likeness at h
  refine g_aload_n (pc := 0) B dX11_likeness_0 0 rfl ?_
  refine g_iload_n (pc := 1) B dX11_likeness_1 1 rfl ?_
  obtain ⟨k2_1, h⟩ := chk h
  rcases bE_c h with ⟨E2, e2, hr2⟩ | ⟨v2, e2, h⟩
  · exact nomatch hr2
  refine h_callV (pc := 2) (As := [vI x1]) (st := []) (X' := X0) (cs' := 0) (sl' := 0) (st10 := [vA v2]) B cal_X11_programAt kmX11_131 kn_X11_programAt ks_X11_programAt k2_1 (by decide) rfl (fun l hl => ct_X11_programAt hl e2) rfl (Nat.le_of_ble_eq_true rfl) (by decide) (by decide) dX11_likeness_2 rfl rfl rfl rfl ?_
  refine g_astore_n (pc := 5) (L' := [(3, vA v2), (0, vA (some x0)), (1, vI x1), (2, vI x2)]) B dX11_likeness_5 (by decide) rfl ?_
  refine g_aload_n (pc := 6) B dX11_likeness_6 1 rfl ?_
  refine g_iload_n (pc := 7) B dX11_likeness_7 3 rfl ?_
  rcases bE_c h with ⟨E8, e8, hr8⟩ | ⟨v8, e8, h⟩
  · exact nomatch hr8
  refine h_callV (pc := 8) (As := [vI x2]) (st := []) (X' := X0) (cs' := 0) (sl' := 0) (st10 := [vA v8]) B cal_X11_programAt kmX11_131 kn_X11_programAt ks_X11_programAt k2_1 (by decide) rfl (fun l hl => ct_X11_programAt hl e8) rfl (Nat.le_of_ble_eq_true rfl) (by decide) (by decide) dX11_likeness_8 rfl rfl rfl rfl ?_
  refine g_astore (pc := 11) (L' := [(4, vA v8), (3, vA v2), (0, vA (some x0)), (1, vI x1), (2, vI x2)]) B dX11_likeness_11 (by decide) rfl ?_
  refine g_aload_n (pc := 13) B dX11_likeness_13 1 rfl ?_
  obtain ⟨a14_2, ea14_2, h⟩ := ob h
  rw [ea14_2]
  obtain ⟨k14_3, h⟩ := chk h
  obtain ⟨v14, e14, h⟩ := ob h
  refine h_callV (pc := 14) (As := []) (st := []) (X' := X0) (cs' := 0) (sl' := 0) (st10 := [vI v14]) B cal_X5_length kmX11_221 kn_X5_length ks_X5_length k14_3 (by decide) rfl (fun l hl => ct_X5_length hl e14) rfl (Nat.le_of_ble_eq_true rfl) (by decide) (by decide) dX11_likeness_14 rfl rfl rfl rfl ?_
  refine g_aload (pc := 17) B dX11_likeness_17 0 rfl ?_
  obtain ⟨a19_4, ea19_4, h⟩ := ob h
  rw [ea19_4]
  obtain ⟨k19_5, h⟩ := chk h
  obtain ⟨v19, e19, h⟩ := ob h
  refine h_callV (pc := 19) (As := []) (st := [vI v14]) (X' := X0) (cs' := 0) (sl' := 0) (st10 := [vI v19, vI v14]) B cal_X5_length kmX11_221 kn_X5_length ks_X5_length k19_5 (by decide) rfl (fun l hl => ct_X5_length hl e19) rfl (Nat.le_of_ble_eq_true rfl) (by decide) (by decide) dX11_likeness_19 rfl rfl rfl rfl ?_
  refine g_iadd (pc := 22) B dX11_likeness_22 ?_
  refine g_istore (pc := 23) (L' := [(5, vI (v14 + v19)), (4, vA (some a19_4)), (3, vA (some a14_2)), (0, vA (some x0)), (1, vI x1), (2, vI x2)]) B dX11_likeness_23 (by decide) rfl ?_
  refine g_iload (pc := 25) B dX11_likeness_25 0 rfl ?_
  refine g_if_gt (pc := 27) (tgt := 32) B dX11_likeness_27 (by decide) (fun c27 => ?_) (fun c27 => ?_)
  · rw [if_pos c27] at h
    refine g_sipush (pc := 32) B dX11_likeness_32 (200 : Int32) (by decide) ?_
    refine g_aload_n (pc := 35) B dX11_likeness_35 3 rfl ?_
    refine g_getR (pc := 36) 11 3 B k2_1 (by decide) (by decide) rfl kfX11_33 dX11_likeness_36 ?_
    refine g_aload_n (pc := 39) B dX11_likeness_39 2 rfl ?_
    refine g_getRN (pc := 40) 5 4 B k14_3 (by decide) (by decide) rfl kfX11_222 dX11_likeness_40 ?_
    refine g_aload (pc := 43) B dX11_likeness_43 1 rfl ?_
    refine g_getRN (pc := 45) 5 4 B k19_5 (by decide) (by decide) rfl kfX11_222 dX11_likeness_45 ?_
    obtain ⟨a48_6, ea48_6, h⟩ := ob h
    rw [ea48_6]
    obtain ⟨k48_7, h⟩ := chk h
    obtain ⟨v48, X48, e48, h⟩ := obW h
    refine h_callV (pc := 48) (As := [vA (mR X0 504 a14_2), vA (mR X0 504 a19_4)]) (st := [vI (200 : Int32)]) (X' := X48) (cs' := 0) (sl' := 0) (st10 := [vI v48, vI (200 : Int32)]) B cal_X0_longestCommon kmX11_226 kn_X0_longestCommon ks_X0_longestCommon k48_7 (by decide) rfl (fun l hl => ct_X0_longestCommon hl e48) rfl (Nat.le_of_ble_eq_true rfl) (by decide) (by decide) dX11_likeness_48 rfl rfl rfl rfl ?_
    refine g_imul (pc := 51) B dX11_likeness_51 ?_
    refine g_iload (pc := 52) B dX11_likeness_52 0 rfl ?_
    obtain ⟨c54, h⟩ := chkN h
    refine g_idiv (pc := 54) B dX11_likeness_54 c54 ?_
    obtain rfl := Sum.inr.inj (Option.some.inj h)
    exact g_ret_I (pc := 55) B rfl (by decide) (by decide) dX11_likeness_55
  · rw [if_neg c27] at h
    refine g_iconst (pc := 30) B dX11_likeness_30 (0 : Int32) (by decide) ?_
    obtain rfl := Sum.inr.inj (Option.some.inj h)
    exact g_ret_I (pc := 31) B rfl (by decide) (by decide) dX11_likeness_31
theorem ct_X11_likeness {D : DD} {l : Launch} {X0 : Mem} {fu : Nat} {x0 : Nat} {x1 : Int32} {x2 : Int32} {r : Int32 × Mem} (hl : l.stackTraces = false) (h : fX11_likeness fu X0 x0 x1 x2 = some (.inr r)) : Ctr D l yX11_likeness cX11_likeness 6 (some .int) rmX11_likeness [vA (some x0), vI x1, vI x2] X0 (.inr (some (vI r.1))) r.2 :=
  ctr_of hl (plainFor_of_name (by decide)) (Nat.le_of_ble_eq_true rfl) fun ev _ ht B => cb_X11_likeness_L0 B ht h
set_option maxRecDepth 100000 in
set_option maxHeartbeats 4000000 in
theorem cb_X11_works_L0 {D : DD} {ev : EV} {X0 : Mem} {x0 : Nat} {r : Int32} (B : Amb D (foot X0) ev RX11 "works" cX11_works 1 (some .int) rmX11_works) (ht : Tb0 ev)  (h : fX11_works X0 x0 = some r) : Gd D (foot X0) ev (QF D ev X0 (.inr (some (vI r))) X0 rmX11_works) X0 0 0 0 [(0, vA (some x0))] [] := by
  unfold fX11_works at h
  refine g_aload_n (pc := 0) B dX11_works_0 0 rfl ?_
  obtain ⟨k1_1, h⟩ := chk h
  refine g_getI (pc := 1) 11 10 B k1_1 (by decide) (by decide) rfl kfX11_160 dX11_works_1 ?_
  obtain rfl := Option.some.inj h
  exact g_ret_I (pc := 4) B rfl (by decide) (by decide) dX11_works_4
theorem ct_X11_works {D : DD} {l : Launch} {X0 : Mem} {x0 : Nat} {r : Int32} (hl : l.stackTraces = false) (h : fX11_works X0 x0 = some r) : Ctr D l yX11_works cX11_works 1 (some .int) rmX11_works [vA (some x0)] X0 (.inr (some (vI r))) X0 :=
  ctr_of hl (plainFor_of_name (by decide)) (Nat.le_of_ble_eq_true rfl) fun ev _ ht B => cb_X11_works_L0 B ht h
set_option maxRecDepth 100000 in
set_option maxHeartbeats 4000000 in
theorem cb_X11_meets_L0 {D : DD} {ev : EV} {X0 : Mem} {fu : Nat} {x0 : Nat} {x1 : Int32} {r : Int32} (B : Amb D (foot X0) ev RX11 "meets" cX11_meets 2 (some .boolean) rmX11_meets) (ht : Tb0 ev)  (h : fX11_meets fu X0 x0 x1 = some (.inr r)) : Gd D (foot X0) ev (QF D ev X0 (.inr (some (vI r))) X0 rmX11_meets) X0 0 0 0 [(0, vA (some x0)), (1, vI x1)] [] := by
  unfold fX11_meets at h
  refine g_aload_n (pc := 0) B dX11_meets_0 0 rfl ?_
  refine g_iload_n (pc := 1) B dX11_meets_1 1 rfl ?_
  obtain ⟨k2_1, h⟩ := chk h
  rcases bE_c h with ⟨E2, e2, hr2⟩ | ⟨v2, e2, h⟩
  · exact nomatch hr2
  refine h_callV (pc := 2) (As := [vI x1]) (st := []) (X' := X0) (cs' := 0) (sl' := 0) (st10 := [vA v2]) B cal_X11_workAt kmX11_172 kn_X11_workAt ks_X11_workAt k2_1 (by decide) rfl (fun l hl => ct_X11_workAt hl e2) rfl (Nat.le_of_ble_eq_true rfl) (by decide) (by decide) dX11_meets_2 rfl rfl rfl rfl ?_
  obtain ⟨a5_2, ea5_2, h⟩ := ob h
  rw [ea5_2]
  obtain ⟨k5_3, h⟩ := chk h
  obtain ⟨v5, e5, h⟩ := ob h
  refine h_callV (pc := 5) (As := []) (st := []) (X' := X0) (cs' := 0) (sl' := 0) (st10 := [vI v5]) B cal_X10_meetsExercise kmX11_230 kn_X10_meetsExercise ks_X10_meetsExercise k5_3 (by decide) rfl (fun l hl => ct_X10_meetsExercise hl e5) rfl (Nat.le_of_ble_eq_true rfl) (by decide) (by decide) dX11_meets_5 rfl rfl rfl rfl ?_
  obtain ⟨z8, h⟩ := chk h
  obtain rfl := Sum.inr.inj (Option.some.inj h)
  exact g_ret_Z (pc := 8) B rfl z8 (by decide) (by decide) dX11_meets_8
theorem ct_X11_meets {D : DD} {l : Launch} {X0 : Mem} {fu : Nat} {x0 : Nat} {x1 : Int32} {r : Int32} (hl : l.stackTraces = false) (h : fX11_meets fu X0 x0 x1 = some (.inr r)) : Ctr D l yX11_meets cX11_meets 2 (some .boolean) rmX11_meets [vA (some x0), vI x1] X0 (.inr (some (vI r))) X0 :=
  ctr_of hl (plainFor_of_name (by decide)) (Nat.le_of_ble_eq_true rfl) fun ev _ ht B => cb_X11_meets_L0 B ht h
set_option maxRecDepth 100000 in
set_option maxHeartbeats 4000000 in
theorem cb_X11_copyOf_L0 {D : DD} {ev : EV} {X0 : Mem} {x0 : Nat} {x1 : Int32} {r : Int32} (B : Amb D (foot X0) ev RX11 "copyOf" cX11_copyOf 2 (some .int) rmX11_copyOf) (ht : Tb0 ev)  (h : fX11_copyOf X0 x0 x1 = some (.inr r)) : Gd D (foot X0) ev (QF D ev X0 (.inr (some (vI r))) X0 rmX11_copyOf) X0 0 0 0 [(0, vA (some x0)), (1, vI x1)] [] := by
  unfold fX11_copyOf at h
  refine g_aload_n (pc := 0) B dX11_copyOf_0 0 rfl ?_
  refine g_iload_n (pc := 1) B dX11_copyOf_1 1 rfl ?_
  obtain ⟨k2_1, h⟩ := chk h
  rcases bE_c h with ⟨E2, e2, hr2⟩ | ⟨v2, e2, h⟩
  · exact nomatch hr2
  refine h_callV (pc := 2) (As := [vI x1]) (st := []) (X' := X0) (cs' := 0) (sl' := 0) (st10 := [vA v2]) B cal_X11_workAt kmX11_172 kn_X11_workAt ks_X11_workAt k2_1 (by decide) rfl (fun l hl => ct_X11_workAt hl e2) rfl (Nat.le_of_ble_eq_true rfl) (by decide) (by decide) dX11_copyOf_2 rfl rfl rfl rfl ?_
  obtain ⟨a5_2, ea5_2, h⟩ := ob h
  rw [ea5_2]
  obtain ⟨k5_3, h⟩ := chk h
  refine g_getIN (pc := 5) 10 2 B k5_3 (by decide) (by decide) rfl kfX11_234 dX11_copyOf_5 ?_
  obtain rfl := Sum.inr.inj (Option.some.inj h)
  exact g_ret_I (pc := 8) B rfl (by decide) (by decide) dX11_copyOf_8
theorem ct_X11_copyOf {D : DD} {l : Launch} {X0 : Mem} {x0 : Nat} {x1 : Int32} {r : Int32} (hl : l.stackTraces = false) (h : fX11_copyOf X0 x0 x1 = some (.inr r)) : Ctr D l yX11_copyOf cX11_copyOf 2 (some .int) rmX11_copyOf [vA (some x0), vI x1] X0 (.inr (some (vI r))) X0 :=
  ctr_of hl (plainFor_of_name (by decide)) (Nat.le_of_ble_eq_true rfl) fun ev _ ht B => cb_X11_copyOf_L0 B ht h
set_option maxRecDepth 100000 in
set_option maxHeartbeats 4000000 in
theorem cb_X11_hangs_L0 {D : DD} {ev : EV} {X0 : Mem} {x0 : Nat} {x1 : Int32} {r : Int32} (B : Amb D (foot X0) ev RX11 "hangs" cX11_hangs 3 (some .int) rmX11_hangs) (ht : Tb0 ev)  (h : fX11_hangs X0 x0 x1 = some (.inr r)) : Gd D (foot X0) ev (QF D ev X0 (.inr (some (vI r))) X0 rmX11_hangs) X0 0 0 0 [(0, vA (some x0)), (1, vI x1)] [] := by
  unfold fX11_hangs at h
  refine g_aload_n (pc := 0) B dX11_hangs_0 0 rfl ?_
  refine g_iload_n (pc := 1) B dX11_hangs_1 1 rfl ?_
  obtain ⟨k2_1, h⟩ := chk h
  rcases bE_c h with ⟨E2, e2, hr2⟩ | ⟨v2, e2, h⟩
  · exact nomatch hr2
  refine h_callV (pc := 2) (As := [vI x1]) (st := []) (X' := X0) (cs' := 0) (sl' := 0) (st10 := [vA v2]) B cal_X11_workAt kmX11_172 kn_X11_workAt ks_X11_workAt k2_1 (by decide) rfl (fun l hl => ct_X11_workAt hl e2) rfl (Nat.le_of_ble_eq_true rfl) (by decide) (by decide) dX11_hangs_2 rfl rfl rfl rfl ?_
  refine g_astore_n (pc := 5) (L' := [(2, vA v2), (0, vA (some x0)), (1, vI x1)]) B dX11_hangs_5 (by decide) rfl ?_
  refine g_aload_n (pc := 6) B dX11_hangs_6 0 rfl ?_
  obtain ⟨a7_2, ea7_2, h⟩ := ob h
  rw [ea7_2]
  obtain ⟨k7_3, h⟩ := chk h
  refine g_getIN (pc := 7) 10 4 B k7_3 (by decide) (by decide) rfl kfX11_237 dX11_hangs_7 ?_
  refine g_if_eq (pc := 10) (tgt := 28) B dX11_hangs_10 (by decide) (fun c10 => ?_) (fun c10 => ?_)
  · rw [if_pos c10] at h
    refine g_iconst (pc := 28) B dX11_hangs_28 (-1) (by decide) ?_
    obtain rfl := Sum.inr.inj (Option.some.inj h)
    exact g_ret_I (pc := 29) B rfl (by decide) (by decide) dX11_hangs_29
  · rw [if_neg c10] at h
    refine g_bipush (pc := 13) B dX11_hangs_13 (100 : Int32) (by decide) ?_
    refine g_aload_n (pc := 15) B dX11_hangs_15 0 rfl ?_
    refine g_getIN (pc := 16) 10 5 B k7_3 (by decide) (by decide) rfl kfX11_240 dX11_hangs_16 ?_
    refine g_imul (pc := 19) B dX11_hangs_19 ?_
    refine g_aload_n (pc := 20) B dX11_hangs_20 0 rfl ?_
    refine g_getIN (pc := 21) 10 6 B k7_3 (by decide) (by decide) rfl kfX11_243 dX11_hangs_21 ?_
    refine g_iadd (pc := 24) B dX11_hangs_24 ?_
    refine g_goto (pc := 25) (tgt := 29) B dX11_hangs_25 (by decide) ?_
    obtain rfl := Sum.inr.inj (Option.some.inj h)
    exact g_ret_I (pc := 29) B rfl (by decide) (by decide) dX11_hangs_29
theorem ct_X11_hangs {D : DD} {l : Launch} {X0 : Mem} {x0 : Nat} {x1 : Int32} {r : Int32} (hl : l.stackTraces = false) (h : fX11_hangs X0 x0 x1 = some (.inr r)) : Ctr D l yX11_hangs cX11_hangs 3 (some .int) rmX11_hangs [vA (some x0), vI x1] X0 (.inr (some (vI r))) X0 :=
  ctr_of hl (plainFor_of_name (by decide)) (Nat.le_of_ble_eq_true rfl) fun ev _ ht B => cb_X11_hangs_L0 B ht h
set_option maxRecDepth 100000 in
set_option maxHeartbeats 4000000 in
theorem cb_X9_hasCell_L0 {D : DD} {ev : EV} {X0 : Mem} {x0 : Nat} {x1 : Int32} {x2 : Int32} {r : Int32} (B : Amb D (foot X0) ev RX9 "hasCell" cX9_hasCell 3 (some .boolean) rmX9_hasCell) (ht : Tb0 ev)  (h : fX9_hasCell X0 x0 x1 x2 = some r) : Gd D (foot X0) ev (QF D ev X0 (.inr (some (vI r))) X0 rmX9_hasCell) X0 0 0 0 [(0, vA (some x0)), (1, vI x1), (2, vI x2)] [] := by
  unfold fX9_hasCell at h
  refine g_iload_n (pc := 0) B dX9_hasCell_0 1 rfl ?_
  refine g_if_lt (pc := 1) (tgt := 28) B dX9_hasCell_1 (by decide) (fun c1 => ?_) (fun c1 => ?_)
  · rw [if_pos c1] at h
    refine g_iconst (pc := 28) B dX9_hasCell_28 (0 : Int32) (by decide) ?_
    obtain rfl := Option.some.inj h
    exact g_ret_Z (pc := 29) B rfl (Or.inl rfl) (by decide) (by decide) dX9_hasCell_29
  · rw [if_neg c1] at h
    refine g_iload_n (pc := 4) B dX9_hasCell_4 1 rfl ?_
    refine g_aload_n (pc := 5) B dX9_hasCell_5 0 rfl ?_
    obtain ⟨k6_1, h⟩ := chk h
    refine g_getI (pc := 6) 9 1 B k6_1 (by decide) (by decide) rfl kfX9_15 dX9_hasCell_6 ?_
    refine g_icmp_ge (pc := 9) (tgt := 28) B dX9_hasCell_9 (by decide) (fun c9 => ?_) (fun c9 => ?_)
    · rw [if_pos c9] at h
      refine g_iconst (pc := 28) B dX9_hasCell_28 (0 : Int32) (by decide) ?_
      obtain rfl := Option.some.inj h
      exact g_ret_Z (pc := 29) B rfl (Or.inl rfl) (by decide) (by decide) dX9_hasCell_29
    · rw [if_neg c9] at h
      refine g_iload_n (pc := 12) B dX9_hasCell_12 2 rfl ?_
      refine g_if_lt (pc := 13) (tgt := 28) B dX9_hasCell_13 (by decide) (fun c13 => ?_) (fun c13 => ?_)
      · rw [if_pos c13] at h
        refine g_iconst (pc := 28) B dX9_hasCell_28 (0 : Int32) (by decide) ?_
        obtain rfl := Option.some.inj h
        exact g_ret_Z (pc := 29) B rfl (Or.inl rfl) (by decide) (by decide) dX9_hasCell_29
      · rw [if_neg c13] at h
        refine g_iload_n (pc := 16) B dX9_hasCell_16 2 rfl ?_
        refine g_aload_n (pc := 17) B dX9_hasCell_17 0 rfl ?_
        refine g_getI (pc := 18) 9 2 B k6_1 (by decide) (by decide) rfl kfX9_19 dX9_hasCell_18 ?_
        refine g_icmp_ge (pc := 21) (tgt := 28) B dX9_hasCell_21 (by decide) (fun c21 => ?_) (fun c21 => ?_)
        · rw [if_pos c21] at h
          refine g_iconst (pc := 28) B dX9_hasCell_28 (0 : Int32) (by decide) ?_
          obtain rfl := Option.some.inj h
          exact g_ret_Z (pc := 29) B rfl (Or.inl rfl) (by decide) (by decide) dX9_hasCell_29
        · rw [if_neg c21] at h
          refine g_iconst (pc := 24) B dX9_hasCell_24 (1 : Int32) (by decide) ?_
          refine g_goto (pc := 25) (tgt := 29) B dX9_hasCell_25 (by decide) ?_
          obtain rfl := Option.some.inj h
          exact g_ret_Z (pc := 29) B rfl (Or.inr rfl) (by decide) (by decide) dX9_hasCell_29
theorem ct_X9_hasCell {D : DD} {l : Launch} {X0 : Mem} {x0 : Nat} {x1 : Int32} {x2 : Int32} {r : Int32} (hl : l.stackTraces = false) (h : fX9_hasCell X0 x0 x1 x2 = some r) : Ctr D l yX9_hasCell cX9_hasCell 3 (some .boolean) rmX9_hasCell [vA (some x0), vI x1, vI x2] X0 (.inr (some (vI r))) X0 :=
  ctr_of hl (plainFor_of_name (by decide)) (Nat.le_of_ble_eq_true rfl) fun ev _ ht B => cb_X9_hasCell_L0 B ht h
set_option maxRecDepth 100000 in
set_option maxHeartbeats 4000000 in
theorem cb_X10_covers_L0 {D : DD} {ev : EV} {X0 : Mem} {x0 : Nat} {x1 : Int32} {x2 : Int32} {r : Int32} (B : Amb D (foot X0) ev RX10 "covers" cX10_covers 3 (some .boolean) rmX10_covers) (ht : Tb0 ev)  (h : fX10_covers X0 x0 x1 x2 = some r) : Gd D (foot X0) ev (QF D ev X0 (.inr (some (vI r))) X0 rmX10_covers) X0 0 0 0 [(0, vA (some x0)), (1, vI x1), (2, vI x2)] [] := by
  unfold fX10_covers at h
  refine g_aload_n (pc := 0) B dX10_covers_0 0 rfl ?_
  obtain ⟨k1_1, h⟩ := chk h
  refine g_getI (pc := 1) 10 4 B k1_1 (by decide) (by decide) rfl kfX10_33 dX10_covers_1 ?_
  refine g_if_eq (pc := 4) (tgt := 65) B dX10_covers_4 (by decide) (fun c4 => ?_) (fun c4 => ?_)
  · rw [if_pos c4] at h
    refine g_iconst (pc := 65) B dX10_covers_65 (0 : Int32) (by decide) ?_
    obtain rfl := Option.some.inj h
    exact g_ret_Z (pc := 66) B rfl (Or.inl rfl) (by decide) (by decide) dX10_covers_66
  · rw [if_neg c4] at h
    refine g_iload_n (pc := 7) B dX10_covers_7 1 rfl ?_
    refine g_aload_n (pc := 8) B dX10_covers_8 0 rfl ?_
    refine g_getI (pc := 9) 10 5 B k1_1 (by decide) (by decide) rfl kfX10_36 dX10_covers_9 ?_
    refine g_icmp_lt (pc := 12) (tgt := 65) B dX10_covers_12 (by decide) (fun c12 => ?_) (fun c12 => ?_)
    · rw [if_pos c12] at h
      refine g_iconst (pc := 65) B dX10_covers_65 (0 : Int32) (by decide) ?_
      obtain rfl := Option.some.inj h
      exact g_ret_Z (pc := 66) B rfl (Or.inl rfl) (by decide) (by decide) dX10_covers_66
    · rw [if_neg c12] at h
      refine g_iload_n (pc := 15) B dX10_covers_15 1 rfl ?_
      refine g_aload_n (pc := 16) B dX10_covers_16 0 rfl ?_
      refine g_getI (pc := 17) 10 5 B k1_1 (by decide) (by decide) rfl kfX10_36 dX10_covers_17 ?_
      refine g_aload_n (pc := 20) B dX10_covers_20 0 rfl ?_
      refine g_getR (pc := 21) 10 0 B k1_1 (by decide) (by decide) rfl kfX10_9 dX10_covers_21 ?_
      obtain ⟨a24_2, ea24_2, h⟩ := ob h
      rw [ea24_2]
      obtain ⟨k24_3, h⟩ := chk h
      refine g_getRN (pc := 24) 5 5 B k24_3 (by decide) (by decide) rfl kfX10_39 dX10_covers_24 ?_
      obtain ⟨a27_4, ea27_4, h⟩ := ob h
      rw [ea27_4]
      obtain ⟨k27_5, h⟩ := chk h
      obtain ⟨v27, e27, h⟩ := ob h
      refine h_callV (pc := 27) (As := []) (st := [vI (mI X0 1005 x0), vI x1]) (X' := X0) (cs' := 0) (sl' := 0) (st10 := [vI v27, vI (mI X0 1005 x0), vI x1]) B cal_X2_cellsWide kmX10_45 kn_X2_cellsWide ks_X2_cellsWide k27_5 (by decide) rfl (fun l hl => ct_X2_cellsWide hl e27) rfl (Nat.le_of_ble_eq_true rfl) (by decide) (by decide) dX10_covers_27 rfl rfl rfl rfl ?_
      refine g_iadd (pc := 30) B dX10_covers_30 ?_
      refine g_icmp_ge (pc := 31) (tgt := 65) B dX10_covers_31 (by decide) (fun c31 => ?_) (fun c31 => ?_)
      · rw [if_pos c31] at h
        refine g_iconst (pc := 65) B dX10_covers_65 (0 : Int32) (by decide) ?_
        obtain rfl := Option.some.inj h
        exact g_ret_Z (pc := 66) B rfl (Or.inl rfl) (by decide) (by decide) dX10_covers_66
      · rw [if_neg c31] at h
        refine g_iload_n (pc := 34) B dX10_covers_34 2 rfl ?_
        refine g_aload_n (pc := 35) B dX10_covers_35 0 rfl ?_
        refine g_getI (pc := 36) 10 6 B k1_1 (by decide) (by decide) rfl kfX10_51 dX10_covers_36 ?_
        refine g_icmp_lt (pc := 39) (tgt := 65) B dX10_covers_39 (by decide) (fun c39 => ?_) (fun c39 => ?_)
        · rw [if_pos c39] at h
          refine g_iconst (pc := 65) B dX10_covers_65 (0 : Int32) (by decide) ?_
          obtain rfl := Option.some.inj h
          exact g_ret_Z (pc := 66) B rfl (Or.inl rfl) (by decide) (by decide) dX10_covers_66
        · rw [if_neg c39] at h
          refine g_iload_n (pc := 42) B dX10_covers_42 2 rfl ?_
          refine g_aload_n (pc := 43) B dX10_covers_43 0 rfl ?_
          refine g_getI (pc := 44) 10 6 B k1_1 (by decide) (by decide) rfl kfX10_51 dX10_covers_44 ?_
          refine g_aload_n (pc := 47) B dX10_covers_47 0 rfl ?_
          refine g_getR (pc := 48) 10 0 B k1_1 (by decide) (by decide) rfl kfX10_9 dX10_covers_48 ?_
          obtain ⟨a51_6, ea51_6, h⟩ := ob h
          rw [ea51_6]
          obtain ⟨k51_7, h⟩ := chk h
          refine g_getRN (pc := 51) 5 5 B k51_7 (by decide) (by decide) rfl kfX10_39 dX10_covers_51 ?_
          obtain ⟨a54_8, ea54_8, h⟩ := ob h
          rw [ea54_8]
          obtain ⟨k54_9, h⟩ := chk h
          obtain ⟨v54, e54, h⟩ := ob h
          refine h_callV (pc := 54) (As := []) (st := [vI (mI X0 1006 x0), vI x2]) (X' := X0) (cs' := 0) (sl' := 0) (st10 := [vI v54, vI (mI X0 1006 x0), vI x2]) B cal_X2_cellsHigh kmX10_54 kn_X2_cellsHigh ks_X2_cellsHigh k54_9 (by decide) rfl (fun l hl => ct_X2_cellsHigh hl e54) rfl (Nat.le_of_ble_eq_true rfl) (by decide) (by decide) dX10_covers_54 rfl rfl rfl rfl ?_
          refine g_iadd (pc := 57) B dX10_covers_57 ?_
          refine g_icmp_ge (pc := 58) (tgt := 65) B dX10_covers_58 (by decide) (fun c58 => ?_) (fun c58 => ?_)
          · rw [if_pos c58] at h
            refine g_iconst (pc := 65) B dX10_covers_65 (0 : Int32) (by decide) ?_
            obtain rfl := Option.some.inj h
            exact g_ret_Z (pc := 66) B rfl (Or.inl rfl) (by decide) (by decide) dX10_covers_66
          · rw [if_neg c58] at h
            refine g_iconst (pc := 61) B dX10_covers_61 (1 : Int32) (by decide) ?_
            refine g_goto (pc := 62) (tgt := 66) B dX10_covers_62 (by decide) ?_
            obtain rfl := Option.some.inj h
            exact g_ret_Z (pc := 66) B rfl (Or.inr rfl) (by decide) (by decide) dX10_covers_66
theorem ct_X10_covers {D : DD} {l : Launch} {X0 : Mem} {x0 : Nat} {x1 : Int32} {x2 : Int32} {r : Int32} (hl : l.stackTraces = false) (h : fX10_covers X0 x0 x1 x2 = some r) : Ctr D l yX10_covers cX10_covers 3 (some .boolean) rmX10_covers [vA (some x0), vI x1, vI x2] X0 (.inr (some (vI r))) X0 :=
  ctr_of hl (plainFor_of_name (by decide)) (Nat.le_of_ble_eq_true rfl) fun ev _ ht B => cb_X10_covers_L0 B ht h
set_option maxRecDepth 100000 in
set_option maxHeartbeats 4000000 in
theorem cb_X11_onWall_L66 {D : DD} {ev : EV} {X0 : Mem} {fu : Nat} {rec24 : Nat → Int32 → Int32 → Int32 → Option (String ⊕ (Int32))} {x0 : Nat} {x1 : Int32} {x2 : Int32} {x3 : Int32} {r : Int32} (B : Amb D (foot X0) ev RX11 "onWall" cX11_onWall 5 (some .int) rmX11_onWall) (ht : Tb0 ev) (hrec24 : ∀ {x0 : Nat} {x1 : Int32} {x2 : Int32} {x3 : Int32} {r : Int32}, rec24 x0 x1 x2 x3 = some (.inr r) → Gd D (foot X0) ev (QF D ev X0 (.inr (some (vI r))) X0 rmX11_onWall) X0 0 0 24 [(0, vA (some x0)), (1, vI x1), (2, vI x2), (3, vI x3)] []) (h : fX11_onWall_L66 fu X0 rec24 x0 x1 x2 x3 = some (.inr r)) : Gd D (foot X0) ev (QF D ev X0 (.inr (some (vI r))) X0 rmX11_onWall) X0 0 0 66 [(0, vA (some x0)), (1, vI x1), (2, vI x2), (3, vI x3)] [] := by
  unfold fX11_onWall_L66 at h
  refine g_iinc (pc := 66) (v := (x3 + (1 : Int32))) (L' := [(3, vI (x3 + (1 : Int32))), (0, vA (some x0)), (1, vI x1), (2, vI x2)]) B dX11_onWall_66 (by decide) 3 rfl rfl rfl ?_
  refine g_goto (pc := 69) (tgt := 24) B dX11_onWall_69 (by decide) ?_
  refine g_sub (pc := 24) [1, 2, 3, 0] rfl ?_
  exact hrec24 h
set_option maxRecDepth 100000 in
set_option maxHeartbeats 4000000 in
theorem cb_X11_onWall_L24b {D : DD} {ev : EV} {X0 : Mem} {fu : Nat} {rec24 : Nat → Int32 → Int32 → Int32 → Option (String ⊕ (Int32))} {x0 : Nat} {x1 : Int32} {x2 : Int32} {x3 : Int32} {r : Int32} (B : Amb D (foot X0) ev RX11 "onWall" cX11_onWall 5 (some .int) rmX11_onWall) (ht : Tb0 ev) (hrec24 : ∀ {x0 : Nat} {x1 : Int32} {x2 : Int32} {x3 : Int32} {r : Int32}, rec24 x0 x1 x2 x3 = some (.inr r) → Gd D (foot X0) ev (QF D ev X0 (.inr (some (vI r))) X0 rmX11_onWall) X0 0 0 24 [(0, vA (some x0)), (1, vI x1), (2, vI x2), (3, vI x3)] []) (h : fX11_onWall_L24b fu X0 rec24 x0 x1 x2 x3 = some (.inr r)) : Gd D (foot X0) ev (QF D ev X0 (.inr (some (vI r))) X0 rmX11_onWall) X0 0 0 24 [(0, vA (some x0)), (1, vI x1), (2, vI x2), (3, vI x3)] [] := by
  unfold fX11_onWall_L24b at h
  refine g_iload_n (pc := 24) B dX11_onWall_24 3 rfl ?_
  refine g_aload_n (pc := 25) B dX11_onWall_25 0 rfl ?_
  obtain ⟨k26_1, h⟩ := chk h
  refine g_getI (pc := 26) 11 10 B k26_1 (by decide) (by decide) rfl kfX11_160 dX11_onWall_26 ?_
  refine g_icmp_ge (pc := 29) (tgt := 72) B dX11_onWall_29 (by decide) (fun c29 => ?_) (fun c29 => ?_)
  · rw [if_pos c29] at h
    refine g_iconst (pc := 72) B dX11_onWall_72 (-1) (by decide) ?_
    obtain rfl := Sum.inr.inj (Option.some.inj h)
    exact g_ret_I (pc := 73) B rfl (by decide) (by decide) dX11_onWall_73
  · rw [if_neg c29] at h
    refine g_iload_n (pc := 32) B dX11_onWall_32 3 rfl ?_
    refine g_aload_n (pc := 33) B dX11_onWall_33 0 rfl ?_
    refine g_getR (pc := 34) 11 7 B k26_1 (by decide) (by decide) rfl kfX11_58 dX11_onWall_34 ?_
    obtain ⟨a37_2, ea37_2, h⟩ := ob h
    rw [ea37_2]
    obtain ⟨n37_2, en37_2, h⟩ := ob h
    obtain ⟨tn37_2, kn37_2, qn37_2⟩ := alen_s en37_2
    refine g_alen (pc := 37) B kn37_2 qn37_2 dX11_onWall_37 ?_
    refine g_icmp_ge (pc := 38) (tgt := 72) B dX11_onWall_38 (by decide) (fun c38 => ?_) (fun c38 => ?_)
    · rw [if_pos c38] at h
      refine g_iconst (pc := 72) B dX11_onWall_72 (-1) (by decide) ?_
      obtain rfl := Sum.inr.inj (Option.some.inj h)
      exact g_ret_I (pc := 73) B rfl (by decide) (by decide) dX11_onWall_73
    · rw [if_neg c38] at h
      refine g_aload_n (pc := 41) B dX11_onWall_41 0 rfl ?_
      refine g_getR (pc := 42) 11 7 B k26_1 (by decide) (by decide) rfl kfX11_58 dX11_onWall_42 ?_
      refine g_iload_n (pc := 45) B dX11_onWall_45 3 rfl ?_
      obtain ⟨a46_4, ea46_4, h⟩ := ob h
      rw [ea46_4]
      obtain ⟨c46, h⟩ := chk h
      obtain ⟨nc46, kc46, ic46⟩ := inb_s c46
      refine g_aald (pc := 46) B kc46 (by decide) (by decide) ic46 dX11_onWall_46 ?_
      refine g_astore (pc := 47) (L' := [(4, vA (aR X0 a46_4 x3.toNatClampNeg)), (0, vA (some x0)), (1, vI x1), (2, vI x2), (3, vI x3)]) B dX11_onWall_47 (by decide) rfl ?_
      refine g_aload (pc := 49) B dX11_onWall_49 0 rfl ?_
      refine g_ifnull (pc := 51) (tgt := 66) B dX11_onWall_51 (by decide) (fun c51 => ?_) (fun c51 => ?_)
      · rw [if_pos c51] at h
        refine g_sub (pc := 66) [1, 2, 3, 4] rfl ?_
        exact cb_X11_onWall_L66 B ht hrec24 h
      · rw [if_neg c51] at h
        refine g_aload (pc := 54) B dX11_onWall_54 0 rfl ?_
        refine g_iload_n (pc := 56) B dX11_onWall_56 2 rfl ?_
        refine g_iload_n (pc := 57) B dX11_onWall_57 3 rfl ?_
        obtain ⟨a58_5, ea58_5, h⟩ := ob h
        rw [ea58_5]
        obtain ⟨k58_6, h⟩ := chk h
        obtain ⟨v58, e58, h⟩ := ob h
        refine h_callV (pc := 58) (As := [vI x1, vI x2]) (st := []) (X' := X0) (cs' := 0) (sl' := 0) (st10 := [vI v58]) B cal_X10_covers kmX11_252 kn_X10_covers ks_X10_covers k58_6 (by decide) rfl (fun l hl => ct_X10_covers hl e58) rfl (Nat.le_of_ble_eq_true rfl) (by decide) (by decide) dX11_onWall_58 rfl rfl rfl rfl ?_
        refine g_if_eq (pc := 61) (tgt := 66) B dX11_onWall_61 (by decide) (fun c61 => ?_) (fun c61 => ?_)
        · rw [if_pos c61] at h
          refine g_sub (pc := 66) [1, 2, 3, 4] rfl ?_
          exact cb_X11_onWall_L66 B ht hrec24 h
        · rw [if_neg c61] at h
          refine g_iload_n (pc := 64) B dX11_onWall_64 4 rfl ?_
          obtain rfl := Sum.inr.inj (Option.some.inj h)
          exact g_ret_I (pc := 65) B rfl (by decide) (by decide) dX11_onWall_65
theorem cb_X11_onWall_L24n {D : DD} {ev : EV} {X0 : Mem} {fu : Nat} (B : Amb D (foot X0) ev RX11 "onWall" cX11_onWall 5 (some .int) rmX11_onWall) (ht : Tb0 ev)  : ∀ (n : Nat) {x0 : Nat} {x1 : Int32} {x2 : Int32} {x3 : Int32} {r : Int32}, fX11_onWall_L24 fu X0 n x0 x1 x2 x3 = some (.inr r) → Gd D (foot X0) ev (QF D ev X0 (.inr (some (vI r))) X0 rmX11_onWall) X0 0 0 24 [(0, vA (some x0)), (1, vI x1), (2, vI x2), (3, vI x3)] [] := by
  intro n
  induction n with
  | zero => intro x0 x1 x2 x3 r h; exact nomatch h
  | succ n ih => intro x0 x1 x2 x3 r h; exact cb_X11_onWall_L24b (fu := fu) B ht (fun h9 => ih h9) h
theorem cb_X11_onWall_L24 {D : DD} {ev : EV} {X0 : Mem} {fu : Nat} {x0 : Nat} {x1 : Int32} {x2 : Int32} {x3 : Int32} {n : Nat} {r : Int32} (B : Amb D (foot X0) ev RX11 "onWall" cX11_onWall 5 (some .int) rmX11_onWall) (ht : Tb0 ev)  (h : fX11_onWall_L24 fu X0 n x0 x1 x2 x3 = some (.inr r)) : Gd D (foot X0) ev (QF D ev X0 (.inr (some (vI r))) X0 rmX11_onWall) X0 0 0 24 [(0, vA (some x0)), (1, vI x1), (2, vI x2), (3, vI x3)] [] := cb_X11_onWall_L24n B ht n h
set_option maxRecDepth 100000 in
set_option maxHeartbeats 4000000 in
theorem cb_X11_onWall_L0 {D : DD} {ev : EV} {X0 : Mem} {fu : Nat} {x0 : Nat} {x1 : Int32} {x2 : Int32} {r : Int32} (B : Amb D (foot X0) ev RX11 "onWall" cX11_onWall 5 (some .int) rmX11_onWall) (ht : Tb0 ev)  (h : fX11_onWall fu X0 x0 x1 x2 = some (.inr r)) : Gd D (foot X0) ev (QF D ev X0 (.inr (some (vI r))) X0 rmX11_onWall) X0 0 0 0 [(0, vA (some x0)), (1, vI x1), (2, vI x2)] [] := by
  unfold fX11_onWall at h
  refine g_aload_n (pc := 0) B dX11_onWall_0 0 rfl ?_
  obtain ⟨k1_1, h⟩ := chk h
  refine g_getR (pc := 1) 11 4 B k1_1 (by decide) (by decide) rfl kfX11_40 dX11_onWall_1 ?_
  refine g_iload_n (pc := 4) B dX11_onWall_4 1 rfl ?_
  refine g_iload_n (pc := 5) B dX11_onWall_5 2 rfl ?_
  obtain ⟨a6_2, ea6_2, h⟩ := ob h
  rw [ea6_2]
  obtain ⟨k6_3, h⟩ := chk h
  obtain ⟨v6, e6, h⟩ := ob h
  refine h_callV (pc := 6) (As := [vI x1, vI x2]) (st := []) (X' := X0) (cs' := 0) (sl' := 0) (st10 := [vI v6]) B cal_X9_hasCell kmX11_246 kn_X9_hasCell ks_X9_hasCell k6_3 (by decide) rfl (fun l hl => ct_X9_hasCell hl e6) rfl (Nat.le_of_ble_eq_true rfl) (by decide) (by decide) dX11_onWall_6 rfl rfl rfl rfl ?_
  refine g_if_ne (pc := 9) (tgt := 22) B dX11_onWall_9 (by decide) (fun c9 => ?_) (fun c9 => ?_)
  · rw [if_neg c9] at h
    refine g_iconst (pc := 22) B dX11_onWall_22 (0 : Int32) (by decide) ?_
    refine g_istore_n (pc := 23) (L' := [(3, vI (0 : Int32)), (0, vA (some x0)), (1, vI x1), (2, vI x2)]) B dX11_onWall_23 (by decide) rfl ?_
    refine g_sub (pc := 24) [1, 2, 3, 0] rfl ?_
    exact cb_X11_onWall_L24 B ht h
  · rw [if_pos c9] at h
    exact nomatch (Option.some.inj h)
theorem ct_X11_onWall {D : DD} {l : Launch} {X0 : Mem} {fu : Nat} {x0 : Nat} {x1 : Int32} {x2 : Int32} {r : Int32} (hl : l.stackTraces = false) (h : fX11_onWall fu X0 x0 x1 x2 = some (.inr r)) : Ctr D l yX11_onWall cX11_onWall 5 (some .int) rmX11_onWall [vA (some x0), vI x1, vI x2] X0 (.inr (some (vI r))) X0 :=
  ctr_of hl (plainFor_of_name (by decide)) (Nat.le_of_ble_eq_true rfl) fun ev _ ht B => cb_X11_onWall_L0 B ht h
set_option maxRecDepth 100000 in
set_option maxHeartbeats 4000000 in
theorem cb_X11_hung_L61 {D : DD} {ev : EV} {X0 : Mem} {fu : Nat} {rec8 : Nat → Int32 → Int32 → Int32 → Option (String ⊕ (Int32))} {x0 : Nat} {x1 : Int32} {x2 : Int32} {x3 : Int32} {r : Int32} (B : Amb D (foot X0) ev RX11 "hung" cX11_hung 5 (some .int) rmX11_hung) (ht : Tb0 ev) (hrec8 : ∀ {x0 : Nat} {x1 : Int32} {x2 : Int32} {x3 : Int32} {r : Int32}, rec8 x0 x1 x2 x3 = some (.inr r) → Gd D (foot X0) ev (QF D ev X0 (.inr (some (vI r))) X0 rmX11_hung) X0 0 0 8 [(0, vA (some x0)), (1, vI x1), (2, vI x2), (3, vI x3)] []) (h : fX11_hung_L61 fu X0 rec8 x0 x1 x2 x3 = some (.inr r)) : Gd D (foot X0) ev (QF D ev X0 (.inr (some (vI r))) X0 rmX11_hung) X0 0 0 61 [(0, vA (some x0)), (1, vI x1), (2, vI x2), (3, vI x3)] [] := by
  unfold fX11_hung_L61 at h
  refine g_iinc (pc := 61) (v := (x3 + (1 : Int32))) (L' := [(3, vI (x3 + (1 : Int32))), (0, vA (some x0)), (1, vI x1), (2, vI x2)]) B dX11_hung_61 (by decide) 3 rfl rfl rfl ?_
  refine g_goto (pc := 64) (tgt := 8) B dX11_hung_64 (by decide) ?_
  refine g_sub (pc := 8) [1, 2, 3, 0] rfl ?_
  exact hrec8 h
set_option maxRecDepth 100000 in
set_option maxHeartbeats 4000000 in
theorem cb_X11_hung_L8b {D : DD} {ev : EV} {X0 : Mem} {fu : Nat} {rec8 : Nat → Int32 → Int32 → Int32 → Option (String ⊕ (Int32))} {x0 : Nat} {x1 : Int32} {x2 : Int32} {x3 : Int32} {r : Int32} (B : Amb D (foot X0) ev RX11 "hung" cX11_hung 5 (some .int) rmX11_hung) (ht : Tb0 ev) (hrec8 : ∀ {x0 : Nat} {x1 : Int32} {x2 : Int32} {x3 : Int32} {r : Int32}, rec8 x0 x1 x2 x3 = some (.inr r) → Gd D (foot X0) ev (QF D ev X0 (.inr (some (vI r))) X0 rmX11_hung) X0 0 0 8 [(0, vA (some x0)), (1, vI x1), (2, vI x2), (3, vI x3)] []) (h : fX11_hung_L8b fu X0 rec8 x0 x1 x2 x3 = some (.inr r)) : Gd D (foot X0) ev (QF D ev X0 (.inr (some (vI r))) X0 rmX11_hung) X0 0 0 8 [(0, vA (some x0)), (1, vI x1), (2, vI x2), (3, vI x3)] [] := by
  unfold fX11_hung_L8b at h
  refine g_iload_n (pc := 8) B dX11_hung_8 3 rfl ?_
  refine g_aload_n (pc := 9) B dX11_hung_9 0 rfl ?_
  obtain ⟨k10_1, h⟩ := chk h
  refine g_getI (pc := 10) 11 10 B k10_1 (by decide) (by decide) rfl kfX11_160 dX11_hung_10 ?_
  refine g_icmp_ge (pc := 13) (tgt := 67) B dX11_hung_13 (by decide) (fun c13 => ?_) (fun c13 => ?_)
  · rw [if_pos c13] at h
    refine g_iload_n (pc := 67) B dX11_hung_67 2 rfl ?_
    obtain rfl := Sum.inr.inj (Option.some.inj h)
    exact g_ret_I (pc := 68) B rfl (by decide) (by decide) dX11_hung_68
  · rw [if_neg c13] at h
    refine g_iload_n (pc := 16) B dX11_hung_16 3 rfl ?_
    refine g_aload_n (pc := 17) B dX11_hung_17 0 rfl ?_
    refine g_getR (pc := 18) 11 7 B k10_1 (by decide) (by decide) rfl kfX11_58 dX11_hung_18 ?_
    obtain ⟨a21_2, ea21_2, h⟩ := ob h
    rw [ea21_2]
    obtain ⟨n21_2, en21_2, h⟩ := ob h
    obtain ⟨tn21_2, kn21_2, qn21_2⟩ := alen_s en21_2
    refine g_alen (pc := 21) B kn21_2 qn21_2 dX11_hung_21 ?_
    refine g_icmp_ge (pc := 22) (tgt := 67) B dX11_hung_22 (by decide) (fun c22 => ?_) (fun c22 => ?_)
    · rw [if_pos c22] at h
      refine g_iload_n (pc := 67) B dX11_hung_67 2 rfl ?_
      obtain rfl := Sum.inr.inj (Option.some.inj h)
      exact g_ret_I (pc := 68) B rfl (by decide) (by decide) dX11_hung_68
    · rw [if_neg c22] at h
      refine g_aload_n (pc := 25) B dX11_hung_25 0 rfl ?_
      refine g_getR (pc := 26) 11 7 B k10_1 (by decide) (by decide) rfl kfX11_58 dX11_hung_26 ?_
      refine g_iload_n (pc := 29) B dX11_hung_29 3 rfl ?_
      obtain ⟨a30_4, ea30_4, h⟩ := ob h
      rw [ea30_4]
      obtain ⟨c30, h⟩ := chk h
      obtain ⟨nc30, kc30, ic30⟩ := inb_s c30
      refine g_aald (pc := 30) B kc30 (by decide) (by decide) ic30 dX11_hung_30 ?_
      refine g_astore (pc := 31) (L' := [(4, vA (aR X0 a30_4 x3.toNatClampNeg)), (0, vA (some x0)), (1, vI x1), (2, vI x2), (3, vI x3)]) B dX11_hung_31 (by decide) rfl ?_
      refine g_aload (pc := 33) B dX11_hung_33 0 rfl ?_
      refine g_ifnull (pc := 35) (tgt := 61) B dX11_hung_35 (by decide) (fun c35 => ?_) (fun c35 => ?_)
      · rw [if_pos c35] at h
        refine g_sub (pc := 61) [1, 2, 3, 4] rfl ?_
        exact cb_X11_hung_L61 B ht hrec8 h
      · rw [if_neg c35] at h
        refine g_aload (pc := 38) B dX11_hung_38 0 rfl ?_
        obtain ⟨a40_5, ea40_5, h⟩ := ob h
        rw [ea40_5]
        obtain ⟨k40_6, h⟩ := chk h
        refine g_getIN (pc := 40) 10 4 B k40_6 (by decide) (by decide) rfl kfX11_237 dX11_hung_40 ?_
        refine g_if_eq (pc := 43) (tgt := 61) B dX11_hung_43 (by decide) (fun c43 => ?_) (fun c43 => ?_)
        · rw [if_pos c43] at h
          refine g_sub (pc := 61) [1, 2, 3, 4] rfl ?_
          exact cb_X11_hung_L61 B ht hrec8 h
        · rw [if_neg c43] at h
          refine g_aload (pc := 46) B dX11_hung_46 0 rfl ?_
          refine g_getRN (pc := 48) 10 0 B k40_6 (by decide) (by decide) rfl kfX11_255 dX11_hung_48 ?_
          obtain ⟨a51_7, ea51_7, h⟩ := ob h
          rw [ea51_7]
          obtain ⟨k51_8, h⟩ := chk h
          refine g_getIN (pc := 51) 5 0 B k51_8 (by decide) (by decide) rfl kfX11_259 dX11_hung_51 ?_
          refine g_iload_n (pc := 54) B dX11_hung_54 2 rfl ?_
          refine g_icmp_ne (pc := 55) (tgt := 61) B dX11_hung_55 (by decide) (fun c55 => ?_) (fun c55 => ?_)
          · rw [if_neg c55] at h
            refine g_sub (pc := 61) [1, 2, 3, 4] rfl ?_
            exact cb_X11_hung_L61 B ht hrec8 h
          · rw [if_pos c55] at h
            refine g_iinc (pc := 58) (v := (x2 + (1 : Int32))) (L' := [(2, vI (x2 + (1 : Int32))), (4, vA (some a40_5)), (0, vA (some x0)), (1, vI x1), (3, vI x3)]) B dX11_hung_58 (by decide) 3 rfl rfl rfl ?_
            refine g_sub (pc := 61) [2, 3, 0, 4] rfl ?_
            exact cb_X11_hung_L61 B ht hrec8 h
theorem cb_X11_hung_L8n {D : DD} {ev : EV} {X0 : Mem} {fu : Nat} (B : Amb D (foot X0) ev RX11 "hung" cX11_hung 5 (some .int) rmX11_hung) (ht : Tb0 ev)  : ∀ (n : Nat) {x0 : Nat} {x1 : Int32} {x2 : Int32} {x3 : Int32} {r : Int32}, fX11_hung_L8 fu X0 n x0 x1 x2 x3 = some (.inr r) → Gd D (foot X0) ev (QF D ev X0 (.inr (some (vI r))) X0 rmX11_hung) X0 0 0 8 [(0, vA (some x0)), (1, vI x1), (2, vI x2), (3, vI x3)] [] := by
  intro n
  induction n with
  | zero => intro x0 x1 x2 x3 r h; exact nomatch h
  | succ n ih => intro x0 x1 x2 x3 r h; exact cb_X11_hung_L8b (fu := fu) B ht (fun h9 => ih h9) h
theorem cb_X11_hung_L8 {D : DD} {ev : EV} {X0 : Mem} {fu : Nat} {x0 : Nat} {x1 : Int32} {x2 : Int32} {x3 : Int32} {n : Nat} {r : Int32} (B : Amb D (foot X0) ev RX11 "hung" cX11_hung 5 (some .int) rmX11_hung) (ht : Tb0 ev)  (h : fX11_hung_L8 fu X0 n x0 x1 x2 x3 = some (.inr r)) : Gd D (foot X0) ev (QF D ev X0 (.inr (some (vI r))) X0 rmX11_hung) X0 0 0 8 [(0, vA (some x0)), (1, vI x1), (2, vI x2), (3, vI x3)] [] := cb_X11_hung_L8n B ht n h
set_option maxRecDepth 100000 in
set_option maxHeartbeats 4000000 in
theorem cb_X11_hung_L0 {D : DD} {ev : EV} {X0 : Mem} {fu : Nat} {x0 : Nat} {x1 : Int32} {r : Int32} (B : Amb D (foot X0) ev RX11 "hung" cX11_hung 5 (some .int) rmX11_hung) (ht : Tb0 ev)  (h : fX11_hung fu X0 x0 x1 = some (.inr r)) : Gd D (foot X0) ev (QF D ev X0 (.inr (some (vI r))) X0 rmX11_hung) X0 0 0 0 [(0, vA (some x0)), (1, vI x1)] [] := by
  unfold fX11_hung at h
  refine g_iload_n (pc := 0) B dX11_hung_0 1 rfl ?_
  rcases bE_c h with ⟨E1, e1, hr1⟩ | ⟨v1, e1, h⟩
  · exact nomatch hr1
  refine h_callS (pc := 1) (As := [vI x1]) (st := []) (X' := X0) (cs' := 0) (sl' := 0) (st10 := []) B cal_X11_checkPupil kmX11_100 kz_X11_checkPupil (fun l hl => ct_X11_checkPupil hl e1) rfl (Nat.le_of_ble_eq_true rfl) (by decide) (by decide) dX11_hung_1 rfl rfl rfl rfl ?_
  refine g_iconst (pc := 4) B dX11_hung_4 (0 : Int32) (by decide) ?_
  refine g_istore_n (pc := 5) (L' := [(2, vI (0 : Int32)), (0, vA (some x0)), (1, vI x1)]) B dX11_hung_5 (by decide) rfl ?_
  refine g_iconst (pc := 6) B dX11_hung_6 (0 : Int32) (by decide) ?_
  refine g_istore_n (pc := 7) (L' := [(3, vI (0 : Int32)), (2, vI (0 : Int32)), (0, vA (some x0)), (1, vI x1)]) B dX11_hung_7 (by decide) rfl ?_
  refine g_sub (pc := 8) [2, 3, 1, 0] rfl ?_
  exact cb_X11_hung_L8 B ht h
theorem ct_X11_hung {D : DD} {l : Launch} {X0 : Mem} {fu : Nat} {x0 : Nat} {x1 : Int32} {r : Int32} (hl : l.stackTraces = false) (h : fX11_hung fu X0 x0 x1 = some (.inr r)) : Ctr D l yX11_hung cX11_hung 5 (some .int) rmX11_hung [vA (some x0), vI x1] X0 (.inr (some (vI r))) X0 :=
  ctr_of hl (plainFor_of_name (by decide)) (Nat.le_of_ble_eq_true rfl) fun ev _ ht B => cb_X11_hung_L0 B ht h
