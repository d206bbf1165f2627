set_option maxRecDepth 100000 in
set_option maxHeartbeats 4000000 in
theorem cb_X1_init_L0 {D : DD} {ev : EV} {X0 : Mem} {X : Mem} {x0 : Nat} {r : Mem} (B : Amb D (foot X0) ev RX1 "<init>" cX1_init 1 (none) rmX1_init) (ht : Tb0 ev)  (h : fX1_init X x0 = some r) : Gd D (foot X0) ev (QF D ev X0 (.inr (none)) r rmX1_init) X 0 0 0 [(0, vA (some x0))] [] := by
  unfold fX1_init at h
  refine g_aload_n (pc := 0) B dX1_init_0 0 rfl ?_
  refine g_objInit (pc := 1) B kmX1_3 kon koc (Nat.le_of_ble_eq_true rfl) (by decide) dX1_init_1 ?_
  refine g_aload_n (pc := 4) B dX1_init_4 0 rfl ?_
  refine g_bipush (pc := 5) B dX1_init_5 (30 : Int32) (by decide) ?_
  obtain ⟨q7, eq7, h⟩ := ob h
  obtain ⟨X7, eX7, h⟩ := ob h
  refine n_anew (pc := 7) (t := 3) (N := 30) B eX7 eq7 (by decide) (by decide) rfl kxX1_9 (by decide) (by decide) (by decide) (by decide) (by decide) dX1_init_7 ?_
  refine g_widen (cs' := 1) (sl' := 30) (by decide) (by decide) ?_
  obtain ⟨k10_1, h⟩ := chk h
  refine g_putRF (pc := 10) 1 0 B k10_1 (by decide) (by decide) rfl rfl rfl rfl kfX1_11 dX1_init_10 ?_
  refine g_aload_n (pc := 13) B dX1_init_13 0 rfl ?_
  refine g_iconst (pc := 14) B dX1_init_14 (4 : Int32) (by decide) ?_
  obtain ⟨q15, eq15, h⟩ := ob h
  obtain ⟨X15, eX15, h⟩ := ob h
  refine n_newa (pc := 15) (t := 1) (N := 4) B eX15 eq15 (by decide) rfl ka1 (by decide) (by decide) (by decide) (by decide) (by decide) dX1_init_15 ?_
  refine g_widen (cs' := 2) (sl' := 34) (by decide) (by decide) ?_
  obtain ⟨k17_2, h⟩ := chk h
  refine g_putRF (pc := 17) 1 1 B k17_2 (by decide) (by decide) rfl rfl rfl rfl kfX1_17 dX1_init_17 ?_
  obtain rfl := Option.some.inj h
  exact g_ret_V (pc := 20) B rfl (by decide) (by decide) dX1_init_20
theorem ct_X1_init {D : DD} {l : Launch} {X0 : Mem} {x0 : Nat} {r : Mem} (hl : l.stackTraces = false) (h : fX1_init X0 x0 = some r) : Ctr D l yX1_init cX1_init 1 (none) rmX1_init [vA (some x0)] X0 (.inr (none)) r :=
  ctr_of hl (plainFor_of_name (by decide)) (Nat.le_of_ble_eq_true rfl) fun ev _ ht B => cb_X1_init_L0 B ht h
set_option maxRecDepth 100000 in
set_option maxHeartbeats 4000000 in
theorem cb_X8_init_L0 {D : DD} {ev : EV} {X0 : Mem} {x0 : Nat} {r : Unit} (B : Amb D (foot X0) ev RX8 "<init>" cX8_init 1 (none) rmX8_init) (ht : Tb0 ev)  (h : fX8_init X0 x0 = some r) : Gd D (foot X0) ev (QF D ev X0 (.inr (none)) X0 rmX8_init) X0 0 0 0 [(0, vA (some x0))] [] := by
  unfold fX8_init at h
  refine g_aload_n (pc := 0) B dX8_init_0 0 rfl ?_
  refine g_objInit (pc := 1) B kmX8_3 kon koc (Nat.le_of_ble_eq_true rfl) (by decide) dX8_init_1 ?_
  obtain rfl := Option.some.inj h
  exact g_ret_V (pc := 4) B rfl (by decide) (by decide) dX8_init_4
theorem ct_X8_init {D : DD} {l : Launch} {X0 : Mem} {x0 : Nat} {r : Unit} (hl : l.stackTraces = false) (h : fX8_init X0 x0 = some r) : Ctr D l yX8_init cX8_init 1 (none) rmX8_init [vA (some x0)] X0 (.inr (none)) X0 :=
  ctr_of hl (plainFor_of_name (by decide)) (Nat.le_of_ble_eq_true rfl) fun ev _ ht B => cb_X8_init_L0 B ht h
set_option maxRecDepth 100000 in
set_option maxHeartbeats 4000000 in
theorem cb_X2_init_L0 {D : DD} {ev : EV} {X0 : Mem} {X : Mem} {x0 : Nat} {r : Mem} (B : Amb D (foot X0) ev RX2 "<init>" cX2_init 1 (none) rmX2_init) (ht : Tb0 ev)  (h : fX2_init X x0 = some r) : Gd D (foot X0) ev (QF D ev X0 (.inr (none)) r rmX2_init) X 0 0 0 [(0, vA (some x0))] [] := by
  unfold fX2_init at h
  refine g_aload_n (pc := 0) B dX2_init_0 0 rfl ?_
  refine g_objInit (pc := 1) B kmX2_3 kon koc (Nat.le_of_ble_eq_true rfl) (by decide) dX2_init_1 ?_
  refine g_aload_n (pc := 4) B dX2_init_4 0 rfl ?_
  refine g_bipush (pc := 5) B dX2_init_5 (16 : Int32) (by decide) ?_
  obtain ⟨q7, eq7, h⟩ := ob h
  obtain ⟨X7, eX7, h⟩ := ob h
  refine n_newa (pc := 7) (t := 0) (N := 16) B eX7 eq7 (by decide) rfl ka0 (by decide) (by decide) (by decide) (by decide) (by decide) dX2_init_7 ?_
  refine g_widen (cs' := 1) (sl' := 16) (by decide) (by decide) ?_
  obtain ⟨k9_1, h⟩ := chk h
  refine g_putRF (pc := 9) 2 0 B k9_1 (by decide) (by decide) rfl rfl rfl rfl kfX2_9 dX2_init_9 ?_
  refine g_aload_n (pc := 12) B dX2_init_12 0 rfl ?_
  refine g_bipush (pc := 13) B dX2_init_13 (16 : Int32) (by decide) ?_
  obtain ⟨q15, eq15, h⟩ := ob h
  obtain ⟨X15, eX15, h⟩ := ob h
  refine n_newa (pc := 15) (t := 0) (N := 16) B eX15 eq15 (by decide) rfl ka0 (by decide) (by decide) (by decide) (by decide) (by decide) dX2_init_15 ?_
  refine g_widen (cs' := 2) (sl' := 32) (by decide) (by decide) ?_
  obtain ⟨k17_2, h⟩ := chk h
  refine g_putRF (pc := 17) 2 1 B k17_2 (by decide) (by decide) rfl rfl rfl rfl kfX2_15 dX2_init_17 ?_
  obtain rfl := Option.some.inj h
  exact g_ret_V (pc := 20) B rfl (by decide) (by decide) dX2_init_20
theorem ct_X2_init {D : DD} {l : Launch} {X0 : Mem} {x0 : Nat} {r : Mem} (hl : l.stackTraces = false) (h : fX2_init X0 x0 = some r) : Ctr D l yX2_init cX2_init 1 (none) rmX2_init [vA (some x0)] X0 (.inr (none)) r :=
  ctr_of hl (plainFor_of_name (by decide)) (Nat.le_of_ble_eq_true rfl) fun ev _ ht B => cb_X2_init_L0 B ht h
set_option maxRecDepth 100000 in
set_option maxHeartbeats 4000000 in
theorem cb_X7_init_L0 {D : DD} {ev : EV} {X0 : Mem} {X : Mem} {x0 : Nat} {r : Mem} (B : Amb D (foot X0) ev RX7 "<init>" cX7_init 1 (none) rmX7_init) (ht : Tb0 ev)  (h : fX7_init X x0 = some r) : Gd D (foot X0) ev (QF D ev X0 (.inr (none)) r rmX7_init) X 0 0 0 [(0, vA (some x0))] [] := by
  unfold fX7_init at h
  refine g_aload_n (pc := 0) B dX7_init_0 0 rfl ?_
  refine g_objInit (pc := 1) B kmX7_3 kon koc (Nat.le_of_ble_eq_true rfl) (by decide) dX7_init_1 ?_
  refine g_aload_n (pc := 4) B dX7_init_4 0 rfl ?_
  obtain ⟨q5, eq5, h⟩ := ob h
  obtain ⟨X5, eX5, h⟩ := ob h
  refine n_new (pc := 5) 8 B eX5 eq5 (by decide) kxX7_9 kin8 kiz8 (by decide) (by decide) dX7_init_5 ?_
  refine g_widen (cs' := 1) (sl' := 4) (by decide) (by decide) ?_
  refine g_dup (pc := 8) B dX7_init_8 rfl ?_
  obtain ⟨v9, e9, h⟩ := ob h
  refine h_callIN (pc := 9) (As := []) (st := [vA (some q5), vA (some x0)]) (X' := X5) (cs' := 1) (sl' := 4) B cal_X8_init kmX7_11 kn_X8_init rfl (fun l hl => ct_X8_init hl e9) rfl (Nat.le_of_ble_eq_true rfl) (by decide) (by decide) dX7_init_9 rfl rfl rfl ?_
  obtain ⟨k12_1, h⟩ := chk h
  refine g_putRF (pc := 12) 7 0 B k12_1 (by decide) (by decide) rfl rfl rfl rfl kfX7_12 dX7_init_12 ?_
  refine g_aload_n (pc := 15) B dX7_init_15 0 rfl ?_
  refine g_iconst (pc := 16) B dX7_init_16 (4 : Int32) (by decide) ?_
  obtain ⟨q17, eq17, h⟩ := ob h
  obtain ⟨X17, eX17, h⟩ := ob h
  refine n_newa (pc := 17) (t := 0) (N := 4) B eX17 eq17 (by decide) rfl ka0 (by decide) (by decide) (by decide) (by decide) (by decide) dX7_init_17 ?_
  refine g_widen (cs' := 2) (sl' := 8) (by decide) (by decide) ?_
  obtain ⟨k19_2, h⟩ := chk h
  refine g_putRF (pc := 19) 7 1 B k19_2 (by decide) (by decide) rfl rfl rfl rfl kfX7_18 dX7_init_19 ?_
  refine g_aload_n (pc := 22) B dX7_init_22 0 rfl ?_
  refine g_sipush (pc := 23) B dX7_init_23 (270 : Int32) (by decide) ?_
  obtain ⟨q26, eq26, h⟩ := ob h
  obtain ⟨X26, eX26, h⟩ := ob h
  refine n_newa (pc := 26) (t := 0) (N := 270) B eX26 eq26 (by decide) rfl ka0 (by decide) (by decide) (by decide) (by decide) (by decide) dX7_init_26 ?_
  refine g_widen (cs' := 3) (sl' := 278) (by decide) (by decide) ?_
  obtain ⟨k28_3, h⟩ := chk h
  refine g_putRF (pc := 28) 7 2 B k28_3 (by decide) (by decide) rfl rfl rfl rfl kfX7_22 dX7_init_28 ?_
  refine g_aload_n (pc := 31) B dX7_init_31 0 rfl ?_
  refine g_bipush (pc := 32) B dX7_init_32 (8 : Int32) (by decide) ?_
  obtain ⟨q34, eq34, h⟩ := ob h
  obtain ⟨X34, eX34, h⟩ := ob h
  refine n_newa (pc := 34) (t := 0) (N := 8) B eX34 eq34 (by decide) rfl ka0 (by decide) (by decide) (by decide) (by decide) (by decide) dX7_init_34 ?_
  refine g_widen (cs' := 4) (sl' := 286) (by decide) (by decide) ?_
  obtain ⟨k36_4, h⟩ := chk h
  refine g_putRF (pc := 36) 7 3 B k36_4 (by decide) (by decide) rfl rfl rfl rfl kfX7_25 dX7_init_36 ?_
  refine g_aload_n (pc := 39) B dX7_init_39 0 rfl ?_
  obtain ⟨q40, eq40, h⟩ := ob h
  obtain ⟨X40, eX40, h⟩ := ob h
  refine n_new (pc := 40) 2 B eX40 eq40 (by decide) kxX7_28 kin2 kiz2 (by decide) (by decide) dX7_init_40 ?_
  refine g_widen (cs' := 5) (sl' := 293) (by decide) (by decide) ?_
  refine g_dup (pc := 43) B dX7_init_43 rfl ?_
  obtain ⟨X44, e44, h⟩ := ob h
  refine h_callI (pc := 44) (As := []) (st := [vA (some q40), vA (some x0)]) (X' := X44) (cs' := 7) (sl' := 325) B cal_X2_init kmX7_30 kn_X2_init rfl (fun l hl => ct_X2_init hl e44) rfl (Nat.le_of_ble_eq_true rfl) (by decide) (by decide) dX7_init_44 rfl rfl rfl ?_
  obtain ⟨k47_5, h⟩ := chk h
  refine g_putR (pc := 47) 7 4 B k47_5 (by decide) (by decide) rfl rfl kfX7_31 dX7_init_47 ?_
  obtain rfl := Option.some.inj h
  exact g_ret_V (pc := 50) B rfl (by decide) (by decide) dX7_init_50
theorem ct_X7_init {D : DD} {l : Launch} {X0 : Mem} {x0 : Nat} {r : Mem} (hl : l.stackTraces = false) (h : fX7_init X0 x0 = some r) : Ctr D l yX7_init cX7_init 1 (none) rmX7_init [vA (some x0)] X0 (.inr (none)) r :=
  ctr_of hl (plainFor_of_name (by decide)) (Nat.le_of_ble_eq_true rfl) fun ev _ ht B => cb_X7_init_L0 B ht h
set_option maxRecDepth 100000 in
set_option maxHeartbeats 4000000 in
theorem cb_X0_init_L0 {D : DD} {ev : EV} {X0 : Mem} {X : Mem} {x0 : Nat} {r : Mem} (B : Amb D (foot X0) ev RX0 "<init>" cX0_init 1 (none) rmX0_init) (ht : Tb0 ev)  (h : fX0_init X x0 = some r) : Gd D (foot X0) ev (QF D ev X0 (.inr (none)) r rmX0_init) X 0 0 0 [(0, vA (some x0))] [] := by
  unfold fX0_init at h
  refine g_aload_n (pc := 0) B dX0_init_0 0 rfl ?_
  refine g_objInit (pc := 1) B kmX0_3 kon koc (Nat.le_of_ble_eq_true rfl) (by decide) dX0_init_1 ?_
  refine g_aload_n (pc := 4) B dX0_init_4 0 rfl ?_
  refine g_bipush (pc := 5) B dX0_init_5 (31 : Int32) (by decide) ?_
  obtain ⟨q7, eq7, h⟩ := ob h
  obtain ⟨X7, eX7, h⟩ := ob h
  refine n_newa (pc := 7) (t := 0) (N := 31) B eX7 eq7 (by decide) rfl ka0 (by decide) (by decide) (by decide) (by decide) (by decide) dX0_init_7 ?_
  refine g_widen (cs' := 1) (sl' := 31) (by decide) (by decide) ?_
  obtain ⟨k9_1, h⟩ := chk h
  refine g_putR (pc := 9) 0 0 B k9_1 (by decide) (by decide) rfl rfl kfX0_9 dX0_init_9 ?_
  refine g_aload_n (pc := 12) B dX0_init_12 0 rfl ?_
  refine g_bipush (pc := 13) B dX0_init_13 (31 : Int32) (by decide) ?_
  obtain ⟨q15, eq15, h⟩ := ob h
  obtain ⟨X15, eX15, h⟩ := ob h
  refine n_newa (pc := 15) (t := 0) (N := 31) B eX15 eq15 (by decide) rfl ka0 (by decide) (by decide) (by decide) (by decide) (by decide) dX0_init_15 ?_
  refine g_widen (cs' := 2) (sl' := 62) (by decide) (by decide) ?_
  obtain ⟨k17_2, h⟩ := chk h
  refine g_putR (pc := 17) 0 1 B k17_2 (by decide) (by decide) rfl rfl kfX0_15 dX0_init_17 ?_
  obtain rfl := Option.some.inj h
  exact g_ret_V (pc := 20) B rfl (by decide) (by decide) dX0_init_20
theorem ct_X0_init {D : DD} {l : Launch} {X0 : Mem} {x0 : Nat} {r : Mem} (hl : l.stackTraces = false) (h : fX0_init X0 x0 = some r) : Ctr D l yX0_init cX0_init 1 (none) rmX0_init [vA (some x0)] X0 (.inr (none)) r :=
  ctr_of hl (plainFor_of_name (by decide)) (Nat.le_of_ble_eq_true rfl) fun ev _ ht B => cb_X0_init_L0 B ht h
set_option maxRecDepth 100000 in
set_option maxHeartbeats 4000000 in
theorem cb_X9_init_L0 {D : DD} {ev : EV} {X0 : Mem} {X : Mem} {x0 : Nat} {r : Mem} (B : Amb D (foot X0) ev RX9 "<init>" cX9_init 1 (none) rmX9_init) (ht : Tb0 ev)  (h : fX9_init X x0 = some r) : Gd D (foot X0) ev (QF D ev X0 (.inr (none)) r rmX9_init) X 0 0 0 [(0, vA (some x0))] [] := by
  unfold fX9_init at h
  refine g_aload_n (pc := 0) B dX9_init_0 0 rfl ?_
  refine g_objInit (pc := 1) B kmX9_3 kon koc (Nat.le_of_ble_eq_true rfl) (by decide) dX9_init_1 ?_
  refine g_aload_n (pc := 4) B dX9_init_4 0 rfl ?_
  refine g_bipush (pc := 5) B dX9_init_5 (40 : Int32) (by decide) ?_
  obtain ⟨q7, eq7, h⟩ := ob h
  obtain ⟨X7, eX7, h⟩ := ob h
  refine n_newa (pc := 7) (t := 2) (N := 40) B eX7 eq7 (by decide) rfl ka2 (by decide) (by decide) (by decide) (by decide) (by decide) dX9_init_7 ?_
  refine g_widen (cs' := 1) (sl' := 40) (by decide) (by decide) ?_
  obtain ⟨k9_1, h⟩ := chk h
  refine g_putRF (pc := 9) 9 0 B k9_1 (by decide) (by decide) rfl rfl rfl rfl kfX9_9 dX9_init_9 ?_
  refine g_aload_n (pc := 12) B dX9_init_12 0 rfl ?_
  refine g_bipush (pc := 13) B dX9_init_13 (20 : Int32) (by decide) ?_
  refine g_putI (pc := 15) 9 1 B k9_1 (by decide) (by decide) rfl rfl kfX9_15 dX9_init_15 ?_
  refine g_aload_n (pc := 18) B dX9_init_18 0 rfl ?_
  refine g_bipush (pc := 19) B dX9_init_19 (20 : Int32) (by decide) ?_
  refine g_putI (pc := 21) 9 2 B k9_1 (by decide) (by decide) rfl rfl kfX9_19 dX9_init_21 ?_
  obtain rfl := Option.some.inj h
  exact g_ret_V (pc := 24) B rfl (by decide) (by decide) dX9_init_24
theorem ct_X9_init {D : DD} {l : Launch} {X0 : Mem} {x0 : Nat} {r : Mem} (hl : l.stackTraces = false) (h : fX9_init X0 x0 = some r) : Ctr D l yX9_init cX9_init 1 (none) rmX9_init [vA (some x0)] X0 (.inr (none)) r :=
  ctr_of hl (plainFor_of_name (by decide)) (Nat.le_of_ble_eq_true rfl) fun ev _ ht B => cb_X9_init_L0 B ht h
set_option maxRecDepth 100000 in
set_option maxHeartbeats 4000000 in
theorem cb_X11_init_L0 {D : DD} {ev : EV} {X0 : Mem} {X : Mem} {x0 : Nat} {r : Mem} (B : Amb D (foot X0) ev RX11 "<init>" cX11_init 1 (none) rmX11_init) (ht : Tb0 ev)  (h : fX11_init X x0 = some r) : Gd D (foot X0) ev (QF D ev X0 (.inr (none)) r rmX11_init) X 0 0 0 [(0, vA (some x0))] [] := by
  unfold fX11_init at h
  refine g_aload_n (pc := 0) B dX11_init_0 0 rfl ?_
  refine g_objInit (pc := 1) B kmX11_1 kon koc (Nat.le_of_ble_eq_true rfl) (by decide) dX11_init_1 ?_
  refine g_aload_n (pc := 4) B dX11_init_4 0 rfl ?_
  obtain ⟨q5, eq5, h⟩ := ob h
  obtain ⟨X5, eX5, h⟩ := ob h
  refine n_new (pc := 5) 1 B eX5 eq5 (by decide) kxX11_7 kin1 kiz1 (by decide) (by decide) dX11_init_5 ?_
  refine g_widen (cs' := 1) (sl' := 4) (by decide) (by decide) ?_
  refine g_dup (pc := 8) B dX11_init_8 rfl ?_
  obtain ⟨X9, e9, h⟩ := ob h
  refine h_callI (pc := 9) (As := []) (st := [vA (some q5), vA (some x0)]) (X' := X9) (cs' := 3) (sl' := 38) B cal_X1_init kmX11_9 kn_X1_init rfl (fun l hl => ct_X1_init hl e9) rfl (Nat.le_of_ble_eq_true rfl) (by decide) (by decide) dX11_init_9 rfl rfl rfl ?_
  obtain ⟨k12_1, h⟩ := chk h
  refine g_putRF (pc := 12) 11 0 B k12_1 (by decide) (by decide) rfl rfl rfl rfl kfX11_10 dX11_init_12 ?_
  refine g_aload_n (pc := 15) B dX11_init_15 0 rfl ?_
  obtain ⟨q16, eq16, h⟩ := ob h
  obtain ⟨X16, eX16, h⟩ := ob h
  refine n_new (pc := 16) 7 B eX16 eq16 (by decide) kxX11_16 kin7 kiz7 (by decide) (by decide) dX11_init_16 ?_
  refine g_widen (cs' := 4) (sl' := 47) (by decide) (by decide) ?_
  refine g_dup (pc := 19) B dX11_init_19 rfl ?_
  obtain ⟨X20, e20, h⟩ := ob h
  refine h_callI (pc := 20) (As := []) (st := [vA (some q16), vA (some x0)]) (X' := X20) (cs' := 11) (sl' := 372) B cal_X7_init kmX11_18 kn_X7_init rfl (fun l hl => ct_X7_init hl e20) rfl (Nat.le_of_ble_eq_true rfl) (by decide) (by decide) dX11_init_20 rfl rfl rfl ?_
  obtain ⟨k23_2, h⟩ := chk h
  refine g_putRF (pc := 23) 11 1 B k23_2 (by decide) (by decide) rfl rfl rfl rfl kfX11_19 dX11_init_23 ?_
  refine g_aload_n (pc := 26) B dX11_init_26 0 rfl ?_
  obtain ⟨q27, eq27, h⟩ := ob h
  obtain ⟨X27, eX27, h⟩ := ob h
  refine n_new (pc := 27) 2 B eX27 eq27 (by decide) kxX11_23 kin2 kiz2 (by decide) (by decide) dX11_init_27 ?_
  refine g_widen (cs' := 12) (sl' := 379) (by decide) (by decide) ?_
  refine g_dup (pc := 30) B dX11_init_30 rfl ?_
  obtain ⟨X31, e31, h⟩ := ob h
  refine h_callI (pc := 31) (As := []) (st := [vA (some q27), vA (some x0)]) (X' := X31) (cs' := 14) (sl' := 411) B cal_X2_init kmX11_25 kn_X2_init rfl (fun l hl => ct_X2_init hl e31) rfl (Nat.le_of_ble_eq_true rfl) (by decide) (by decide) dX11_init_31 rfl rfl rfl ?_
  obtain ⟨k34_3, h⟩ := chk h
  refine g_putRF (pc := 34) 11 2 B k34_3 (by decide) (by decide) rfl rfl rfl rfl kfX11_26 dX11_init_34 ?_
  refine g_aload_n (pc := 37) B dX11_init_37 0 rfl ?_
  obtain ⟨q38, eq38, h⟩ := ob h
  obtain ⟨X38, eX38, h⟩ := ob h
  refine n_new (pc := 38) 0 B eX38 eq38 (by decide) kxX11_30 kin0 kiz0 (by decide) (by decide) dX11_init_38 ?_
  refine g_widen (cs' := 15) (sl' := 413) (by decide) (by decide) ?_
  refine g_dup (pc := 41) B dX11_init_41 rfl ?_
  obtain ⟨X42, e42, h⟩ := ob h
  refine h_callI (pc := 42) (As := []) (st := [vA (some q38), vA (some x0)]) (X' := X42) (cs' := 17) (sl' := 475) B cal_X0_init kmX11_32 kn_X0_init rfl (fun l hl => ct_X0_init hl e42) rfl (Nat.le_of_ble_eq_true rfl) (by decide) (by decide) dX11_init_42 rfl rfl rfl ?_
  obtain ⟨k45_4, h⟩ := chk h
  refine g_putRF (pc := 45) 11 3 B k45_4 (by decide) (by decide) rfl rfl rfl rfl kfX11_33 dX11_init_45 ?_
  refine g_aload_n (pc := 48) B dX11_init_48 0 rfl ?_
  obtain ⟨q49, eq49, h⟩ := ob h
  obtain ⟨X49, eX49, h⟩ := ob h
  refine n_new (pc := 49) 9 B eX49 eq49 (by decide) kxX11_37 kin9 kiz9 (by decide) (by decide) dX11_init_49 ?_
  refine g_widen (cs' := 18) (sl' := 478) (by decide) (by decide) ?_
  refine g_dup (pc := 52) B dX11_init_52 rfl ?_
  obtain ⟨X53, e53, h⟩ := ob h
  refine h_callI (pc := 53) (As := []) (st := [vA (some q49), vA (some x0)]) (X' := X53) (cs' := 19) (sl' := 518) B cal_X9_init kmX11_39 kn_X9_init rfl (fun l hl => ct_X9_init hl e53) rfl (Nat.le_of_ble_eq_true rfl) (by decide) (by decide) dX11_init_53 rfl rfl rfl ?_
  obtain ⟨k56_5, h⟩ := chk h
  refine g_putRF (pc := 56) 11 4 B k56_5 (by decide) (by decide) rfl rfl rfl rfl kfX11_40 dX11_init_56 ?_
  refine g_aload_n (pc := 59) B dX11_init_59 0 rfl ?_
  refine g_bipush (pc := 60) B dX11_init_60 (30 : Int32) (by decide) ?_
  obtain ⟨q62, eq62, h⟩ := ob h
  obtain ⟨X62, eX62, h⟩ := ob h
  refine n_anew (pc := 62) (t := 4) (N := 30) B eX62 eq62 (by decide) (by decide) rfl kxX11_44 (by decide) (by decide) (by decide) (by decide) (by decide) dX11_init_62 ?_
  refine g_widen (cs' := 20) (sl' := 548) (by decide) (by decide) ?_
  obtain ⟨k65_6, h⟩ := chk h
  refine g_putRF (pc := 65) 11 5 B k65_6 (by decide) (by decide) rfl rfl rfl rfl kfX11_46 dX11_init_65 ?_
  refine g_aload_n (pc := 68) B dX11_init_68 0 rfl ?_
  refine g_bipush (pc := 69) B dX11_init_69 (6 : Int32) (by decide) ?_
  obtain ⟨q71, eq71, h⟩ := ob h
  obtain ⟨X71, eX71, h⟩ := ob h
  refine n_anew (pc := 71) (t := 5) (N := 6) B eX71 eq71 (by decide) (by decide) rfl kxX11_50 (by decide) (by decide) (by decide) (by decide) (by decide) dX11_init_71 ?_
  refine g_widen (cs' := 21) (sl' := 554) (by decide) (by decide) ?_
  obtain ⟨k74_7, h⟩ := chk h
  refine g_putRF (pc := 74) 11 6 B k74_7 (by decide) (by decide) rfl rfl rfl rfl kfX11_52 dX11_init_74 ?_
  refine g_aload_n (pc := 77) B dX11_init_77 0 rfl ?_
  refine g_bipush (pc := 78) B dX11_init_78 (24 : Int32) (by decide) ?_
  obtain ⟨q80, eq80, h⟩ := ob h
  obtain ⟨X80, eX80, h⟩ := ob h
  refine n_anew (pc := 80) (t := 6) (N := 24) B eX80 eq80 (by decide) (by decide) rfl kxX11_56 (by decide) (by decide) (by decide) (by decide) (by decide) dX11_init_80 ?_
  refine g_widen (cs' := 22) (sl' := 578) (by decide) (by decide) ?_
  obtain ⟨k83_8, h⟩ := chk h
  refine g_putRF (pc := 83) 11 7 B k83_8 (by decide) (by decide) rfl rfl rfl rfl kfX11_58 dX11_init_83 ?_
  obtain rfl := Option.some.inj h
  exact g_ret_V (pc := 86) B rfl (by decide) (by decide) dX11_init_86
theorem ct_X11_init {D : DD} {l : Launch} {X0 : Mem} {x0 : Nat} {r : Mem} (hl : l.stackTraces = false) (h : fX11_init X0 x0 = some r) : Ctr D l yX11_init cX11_init 1 (none) rmX11_init [vA (some x0)] X0 (.inr (none)) r :=
  ctr_of hl (plainFor_of_name (by decide)) (Nat.le_of_ble_eq_true rfl) fun ev _ ht B => cb_X11_init_L0 B ht h
set_option maxRecDepth 100000 in
set_option maxHeartbeats 4000000 in
theorem cb_X11_checkName_L0 {D : DD} {ev : EV} {X0 : Mem} {x0 : Int32} {r : Unit} (B : Amb D (foot X0) ev RX11 "checkName" cX11_checkName 1 (none) rmX11_checkName) (ht : Tb0 ev)  (h : fX11_checkName X0 x0 = some (.inr r)) : Gd D (foot X0) ev (QF D ev X0 (.inr (none)) X0 rmX11_checkName) X0 0 0 0 [(0, vI x0)] [] := by
  unfold fX11_checkName at h
  refine g_iload_n (pc := 0) B dX11_checkName_0 0 rfl ?_
  refine g_if_lt (pc := 1) (tgt := 9) B dX11_checkName_1 (by decide) (fun c1 => ?_) (fun c1 => ?_)
  · rw [if_pos c1] at h
    exact nomatch (Option.some.inj h)
  · rw [if_neg c1] at h
    refine g_iload_n (pc := 4) B dX11_checkName_4 0 rfl ?_
    refine g_iconst (pc := 5) B dX11_checkName_5 (4 : Int32) (by decide) ?_
    refine g_icmp_lt (pc := 6) (tgt := 20) B dX11_checkName_6 (by decide) (fun c6 => ?_) (fun c6 => ?_)
    · rw [if_pos c6] at h
      obtain rfl := Sum.inr.inj (Option.some.inj h)
      exact g_ret_V (pc := 20) B rfl (by decide) (by decide) dX11_checkName_20
    · rw [if_neg c6] at h
      exact nomatch (Option.some.inj h)
theorem ct_X11_checkName {D : DD} {l : Launch} {X0 : Mem} {x0 : Int32} {r : Unit} (hl : l.stackTraces = false) (h : fX11_checkName X0 x0 = some (.inr r)) : Ctr D l yX11_checkName cX11_checkName 1 (none) rmX11_checkName [vI x0] X0 (.inr (none)) X0 :=
  ctr_of hl (plainFor_of_name (by decide)) (Nat.le_of_ble_eq_true rfl) fun ev _ ht B => cb_X11_checkName_L0 B ht h
set_option maxRecDepth 100000 in
set_option maxHeartbeats 4000000 in
theorem cb_X11_checkValue_L0 {D : DD} {ev : EV} {X0 : Mem} {x0 : Int32} {x1 : Int32} {x2 : Int32} {r : Unit} (B : Amb D (foot X0) ev RX11 "checkValue" cX11_checkValue 3 (none) rmX11_checkValue) (ht : Tb0 ev)  (h : fX11_checkValue X0 x0 x1 x2 = some (.inr r)) : Gd D (foot X0) ev (QF D ev X0 (.inr (none)) X0 rmX11_checkValue) X0 0 0 0 [(0, vI x0), (1, vI x1), (2, vI x2)] [] := by
  unfold fX11_checkValue at h
  refine g_iload_n (pc := 0) B dX11_checkValue_0 1 rfl ?_
  refine g_if_eq (pc := 1) (tgt := 11) B dX11_checkValue_1 (by decide) (fun c1 => ?_) (fun c1 => ?_)
  · rw [if_pos c1] at h
    refine g_iload_n (pc := 11) B dX11_checkValue_11 0 rfl ?_
    refine g_iload_n (pc := 12) B dX11_checkValue_12 2 rfl ?_
    refine g_icmp_lt (pc := 13) (tgt := 22) B dX11_checkValue_13 (by decide) (fun c13 => ?_) (fun c13 => ?_)
    · rw [if_pos c13] at h
      exact nomatch (Option.some.inj h)
    · rw [if_neg c13] at h
      refine g_iload_n (pc := 16) B dX11_checkValue_16 0 rfl ?_
      refine g_bipush (pc := 17) B dX11_checkValue_17 (99 : Int32) (by decide) ?_
      refine g_icmp_le (pc := 19) (tgt := 33) B dX11_checkValue_19 (by decide) (fun c19 => ?_) (fun c19 => ?_)
      · rw [if_pos c19] at h
        obtain rfl := Sum.inr.inj (Option.some.inj h)
        exact g_ret_V (pc := 33) B rfl (by decide) (by decide) dX11_checkValue_33
      · rw [if_neg c19] at h
        exact nomatch (Option.some.inj h)
  · rw [if_neg c1] at h
    refine g_iload_n (pc := 4) B dX11_checkValue_4 0 rfl ?_
    rcases bE_c h with ⟨E5, e5, hr5⟩ | ⟨v5, e5, h⟩
    · exact nomatch hr5
    refine h_callS (pc := 5) (As := [vI x0]) (st := []) (X' := X0) (cs' := 0) (sl' := 0) (st10 := []) B cal_X11_checkName kmX11_70 kz_X11_checkName (fun l hl => ct_X11_checkName hl e5) rfl (Nat.le_of_ble_eq_true rfl) (by decide) (by decide) dX11_checkValue_5 rfl rfl rfl rfl ?_
    refine g_goto (pc := 8) (tgt := 33) B dX11_checkValue_8 (by decide) ?_
    obtain rfl := Sum.inr.inj (Option.some.inj h)
    exact g_ret_V (pc := 33) B rfl (by decide) (by decide) dX11_checkValue_33
theorem ct_X11_checkValue {D : DD} {l : Launch} {X0 : Mem} {x0 : Int32} {x1 : Int32} {x2 : Int32} {r : Unit} (hl : l.stackTraces = false) (h : fX11_checkValue X0 x0 x1 x2 = some (.inr r)) : Ctr D l yX11_checkValue cX11_checkValue 3 (none) rmX11_checkValue [vI x0, vI x1, vI x2] X0 (.inr (none)) X0 :=
  ctr_of hl (plainFor_of_name (by decide)) (Nat.le_of_ble_eq_true rfl) fun ev _ ht B => cb_X11_checkValue_L0 B ht h
set_option maxRecDepth 100000 in
set_option maxHeartbeats 4000000 in
theorem cb_X1_length_L0 {D : DD} {ev : EV} {X0 : Mem} {x0 : Nat} {r : Int32} (B : Amb D (foot X0) ev RX1 "length" cX1_length 1 (some .int) rmX1_length) (ht : Tb0 ev)  (h : fX1_length X0 x0 = some r) : Gd D (foot X0) ev (QF D ev X0 (.inr (some (vI r))) X0 rmX1_length) X0 0 0 0 [(0, vA (some x0))] [] := by
  unfold fX1_length at h
  refine g_aload_n (pc := 0) B dX1_length_0 0 rfl ?_
  obtain ⟨k1_1, h⟩ := chk h
  refine g_getI (pc := 1) 1 2 B k1_1 (by decide) (by decide) rfl kfX1_21 dX1_length_1 ?_
  obtain rfl := Option.some.inj h
  exact g_ret_I (pc := 4) B rfl (by decide) (by decide) dX1_length_4
theorem ct_X1_length {D : DD} {l : Launch} {X0 : Mem} {x0 : Nat} {r : Int32} (hl : l.stackTraces = false) (h : fX1_length X0 x0 = some r) : Ctr D l yX1_length cX1_length 1 (some .int) rmX1_length [vA (some x0)] X0 (.inr (some (vI r))) X0 :=
  ctr_of hl (plainFor_of_name (by decide)) (Nat.le_of_ble_eq_true rfl) fun ev _ ht B => cb_X1_length_L0 B ht h
set_option maxRecDepth 100000 in
set_option maxHeartbeats 4000000 in
theorem cb_X4_init_L0 {D : DD} {ev : EV} {X0 : Mem} {X : Mem} {x0 : Nat} {x1 : Int32} {x2 : Int32} {x3 : Int32} {x4 : Int32} {r : Mem} (B : Amb D (foot X0) ev RX4 "<init>" cX4_init 5 (none) rmX4_init) (ht : Tb0 ev)  (h : fX4_init X x0 x1 x2 x3 x4 = some r) : Gd D (foot X0) ev (QF D ev X0 (.inr (none)) r rmX4_init) X 0 0 0 [(0, vA (some x0)), (1, vI x1), (2, vI x2), (3, vI x3), (4, vI x4)] [] := by
  unfold fX4_init at h
  refine g_aload_n (pc := 0) B dX4_init_0 0 rfl ?_
  refine g_objInit (pc := 1) B kmX4_3 kon koc (Nat.le_of_ble_eq_true rfl) (by decide) dX4_init_1 ?_
  refine g_aload_n (pc := 4) B dX4_init_4 0 rfl ?_
  refine g_iload_n (pc := 5) B dX4_init_5 1 rfl ?_
  obtain ⟨k6_1, h⟩ := chk h
  refine g_putIF (pc := 6) 4 0 B k6_1 (by decide) (by decide) rfl rfl rfl rfl kfX4_9 dX4_init_6 ?_
  refine g_aload_n (pc := 9) B dX4_init_9 0 rfl ?_
  refine g_iload_n (pc := 10) B dX4_init_10 2 rfl ?_
  refine g_putIF (pc := 11) 4 1 B k6_1 (by decide) (by decide) rfl rfl rfl rfl kfX4_15 dX4_init_11 ?_
  refine g_aload_n (pc := 14) B dX4_init_14 0 rfl ?_
  refine g_iload_n (pc := 15) B dX4_init_15 3 rfl ?_
  refine g_putIF (pc := 16) 4 2 B k6_1 (by decide) (by decide) rfl rfl rfl rfl kfX4_18 dX4_init_16 ?_
  refine g_aload_n (pc := 19) B dX4_init_19 0 rfl ?_
  refine g_iload (pc := 20) B dX4_init_20 4 rfl ?_
  obtain ⟨z22, h⟩ := chk h
  refine g_putZF (pc := 22) 4 3 B k6_1 (by decide) (by decide) rfl z22 rfl rfl rfl kfX4_21 dX4_init_22 ?_
  obtain rfl := Option.some.inj h
  exact g_ret_V (pc := 25) B rfl (by decide) (by decide) dX4_init_25
theorem ct_X4_init {D : DD} {l : Launch} {X0 : Mem} {x0 : Nat} {x1 : Int32} {x2 : Int32} {x3 : Int32} {x4 : Int32} {r : Mem} (hl : l.stackTraces = false) (h : fX4_init X0 x0 x1 x2 x3 x4 = some r) : Ctr D l yX4_init cX4_init 5 (none) rmX4_init [vA (some x0), vI x1, vI x2, vI x3, vI x4] X0 (.inr (none)) r :=
  ctr_of hl (plainFor_of_name (by decide)) (Nat.le_of_ble_eq_true rfl) fun ev _ ht B => cb_X4_init_L0 B ht h
set_option maxRecDepth 100000 in
set_option maxHeartbeats 4000000 in
theorem cb_X4_opensBlock_L0 {D : DD} {ev : EV} {X0 : Mem} {x0 : Nat} {r : Int32} (B : Amb D (foot X0) ev RX4 "opensBlock" cX4_opensBlock 1 (some .boolean) rmX4_opensBlock) (ht : Tb0 ev)  (h : fX4_opensBlock X0 x0 = some r) : Gd D (foot X0) ev (QF D ev X0 (.inr (some (vI r))) X0 rmX4_opensBlock) X0 0 0 0 [(0, vA (some x0))] [] := by
  unfold fX4_opensBlock at h
  refine g_aload_n (pc := 0) B dX4_opensBlock_0 0 rfl ?_
  obtain ⟨k1_1, h⟩ := chk h
  refine g_getI (pc := 1) 4 0 B k1_1 (by decide) (by decide) rfl kfX4_9 dX4_opensBlock_1 ?_
  refine g_iconst (pc := 4) B dX4_opensBlock_4 (5 : Int32) (by decide) ?_
  refine g_icmp_eq (pc := 5) (tgt := 17) B dX4_opensBlock_5 (by decide) (fun c5 => ?_) (fun c5 => ?_)
  · rw [if_pos c5] at h
    refine g_iconst (pc := 17) B dX4_opensBlock_17 (1 : Int32) (by decide) ?_
    refine g_goto (pc := 18) (tgt := 22) B dX4_opensBlock_18 (by decide) ?_
    obtain rfl := Option.some.inj h
    exact g_ret_Z (pc := 22) B rfl (Or.inr rfl) (by decide) (by decide) dX4_opensBlock_22
  · rw [if_neg c5] at h
    refine g_aload_n (pc := 8) B dX4_opensBlock_8 0 rfl ?_
    refine g_getI (pc := 9) 4 0 B k1_1 (by decide) (by decide) rfl kfX4_9 dX4_opensBlock_9 ?_
    refine g_bipush (pc := 12) B dX4_opensBlock_12 (6 : Int32) (by decide) ?_
    refine g_icmp_ne (pc := 14) (tgt := 21) B dX4_opensBlock_14 (by decide) (fun c14 => ?_) (fun c14 => ?_)
    · rw [if_neg c14] at h
      refine g_iconst (pc := 21) B dX4_opensBlock_21 (0 : Int32) (by decide) ?_
      obtain rfl := Option.some.inj h
      exact g_ret_Z (pc := 22) B rfl (Or.inl rfl) (by decide) (by decide) dX4_opensBlock_22
    · rw [if_pos c14] at h
      refine g_iconst (pc := 17) B dX4_opensBlock_17 (1 : Int32) (by decide) ?_
      refine g_goto (pc := 18) (tgt := 22) B dX4_opensBlock_18 (by decide) ?_
      obtain rfl := Option.some.inj h
      exact g_ret_Z (pc := 22) B rfl (Or.inr rfl) (by decide) (by decide) dX4_opensBlock_22
theorem ct_X4_opensBlock {D : DD} {l : Launch} {X0 : Mem} {x0 : Nat} {r : Int32} (hl : l.stackTraces = false) (h : fX4_opensBlock X0 x0 = some r) : Ctr D l yX4_opensBlock cX4_opensBlock 1 (some .boolean) rmX4_opensBlock [vA (some x0)] X0 (.inr (some (vI r))) X0 :=
  ctr_of hl (plainFor_of_name (by decide)) (Nat.le_of_ble_eq_true rfl) fun ev _ ht B => cb_X4_opensBlock_L0 B ht h
set_option maxRecDepth 100000 in
set_option maxHeartbeats 4000000 in
theorem cb_X1_append_L79 {D : DD} {ev : EV} {X0 : Mem} {X : Mem} {x0 : Nat} {x1 : Nat} {r : Mem} (B : Amb D (foot X0) ev RX1 "append" cX1_append 2 (none) rmX1_append) (ht : Tb0 ev)  (h : fX1_append_L79 X x0 x1 = some r) : Gd D (foot X0) ev (QF D ev X0 (.inr (none)) r rmX1_append) X 0 0 79 [(0, vA (some x0)), (1, vA (some x1))] [] := by
  unfold fX1_append_L79 at h
  refine g_aload_n (pc := 79) B dX1_append_79 1 rfl ?_
  obtain ⟨k80_1, h⟩ := chk h
  refine g_getIN (pc := 80) 4 0 B k80_1 (by decide) (by decide) rfl kfX1_32 dX1_append_80 ?_
  refine g_bipush (pc := 83) B dX1_append_83 (6 : Int32) (by decide) ?_
  refine g_icmp_ne (pc := 85) (tgt := 117) B dX1_append_85 (by decide) (fun c85 => ?_) (fun c85 => ?_)
  · rw [if_neg c85] at h
    obtain rfl := Option.some.inj h
    exact g_ret_V (pc := 117) B rfl (by decide) (by decide) dX1_append_117
  · rw [if_pos c85] at h
    refine g_aload_n (pc := 88) B dX1_append_88 1 rfl ?_
    refine g_getIN (pc := 89) 4 1 B k80_1 (by decide) (by decide) rfl kfX1_35 dX1_append_89 ?_
    refine g_if_lt (pc := 92) (tgt := 117) B dX1_append_92 (by decide) (fun c92 => ?_) (fun c92 => ?_)
    · rw [if_pos c92] at h
      obtain rfl := Option.some.inj h
      exact g_ret_V (pc := 117) B rfl (by decide) (by decide) dX1_append_117
    · rw [if_neg c92] at h
      refine g_aload_n (pc := 95) B dX1_append_95 1 rfl ?_
      refine g_getIN (pc := 96) 4 1 B k80_1 (by decide) (by decide) rfl kfX1_35 dX1_append_96 ?_
      refine g_aload_n (pc := 99) B dX1_append_99 0 rfl ?_
      obtain ⟨k100_2, h⟩ := chk h
      refine g_getR (pc := 100) 1 1 B k100_2 (by decide) (by decide) rfl kfX1_17 dX1_append_100 ?_
      obtain ⟨a103_3, ea103_3, h⟩ := ob h
      rw [ea103_3]
      obtain ⟨n103_3, en103_3, h⟩ := ob h
      obtain ⟨tn103_3, kn103_3, qn103_3⟩ := alen_s en103_3
      refine g_alen (pc := 103) B kn103_3 qn103_3 dX1_append_103 ?_
      refine g_icmp_ge (pc := 104) (tgt := 117) B dX1_append_104 (by decide) (fun c104 => ?_) (fun c104 => ?_)
      · rw [if_pos c104] at h
        obtain rfl := Option.some.inj h
        exact g_ret_V (pc := 117) B rfl (by decide) (by decide) dX1_append_117
      · rw [if_neg c104] at h
        refine g_aload_n (pc := 107) B dX1_append_107 0 rfl ?_
        refine g_getR (pc := 108) 1 1 B k100_2 (by decide) (by decide) rfl kfX1_17 dX1_append_108 ?_
        refine g_aload_n (pc := 111) B dX1_append_111 1 rfl ?_
        refine g_getIN (pc := 112) 4 1 B k80_1 (by decide) (by decide) rfl kfX1_35 dX1_append_112 ?_
        refine g_iconst (pc := 115) B dX1_append_115 (1 : Int32) (by decide) ?_
        obtain ⟨a116_5, ea116_5, h⟩ := ob h
        rw [ea116_5]
        obtain ⟨c116, h⟩ := chk h
        obtain ⟨nc116, kc116, ic116⟩ := inb_s c116
        refine g_zast (pc := 116) B kc116 ic116 (Or.inr rfl) dX1_append_116 ?_
        obtain rfl := Option.some.inj h
        exact g_ret_V (pc := 117) B rfl (by decide) (by decide) dX1_append_117
set_option maxRecDepth 100000 in
set_option maxHeartbeats 4000000 in
theorem cb_X1_append_L0 {D : DD} {ev : EV} {X0 : Mem} {X : Mem} {x0 : Nat} {x1 : Option Nat} {r : Mem} (B : Amb D (foot X0) ev RX1 "append" cX1_append 2 (none) rmX1_append) (ht : Tb0 ev)  (h : fX1_append X x0 x1 = some r) : Gd D (foot X0) ev (QF D ev X0 (.inr (none)) r rmX1_append) X 0 0 0 [(0, vA (some x0)), (1, vA x1)] [] := by
  unfold fX1_append at h
  refine g_aload_n (pc := 0) B dX1_append_0 0 rfl ?_
  obtain ⟨k1_1, h⟩ := chk h
  refine g_getI (pc := 1) 1 2 B k1_1 (by decide) (by decide) rfl kfX1_21 dX1_append_1 ?_
  refine g_if_lt (pc := 4) (tgt := 19) B dX1_append_4 (by decide) (fun c4 => ?_) (fun c4 => ?_)
  · rw [if_pos c4] at h
    obtain rfl := Option.some.inj h
    exact g_ret_V (pc := 19) B rfl (by decide) (by decide) dX1_append_19
  · rw [if_neg c4] at h
    refine g_aload_n (pc := 7) B dX1_append_7 0 rfl ?_
    refine g_getI (pc := 8) 1 2 B k1_1 (by decide) (by decide) rfl kfX1_21 dX1_append_8 ?_
    refine g_aload_n (pc := 11) B dX1_append_11 0 rfl ?_
    refine g_getR (pc := 12) 1 0 B k1_1 (by decide) (by decide) rfl kfX1_11 dX1_append_12 ?_
    obtain ⟨a15_2, ea15_2, h⟩ := ob h
    rw [ea15_2]
    obtain ⟨n15_2, en15_2, h⟩ := ob h
    obtain ⟨tn15_2, kn15_2, qn15_2⟩ := alen_s en15_2
    refine g_alen (pc := 15) B kn15_2 qn15_2 dX1_append_15 ?_
    refine g_icmp_lt (pc := 16) (tgt := 20) B dX1_append_16 (by decide) (fun c16 => ?_) (fun c16 => ?_)
    · rw [if_pos c16] at h
      refine g_aload_n (pc := 20) B dX1_append_20 0 rfl ?_
      refine g_getR (pc := 21) 1 0 B k1_1 (by decide) (by decide) rfl kfX1_11 dX1_append_21 ?_
      refine g_aload_n (pc := 24) B dX1_append_24 0 rfl ?_
      refine g_getI (pc := 25) 1 2 B k1_1 (by decide) (by decide) rfl kfX1_21 dX1_append_25 ?_
      refine g_aload_n (pc := 28) B dX1_append_28 1 rfl ?_
      obtain ⟨a29_4, ea29_4, h⟩ := ob h
      rw [ea29_4]
      obtain ⟨c29, h⟩ := chk h
      obtain ⟨nc29, kc29, ic29⟩ := inb_s c29
      obtain ⟨a29_5, ea29_5, h⟩ := ob h
      rw [ea29_5]
      obtain ⟨k29_6, h⟩ := chk h
      refine g_aast (pc := 29) (c := 4) B kc29 (by decide) (by decide) k29_6 (by decide) rfl ic29 dX1_append_29 ?_
      refine g_aload_n (pc := 30) B dX1_append_30 0 rfl ?_
      refine g_dup (pc := 31) B dX1_append_31 rfl ?_
      refine g_getI (pc := 32) 1 2 B k1_1 (by decide) (by decide) rfl kfX1_21 dX1_append_32 ?_
      refine g_iconst (pc := 35) B dX1_append_35 (1 : Int32) (by decide) ?_
      refine g_iadd (pc := 36) B dX1_append_36 ?_
      refine g_putI (pc := 37) 1 2 B k1_1 (by decide) (by decide) rfl rfl kfX1_21 dX1_append_37 ?_
      refine g_aload_n (pc := 40) B dX1_append_40 1 rfl ?_
      obtain ⟨v41, e41, h⟩ := ob h
      refine h_callV (pc := 41) (As := []) (st := []) (X' := (wI (sR X a29_4 (mI X 102 x0).toNatClampNeg (some a29_5)) 102 x0 ((mI (sR X a29_4 (mI X 102 x0).toNatClampNeg (some a29_5)) 102 x0) + (1 : Int32)))) (cs' := 0) (sl' := 0) (st10 := [vI v41]) B cal_X4_opensBlock kmX1_28 kn_X4_opensBlock ks_X4_opensBlock k29_6 (by decide) rfl (fun l hl => ct_X4_opensBlock hl e41) rfl (Nat.le_of_ble_eq_true rfl) (by decide) (by decide) dX1_append_41 rfl rfl rfl rfl ?_
      refine g_if_eq (pc := 44) (tgt := 60) B dX1_append_44 (by decide) (fun c44 => ?_) (fun c44 => ?_)
      · rw [if_pos c44] at h
        refine g_aload_n (pc := 60) B dX1_append_60 1 rfl ?_
        refine g_getIN (pc := 61) 4 0 B k29_6 (by decide) (by decide) rfl kfX1_32 dX1_append_61 ?_
        refine g_bipush (pc := 64) B dX1_append_64 (8 : Int32) (by decide) ?_
        refine g_icmp_ne (pc := 66) (tgt := 79) B dX1_append_66 (by decide) (fun c66 => ?_) (fun c66 => ?_)
        · rw [if_neg c66] at h
          refine g_sub (pc := 79) [0, 1] rfl ?_
          exact cb_X1_append_L79 B ht h
        · rw [if_pos c66] at h
          refine g_aload_n (pc := 69) B dX1_append_69 0 rfl ?_
          refine g_dup (pc := 70) B dX1_append_70 rfl ?_
          refine g_getI (pc := 71) 1 3 B k1_1 (by decide) (by decide) rfl kfX1_25 dX1_append_71 ?_
          refine g_iconst (pc := 74) B dX1_append_74 (1 : Int32) (by decide) ?_
          refine g_isub (pc := 75) B dX1_append_75 ?_
          refine g_putI (pc := 76) 1 3 B k1_1 (by decide) (by decide) rfl rfl kfX1_25 dX1_append_76 ?_
          refine g_sub (pc := 79) [0, 1] rfl ?_
          exact cb_X1_append_L79 B ht h
      · rw [if_neg c44] at h
        refine g_aload_n (pc := 47) B dX1_append_47 0 rfl ?_
        refine g_dup (pc := 48) B dX1_append_48 rfl ?_
        refine g_getI (pc := 49) 1 3 B k1_1 (by decide) (by decide) rfl kfX1_25 dX1_append_49 ?_
        refine g_iconst (pc := 52) B dX1_append_52 (1 : Int32) (by decide) ?_
        refine g_iadd (pc := 53) B dX1_append_53 ?_
        refine g_putI (pc := 54) 1 3 B k1_1 (by decide) (by decide) rfl rfl kfX1_25 dX1_append_54 ?_
        refine g_goto (pc := 57) (tgt := 79) B dX1_append_57 (by decide) ?_
        refine g_sub (pc := 79) [0, 1] rfl ?_
        exact cb_X1_append_L79 B ht h
    · rw [if_neg c16] at h
      obtain rfl := Option.some.inj h
      exact g_ret_V (pc := 19) B rfl (by decide) (by decide) dX1_append_19
theorem ct_X1_append {D : DD} {l : Launch} {X0 : Mem} {x0 : Nat} {x1 : Option Nat} {r : Mem} (hl : l.stackTraces = false) (h : fX1_append X0 x0 x1 = some r) : Ctr D l yX1_append cX1_append 2 (none) rmX1_append [vA (some x0), vA x1] X0 (.inr (none)) r :=
  ctr_of hl (plainFor_of_name (by decide)) (Nat.le_of_ble_eq_true rfl) fun ev _ ht B => cb_X1_append_L0 B ht h
set_option maxRecDepth 100000 in
set_option maxHeartbeats 4000000 in
theorem cb_X11_addOrder_L0 {D : DD} {ev : EV} {X0 : Mem} {x0 : Nat} {x1 : Int32} {x2 : Int32} {x3 : Int32} {x4 : Int32} {r : Int32 × Mem} (B : Amb D (foot X0) ev RX11 "addOrder" cX11_addOrder 5 (some .int) rmX11_addOrder) (ht : Tb0 ev)  (h : fX11_addOrder X0 x0 x1 x2 x3 x4 = some (.inr r)) : Gd D (foot X0) ev (QF D ev X0 (.inr (some (vI r.1))) r.2 rmX11_addOrder) X0 0 0 0 [(0, vA (some x0)), (1, vI x1), (2, vI x2), (3, vI x3), (4, vI x4)] [] := by
  unfold fX11_addOrder at h
  refine g_aload_n (pc := 0) B dX11_addOrder_0 0 rfl ?_
  obtain ⟨k1_1, h⟩ := chk h
  refine g_getR (pc := 1) 11 0 B k1_1 (by decide) (by decide) rfl kfX11_10 dX11_addOrder_1 ?_
  obtain ⟨a4_2, ea4_2, h⟩ := ob h
  rw [ea4_2]
  obtain ⟨k4_3, h⟩ := chk h
  obtain ⟨v4, e4, h⟩ := ob h
  refine h_callV (pc := 4) (As := []) (st := []) (X' := X0) (cs' := 0) (sl' := 0) (st10 := [vI v4]) B cal_X1_length kmX11_94 kn_X1_length ks_X1_length k4_3 (by decide) rfl (fun l hl => ct_X1_length hl e4) rfl (Nat.le_of_ble_eq_true rfl) (by decide) (by decide) dX11_addOrder_4 rfl rfl rfl rfl ?_
  refine g_bipush (pc := 7) B dX11_addOrder_7 (30 : Int32) (by decide) ?_
  refine g_icmp_lt (pc := 9) (tgt := 23) B dX11_addOrder_9 (by decide) (fun c9 => ?_) (fun c9 => ?_)
  · rw [if_pos c9] at h
    refine g_aload_n (pc := 23) B dX11_addOrder_23 0 rfl ?_
    refine g_getR (pc := 24) 11 0 B k1_1 (by decide) (by decide) rfl kfX11_10 dX11_addOrder_24 ?_
    obtain ⟨q27, eq27, h⟩ := ob h
    obtain ⟨X27, eX27, h⟩ := ob h
    refine n_new (pc := 27) 4 B eX27 eq27 (by decide) kxX11_274 kin4 kiz4 (by decide) (by decide) dX11_addOrder_27 ?_
    refine g_widen (cs' := 1) (sl' := 4) (by decide) (by decide) ?_
    refine g_dup (pc := 30) B dX11_addOrder_30 rfl ?_
    refine g_iload_n (pc := 31) B dX11_addOrder_31 1 rfl ?_
    refine g_iload_n (pc := 32) B dX11_addOrder_32 2 rfl ?_
    refine g_iload_n (pc := 33) B dX11_addOrder_33 3 rfl ?_
    refine g_iload (pc := 34) B dX11_addOrder_34 4 rfl ?_
    obtain ⟨X36, e36, h⟩ := ob h
    refine h_callI (pc := 36) (As := [vI x1, vI x2, vI x3, vI x4]) (st := [vA (some q27), vA (mR X0 1100 x0)]) (X' := X36) (cs' := 1) (sl' := 4) B cal_X4_init kmX11_276 kn_X4_init rfl (fun l hl => ct_X4_init hl e36) rfl (Nat.le_of_ble_eq_true rfl) (by decide) (by decide) dX11_addOrder_36 rfl rfl rfl ?_
    obtain ⟨a39_4, ea39_4, h⟩ := ob h
    rw [ea39_4]
    obtain ⟨k39_5, h⟩ := chk h
    obtain ⟨X39, e39, h⟩ := ob h
    refine h_callV (pc := 39) (As := [vA (some q27)]) (st := []) (X' := X39) (cs' := 1) (sl' := 4) (st10 := []) B cal_X1_append kmX11_279 kn_X1_append ks_X1_append k39_5 (by decide) rfl (fun l hl => ct_X1_append hl e39) rfl (Nat.le_of_ble_eq_true rfl) (by decide) (by decide) dX11_addOrder_39 rfl rfl rfl rfl ?_
    refine g_aload_n (pc := 42) B dX11_addOrder_42 0 rfl ?_
    obtain ⟨k43_6, h⟩ := chk h
    refine g_getR (pc := 43) 11 0 B k43_6 (by decide) (by decide) rfl kfX11_10 dX11_addOrder_43 ?_
    obtain ⟨a46_7, ea46_7, h⟩ := ob h
    rw [ea46_7]
    obtain ⟨k46_8, h⟩ := chk h
    obtain ⟨v46, e46, h⟩ := ob h
    refine h_callV (pc := 46) (As := []) (st := []) (X' := X39) (cs' := 1) (sl' := 4) (st10 := [vI v46]) B cal_X1_length kmX11_94 kn_X1_length ks_X1_length k46_8 (by decide) rfl (fun l hl => ct_X1_length hl e46) rfl (Nat.le_of_ble_eq_true rfl) (by decide) (by decide) dX11_addOrder_46 rfl rfl rfl rfl ?_
    obtain rfl := Sum.inr.inj (Option.some.inj h)
    exact g_ret_I (pc := 49) B rfl (by decide) (by decide) dX11_addOrder_49
  · rw [if_neg c9] at h
    exact nomatch (Option.some.inj h)
theorem ct_X11_addOrder {D : DD} {l : Launch} {X0 : Mem} {x0 : Nat} {x1 : Int32} {x2 : Int32} {x3 : Int32} {x4 : Int32} {r : Int32 × Mem} (hl : l.stackTraces = false) (h : fX11_addOrder X0 x0 x1 x2 x3 x4 = some (.inr r)) : Ctr D l yX11_addOrder cX11_addOrder 5 (some .int) rmX11_addOrder [vA (some x0), vI x1, vI x2, vI x3, vI x4] X0 (.inr (some (vI r.1))) r.2 :=
  ctr_of hl (plainFor_of_name (by decide)) (Nat.le_of_ble_eq_true rfl) fun ev _ ht B => cb_X11_addOrder_L0 B ht h
set_option maxRecDepth 100000 in
set_option maxHeartbeats 4000000 in
theorem cb_X11_forward_L0 {D : DD} {ev : EV} {X0 : Mem} {x0 : Nat} {x1 : Int32} {x2 : Int32} {r : Int32 × Mem} (B : Amb D (foot X0) ev RX11 "forward" cX11_forward 3 (some .int) rmX11_forward) (ht : Tb0 ev)  (h : fX11_forward X0 x0 x1 x2 = some (.inr r)) : Gd D (foot X0) ev (QF D ev X0 (.inr (some (vI r.1))) r.2 rmX11_forward) X0 0 0 0 [(0, vA (some x0)), (1, vI x1), (2, vI x2)] [] := by
  unfold fX11_forward at h
  refine g_iload_n (pc := 0) B dX11_forward_0 1 rfl ?_
  refine g_iload_n (pc := 1) B dX11_forward_1 2 rfl ?_
  refine g_iconst (pc := 2) B dX11_forward_2 (0 : Int32) (by decide) ?_
  rcases bE_c h with ⟨E3, e3, hr3⟩ | ⟨v3, e3, h⟩
  · exact nomatch hr3
  refine h_callS (pc := 3) (As := [vI x1, vI x2, vI (0 : Int32)]) (st := []) (X' := X0) (cs' := 0) (sl' := 0) (st10 := []) B cal_X11_checkValue kmX11_62 kz_X11_checkValue (fun l hl => ct_X11_checkValue hl e3) rfl (Nat.le_of_ble_eq_true rfl) (by decide) (by decide) dX11_forward_3 rfl rfl rfl rfl ?_
  refine g_aload_n (pc := 6) B dX11_forward_6 0 rfl ?_
  refine g_iconst (pc := 7) B dX11_forward_7 (0 : Int32) (by decide) ?_
  refine g_iconst (pc := 8) B dX11_forward_8 (0 : Int32) (by decide) ?_
  refine g_iload_n (pc := 9) B dX11_forward_9 1 rfl ?_
  refine g_iload_n (pc := 10) B dX11_forward_10 2 rfl ?_
  obtain ⟨k11_1, h⟩ := chk h
  rcases bEW_c h with ⟨E11, e11, hr11⟩ | ⟨v11, X11, e11, h⟩
  · exact nomatch hr11
  refine h_callV (pc := 11) (As := [vI (0 : Int32), vI (0 : Int32), vI x1, vI x2]) (st := []) (X' := X11) (cs' := 1) (sl' := 4) (st10 := [vI v11]) B cal_X11_addOrder kmX11_66 kn_X11_addOrder ks_X11_addOrder k11_1 (by decide) rfl (fun l hl => ct_X11_addOrder hl e11) rfl (Nat.le_of_ble_eq_true rfl) (by decide) (by decide) dX11_forward_11 rfl rfl rfl rfl ?_
  obtain rfl := Sum.inr.inj (Option.some.inj h)
  exact g_ret_I (pc := 14) B rfl (by decide) (by decide) dX11_forward_14
theorem ct_X11_forward {D : DD} {l : Launch} {X0 : Mem} {x0 : Nat} {x1 : Int32} {x2 : Int32} {r : Int32 × Mem} (hl : l.stackTraces = false) (h : fX11_forward X0 x0 x1 x2 = some (.inr r)) : Ctr D l yX11_forward cX11_forward 3 (some .int) rmX11_forward [vA (some x0), vI x1, vI x2] X0 (.inr (some (vI r.1))) r.2 :=
  ctr_of hl (plainFor_of_name (by decide)) (Nat.le_of_ble_eq_true rfl) fun ev _ ht B => cb_X11_forward_L0 B ht h
set_option maxRecDepth 100000 in
set_option maxHeartbeats 4000000 in
theorem cb_X11_turn_L0 {D : DD} {ev : EV} {X0 : Mem} {x0 : Nat} {x1 : Int32} {x2 : Int32} {r : Int32 × Mem} (B : Amb D (foot X0) ev RX11 "turn" cX11_turn 3 (some .int) rmX11_turn) (ht : Tb0 ev)  (h : fX11_turn X0 x0 x1 x2 = some (.inr r)) : Gd D (foot X0) ev (QF D ev X0 (.inr (some (vI r.1))) r.2 rmX11_turn) X0 0 0 0 [(0, vA (some x0)), (1, vI x1), (2, vI x2)] [] := by
  unfold fX11_turn at h
  refine g_iload_n (pc := 0) B dX11_turn_0 1 rfl ?_
  refine g_iload_n (pc := 1) B dX11_turn_1 2 rfl ?_
  refine g_iconst (pc := 2) B dX11_turn_2 (0 : Int32) (by decide) ?_
  rcases bE_c h with ⟨E3, e3, hr3⟩ | ⟨v3, e3, h⟩
  · exact nomatch hr3
  refine h_callS (pc := 3) (As := [vI x1, vI x2, vI (0 : Int32)]) (st := []) (X' := X0) (cs' := 0) (sl' := 0) (st10 := []) B cal_X11_checkValue kmX11_62 kz_X11_checkValue (fun l hl => ct_X11_checkValue hl e3) rfl (Nat.le_of_ble_eq_true rfl) (by decide) (by decide) dX11_turn_3 rfl rfl rfl rfl ?_
  refine g_aload_n (pc := 6) B dX11_turn_6 0 rfl ?_
  refine g_iconst (pc := 7) B dX11_turn_7 (1 : Int32) (by decide) ?_
  refine g_iconst (pc := 8) B dX11_turn_8 (0 : Int32) (by decide) ?_
  refine g_iload_n (pc := 9) B dX11_turn_9 1 rfl ?_
  refine g_iload_n (pc := 10) B dX11_turn_10 2 rfl ?_
  obtain ⟨k11_1, h⟩ := chk h
  rcases bEW_c h with ⟨E11, e11, hr11⟩ | ⟨v11, X11, e11, h⟩
  · exact nomatch hr11
  refine h_callV (pc := 11) (As := [vI (1 : Int32), vI (0 : Int32), vI x1, vI x2]) (st := []) (X' := X11) (cs' := 1) (sl' := 4) (st10 := [vI v11]) B cal_X11_addOrder kmX11_66 kn_X11_addOrder ks_X11_addOrder k11_1 (by decide) rfl (fun l hl => ct_X11_addOrder hl e11) rfl (Nat.le_of_ble_eq_true rfl) (by decide) (by decide) dX11_turn_11 rfl rfl rfl rfl ?_
  obtain rfl := Sum.inr.inj (Option.some.inj h)
  exact g_ret_I (pc := 14) B rfl (by decide) (by decide) dX11_turn_14
theorem ct_X11_turn {D : DD} {l : Launch} {X0 : Mem} {x0 : Nat} {x1 : Int32} {x2 : Int32} {r : Int32 × Mem} (hl : l.stackTraces = false) (h : fX11_turn X0 x0 x1 x2 = some (.inr r)) : Ctr D l yX11_turn cX11_turn 3 (some .int) rmX11_turn [vA (some x0), vI x1, vI x2] X0 (.inr (some (vI r.1))) r.2 :=
  ctr_of hl (plainFor_of_name (by decide)) (Nat.le_of_ble_eq_true rfl) fun ev _ ht B => cb_X11_turn_L0 B ht h
set_option maxRecDepth 100000 in
set_option maxHeartbeats 4000000 in
theorem cb_X11_pen_L12 {D : DD} {ev : EV} {X0 : Mem} {s0 : Nat} {s1 : Int32} {s2 : Int32} {s3 : Int32} {r : Int32 × Mem} (B : Amb D (foot X0) ev RX11 "pen" cX11_pen 2 (some .int) rmX11_pen) (ht : Tb0 ev)  (h : fX11_pen_L12 X0 s0 s1 s2 s3 = some (.inr r)) : Gd D (foot X0) ev (QF D ev X0 (.inr (some (vI r.1))) r.2 rmX11_pen) X0 0 0 12 [] [vI s3, vI s2, vI s1, vA (some s0)] := by
  unfold fX11_pen_L12 at h
  refine g_iconst (pc := 12) B dX11_pen_12 (0 : Int32) (by decide) ?_
  obtain ⟨k13_1, h⟩ := chk h
  rcases bEW_c h with ⟨E13, e13, hr13⟩ | ⟨v13, X13, e13, h⟩
  · exact nomatch hr13
  refine h_callV (pc := 13) (As := [vI s1, vI s2, vI s3, vI (0 : Int32)]) (st := []) (X' := X13) (cs' := 1) (sl' := 4) (st10 := [vI v13]) B cal_X11_addOrder kmX11_66 kn_X11_addOrder ks_X11_addOrder k13_1 (by decide) rfl (fun l hl => ct_X11_addOrder hl e13) rfl (Nat.le_of_ble_eq_true rfl) (by decide) (by decide) dX11_pen_13 rfl rfl rfl rfl ?_
  obtain rfl := Sum.inr.inj (Option.some.inj h)
  exact g_ret_I (pc := 16) B rfl (by decide) (by decide) dX11_pen_16
set_option maxRecDepth 100000 in
set_option maxHeartbeats 4000000 in
theorem cb_X11_pen_L0 {D : DD} {ev : EV} {X0 : Mem} {x0 : Nat} {x1 : Int32} {r : Int32 × Mem} (B : Amb D (foot X0) ev RX11 "pen" cX11_pen 2 (some .int) rmX11_pen) (ht : Tb0 ev)  (h : fX11_pen X0 x0 x1 = some (.inr r)) : Gd D (foot X0) ev (QF D ev X0 (.inr (some (vI r.1))) r.2 rmX11_pen) X0 0 0 0 [(0, vA (some x0)), (1, vI x1)] [] := by
  unfold fX11_pen at h
  refine g_aload_n (pc := 0) B dX11_pen_0 0 rfl ?_
  refine g_iconst (pc := 1) B dX11_pen_1 (2 : Int32) (by decide) ?_
  refine g_iconst (pc := 2) B dX11_pen_2 (0 : Int32) (by decide) ?_
  refine g_iload_n (pc := 3) B dX11_pen_3 1 rfl ?_
  refine g_if_eq (pc := 4) (tgt := 11) B dX11_pen_4 (by decide) (fun c4 => ?_) (fun c4 => ?_)
  · rw [if_pos c4] at h
    refine g_iconst (pc := 11) B dX11_pen_11 (0 : Int32) (by decide) ?_
    refine g_sub (pc := 12) [] rfl ?_
    exact cb_X11_pen_L12 B ht h
  · rw [if_neg c4] at h
    refine g_iconst (pc := 7) B dX11_pen_7 (1 : Int32) (by decide) ?_
    refine g_goto (pc := 8) (tgt := 12) B dX11_pen_8 (by decide) ?_
    refine g_sub (pc := 12) [] rfl ?_
    exact cb_X11_pen_L12 B ht h
theorem ct_X11_pen {D : DD} {l : Launch} {X0 : Mem} {x0 : Nat} {x1 : Int32} {r : Int32 × Mem} (hl : l.stackTraces = false) (h : fX11_pen X0 x0 x1 = some (.inr r)) : Ctr D l yX11_pen cX11_pen 2 (some .int) rmX11_pen [vA (some x0), vI x1] X0 (.inr (some (vI r.1))) r.2 :=
  ctr_of hl (plainFor_of_name (by decide)) (Nat.le_of_ble_eq_true rfl) fun ev _ ht B => cb_X11_pen_L0 B ht h
set_option maxRecDepth 100000 in
set_option maxHeartbeats 4000000 in
theorem cb_X11_set_L0 {D : DD} {ev : EV} {X0 : Mem} {x0 : Nat} {x1 : Int32} {x2 : Int32} {x3 : Int32} {r : Int32 × Mem} (B : Amb D (foot X0) ev RX11 "set" cX11_set 4 (some .int) rmX11_set) (ht : Tb0 ev)  (h : fX11_set X0 x0 x1 x2 x3 = some (.inr r)) : Gd D (foot X0) ev (QF D ev X0 (.inr (some (vI r.1))) r.2 rmX11_set) X0 0 0 0 [(0, vA (some x0)), (1, vI x1), (2, vI x2), (3, vI x3)] [] := by
  unfold fX11_set at h
  refine g_iload_n (pc := 0) B dX11_set_0 1 rfl ?_
  rcases bE_c h with ⟨E1, e1, hr1⟩ | ⟨v1, e1, h⟩
  · exact nomatch hr1
  refine h_callS (pc := 1) (As := [vI x1]) (st := []) (X' := X0) (cs' := 0) (sl' := 0) (st10 := []) B cal_X11_checkName kmX11_70 kz_X11_checkName (fun l hl => ct_X11_checkName hl e1) rfl (Nat.le_of_ble_eq_true rfl) (by decide) (by decide) dX11_set_1 rfl rfl rfl rfl ?_
  refine g_iload_n (pc := 4) B dX11_set_4 2 rfl ?_
  refine g_iload_n (pc := 5) B dX11_set_5 3 rfl ?_
  refine g_bipush (pc := 6) B dX11_set_6 (-99) (by decide) ?_
  rcases bE_c h with ⟨E8, e8, hr8⟩ | ⟨v8, e8, h⟩
  · exact nomatch hr8
  refine h_callS (pc := 8) (As := [vI x2, vI x3, vI (-99)]) (st := []) (X' := X0) (cs' := 0) (sl' := 0) (st10 := []) B cal_X11_checkValue kmX11_62 kz_X11_checkValue (fun l hl => ct_X11_checkValue hl e8) rfl (Nat.le_of_ble_eq_true rfl) (by decide) (by decide) dX11_set_8 rfl rfl rfl rfl ?_
  refine g_aload_n (pc := 11) B dX11_set_11 0 rfl ?_
  refine g_iconst (pc := 12) B dX11_set_12 (3 : Int32) (by decide) ?_
  refine g_iload_n (pc := 13) B dX11_set_13 1 rfl ?_
  refine g_iload_n (pc := 14) B dX11_set_14 2 rfl ?_
  refine g_iload_n (pc := 15) B dX11_set_15 3 rfl ?_
  obtain ⟨k16_1, h⟩ := chk h
  rcases bEW_c h with ⟨E16, e16, hr16⟩ | ⟨v16, X16, e16, h⟩
  · exact nomatch hr16
  refine h_callV (pc := 16) (As := [vI (3 : Int32), vI x1, vI x2, vI x3]) (st := []) (X' := X16) (cs' := 1) (sl' := 4) (st10 := [vI v16]) B cal_X11_addOrder kmX11_66 kn_X11_addOrder ks_X11_addOrder k16_1 (by decide) rfl (fun l hl => ct_X11_addOrder hl e16) rfl (Nat.le_of_ble_eq_true rfl) (by decide) (by decide) dX11_set_16 rfl rfl rfl rfl ?_
  obtain rfl := Sum.inr.inj (Option.some.inj h)
  exact g_ret_I (pc := 19) B rfl (by decide) (by decide) dX11_set_19
theorem ct_X11_set {D : DD} {l : Launch} {X0 : Mem} {x0 : Nat} {x1 : Int32} {x2 : Int32} {x3 : Int32} {r : Int32 × Mem} (hl : l.stackTraces = false) (h : fX11_set X0 x0 x1 x2 x3 = some (.inr r)) : Ctr D l yX11_set cX11_set 4 (some .int) rmX11_set [vA (some x0), vI x1, vI x2, vI x3] X0 (.inr (some (vI r.1))) r.2 :=
  ctr_of hl (plainFor_of_name (by decide)) (Nat.le_of_ble_eq_true rfl) fun ev _ ht B => cb_X11_set_L0 B ht h
set_option maxRecDepth 100000 in
set_option maxHeartbeats 4000000 in
theorem cb_X11_add_L0 {D : DD} {ev : EV} {X0 : Mem} {x0 : Nat} {x1 : Int32} {x2 : Int32} {x3 : Int32} {r : Int32 × Mem} (B : Amb D (foot X0) ev RX11 "add" cX11_add 4 (some .int) rmX11_add) (ht : Tb0 ev)  (h : fX11_add X0 x0 x1 x2 x3 = some (.inr r)) : Gd D (foot X0) ev (QF D ev X0 (.inr (some (vI r.1))) r.2 rmX11_add) X0 0 0 0 [(0, vA (some x0)), (1, vI x1), (2, vI x2), (3, vI x3)] [] := by
  unfold fX11_add at h
  refine g_iload_n (pc := 0) B dX11_add_0 1 rfl ?_
  rcases bE_c h with ⟨E1, e1, hr1⟩ | ⟨v1, e1, h⟩
  · exact nomatch hr1
  refine h_callS (pc := 1) (As := [vI x1]) (st := []) (X' := X0) (cs' := 0) (sl' := 0) (st10 := []) B cal_X11_checkName kmX11_70 kz_X11_checkName (fun l hl => ct_X11_checkName hl e1) rfl (Nat.le_of_ble_eq_true rfl) (by decide) (by decide) dX11_add_1 rfl rfl rfl rfl ?_
  refine g_iload_n (pc := 4) B dX11_add_4 2 rfl ?_
  refine g_iload_n (pc := 5) B dX11_add_5 3 rfl ?_
  refine g_bipush (pc := 6) B dX11_add_6 (-99) (by decide) ?_
  rcases bE_c h with ⟨E8, e8, hr8⟩ | ⟨v8, e8, h⟩
  · exact nomatch hr8
  refine h_callS (pc := 8) (As := [vI x2, vI x3, vI (-99)]) (st := []) (X' := X0) (cs' := 0) (sl' := 0) (st10 := []) B cal_X11_checkValue kmX11_62 kz_X11_checkValue (fun l hl => ct_X11_checkValue hl e8) rfl (Nat.le_of_ble_eq_true rfl) (by decide) (by decide) dX11_add_8 rfl rfl rfl rfl ?_
  refine g_aload_n (pc := 11) B dX11_add_11 0 rfl ?_
  refine g_iconst (pc := 12) B dX11_add_12 (4 : Int32) (by decide) ?_
  refine g_iload_n (pc := 13) B dX11_add_13 1 rfl ?_
  refine g_iload_n (pc := 14) B dX11_add_14 2 rfl ?_
  refine g_iload_n (pc := 15) B dX11_add_15 3 rfl ?_
  obtain ⟨k16_1, h⟩ := chk h
  rcases bEW_c h with ⟨E16, e16, hr16⟩ | ⟨v16, X16, e16, h⟩
  · exact nomatch hr16
  refine h_callV (pc := 16) (As := [vI (4 : Int32), vI x1, vI x2, vI x3]) (st := []) (X' := X16) (cs' := 1) (sl' := 4) (st10 := [vI v16]) B cal_X11_addOrder kmX11_66 kn_X11_addOrder ks_X11_addOrder k16_1 (by decide) rfl (fun l hl => ct_X11_addOrder hl e16) rfl (Nat.le_of_ble_eq_true rfl) (by decide) (by decide) dX11_add_16 rfl rfl rfl rfl ?_
  obtain rfl := Sum.inr.inj (Option.some.inj h)
  exact g_ret_I (pc := 19) B rfl (by decide) (by decide) dX11_add_19
theorem ct_X11_add {D : DD} {l : Launch} {X0 : Mem} {x0 : Nat} {x1 : Int32} {x2 : Int32} {x3 : Int32} {r : Int32 × Mem} (hl : l.stackTraces = false) (h : fX11_add X0 x0 x1 x2 x3 = some (.inr r)) : Ctr D l yX11_add cX11_add 4 (some .int) rmX11_add [vA (some x0), vI x1, vI x2, vI x3] X0 (.inr (some (vI r.1))) r.2 :=
  ctr_of hl (plainFor_of_name (by decide)) (Nat.le_of_ble_eq_true rfl) fun ev _ ht B => cb_X11_add_L0 B ht h
set_option maxRecDepth 100000 in
set_option maxHeartbeats 4000000 in
theorem cb_X11_repeat_L0 {D : DD} {ev : EV} {X0 : Mem} {x0 : Nat} {x1 : Int32} {x2 : Int32} {r : Int32 × Mem} (B : Amb D (foot X0) ev RX11 "repeat" cX11_repeat 3 (some .int) rmX11_repeat) (ht : Tb0 ev)  (h : fX11_repeat X0 x0 x1 x2 = some (.inr r)) : Gd D (foot X0) ev (QF D ev X0 (.inr (some (vI r.1))) r.2 rmX11_repeat) X0 0 0 0 [(0, vA (some x0)), (1, vI x1), (2, vI x2)] [] := by
  unfold fX11_repeat at h
  refine g_iload_n (pc := 0) B dX11_repeat_0 1 rfl ?_
  refine g_iload_n (pc := 1) B dX11_repeat_1 2 rfl ?_
  refine g_iconst (pc := 2) B dX11_repeat_2 (0 : Int32) (by decide) ?_
  rcases bE_c h with ⟨E3, e3, hr3⟩ | ⟨v3, e3, h⟩
  · exact nomatch hr3
  refine h_callS (pc := 3) (As := [vI x1, vI x2, vI (0 : Int32)]) (st := []) (X' := X0) (cs' := 0) (sl' := 0) (st10 := []) B cal_X11_checkValue kmX11_62 kz_X11_checkValue (fun l hl => ct_X11_checkValue hl e3) rfl (Nat.le_of_ble_eq_true rfl) (by decide) (by decide) dX11_repeat_3 rfl rfl rfl rfl ?_
  refine g_aload_n (pc := 6) B dX11_repeat_6 0 rfl ?_
  refine g_iconst (pc := 7) B dX11_repeat_7 (5 : Int32) (by decide) ?_
  refine g_iconst (pc := 8) B dX11_repeat_8 (0 : Int32) (by decide) ?_
  refine g_iload_n (pc := 9) B dX11_repeat_9 1 rfl ?_
  refine g_iload_n (pc := 10) B dX11_repeat_10 2 rfl ?_
  obtain ⟨k11_1, h⟩ := chk h
  rcases bEW_c h with ⟨E11, e11, hr11⟩ | ⟨v11, X11, e11, h⟩
  · exact nomatch hr11
  refine h_callV (pc := 11) (As := [vI (5 : Int32), vI (0 : Int32), vI x1, vI x2]) (st := []) (X' := X11) (cs' := 1) (sl' := 4) (st10 := [vI v11]) B cal_X11_addOrder kmX11_66 kn_X11_addOrder ks_X11_addOrder k11_1 (by decide) rfl (fun l hl => ct_X11_addOrder hl e11) rfl (Nat.le_of_ble_eq_true rfl) (by decide) (by decide) dX11_repeat_11 rfl rfl rfl rfl ?_
  obtain rfl := Sum.inr.inj (Option.some.inj h)
  exact g_ret_I (pc := 14) B rfl (by decide) (by decide) dX11_repeat_14
theorem ct_X11_repeat {D : DD} {l : Launch} {X0 : Mem} {x0 : Nat} {x1 : Int32} {x2 : Int32} {r : Int32 × Mem} (hl : l.stackTraces = false) (h : fX11_repeat X0 x0 x1 x2 = some (.inr r)) : Ctr D l yX11_repeat cX11_repeat 3 (some .int) rmX11_repeat [vA (some x0), vI x1, vI x2] X0 (.inr (some (vI r.1))) r.2 :=
  ctr_of hl (plainFor_of_name (by decide)) (Nat.le_of_ble_eq_true rfl) fun ev _ ht B => cb_X11_repeat_L0 B ht h
set_option maxRecDepth 100000 in
set_option maxHeartbeats 4000000 in
theorem cb_X11_checkWord_L0 {D : DD} {ev : EV} {X0 : Mem} {x0 : Int32} {r : Unit} (B : Amb D (foot X0) ev RX11 "checkWord" cX11_checkWord 1 (none) rmX11_checkWord) (ht : Tb0 ev)  (h : fX11_checkWord X0 x0 = some (.inr r)) : Gd D (foot X0) ev (QF D ev X0 (.inr (none)) X0 rmX11_checkWord) X0 0 0 0 [(0, vI x0)] [] := by
  unfold fX11_checkWord at h
  refine g_iload_n (pc := 0) B dX11_checkWord_0 0 rfl ?_
  refine g_if_lt (pc := 1) (tgt := 9) B dX11_checkWord_1 (by decide) (fun c1 => ?_) (fun c1 => ?_)
  · rw [if_pos c1] at h
    exact nomatch (Option.some.inj h)
  · rw [if_neg c1] at h
    refine g_iload_n (pc := 4) B dX11_checkWord_4 0 rfl ?_
    refine g_iconst (pc := 5) B dX11_checkWord_5 (4 : Int32) (by decide) ?_
    refine g_icmp_lt (pc := 6) (tgt := 20) B dX11_checkWord_6 (by decide) (fun c6 => ?_) (fun c6 => ?_)
    · rw [if_pos c6] at h
      obtain rfl := Sum.inr.inj (Option.some.inj h)
      exact g_ret_V (pc := 20) B rfl (by decide) (by decide) dX11_checkWord_20
    · rw [if_neg c6] at h
      exact nomatch (Option.some.inj h)
theorem ct_X11_checkWord {D : DD} {l : Launch} {X0 : Mem} {x0 : Int32} {r : Unit} (hl : l.stackTraces = false) (h : fX11_checkWord X0 x0 = some (.inr r)) : Ctr D l yX11_checkWord cX11_checkWord 1 (none) rmX11_checkWord [vI x0] X0 (.inr (none)) X0 :=
  ctr_of hl (plainFor_of_name (by decide)) (Nat.le_of_ble_eq_true rfl) fun ev _ ht B => cb_X11_checkWord_L0 B ht h
set_option maxRecDepth 100000 in
set_option maxHeartbeats 4000000 in
theorem cb_X1_openBlocks_L0 {D : DD} {ev : EV} {X0 : Mem} {x0 : Nat} {r : Int32} (B : Amb D (foot X0) ev RX1 "openBlocks" cX1_openBlocks 1 (some .int) rmX1_openBlocks) (ht : Tb0 ev)  (h : fX1_openBlocks X0 x0 = some r) : Gd D (foot X0) ev (QF D ev X0 (.inr (some (vI r))) X0 rmX1_openBlocks) X0 0 0 0 [(0, vA (some x0))] [] := by
  unfold fX1_openBlocks at h
  refine g_aload_n (pc := 0) B dX1_openBlocks_0 0 rfl ?_
  obtain ⟨k1_1, h⟩ := chk h
  refine g_getI (pc := 1) 1 3 B k1_1 (by decide) (by decide) rfl kfX1_25 dX1_openBlocks_1 ?_
  obtain rfl := Option.some.inj h
  exact g_ret_I (pc := 4) B rfl (by decide) (by decide) dX1_openBlocks_4
theorem ct_X1_openBlocks {D : DD} {l : Launch} {X0 : Mem} {x0 : Nat} {r : Int32} (hl : l.stackTraces = false) (h : fX1_openBlocks X0 x0 = some r) : Ctr D l yX1_openBlocks cX1_openBlocks 1 (some .int) rmX1_openBlocks [vA (some x0)] X0 (.inr (some (vI r))) X0 :=
  ctr_of hl (plainFor_of_name (by decide)) (Nat.le_of_ble_eq_true rfl) fun ev _ ht B => cb_X1_openBlocks_L0 B ht h
set_option maxRecDepth 100000 in
set_option maxHeartbeats 4000000 in
theorem cb_X1_tells_L0 {D : DD} {ev : EV} {X0 : Mem} {x0 : Nat} {x1 : Int32} {r : Int32} (B : Amb D (foot X0) ev RX1 "tells" cX1_tells 2 (some .boolean) rmX1_tells) (ht : Tb0 ev)  (h : fX1_tells X0 x0 x1 = some r) : Gd D (foot X0) ev (QF D ev X0 (.inr (some (vI r))) X0 rmX1_tells) X0 0 0 0 [(0, vA (some x0)), (1, vI x1)] [] := by
  unfold fX1_tells at h
  refine g_iload_n (pc := 0) B dX1_tells_0 1 rfl ?_
  refine g_if_lt (pc := 1) (tgt := 26) B dX1_tells_1 (by decide) (fun c1 => ?_) (fun c1 => ?_)
  · rw [if_pos c1] at h
    refine g_iconst (pc := 26) B dX1_tells_26 (0 : Int32) (by decide) ?_
    obtain rfl := Option.some.inj h
    exact g_ret_Z (pc := 27) B rfl (Or.inl rfl) (by decide) (by decide) dX1_tells_27
  · rw [if_neg c1] at h
    refine g_iload_n (pc := 4) B dX1_tells_4 1 rfl ?_
    refine g_aload_n (pc := 5) B dX1_tells_5 0 rfl ?_
    obtain ⟨k6_1, h⟩ := chk h
    refine g_getR (pc := 6) 1 1 B k6_1 (by decide) (by decide) rfl kfX1_17 dX1_tells_6 ?_
    obtain ⟨a9_2, ea9_2, h⟩ := ob h
    rw [ea9_2]
    obtain ⟨n9_2, en9_2, h⟩ := ob h
    obtain ⟨tn9_2, kn9_2, qn9_2⟩ := alen_s en9_2
    refine g_alen (pc := 9) B kn9_2 qn9_2 dX1_tells_9 ?_
    refine g_icmp_ge (pc := 10) (tgt := 26) B dX1_tells_10 (by decide) (fun c10 => ?_) (fun c10 => ?_)
    · rw [if_pos c10] at h
      refine g_iconst (pc := 26) B dX1_tells_26 (0 : Int32) (by decide) ?_
      obtain rfl := Option.some.inj h
      exact g_ret_Z (pc := 27) B rfl (Or.inl rfl) (by decide) (by decide) dX1_tells_27
    · rw [if_neg c10] at h
      refine g_aload_n (pc := 13) B dX1_tells_13 0 rfl ?_
      refine g_getR (pc := 14) 1 1 B k6_1 (by decide) (by decide) rfl kfX1_17 dX1_tells_14 ?_
      refine g_iload_n (pc := 17) B dX1_tells_17 1 rfl ?_
      obtain ⟨a18_4, ea18_4, h⟩ := ob h
      rw [ea18_4]
      obtain ⟨c18, h⟩ := chk h
      obtain ⟨nc18, kc18, ic18⟩ := inb_s c18
      refine g_zald (pc := 18) B kc18 ic18 dX1_tells_18 ?_
      refine g_if_eq (pc := 19) (tgt := 26) B dX1_tells_19 (by decide) (fun c19 => ?_) (fun c19 => ?_)
      · rw [if_pos c19] at h
        refine g_iconst (pc := 26) B dX1_tells_26 (0 : Int32) (by decide) ?_
        obtain rfl := Option.some.inj h
        exact g_ret_Z (pc := 27) B rfl (Or.inl rfl) (by decide) (by decide) dX1_tells_27
      · rw [if_neg c19] at h
        refine g_iconst (pc := 22) B dX1_tells_22 (1 : Int32) (by decide) ?_
        refine g_goto (pc := 23) (tgt := 27) B dX1_tells_23 (by decide) ?_
        obtain rfl := Option.some.inj h
        exact g_ret_Z (pc := 27) B rfl (Or.inr rfl) (by decide) (by decide) dX1_tells_27
theorem ct_X1_tells {D : DD} {l : Launch} {X0 : Mem} {x0 : Nat} {x1 : Int32} {r : Int32} (hl : l.stackTraces = false) (h : fX1_tells X0 x0 x1 = some r) : Ctr D l yX1_tells cX1_tells 2 (some .boolean) rmX1_tells [vA (some x0), vI x1] X0 (.inr (some (vI r))) X0 :=
  ctr_of hl (plainFor_of_name (by decide)) (Nat.le_of_ble_eq_true rfl) fun ev _ ht B => cb_X1_tells_L0 B ht h
set_option maxRecDepth 100000 in
set_option maxHeartbeats 4000000 in
theorem cb_X11_word_L0 {D : DD} {ev : EV} {X0 : Mem} {x0 : Nat} {x1 : Int32} {r : Int32 × Mem} (B : Amb D (foot X0) ev RX11 "word" cX11_word 2 (some .int) rmX11_word) (ht : Tb0 ev)  (h : fX11_word X0 x0 x1 = some (.inr r)) : Gd D (foot X0) ev (QF D ev X0 (.inr (some (vI r.1))) r.2 rmX11_word) X0 0 0 0 [(0, vA (some x0)), (1, vI x1)] [] := by
  unfold fX11_word at h
  refine g_iload_n (pc := 0) B dX11_word_0 1 rfl ?_
  rcases bE_c h with ⟨E1, e1, hr1⟩ | ⟨v1, e1, h⟩
  · exact nomatch hr1
  refine h_callS (pc := 1) (As := [vI x1]) (st := []) (X' := X0) (cs' := 0) (sl' := 0) (st10 := []) B cal_X11_checkWord kmX11_74 kz_X11_checkWord (fun l hl => ct_X11_checkWord hl e1) rfl (Nat.le_of_ble_eq_true rfl) (by decide) (by decide) dX11_word_1 rfl rfl rfl rfl ?_
  refine g_aload_n (pc := 4) B dX11_word_4 0 rfl ?_
  obtain ⟨k5_1, h⟩ := chk h
  refine g_getR (pc := 5) 11 0 B k5_1 (by decide) (by decide) rfl kfX11_10 dX11_word_5 ?_
  obtain ⟨a8_2, ea8_2, h⟩ := ob h
  rw [ea8_2]
  obtain ⟨k8_3, h⟩ := chk h
  obtain ⟨v8, e8, h⟩ := ob h
  refine h_callV (pc := 8) (As := []) (st := []) (X' := X0) (cs' := 0) (sl' := 0) (st10 := [vI v8]) B cal_X1_openBlocks kmX11_77 kn_X1_openBlocks ks_X1_openBlocks k8_3 (by decide) rfl (fun l hl => ct_X1_openBlocks hl e8) rfl (Nat.le_of_ble_eq_true rfl) (by decide) (by decide) dX11_word_8 rfl rfl rfl rfl ?_
  refine g_if_gt (pc := 11) (tgt := 25) B dX11_word_11 (by decide) (fun c11 => ?_) (fun c11 => ?_)
  · rw [if_pos c11] at h
    exact nomatch (Option.some.inj h)
  · rw [if_neg c11] at h
    refine g_aload_n (pc := 14) B dX11_word_14 0 rfl ?_
    refine g_getR (pc := 15) 11 0 B k5_1 (by decide) (by decide) rfl kfX11_10 dX11_word_15 ?_
    refine g_iload_n (pc := 18) B dX11_word_18 1 rfl ?_
    obtain ⟨a19_4, ea19_4, h⟩ := ob h
    rw [ea19_4]
    obtain ⟨k19_5, h⟩ := chk h
    obtain ⟨v19, e19, h⟩ := ob h
    refine h_callV (pc := 19) (As := [vI x1]) (st := []) (X' := X0) (cs' := 0) (sl' := 0) (st10 := [vI v19]) B cal_X1_tells kmX11_81 kn_X1_tells ks_X1_tells k19_5 (by decide) rfl (fun l hl => ct_X1_tells hl e19) rfl (Nat.le_of_ble_eq_true rfl) (by decide) (by decide) dX11_word_19 rfl rfl rfl rfl ?_
    refine g_if_eq (pc := 22) (tgt := 35) B dX11_word_22 (by decide) (fun c22 => ?_) (fun c22 => ?_)
    · rw [if_pos c22] at h
      refine g_aload_n (pc := 35) B dX11_word_35 0 rfl ?_
      refine g_bipush (pc := 36) B dX11_word_36 (6 : Int32) (by decide) ?_
      refine g_iload_n (pc := 38) B dX11_word_38 1 rfl ?_
      refine g_iconst (pc := 39) B dX11_word_39 (0 : Int32) (by decide) ?_
      refine g_iconst (pc := 40) B dX11_word_40 (0 : Int32) (by decide) ?_
      rcases bEW_c h with ⟨E41, e41, hr41⟩ | ⟨v41, X41, e41, h⟩
      · exact nomatch hr41
      refine h_callV (pc := 41) (As := [vI (6 : Int32), vI x1, vI (0 : Int32), vI (0 : Int32)]) (st := []) (X' := X41) (cs' := 1) (sl' := 4) (st10 := [vI v41]) B cal_X11_addOrder kmX11_66 kn_X11_addOrder ks_X11_addOrder k5_1 (by decide) rfl (fun l hl => ct_X11_addOrder hl e41) rfl (Nat.le_of_ble_eq_true rfl) (by decide) (by decide) dX11_word_41 rfl rfl rfl rfl ?_
      obtain rfl := Sum.inr.inj (Option.some.inj h)
      exact g_ret_I (pc := 44) B rfl (by decide) (by decide) dX11_word_44
    · rw [if_neg c22] at h
      exact nomatch (Option.some.inj h)
theorem ct_X11_word {D : DD} {l : Launch} {X0 : Mem} {x0 : Nat} {x1 : Int32} {r : Int32 × Mem} (hl : l.stackTraces = false) (h : fX11_word X0 x0 x1 = some (.inr r)) : Ctr D l yX11_word cX11_word 2 (some .int) rmX11_word [vA (some x0), vI x1] X0 (.inr (some (vI r.1))) r.2 :=
  ctr_of hl (plainFor_of_name (by decide)) (Nat.le_of_ble_eq_true rfl) fun ev _ ht B => cb_X11_word_L0 B ht h
set_option maxRecDepth 100000 in
set_option maxHeartbeats 4000000 in
theorem cb_X11_call_L0 {D : DD} {ev : EV} {X0 : Mem} {x0 : Nat} {x1 : Int32} {r : Int32 × Mem} (B : Amb D (foot X0) ev RX11 "call" cX11_call 2 (some .int) rmX11_call) (ht : Tb0 ev)  (h : fX11_call X0 x0 x1 = some (.inr r)) : Gd D (foot X0) ev (QF D ev X0 (.inr (some (vI r.1))) r.2 rmX11_call) X0 0 0 0 [(0, vA (some x0)), (1, vI x1)] [] := by
  unfold fX11_call at h
  refine g_iload_n (pc := 0) B dX11_call_0 1 rfl ?_
  rcases bE_c h with ⟨E1, e1, hr1⟩ | ⟨v1, e1, h⟩
  · exact nomatch hr1
  refine h_callS (pc := 1) (As := [vI x1]) (st := []) (X' := X0) (cs' := 0) (sl' := 0) (st10 := []) B cal_X11_checkWord kmX11_74 kz_X11_checkWord (fun l hl => ct_X11_checkWord hl e1) rfl (Nat.le_of_ble_eq_true rfl) (by decide) (by decide) dX11_call_1 rfl rfl rfl rfl ?_
  refine g_aload_n (pc := 4) B dX11_call_4 0 rfl ?_
  refine g_bipush (pc := 5) B dX11_call_5 (7 : Int32) (by decide) ?_
  refine g_iload_n (pc := 7) B dX11_call_7 1 rfl ?_
  refine g_iconst (pc := 8) B dX11_call_8 (0 : Int32) (by decide) ?_
  refine g_iconst (pc := 9) B dX11_call_9 (0 : Int32) (by decide) ?_
  obtain ⟨k10_1, h⟩ := chk h
  rcases bEW_c h with ⟨E10, e10, hr10⟩ | ⟨v10, X10, e10, h⟩
  · exact nomatch hr10
  refine h_callV (pc := 10) (As := [vI (7 : Int32), vI x1, vI (0 : Int32), vI (0 : Int32)]) (st := []) (X' := X10) (cs' := 1) (sl' := 4) (st10 := [vI v10]) B cal_X11_addOrder kmX11_66 kn_X11_addOrder ks_X11_addOrder k10_1 (by decide) rfl (fun l hl => ct_X11_addOrder hl e10) rfl (Nat.le_of_ble_eq_true rfl) (by decide) (by decide) dX11_call_10 rfl rfl rfl rfl ?_
  obtain rfl := Sum.inr.inj (Option.some.inj h)
  exact g_ret_I (pc := 13) B rfl (by decide) (by decide) dX11_call_13
theorem ct_X11_call {D : DD} {l : Launch} {X0 : Mem} {x0 : Nat} {x1 : Int32} {r : Int32 × Mem} (hl : l.stackTraces = false) (h : fX11_call X0 x0 x1 = some (.inr r)) : Ctr D l yX11_call cX11_call 2 (some .int) rmX11_call [vA (some x0), vI x1] X0 (.inr (some (vI r.1))) r.2 :=
  ctr_of hl (plainFor_of_name (by decide)) (Nat.le_of_ble_eq_true rfl) fun ev _ ht B => cb_X11_call_L0 B ht h
set_option maxRecDepth 100000 in
set_option maxHeartbeats 4000000 in
theorem cb_X11_end_L0 {D : DD} {ev : EV} {X0 : Mem} {x0 : Nat} {r : Int32 × Mem} (B : Amb D (foot X0) ev RX11 "end" cX11_end 1 (some .int) rmX11_end) (ht : Tb0 ev)  (h : fX11_end X0 x0 = some (.inr r)) : Gd D (foot X0) ev (QF D ev X0 (.inr (some (vI r.1))) r.2 rmX11_end) X0 0 0 0 [(0, vA (some x0))] [] := by
  unfold fX11_end at h
  refine g_aload_n (pc := 0) B dX11_end_0 0 rfl ?_
  obtain ⟨k1_1, h⟩ := chk h
  refine g_getR (pc := 1) 11 0 B k1_1 (by decide) (by decide) rfl kfX11_10 dX11_end_1 ?_
  obtain ⟨a4_2, ea4_2, h⟩ := ob h
  rw [ea4_2]
  obtain ⟨k4_3, h⟩ := chk h
  obtain ⟨v4, e4, h⟩ := ob h
  refine h_callV (pc := 4) (As := []) (st := []) (X' := X0) (cs' := 0) (sl' := 0) (st10 := [vI v4]) B cal_X1_openBlocks kmX11_77 kn_X1_openBlocks ks_X1_openBlocks k4_3 (by decide) rfl (fun l hl => ct_X1_openBlocks hl e4) rfl (Nat.le_of_ble_eq_true rfl) (by decide) (by decide) dX11_end_4 rfl rfl rfl rfl ?_
  refine g_if_gt (pc := 7) (tgt := 20) B dX11_end_7 (by decide) (fun c7 => ?_) (fun c7 => ?_)
  · rw [if_pos c7] at h
    refine g_aload_n (pc := 20) B dX11_end_20 0 rfl ?_
    refine g_bipush (pc := 21) B dX11_end_21 (8 : Int32) (by decide) ?_
    refine g_iconst (pc := 23) B dX11_end_23 (0 : Int32) (by decide) ?_
    refine g_iconst (pc := 24) B dX11_end_24 (0 : Int32) (by decide) ?_
    refine g_iconst (pc := 25) B dX11_end_25 (0 : Int32) (by decide) ?_
    rcases bEW_c h with ⟨E26, e26, hr26⟩ | ⟨v26, X26, e26, h⟩
    · exact nomatch hr26
    refine h_callV (pc := 26) (As := [vI (8 : Int32), vI (0 : Int32), vI (0 : Int32), vI (0 : Int32)]) (st := []) (X' := X26) (cs' := 1) (sl' := 4) (st10 := [vI v26]) B cal_X11_addOrder kmX11_66 kn_X11_addOrder ks_X11_addOrder k1_1 (by decide) rfl (fun l hl => ct_X11_addOrder hl e26) rfl (Nat.le_of_ble_eq_true rfl) (by decide) (by decide) dX11_end_26 rfl rfl rfl rfl ?_
    refine g_pop (pc := 29) B dX11_end_29 rfl ?_
    refine g_aload_n (pc := 30) B dX11_end_30 0 rfl ?_
    obtain ⟨k31_4, h⟩ := chk h
    refine g_getR (pc := 31) 11 0 B k31_4 (by decide) (by decide) rfl kfX11_10 dX11_end_31 ?_
    obtain ⟨a34_5, ea34_5, h⟩ := ob h
    rw [ea34_5]
    obtain ⟨k34_6, h⟩ := chk h
    obtain ⟨v34, e34, h⟩ := ob h
    refine h_callV (pc := 34) (As := []) (st := []) (X' := X26) (cs' := 1) (sl' := 4) (st10 := [vI v34]) B cal_X1_openBlocks kmX11_77 kn_X1_openBlocks ks_X1_openBlocks k34_6 (by decide) rfl (fun l hl => ct_X1_openBlocks hl e34) rfl (Nat.le_of_ble_eq_true rfl) (by decide) (by decide) dX11_end_34 rfl rfl rfl rfl ?_
    obtain rfl := Sum.inr.inj (Option.some.inj h)
    exact g_ret_I (pc := 37) B rfl (by decide) (by decide) dX11_end_37
  · rw [if_neg c7] at h
    exact nomatch (Option.some.inj h)
theorem ct_X11_end {D : DD} {l : Launch} {X0 : Mem} {x0 : Nat} {r : Int32 × Mem} (hl : l.stackTraces = false) (h : fX11_end X0 x0 = some (.inr r)) : Ctr D l yX11_end cX11_end 1 (some .int) rmX11_end [vA (some x0)] X0 (.inr (some (vI r.1))) r.2 :=
  ctr_of hl (plainFor_of_name (by decide)) (Nat.le_of_ble_eq_true rfl) fun ev _ ht B => cb_X11_end_L0 B ht h
set_option maxRecDepth 100000 in
set_option maxHeartbeats 4000000 in
theorem cb_X1_makeEmpty_L12b {D : DD} {ev : EV} {X0 : Mem} {fu : Nat} {rec12 : Mem → Nat → Int32 → Option (Mem)} {X : Mem} {x0 : Nat} {x1 : Int32} {r : Mem} (B : Amb D (foot X0) ev RX1 "makeEmpty" cX1_makeEmpty 2 (none) rmX1_makeEmpty) (ht : Tb0 ev) (hrec12 : ∀ {X : Mem} {x0 : Nat} {x1 : Int32} {r : Mem}, rec12 X x0 x1 = some r → Gd D (foot X0) ev (QF D ev X0 (.inr (none)) r rmX1_makeEmpty) X 0 0 12 [(0, vA (some x0)), (1, vI x1)] []) (h : fX1_makeEmpty_L12b fu rec12 X x0 x1 = some r) : Gd D (foot X0) ev (QF D ev X0 (.inr (none)) r rmX1_makeEmpty) X 0 0 12 [(0, vA (some x0)), (1, vI x1)] [] := by
  unfold fX1_makeEmpty_L12b at h
  refine g_iload_n (pc := 12) B dX1_makeEmpty_12 1 rfl ?_
  refine g_aload_n (pc := 13) B dX1_makeEmpty_13 0 rfl ?_
  obtain ⟨k14_1, h⟩ := chk h
  refine g_getR (pc := 14) 1 1 B k14_1 (by decide) (by decide) rfl kfX1_17 dX1_makeEmpty_14 ?_
  obtain ⟨a17_2, ea17_2, h⟩ := ob h
  rw [ea17_2]
  obtain ⟨n17_2, en17_2, h⟩ := ob h
  obtain ⟨tn17_2, kn17_2, qn17_2⟩ := alen_s en17_2
  refine g_alen (pc := 17) B kn17_2 qn17_2 dX1_makeEmpty_17 ?_
  refine g_icmp_ge (pc := 18) (tgt := 34) B dX1_makeEmpty_18 (by decide) (fun c18 => ?_) (fun c18 => ?_)
  · rw [if_pos c18] at h
    obtain rfl := Option.some.inj h
    exact g_ret_V (pc := 34) B rfl (by decide) (by decide) dX1_makeEmpty_34
  · rw [if_neg c18] at h
    refine g_aload_n (pc := 21) B dX1_makeEmpty_21 0 rfl ?_
    refine g_getR (pc := 22) 1 1 B k14_1 (by decide) (by decide) rfl kfX1_17 dX1_makeEmpty_22 ?_
    refine g_iload_n (pc := 25) B dX1_makeEmpty_25 1 rfl ?_
    refine g_iconst (pc := 26) B dX1_makeEmpty_26 (0 : Int32) (by decide) ?_
    obtain ⟨a27_4, ea27_4, h⟩ := ob h
    rw [ea27_4]
    obtain ⟨c27, h⟩ := chk h
    obtain ⟨nc27, kc27, ic27⟩ := inb_s c27
    refine g_zast (pc := 27) B kc27 ic27 (Or.inl rfl) dX1_makeEmpty_27 ?_
    refine g_iinc (pc := 28) (v := (x1 + (1 : Int32))) (L' := [(1, vI (x1 + (1 : Int32))), (0, vA (some x0))]) B dX1_makeEmpty_28 (by decide) 1 rfl rfl rfl ?_
    refine g_goto (pc := 31) (tgt := 12) B dX1_makeEmpty_31 (by decide) ?_
    refine g_sub (pc := 12) [1, 0] rfl ?_
    exact hrec12 h
theorem cb_X1_makeEmpty_L12n {D : DD} {ev : EV} {X0 : Mem} {fu : Nat} (B : Amb D (foot X0) ev RX1 "makeEmpty" cX1_makeEmpty 2 (none) rmX1_makeEmpty) (ht : Tb0 ev)  : ∀ (n : Nat) {X : Mem} {x0 : Nat} {x1 : Int32} {r : Mem}, fX1_makeEmpty_L12 fu n X x0 x1 = some r → Gd D (foot X0) ev (QF D ev X0 (.inr (none)) r rmX1_makeEmpty) X 0 0 12 [(0, vA (some x0)), (1, vI x1)] [] := by
  intro n
  induction n with
  | zero => intro X x0 x1 r h; exact nomatch h
  | succ n ih => intro X x0 x1 r h; exact cb_X1_makeEmpty_L12b (fu := fu) B ht (fun h9 => ih h9) h
theorem cb_X1_makeEmpty_L12 {D : DD} {ev : EV} {X0 : Mem} {fu : Nat} {X : Mem} {x0 : Nat} {x1 : Int32} {n : Nat} {r : Mem} (B : Amb D (foot X0) ev RX1 "makeEmpty" cX1_makeEmpty 2 (none) rmX1_makeEmpty) (ht : Tb0 ev)  (h : fX1_makeEmpty_L12 fu n X x0 x1 = some r) : Gd D (foot X0) ev (QF D ev X0 (.inr (none)) r rmX1_makeEmpty) X 0 0 12 [(0, vA (some x0)), (1, vI x1)] [] := cb_X1_makeEmpty_L12n B ht n h
set_option maxRecDepth 100000 in
set_option maxHeartbeats 4000000 in
theorem cb_X1_makeEmpty_L0 {D : DD} {ev : EV} {X0 : Mem} {fu : Nat} {X : Mem} {x0 : Nat} {r : Mem} (B : Amb D (foot X0) ev RX1 "makeEmpty" cX1_makeEmpty 2 (none) rmX1_makeEmpty) (ht : Tb0 ev)  (h : fX1_makeEmpty fu X x0 = some r) : Gd D (foot X0) ev (QF D ev X0 (.inr (none)) r rmX1_makeEmpty) X 0 0 0 [(0, vA (some x0))] [] := by
  unfold fX1_makeEmpty at h
  refine g_aload_n (pc := 0) B dX1_makeEmpty_0 0 rfl ?_
  refine g_iconst (pc := 1) B dX1_makeEmpty_1 (0 : Int32) (by decide) ?_
  obtain ⟨k2_1, h⟩ := chk h
  refine g_putI (pc := 2) 1 2 B k2_1 (by decide) (by decide) rfl rfl kfX1_21 dX1_makeEmpty_2 ?_
  refine g_aload_n (pc := 5) B dX1_makeEmpty_5 0 rfl ?_
  refine g_iconst (pc := 6) B dX1_makeEmpty_6 (0 : Int32) (by decide) ?_
  refine g_putI (pc := 7) 1 3 B k2_1 (by decide) (by decide) rfl rfl kfX1_25 dX1_makeEmpty_7 ?_
  refine g_iconst (pc := 10) B dX1_makeEmpty_10 (0 : Int32) (by decide) ?_
  refine g_istore_n (pc := 11) (L' := [(1, vI (0 : Int32)), (0, vA (some x0))]) B dX1_makeEmpty_11 (by decide) rfl ?_
  refine g_sub (pc := 12) [1, 0] rfl ?_
  exact cb_X1_makeEmpty_L12 B ht h
theorem ct_X1_makeEmpty {D : DD} {l : Launch} {X0 : Mem} {fu : Nat} {x0 : Nat} {r : Mem} (hl : l.stackTraces = false) (h : fX1_makeEmpty fu X0 x0 = some r) : Ctr D l yX1_makeEmpty cX1_makeEmpty 2 (none) rmX1_makeEmpty [vA (some x0)] X0 (.inr (none)) r :=
  ctr_of hl (plainFor_of_name (by decide)) (Nat.le_of_ble_eq_true rfl) fun ev _ ht B => cb_X1_makeEmpty_L0 B ht h
set_option maxRecDepth 100000 in
set_option maxHeartbeats 4000000 in
theorem cb_X11_wipe_L0 {D : DD} {ev : EV} {X0 : Mem} {fu : Nat} {X : Mem} {x0 : Nat} {r : Int32 × Mem} (B : Amb D (foot X0) ev RX11 "wipe" cX11_wipe 2 (some .int) rmX11_wipe) (ht : Tb0 ev)  (h : fX11_wipe fu X x0 = some r) : Gd D (foot X0) ev (QF D ev X0 (.inr (some (vI r.1))) r.2 rmX11_wipe) X 0 0 0 [(0, vA (some x0))] [] := by
  unfold fX11_wipe at h
  refine g_aload_n (pc := 0) B dX11_wipe_0 0 rfl ?_
  obtain ⟨k1_1, h⟩ := chk h
  refine g_getR (pc := 1) 11 0 B k1_1 (by decide) (by decide) rfl kfX11_10 dX11_wipe_1 ?_
  obtain ⟨a4_2, ea4_2, h⟩ := ob h
  rw [ea4_2]
  obtain ⟨k4_3, h⟩ := chk h
  obtain ⟨v4, e4, h⟩ := ob h
  refine h_callV (pc := 4) (As := []) (st := []) (X' := X) (cs' := 0) (sl' := 0) (st10 := [vI v4]) B cal_X1_length kmX11_94 kn_X1_length ks_X1_length k4_3 (by decide) rfl (fun l hl => ct_X1_length hl e4) rfl (Nat.le_of_ble_eq_true rfl) (by decide) (by decide) dX11_wipe_4 rfl rfl rfl rfl ?_
  refine g_istore_n (pc := 7) (L' := [(1, vI v4), (0, vA (some x0))]) B dX11_wipe_7 (by decide) rfl ?_
  refine g_aload_n (pc := 8) B dX11_wipe_8 1 rfl ?_
  refine g_getR (pc := 9) 11 0 B k1_1 (by decide) (by decide) rfl kfX11_10 dX11_wipe_9 ?_
  obtain ⟨a12_4, ea12_4, h⟩ := ob h
  rw [ea12_4]
  obtain ⟨k12_5, h⟩ := chk h
  obtain ⟨X12, e12, h⟩ := ob h
  refine h_callV (pc := 12) (As := []) (st := []) (X' := X12) (cs' := 0) (sl' := 0) (st10 := []) B cal_X1_makeEmpty kmX11_97 kn_X1_makeEmpty ks_X1_makeEmpty k12_5 (by decide) rfl (fun l hl => ct_X1_makeEmpty hl e12) rfl (Nat.le_of_ble_eq_true rfl) (by decide) (by decide) dX11_wipe_12 rfl rfl rfl rfl ?_
  refine g_iload_n (pc := 15) B dX11_wipe_15 0 rfl ?_
  obtain rfl := Option.some.inj h
  exact g_ret_I (pc := 16) B rfl (by decide) (by decide) dX11_wipe_16
theorem ct_X11_wipe {D : DD} {l : Launch} {X0 : Mem} {fu : Nat} {x0 : Nat} {r : Int32 × Mem} (hl : l.stackTraces = false) (h : fX11_wipe fu X0 x0 = some r) : Ctr D l yX11_wipe cX11_wipe 2 (some .int) rmX11_wipe [vA (some x0)] X0 (.inr (some (vI r.1))) r.2 :=
  ctr_of hl (plainFor_of_name (by decide)) (Nat.le_of_ble_eq_true rfl) fun ev _ ht B => cb_X11_wipe_L0 B ht h
set_option maxRecDepth 100000 in
set_option maxHeartbeats 4000000 in
theorem cb_X11_checkPupil_L0 {D : DD} {ev : EV} {X0 : Mem} {x0 : Int32} {r : Unit} (B : Amb D (foot X0) ev RX11 "checkPupil" cX11_checkPupil 1 (none) rmX11_checkPupil) (ht : Tb0 ev)  (h : fX11_checkPupil X0 x0 = some (.inr r)) : Gd D (foot X0) ev (QF D ev X0 (.inr (none)) X0 rmX11_checkPupil) X0 0 0 0 [(0, vI x0)] [] := by
  unfold fX11_checkPupil at h
  refine g_iload_n (pc := 0) B dX11_checkPupil_0 0 rfl ?_
  refine g_if_lt (pc := 1) (tgt := 10) B dX11_checkPupil_1 (by decide) (fun c1 => ?_) (fun c1 => ?_)
  · rw [if_pos c1] at h
    exact nomatch (Option.some.inj h)
  · rw [if_neg c1] at h
    refine g_iload_n (pc := 4) B dX11_checkPupil_4 0 rfl ?_
    refine g_bipush (pc := 5) B dX11_checkPupil_5 (6 : Int32) (by decide) ?_
    refine g_icmp_lt (pc := 7) (tgt := 21) B dX11_checkPupil_7 (by decide) (fun c7 => ?_) (fun c7 => ?_)
    · rw [if_pos c7] at h
      obtain rfl := Sum.inr.inj (Option.some.inj h)
      exact g_ret_V (pc := 21) B rfl (by decide) (by decide) dX11_checkPupil_21
    · rw [if_neg c7] at h
      exact nomatch (Option.some.inj h)
theorem ct_X11_checkPupil {D : DD} {l : Launch} {X0 : Mem} {x0 : Int32} {r : Unit} (hl : l.stackTraces = false) (h : fX11_checkPupil X0 x0 = some (.inr r)) : Ctr D l yX11_checkPupil cX11_checkPupil 1 (none) rmX11_checkPupil [vI x0] X0 (.inr (none)) X0 :=
  ctr_of hl (plainFor_of_name (by decide)) (Nat.le_of_ble_eq_true rfl) fun ev _ ht B => cb_X11_checkPupil_L0 B ht h
set_option maxRecDepth 100000 in
set_option maxHeartbeats 4000000 in
theorem cb_X1_orderAt_L0 {D : DD} {ev : EV} {X0 : Mem} {x0 : Nat} {x1 : Int32} {r : Option Nat} (B : Amb D (foot X0) ev RX1 "orderAt" cX1_orderAt 2 (some (.object "TurtleChalk$Order")) rmX1_orderAt) (ht : Tb0 ev)  (h : fX1_orderAt X0 x0 x1 = some r) : Gd D (foot X0) ev (QF D ev X0 (.inr (some (vA r))) X0 rmX1_orderAt) X0 0 0 0 [(0, vA (some x0)), (1, vI x1)] [] := by
  unfold fX1_orderAt at h
  refine g_iload_n (pc := 0) B dX1_orderAt_0 1 rfl ?_
  refine g_if_lt (pc := 1) (tgt := 30) B dX1_orderAt_1 (by decide) (fun c1 => ?_) (fun c1 => ?_)
  · rw [if_pos c1] at h
    refine g_null (pc := 30) B dX1_orderAt_30 ?_
    obtain rfl := Option.some.inj h
    exact g_ret_A (pc := 31) B rfl (by decide) (by decide) dX1_orderAt_31
  · rw [if_neg c1] at h
    refine g_iload_n (pc := 4) B dX1_orderAt_4 1 rfl ?_
    refine g_aload_n (pc := 5) B dX1_orderAt_5 0 rfl ?_
    obtain ⟨k6_1, h⟩ := chk h
    refine g_getI (pc := 6) 1 2 B k6_1 (by decide) (by decide) rfl kfX1_21 dX1_orderAt_6 ?_
    refine g_icmp_ge (pc := 9) (tgt := 30) B dX1_orderAt_9 (by decide) (fun c9 => ?_) (fun c9 => ?_)
    · rw [if_pos c9] at h
      refine g_null (pc := 30) B dX1_orderAt_30 ?_
      obtain rfl := Option.some.inj h
      exact g_ret_A (pc := 31) B rfl (by decide) (by decide) dX1_orderAt_31
    · rw [if_neg c9] at h
      refine g_iload_n (pc := 12) B dX1_orderAt_12 1 rfl ?_
      refine g_aload_n (pc := 13) B dX1_orderAt_13 0 rfl ?_
      refine g_getR (pc := 14) 1 0 B k6_1 (by decide) (by decide) rfl kfX1_11 dX1_orderAt_14 ?_
      obtain ⟨a17_2, ea17_2, h⟩ := ob h
      rw [ea17_2]
      obtain ⟨n17_2, en17_2, h⟩ := ob h
      obtain ⟨tn17_2, kn17_2, qn17_2⟩ := alen_s en17_2
      refine g_alen (pc := 17) B kn17_2 qn17_2 dX1_orderAt_17 ?_
      refine g_icmp_ge (pc := 18) (tgt := 30) B dX1_orderAt_18 (by decide) (fun c18 => ?_) (fun c18 => ?_)
      · rw [if_pos c18] at h
        refine g_null (pc := 30) B dX1_orderAt_30 ?_
        obtain rfl := Option.some.inj h
        exact g_ret_A (pc := 31) B rfl (by decide) (by decide) dX1_orderAt_31
      · rw [if_neg c18] at h
        refine g_aload_n (pc := 21) B dX1_orderAt_21 0 rfl ?_
        refine g_getR (pc := 22) 1 0 B k6_1 (by decide) (by decide) rfl kfX1_11 dX1_orderAt_22 ?_
        refine g_iload_n (pc := 25) B dX1_orderAt_25 1 rfl ?_
        obtain ⟨a26_4, ea26_4, h⟩ := ob h
        rw [ea26_4]
        obtain ⟨c26, h⟩ := chk h
        obtain ⟨nc26, kc26, ic26⟩ := inb_s c26
        refine g_aald (pc := 26) B kc26 (by decide) (by decide) ic26 dX1_orderAt_26 ?_
        refine g_goto (pc := 27) (tgt := 31) B dX1_orderAt_27 (by decide) ?_
        obtain rfl := Option.some.inj h
        exact g_ret_A (pc := 31) B rfl (by decide) (by decide) dX1_orderAt_31
theorem ct_X1_orderAt {D : DD} {l : Launch} {X0 : Mem} {x0 : Nat} {x1 : Int32} {r : Option Nat} (hl : l.stackTraces = false) (h : fX1_orderAt X0 x0 x1 = some r) : Ctr D l yX1_orderAt cX1_orderAt 2 (some (.object "TurtleChalk$Order")) rmX1_orderAt [vA (some x0), vI x1] X0 (.inr (some (vA r))) X0 :=
  ctr_of hl (plainFor_of_name (by decide)) (Nat.le_of_ble_eq_true rfl) fun ev _ ht B => cb_X1_orderAt_L0 B ht h
set_option maxRecDepth 100000 in
set_option maxHeartbeats 4000000 in
theorem cb_X5_orderAt_L0 {D : DD} {ev : EV} {X0 : Mem} {x0 : Nat} {x1 : Int32} {r : Option Nat} (B : Amb D (foot X0) ev RX5 "orderAt" cX5_orderAt 2 (some (.object "TurtleChalk$Order")) rmX5_orderAt) (ht : Tb0 ev)  (h : fX5_orderAt X0 x0 x1 = some r) : Gd D (foot X0) ev (QF D ev X0 (.inr (some (vA r))) X0 rmX5_orderAt) X0 0 0 0 [(0, vA (some x0)), (1, vI x1)] [] := by
  unfold fX5_orderAt at h
  refine g_iload_n (pc := 0) B dX5_orderAt_0 1 rfl ?_
  refine g_if_lt (pc := 1) (tgt := 22) B dX5_orderAt_1 (by decide) (fun c1 => ?_) (fun c1 => ?_)
  · rw [if_pos c1] at h
    refine g_null (pc := 22) B dX5_orderAt_22 ?_
    obtain rfl := Option.some.inj h
    exact g_ret_A (pc := 23) B rfl (by decide) (by decide) dX5_orderAt_23
  · rw [if_neg c1] at h
    refine g_iload_n (pc := 4) B dX5_orderAt_4 1 rfl ?_
    refine g_aload_n (pc := 5) B dX5_orderAt_5 0 rfl ?_
    obtain ⟨k6_1, h⟩ := chk h
    refine g_getR (pc := 6) 5 1 B k6_1 (by decide) (by decide) rfl kfX5_23 dX5_orderAt_6 ?_
    obtain ⟨a9_2, ea9_2, h⟩ := ob h
    rw [ea9_2]
    obtain ⟨n9_2, en9_2, h⟩ := ob h
    obtain ⟨tn9_2, kn9_2, qn9_2⟩ := alen_s en9_2
    refine g_alen (pc := 9) B kn9_2 qn9_2 dX5_orderAt_9 ?_
    refine g_icmp_ge (pc := 10) (tgt := 22) B dX5_orderAt_10 (by decide) (fun c10 => ?_) (fun c10 => ?_)
    · rw [if_pos c10] at h
      refine g_null (pc := 22) B dX5_orderAt_22 ?_
      obtain rfl := Option.some.inj h
      exact g_ret_A (pc := 23) B rfl (by decide) (by decide) dX5_orderAt_23
    · rw [if_neg c10] at h
      refine g_aload_n (pc := 13) B dX5_orderAt_13 0 rfl ?_
      refine g_getR (pc := 14) 5 1 B k6_1 (by decide) (by decide) rfl kfX5_23 dX5_orderAt_14 ?_
      refine g_iload_n (pc := 17) B dX5_orderAt_17 1 rfl ?_
      obtain ⟨a18_4, ea18_4, h⟩ := ob h
      rw [ea18_4]
      obtain ⟨c18, h⟩ := chk h
      obtain ⟨nc18, kc18, ic18⟩ := inb_s c18
      refine g_aald (pc := 18) B kc18 (by decide) (by decide) ic18 dX5_orderAt_18 ?_
      refine g_goto (pc := 19) (tgt := 23) B dX5_orderAt_19 (by decide) ?_
      obtain rfl := Option.some.inj h
      exact g_ret_A (pc := 23) B rfl (by decide) (by decide) dX5_orderAt_23
theorem ct_X5_orderAt {D : DD} {l : Launch} {X0 : Mem} {x0 : Nat} {x1 : Int32} {r : Option Nat} (hl : l.stackTraces = false) (h : fX5_orderAt X0 x0 x1 = some r) : Ctr D l yX5_orderAt cX5_orderAt 2 (some (.object "TurtleChalk$Order")) rmX5_orderAt [vA (some x0), vI x1] X0 (.inr (some (vA r))) X0 :=
  ctr_of hl (plainFor_of_name (by decide)) (Nat.le_of_ble_eq_true rfl) fun ev _ ht B => cb_X5_orderAt_L0 B ht h
set_option maxRecDepth 100000 in
set_option maxHeartbeats 4000000 in
theorem cb_X5_partnerOf_L0 {D : DD} {ev : EV} {X0 : Mem} {x0 : Nat} {x1 : Int32} {r : Int32} (B : Amb D (foot X0) ev RX5 "partnerOf" cX5_partnerOf 2 (some .int) rmX5_partnerOf) (ht : Tb0 ev)  (h : fX5_partnerOf X0 x0 x1 = some r) : Gd D (foot X0) ev (QF D ev X0 (.inr (some (vI r))) X0 rmX5_partnerOf) X0 0 0 0 [(0, vA (some x0)), (1, vI x1)] [] := by
  unfold fX5_partnerOf at h
  refine g_iload_n (pc := 0) B dX5_partnerOf_0 1 rfl ?_
  refine g_if_lt (pc := 1) (tgt := 22) B dX5_partnerOf_1 (by decide) (fun c1 => ?_) (fun c1 => ?_)
  · rw [if_pos c1] at h
    refine g_iconst (pc := 22) B dX5_partnerOf_22 (-1) (by decide) ?_
    obtain rfl := Option.some.inj h
    exact g_ret_I (pc := 23) B rfl (by decide) (by decide) dX5_partnerOf_23
  · rw [if_neg c1] at h
    refine g_iload_n (pc := 4) B dX5_partnerOf_4 1 rfl ?_
    refine g_aload_n (pc := 5) B dX5_partnerOf_5 0 rfl ?_
    obtain ⟨k6_1, h⟩ := chk h
    refine g_getR (pc := 6) 5 2 B k6_1 (by decide) (by decide) rfl kfX5_27 dX5_partnerOf_6 ?_
    obtain ⟨a9_2, ea9_2, h⟩ := ob h
    rw [ea9_2]
    obtain ⟨n9_2, en9_2, h⟩ := ob h
    obtain ⟨tn9_2, kn9_2, qn9_2⟩ := alen_s en9_2
    refine g_alen (pc := 9) B kn9_2 qn9_2 dX5_partnerOf_9 ?_
    refine g_icmp_ge (pc := 10) (tgt := 22) B dX5_partnerOf_10 (by decide) (fun c10 => ?_) (fun c10 => ?_)
    · rw [if_pos c10] at h
      refine g_iconst (pc := 22) B dX5_partnerOf_22 (-1) (by decide) ?_
      obtain rfl := Option.some.inj h
      exact g_ret_I (pc := 23) B rfl (by decide) (by decide) dX5_partnerOf_23
    · rw [if_neg c10] at h
      refine g_aload_n (pc := 13) B dX5_partnerOf_13 0 rfl ?_
      refine g_getR (pc := 14) 5 2 B k6_1 (by decide) (by decide) rfl kfX5_27 dX5_partnerOf_14 ?_
      refine g_iload_n (pc := 17) B dX5_partnerOf_17 1 rfl ?_
      obtain ⟨a18_4, ea18_4, h⟩ := ob h
      rw [ea18_4]
      obtain ⟨c18, h⟩ := chk h
      obtain ⟨nc18, kc18, ic18⟩ := inb_s c18
      refine g_iald (pc := 18) B kc18 ic18 dX5_partnerOf_18 ?_
      refine g_goto (pc := 19) (tgt := 23) B dX5_partnerOf_19 (by decide) ?_
      obtain rfl := Option.some.inj h
      exact g_ret_I (pc := 23) B rfl (by decide) (by decide) dX5_partnerOf_23
theorem ct_X5_partnerOf {D : DD} {l : Launch} {X0 : Mem} {x0 : Nat} {x1 : Int32} {r : Int32} (hl : l.stackTraces = false) (h : fX5_partnerOf X0 x0 x1 = some r) : Ctr D l yX5_partnerOf cX5_partnerOf 2 (some .int) rmX5_partnerOf [vA (some x0), vI x1] X0 (.inr (some (vI r))) X0 :=
  ctr_of hl (plainFor_of_name (by decide)) (Nat.le_of_ble_eq_true rfl) fun ev _ ht B => cb_X5_partnerOf_L0 B ht h
set_option maxRecDepth 100000 in
set_option maxHeartbeats 4000000 in
theorem cb_X5_lastOpenAhead_L36 {D : DD} {ev : EV} {X0 : Mem} {fu : Nat} {rec4 : Nat → Int32 → Option (Int32)} {x0 : Nat} {x2 : Int32} {r : Int32} (B : Amb D (foot X0) ev RX5 "lastOpenAhead" cX5_lastOpenAhead 4 (some .int) rmX5_lastOpenAhead) (ht : Tb0 ev) (hrec4 : ∀ {x0 : Nat} {x2 : Int32} {r : Int32}, rec4 x0 x2 = some r → Gd D (foot X0) ev (QF D ev X0 (.inr (some (vI r))) X0 rmX5_lastOpenAhead) X0 0 0 4 [(0, vA (some x0)), (2, vI x2)] []) (h : fX5_lastOpenAhead_L36 fu X0 rec4 x0 x2 = some r) : Gd D (foot X0) ev (QF D ev X0 (.inr (some (vI r))) X0 rmX5_lastOpenAhead) X0 0 0 36 [(0, vA (some x0)), (2, vI x2)] [] := by
  unfold fX5_lastOpenAhead_L36 at h
  refine g_iinc (pc := 36) (v := (x2 + (-1))) (L' := [(2, vI (x2 + (-1))), (0, vA (some x0))]) B dX5_lastOpenAhead_36 (by decide) 1 rfl rfl rfl ?_
  refine g_goto (pc := 39) (tgt := 4) B dX5_lastOpenAhead_39 (by decide) ?_
  refine g_sub (pc := 4) [1, 0] rfl ?_
  exact hrec4 h
set_option maxRecDepth 100000 in
set_option maxHeartbeats 4000000 in
theorem cb_X5_lastOpenAhead_L4b {D : DD} {ev : EV} {X0 : Mem} {fu : Nat} {rec4 : Nat → Int32 → Option (Int32)} {x0 : Nat} {x2 : Int32} {r : Int32} (B : Amb D (foot X0) ev RX5 "lastOpenAhead" cX5_lastOpenAhead 4 (some .int) rmX5_lastOpenAhead) (ht : Tb0 ev) (hrec4 : ∀ {x0 : Nat} {x2 : Int32} {r : Int32}, rec4 x0 x2 = some r → Gd D (foot X0) ev (QF D ev X0 (.inr (some (vI r))) X0 rmX5_lastOpenAhead) X0 0 0 4 [(0, vA (some x0)), (2, vI x2)] []) (h : fX5_lastOpenAhead_L4b fu X0 rec4 x0 x2 = some r) : Gd D (foot X0) ev (QF D ev X0 (.inr (some (vI r))) X0 rmX5_lastOpenAhead) X0 0 0 4 [(0, vA (some x0)), (2, vI x2)] [] := by
  unfold fX5_lastOpenAhead_L4b at h
  refine g_iload_n (pc := 4) B dX5_lastOpenAhead_4 1 rfl ?_
  refine g_if_lt (pc := 5) (tgt := 42) B dX5_lastOpenAhead_5 (by decide) (fun c5 => ?_) (fun c5 => ?_)
  · rw [if_pos c5] at h
    refine g_iconst (pc := 42) B dX5_lastOpenAhead_42 (-1) (by decide) ?_
    obtain rfl := Option.some.inj h
    exact g_ret_I (pc := 43) B rfl (by decide) (by decide) dX5_lastOpenAhead_43
  · rw [if_neg c5] at h
    refine g_aload_n (pc := 8) B dX5_lastOpenAhead_8 0 rfl ?_
    refine g_iload_n (pc := 9) B dX5_lastOpenAhead_9 1 rfl ?_
    obtain ⟨k10_1, h⟩ := chk h
    obtain ⟨v10, e10, h⟩ := ob h
    refine h_callV (pc := 10) (As := [vI x2]) (st := []) (X' := X0) (cs' := 0) (sl' := 0) (st10 := [vA v10]) B cal_X5_orderAt kmX5_70 kn_X5_orderAt ks_X5_orderAt k10_1 (by decide) rfl (fun l hl => ct_X5_orderAt hl e10) rfl (Nat.le_of_ble_eq_true rfl) (by decide) (by decide) dX5_lastOpenAhead_10 rfl rfl rfl rfl ?_
    refine g_astore_n (pc := 13) (L' := [(3, vA v10), (0, vA (some x0)), (2, vI x2)]) B dX5_lastOpenAhead_13 (by decide) rfl ?_
    refine g_aload_n (pc := 14) B dX5_lastOpenAhead_14 0 rfl ?_
    refine g_ifnull (pc := 15) (tgt := 36) B dX5_lastOpenAhead_15 (by decide) (fun c15 => ?_) (fun c15 => ?_)
    · rw [if_pos c15] at h
      refine g_sub (pc := 36) [1, 2] rfl ?_
      exact cb_X5_lastOpenAhead_L36 B ht hrec4 h
    · rw [if_neg c15] at h
      refine g_aload_n (pc := 18) B dX5_lastOpenAhead_18 0 rfl ?_
      obtain ⟨a19_2, ea19_2, h⟩ := ob h
      rw [ea19_2]
      obtain ⟨k19_3, h⟩ := chk h
      obtain ⟨v19, e19, h⟩ := ob h
      refine h_callV (pc := 19) (As := []) (st := []) (X' := X0) (cs' := 0) (sl' := 0) (st10 := [vI v19]) B cal_X4_opensBlock kmX5_71 kn_X4_opensBlock ks_X4_opensBlock k19_3 (by decide) rfl (fun l hl => ct_X4_opensBlock hl e19) rfl (Nat.le_of_ble_eq_true rfl) (by decide) (by decide) dX5_lastOpenAhead_19 rfl rfl rfl rfl ?_
      refine g_if_eq (pc := 22) (tgt := 36) B dX5_lastOpenAhead_22 (by decide) (fun c22 => ?_) (fun c22 => ?_)
      · rw [if_pos c22] at h
        refine g_sub (pc := 36) [1, 2] rfl ?_
        exact cb_X5_lastOpenAhead_L36 B ht hrec4 h
      · rw [if_neg c22] at h
        refine g_aload_n (pc := 25) B dX5_lastOpenAhead_25 1 rfl ?_
        refine g_iload_n (pc := 26) B dX5_lastOpenAhead_26 2 rfl ?_
        obtain ⟨v27, e27, h⟩ := ob h
        refine h_callV (pc := 27) (As := [vI x2]) (st := []) (X' := X0) (cs' := 0) (sl' := 0) (st10 := [vI v27]) B cal_X5_partnerOf kmX5_75 kn_X5_partnerOf ks_X5_partnerOf k10_1 (by decide) rfl (fun l hl => ct_X5_partnerOf hl e27) rfl (Nat.le_of_ble_eq_true rfl) (by decide) (by decide) dX5_lastOpenAhead_27 rfl rfl rfl rfl ?_
        refine g_iconst (pc := 30) B dX5_lastOpenAhead_30 (-1) (by decide) ?_
        refine g_icmp_ne (pc := 31) (tgt := 36) B dX5_lastOpenAhead_31 (by decide) (fun c31 => ?_) (fun c31 => ?_)
        · rw [if_neg c31] at h
          refine g_sub (pc := 36) [1, 2] rfl ?_
          exact cb_X5_lastOpenAhead_L36 B ht hrec4 h
        · rw [if_pos c31] at h
          refine g_iload_n (pc := 34) B dX5_lastOpenAhead_34 2 rfl ?_
          obtain rfl := Option.some.inj h
          exact g_ret_I (pc := 35) B rfl (by decide) (by decide) dX5_lastOpenAhead_35
theorem cb_X5_lastOpenAhead_L4n {D : DD} {ev : EV} {X0 : Mem} {fu : Nat} (B : Amb D (foot X0) ev RX5 "lastOpenAhead" cX5_lastOpenAhead 4 (some .int) rmX5_lastOpenAhead) (ht : Tb0 ev)  : ∀ (n : Nat) {x0 : Nat} {x2 : Int32} {r : Int32}, fX5_lastOpenAhead_L4 fu X0 n x0 x2 = some r → Gd D (foot X0) ev (QF D ev X0 (.inr (some (vI r))) X0 rmX5_lastOpenAhead) X0 0 0 4 [(0, vA (some x0)), (2, vI x2)] [] := by
  intro n
  induction n with
  | zero => intro x0 x2 r h; exact nomatch h
  | succ n ih => intro x0 x2 r h; exact cb_X5_lastOpenAhead_L4b (fu := fu) B ht (fun h9 => ih h9) h
theorem cb_X5_lastOpenAhead_L4 {D : DD} {ev : EV} {X0 : Mem} {fu : Nat} {x0 : Nat} {x2 : Int32} {n : Nat} {r : Int32} (B : Amb D (foot X0) ev RX5 "lastOpenAhead" cX5_lastOpenAhead 4 (some .int) rmX5_lastOpenAhead) (ht : Tb0 ev)  (h : fX5_lastOpenAhead_L4 fu X0 n x0 x2 = some r) : Gd D (foot X0) ev (QF D ev X0 (.inr (some (vI r))) X0 rmX5_lastOpenAhead) X0 0 0 4 [(0, vA (some x0)), (2, vI x2)] [] := cb_X5_lastOpenAhead_L4n B ht n h
set_option maxRecDepth 100000 in
set_option maxHeartbeats 4000000 in
theorem cb_X5_lastOpenAhead_L0 {D : DD} {ev : EV} {X0 : Mem} {fu : Nat} {x0 : Nat} {x1 : Int32} {r : Int32} (B : Amb D (foot X0) ev RX5 "lastOpenAhead" cX5_lastOpenAhead 4 (some .int) rmX5_lastOpenAhead) (ht : Tb0 ev)  (h : fX5_lastOpenAhead fu X0 x0 x1 = some r) : Gd D (foot X0) ev (QF D ev X0 (.inr (some (vI r))) X0 rmX5_lastOpenAhead) X0 0 0 0 [(0, vA (some x0)), (1, vI x1)] [] := by
  unfold fX5_lastOpenAhead at h
  refine g_iload_n (pc := 0) B dX5_lastOpenAhead_0 1 rfl ?_
  refine g_iconst (pc := 1) B dX5_lastOpenAhead_1 (1 : Int32) (by decide) ?_
  refine g_isub (pc := 2) B dX5_lastOpenAhead_2 ?_
  refine g_istore_n (pc := 3) (L' := [(2, vI (x1 - (1 : Int32))), (0, vA (some x0)), (1, vI x1)]) B dX5_lastOpenAhead_3 (by decide) rfl ?_
  refine g_sub (pc := 4) [1, 0] rfl ?_
  exact cb_X5_lastOpenAhead_L4 B ht h
theorem ct_X5_lastOpenAhead {D : DD} {l : Launch} {X0 : Mem} {fu : Nat} {x0 : Nat} {x1 : Int32} {r : Int32} (hl : l.stackTraces = false) (h : fX5_lastOpenAhead fu X0 x0 x1 = some r) : Ctr D l yX5_lastOpenAhead cX5_lastOpenAhead 4 (some .int) rmX5_lastOpenAhead [vA (some x0), vI x1] X0 (.inr (some (vI r))) X0 :=
  ctr_of hl (plainFor_of_name (by decide)) (Nat.le_of_ble_eq_true rfl) fun ev _ ht B => cb_X5_lastOpenAhead_L0 B ht h
set_option maxRecDepth 100000 in
set_option maxHeartbeats 4000000 in
theorem cb_X5_pairBlocks_L80 {D : DD} {ev : EV} {X0 : Mem} {fu : Nat} {rec2 : Mem → Nat → Int32 → Option (Mem)} {X : Mem} {x0 : Nat} {x1 : Int32} {r : Mem} (B : Amb D (foot X0) ev RX5 "pairBlocks" cX5_pairBlocks 4 (none) rmX5_pairBlocks) (ht : Tb0 ev) (hrec2 : ∀ {X : Mem} {x0 : Nat} {x1 : Int32} {r : Mem}, rec2 X x0 x1 = some r → Gd D (foot X0) ev (QF D ev X0 (.inr (none)) r rmX5_pairBlocks) X 0 0 2 [(0, vA (some x0)), (1, vI x1)] []) (h : fX5_pairBlocks_L80 fu rec2 X x0 x1 = some r) : Gd D (foot X0) ev (QF D ev X0 (.inr (none)) r rmX5_pairBlocks) X 0 0 80 [(0, vA (some x0)), (1, vI x1)] [] := by
  unfold fX5_pairBlocks_L80 at h
  refine g_iinc (pc := 80) (v := (x1 + (1 : Int32))) (L' := [(1, vI (x1 + (1 : Int32))), (0, vA (some x0))]) B dX5_pairBlocks_80 (by decide) 1 rfl rfl rfl ?_
  refine g_goto (pc := 83) (tgt := 2) B dX5_pairBlocks_83 (by decide) ?_
  refine g_sub (pc := 2) [1, 0] rfl ?_
  exact hrec2 h
set_option maxRecDepth 100000 in
set_option maxHeartbeats 4000000 in
theorem cb_X5_pairBlocks_L2b {D : DD} {ev : EV} {X0 : Mem} {fu : Nat} {rec2 : Mem → Nat → Int32 → Option (Mem)} {X : Mem} {x0 : Nat} {x1 : Int32} {r : Mem} (B : Amb D (foot X0) ev RX5 "pairBlocks" cX5_pairBlocks 4 (none) rmX5_pairBlocks) (ht : Tb0 ev) (hrec2 : ∀ {X : Mem} {x0 : Nat} {x1 : Int32} {r : Mem}, rec2 X x0 x1 = some r → Gd D (foot X0) ev (QF D ev X0 (.inr (none)) r rmX5_pairBlocks) X 0 0 2 [(0, vA (some x0)), (1, vI x1)] []) (h : fX5_pairBlocks_L2b fu rec2 X x0 x1 = some r) : Gd D (foot X0) ev (QF D ev X0 (.inr (none)) r rmX5_pairBlocks) X 0 0 2 [(0, vA (some x0)), (1, vI x1)] [] := by
  unfold fX5_pairBlocks_L2b at h
  refine g_iload_n (pc := 2) B dX5_pairBlocks_2 1 rfl ?_
  refine g_aload_n (pc := 3) B dX5_pairBlocks_3 0 rfl ?_
  obtain ⟨k4_1, h⟩ := chk h
  refine g_getR (pc := 4) 5 1 B k4_1 (by decide) (by decide) rfl kfX5_23 dX5_pairBlocks_4 ?_
  obtain ⟨a7_2, ea7_2, h⟩ := ob h
  rw [ea7_2]
  obtain ⟨n7_2, en7_2, h⟩ := ob h
  obtain ⟨tn7_2, kn7_2, qn7_2⟩ := alen_s en7_2
  refine g_alen (pc := 7) B kn7_2 qn7_2 dX5_pairBlocks_7 ?_
  refine g_icmp_ge (pc := 8) (tgt := 86) B dX5_pairBlocks_8 (by decide) (fun c8 => ?_) (fun c8 => ?_)
  · rw [if_pos c8] at h
    obtain rfl := Option.some.inj h
    exact g_ret_V (pc := 86) B rfl (by decide) (by decide) dX5_pairBlocks_86
  · rw [if_neg c8] at h
    refine g_iload_n (pc := 11) B dX5_pairBlocks_11 1 rfl ?_
    refine g_aload_n (pc := 12) B dX5_pairBlocks_12 0 rfl ?_
    refine g_getR (pc := 13) 5 2 B k4_1 (by decide) (by decide) rfl kfX5_27 dX5_pairBlocks_13 ?_
    obtain ⟨a16_4, ea16_4, h⟩ := ob h
    rw [ea16_4]
    obtain ⟨n16_4, en16_4, h⟩ := ob h
    obtain ⟨tn16_4, kn16_4, qn16_4⟩ := alen_s en16_4
    refine g_alen (pc := 16) B kn16_4 qn16_4 dX5_pairBlocks_16 ?_
    refine g_icmp_ge (pc := 17) (tgt := 86) B dX5_pairBlocks_17 (by decide) (fun c17 => ?_) (fun c17 => ?_)
    · rw [if_pos c17] at h
      obtain rfl := Option.some.inj h
      exact g_ret_V (pc := 86) B rfl (by decide) (by decide) dX5_pairBlocks_86
    · rw [if_neg c17] at h
      refine g_aload_n (pc := 20) B dX5_pairBlocks_20 0 rfl ?_
      refine g_getR (pc := 21) 5 2 B k4_1 (by decide) (by decide) rfl kfX5_27 dX5_pairBlocks_21 ?_
      refine g_iload_n (pc := 24) B dX5_pairBlocks_24 1 rfl ?_
      refine g_iconst (pc := 25) B dX5_pairBlocks_25 (-1) (by decide) ?_
      obtain ⟨a26_6, ea26_6, h⟩ := ob h
      rw [ea26_6]
      obtain ⟨c26, h⟩ := chk h
      obtain ⟨nc26, kc26, ic26⟩ := inb_s c26
      refine g_iast (pc := 26) B kc26 ic26 dX5_pairBlocks_26 ?_
      refine g_aload_n (pc := 27) B dX5_pairBlocks_27 0 rfl ?_
      refine g_getR (pc := 28) 5 1 B k4_1 (by decide) (by decide) rfl kfX5_23 dX5_pairBlocks_28 ?_
      refine g_iload_n (pc := 31) B dX5_pairBlocks_31 1 rfl ?_
      obtain ⟨a32_7, ea32_7, h⟩ := ob h
      rw [ea32_7]
      obtain ⟨c32, h⟩ := chk h
      obtain ⟨nc32, kc32, ic32⟩ := inb_s c32
      refine g_aald (pc := 32) B kc32 (by decide) (by decide) ic32 dX5_pairBlocks_32 ?_
      refine g_astore_n (pc := 33) (L' := [(2, vA (aR (sI X a26_6 x1.toNatClampNeg (-1)) a32_7 x1.toNatClampNeg)), (0, vA (some x0)), (1, vI x1)]) B dX5_pairBlocks_33 (by decide) rfl ?_
      refine g_aload_n (pc := 34) B dX5_pairBlocks_34 0 rfl ?_
      refine g_ifnull (pc := 35) (tgt := 80) B dX5_pairBlocks_35 (by decide) (fun c35 => ?_) (fun c35 => ?_)
      · rw [if_pos c35] at h
        refine g_sub (pc := 80) [1, 2] rfl ?_
        exact cb_X5_pairBlocks_L80 B ht hrec2 h
      · rw [if_neg c35] at h
        refine g_aload_n (pc := 38) B dX5_pairBlocks_38 0 rfl ?_
        obtain ⟨a39_8, ea39_8, h⟩ := ob h
        rw [ea39_8]
        obtain ⟨k39_9, h⟩ := chk h
        refine g_getIN (pc := 39) 4 0 B k39_9 (by decide) (by decide) rfl kfX5_63 dX5_pairBlocks_39 ?_
        refine g_bipush (pc := 42) B dX5_pairBlocks_42 (8 : Int32) (by decide) ?_
        refine g_icmp_ne (pc := 44) (tgt := 80) B dX5_pairBlocks_44 (by decide) (fun c44 => ?_) (fun c44 => ?_)
        · rw [if_neg c44] at h
          refine g_sub (pc := 80) [1, 2] rfl ?_
          exact cb_X5_pairBlocks_L80 B ht hrec2 h
        · rw [if_pos c44] at h
          refine g_aload_n (pc := 47) B dX5_pairBlocks_47 1 rfl ?_
          refine g_iload_n (pc := 48) B dX5_pairBlocks_48 2 rfl ?_
          obtain ⟨v49, e49, h⟩ := ob h
          refine h_callV (pc := 49) (As := [vI x1]) (st := []) (X' := (sI X a26_6 x1.toNatClampNeg (-1))) (cs' := 0) (sl' := 0) (st10 := [vI v49]) B cal_X5_lastOpenAhead kmX5_66 kn_X5_lastOpenAhead ks_X5_lastOpenAhead k4_1 (by decide) rfl (fun l hl => ct_X5_lastOpenAhead hl e49) rfl (Nat.le_of_ble_eq_true rfl) (by decide) (by decide) dX5_pairBlocks_49 rfl rfl rfl rfl ?_
          refine g_istore_n (pc := 52) (L' := [(3, vI v49), (2, vA (some a39_8)), (0, vA (some x0)), (1, vI x1)]) B dX5_pairBlocks_52 (by decide) rfl ?_
          refine g_iload_n (pc := 53) B dX5_pairBlocks_53 0 rfl ?_
          refine g_if_lt (pc := 54) (tgt := 80) B dX5_pairBlocks_54 (by decide) (fun c54 => ?_) (fun c54 => ?_)
          · rw [if_pos c54] at h
            refine g_sub (pc := 80) [2, 3] rfl ?_
            exact cb_X5_pairBlocks_L80 B ht hrec2 h
          · rw [if_neg c54] at h
            refine g_iload_n (pc := 57) B dX5_pairBlocks_57 0 rfl ?_
            refine g_aload_n (pc := 58) B dX5_pairBlocks_58 2 rfl ?_
            refine g_getR (pc := 59) 5 2 B k4_1 (by decide) (by decide) rfl kfX5_27 dX5_pairBlocks_59 ?_
            obtain ⟨a62_10, ea62_10, h⟩ := ob h
            rw [ea62_10]
            obtain ⟨n62_10, en62_10, h⟩ := ob h
            obtain ⟨tn62_10, kn62_10, qn62_10⟩ := alen_s en62_10
            refine g_alen (pc := 62) B kn62_10 qn62_10 dX5_pairBlocks_62 ?_
            refine g_icmp_ge (pc := 63) (tgt := 80) B dX5_pairBlocks_63 (by decide) (fun c63 => ?_) (fun c63 => ?_)
            · rw [if_pos c63] at h
              refine g_sub (pc := 80) [2, 3] rfl ?_
              exact cb_X5_pairBlocks_L80 B ht hrec2 h
            · rw [if_neg c63] at h
              refine g_aload_n (pc := 66) B dX5_pairBlocks_66 2 rfl ?_
              refine g_getR (pc := 67) 5 2 B k4_1 (by decide) (by decide) rfl kfX5_27 dX5_pairBlocks_67 ?_
              refine g_iload_n (pc := 70) B dX5_pairBlocks_70 0 rfl ?_
              refine g_iload_n (pc := 71) B dX5_pairBlocks_71 3 rfl ?_
              obtain ⟨a72_12, ea72_12, h⟩ := ob h
              rw [ea72_12]
              obtain ⟨c72, h⟩ := chk h
              obtain ⟨nc72, kc72, ic72⟩ := inb_s c72
              refine g_iast (pc := 72) B kc72 ic72 dX5_pairBlocks_72 ?_
              refine g_aload_n (pc := 73) B dX5_pairBlocks_73 2 rfl ?_
              refine g_getR (pc := 74) 5 2 B k4_1 (by decide) (by decide) rfl kfX5_27 dX5_pairBlocks_74 ?_
              refine g_iload_n (pc := 77) B dX5_pairBlocks_77 3 rfl ?_
              refine g_iload_n (pc := 78) B dX5_pairBlocks_78 0 rfl ?_
              obtain ⟨a79_13, ea79_13, h⟩ := ob h
              rw [ea79_13]
              obtain ⟨c79, h⟩ := chk h
              obtain ⟨nc79, kc79, ic79⟩ := inb_s c79
              refine g_iast (pc := 79) B kc79 ic79 dX5_pairBlocks_79 ?_
              refine g_sub (pc := 80) [2, 3] rfl ?_
              exact cb_X5_pairBlocks_L80 B ht hrec2 h
theorem cb_X5_pairBlocks_L2n {D : DD} {ev : EV} {X0 : Mem} {fu : Nat} (B : Amb D (foot X0) ev RX5 "pairBlocks" cX5_pairBlocks 4 (none) rmX5_pairBlocks) (ht : Tb0 ev)  : ∀ (n : Nat) {X : Mem} {x0 : Nat} {x1 : Int32} {r : Mem}, fX5_pairBlocks_L2 fu n X x0 x1 = some r → Gd D (foot X0) ev (QF D ev X0 (.inr (none)) r rmX5_pairBlocks) X 0 0 2 [(0, vA (some x0)), (1, vI x1)] [] := by
  intro n
  induction n with
  | zero => intro X x0 x1 r h; exact nomatch h
  | succ n ih => intro X x0 x1 r h; exact cb_X5_pairBlocks_L2b (fu := fu) B ht (fun h9 => ih h9) h
theorem cb_X5_pairBlocks_L2 {D : DD} {ev : EV} {X0 : Mem} {fu : Nat} {X : Mem} {x0 : Nat} {x1 : Int32} {n : Nat} {r : Mem} (B : Amb D (foot X0) ev RX5 "pairBlocks" cX5_pairBlocks 4 (none) rmX5_pairBlocks) (ht : Tb0 ev)  (h : fX5_pairBlocks_L2 fu n X x0 x1 = some r) : Gd D (foot X0) ev (QF D ev X0 (.inr (none)) r rmX5_pairBlocks) X 0 0 2 [(0, vA (some x0)), (1, vI x1)] [] := cb_X5_pairBlocks_L2n B ht n h
set_option maxRecDepth 100000 in
set_option maxHeartbeats 4000000 in
theorem cb_X5_pairBlocks_L0 {D : DD} {ev : EV} {X0 : Mem} {fu : Nat} {X : Mem} {x0 : Nat} {r : Mem} (B : Amb D (foot X0) ev RX5 "pairBlocks" cX5_pairBlocks 4 (none) rmX5_pairBlocks) (ht : Tb0 ev)  (h : fX5_pairBlocks fu X x0 = some r) : Gd D (foot X0) ev (QF D ev X0 (.inr (none)) r rmX5_pairBlocks) X 0 0 0 [(0, vA (some x0))] [] := by
  unfold fX5_pairBlocks at h
  refine g_iconst (pc := 0) B dX5_pairBlocks_0 (0 : Int32) (by decide) ?_
  refine g_istore_n (pc := 1) (L' := [(1, vI (0 : Int32)), (0, vA (some x0))]) B dX5_pairBlocks_1 (by decide) rfl ?_
  refine g_sub (pc := 2) [1, 0] rfl ?_
  exact cb_X5_pairBlocks_L2 B ht h
theorem ct_X5_pairBlocks {D : DD} {l : Launch} {X0 : Mem} {fu : Nat} {x0 : Nat} {r : Mem} (hl : l.stackTraces = false) (h : fX5_pairBlocks fu X0 x0 = some r) : Ctr D l yX5_pairBlocks cX5_pairBlocks 4 (none) rmX5_pairBlocks [vA (some x0)] X0 (.inr (none)) r :=
  ctr_of hl (plainFor_of_name (by decide)) (Nat.le_of_ble_eq_true rfl) fun ev _ ht B => cb_X5_pairBlocks_L0 B ht h
set_option maxRecDepth 100000 in
set_option maxHeartbeats 4000000 in
theorem cb_X5_findWords_L60 {D : DD} {ev : EV} {X0 : Mem} {fu : Nat} {rec2 : Mem → Nat → Int32 → Option (Mem)} {X : Mem} {x0 : Nat} {x1 : Int32} {r : Mem} (B : Amb D (foot X0) ev RX5 "findWords" cX5_findWords 3 (none) rmX5_findWords) (ht : Tb0 ev) (hrec2 : ∀ {X : Mem} {x0 : Nat} {x1 : Int32} {r : Mem}, rec2 X x0 x1 = some r → Gd D (foot X0) ev (QF D ev X0 (.inr (none)) r rmX5_findWords) X 0 0 2 [(0, vA (some x0)), (1, vI x1)] []) (h : fX5_findWords_L60 fu rec2 X x0 x1 = some r) : Gd D (foot X0) ev (QF D ev X0 (.inr (none)) r rmX5_findWords) X 0 0 60 [(0, vA (some x0)), (1, vI x1)] [] := by
  unfold fX5_findWords_L60 at h
  refine g_iinc (pc := 60) (v := (x1 + (1 : Int32))) (L' := [(1, vI (x1 + (1 : Int32))), (0, vA (some x0))]) B dX5_findWords_60 (by decide) 1 rfl rfl rfl ?_
  refine g_goto (pc := 63) (tgt := 2) B dX5_findWords_63 (by decide) ?_
  refine g_sub (pc := 2) [1, 0] rfl ?_
  exact hrec2 h
set_option maxRecDepth 100000 in
set_option maxHeartbeats 4000000 in
theorem cb_X5_findWords_L2b {D : DD} {ev : EV} {X0 : Mem} {fu : Nat} {rec2 : Mem → Nat → Int32 → Option (Mem)} {X : Mem} {x0 : Nat} {x1 : Int32} {r : Mem} (B : Amb D (foot X0) ev RX5 "findWords" cX5_findWords 3 (none) rmX5_findWords) (ht : Tb0 ev) (hrec2 : ∀ {X : Mem} {x0 : Nat} {x1 : Int32} {r : Mem}, rec2 X x0 x1 = some r → Gd D (foot X0) ev (QF D ev X0 (.inr (none)) r rmX5_findWords) X 0 0 2 [(0, vA (some x0)), (1, vI x1)] []) (h : fX5_findWords_L2b fu rec2 X x0 x1 = some r) : Gd D (foot X0) ev (QF D ev X0 (.inr (none)) r rmX5_findWords) X 0 0 2 [(0, vA (some x0)), (1, vI x1)] [] := by
  unfold fX5_findWords_L2b at h
  refine g_iload_n (pc := 2) B dX5_findWords_2 1 rfl ?_
  refine g_aload_n (pc := 3) B dX5_findWords_3 0 rfl ?_
  obtain ⟨k4_1, h⟩ := chk h
  refine g_getR (pc := 4) 5 1 B k4_1 (by decide) (by decide) rfl kfX5_23 dX5_findWords_4 ?_
  obtain ⟨a7_2, ea7_2, h⟩ := ob h
  rw [ea7_2]
  obtain ⟨n7_2, en7_2, h⟩ := ob h
  obtain ⟨tn7_2, kn7_2, qn7_2⟩ := alen_s en7_2
  refine g_alen (pc := 7) B kn7_2 qn7_2 dX5_findWords_7 ?_
  refine g_icmp_ge (pc := 8) (tgt := 66) B dX5_findWords_8 (by decide) (fun c8 => ?_) (fun c8 => ?_)
  · rw [if_pos c8] at h
    obtain rfl := Option.some.inj h
    exact g_ret_V (pc := 66) B rfl (by decide) (by decide) dX5_findWords_66
  · rw [if_neg c8] at h
    refine g_aload_n (pc := 11) B dX5_findWords_11 0 rfl ?_
    refine g_getR (pc := 12) 5 1 B k4_1 (by decide) (by decide) rfl kfX5_23 dX5_findWords_12 ?_
    refine g_iload_n (pc := 15) B dX5_findWords_15 1 rfl ?_
    obtain ⟨a16_4, ea16_4, h⟩ := ob h
    rw [ea16_4]
    obtain ⟨c16, h⟩ := chk h
    obtain ⟨nc16, kc16, ic16⟩ := inb_s c16
    refine g_aald (pc := 16) B kc16 (by decide) (by decide) ic16 dX5_findWords_16 ?_
    refine g_astore_n (pc := 17) (L' := [(2, vA (aR X a16_4 x1.toNatClampNeg)), (0, vA (some x0)), (1, vI x1)]) B dX5_findWords_17 (by decide) rfl ?_
    refine g_aload_n (pc := 18) B dX5_findWords_18 0 rfl ?_
    refine g_ifnull (pc := 19) (tgt := 60) B dX5_findWords_19 (by decide) (fun c19 => ?_) (fun c19 => ?_)
    · rw [if_pos c19] at h
      refine g_sub (pc := 60) [1, 2] rfl ?_
      exact cb_X5_findWords_L60 B ht hrec2 h
    · rw [if_neg c19] at h
      refine g_aload_n (pc := 22) B dX5_findWords_22 0 rfl ?_
      obtain ⟨a23_5, ea23_5, h⟩ := ob h
      rw [ea23_5]
      obtain ⟨k23_6, h⟩ := chk h
      refine g_getIN (pc := 23) 4 0 B k23_6 (by decide) (by decide) rfl kfX5_63 dX5_findWords_23 ?_
      refine g_bipush (pc := 26) B dX5_findWords_26 (6 : Int32) (by decide) ?_
      refine g_icmp_ne (pc := 28) (tgt := 60) B dX5_findWords_28 (by decide) (fun c28 => ?_) (fun c28 => ?_)
      · rw [if_neg c28] at h
        refine g_sub (pc := 60) [1, 2] rfl ?_
        exact cb_X5_findWords_L60 B ht hrec2 h
      · rw [if_pos c28] at h
        refine g_aload_n (pc := 31) B dX5_findWords_31 0 rfl ?_
        refine g_getIN (pc := 32) 4 1 B k23_6 (by decide) (by decide) rfl kfX5_78 dX5_findWords_32 ?_
        refine g_if_lt (pc := 35) (tgt := 60) B dX5_findWords_35 (by decide) (fun c35 => ?_) (fun c35 => ?_)
        · rw [if_pos c35] at h
          refine g_sub (pc := 60) [1, 2] rfl ?_
          exact cb_X5_findWords_L60 B ht hrec2 h
        · rw [if_neg c35] at h
          refine g_aload_n (pc := 38) B dX5_findWords_38 0 rfl ?_
          refine g_getIN (pc := 39) 4 1 B k23_6 (by decide) (by decide) rfl kfX5_78 dX5_findWords_39 ?_
          refine g_aload_n (pc := 42) B dX5_findWords_42 1 rfl ?_
          refine g_getR (pc := 43) 5 3 B k4_1 (by decide) (by decide) rfl kfX5_34 dX5_findWords_43 ?_
          obtain ⟨a46_7, ea46_7, h⟩ := ob h
          rw [ea46_7]
          obtain ⟨n46_7, en46_7, h⟩ := ob h
          obtain ⟨tn46_7, kn46_7, qn46_7⟩ := alen_s en46_7
          refine g_alen (pc := 46) B kn46_7 qn46_7 dX5_findWords_46 ?_
          refine g_icmp_ge (pc := 47) (tgt := 60) B dX5_findWords_47 (by decide) (fun c47 => ?_) (fun c47 => ?_)
          · rw [if_pos c47] at h
            refine g_sub (pc := 60) [1, 2] rfl ?_
            exact cb_X5_findWords_L60 B ht hrec2 h
          · rw [if_neg c47] at h
            refine g_aload_n (pc := 50) B dX5_findWords_50 1 rfl ?_
            refine g_getR (pc := 51) 5 3 B k4_1 (by decide) (by decide) rfl kfX5_34 dX5_findWords_51 ?_
            refine g_aload_n (pc := 54) B dX5_findWords_54 0 rfl ?_
            refine g_getIN (pc := 55) 4 1 B k23_6 (by decide) (by decide) rfl kfX5_78 dX5_findWords_55 ?_
            refine g_iload_n (pc := 58) B dX5_findWords_58 2 rfl ?_
            obtain ⟨a59_9, ea59_9, h⟩ := ob h
            rw [ea59_9]
            obtain ⟨c59, h⟩ := chk h
            obtain ⟨nc59, kc59, ic59⟩ := inb_s c59
            refine g_iast (pc := 59) B kc59 ic59 dX5_findWords_59 ?_
            refine g_sub (pc := 60) [1, 2] rfl ?_
            exact cb_X5_findWords_L60 B ht hrec2 h
theorem cb_X5_findWords_L2n {D : DD} {ev : EV} {X0 : Mem} {fu : Nat} (B : Amb D (foot X0) ev RX5 "findWords" cX5_findWords 3 (none) rmX5_findWords) (ht : Tb0 ev)  : ∀ (n : Nat) {X : Mem} {x0 : Nat} {x1 : Int32} {r : Mem}, fX5_findWords_L2 fu n X x0 x1 = some r → Gd D (foot X0) ev (QF D ev X0 (.inr (none)) r rmX5_findWords) X 0 0 2 [(0, vA (some x0)), (1, vI x1)] [] := by
  intro n
  induction n with
  | zero => intro X x0 x1 r h; exact nomatch h
  | succ n ih => intro X x0 x1 r h; exact cb_X5_findWords_L2b (fu := fu) B ht (fun h9 => ih h9) h
theorem cb_X5_findWords_L2 {D : DD} {ev : EV} {X0 : Mem} {fu : Nat} {X : Mem} {x0 : Nat} {x1 : Int32} {n : Nat} {r : Mem} (B : Amb D (foot X0) ev RX5 "findWords" cX5_findWords 3 (none) rmX5_findWords) (ht : Tb0 ev)  (h : fX5_findWords_L2 fu n X x0 x1 = some r) : Gd D (foot X0) ev (QF D ev X0 (.inr (none)) r rmX5_findWords) X 0 0 2 [(0, vA (some x0)), (1, vI x1)] [] := cb_X5_findWords_L2n B ht n h
set_option maxRecDepth 100000 in
set_option maxHeartbeats 4000000 in
theorem cb_X5_findWords_L0 {D : DD} {ev : EV} {X0 : Mem} {fu : Nat} {X : Mem} {x0 : Nat} {r : Mem} (B : Amb D (foot X0) ev RX5 "findWords" cX5_findWords 3 (none) rmX5_findWords) (ht : Tb0 ev)  (h : fX5_findWords fu X x0 = some r) : Gd D (foot X0) ev (QF D ev X0 (.inr (none)) r rmX5_findWords) X 0 0 0 [(0, vA (some x0))] [] := by
  unfold fX5_findWords at h
  refine g_iconst (pc := 0) B dX5_findWords_0 (0 : Int32) (by decide) ?_
  refine g_istore_n (pc := 1) (L' := [(1, vI (0 : Int32)), (0, vA (some x0))]) B dX5_findWords_1 (by decide) rfl ?_
  refine g_sub (pc := 2) [1, 0] rfl ?_
  exact cb_X5_findWords_L2 B ht h
theorem ct_X5_findWords {D : DD} {l : Launch} {X0 : Mem} {fu : Nat} {x0 : Nat} {r : Mem} (hl : l.stackTraces = false) (h : fX5_findWords fu X0 x0 = some r) : Ctr D l yX5_findWords cX5_findWords 3 (none) rmX5_findWords [vA (some x0)] X0 (.inr (none)) r :=
  ctr_of hl (plainFor_of_name (by decide)) (Nat.le_of_ble_eq_true rfl) fun ev _ ht B => cb_X5_findWords_L0 B ht h
set_option maxRecDepth 100000 in
set_option maxHeartbeats 4000000 in
theorem cb_X6_init_L13b {D : DD} {ev : EV} {X0 : Mem} {fu : Nat} {rec13 : Mem → Nat → Int32 → Option (Mem)} {X : Mem} {x0 : Nat} {x1 : Int32} {r : Mem} (B : Amb D (foot X0) ev RX6 "<init>" cX6_init 2 (none) rmX6_init) (ht : Tb0 ev) (hrec13 : ∀ {X : Mem} {x0 : Nat} {x1 : Int32} {r : Mem}, rec13 X x0 x1 = some r → Gd D (foot X0) ev (QF D ev X0 (.inr (none)) r rmX6_init) X 1 4 13 [(0, vA (some x0)), (1, vI x1)] []) (h : fX6_init_L13b fu rec13 X x0 x1 = some r) : Gd D (foot X0) ev (QF D ev X0 (.inr (none)) r rmX6_init) X 1 4 13 [(0, vA (some x0)), (1, vI x1)] [] := by
  unfold fX6_init_L13b at h
  refine g_iload_n (pc := 13) B dX6_init_13 1 rfl ?_
  refine g_aload_n (pc := 14) B dX6_init_14 0 rfl ?_
  obtain ⟨k15_1, h⟩ := chk h
  refine g_getR (pc := 15) 6 0 B k15_1 (by decide) (by decide) rfl kfX6_9 dX6_init_15 ?_
  obtain ⟨a18_2, ea18_2, h⟩ := ob h
  rw [ea18_2]
  obtain ⟨n18_2, en18_2, h⟩ := ob h
  obtain ⟨tn18_2, kn18_2, qn18_2⟩ := alen_s en18_2
  refine g_alen (pc := 18) B kn18_2 qn18_2 dX6_init_18 ?_
  refine g_icmp_ge (pc := 19) (tgt := 35) B dX6_init_19 (by decide) (fun c19 => ?_) (fun c19 => ?_)
  · rw [if_pos c19] at h
    obtain rfl := Option.some.inj h
    exact g_ret_V (pc := 35) B rfl (by decide) (by decide) dX6_init_35
  · rw [if_neg c19] at h
    refine g_aload_n (pc := 22) B dX6_init_22 0 rfl ?_
    refine g_getR (pc := 23) 6 0 B k15_1 (by decide) (by decide) rfl kfX6_9 dX6_init_23 ?_
    refine g_iload_n (pc := 26) B dX6_init_26 1 rfl ?_
    refine g_iconst (pc := 27) B dX6_init_27 (-1) (by decide) ?_
    obtain ⟨a28_4, ea28_4, h⟩ := ob h
    rw [ea28_4]
    obtain ⟨c28, h⟩ := chk h
    obtain ⟨nc28, kc28, ic28⟩ := inb_s c28
    refine g_iast (pc := 28) B kc28 ic28 dX6_init_28 ?_
    refine g_iinc (pc := 29) (v := (x1 + (1 : Int32))) (L' := [(1, vI (x1 + (1 : Int32))), (0, vA (some x0))]) B dX6_init_29 (by decide) 1 rfl rfl rfl ?_
    refine g_goto (pc := 32) (tgt := 13) B dX6_init_32 (by decide) ?_
    refine g_sub (pc := 13) [1, 0] rfl ?_
    exact hrec13 h
theorem cb_X6_init_L13n {D : DD} {ev : EV} {X0 : Mem} {fu : Nat} (B : Amb D (foot X0) ev RX6 "<init>" cX6_init 2 (none) rmX6_init) (ht : Tb0 ev)  : ∀ (n : Nat) {X : Mem} {x0 : Nat} {x1 : Int32} {r : Mem}, fX6_init_L13 fu n X x0 x1 = some r → Gd D (foot X0) ev (QF D ev X0 (.inr (none)) r rmX6_init) X 1 4 13 [(0, vA (some x0)), (1, vI x1)] [] := by
  intro n
  induction n with
  | zero => intro X x0 x1 r h; exact nomatch h
  | succ n ih => intro X x0 x1 r h; exact cb_X6_init_L13b (fu := fu) B ht (fun h9 => ih h9) h
theorem cb_X6_init_L13 {D : DD} {ev : EV} {X0 : Mem} {fu : Nat} {X : Mem} {x0 : Nat} {x1 : Int32} {n : Nat} {r : Mem} (B : Amb D (foot X0) ev RX6 "<init>" cX6_init 2 (none) rmX6_init) (ht : Tb0 ev)  (h : fX6_init_L13 fu n X x0 x1 = some r) : Gd D (foot X0) ev (QF D ev X0 (.inr (none)) r rmX6_init) X 1 4 13 [(0, vA (some x0)), (1, vI x1)] [] := cb_X6_init_L13n B ht n h
set_option maxRecDepth 100000 in
set_option maxHeartbeats 4000000 in
theorem cb_X6_init_L0 {D : DD} {ev : EV} {X0 : Mem} {fu : Nat} {X : Mem} {x0 : Nat} {r : Mem} (B : Amb D (foot X0) ev RX6 "<init>" cX6_init 2 (none) rmX6_init) (ht : Tb0 ev)  (h : fX6_init fu X x0 = some r) : Gd D (foot X0) ev (QF D ev X0 (.inr (none)) r rmX6_init) X 0 0 0 [(0, vA (some x0))] [] := by
  unfold fX6_init at h
  refine g_aload_n (pc := 0) B dX6_init_0 0 rfl ?_
  refine g_objInit (pc := 1) B kmX6_3 kon koc (Nat.le_of_ble_eq_true rfl) (by decide) dX6_init_1 ?_
  refine g_aload_n (pc := 4) B dX6_init_4 0 rfl ?_
  refine g_iconst (pc := 5) B dX6_init_5 (4 : Int32) (by decide) ?_
  obtain ⟨q6, eq6, h⟩ := ob h
  obtain ⟨X6, eX6, h⟩ := ob h
  refine n_newa (pc := 6) (t := 0) (N := 4) B eX6 eq6 (by decide) rfl ka0 (by decide) (by decide) (by decide) (by decide) (by decide) dX6_init_6 ?_
  refine g_widen (cs' := 1) (sl' := 4) (by decide) (by decide) ?_
  obtain ⟨k8_1, h⟩ := chk h
  refine g_putRF (pc := 8) 6 0 B k8_1 (by decide) (by decide) rfl rfl rfl rfl kfX6_9 dX6_init_8 ?_
  refine g_iconst (pc := 11) B dX6_init_11 (0 : Int32) (by decide) ?_
  refine g_istore_n (pc := 12) (L' := [(1, vI (0 : Int32)), (0, vA (some x0))]) B dX6_init_12 (by decide) rfl ?_
  refine g_sub (pc := 13) [1, 0] rfl ?_
  exact cb_X6_init_L13 B ht h
theorem ct_X6_init {D : DD} {l : Launch} {X0 : Mem} {fu : Nat} {x0 : Nat} {r : Mem} (hl : l.stackTraces = false) (h : fX6_init fu X0 x0 = some r) : Ctr D l yX6_init cX6_init 2 (none) rmX6_init [vA (some x0)] X0 (.inr (none)) r :=
  ctr_of hl (plainFor_of_name (by decide)) (Nat.le_of_ble_eq_true rfl) fun ev _ ht B => cb_X6_init_L0 B ht h
set_option maxRecDepth 100000 in
set_option maxHeartbeats 4000000 in
theorem cb_X6_numberOf_L0 {D : DD} {ev : EV} {X0 : Mem} {X : Mem} {x0 : Nat} {x1 : Int32} {r : Int32 × Mem} (B : Amb D (foot X0) ev RX6 "numberOf" cX6_numberOf 2 (some .int) rmX6_numberOf) (ht : Tb0 ev)  (h : fX6_numberOf X x0 x1 = some r) : Gd D (foot X0) ev (QF D ev X0 (.inr (some (vI r.1))) r.2 rmX6_numberOf) X 0 0 0 [(0, vA (some x0)), (1, vI x1)] [] := by
  unfold fX6_numberOf at h
  refine g_iload_n (pc := 0) B dX6_numberOf_0 1 rfl ?_
  refine g_if_lt (pc := 1) (tgt := 13) B dX6_numberOf_1 (by decide) (fun c1 => ?_) (fun c1 => ?_)
  · rw [if_pos c1] at h
    refine g_iconst (pc := 13) B dX6_numberOf_13 (-1) (by decide) ?_
    obtain rfl := Option.some.inj h
    exact g_ret_I (pc := 14) B rfl (by decide) (by decide) dX6_numberOf_14
  · rw [if_neg c1] at h
    refine g_iload_n (pc := 4) B dX6_numberOf_4 1 rfl ?_
    refine g_aload_n (pc := 5) B dX6_numberOf_5 0 rfl ?_
    obtain ⟨k6_1, h⟩ := chk h
    refine g_getR (pc := 6) 6 0 B k6_1 (by decide) (by decide) rfl kfX6_9 dX6_numberOf_6 ?_
    obtain ⟨a9_2, ea9_2, h⟩ := ob h
    rw [ea9_2]
    obtain ⟨n9_2, en9_2, h⟩ := ob h
    obtain ⟨tn9_2, kn9_2, qn9_2⟩ := alen_s en9_2
    refine g_alen (pc := 9) B kn9_2 qn9_2 dX6_numberOf_9 ?_
    refine g_icmp_lt (pc := 10) (tgt := 15) B dX6_numberOf_10 (by decide) (fun c10 => ?_) (fun c10 => ?_)
    · rw [if_pos c10] at h
      refine g_aload_n (pc := 15) B dX6_numberOf_15 0 rfl ?_
      refine g_getR (pc := 16) 6 0 B k6_1 (by decide) (by decide) rfl kfX6_9 dX6_numberOf_16 ?_
      refine g_iload_n (pc := 19) B dX6_numberOf_19 1 rfl ?_
      obtain ⟨a20_4, ea20_4, h⟩ := ob h
      rw [ea20_4]
      obtain ⟨c20, h⟩ := chk h
      obtain ⟨nc20, kc20, ic20⟩ := inb_s c20
      refine g_iald (pc := 20) B kc20 ic20 dX6_numberOf_20 ?_
      refine g_iconst (pc := 21) B dX6_numberOf_21 (-1) (by decide) ?_
      refine g_icmp_ne (pc := 22) (tgt := 45) B dX6_numberOf_22 (by decide) (fun c22 => ?_) (fun c22 => ?_)
      · rw [if_neg c22] at h
        refine g_aload_n (pc := 45) B dX6_numberOf_45 0 rfl ?_
        refine g_getR (pc := 46) 6 0 B k6_1 (by decide) (by decide) rfl kfX6_9 dX6_numberOf_46 ?_
        refine g_iload_n (pc := 49) B dX6_numberOf_49 1 rfl ?_
        obtain ⟨a50_5, ea50_5, h⟩ := ob h
        rw [ea50_5]
        obtain ⟨c50, h⟩ := chk h
        obtain ⟨nc50, kc50, ic50⟩ := inb_s c50
        refine g_iald (pc := 50) B kc50 ic50 dX6_numberOf_50 ?_
        obtain rfl := Option.some.inj h
        exact g_ret_I (pc := 51) B rfl (by decide) (by decide) dX6_numberOf_51
      · rw [if_pos c22] at h
        refine g_aload_n (pc := 25) B dX6_numberOf_25 0 rfl ?_
        refine g_getR (pc := 26) 6 0 B k6_1 (by decide) (by decide) rfl kfX6_9 dX6_numberOf_26 ?_
        refine g_iload_n (pc := 29) B dX6_numberOf_29 1 rfl ?_
        refine g_aload_n (pc := 30) B dX6_numberOf_30 0 rfl ?_
        refine g_getI (pc := 31) 6 1 B k6_1 (by decide) (by decide) rfl kfX6_15 dX6_numberOf_31 ?_
        obtain ⟨a34_6, ea34_6, h⟩ := ob h
        rw [ea34_6]
        obtain ⟨c34, h⟩ := chk h
        obtain ⟨nc34, kc34, ic34⟩ := inb_s c34
        refine g_iast (pc := 34) B kc34 ic34 dX6_numberOf_34 ?_
        refine g_aload_n (pc := 35) B dX6_numberOf_35 0 rfl ?_
        refine g_dup (pc := 36) B dX6_numberOf_36 rfl ?_
        refine g_getI (pc := 37) 6 1 B k6_1 (by decide) (by decide) rfl kfX6_15 dX6_numberOf_37 ?_
        refine g_iconst (pc := 40) B dX6_numberOf_40 (1 : Int32) (by decide) ?_
        refine g_iadd (pc := 41) B dX6_numberOf_41 ?_
        refine g_putI (pc := 42) 6 1 B k6_1 (by decide) (by decide) rfl rfl kfX6_15 dX6_numberOf_42 ?_
        refine g_aload_n (pc := 45) B dX6_numberOf_45 0 rfl ?_
        refine g_getR (pc := 46) 6 0 B k6_1 (by decide) (by decide) rfl kfX6_9 dX6_numberOf_46 ?_
        refine g_iload_n (pc := 49) B dX6_numberOf_49 1 rfl ?_
        obtain ⟨a50_7, ea50_7, h⟩ := ob h
        rw [ea50_7]
        obtain ⟨c50, h⟩ := chk h
        obtain ⟨nc50, kc50, ic50⟩ := inb_s c50
        refine g_iald (pc := 50) B kc50 ic50 dX6_numberOf_50 ?_
        obtain rfl := Option.some.inj h
        exact g_ret_I (pc := 51) B rfl (by decide) (by decide) dX6_numberOf_51
    · rw [if_neg c10] at h
      refine g_iconst (pc := 13) B dX6_numberOf_13 (-1) (by decide) ?_
      obtain rfl := Option.some.inj h
      exact g_ret_I (pc := 14) B rfl (by decide) (by decide) dX6_numberOf_14
theorem ct_X6_numberOf {D : DD} {l : Launch} {X0 : Mem} {x0 : Nat} {x1 : Int32} {r : Int32 × Mem} (hl : l.stackTraces = false) (h : fX6_numberOf X0 x0 x1 = some r) : Ctr D l yX6_numberOf cX6_numberOf 2 (some .int) rmX6_numberOf [vA (some x0), vI x1] X0 (.inr (some (vI r.1))) r.2 :=
  ctr_of hl (plainFor_of_name (by decide)) (Nat.le_of_ble_eq_true rfl) fun ev _ ht B => cb_X6_numberOf_L0 B ht h
set_option maxRecDepth 100000 in
set_option maxHeartbeats 4000000 in
theorem cb_X5_codeOf_L22 {D : DD} {ev : EV} {X0 : Mem} {x2 : Int32} {s0 : Int32} {s1 : Int32} {r : Int32} (B : Amb D (foot X0) ev RX5 "codeOf" cX5_codeOf 4 (some .int) rmX5_codeOf) (ht : Tb0 ev)  (h : fX5_codeOf_L22 X0 x2 s0 s1 = some r) : Gd D (foot X0) ev (QF D ev X0 (.inr (some (vI r))) X0 rmX5_codeOf) X0 0 0 22 [(2, vI x2)] [vI s1, vI s0] := by
  unfold fX5_codeOf_L22 at h
  refine g_ior (pc := 22) B dX5_codeOf_22 ?_
  refine g_istore_n (pc := 23) (L' := [(3, vI (s0 ||| s1)), (2, vI x2)]) B dX5_codeOf_23 (by decide) rfl ?_
  refine g_iload_n (pc := 24) B dX5_codeOf_24 0 rfl ?_
  refine g_bipush (pc := 25) B dX5_codeOf_25 (8 : Int32) (by decide) ?_
  refine g_ishl (pc := 27) B dX5_codeOf_27 ?_
  refine g_iload_n (pc := 28) B dX5_codeOf_28 1 rfl ?_
  refine g_bipush (pc := 29) B dX5_codeOf_29 (99 : Int32) (by decide) ?_
  refine g_iadd (pc := 31) B dX5_codeOf_31 ?_
  refine g_ior (pc := 32) B dX5_codeOf_32 ?_
  obtain rfl := Option.some.inj h
  exact g_ret_I (pc := 33) B rfl (by decide) (by decide) dX5_codeOf_33
set_option maxRecDepth 100000 in
set_option maxHeartbeats 4000000 in
theorem cb_X5_codeOf_L0 {D : DD} {ev : EV} {X0 : Mem} {x0 : Option Nat} {x1 : Int32} {x2 : Int32} {r : Int32} (B : Amb D (foot X0) ev RX5 "codeOf" cX5_codeOf 4 (some .int) rmX5_codeOf) (ht : Tb0 ev)  (h : fX5_codeOf X0 x0 x1 x2 = some r) : Gd D (foot X0) ev (QF D ev X0 (.inr (some (vI r))) X0 rmX5_codeOf) X0 0 0 0 [(0, vA x0), (1, vI x1), (2, vI x2)] [] := by
  unfold fX5_codeOf at h
  refine g_aload_n (pc := 0) B dX5_codeOf_0 0 rfl ?_
  obtain ⟨a1_1, ea1_1, h⟩ := ob h
  rw [ea1_1]
  obtain ⟨k1_2, h⟩ := chk h
  refine g_getIN (pc := 1) 4 0 B k1_2 (by decide) (by decide) rfl kfX5_63 dX5_codeOf_1 ?_
  refine g_iconst (pc := 4) B dX5_codeOf_4 (4 : Int32) (by decide) ?_
  refine g_ishl (pc := 5) B dX5_codeOf_5 ?_
  refine g_iload_n (pc := 6) B dX5_codeOf_6 1 rfl ?_
  refine g_iconst (pc := 7) B dX5_codeOf_7 (1 : Int32) (by decide) ?_
  refine g_ishl (pc := 8) B dX5_codeOf_8 ?_
  refine g_ior (pc := 9) B dX5_codeOf_9 ?_
  refine g_aload_n (pc := 10) B dX5_codeOf_10 0 rfl ?_
  refine g_getIN (pc := 11) 4 3 B k1_2 (by decide) (by decide) rfl kfX5_87 dX5_codeOf_11 ?_
  refine g_if_eq (pc := 14) (tgt := 21) B dX5_codeOf_14 (by decide) (fun c14 => ?_) (fun c14 => ?_)
  · rw [if_pos c14] at h
    refine g_iconst (pc := 21) B dX5_codeOf_21 (0 : Int32) (by decide) ?_
    refine g_sub (pc := 22) [2] rfl ?_
    exact cb_X5_codeOf_L22 B ht h
  · rw [if_neg c14] at h
    refine g_iconst (pc := 17) B dX5_codeOf_17 (1 : Int32) (by decide) ?_
    refine g_goto (pc := 18) (tgt := 22) B dX5_codeOf_18 (by decide) ?_
    refine g_sub (pc := 22) [2] rfl ?_
    exact cb_X5_codeOf_L22 B ht h
theorem ct_X5_codeOf {D : DD} {l : Launch} {X0 : Mem} {x0 : Option Nat} {x1 : Int32} {x2 : Int32} {r : Int32} (hl : l.stackTraces = false) (h : fX5_codeOf X0 x0 x1 x2 = some r) : Ctr D l yX5_codeOf cX5_codeOf 4 (some .int) rmX5_codeOf [vA x0, vI x1, vI x2] X0 (.inr (some (vI r))) X0 :=
  ctr_of hl (plainFor_of_name (by decide)) (Nat.le_of_ble_eq_true rfl) fun ev _ ht B => cb_X5_codeOf_L0 B ht h
set_option maxRecDepth 100000 in
set_option maxHeartbeats 4000000 in
theorem cb_X5_buildForm_L157 {D : DD} {ev : EV} {X0 : Mem} {fu : Nat} {rec18 : Mem → Nat → Nat → Nat → Int32 → Option (Mem)} {X : Mem} {x0 : Nat} {x1 : Nat} {x2 : Nat} {x3 : Int32} {r : Mem} (B : Amb D (foot X0) ev RX5 "buildForm" cX5_buildForm 7 (none) rmX5_buildForm) (ht : Tb0 ev) (hrec18 : ∀ {X : Mem} {x0 : Nat} {x1 : Nat} {x2 : Nat} {x3 : Int32} {r : Mem}, rec18 X x0 x1 x2 x3 = some r → Gd D (foot X0) ev (QF D ev X0 (.inr (none)) r rmX5_buildForm) X 4 12 18 [(0, vA (some x0)), (1, vA (some x1)), (2, vA (some x2)), (3, vI x3)] []) (h : fX5_buildForm_L157 fu rec18 X x0 x1 x2 x3 = some r) : Gd D (foot X0) ev (QF D ev X0 (.inr (none)) r rmX5_buildForm) X 4 12 157 [(0, vA (some x0)), (1, vA (some x1)), (2, vA (some x2)), (3, vI x3)] [] := by
  unfold fX5_buildForm_L157 at h
  refine g_iinc (pc := 157) (v := (x3 + (1 : Int32))) (L' := [(3, vI (x3 + (1 : Int32))), (0, vA (some x0)), (1, vA (some x1)), (2, vA (some x2))]) B dX5_buildForm_157 (by decide) 3 rfl rfl rfl ?_
  refine g_goto (pc := 160) (tgt := 18) B dX5_buildForm_160 (by decide) ?_
  refine g_sub (pc := 18) [1, 2, 3, 0] rfl ?_
  exact hrec18 h
set_option maxRecDepth 100000 in
set_option maxHeartbeats 4000000 in
theorem cb_X5_buildForm_L140 {D : DD} {ev : EV} {X0 : Mem} {fu : Nat} {rec18 : Mem → Nat → Nat → Nat → Int32 → Option (Mem)} {X : Mem} {x0 : Nat} {x1 : Nat} {x2 : Nat} {x3 : Int32} {x4 : Nat} {x5 : Int32} {s0 : Int32} {r : Mem} (B : Amb D (foot X0) ev RX5 "buildForm" cX5_buildForm 7 (none) rmX5_buildForm) (ht : Tb0 ev) (hrec18 : ∀ {X : Mem} {x0 : Nat} {x1 : Nat} {x2 : Nat} {x3 : Int32} {r : Mem}, rec18 X x0 x1 x2 x3 = some r → Gd D (foot X0) ev (QF D ev X0 (.inr (none)) r rmX5_buildForm) X 4 12 18 [(0, vA (some x0)), (1, vA (some x1)), (2, vA (some x2)), (3, vI x3)] []) (h : fX5_buildForm_L140 fu rec18 X x0 x1 x2 x3 x4 x5 s0 = some r) : Gd D (foot X0) ev (QF D ev X0 (.inr (none)) r rmX5_buildForm) X 4 12 140 [(0, vA (some x0)), (1, vA (some x1)), (2, vA (some x2)), (3, vI x3), (4, vA (some x4)), (5, vI x5)] [vI s0] := by
  unfold fX5_buildForm_L140 at h
  refine g_istore (pc := 140) (L' := [(6, vI s0), (0, vA (some x0)), (1, vA (some x1)), (2, vA (some x2)), (3, vI x3), (4, vA (some x4)), (5, vI x5)]) B dX5_buildForm_140 (by decide) rfl ?_
  refine g_aload_n (pc := 142) B dX5_buildForm_142 1 rfl ?_
  obtain ⟨k143_1, h⟩ := chk h
  refine g_getR (pc := 143) 5 4 B k143_1 (by decide) (by decide) rfl kfX5_31 dX5_buildForm_143 ?_
  refine g_iload_n (pc := 146) B dX5_buildForm_146 4 rfl ?_
  refine g_aload (pc := 147) B dX5_buildForm_147 5 rfl ?_
  refine g_iload (pc := 149) B dX5_buildForm_149 6 rfl ?_
  refine g_iload (pc := 151) B dX5_buildForm_151 0 rfl ?_
  obtain ⟨v153, e153, h⟩ := ob h
  refine h_callS (pc := 153) (As := [vA (some x4), vI x5, vI s0]) (st := [vI x3, vA (mR X 504 x0)]) (X' := X) (cs' := 4) (sl' := 12) (st10 := [vI v153, vI x3, vA (mR X 504 x0)]) B cal_X5_codeOf kmX5_94 kz_X5_codeOf (fun l hl => ct_X5_codeOf hl e153) rfl (Nat.le_of_ble_eq_true rfl) (by decide) (by decide) dX5_buildForm_153 rfl rfl rfl rfl ?_
  obtain ⟨a156_2, ea156_2, h⟩ := ob h
  rw [ea156_2]
  obtain ⟨c156, h⟩ := chk h
  obtain ⟨nc156, kc156, ic156⟩ := inb_s c156
  refine g_iast (pc := 156) B kc156 ic156 dX5_buildForm_156 ?_
  refine g_sub (pc := 157) [1, 2, 3, 4] rfl ?_
  exact cb_X5_buildForm_L157 B ht hrec18 h
set_option maxRecDepth 100000 in
set_option maxHeartbeats 4000000 in
theorem cb_X5_buildForm_L115 {D : DD} {ev : EV} {X0 : Mem} {fu : Nat} {rec18 : Mem → Nat → Nat → Nat → Int32 → Option (Mem)} {X : Mem} {x0 : Nat} {x1 : Nat} {x2 : Nat} {x3 : Int32} {x4 : Nat} {x5 : Int32} {r : Mem} (B : Amb D (foot X0) ev RX5 "buildForm" cX5_buildForm 7 (none) rmX5_buildForm) (ht : Tb0 ev) (hrec18 : ∀ {X : Mem} {x0 : Nat} {x1 : Nat} {x2 : Nat} {x3 : Int32} {r : Mem}, rec18 X x0 x1 x2 x3 = some r → Gd D (foot X0) ev (QF D ev X0 (.inr (none)) r rmX5_buildForm) X 4 12 18 [(0, vA (some x0)), (1, vA (some x1)), (2, vA (some x2)), (3, vI x3)] []) (h : fX5_buildForm_L115 fu rec18 X x0 x1 x2 x3 x4 x5 = some r) : Gd D (foot X0) ev (QF D ev X0 (.inr (none)) r rmX5_buildForm) X 4 12 115 [(0, vA (some x0)), (1, vA (some x1)), (2, vA (some x2)), (3, vI x3), (4, vA (some x4)), (5, vI x5)] [] := by
  unfold fX5_buildForm_L115 at h
  refine g_aload (pc := 115) B dX5_buildForm_115 4 rfl ?_
  obtain ⟨k117_1, h⟩ := chk h
  refine g_getIN (pc := 117) 4 3 B k117_1 (by decide) (by decide) rfl kfX5_87 dX5_buildForm_117 ?_
  refine g_if_eq (pc := 120) (tgt := 135) B dX5_buildForm_120 (by decide) (fun c120 => ?_) (fun c120 => ?_)
  · rw [if_pos c120] at h
    refine g_aload (pc := 135) B dX5_buildForm_135 4 rfl ?_
    refine g_getIN (pc := 137) 4 2 B k117_1 (by decide) (by decide) rfl kfX5_91 dX5_buildForm_137 ?_
    refine g_sub (pc := 140) [0, 1, 2, 3, 4, 5] rfl ?_
    exact cb_X5_buildForm_L140 B ht hrec18 h
  · rw [if_neg c120] at h
    refine g_aload_n (pc := 123) B dX5_buildForm_123 1 rfl ?_
    refine g_aload (pc := 124) B dX5_buildForm_124 4 rfl ?_
    refine g_getIN (pc := 126) 4 2 B k117_1 (by decide) (by decide) rfl kfX5_91 dX5_buildForm_126 ?_
    obtain ⟨k129_2, h⟩ := chk h
    obtain ⟨v129, X129, e129, h⟩ := obW h
    refine h_callV (pc := 129) (As := [vI (mI X 402 x4)]) (st := []) (X' := X129) (cs' := 4) (sl' := 12) (st10 := [vI v129]) B cal_X6_numberOf kmX5_84 kn_X6_numberOf ks_X6_numberOf k129_2 (by decide) rfl (fun l hl => ct_X6_numberOf hl e129) rfl (Nat.le_of_ble_eq_true rfl) (by decide) (by decide) dX5_buildForm_129 rfl rfl rfl rfl ?_
    refine g_goto (pc := 132) (tgt := 140) B dX5_buildForm_132 (by decide) ?_
    refine g_sub (pc := 140) [0, 1, 2, 3, 4, 5] rfl ?_
    exact cb_X5_buildForm_L140 B ht hrec18 h
set_option maxRecDepth 100000 in
set_option maxHeartbeats 4000000 in
theorem cb_X5_buildForm_L70 {D : DD} {ev : EV} {X0 : Mem} {fu : Nat} {rec18 : Mem → Nat → Nat → Nat → Int32 → Option (Mem)} {X : Mem} {x0 : Nat} {x1 : Nat} {x2 : Nat} {x3 : Int32} {x4 : Nat} {r : Mem} (B : Amb D (foot X0) ev RX5 "buildForm" cX5_buildForm 7 (none) rmX5_buildForm) (ht : Tb0 ev) (hrec18 : ∀ {X : Mem} {x0 : Nat} {x1 : Nat} {x2 : Nat} {x3 : Int32} {r : Mem}, rec18 X x0 x1 x2 x3 = some r → Gd D (foot X0) ev (QF D ev X0 (.inr (none)) r rmX5_buildForm) X 4 12 18 [(0, vA (some x0)), (1, vA (some x1)), (2, vA (some x2)), (3, vI x3)] []) (h : fX5_buildForm_L70 fu rec18 X x0 x1 x2 x3 x4 = some r) : Gd D (foot X0) ev (QF D ev X0 (.inr (none)) r rmX5_buildForm) X 4 12 70 [(0, vA (some x0)), (1, vA (some x1)), (2, vA (some x2)), (3, vI x3), (4, vA (some x4))] [] := by
  unfold fX5_buildForm_L70 at h
  refine g_aload_n (pc := 70) B dX5_buildForm_70 1 rfl ?_
  refine g_aload (pc := 71) B dX5_buildForm_71 4 rfl ?_
  obtain ⟨k73_1, h⟩ := chk h
  refine g_getIN (pc := 73) 4 1 B k73_1 (by decide) (by decide) rfl kfX5_78 dX5_buildForm_73 ?_
  obtain ⟨k76_2, h⟩ := chk h
  obtain ⟨v76, X76, e76, h⟩ := obW h
  refine h_callV (pc := 76) (As := [vI (mI X 401 x4)]) (st := []) (X' := X76) (cs' := 4) (sl' := 12) (st10 := [vI v76]) B cal_X6_numberOf kmX5_84 kn_X6_numberOf ks_X6_numberOf k76_2 (by decide) rfl (fun l hl => ct_X6_numberOf hl e76) rfl (Nat.le_of_ble_eq_true rfl) (by decide) (by decide) dX5_buildForm_76 rfl rfl rfl rfl ?_
  refine g_istore (pc := 79) (L' := [(5, vI v76), (0, vA (some x0)), (1, vA (some x1)), (2, vA (some x2)), (3, vI x3), (4, vA (some x4))]) B dX5_buildForm_79 (by decide) rfl ?_
  refine g_goto (pc := 81) (tgt := 115) B dX5_buildForm_81 (by decide) ?_
  refine g_sub (pc := 115) [1, 2, 3, 4, 5, 0] rfl ?_
  exact cb_X5_buildForm_L115 B ht hrec18 h
set_option maxRecDepth 100000 in
set_option maxHeartbeats 4000000 in
theorem cb_X5_buildForm_L104 {D : DD} {ev : EV} {X0 : Mem} {fu : Nat} {rec18 : Mem → Nat → Nat → Nat → Int32 → Option (Mem)} {X : Mem} {x0 : Nat} {x1 : Nat} {x2 : Nat} {x3 : Int32} {x4 : Nat} {r : Mem} (B : Amb D (foot X0) ev RX5 "buildForm" cX5_buildForm 7 (none) rmX5_buildForm) (ht : Tb0 ev) (hrec18 : ∀ {X : Mem} {x0 : Nat} {x1 : Nat} {x2 : Nat} {x3 : Int32} {r : Mem}, rec18 X x0 x1 x2 x3 = some r → Gd D (foot X0) ev (QF D ev X0 (.inr (none)) r rmX5_buildForm) X 4 12 18 [(0, vA (some x0)), (1, vA (some x1)), (2, vA (some x2)), (3, vI x3)] []) (h : fX5_buildForm_L104 fu rec18 X x0 x1 x2 x3 x4 = some r) : Gd D (foot X0) ev (QF D ev X0 (.inr (none)) r rmX5_buildForm) X 4 12 104 [(0, vA (some x0)), (1, vA (some x1)), (2, vA (some x2)), (3, vI x3), (4, vA (some x4))] [] := by
  unfold fX5_buildForm_L104 at h
  refine g_aload_n (pc := 104) B dX5_buildForm_104 2 rfl ?_
  refine g_aload (pc := 105) B dX5_buildForm_105 4 rfl ?_
  obtain ⟨k107_1, h⟩ := chk h
  refine g_getIN (pc := 107) 4 1 B k107_1 (by decide) (by decide) rfl kfX5_78 dX5_buildForm_107 ?_
  obtain ⟨k110_2, h⟩ := chk h
  obtain ⟨v110, X110, e110, h⟩ := obW h
  refine h_callV (pc := 110) (As := [vI (mI X 401 x4)]) (st := []) (X' := X110) (cs' := 4) (sl' := 12) (st10 := [vI v110]) B cal_X6_numberOf kmX5_84 kn_X6_numberOf ks_X6_numberOf k110_2 (by decide) rfl (fun l hl => ct_X6_numberOf hl e110) rfl (Nat.le_of_ble_eq_true rfl) (by decide) (by decide) dX5_buildForm_110 rfl rfl rfl rfl ?_
  refine g_istore (pc := 113) (L' := [(5, vI v110), (0, vA (some x0)), (1, vA (some x1)), (2, vA (some x2)), (3, vI x3), (4, vA (some x4))]) B dX5_buildForm_113 (by decide) rfl ?_
  refine g_sub (pc := 115) [1, 2, 3, 4, 5, 0] rfl ?_
  exact cb_X5_buildForm_L115 B ht hrec18 h
set_option maxRecDepth 100000 in
set_option maxHeartbeats 4000000 in
theorem cb_X5_buildForm_L18b {D : DD} {ev : EV} {X0 : Mem} {fu : Nat} {rec18 : Mem → Nat → Nat → Nat → Int32 → Option (Mem)} {X : Mem} {x0 : Nat} {x1 : Nat} {x2 : Nat} {x3 : Int32} {r : Mem} (B : Amb D (foot X0) ev RX5 "buildForm" cX5_buildForm 7 (none) rmX5_buildForm) (ht : Tb0 ev) (hrec18 : ∀ {X : Mem} {x0 : Nat} {x1 : Nat} {x2 : Nat} {x3 : Int32} {r : Mem}, rec18 X x0 x1 x2 x3 = some r → Gd D (foot X0) ev (QF D ev X0 (.inr (none)) r rmX5_buildForm) X 4 12 18 [(0, vA (some x0)), (1, vA (some x1)), (2, vA (some x2)), (3, vI x3)] []) (h : fX5_buildForm_L18b fu rec18 X x0 x1 x2 x3 = some r) : Gd D (foot X0) ev (QF D ev X0 (.inr (none)) r rmX5_buildForm) X 4 12 18 [(0, vA (some x0)), (1, vA (some x1)), (2, vA (some x2)), (3, vI x3)] [] := by
  unfold fX5_buildForm_L18b at h
  refine g_iload_n (pc := 18) B dX5_buildForm_18 3 rfl ?_
  refine g_aload_n (pc := 19) B dX5_buildForm_19 0 rfl ?_
  obtain ⟨k20_1, h⟩ := chk h
  refine g_getR (pc := 20) 5 1 B k20_1 (by decide) (by decide) rfl kfX5_23 dX5_buildForm_20 ?_
  obtain ⟨a23_2, ea23_2, h⟩ := ob h
  rw [ea23_2]
  obtain ⟨n23_2, en23_2, h⟩ := ob h
  obtain ⟨tn23_2, kn23_2, qn23_2⟩ := alen_s en23_2
  refine g_alen (pc := 23) B kn23_2 qn23_2 dX5_buildForm_23 ?_
  refine g_icmp_ge (pc := 24) (tgt := 163) B dX5_buildForm_24 (by decide) (fun c24 => ?_) (fun c24 => ?_)
  · rw [if_pos c24] at h
    obtain rfl := Option.some.inj h
    exact g_ret_V (pc := 163) B rfl (by decide) (by decide) dX5_buildForm_163
  · rw [if_neg c24] at h
    refine g_iload_n (pc := 27) B dX5_buildForm_27 3 rfl ?_
    refine g_aload_n (pc := 28) B dX5_buildForm_28 0 rfl ?_
    refine g_getR (pc := 29) 5 4 B k20_1 (by decide) (by decide) rfl kfX5_31 dX5_buildForm_29 ?_
    obtain ⟨a32_4, ea32_4, h⟩ := ob h
    rw [ea32_4]
    obtain ⟨n32_4, en32_4, h⟩ := ob h
    obtain ⟨tn32_4, kn32_4, qn32_4⟩ := alen_s en32_4
    refine g_alen (pc := 32) B kn32_4 qn32_4 dX5_buildForm_32 ?_
    refine g_icmp_ge (pc := 33) (tgt := 163) B dX5_buildForm_33 (by decide) (fun c33 => ?_) (fun c33 => ?_)
    · rw [if_pos c33] at h
      obtain rfl := Option.some.inj h
      exact g_ret_V (pc := 163) B rfl (by decide) (by decide) dX5_buildForm_163
    · rw [if_neg c33] at h
      refine g_aload_n (pc := 36) B dX5_buildForm_36 0 rfl ?_
      refine g_getR (pc := 37) 5 1 B k20_1 (by decide) (by decide) rfl kfX5_23 dX5_buildForm_37 ?_
      refine g_iload_n (pc := 40) B dX5_buildForm_40 3 rfl ?_
      obtain ⟨a41_6, ea41_6, h⟩ := ob h
      rw [ea41_6]
      obtain ⟨c41, h⟩ := chk h
      obtain ⟨nc41, kc41, ic41⟩ := inb_s c41
      refine g_aald (pc := 41) B kc41 (by decide) (by decide) ic41 dX5_buildForm_41 ?_
      refine g_astore (pc := 42) (L' := [(4, vA (aR X a41_6 x3.toNatClampNeg)), (0, vA (some x0)), (1, vA (some x1)), (2, vA (some x2)), (3, vI x3)]) B dX5_buildForm_42 (by decide) rfl ?_
      refine g_aload (pc := 44) B dX5_buildForm_44 0 rfl ?_
      refine g_ifnull (pc := 46) (tgt := 157) B dX5_buildForm_46 (by decide) (fun c46 => ?_) (fun c46 => ?_)
      · rw [if_pos c46] at h
        refine g_sub (pc := 157) [1, 2, 3, 4] rfl ?_
        exact cb_X5_buildForm_L157 B ht hrec18 h
      · rw [if_neg c46] at h
        refine g_iconst (pc := 49) B dX5_buildForm_49 (0 : Int32) (by decide) ?_
        refine g_istore (pc := 50) (L' := [(5, vI (0 : Int32)), (4, vA (aR X a41_6 x3.toNatClampNeg)), (0, vA (some x0)), (1, vA (some x1)), (2, vA (some x2)), (3, vI x3)]) B dX5_buildForm_50 (by decide) rfl ?_
        refine g_aload (pc := 52) B dX5_buildForm_52 1 rfl ?_
        obtain ⟨a54_7, ea54_7, h⟩ := ob h
        rw [ea54_7]
        obtain ⟨k54_8, h⟩ := chk h
        refine g_getIN (pc := 54) 4 0 B k54_8 (by decide) (by decide) rfl kfX5_63 dX5_buildForm_54 ?_
        refine g_iconst (pc := 57) B dX5_buildForm_57 (3 : Int32) (by decide) ?_
        refine g_icmp_eq (pc := 58) (tgt := 70) B dX5_buildForm_58 (by decide) (fun c58 => ?_) (fun c58 => ?_)
        · rw [if_pos c58] at h
          refine g_sub (pc := 70) [2, 3, 4, 5, 1] rfl ?_
          exact cb_X5_buildForm_L70 B ht hrec18 h
        · rw [if_neg c58] at h
          refine g_aload (pc := 61) B dX5_buildForm_61 1 rfl ?_
          refine g_getIN (pc := 63) 4 0 B k54_8 (by decide) (by decide) rfl kfX5_63 dX5_buildForm_63 ?_
          refine g_iconst (pc := 66) B dX5_buildForm_66 (4 : Int32) (by decide) ?_
          refine g_icmp_ne (pc := 67) (tgt := 84) B dX5_buildForm_67 (by decide) (fun c67 => ?_) (fun c67 => ?_)
          · rw [if_neg c67] at h
            refine g_aload (pc := 84) B dX5_buildForm_84 1 rfl ?_
            refine g_getIN (pc := 86) 4 0 B k54_8 (by decide) (by decide) rfl kfX5_63 dX5_buildForm_86 ?_
            refine g_bipush (pc := 89) B dX5_buildForm_89 (6 : Int32) (by decide) ?_
            refine g_icmp_eq (pc := 91) (tgt := 104) B dX5_buildForm_91 (by decide) (fun c91 => ?_) (fun c91 => ?_)
            · rw [if_pos c91] at h
              refine g_sub (pc := 104) [2, 3, 4, 5, 1] rfl ?_
              exact cb_X5_buildForm_L104 B ht hrec18 h
            · rw [if_neg c91] at h
              refine g_aload (pc := 94) B dX5_buildForm_94 1 rfl ?_
              refine g_getIN (pc := 96) 4 0 B k54_8 (by decide) (by decide) rfl kfX5_63 dX5_buildForm_96 ?_
              refine g_bipush (pc := 99) B dX5_buildForm_99 (7 : Int32) (by decide) ?_
              refine g_icmp_ne (pc := 101) (tgt := 115) B dX5_buildForm_101 (by decide) (fun c101 => ?_) (fun c101 => ?_)
              · rw [if_neg c101] at h
                refine g_sub (pc := 115) [2, 3, 4, 5, 1, 0] rfl ?_
                exact cb_X5_buildForm_L115 B ht hrec18 h
              · rw [if_pos c101] at h
                refine g_sub (pc := 104) [2, 3, 4, 5, 1] rfl ?_
                exact cb_X5_buildForm_L104 B ht hrec18 h
          · rw [if_pos c67] at h
            refine g_sub (pc := 70) [2, 3, 4, 5, 1] rfl ?_
            exact cb_X5_buildForm_L70 B ht hrec18 h
theorem cb_X5_buildForm_L18n {D : DD} {ev : EV} {X0 : Mem} {fu : Nat} (B : Amb D (foot X0) ev RX5 "buildForm" cX5_buildForm 7 (none) rmX5_buildForm) (ht : Tb0 ev)  : ∀ (n : Nat) {X : Mem} {x0 : Nat} {x1 : Nat} {x2 : Nat} {x3 : Int32} {r : Mem}, fX5_buildForm_L18 fu n X x0 x1 x2 x3 = some r → Gd D (foot X0) ev (QF D ev X0 (.inr (none)) r rmX5_buildForm) X 4 12 18 [(0, vA (some x0)), (1, vA (some x1)), (2, vA (some x2)), (3, vI x3)] [] := by
  intro n
  induction n with
  | zero => intro X x0 x1 x2 x3 r h; exact nomatch h
  | succ n ih => intro X x0 x1 x2 x3 r h; exact cb_X5_buildForm_L18b (fu := fu) B ht (fun h9 => ih h9) h
theorem cb_X5_buildForm_L18 {D : DD} {ev : EV} {X0 : Mem} {fu : Nat} {X : Mem} {x0 : Nat} {x1 : Nat} {x2 : Nat} {x3 : Int32} {n : Nat} {r : Mem} (B : Amb D (foot X0) ev RX5 "buildForm" cX5_buildForm 7 (none) rmX5_buildForm) (ht : Tb0 ev)  (h : fX5_buildForm_L18 fu n X x0 x1 x2 x3 = some r) : Gd D (foot X0) ev (QF D ev X0 (.inr (none)) r rmX5_buildForm) X 4 12 18 [(0, vA (some x0)), (1, vA (some x1)), (2, vA (some x2)), (3, vI x3)] [] := cb_X5_buildForm_L18n B ht n h
set_option maxRecDepth 100000 in
set_option maxHeartbeats 4000000 in
theorem cb_X5_buildForm_L0 {D : DD} {ev : EV} {X0 : Mem} {fu : Nat} {X : Mem} {x0 : Nat} {r : Mem} (B : Amb D (foot X0) ev RX5 "buildForm" cX5_buildForm 7 (none) rmX5_buildForm) (ht : Tb0 ev)  (h : fX5_buildForm fu X x0 = some r) : Gd D (foot X0) ev (QF D ev X0 (.inr (none)) r rmX5_buildForm) X 0 0 0 [(0, vA (some x0))] [] := by
  unfold fX5_buildForm at h
  obtain ⟨q0, eq0, h⟩ := ob h
  obtain ⟨X0, eX0, h⟩ := ob h
  refine n_new (pc := 0) 6 B eX0 eq0 (by decide) kxX5_81 kin6 kiz6 (by decide) (by decide) dX5_buildForm_0 ?_
  refine g_widen (cs' := 1) (sl' := 2) (by decide) (by decide) ?_
  refine g_dup (pc := 3) B dX5_buildForm_3 rfl ?_
  obtain ⟨X4, e4, h⟩ := ob h
  refine h_callI (pc := 4) (As := []) (st := [vA (some q0)]) (X' := X4) (cs' := 2) (sl' := 6) B cal_X6_init kmX5_83 kn_X6_init rfl (fun l hl => ct_X6_init hl e4) rfl (Nat.le_of_ble_eq_true rfl) (by decide) (by decide) dX5_buildForm_4 rfl rfl rfl ?_
  refine g_astore_n (pc := 7) (L' := [(1, vA (some q0)), (0, vA (some x0))]) B dX5_buildForm_7 (by decide) rfl ?_
  obtain ⟨q8, eq8, h⟩ := ob h
  obtain ⟨X8, eX8, h⟩ := ob h
  refine n_new (pc := 8) 6 B eX8 eq8 (by decide) kxX5_81 kin6 kiz6 (by decide) (by decide) dX5_buildForm_8 ?_
  refine g_widen (cs' := 3) (sl' := 8) (by decide) (by decide) ?_
  refine g_dup (pc := 11) B dX5_buildForm_11 rfl ?_
  obtain ⟨X12, e12, h⟩ := ob h
  refine h_callI (pc := 12) (As := []) (st := [vA (some q8)]) (X' := X12) (cs' := 4) (sl' := 12) B cal_X6_init kmX5_83 kn_X6_init rfl (fun l hl => ct_X6_init hl e12) rfl (Nat.le_of_ble_eq_true rfl) (by decide) (by decide) dX5_buildForm_12 rfl rfl rfl ?_
  refine g_astore_n (pc := 15) (L' := [(2, vA (some q8)), (1, vA (some q0)), (0, vA (some x0))]) B dX5_buildForm_15 (by decide) rfl ?_
  refine g_iconst (pc := 16) B dX5_buildForm_16 (0 : Int32) (by decide) ?_
  refine g_istore_n (pc := 17) (L' := [(3, vI (0 : Int32)), (2, vA (some q8)), (1, vA (some q0)), (0, vA (some x0))]) B dX5_buildForm_17 (by decide) rfl ?_
  refine g_sub (pc := 18) [3, 2, 1, 0] rfl ?_
  exact cb_X5_buildForm_L18 B ht h
theorem ct_X5_buildForm {D : DD} {l : Launch} {X0 : Mem} {fu : Nat} {x0 : Nat} {r : Mem} (hl : l.stackTraces = false) (h : fX5_buildForm fu X0 x0 = some r) : Ctr D l yX5_buildForm cX5_buildForm 7 (none) rmX5_buildForm [vA (some x0)] X0 (.inr (none)) r :=
  ctr_of hl (plainFor_of_name (by decide)) (Nat.le_of_ble_eq_true rfl) fun ev _ ht B => cb_X5_buildForm_L0 B ht h
set_option maxRecDepth 100000 in
set_option maxHeartbeats 4000000 in
theorem cb_X5_init_L95b {D : DD} {ev : EV} {X0 : Mem} {fu : Nat} {rec95 : Mem → Nat → Nat → Int32 → Option (Mem)} {X : Mem} {x0 : Nat} {x2 : Nat} {x4 : Int32} {r : Mem} (B : Amb D (foot X0) ev RX5 "<init>" cX5_init 5 (none) rmX5_init) (ht : Tb0 ev) (hrec95 : ∀ {X : Mem} {x0 : Nat} {x2 : Nat} {x4 : Int32} {r : Mem}, rec95 X x0 x2 x4 = some r → Gd D (foot X0) ev (QF D ev X0 (.inr (none)) r rmX5_init) X 7 139 95 [(0, vA (some x0)), (2, vA (some x2)), (4, vI x4)] []) (h : fX5_init_L95b fu rec95 X x0 x2 x4 = some r) : Gd D (foot X0) ev (QF D ev X0 (.inr (none)) r rmX5_init) X 7 139 95 [(0, vA (some x0)), (2, vA (some x2)), (4, vI x4)] [] := by
  unfold fX5_init_L95b at h
  refine g_iload (pc := 95) B dX5_init_95 2 rfl ?_
  refine g_aload_n (pc := 97) B dX5_init_97 0 rfl ?_
  obtain ⟨k98_1, h⟩ := chk h
  refine g_getR (pc := 98) 5 1 B k98_1 (by decide) (by decide) rfl kfX5_23 dX5_init_98 ?_
  obtain ⟨a101_2, ea101_2, h⟩ := ob h
  rw [ea101_2]
  obtain ⟨n101_2, en101_2, h⟩ := ob h
  obtain ⟨tn101_2, kn101_2, qn101_2⟩ := alen_s en101_2
  refine g_alen (pc := 101) B kn101_2 qn101_2 dX5_init_101 ?_
  refine g_icmp_ge (pc := 102) (tgt := 124) B dX5_init_102 (by decide) (fun c102 => ?_) (fun c102 => ?_)
  · rw [if_pos c102] at h
    refine g_aload_n (pc := 124) B dX5_init_124 0 rfl ?_
    obtain ⟨X125, e125, h⟩ := ob h
    refine h_callV (pc := 125) (As := []) (st := []) (X' := X125) (cs' := 7) (sl' := 139) (st10 := []) B cal_X5_pairBlocks kmX5_48 kn_X5_pairBlocks ks_X5_pairBlocks k98_1 (by decide) rfl (fun l hl => ct_X5_pairBlocks hl e125) rfl (Nat.le_of_ble_eq_true rfl) (by decide) (by decide) dX5_init_125 rfl rfl rfl rfl ?_
    refine g_aload_n (pc := 128) B dX5_init_128 0 rfl ?_
    obtain ⟨k129_4, h⟩ := chk h
    obtain ⟨X129, e129, h⟩ := ob h
    refine h_callV (pc := 129) (As := []) (st := []) (X' := X129) (cs' := 7) (sl' := 139) (st10 := []) B cal_X5_findWords kmX5_51 kn_X5_findWords ks_X5_findWords k129_4 (by decide) rfl (fun l hl => ct_X5_findWords hl e129) rfl (Nat.le_of_ble_eq_true rfl) (by decide) (by decide) dX5_init_129 rfl rfl rfl rfl ?_
    refine g_aload_n (pc := 132) B dX5_init_132 0 rfl ?_
    obtain ⟨k133_5, h⟩ := chk h
    obtain ⟨X133, e133, h⟩ := ob h
    refine h_callV (pc := 133) (As := []) (st := []) (X' := X133) (cs' := 11) (sl' := 151) (st10 := []) B cal_X5_buildForm kmX5_54 kn_X5_buildForm ks_X5_buildForm k133_5 (by decide) rfl (fun l hl => ct_X5_buildForm hl e133) rfl (Nat.le_of_ble_eq_true rfl) (by decide) (by decide) dX5_init_133 rfl rfl rfl rfl ?_
    obtain rfl := Option.some.inj h
    exact g_ret_V (pc := 136) B rfl (by decide) (by decide) dX5_init_136
  · rw [if_neg c102] at h
    refine g_aload_n (pc := 105) B dX5_init_105 0 rfl ?_
    refine g_getR (pc := 106) 5 1 B k98_1 (by decide) (by decide) rfl kfX5_23 dX5_init_106 ?_
    refine g_iload (pc := 109) B dX5_init_109 2 rfl ?_
    refine g_aload_n (pc := 111) B dX5_init_111 1 rfl ?_
    refine g_iload (pc := 112) B dX5_init_112 2 rfl ?_
    obtain ⟨k114_6, h⟩ := chk h
    obtain ⟨v114, e114, h⟩ := ob h
    refine h_callV (pc := 114) (As := [vI x4]) (st := [vI x4, vA (mR X 501 x0)]) (X' := X) (cs' := 7) (sl' := 139) (st10 := [vA v114, vI x4, vA (mR X 501 x0)]) B cal_X1_orderAt kmX5_44 kn_X1_orderAt ks_X1_orderAt k114_6 (by decide) rfl (fun l hl => ct_X1_orderAt hl e114) rfl (Nat.le_of_ble_eq_true rfl) (by decide) (by decide) dX5_init_114 rfl rfl rfl rfl ?_
    obtain ⟨a117_7, ea117_7, h⟩ := ob h
    rw [ea117_7]
    obtain ⟨c117, h⟩ := chk h
    obtain ⟨nc117, kc117, ic117⟩ := inb_s c117
    obtain ⟨a117_8, ea117_8, h⟩ := ob h
    rw [ea117_8]
    obtain ⟨k117_9, h⟩ := chk h
    refine g_aast (pc := 117) (c := 4) B kc117 (by decide) (by decide) k117_9 (by decide) rfl ic117 dX5_init_117 ?_
    refine g_iinc (pc := 118) (v := (x4 + (1 : Int32))) (L' := [(4, vI (x4 + (1 : Int32))), (0, vA (some x0)), (2, vA (some x2))]) B dX5_init_118 (by decide) 2 rfl rfl rfl ?_
    refine g_goto (pc := 121) (tgt := 95) B dX5_init_121 (by decide) ?_
    refine g_sub (pc := 95) [1, 2, 0] rfl ?_
    exact hrec95 h
theorem cb_X5_init_L95n {D : DD} {ev : EV} {X0 : Mem} {fu : Nat} (B : Amb D (foot X0) ev RX5 "<init>" cX5_init 5 (none) rmX5_init) (ht : Tb0 ev)  : ∀ (n : Nat) {X : Mem} {x0 : Nat} {x2 : Nat} {x4 : Int32} {r : Mem}, fX5_init_L95 fu n X x0 x2 x4 = some r → Gd D (foot X0) ev (QF D ev X0 (.inr (none)) r rmX5_init) X 7 139 95 [(0, vA (some x0)), (2, vA (some x2)), (4, vI x4)] [] := by
  intro n
  induction n with
  | zero => intro X x0 x2 x4 r h; exact nomatch h
  | succ n ih => intro X x0 x2 x4 r h; exact cb_X5_init_L95b (fu := fu) B ht (fun h9 => ih h9) h
theorem cb_X5_init_L95 {D : DD} {ev : EV} {X0 : Mem} {fu : Nat} {X : Mem} {x0 : Nat} {x2 : Nat} {x4 : Int32} {n : Nat} {r : Mem} (B : Amb D (foot X0) ev RX5 "<init>" cX5_init 5 (none) rmX5_init) (ht : Tb0 ev)  (h : fX5_init_L95 fu n X x0 x2 x4 = some r) : Gd D (foot X0) ev (QF D ev X0 (.inr (none)) r rmX5_init) X 7 139 95 [(0, vA (some x0)), (2, vA (some x2)), (4, vI x4)] [] := cb_X5_init_L95n B ht n h
set_option maxRecDepth 100000 in
set_option maxHeartbeats 4000000 in
theorem cb_X5_init_L68b {D : DD} {ev : EV} {X0 : Mem} {fu : Nat} {rec68 : Mem → Nat → Nat → Int32 → Option (Mem)} {X : Mem} {x0 : Nat} {x2 : Nat} {x4 : Int32} {r : Mem} (B : Amb D (foot X0) ev RX5 "<init>" cX5_init 5 (none) rmX5_init) (ht : Tb0 ev) (hrec68 : ∀ {X : Mem} {x0 : Nat} {x2 : Nat} {x4 : Int32} {r : Mem}, rec68 X x0 x2 x4 = some r → Gd D (foot X0) ev (QF D ev X0 (.inr (none)) r rmX5_init) X 7 139 68 [(0, vA (some x0)), (2, vA (some x2)), (4, vI x4)] []) (h : fX5_init_L68b fu rec68 X x0 x2 x4 = some r) : Gd D (foot X0) ev (QF D ev X0 (.inr (none)) r rmX5_init) X 7 139 68 [(0, vA (some x0)), (2, vA (some x2)), (4, vI x4)] [] := by
  unfold fX5_init_L68b at h
  refine g_iload (pc := 68) B dX5_init_68 2 rfl ?_
  refine g_aload_n (pc := 70) B dX5_init_70 0 rfl ?_
  obtain ⟨k71_1, h⟩ := chk h
  refine g_getR (pc := 71) 5 3 B k71_1 (by decide) (by decide) rfl kfX5_34 dX5_init_71 ?_
  obtain ⟨a74_2, ea74_2, h⟩ := ob h
  rw [ea74_2]
  obtain ⟨n74_2, en74_2, h⟩ := ob h
  obtain ⟨tn74_2, kn74_2, qn74_2⟩ := alen_s en74_2
  refine g_alen (pc := 74) B kn74_2 qn74_2 dX5_init_74 ?_
  refine g_icmp_ge (pc := 75) (tgt := 92) B dX5_init_75 (by decide) (fun c75 => ?_) (fun c75 => ?_)
  · rw [if_pos c75] at h
    refine g_iconst (pc := 92) B dX5_init_92 (0 : Int32) (by decide) ?_
    refine g_istore (pc := 93) (L' := [(4, vI (0 : Int32)), (0, vA (some x0)), (2, vA (some x2))]) B dX5_init_93 (by decide) rfl ?_
    refine g_sub (pc := 95) [1, 2, 0] rfl ?_
    exact cb_X5_init_L95 B ht h
  · rw [if_neg c75] at h
    refine g_aload_n (pc := 78) B dX5_init_78 0 rfl ?_
    refine g_getR (pc := 79) 5 3 B k71_1 (by decide) (by decide) rfl kfX5_34 dX5_init_79 ?_
    refine g_iload (pc := 82) B dX5_init_82 2 rfl ?_
    refine g_iconst (pc := 84) B dX5_init_84 (-1) (by decide) ?_
    obtain ⟨a85_4, ea85_4, h⟩ := ob h
    rw [ea85_4]
    obtain ⟨c85, h⟩ := chk h
    obtain ⟨nc85, kc85, ic85⟩ := inb_s c85
    refine g_iast (pc := 85) B kc85 ic85 dX5_init_85 ?_
    refine g_iinc (pc := 86) (v := (x4 + (1 : Int32))) (L' := [(4, vI (x4 + (1 : Int32))), (0, vA (some x0)), (2, vA (some x2))]) B dX5_init_86 (by decide) 2 rfl rfl rfl ?_
    refine g_goto (pc := 89) (tgt := 68) B dX5_init_89 (by decide) ?_
    refine g_sub (pc := 68) [1, 2, 0] rfl ?_
    exact hrec68 h
theorem cb_X5_init_L68n {D : DD} {ev : EV} {X0 : Mem} {fu : Nat} (B : Amb D (foot X0) ev RX5 "<init>" cX5_init 5 (none) rmX5_init) (ht : Tb0 ev)  : ∀ (n : Nat) {X : Mem} {x0 : Nat} {x2 : Nat} {x4 : Int32} {r : Mem}, fX5_init_L68 fu n X x0 x2 x4 = some r → Gd D (foot X0) ev (QF D ev X0 (.inr (none)) r rmX5_init) X 7 139 68 [(0, vA (some x0)), (2, vA (some x2)), (4, vI x4)] [] := by
  intro n
  induction n with
  | zero => intro X x0 x2 x4 r h; exact nomatch h
  | succ n ih => intro X x0 x2 x4 r h; exact cb_X5_init_L68b (fu := fu) B ht (fun h9 => ih h9) h
theorem cb_X5_init_L68 {D : DD} {ev : EV} {X0 : Mem} {fu : Nat} {X : Mem} {x0 : Nat} {x2 : Nat} {x4 : Int32} {n : Nat} {r : Mem} (B : Amb D (foot X0) ev RX5 "<init>" cX5_init 5 (none) rmX5_init) (ht : Tb0 ev)  (h : fX5_init_L68 fu n X x0 x2 x4 = some r) : Gd D (foot X0) ev (QF D ev X0 (.inr (none)) r rmX5_init) X 7 139 68 [(0, vA (some x0)), (2, vA (some x2)), (4, vI x4)] [] := cb_X5_init_L68n B ht n h
set_option maxRecDepth 100000 in
set_option maxHeartbeats 4000000 in
theorem cb_X5_init_L19 {D : DD} {ev : EV} {X0 : Mem} {fu : Nat} {X : Mem} {x0 : Nat} {x1 : Int32} {x2 : Nat} {s0 : Int32} {r : Mem} (B : Amb D (foot X0) ev RX5 "<init>" cX5_init 5 (none) rmX5_init) (ht : Tb0 ev)  (h : fX5_init_L19 fu X x0 x1 x2 s0 = some r) : Gd D (foot X0) ev (QF D ev X0 (.inr (none)) r rmX5_init) X 0 0 19 [(0, vA (some x0)), (1, vI x1), (2, vA (some x2))] [vI s0] := by
  unfold fX5_init_L19 at h
  refine g_istore_n (pc := 19) (L' := [(3, vI s0), (0, vA (some x0)), (1, vI x1), (2, vA (some x2))]) B dX5_init_19 (by decide) rfl ?_
  refine g_aload_n (pc := 20) B dX5_init_20 1 rfl ?_
  refine g_iload_n (pc := 21) B dX5_init_21 2 rfl ?_
  obtain ⟨k22_1, h⟩ := chk h
  refine g_putIF (pc := 22) 5 0 B k22_1 (by decide) (by decide) rfl rfl rfl rfl kfX5_15 dX5_init_22 ?_
  refine g_aload_n (pc := 25) B dX5_init_25 1 rfl ?_
  refine g_iload_n (pc := 26) B dX5_init_26 0 rfl ?_
  obtain ⟨c27, h⟩ := chk h
  obtain ⟨q27, eq27, h⟩ := ob h
  obtain ⟨X27, eX27, h⟩ := ob h
  refine n_anew (pc := 27) (t := 3) (N := s0.toNatClampNeg) B eX27 eq27 (by decide) (by decide) rfl kxX5_21 (Int32.not_lt.mpr c27.1) rfl (Nat.le_trans (Nat.mul_le_mul_right _ c27.2) (by decide)) (by decide) (Nat.le_trans (Nat.add_le_add_left c27.2 _) (by decide)) dX5_init_27 ?_
  refine g_widen (cs' := 1) (sl' := 32) (by decide) (Nat.add_le_add_left c27.2 _) ?_
  obtain ⟨k30_2, h⟩ := chk h
  refine g_putRF (pc := 30) 5 1 B k30_2 (by decide) (by decide) rfl rfl rfl rfl kfX5_23 dX5_init_30 ?_
  refine g_aload_n (pc := 33) B dX5_init_33 1 rfl ?_
  refine g_iload_n (pc := 34) B dX5_init_34 0 rfl ?_
  obtain ⟨c35, h⟩ := chk h
  obtain ⟨q35, eq35, h⟩ := ob h
  obtain ⟨X35, eX35, h⟩ := ob h
  refine n_newa (pc := 35) (t := 0) (N := s0.toNatClampNeg) B eX35 eq35 (by decide) rfl ka0 (Int32.not_lt.mpr c35.1) rfl (Nat.le_trans (Nat.mul_le_mul_right _ c35.2) (by decide)) (by decide) (Nat.le_trans (Nat.add_le_add_left c35.2 _) (by decide)) dX5_init_35 ?_
  refine g_widen (cs' := 2) (sl' := 64) (by decide) (Nat.add_le_add_left c35.2 _) ?_
  obtain ⟨k37_3, h⟩ := chk h
  refine g_putRF (pc := 37) 5 2 B k37_3 (by decide) (by decide) rfl rfl rfl rfl kfX5_27 dX5_init_37 ?_
  refine g_aload_n (pc := 40) B dX5_init_40 1 rfl ?_
  refine g_iload_n (pc := 41) B dX5_init_41 0 rfl ?_
  obtain ⟨c42, h⟩ := chk h
  obtain ⟨q42, eq42, h⟩ := ob h
  obtain ⟨X42, eX42, h⟩ := ob h
  refine n_newa (pc := 42) (t := 0) (N := s0.toNatClampNeg) B eX42 eq42 (by decide) rfl ka0 (Int32.not_lt.mpr c42.1) rfl (Nat.le_trans (Nat.mul_le_mul_right _ c42.2) (by decide)) (by decide) (Nat.le_trans (Nat.add_le_add_left c42.2 _) (by decide)) dX5_init_42 ?_
  refine g_widen (cs' := 3) (sl' := 96) (by decide) (Nat.add_le_add_left c42.2 _) ?_
  obtain ⟨k44_4, h⟩ := chk h
  refine g_putRF (pc := 44) 5 4 B k44_4 (by decide) (by decide) rfl rfl rfl rfl kfX5_31 dX5_init_44 ?_
  refine g_aload_n (pc := 47) B dX5_init_47 1 rfl ?_
  refine g_iconst (pc := 48) B dX5_init_48 (4 : Int32) (by decide) ?_
  obtain ⟨q49, eq49, h⟩ := ob h
  obtain ⟨X49, eX49, h⟩ := ob h
  refine n_newa (pc := 49) (t := 0) (N := 4) B eX49 eq49 (by decide) rfl ka0 (by decide) (by decide) (by decide) (by decide) (by decide) dX5_init_49 ?_
  refine g_widen (cs' := 4) (sl' := 100) (by decide) (by decide) ?_
  obtain ⟨k51_5, h⟩ := chk h
  refine g_putRF (pc := 51) 5 3 B k51_5 (by decide) (by decide) rfl rfl rfl rfl kfX5_34 dX5_init_51 ?_
  refine g_aload_n (pc := 54) B dX5_init_54 1 rfl ?_
  obtain ⟨q55, eq55, h⟩ := ob h
  obtain ⟨X55, eX55, h⟩ := ob h
  refine n_new (pc := 55) 2 B eX55 eq55 (by decide) kxX5_37 kin2 kiz2 (by decide) (by decide) dX5_init_55 ?_
  refine g_widen (cs' := 5) (sl' := 107) (by decide) (by decide) ?_
  refine g_dup (pc := 58) B dX5_init_58 rfl ?_
  obtain ⟨X59, e59, h⟩ := ob h
  refine h_callI (pc := 59) (As := []) (st := [vA (some q55), vA (some x0)]) (X' := X59) (cs' := 7) (sl' := 139) B cal_X2_init kmX5_39 kn_X2_init rfl (fun l hl => ct_X2_init hl e59) rfl (Nat.le_of_ble_eq_true rfl) (by decide) (by decide) dX5_init_59 rfl rfl rfl ?_
  obtain ⟨k62_6, h⟩ := chk h
  refine g_putRF (pc := 62) 5 5 B k62_6 (by decide) (by decide) rfl rfl rfl rfl kfX5_40 dX5_init_62 ?_
  refine g_iconst (pc := 65) B dX5_init_65 (0 : Int32) (by decide) ?_
  refine g_istore (pc := 66) (L' := [(4, vI (0 : Int32)), (3, vI s0), (0, vA (some x0)), (1, vI x1), (2, vA (some x2))]) B dX5_init_66 (by decide) rfl ?_
  refine g_sub (pc := 68) [2, 4, 0] rfl ?_
  exact cb_X5_init_L68 B ht h
set_option maxRecDepth 100000 in
set_option maxHeartbeats 4000000 in
theorem cb_X5_init_L0 {D : DD} {ev : EV} {X0 : Mem} {fu : Nat} {X : Mem} {x0 : Nat} {x1 : Int32} {x2 : Option Nat} {r : Mem} (B : Amb D (foot X0) ev RX5 "<init>" cX5_init 5 (none) rmX5_init) (ht : Tb0 ev)  (h : fX5_init fu X x0 x1 x2 = some r) : Gd D (foot X0) ev (QF D ev X0 (.inr (none)) r rmX5_init) X 0 0 0 [(0, vA (some x0)), (1, vI x1), (2, vA x2)] [] := by
  unfold fX5_init at h
  refine g_aload_n (pc := 0) B dX5_init_0 0 rfl ?_
  refine g_objInit (pc := 1) B kmX5_3 kon koc (Nat.le_of_ble_eq_true rfl) (by decide) dX5_init_1 ?_
  refine g_aload_n (pc := 4) B dX5_init_4 2 rfl ?_
  obtain ⟨a5_1, ea5_1, h⟩ := ob h
  rw [ea5_1]
  obtain ⟨k5_2, h⟩ := chk h
  obtain ⟨v5, e5, h⟩ := ob h
  refine h_callV (pc := 5) (As := []) (st := []) (X' := X) (cs' := 0) (sl' := 0) (st10 := [vI v5]) B cal_X1_length kmX5_9 kn_X1_length ks_X1_length k5_2 (by decide) rfl (fun l hl => ct_X1_length hl e5) rfl (Nat.le_of_ble_eq_true rfl) (by decide) (by decide) dX5_init_5 rfl rfl rfl rfl ?_
  refine g_if_le (pc := 8) (tgt := 18) B dX5_init_8 (by decide) (fun c8 => ?_) (fun c8 => ?_)
  · rw [if_pos c8] at h
    refine g_iconst (pc := 18) B dX5_init_18 (0 : Int32) (by decide) ?_
    refine g_sub (pc := 19) [0, 1, 2] rfl ?_
    exact cb_X5_init_L19 B ht h
  · rw [if_neg c8] at h
    refine g_aload_n (pc := 11) B dX5_init_11 2 rfl ?_
    obtain ⟨v12, e12, h⟩ := ob h
    refine h_callV (pc := 12) (As := []) (st := []) (X' := X) (cs' := 0) (sl' := 0) (st10 := [vI v12]) B cal_X1_length kmX5_9 kn_X1_length ks_X1_length k5_2 (by decide) rfl (fun l hl => ct_X1_length hl e12) rfl (Nat.le_of_ble_eq_true rfl) (by decide) (by decide) dX5_init_12 rfl rfl rfl rfl ?_
    refine g_goto (pc := 15) (tgt := 19) B dX5_init_15 (by decide) ?_
    refine g_sub (pc := 19) [0, 1, 2] rfl ?_
    exact cb_X5_init_L19 B ht h
theorem ct_X5_init {D : DD} {l : Launch} {X0 : Mem} {fu : Nat} {x0 : Nat} {x1 : Int32} {x2 : Option Nat} {r : Mem} (hl : l.stackTraces = false) (h : fX5_init fu X0 x0 x1 x2 = some r) : Ctr D l yX5_init cX5_init 5 (none) rmX5_init [vA (some x0), vI x1, vA x2] X0 (.inr (none)) r :=
  ctr_of hl (plainFor_of_name (by decide)) (Nat.le_of_ble_eq_true rfl) fun ev _ ht B => cb_X5_init_L0 B ht h
set_option maxRecDepth 100000 in
set_option maxHeartbeats 4000000 in
theorem cb_X8_begin_L0 {D : DD} {ev : EV} {X0 : Mem} {X : Mem} {x0 : Nat} {r : Mem} (B : Amb D (foot X0) ev RX8 "begin" cX8_begin 1 (none) rmX8_begin) (ht : Tb0 ev)  (h : fX8_begin X x0 = some r) : Gd D (foot X0) ev (QF D ev X0 (.inr (none)) r rmX8_begin) X 0 0 0 [(0, vA (some x0))] [] := by
  unfold fX8_begin at h
  refine g_aload_n (pc := 0) B dX8_begin_0 0 rfl ?_
  refine g_bipush (pc := 1) B dX8_begin_1 (8 : Int32) (by decide) ?_
  obtain ⟨k3_1, h⟩ := chk h
  refine g_putI (pc := 3) 8 0 B k3_1 (by decide) (by decide) rfl rfl kfX8_9 dX8_begin_3 ?_
  refine g_aload_n (pc := 6) B dX8_begin_6 0 rfl ?_
  refine g_bipush (pc := 7) B dX8_begin_7 (8 : Int32) (by decide) ?_
  refine g_putI (pc := 9) 8 1 B k3_1 (by decide) (by decide) rfl rfl kfX8_15 dX8_begin_9 ?_
  refine g_aload_n (pc := 12) B dX8_begin_12 0 rfl ?_
  refine g_iconst (pc := 13) B dX8_begin_13 (0 : Int32) (by decide) ?_
  refine g_putI (pc := 14) 8 2 B k3_1 (by decide) (by decide) rfl rfl kfX8_18 dX8_begin_14 ?_
  refine g_aload_n (pc := 17) B dX8_begin_17 0 rfl ?_
  refine g_iconst (pc := 18) B dX8_begin_18 (1 : Int32) (by decide) ?_
  refine g_putZ (pc := 19) 8 3 B k3_1 (by decide) (by decide) rfl (Or.inr rfl) rfl kfX8_21 dX8_begin_19 ?_
  obtain rfl := Option.some.inj h
  exact g_ret_V (pc := 22) B rfl (by decide) (by decide) dX8_begin_22
theorem ct_X8_begin {D : DD} {l : Launch} {X0 : Mem} {x0 : Nat} {r : Mem} (hl : l.stackTraces = false) (h : fX8_begin X0 x0 = some r) : Ctr D l yX8_begin cX8_begin 1 (none) rmX8_begin [vA (some x0)] X0 (.inr (none)) r :=
  ctr_of hl (plainFor_of_name (by decide)) (Nat.le_of_ble_eq_true rfl) fun ev _ ht B => cb_X8_begin_L0 B ht h
set_option maxRecDepth 100000 in
set_option maxHeartbeats 4000000 in
theorem cb_X5_length_L0 {D : DD} {ev : EV} {X0 : Mem} {x0 : Nat} {r : Int32} (B : Amb D (foot X0) ev RX5 "length" cX5_length 1 (some .int) rmX5_length) (ht : Tb0 ev)  (h : fX5_length X0 x0 = some r) : Gd D (foot X0) ev (QF D ev X0 (.inr (some (vI r))) X0 rmX5_length) X0 0 0 0 [(0, vA (some x0))] [] := by
  unfold fX5_length at h
  refine g_aload_n (pc := 0) B dX5_length_0 0 rfl ?_
  obtain ⟨k1_1, h⟩ := chk h
  refine g_getR (pc := 1) 5 1 B k1_1 (by decide) (by decide) rfl kfX5_23 dX5_length_1 ?_
  obtain ⟨a4_2, ea4_2, h⟩ := ob h
  rw [ea4_2]
  obtain ⟨n4_2, en4_2, h⟩ := ob h
  obtain ⟨tn4_2, kn4_2, qn4_2⟩ := alen_s en4_2
  refine g_alen (pc := 4) B kn4_2 qn4_2 dX5_length_4 ?_
  obtain rfl := Option.some.inj h
  exact g_ret_I (pc := 5) B rfl (by decide) (by decide) dX5_length_5
theorem ct_X5_length {D : DD} {l : Launch} {X0 : Mem} {x0 : Nat} {r : Int32} (hl : l.stackTraces = false) (h : fX5_length X0 x0 = some r) : Ctr D l yX5_length cX5_length 1 (some .int) rmX5_length [vA (some x0)] X0 (.inr (some (vI r))) X0 :=
  ctr_of hl (plainFor_of_name (by decide)) (Nat.le_of_ble_eq_true rfl) fun ev _ ht B => cb_X5_length_L0 B ht h
set_option maxRecDepth 100000 in
set_option maxHeartbeats 4000000 in
theorem cb_X7_leaveWord_L0 {D : DD} {ev : EV} {X0 : Mem} {X : Mem} {x0 : Nat} {r : Int32 × Mem} (B : Amb D (foot X0) ev RX7 "leaveWord" cX7_leaveWord 2 (some .int) rmX7_leaveWord) (ht : Tb0 ev)  (h : fX7_leaveWord X x0 = some r) : Gd D (foot X0) ev (QF D ev X0 (.inr (some (vI r.1))) r.2 rmX7_leaveWord) X 0 0 0 [(0, vA (some x0))] [] := by
  unfold fX7_leaveWord at h
  refine g_aload_n (pc := 0) B dX7_leaveWord_0 0 rfl ?_
  obtain ⟨k1_1, h⟩ := chk h
  refine g_getI (pc := 1) 7 5 B k1_1 (by decide) (by decide) rfl kfX7_45 dX7_leaveWord_1 ?_
  refine g_iconst (pc := 4) B dX7_leaveWord_4 (1 : Int32) (by decide) ?_
  refine g_isub (pc := 5) B dX7_leaveWord_5 ?_
  refine g_istore_n (pc := 6) (L' := [(1, vI ((mI X 705 x0) - (1 : Int32))), (0, vA (some x0))]) B dX7_leaveWord_6 (by decide) rfl ?_
  refine g_iload_n (pc := 7) B dX7_leaveWord_7 0 rfl ?_
  refine g_if_lt (pc := 8) (tgt := 20) B dX7_leaveWord_8 (by decide) (fun c8 => ?_) (fun c8 => ?_)
  · rw [if_pos c8] at h
    refine g_iconst (pc := 20) B dX7_leaveWord_20 (-1) (by decide) ?_
    obtain rfl := Option.some.inj h
    exact g_ret_I (pc := 21) B rfl (by decide) (by decide) dX7_leaveWord_21
  · rw [if_neg c8] at h
    refine g_iload_n (pc := 11) B dX7_leaveWord_11 0 rfl ?_
    refine g_aload_n (pc := 12) B dX7_leaveWord_12 1 rfl ?_
    refine g_getR (pc := 13) 7 3 B k1_1 (by decide) (by decide) rfl kfX7_25 dX7_leaveWord_13 ?_
    obtain ⟨a16_2, ea16_2, h⟩ := ob h
    rw [ea16_2]
    obtain ⟨n16_2, en16_2, h⟩ := ob h
    obtain ⟨tn16_2, kn16_2, qn16_2⟩ := alen_s en16_2
    refine g_alen (pc := 16) B kn16_2 qn16_2 dX7_leaveWord_16 ?_
    refine g_icmp_lt (pc := 17) (tgt := 22) B dX7_leaveWord_17 (by decide) (fun c17 => ?_) (fun c17 => ?_)
    · rw [if_pos c17] at h
      refine g_aload_n (pc := 22) B dX7_leaveWord_22 1 rfl ?_
      refine g_iload_n (pc := 23) B dX7_leaveWord_23 0 rfl ?_
      refine g_putI (pc := 24) 7 5 B k1_1 (by decide) (by decide) rfl rfl kfX7_45 dX7_leaveWord_24 ?_
      refine g_aload_n (pc := 27) B dX7_leaveWord_27 1 rfl ?_
      refine g_getR (pc := 28) 7 3 B k1_1 (by decide) (by decide) rfl kfX7_25 dX7_leaveWord_28 ?_
      refine g_iload_n (pc := 31) B dX7_leaveWord_31 0 rfl ?_
      obtain ⟨a32_4, ea32_4, h⟩ := ob h
      rw [ea32_4]
      obtain ⟨c32, h⟩ := chk h
      obtain ⟨nc32, kc32, ic32⟩ := inb_s c32
      refine g_iald (pc := 32) B kc32 ic32 dX7_leaveWord_32 ?_
      refine g_iconst (pc := 33) B dX7_leaveWord_33 (1 : Int32) (by decide) ?_
      refine g_iadd (pc := 34) B dX7_leaveWord_34 ?_
      obtain rfl := Option.some.inj h
      exact g_ret_I (pc := 35) B rfl (by decide) (by decide) dX7_leaveWord_35
    · rw [if_neg c17] at h
      refine g_iconst (pc := 20) B dX7_leaveWord_20 (-1) (by decide) ?_
      obtain rfl := Option.some.inj h
      exact g_ret_I (pc := 21) B rfl (by decide) (by decide) dX7_leaveWord_21
theorem ct_X7_leaveWord {D : DD} {l : Launch} {X0 : Mem} {x0 : Nat} {r : Int32 × Mem} (hl : l.stackTraces = false) (h : fX7_leaveWord X0 x0 = some r) : Ctr D l yX7_leaveWord cX7_leaveWord 2 (some .int) rmX7_leaveWord [vA (some x0)] X0 (.inr (some (vI r.1))) r.2 :=
  ctr_of hl (plainFor_of_name (by decide)) (Nat.le_of_ble_eq_true rfl) fun ev _ ht B => cb_X7_leaveWord_L0 B ht h
set_option maxRecDepth 100000 in
set_option maxHeartbeats 4000000 in
theorem cb_X7_closeBlock_L33 {D : DD} {ev : EV} {X0 : Mem} {X : Mem} {x0 : Nat} {x2 : Int32} {x3 : Int32} {r : Int32 × Mem} (B : Amb D (foot X0) ev RX7 "closeBlock" cX7_closeBlock 6 (some .int) rmX7_closeBlock) (ht : Tb0 ev)  (h : fX7_closeBlock_L33 X x0 x2 x3 = some r) : Gd D (foot X0) ev (QF D ev X0 (.inr (some (vI r.1))) r.2 rmX7_closeBlock) X 0 0 33 [(0, vA (some x0)), (2, vI x2), (3, vI x3)] [] := by
  unfold fX7_closeBlock_L33 at h
  refine g_aload_n (pc := 33) B dX7_closeBlock_33 0 rfl ?_
  obtain ⟨k34_1, h⟩ := chk h
  refine g_getI (pc := 34) 7 5 B k34_1 (by decide) (by decide) rfl kfX7_45 dX7_closeBlock_34 ?_
  refine g_bipush (pc := 37) B dX7_closeBlock_37 (30 : Int32) (by decide) ?_
  refine g_imul (pc := 39) B dX7_closeBlock_39 ?_
  refine g_iload_n (pc := 40) B dX7_closeBlock_40 2 rfl ?_
  refine g_iadd (pc := 41) B dX7_closeBlock_41 ?_
  refine g_istore (pc := 42) (L' := [(5, vI (((mI X 705 x0) * (30 : Int32)) + x3)), (0, vA (some x0)), (2, vI x2), (3, vI x3)]) B dX7_closeBlock_42 (by decide) rfl ?_
  refine g_iload (pc := 44) B dX7_closeBlock_44 0 rfl ?_
  refine g_if_lt (pc := 46) (tgt := 59) B dX7_closeBlock_46 (by decide) (fun c46 => ?_) (fun c46 => ?_)
  · rw [if_pos c46] at h
    refine g_iconst (pc := 59) B dX7_closeBlock_59 (-1) (by decide) ?_
    obtain rfl := Option.some.inj h
    exact g_ret_I (pc := 60) B rfl (by decide) (by decide) dX7_closeBlock_60
  · rw [if_neg c46] at h
    refine g_iload (pc := 49) B dX7_closeBlock_49 0 rfl ?_
    refine g_aload_n (pc := 51) B dX7_closeBlock_51 1 rfl ?_
    refine g_getR (pc := 52) 7 2 B k34_1 (by decide) (by decide) rfl kfX7_22 dX7_closeBlock_52 ?_
    obtain ⟨a55_2, ea55_2, h⟩ := ob h
    rw [ea55_2]
    obtain ⟨n55_2, en55_2, h⟩ := ob h
    obtain ⟨tn55_2, kn55_2, qn55_2⟩ := alen_s en55_2
    refine g_alen (pc := 55) B kn55_2 qn55_2 dX7_closeBlock_55 ?_
    refine g_icmp_lt (pc := 56) (tgt := 61) B dX7_closeBlock_56 (by decide) (fun c56 => ?_) (fun c56 => ?_)
    · rw [if_pos c56] at h
      refine g_aload_n (pc := 61) B dX7_closeBlock_61 1 rfl ?_
      refine g_getR (pc := 62) 7 2 B k34_1 (by decide) (by decide) rfl kfX7_22 dX7_closeBlock_62 ?_
      refine g_iload (pc := 65) B dX7_closeBlock_65 0 rfl ?_
      refine g_dup2 (pc := 67) B dX7_closeBlock_67 rfl rfl ?_
      obtain ⟨a68_4, ea68_4, h⟩ := ob h
      rw [ea68_4]
      obtain ⟨c68, h⟩ := chk h
      obtain ⟨nc68, kc68, ic68⟩ := inb_s c68
      refine g_iald (pc := 68) B kc68 ic68 dX7_closeBlock_68 ?_
      refine g_iconst (pc := 69) B dX7_closeBlock_69 (1 : Int32) (by decide) ?_
      refine g_isub (pc := 70) B dX7_closeBlock_70 ?_
      obtain ⟨c71, h⟩ := chk h
      obtain ⟨nc71, kc71, ic71⟩ := inb_s c71
      refine g_iast (pc := 71) B kc71 ic71 dX7_closeBlock_71 ?_
      refine g_aload_n (pc := 72) B dX7_closeBlock_72 1 rfl ?_
      refine g_getR (pc := 73) 7 2 B k34_1 (by decide) (by decide) rfl kfX7_22 dX7_closeBlock_73 ?_
      refine g_iload (pc := 76) B dX7_closeBlock_76 0 rfl ?_
      obtain ⟨a78_5, ea78_5, h⟩ := ob h
      rw [ea78_5]
      obtain ⟨c78, h⟩ := chk h
      obtain ⟨nc78, kc78, ic78⟩ := inb_s c78
      refine g_iald (pc := 78) B kc78 ic78 dX7_closeBlock_78 ?_
      refine g_if_le (pc := 79) (tgt := 88) B dX7_closeBlock_79 (by decide) (fun c79 => ?_) (fun c79 => ?_)
      · rw [if_pos c79] at h
        refine g_iload_n (pc := 88) B dX7_closeBlock_88 2 rfl ?_
        refine g_iconst (pc := 89) B dX7_closeBlock_89 (1 : Int32) (by decide) ?_
        refine g_iadd (pc := 90) B dX7_closeBlock_90 ?_
        obtain rfl := Option.some.inj h
        exact g_ret_I (pc := 91) B rfl (by decide) (by decide) dX7_closeBlock_91
      · rw [if_neg c79] at h
        refine g_iload_n (pc := 82) B dX7_closeBlock_82 3 rfl ?_
        refine g_iconst (pc := 83) B dX7_closeBlock_83 (1 : Int32) (by decide) ?_
        refine g_iadd (pc := 84) B dX7_closeBlock_84 ?_
        refine g_goto (pc := 85) (tgt := 91) B dX7_closeBlock_85 (by decide) ?_
        obtain rfl := Option.some.inj h
        exact g_ret_I (pc := 91) B rfl (by decide) (by decide) dX7_closeBlock_91
    · rw [if_neg c56] at h
      refine g_iconst (pc := 59) B dX7_closeBlock_59 (-1) (by decide) ?_
      obtain rfl := Option.some.inj h
      exact g_ret_I (pc := 60) B rfl (by decide) (by decide) dX7_closeBlock_60
set_option maxRecDepth 100000 in
set_option maxHeartbeats 4000000 in
theorem cb_X7_closeBlock_L0 {D : DD} {ev : EV} {X0 : Mem} {X : Mem} {x0 : Nat} {x1 : Option Nat} {x2 : Int32} {r : Int32 × Mem} (B : Amb D (foot X0) ev RX7 "closeBlock" cX7_closeBlock 6 (some .int) rmX7_closeBlock) (ht : Tb0 ev)  (h : fX7_closeBlock X x0 x1 x2 = some r) : Gd D (foot X0) ev (QF D ev X0 (.inr (some (vI r.1))) r.2 rmX7_closeBlock) X 0 0 0 [(0, vA (some x0)), (1, vA x1), (2, vI x2)] [] := by
  unfold fX7_closeBlock at h
  refine g_aload_n (pc := 0) B dX7_closeBlock_0 1 rfl ?_
  refine g_iload_n (pc := 1) B dX7_closeBlock_1 2 rfl ?_
  obtain ⟨a2_1, ea2_1, h⟩ := ob h
  rw [ea2_1]
  obtain ⟨k2_2, h⟩ := chk h
  obtain ⟨v2, e2, h⟩ := ob h
  refine h_callV (pc := 2) (As := [vI x2]) (st := []) (X' := X) (cs' := 0) (sl' := 0) (st10 := [vI v2]) B cal_X5_partnerOf kmX7_71 kn_X5_partnerOf ks_X5_partnerOf k2_2 (by decide) rfl (fun l hl => ct_X5_partnerOf hl e2) rfl (Nat.le_of_ble_eq_true rfl) (by decide) (by decide) dX7_closeBlock_2 rfl rfl rfl rfl ?_
  refine g_istore_n (pc := 5) (L' := [(3, vI v2), (0, vA (some x0)), (1, vA (some a2_1)), (2, vI x2)]) B dX7_closeBlock_5 (by decide) rfl ?_
  refine g_aload_n (pc := 6) B dX7_closeBlock_6 2 rfl ?_
  refine g_iload_n (pc := 7) B dX7_closeBlock_7 0 rfl ?_
  obtain ⟨v8, e8, h⟩ := ob h
  refine h_callV (pc := 8) (As := [vI v2]) (st := []) (X' := X) (cs' := 0) (sl' := 0) (st10 := [vA v8]) B cal_X5_orderAt kmX7_62 kn_X5_orderAt ks_X5_orderAt k2_2 (by decide) rfl (fun l hl => ct_X5_orderAt hl e8) rfl (Nat.le_of_ble_eq_true rfl) (by decide) (by decide) dX7_closeBlock_8 rfl rfl rfl rfl ?_
  refine g_astore (pc := 11) (L' := [(4, vA v8), (3, vI v2), (0, vA (some x0)), (1, vA (some a2_1)), (2, vI x2)]) B dX7_closeBlock_11 (by decide) rfl ?_
  refine g_aload (pc := 13) B dX7_closeBlock_13 0 rfl ?_
  refine g_ifnull (pc := 15) (tgt := 33) B dX7_closeBlock_15 (by decide) (fun c15 => ?_) (fun c15 => ?_)
  · rw [if_pos c15] at h
    refine g_sub (pc := 33) [2, 4, 1] rfl ?_
    exact cb_X7_closeBlock_L33 B ht h
  · rw [if_neg c15] at h
    refine g_aload (pc := 18) B dX7_closeBlock_18 0 rfl ?_
    obtain ⟨a20_3, ea20_3, h⟩ := ob h
    rw [ea20_3]
    obtain ⟨k20_4, h⟩ := chk h
    refine g_getIN (pc := 20) 4 0 B k20_4 (by decide) (by decide) rfl kfX7_66 dX7_closeBlock_20 ?_
    refine g_bipush (pc := 23) B dX7_closeBlock_23 (6 : Int32) (by decide) ?_
    refine g_icmp_ne (pc := 25) (tgt := 33) B dX7_closeBlock_25 (by decide) (fun c25 => ?_) (fun c25 => ?_)
    · rw [if_neg c25] at h
      refine g_sub (pc := 33) [2, 4, 1] rfl ?_
      exact cb_X7_closeBlock_L33 B ht h
    · rw [if_pos c25] at h
      refine g_aload_n (pc := 28) B dX7_closeBlock_28 2 rfl ?_
      obtain ⟨k29_5, h⟩ := chk h
      obtain ⟨v29, X29, e29, h⟩ := obW h
      refine h_callV (pc := 29) (As := []) (st := []) (X' := X29) (cs' := 0) (sl' := 0) (st10 := [vI v29]) B cal_X7_leaveWord kmX7_132 kn_X7_leaveWord ks_X7_leaveWord k29_5 (by decide) rfl (fun l hl => ct_X7_leaveWord hl e29) rfl (Nat.le_of_ble_eq_true rfl) (by decide) (by decide) dX7_closeBlock_29 rfl rfl rfl rfl ?_
      obtain rfl := Option.some.inj h
      exact g_ret_I (pc := 32) B rfl (by decide) (by decide) dX7_closeBlock_32
theorem ct_X7_closeBlock {D : DD} {l : Launch} {X0 : Mem} {x0 : Nat} {x1 : Option Nat} {x2 : Int32} {r : Int32 × Mem} (hl : l.stackTraces = false) (h : fX7_closeBlock X0 x0 x1 x2 = some r) : Ctr D l yX7_closeBlock cX7_closeBlock 6 (some .int) rmX7_closeBlock [vA (some x0), vA x1, vI x2] X0 (.inr (some (vI r.1))) r.2 :=
  ctr_of hl (plainFor_of_name (by decide)) (Nat.le_of_ble_eq_true rfl) fun ev _ ht B => cb_X7_closeBlock_L0 B ht h
set_option maxRecDepth 100000 in
set_option maxHeartbeats 4000000 in
theorem cb_X7_canCount_L0 {D : DD} {ev : EV} {X0 : Mem} {X : Mem} {x0 : Nat} {r : Int32 × Mem} (B : Amb D (foot X0) ev RX7 "canCount" cX7_canCount 1 (some .boolean) rmX7_canCount) (ht : Tb0 ev)  (h : fX7_canCount X x0 = some r) : Gd D (foot X0) ev (QF D ev X0 (.inr (some (vI r.1))) r.2 rmX7_canCount) X 0 0 0 [(0, vA (some x0))] [] := by
  unfold fX7_canCount at h
  refine g_aload_n (pc := 0) B dX7_canCount_0 0 rfl ?_
  obtain ⟨k1_1, h⟩ := chk h
  refine g_getI (pc := 1) 7 7 B k1_1 (by decide) (by decide) rfl kfX7_39 dX7_canCount_1 ?_
  refine g_aload_n (pc := 4) B dX7_canCount_4 0 rfl ?_
  refine g_getI (pc := 5) 7 6 B k1_1 (by decide) (by decide) rfl kfX7_42 dX7_canCount_5 ?_
  refine g_icmp_lt (pc := 8) (tgt := 18) B dX7_canCount_8 (by decide) (fun c8 => ?_) (fun c8 => ?_)
  · rw [if_pos c8] at h
    refine g_iconst (pc := 18) B dX7_canCount_18 (1 : Int32) (by decide) ?_
    obtain rfl := Option.some.inj h
    exact g_ret_Z (pc := 19) B rfl (Or.inr rfl) (by decide) (by decide) dX7_canCount_19
  · rw [if_neg c8] at h
    refine g_aload_n (pc := 11) B dX7_canCount_11 0 rfl ?_
    refine g_iconst (pc := 12) B dX7_canCount_12 (1 : Int32) (by decide) ?_
    refine g_putI (pc := 13) 7 8 B k1_1 (by decide) (by decide) rfl rfl kfX7_35 dX7_canCount_13 ?_
    refine g_iconst (pc := 16) B dX7_canCount_16 (0 : Int32) (by decide) ?_
    obtain rfl := Option.some.inj h
    exact g_ret_Z (pc := 17) B rfl (Or.inl rfl) (by decide) (by decide) dX7_canCount_17
theorem ct_X7_canCount {D : DD} {l : Launch} {X0 : Mem} {x0 : Nat} {r : Int32 × Mem} (hl : l.stackTraces = false) (h : fX7_canCount X0 x0 = some r) : Ctr D l yX7_canCount cX7_canCount 1 (some .boolean) rmX7_canCount [vA (some x0)] X0 (.inr (some (vI r.1))) r.2 :=
  ctr_of hl (plainFor_of_name (by decide)) (Nat.le_of_ble_eq_true rfl) fun ev _ ht B => cb_X7_canCount_L0 B ht h
set_option maxRecDepth 100000 in
set_option maxHeartbeats 4000000 in
theorem cb_X7_nameAt_L0 {D : DD} {ev : EV} {X0 : Mem} {x0 : Nat} {x1 : Int32} {r : Int32} (B : Amb D (foot X0) ev RX7 "nameAt" cX7_nameAt 2 (some .int) rmX7_nameAt) (ht : Tb0 ev)  (h : fX7_nameAt X0 x0 x1 = some r) : Gd D (foot X0) ev (QF D ev X0 (.inr (some (vI r))) X0 rmX7_nameAt) X0 0 0 0 [(0, vA (some x0)), (1, vI x1)] [] := by
  unfold fX7_nameAt at h
  refine g_iload_n (pc := 0) B dX7_nameAt_0 1 rfl ?_
  refine g_if_lt (pc := 1) (tgt := 22) B dX7_nameAt_1 (by decide) (fun c1 => ?_) (fun c1 => ?_)
  · rw [if_pos c1] at h
    refine g_iconst (pc := 22) B dX7_nameAt_22 (0 : Int32) (by decide) ?_
    obtain rfl := Option.some.inj h
    exact g_ret_I (pc := 23) B rfl (by decide) (by decide) dX7_nameAt_23
  · rw [if_neg c1] at h
    refine g_iload_n (pc := 4) B dX7_nameAt_4 1 rfl ?_
    refine g_aload_n (pc := 5) B dX7_nameAt_5 0 rfl ?_
    obtain ⟨k6_1, h⟩ := chk h
    refine g_getR (pc := 6) 7 1 B k6_1 (by decide) (by decide) rfl kfX7_18 dX7_nameAt_6 ?_
    obtain ⟨a9_2, ea9_2, h⟩ := ob h
    rw [ea9_2]
    obtain ⟨n9_2, en9_2, h⟩ := ob h
    obtain ⟨tn9_2, kn9_2, qn9_2⟩ := alen_s en9_2
    refine g_alen (pc := 9) B kn9_2 qn9_2 dX7_nameAt_9 ?_
    refine g_icmp_ge (pc := 10) (tgt := 22) B dX7_nameAt_10 (by decide) (fun c10 => ?_) (fun c10 => ?_)
    · rw [if_pos c10] at h
      refine g_iconst (pc := 22) B dX7_nameAt_22 (0 : Int32) (by decide) ?_
      obtain rfl := Option.some.inj h
      exact g_ret_I (pc := 23) B rfl (by decide) (by decide) dX7_nameAt_23
    · rw [if_neg c10] at h
      refine g_aload_n (pc := 13) B dX7_nameAt_13 0 rfl ?_
      refine g_getR (pc := 14) 7 1 B k6_1 (by decide) (by decide) rfl kfX7_18 dX7_nameAt_14 ?_
      refine g_iload_n (pc := 17) B dX7_nameAt_17 1 rfl ?_
      obtain ⟨a18_4, ea18_4, h⟩ := ob h
      rw [ea18_4]
      obtain ⟨c18, h⟩ := chk h
      obtain ⟨nc18, kc18, ic18⟩ := inb_s c18
      refine g_iald (pc := 18) B kc18 ic18 dX7_nameAt_18 ?_
      refine g_goto (pc := 19) (tgt := 23) B dX7_nameAt_19 (by decide) ?_
      obtain rfl := Option.some.inj h
      exact g_ret_I (pc := 23) B rfl (by decide) (by decide) dX7_nameAt_23
theorem ct_X7_nameAt {D : DD} {l : Launch} {X0 : Mem} {x0 : Nat} {x1 : Int32} {r : Int32} (hl : l.stackTraces = false) (h : fX7_nameAt X0 x0 x1 = some r) : Ctr D l yX7_nameAt cX7_nameAt 2 (some .int) rmX7_nameAt [vA (some x0), vI x1] X0 (.inr (some (vI r))) X0 :=
  ctr_of hl (plainFor_of_name (by decide)) (Nat.le_of_ble_eq_true rfl) fun ev _ ht B => cb_X7_nameAt_L0 B ht h
set_option maxRecDepth 100000 in
set_option maxHeartbeats 4000000 in
theorem cb_X7_valueOf_L0 {D : DD} {ev : EV} {X0 : Mem} {x0 : Nat} {x1 : Option Nat} {r : Int32} (B : Amb D (foot X0) ev RX7 "valueOf" cX7_valueOf 2 (some .int) rmX7_valueOf) (ht : Tb0 ev)  (h : fX7_valueOf X0 x0 x1 = some r) : Gd D (foot X0) ev (QF D ev X0 (.inr (some (vI r))) X0 rmX7_valueOf) X0 0 0 0 [(0, vA (some x0)), (1, vA x1)] [] := by
  unfold fX7_valueOf at h
  refine g_aload_n (pc := 0) B dX7_valueOf_0 1 rfl ?_
  obtain ⟨a1_1, ea1_1, h⟩ := ob h
  rw [ea1_1]
  obtain ⟨k1_2, h⟩ := chk h
  refine g_getIN (pc := 1) 4 3 B k1_2 (by decide) (by decide) rfl kfX7_115 dX7_valueOf_1 ?_
  refine g_if_eq (pc := 4) (tgt := 18) B dX7_valueOf_4 (by decide) (fun c4 => ?_) (fun c4 => ?_)
  · rw [if_pos c4] at h
    refine g_aload_n (pc := 18) B dX7_valueOf_18 1 rfl ?_
    refine g_getIN (pc := 19) 4 2 B k1_2 (by decide) (by decide) rfl kfX7_119 dX7_valueOf_19 ?_
    obtain rfl := Option.some.inj h
    exact g_ret_I (pc := 22) B rfl (by decide) (by decide) dX7_valueOf_22
  · rw [if_neg c4] at h
    refine g_aload_n (pc := 7) B dX7_valueOf_7 0 rfl ?_
    refine g_aload_n (pc := 8) B dX7_valueOf_8 1 rfl ?_
    refine g_getIN (pc := 9) 4 2 B k1_2 (by decide) (by decide) rfl kfX7_119 dX7_valueOf_9 ?_
    obtain ⟨k12_3, h⟩ := chk h
    obtain ⟨v12, e12, h⟩ := ob h
    refine h_callV (pc := 12) (As := [vI (mI X0 402 a1_1)]) (st := []) (X' := X0) (cs' := 0) (sl' := 0) (st10 := [vI v12]) B cal_X7_nameAt kmX7_105 kn_X7_nameAt ks_X7_nameAt k12_3 (by decide) rfl (fun l hl => ct_X7_nameAt hl e12) rfl (Nat.le_of_ble_eq_true rfl) (by decide) (by decide) dX7_valueOf_12 rfl rfl rfl rfl ?_
    refine g_goto (pc := 15) (tgt := 22) B dX7_valueOf_15 (by decide) ?_
    obtain rfl := Option.some.inj h
    exact g_ret_I (pc := 22) B rfl (by decide) (by decide) dX7_valueOf_22
theorem ct_X7_valueOf {D : DD} {l : Launch} {X0 : Mem} {x0 : Nat} {x1 : Option Nat} {r : Int32} (hl : l.stackTraces = false) (h : fX7_valueOf X0 x0 x1 = some r) : Ctr D l yX7_valueOf cX7_valueOf 2 (some .int) rmX7_valueOf [vA (some x0), vA x1] X0 (.inr (some (vI r))) X0 :=
  ctr_of hl (plainFor_of_name (by decide)) (Nat.le_of_ble_eq_true rfl) fun ev _ ht B => cb_X7_valueOf_L0 B ht h
set_option maxRecDepth 100000 in
set_option maxHeartbeats 4000000 in
theorem cb_X8_aheadX_L0 {D : DD} {ev : EV} {X0 : Mem} {x0 : Nat} {r : Int32} (B : Amb D (foot X0) ev RX8 "aheadX" cX8_aheadX 1 (some .int) rmX8_aheadX) (ht : Tb0 ev)  (h : fX8_aheadX X0 x0 = some r) : Gd D (foot X0) ev (QF D ev X0 (.inr (some (vI r))) X0 rmX8_aheadX) X0 0 0 0 [(0, vA (some x0))] [] := by
  unfold fX8_aheadX at h
  refine g_aload_n (pc := 0) B dX8_aheadX_0 0 rfl ?_
  obtain ⟨k1_1, h⟩ := chk h
  refine g_getI (pc := 1) 8 2 B k1_1 (by decide) (by decide) rfl kfX8_18 dX8_aheadX_1 ?_
  refine g_iconst (pc := 4) B dX8_aheadX_4 (1 : Int32) (by decide) ?_
  refine g_icmp_ne (pc := 5) (tgt := 12) B dX8_aheadX_5 (by decide) (fun c5 => ?_) (fun c5 => ?_)
  · rw [if_neg c5] at h
    refine g_aload_n (pc := 12) B dX8_aheadX_12 0 rfl ?_
    refine g_getI (pc := 13) 8 2 B k1_1 (by decide) (by decide) rfl kfX8_18 dX8_aheadX_13 ?_
    refine g_iconst (pc := 16) B dX8_aheadX_16 (3 : Int32) (by decide) ?_
    refine g_icmp_ne (pc := 17) (tgt := 24) B dX8_aheadX_17 (by decide) (fun c17 => ?_) (fun c17 => ?_)
    · rw [if_neg c17] at h
      refine g_iconst (pc := 24) B dX8_aheadX_24 (0 : Int32) (by decide) ?_
      obtain rfl := Option.some.inj h
      exact g_ret_I (pc := 25) B rfl (by decide) (by decide) dX8_aheadX_25
    · rw [if_pos c17] at h
      refine g_iconst (pc := 20) B dX8_aheadX_20 (-1) (by decide) ?_
      refine g_goto (pc := 21) (tgt := 25) B dX8_aheadX_21 (by decide) ?_
      obtain rfl := Option.some.inj h
      exact g_ret_I (pc := 25) B rfl (by decide) (by decide) dX8_aheadX_25
  · rw [if_pos c5] at h
    refine g_iconst (pc := 8) B dX8_aheadX_8 (1 : Int32) (by decide) ?_
    refine g_goto (pc := 9) (tgt := 25) B dX8_aheadX_9 (by decide) ?_
    obtain rfl := Option.some.inj h
    exact g_ret_I (pc := 25) B rfl (by decide) (by decide) dX8_aheadX_25
theorem ct_X8_aheadX {D : DD} {l : Launch} {X0 : Mem} {x0 : Nat} {r : Int32} (hl : l.stackTraces = false) (h : fX8_aheadX X0 x0 = some r) : Ctr D l yX8_aheadX cX8_aheadX 1 (some .int) rmX8_aheadX [vA (some x0)] X0 (.inr (some (vI r))) X0 :=
  ctr_of hl (plainFor_of_name (by decide)) (Nat.le_of_ble_eq_true rfl) fun ev _ ht B => cb_X8_aheadX_L0 B ht h
set_option maxRecDepth 100000 in
set_option maxHeartbeats 4000000 in
theorem cb_X11_isOnGround_L0 {D : DD} {ev : EV} {X0 : Mem} {x0 : Int32} {r : Int32} (B : Amb D (foot X0) ev RX11 "isOnGround" cX11_isOnGround 1 (some .boolean) rmX11_isOnGround) (ht : Tb0 ev)  (h : fX11_isOnGround X0 x0 = some r) : Gd D (foot X0) ev (QF D ev X0 (.inr (some (vI r))) X0 rmX11_isOnGround) X0 0 0 0 [(0, vI x0)] [] := by
  unfold fX11_isOnGround at h
  refine g_iload_n (pc := 0) B dX11_isOnGround_0 0 rfl ?_
  refine g_if_lt (pc := 1) (tgt := 14) B dX11_isOnGround_1 (by decide) (fun c1 => ?_) (fun c1 => ?_)
  · rw [if_pos c1] at h
    refine g_iconst (pc := 14) B dX11_isOnGround_14 (0 : Int32) (by decide) ?_
    obtain rfl := Option.some.inj h
    exact g_ret_Z (pc := 15) B rfl (Or.inl rfl) (by decide) (by decide) dX11_isOnGround_15
  · rw [if_neg c1] at h
    refine g_iload_n (pc := 4) B dX11_isOnGround_4 0 rfl ?_
    refine g_bipush (pc := 5) B dX11_isOnGround_5 (16 : Int32) (by decide) ?_
    refine g_icmp_ge (pc := 7) (tgt := 14) B dX11_isOnGround_7 (by decide) (fun c7 => ?_) (fun c7 => ?_)
    · rw [if_pos c7] at h
      refine g_iconst (pc := 14) B dX11_isOnGround_14 (0 : Int32) (by decide) ?_
      obtain rfl := Option.some.inj h
      exact g_ret_Z (pc := 15) B rfl (Or.inl rfl) (by decide) (by decide) dX11_isOnGround_15
    · rw [if_neg c7] at h
      refine g_iconst (pc := 10) B dX11_isOnGround_10 (1 : Int32) (by decide) ?_
      refine g_goto (pc := 11) (tgt := 15) B dX11_isOnGround_11 (by decide) ?_
      obtain rfl := Option.some.inj h
      exact g_ret_Z (pc := 15) B rfl (Or.inr rfl) (by decide) (by decide) dX11_isOnGround_15
theorem ct_X11_isOnGround {D : DD} {l : Launch} {X0 : Mem} {x0 : Int32} {r : Int32} (hl : l.stackTraces = false) (h : fX11_isOnGround X0 x0 = some r) : Ctr D l yX11_isOnGround cX11_isOnGround 1 (some .boolean) rmX11_isOnGround [vI x0] X0 (.inr (some (vI r))) X0 :=
  ctr_of hl (plainFor_of_name (by decide)) (Nat.le_of_ble_eq_true rfl) fun ev _ ht B => cb_X11_isOnGround_L0 B ht h
set_option maxRecDepth 100000 in
set_option maxHeartbeats 4000000 in
theorem cb_X8_aheadY_L0 {D : DD} {ev : EV} {X0 : Mem} {x0 : Nat} {r : Int32} (B : Amb D (foot X0) ev RX8 "aheadY" cX8_aheadY 1 (some .int) rmX8_aheadY) (ht : Tb0 ev)  (h : fX8_aheadY X0 x0 = some r) : Gd D (foot X0) ev (QF D ev X0 (.inr (some (vI r))) X0 rmX8_aheadY) X0 0 0 0 [(0, vA (some x0))] [] := by
  unfold fX8_aheadY at h
  refine g_aload_n (pc := 0) B dX8_aheadY_0 0 rfl ?_
  obtain ⟨k1_1, h⟩ := chk h
  refine g_getI (pc := 1) 8 2 B k1_1 (by decide) (by decide) rfl kfX8_18 dX8_aheadY_1 ?_
  refine g_if_ne (pc := 4) (tgt := 11) B dX8_aheadY_4 (by decide) (fun c4 => ?_) (fun c4 => ?_)
  · rw [if_neg c4] at h
    refine g_aload_n (pc := 11) B dX8_aheadY_11 0 rfl ?_
    refine g_getI (pc := 12) 8 2 B k1_1 (by decide) (by decide) rfl kfX8_18 dX8_aheadY_12 ?_
    refine g_iconst (pc := 15) B dX8_aheadY_15 (2 : Int32) (by decide) ?_
    refine g_icmp_ne (pc := 16) (tgt := 23) B dX8_aheadY_16 (by decide) (fun c16 => ?_) (fun c16 => ?_)
    · rw [if_neg c16] at h
      refine g_iconst (pc := 23) B dX8_aheadY_23 (0 : Int32) (by decide) ?_
      obtain rfl := Option.some.inj h
      exact g_ret_I (pc := 24) B rfl (by decide) (by decide) dX8_aheadY_24
    · rw [if_pos c16] at h
      refine g_iconst (pc := 19) B dX8_aheadY_19 (-1) (by decide) ?_
      refine g_goto (pc := 20) (tgt := 24) B dX8_aheadY_20 (by decide) ?_
      obtain rfl := Option.some.inj h
      exact g_ret_I (pc := 24) B rfl (by decide) (by decide) dX8_aheadY_24
  · rw [if_pos c4] at h
    refine g_iconst (pc := 7) B dX8_aheadY_7 (1 : Int32) (by decide) ?_
    refine g_goto (pc := 8) (tgt := 24) B dX8_aheadY_8 (by decide) ?_
    obtain rfl := Option.some.inj h
    exact g_ret_I (pc := 24) B rfl (by decide) (by decide) dX8_aheadY_24
theorem ct_X8_aheadY {D : DD} {l : Launch} {X0 : Mem} {x0 : Nat} {r : Int32} (hl : l.stackTraces = false) (h : fX8_aheadY X0 x0 = some r) : Ctr D l yX8_aheadY cX8_aheadY 1 (some .int) rmX8_aheadY [vA (some x0)] X0 (.inr (some (vI r))) X0 :=
  ctr_of hl (plainFor_of_name (by decide)) (Nat.le_of_ble_eq_true rfl) fun ev _ ht B => cb_X8_aheadY_L0 B ht h
set_option maxRecDepth 100000 in
set_option maxHeartbeats 4000000 in
theorem cb_X8_canGo_L0 {D : DD} {ev : EV} {X0 : Mem} {x0 : Nat} {r : Int32} (B : Amb D (foot X0) ev RX8 "canGo" cX8_canGo 1 (some .boolean) rmX8_canGo) (ht : Tb0 ev)  (h : fX8_canGo X0 x0 = some r) : Gd D (foot X0) ev (QF D ev X0 (.inr (some (vI r))) X0 rmX8_canGo) X0 0 0 0 [(0, vA (some x0))] [] := by
  unfold fX8_canGo at h
  refine g_aload_n (pc := 0) B dX8_canGo_0 0 rfl ?_
  obtain ⟨k1_1, h⟩ := chk h
  refine g_getI (pc := 1) 8 0 B k1_1 (by decide) (by decide) rfl kfX8_9 dX8_canGo_1 ?_
  refine g_aload_n (pc := 4) B dX8_canGo_4 0 rfl ?_
  obtain ⟨v5, e5, h⟩ := ob h
  refine h_callV (pc := 5) (As := []) (st := [vI (mI X0 800 x0)]) (X' := X0) (cs' := 0) (sl' := 0) (st10 := [vI v5, vI (mI X0 800 x0)]) B cal_X8_aheadX kmX8_31 kn_X8_aheadX ks_X8_aheadX k1_1 (by decide) rfl (fun l hl => ct_X8_aheadX hl e5) rfl (Nat.le_of_ble_eq_true rfl) (by decide) (by decide) dX8_canGo_5 rfl rfl rfl rfl ?_
  refine g_iadd (pc := 8) B dX8_canGo_8 ?_
  obtain ⟨v9, e9, h⟩ := ob h
  refine h_callSN (pc := 9) (As := [vI ((mI X0 800 x0) + v5)]) (st := []) (X' := X0) (cs' := 0) (sl' := 0) (st10 := [vI v9]) B cal_X11_isOnGround kmX8_35 kz_X11_isOnGround (fun l hl => ct_X11_isOnGround hl e9) rfl (Nat.le_of_ble_eq_true rfl) (by decide) (by decide) dX8_canGo_9 rfl rfl rfl rfl ?_
  refine g_if_eq (pc := 12) (tgt := 34) B dX8_canGo_12 (by decide) (fun c12 => ?_) (fun c12 => ?_)
  · rw [if_pos c12] at h
    refine g_iconst (pc := 34) B dX8_canGo_34 (0 : Int32) (by decide) ?_
    obtain rfl := Option.some.inj h
    exact g_ret_Z (pc := 35) B rfl (Or.inl rfl) (by decide) (by decide) dX8_canGo_35
  · rw [if_neg c12] at h
    refine g_aload_n (pc := 15) B dX8_canGo_15 0 rfl ?_
    refine g_getI (pc := 16) 8 1 B k1_1 (by decide) (by decide) rfl kfX8_15 dX8_canGo_16 ?_
    refine g_aload_n (pc := 19) B dX8_canGo_19 0 rfl ?_
    obtain ⟨v20, e20, h⟩ := ob h
    refine h_callV (pc := 20) (As := []) (st := [vI (mI X0 801 x0)]) (X' := X0) (cs' := 0) (sl' := 0) (st10 := [vI v20, vI (mI X0 801 x0)]) B cal_X8_aheadY kmX8_39 kn_X8_aheadY ks_X8_aheadY k1_1 (by decide) rfl (fun l hl => ct_X8_aheadY hl e20) rfl (Nat.le_of_ble_eq_true rfl) (by decide) (by decide) dX8_canGo_20 rfl rfl rfl rfl ?_
    refine g_iadd (pc := 23) B dX8_canGo_23 ?_
    obtain ⟨v24, e24, h⟩ := ob h
    refine h_callSN (pc := 24) (As := [vI ((mI X0 801 x0) + v20)]) (st := []) (X' := X0) (cs' := 0) (sl' := 0) (st10 := [vI v24]) B cal_X11_isOnGround kmX8_35 kz_X11_isOnGround (fun l hl => ct_X11_isOnGround hl e24) rfl (Nat.le_of_ble_eq_true rfl) (by decide) (by decide) dX8_canGo_24 rfl rfl rfl rfl ?_
    refine g_if_eq (pc := 27) (tgt := 34) B dX8_canGo_27 (by decide) (fun c27 => ?_) (fun c27 => ?_)
    · rw [if_pos c27] at h
      refine g_iconst (pc := 34) B dX8_canGo_34 (0 : Int32) (by decide) ?_
      obtain rfl := Option.some.inj h
      exact g_ret_Z (pc := 35) B rfl (Or.inl rfl) (by decide) (by decide) dX8_canGo_35
    · rw [if_neg c27] at h
      refine g_iconst (pc := 30) B dX8_canGo_30 (1 : Int32) (by decide) ?_
      refine g_goto (pc := 31) (tgt := 35) B dX8_canGo_31 (by decide) ?_
      obtain rfl := Option.some.inj h
      exact g_ret_Z (pc := 35) B rfl (Or.inr rfl) (by decide) (by decide) dX8_canGo_35
theorem ct_X8_canGo {D : DD} {l : Launch} {X0 : Mem} {x0 : Nat} {r : Int32} (hl : l.stackTraces = false) (h : fX8_canGo X0 x0 = some r) : Ctr D l yX8_canGo cX8_canGo 1 (some .boolean) rmX8_canGo [vA (some x0)] X0 (.inr (some (vI r))) X0 :=
  ctr_of hl (plainFor_of_name (by decide)) (Nat.le_of_ble_eq_true rfl) fun ev _ ht B => cb_X8_canGo_L0 B ht h
set_option maxRecDepth 100000 in
set_option maxHeartbeats 4000000 in
theorem cb_J9_min_7cf53_L0 {D : DD} {ev : EV} {X0 : Mem} {x0 : Int32} {x1 : Int32} {r : Int32} (B : Amb D (foot X0) ev RJ9 "min" cJ9_min_7cf53 2 (some .int) rmJ9_min_7cf53) (ht : Tb0 ev)  (h : fJ9_min_7cf53 X0 x0 x1 = some r) : Gd D (foot X0) ev (QF D ev X0 (.inr (some (vI r))) X0 rmJ9_min_7cf53) X0 0 0 0 [(0, vI x0), (1, vI x1)] [] := by
  unfold fJ9_min_7cf53 at h
  refine g_iload_n (pc := 0) B dJ9_min_7cf53_0 0 rfl ?_
  refine g_iload_n (pc := 1) B dJ9_min_7cf53_1 1 rfl ?_
  refine g_icmp_gt (pc := 2) (tgt := 9) B dJ9_min_7cf53_2 (by decide) (fun c2 => ?_) (fun c2 => ?_)
  · rw [if_pos c2] at h
    refine g_iload_n (pc := 9) B dJ9_min_7cf53_9 1 rfl ?_
    obtain rfl := Option.some.inj h
    exact g_ret_I (pc := 10) B rfl (by decide) (by decide) dJ9_min_7cf53_10
  · rw [if_neg c2] at h
    refine g_iload_n (pc := 5) B dJ9_min_7cf53_5 0 rfl ?_
    refine g_goto (pc := 6) (tgt := 10) B dJ9_min_7cf53_6 (by decide) ?_
    obtain rfl := Option.some.inj h
    exact g_ret_I (pc := 10) B rfl (by decide) (by decide) dJ9_min_7cf53_10
theorem ct_J9_min_7cf53 {D : DD} {l : Launch} {X0 : Mem} {x0 : Int32} {x1 : Int32} {r : Int32} (hl : l.stackTraces = false) (h : fJ9_min_7cf53 X0 x0 x1 = some r) : Ctr D l yJ9_min_7cf53 cJ9_min_7cf53 2 (some .int) rmJ9_min_7cf53 [vI x0, vI x1] X0 (.inr (some (vI r))) X0 :=
  ctr_of hl (by decide +kernel) (Nat.le_of_ble_eq_true rfl) fun ev _ ht B => cb_J9_min_7cf53_L0 B ht h
set_option maxRecDepth 100000 in
set_option maxHeartbeats 4000000 in
theorem cb_X2_takeIn_L113 {D : DD} {ev : EV} {X0 : Mem} {X : Mem} {s0 : Nat} {s1 : Int32} {r : Mem} (B : Amb D (foot X0) ev RX2 "takeIn" cX2_takeIn 6 (none) rmX2_takeIn) (ht : Tb0 ev)  (h : fX2_takeIn_L113 X s0 s1 = some r) : Gd D (foot X0) ev (QF D ev X0 (.inr (none)) r rmX2_takeIn) X 0 0 113 [] [vI s1, vA (some s0)] := by
  unfold fX2_takeIn_L113 at h
  obtain ⟨k113_1, h⟩ := chk h
  refine g_putI (pc := 113) 2 6 B k113_1 (by decide) (by decide) rfl rfl kfX2_39 dX2_takeIn_113 ?_
  obtain rfl := Option.some.inj h
  exact g_ret_V (pc := 116) B rfl (by decide) (by decide) dX2_takeIn_116
set_option maxRecDepth 100000 in
set_option maxHeartbeats 4000000 in
theorem cb_X2_takeIn_L104 {D : DD} {ev : EV} {X0 : Mem} {X : Mem} {x4 : Int32} {s0 : Nat} {r : Mem} (B : Amb D (foot X0) ev RX2 "takeIn" cX2_takeIn 6 (none) rmX2_takeIn) (ht : Tb0 ev)  (h : fX2_takeIn_L104 X x4 s0 = some r) : Gd D (foot X0) ev (QF D ev X0 (.inr (none)) r rmX2_takeIn) X 0 0 104 [(4, vI x4)] [vA (some s0)] := by
  unfold fX2_takeIn_L104 at h
  refine g_iload (pc := 104) B dX2_takeIn_104 0 rfl ?_
  refine g_goto (pc := 106) (tgt := 113) B dX2_takeIn_106 (by decide) ?_
  refine g_sub (pc := 113) [] rfl ?_
  exact cb_X2_takeIn_L113 B ht h
set_option maxRecDepth 100000 in
set_option maxHeartbeats 4000000 in
theorem cb_X2_takeIn_L86 {D : DD} {ev : EV} {X0 : Mem} {X : Mem} {x0 : Nat} {x4 : Int32} {x5 : Int32} {s0 : Nat} {s1 : Int32} {r : Mem} (B : Amb D (foot X0) ev RX2 "takeIn" cX2_takeIn 6 (none) rmX2_takeIn) (ht : Tb0 ev)  (h : fX2_takeIn_L86 X x0 x4 x5 s0 s1 = some r) : Gd D (foot X0) ev (QF D ev X0 (.inr (none)) r rmX2_takeIn) X 0 0 86 [(0, vA (some x0)), (4, vI x4), (5, vI x5)] [vI s1, vA (some s0)] := by
  unfold fX2_takeIn_L86 at h
  obtain ⟨k86_1, h⟩ := chk h
  refine g_putI (pc := 86) 2 5 B k86_1 (by decide) (by decide) rfl rfl kfX2_36 dX2_takeIn_86 ?_
  refine g_aload_n (pc := 89) B dX2_takeIn_89 0 rfl ?_
  refine g_iload (pc := 90) B dX2_takeIn_90 2 rfl ?_
  refine g_if_ne (pc := 92) (tgt := 104) B dX2_takeIn_92 (by decide) (fun c92 => ?_) (fun c92 => ?_)
  · rw [if_neg c92] at h
    refine g_sub (pc := 104) [1] rfl ?_
    exact cb_X2_takeIn_L104 B ht h
  · rw [if_pos c92] at h
    refine g_iload (pc := 95) B dX2_takeIn_95 1 rfl ?_
    refine g_aload_n (pc := 97) B dX2_takeIn_97 0 rfl ?_
    obtain ⟨k98_2, h⟩ := chk h
    refine g_getI (pc := 98) 2 6 B k98_2 (by decide) (by decide) rfl kfX2_39 dX2_takeIn_98 ?_
    refine g_icmp_le (pc := 101) (tgt := 109) B dX2_takeIn_101 (by decide) (fun c101 => ?_) (fun c101 => ?_)
    · rw [if_pos c101] at h
      refine g_aload_n (pc := 109) B dX2_takeIn_109 0 rfl ?_
      refine g_getI (pc := 110) 2 6 B k98_2 (by decide) (by decide) rfl kfX2_39 dX2_takeIn_110 ?_
      refine g_sub (pc := 113) [] rfl ?_
      exact cb_X2_takeIn_L113 B ht h
    · rw [if_neg c101] at h
      refine g_sub (pc := 104) [1] rfl ?_
      exact cb_X2_takeIn_L104 B ht h
set_option maxRecDepth 100000 in
set_option maxHeartbeats 4000000 in
theorem cb_X2_takeIn_L78 {D : DD} {ev : EV} {X0 : Mem} {X : Mem} {x0 : Nat} {x3 : Int32} {x4 : Int32} {x5 : Int32} {s0 : Nat} {r : Mem} (B : Amb D (foot X0) ev RX2 "takeIn" cX2_takeIn 6 (none) rmX2_takeIn) (ht : Tb0 ev)  (h : fX2_takeIn_L78 X x0 x3 x4 x5 s0 = some r) : Gd D (foot X0) ev (QF D ev X0 (.inr (none)) r rmX2_takeIn) X 0 0 78 [(0, vA (some x0)), (3, vI x3), (4, vI x4), (5, vI x5)] [vA (some s0)] := by
  unfold fX2_takeIn_L78 at h
  refine g_iload_n (pc := 78) B dX2_takeIn_78 1 rfl ?_
  refine g_goto (pc := 79) (tgt := 86) B dX2_takeIn_79 (by decide) ?_
  refine g_sub (pc := 86) [0, 2, 3] rfl ?_
  exact cb_X2_takeIn_L86 B ht h
set_option maxRecDepth 100000 in
set_option maxHeartbeats 4000000 in
theorem cb_X2_takeIn_L61 {D : DD} {ev : EV} {X0 : Mem} {X : Mem} {x0 : Nat} {x3 : Int32} {x4 : Int32} {x5 : Int32} {s0 : Nat} {s1 : Int32} {r : Mem} (B : Amb D (foot X0) ev RX2 "takeIn" cX2_takeIn 6 (none) rmX2_takeIn) (ht : Tb0 ev)  (h : fX2_takeIn_L61 X x0 x3 x4 x5 s0 s1 = some r) : Gd D (foot X0) ev (QF D ev X0 (.inr (none)) r rmX2_takeIn) X 0 0 61 [(0, vA (some x0)), (3, vI x3), (4, vI x4), (5, vI x5)] [vI s1, vA (some s0)] := by
  unfold fX2_takeIn_L61 at h
  obtain ⟨k61_1, h⟩ := chk h
  refine g_putI (pc := 61) 2 4 B k61_1 (by decide) (by decide) rfl rfl kfX2_33 dX2_takeIn_61 ?_
  refine g_aload_n (pc := 64) B dX2_takeIn_64 0 rfl ?_
  refine g_iload (pc := 65) B dX2_takeIn_65 3 rfl ?_
  refine g_if_ne (pc := 67) (tgt := 78) B dX2_takeIn_67 (by decide) (fun c67 => ?_) (fun c67 => ?_)
  · rw [if_neg c67] at h
    refine g_sub (pc := 78) [0, 1, 2, 3] rfl ?_
    exact cb_X2_takeIn_L78 B ht h
  · rw [if_pos c67] at h
    refine g_iload_n (pc := 70) B dX2_takeIn_70 1 rfl ?_
    refine g_aload_n (pc := 71) B dX2_takeIn_71 0 rfl ?_
    obtain ⟨k72_2, h⟩ := chk h
    refine g_getI (pc := 72) 2 5 B k72_2 (by decide) (by decide) rfl kfX2_36 dX2_takeIn_72 ?_
    refine g_icmp_le (pc := 75) (tgt := 82) B dX2_takeIn_75 (by decide) (fun c75 => ?_) (fun c75 => ?_)
    · rw [if_pos c75] at h
      refine g_aload_n (pc := 82) B dX2_takeIn_82 0 rfl ?_
      refine g_getI (pc := 83) 2 5 B k72_2 (by decide) (by decide) rfl kfX2_36 dX2_takeIn_83 ?_
      refine g_sub (pc := 86) [0, 2, 3] rfl ?_
      exact cb_X2_takeIn_L86 B ht h
    · rw [if_neg c75] at h
      refine g_sub (pc := 78) [0, 1, 2, 3] rfl ?_
      exact cb_X2_takeIn_L78 B ht h
set_option maxRecDepth 100000 in
set_option maxHeartbeats 4000000 in
theorem cb_X2_takeIn_L53 {D : DD} {ev : EV} {X0 : Mem} {X : Mem} {x0 : Nat} {x2 : Int32} {x3 : Int32} {x4 : Int32} {x5 : Int32} {s0 : Nat} {r : Mem} (B : Amb D (foot X0) ev RX2 "takeIn" cX2_takeIn 6 (none) rmX2_takeIn) (ht : Tb0 ev)  (h : fX2_takeIn_L53 X x0 x2 x3 x4 x5 s0 = some r) : Gd D (foot X0) ev (QF D ev X0 (.inr (none)) r rmX2_takeIn) X 0 0 53 [(0, vA (some x0)), (2, vI x2), (3, vI x3), (4, vI x4), (5, vI x5)] [vA (some s0)] := by
  unfold fX2_takeIn_L53 at h
  refine g_iload_n (pc := 53) B dX2_takeIn_53 1 rfl ?_
  refine g_goto (pc := 54) (tgt := 61) B dX2_takeIn_54 (by decide) ?_
  refine g_sub (pc := 61) [0, 2, 3, 4] rfl ?_
  exact cb_X2_takeIn_L61 B ht h
set_option maxRecDepth 100000 in
set_option maxHeartbeats 4000000 in
theorem cb_X2_takeIn_L36 {D : DD} {ev : EV} {X0 : Mem} {X : Mem} {x0 : Nat} {x2 : Int32} {x3 : Int32} {x4 : Int32} {x5 : Int32} {s0 : Nat} {s1 : Int32} {r : Mem} (B : Amb D (foot X0) ev RX2 "takeIn" cX2_takeIn 6 (none) rmX2_takeIn) (ht : Tb0 ev)  (h : fX2_takeIn_L36 X x0 x2 x3 x4 x5 s0 s1 = some r) : Gd D (foot X0) ev (QF D ev X0 (.inr (none)) r rmX2_takeIn) X 0 0 36 [(0, vA (some x0)), (2, vI x2), (3, vI x3), (4, vI x4), (5, vI x5)] [vI s1, vA (some s0)] := by
  unfold fX2_takeIn_L36 at h
  obtain ⟨k36_1, h⟩ := chk h
  refine g_putI (pc := 36) 2 3 B k36_1 (by decide) (by decide) rfl rfl kfX2_30 dX2_takeIn_36 ?_
  refine g_aload_n (pc := 39) B dX2_takeIn_39 0 rfl ?_
  refine g_iload (pc := 40) B dX2_takeIn_40 4 rfl ?_
  refine g_if_ne (pc := 42) (tgt := 53) B dX2_takeIn_42 (by decide) (fun c42 => ?_) (fun c42 => ?_)
  · rw [if_neg c42] at h
    refine g_sub (pc := 53) [0, 1, 2, 3, 4] rfl ?_
    exact cb_X2_takeIn_L53 B ht h
  · rw [if_pos c42] at h
    refine g_iload_n (pc := 45) B dX2_takeIn_45 1 rfl ?_
    refine g_aload_n (pc := 46) B dX2_takeIn_46 0 rfl ?_
    obtain ⟨k47_2, h⟩ := chk h
    refine g_getI (pc := 47) 2 4 B k47_2 (by decide) (by decide) rfl kfX2_33 dX2_takeIn_47 ?_
    refine g_icmp_ge (pc := 50) (tgt := 57) B dX2_takeIn_50 (by decide) (fun c50 => ?_) (fun c50 => ?_)
    · rw [if_pos c50] at h
      refine g_aload_n (pc := 57) B dX2_takeIn_57 0 rfl ?_
      refine g_getI (pc := 58) 2 4 B k47_2 (by decide) (by decide) rfl kfX2_33 dX2_takeIn_58 ?_
      refine g_sub (pc := 61) [0, 2, 3, 4] rfl ?_
      exact cb_X2_takeIn_L61 B ht h
    · rw [if_neg c50] at h
      refine g_sub (pc := 53) [0, 1, 2, 3, 4] rfl ?_
      exact cb_X2_takeIn_L53 B ht h
set_option maxRecDepth 100000 in
set_option maxHeartbeats 4000000 in
theorem cb_X2_takeIn_L28 {D : DD} {ev : EV} {X0 : Mem} {X : Mem} {x0 : Nat} {x1 : Int32} {x2 : Int32} {x3 : Int32} {x4 : Int32} {x5 : Int32} {s0 : Nat} {r : Mem} (B : Amb D (foot X0) ev RX2 "takeIn" cX2_takeIn 6 (none) rmX2_takeIn) (ht : Tb0 ev)  (h : fX2_takeIn_L28 X x0 x1 x2 x3 x4 x5 s0 = some r) : Gd D (foot X0) ev (QF D ev X0 (.inr (none)) r rmX2_takeIn) X 0 0 28 [(0, vA (some x0)), (1, vI x1), (2, vI x2), (3, vI x3), (4, vI x4), (5, vI x5)] [vA (some s0)] := by
  unfold fX2_takeIn_L28 at h
  refine g_iload_n (pc := 28) B dX2_takeIn_28 1 rfl ?_
  refine g_goto (pc := 29) (tgt := 36) B dX2_takeIn_29 (by decide) ?_
  refine g_sub (pc := 36) [0, 2, 3, 4, 5] rfl ?_
  exact cb_X2_takeIn_L36 B ht h
set_option maxRecDepth 100000 in
set_option maxHeartbeats 4000000 in
theorem cb_X2_takeIn_L12 {D : DD} {ev : EV} {X0 : Mem} {X : Mem} {x0 : Nat} {x1 : Int32} {x2 : Int32} {x3 : Int32} {x4 : Int32} {s0 : Int32} {r : Mem} (B : Amb D (foot X0) ev RX2 "takeIn" cX2_takeIn 6 (none) rmX2_takeIn) (ht : Tb0 ev)  (h : fX2_takeIn_L12 X x0 x1 x2 x3 x4 s0 = some r) : Gd D (foot X0) ev (QF D ev X0 (.inr (none)) r rmX2_takeIn) X 0 0 12 [(0, vA (some x0)), (1, vI x1), (2, vI x2), (3, vI x3), (4, vI x4)] [vI s0] := by
  unfold fX2_takeIn_L12 at h
  refine g_istore (pc := 12) (L' := [(5, vI s0), (0, vA (some x0)), (1, vI x1), (2, vI x2), (3, vI x3), (4, vI x4)]) B dX2_takeIn_12 (by decide) rfl ?_
  refine g_aload_n (pc := 14) B dX2_takeIn_14 1 rfl ?_
  refine g_iload (pc := 15) B dX2_takeIn_15 0 rfl ?_
  refine g_if_ne (pc := 17) (tgt := 28) B dX2_takeIn_17 (by decide) (fun c17 => ?_) (fun c17 => ?_)
  · rw [if_neg c17] at h
    refine g_sub (pc := 28) [1, 2, 3, 4, 5, 0] rfl ?_
    exact cb_X2_takeIn_L28 B ht h
  · rw [if_pos c17] at h
    refine g_iload_n (pc := 20) B dX2_takeIn_20 2 rfl ?_
    refine g_aload_n (pc := 21) B dX2_takeIn_21 1 rfl ?_
    obtain ⟨k22_1, h⟩ := chk h
    refine g_getI (pc := 22) 2 3 B k22_1 (by decide) (by decide) rfl kfX2_30 dX2_takeIn_22 ?_
    refine g_icmp_ge (pc := 25) (tgt := 32) B dX2_takeIn_25 (by decide) (fun c25 => ?_) (fun c25 => ?_)
    · rw [if_pos c25] at h
      refine g_aload_n (pc := 32) B dX2_takeIn_32 1 rfl ?_
      refine g_getI (pc := 33) 2 3 B k22_1 (by decide) (by decide) rfl kfX2_30 dX2_takeIn_33 ?_
      refine g_sub (pc := 36) [1, 3, 4, 5, 0] rfl ?_
      exact cb_X2_takeIn_L36 B ht h
    · rw [if_neg c25] at h
      refine g_sub (pc := 28) [1, 2, 3, 4, 5, 0] rfl ?_
      exact cb_X2_takeIn_L28 B ht h
set_option maxRecDepth 100000 in
set_option maxHeartbeats 4000000 in
theorem cb_X2_takeIn_L0 {D : DD} {ev : EV} {X0 : Mem} {X : Mem} {x0 : Nat} {x1 : Int32} {x2 : Int32} {x3 : Int32} {x4 : Int32} {r : Mem} (B : Amb D (foot X0) ev RX2 "takeIn" cX2_takeIn 6 (none) rmX2_takeIn) (ht : Tb0 ev)  (h : fX2_takeIn X x0 x1 x2 x3 x4 = some r) : Gd D (foot X0) ev (QF D ev X0 (.inr (none)) r rmX2_takeIn) X 0 0 0 [(0, vA (some x0)), (1, vI x1), (2, vI x2), (3, vI x3), (4, vI x4)] [] := by
  unfold fX2_takeIn at h
  refine g_aload_n (pc := 0) B dX2_takeIn_0 0 rfl ?_
  obtain ⟨k1_1, h⟩ := chk h
  refine g_getI (pc := 1) 2 2 B k1_1 (by decide) (by decide) rfl kfX2_18 dX2_takeIn_1 ?_
  refine g_if_ne (pc := 4) (tgt := 11) B dX2_takeIn_4 (by decide) (fun c4 => ?_) (fun c4 => ?_)
  · rw [if_neg c4] at h
    refine g_iconst (pc := 11) B dX2_takeIn_11 (0 : Int32) (by decide) ?_
    refine g_sub (pc := 12) [0, 1, 2, 3, 4] rfl ?_
    exact cb_X2_takeIn_L12 B ht h
  · rw [if_pos c4] at h
    refine g_iconst (pc := 7) B dX2_takeIn_7 (1 : Int32) (by decide) ?_
    refine g_goto (pc := 8) (tgt := 12) B dX2_takeIn_8 (by decide) ?_
    refine g_sub (pc := 12) [0, 1, 2, 3, 4] rfl ?_
    exact cb_X2_takeIn_L12 B ht h
theorem ct_X2_takeIn {D : DD} {l : Launch} {X0 : Mem} {x0 : Nat} {x1 : Int32} {x2 : Int32} {x3 : Int32} {x4 : Int32} {r : Mem} (hl : l.stackTraces = false) (h : fX2_takeIn X0 x0 x1 x2 x3 x4 = some r) : Ctr D l yX2_takeIn cX2_takeIn 6 (none) rmX2_takeIn [vA (some x0), vI x1, vI x2, vI x3, vI x4] X0 (.inr (none)) r :=
  ctr_of hl (plainFor_of_name (by decide)) (Nat.le_of_ble_eq_true rfl) fun ev _ ht B => cb_X2_takeIn_L0 B ht h
set_option maxRecDepth 100000 in
set_option maxHeartbeats 4000000 in
theorem cb_X2_draw_L83 {D : DD} {ev : EV} {X0 : Mem} {X : Mem} {x0 : Nat} {s0 : Nat} {s1 : Int32} {s2 : Int32} {s3 : Int32} {s4 : Int32} {r : Mem} (B : Amb D (foot X0) ev RX2 "draw" cX2_draw 5 (none) rmX2_draw) (ht : Tb0 ev)  (h : fX2_draw_L83 X x0 s0 s1 s2 s3 s4 = some r) : Gd D (foot X0) ev (QF D ev X0 (.inr (none)) r rmX2_draw) X 0 0 83 [(0, vA (some x0))] [vI s4, vI s3, vI s2, vI s1, vA (some s0)] := by
  unfold fX2_draw_L83 at h
  obtain ⟨k83_1, h⟩ := chk h
  obtain ⟨X83, e83, h⟩ := ob h
  refine h_callV (pc := 83) (As := [vI s1, vI s2, vI s3, vI s4]) (st := []) (X' := X83) (cs' := 0) (sl' := 0) (st10 := []) B cal_X2_takeIn kmX2_26 kn_X2_takeIn ks_X2_takeIn k83_1 (by decide) rfl (fun l hl => ct_X2_takeIn hl e83) rfl (Nat.le_of_ble_eq_true rfl) (by decide) (by decide) dX2_draw_83 rfl rfl rfl rfl ?_
  refine g_aload_n (pc := 86) B dX2_draw_86 0 rfl ?_
  refine g_dup (pc := 87) B dX2_draw_87 rfl ?_
  obtain ⟨k88_2, h⟩ := chk h
  refine g_getI (pc := 88) 2 2 B k88_2 (by decide) (by decide) rfl kfX2_18 dX2_draw_88 ?_
  refine g_iconst (pc := 91) B dX2_draw_91 (1 : Int32) (by decide) ?_
  refine g_iadd (pc := 92) B dX2_draw_92 ?_
  refine g_putI (pc := 93) 2 2 B k88_2 (by decide) (by decide) rfl rfl kfX2_18 dX2_draw_93 ?_
  obtain rfl := Option.some.inj h
  exact g_ret_V (pc := 96) B rfl (by decide) (by decide) dX2_draw_96
set_option maxRecDepth 100000 in
set_option maxHeartbeats 4000000 in
theorem cb_X2_draw_L72 {D : DD} {ev : EV} {X0 : Mem} {X : Mem} {x0 : Nat} {x2 : Int32} {x3 : Int32} {s0 : Nat} {s1 : Int32} {s2 : Int32} {s3 : Int32} {r : Mem} (B : Amb D (foot X0) ev RX2 "draw" cX2_draw 5 (none) rmX2_draw) (ht : Tb0 ev)  (h : fX2_draw_L72 X x0 x2 x3 s0 s1 s2 s3 = some r) : Gd D (foot X0) ev (QF D ev X0 (.inr (none)) r rmX2_draw) X 0 0 72 [(0, vA (some x0)), (2, vI x2), (3, vI x3)] [vI s3, vI s2, vI s1, vA (some s0)] := by
  unfold fX2_draw_L72 at h
  refine g_iload_n (pc := 72) B dX2_draw_72 2 rfl ?_
  refine g_if_eq (pc := 73) (tgt := 82) B dX2_draw_73 (by decide) (fun c73 => ?_) (fun c73 => ?_)
  · rw [if_pos c73] at h
    refine g_iload_n (pc := 82) B dX2_draw_82 1 rfl ?_
    refine g_sub (pc := 83) [0] rfl ?_
    exact cb_X2_draw_L83 B ht h
  · rw [if_neg c73] at h
    refine g_iload_n (pc := 76) B dX2_draw_76 1 rfl ?_
    refine g_iconst (pc := 77) B dX2_draw_77 (1 : Int32) (by decide) ?_
    refine g_iadd (pc := 78) B dX2_draw_78 ?_
    refine g_goto (pc := 79) (tgt := 83) B dX2_draw_79 (by decide) ?_
    refine g_sub (pc := 83) [0] rfl ?_
    exact cb_X2_draw_L83 B ht h
set_option maxRecDepth 100000 in
set_option maxHeartbeats 4000000 in
theorem cb_X2_draw_L15 {D : DD} {ev : EV} {X0 : Mem} {X : Mem} {x0 : Nat} {x1 : Int32} {x2 : Int32} {x3 : Int32} {s0 : Option Nat} {r : Mem} (B : Amb D (foot X0) ev RX2 "draw" cX2_draw 5 (none) rmX2_draw) (ht : Tb0 ev)  (h : fX2_draw_L15 X x0 x1 x2 x3 s0 = some r) : Gd D (foot X0) ev (QF D ev X0 (.inr (none)) r rmX2_draw) X 0 0 15 [(0, vA (some x0)), (1, vI x1), (2, vI x2), (3, vI x3)] [vA s0] := by
  unfold fX2_draw_L15 at h
  refine g_astore (pc := 15) (L' := [(4, vA s0), (0, vA (some x0)), (1, vI x1), (2, vI x2), (3, vI x3)]) B dX2_draw_15 (by decide) rfl ?_
  refine g_iload_n (pc := 17) B dX2_draw_17 2 rfl ?_
  obtain ⟨v18, e18, h⟩ := ob h
  refine h_callSN (pc := 18) (As := [vI x1]) (st := []) (X' := X) (cs' := 0) (sl' := 0) (st10 := [vI v18]) B cal_X11_isOnGround kmX2_22 kz_X11_isOnGround (fun l hl => ct_X11_isOnGround hl e18) rfl (Nat.le_of_ble_eq_true rfl) (by decide) (by decide) dX2_draw_18 rfl rfl rfl rfl ?_
  refine g_if_eq (pc := 21) (tgt := 47) B dX2_draw_21 (by decide) (fun c21 => ?_) (fun c21 => ?_)
  · rw [if_pos c21] at h
    obtain rfl := Option.some.inj h
    exact g_ret_V (pc := 47) B rfl (by decide) (by decide) dX2_draw_47
  · rw [if_neg c21] at h
    refine g_iload_n (pc := 24) B dX2_draw_24 3 rfl ?_
    refine g_if_lt (pc := 25) (tgt := 47) B dX2_draw_25 (by decide) (fun c25 => ?_) (fun c25 => ?_)
    · rw [if_pos c25] at h
      obtain rfl := Option.some.inj h
      exact g_ret_V (pc := 47) B rfl (by decide) (by decide) dX2_draw_47
    · rw [if_neg c25] at h
      refine g_iload_n (pc := 28) B dX2_draw_28 3 rfl ?_
      refine g_aload (pc := 29) B dX2_draw_29 0 rfl ?_
      obtain ⟨a31_1, ea31_1, h⟩ := ob h
      rw [ea31_1]
      obtain ⟨n31_1, en31_1, h⟩ := ob h
      obtain ⟨tn31_1, kn31_1, qn31_1⟩ := alen_s en31_1
      refine g_alen (pc := 31) B kn31_1 qn31_1 dX2_draw_31 ?_
      refine g_icmp_ge (pc := 32) (tgt := 47) B dX2_draw_32 (by decide) (fun c32 => ?_) (fun c32 => ?_)
      · rw [if_pos c32] at h
        obtain rfl := Option.some.inj h
        exact g_ret_V (pc := 47) B rfl (by decide) (by decide) dX2_draw_47
      · rw [if_neg c32] at h
        refine g_aload (pc := 35) B dX2_draw_35 0 rfl ?_
        refine g_iload_n (pc := 37) B dX2_draw_37 3 rfl ?_
        obtain ⟨c38, h⟩ := chk h
        obtain ⟨nc38, kc38, ic38⟩ := inb_s c38
        refine g_iald (pc := 38) B kc38 ic38 dX2_draw_38 ?_
        refine g_iload_n (pc := 39) B dX2_draw_39 2 rfl ?_
        refine g_ishr (pc := 40) B dX2_draw_40 ?_
        refine g_iconst (pc := 41) B dX2_draw_41 (1 : Int32) (by decide) ?_
        refine g_iand (pc := 42) B dX2_draw_42 ?_
        refine g_iconst (pc := 43) B dX2_draw_43 (1 : Int32) (by decide) ?_
        refine g_icmp_ne (pc := 44) (tgt := 48) B dX2_draw_44 (by decide) (fun c44 => ?_) (fun c44 => ?_)
        · rw [if_neg c44] at h
          refine g_aload (pc := 48) B dX2_draw_48 0 rfl ?_
          refine g_iload_n (pc := 50) B dX2_draw_50 3 rfl ?_
          refine g_dup2 (pc := 51) B dX2_draw_51 rfl rfl ?_
          obtain ⟨c52, h⟩ := chk h
          obtain ⟨nc52, kc52, ic52⟩ := inb_s c52
          refine g_iald (pc := 52) B kc52 ic52 dX2_draw_52 ?_
          refine g_iconst (pc := 53) B dX2_draw_53 (1 : Int32) (by decide) ?_
          refine g_iload_n (pc := 54) B dX2_draw_54 2 rfl ?_
          refine g_ishl (pc := 55) B dX2_draw_55 ?_
          refine g_ior (pc := 56) B dX2_draw_56 ?_
          obtain ⟨c57, h⟩ := chk h
          obtain ⟨nc57, kc57, ic57⟩ := inb_s c57
          refine g_iast (pc := 57) B kc57 ic57 dX2_draw_57 ?_
          refine g_aload_n (pc := 58) B dX2_draw_58 1 rfl ?_
          refine g_iload_n (pc := 59) B dX2_draw_59 2 rfl ?_
          refine g_iload_n (pc := 60) B dX2_draw_60 3 rfl ?_
          refine g_iload_n (pc := 61) B dX2_draw_61 4 rfl ?_
          refine g_if_eq (pc := 62) (tgt := 69) B dX2_draw_62 (by decide) (fun c62 => ?_) (fun c62 => ?_)
          · rw [if_pos c62] at h
            refine g_iload_n (pc := 69) B dX2_draw_69 2 rfl ?_
            refine g_iconst (pc := 70) B dX2_draw_70 (1 : Int32) (by decide) ?_
            refine g_iadd (pc := 71) B dX2_draw_71 ?_
            refine g_sub (pc := 72) [1, 3, 4] rfl ?_
            exact cb_X2_draw_L72 B ht h
          · rw [if_neg c62] at h
            refine g_iload_n (pc := 65) B dX2_draw_65 2 rfl ?_
            refine g_goto (pc := 66) (tgt := 72) B dX2_draw_66 (by decide) ?_
            refine g_sub (pc := 72) [1, 3, 4] rfl ?_
            exact cb_X2_draw_L72 B ht h
        · rw [if_pos c44] at h
          obtain rfl := Option.some.inj h
          exact g_ret_V (pc := 47) B rfl (by decide) (by decide) dX2_draw_47
set_option maxRecDepth 100000 in
set_option maxHeartbeats 4000000 in
theorem cb_X2_draw_L0 {D : DD} {ev : EV} {X0 : Mem} {X : Mem} {x0 : Nat} {x1 : Int32} {x2 : Int32} {x3 : Int32} {r : Mem} (B : Amb D (foot X0) ev RX2 "draw" cX2_draw 5 (none) rmX2_draw) (ht : Tb0 ev)  (h : fX2_draw X x0 x1 x2 x3 = some r) : Gd D (foot X0) ev (QF D ev X0 (.inr (none)) r rmX2_draw) X 0 0 0 [(0, vA (some x0)), (1, vI x1), (2, vI x2), (3, vI x3)] [] := by
  unfold fX2_draw at h
  refine g_iload_n (pc := 0) B dX2_draw_0 3 rfl ?_
  refine g_if_eq (pc := 1) (tgt := 11) B dX2_draw_1 (by decide) (fun c1 => ?_) (fun c1 => ?_)
  · rw [if_pos c1] at h
    refine g_aload_n (pc := 11) B dX2_draw_11 0 rfl ?_
    obtain ⟨k12_1, h⟩ := chk h
    refine g_getR (pc := 12) 2 0 B k12_1 (by decide) (by decide) rfl kfX2_9 dX2_draw_12 ?_
    refine g_sub (pc := 15) [0, 1, 2, 3] rfl ?_
    exact cb_X2_draw_L15 B ht h
  · rw [if_neg c1] at h
    refine g_aload_n (pc := 4) B dX2_draw_4 0 rfl ?_
    obtain ⟨k5_2, h⟩ := chk h
    refine g_getR (pc := 5) 2 1 B k5_2 (by decide) (by decide) rfl kfX2_15 dX2_draw_5 ?_
    refine g_goto (pc := 8) (tgt := 15) B dX2_draw_8 (by decide) ?_
    refine g_sub (pc := 15) [0, 1, 2, 3] rfl ?_
    exact cb_X2_draw_L15 B ht h
theorem ct_X2_draw {D : DD} {l : Launch} {X0 : Mem} {x0 : Nat} {x1 : Int32} {x2 : Int32} {x3 : Int32} {r : Mem} (hl : l.stackTraces = false) (h : fX2_draw X0 x0 x1 x2 x3 = some r) : Ctr D l yX2_draw cX2_draw 5 (none) rmX2_draw [vA (some x0), vI x1, vI x2, vI x3] X0 (.inr (none)) r :=
  ctr_of hl (plainFor_of_name (by decide)) (Nat.le_of_ble_eq_true rfl) fun ev _ ht B => cb_X2_draw_L0 B ht h
