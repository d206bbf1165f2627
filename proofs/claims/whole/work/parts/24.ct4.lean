set_option maxRecDepth 100000 in
set_option maxHeartbeats 4000000 in
theorem cb_X12_copied_L86 {D : DD} {ev : EV} {m z : Nat} {X0 : SM} {fu : Nat} {rec6 : SM → Int32 → Int32 → Int32 → Option (Int32 × SM)} {X : SM} {x1 : Int32} {x3 : Int32} {s0 : Int32} {r : Int32 × SM} (B : Amb D (foot (xS m X0 z)) ev RX12 "copied" cX12_copied 5 (some .int) rmX12_copied) (ht : Tb0 ev) (hrec6 : ∀ {X : SM} {x1 : Int32} {x2 : Int32} {x3 : Int32} {r : Int32 × SM}, rec6 X x1 x2 x3 = some r → Gd D (foot (xS m X0 z)) ev (QF D ev (xS m X0 z) (.inr (some (vI r.1))) (xS m r.2 z) rmX12_copied) (xS m X z) 0 0 6 [(0, vA (some m)), (1, vI x1), (2, vI x2), (3, vI x3)] []) (h : fX12_copied_L86 fu rec6 X x1 x3 s0 = some r) : Gd D (foot (xS m X0 z)) ev (QF D ev (xS m X0 z) (.inr (some (vI r.1))) (xS m r.2 z) rmX12_copied) (xS m X z) 0 0 86 [(0, vA (some m)), (1, vI x1), (3, vI x3)] [vI s0] := by
  unfold fX12_copied_L86 at h
  refine g_istore_n (pc := 86) (L' := [(2, vI s0), (0, vA (some m)), (1, vI x1), (3, vI x3)]) B dX12_copied_86 (by decide) rfl ?_
  refine g_iinc (pc := 87) (v := (x3 + (-1))) (L' := [(3, vI (x3 + (-1))), (2, vI s0), (0, vA (some m)), (1, vI x1)]) B dX12_copied_87 (by decide) 3 rfl rfl rfl ?_
  refine g_goto (pc := 90) (tgt := 6) B dX12_copied_90 (by decide) ?_
  refine g_sub (pc := 6) [2, 3, 1, 0] rfl ?_
  exact hrec6 h
set_option maxRecDepth 100000 in
set_option maxHeartbeats 4000000 in
theorem cb_X12_copied_L85 {D : DD} {ev : EV} {m z : Nat} {X0 : SM} {fu : Nat} {rec6 : SM → Int32 → Int32 → Int32 → Option (Int32 × SM)} {X : SM} {x1 : Int32} {x2 : Int32} {x3 : Int32} {r : Int32 × SM} (B : Amb D (foot (xS m X0 z)) ev RX12 "copied" cX12_copied 5 (some .int) rmX12_copied) (ht : Tb0 ev) (hrec6 : ∀ {X : SM} {x1 : Int32} {x2 : Int32} {x3 : Int32} {r : Int32 × SM}, rec6 X x1 x2 x3 = some r → Gd D (foot (xS m X0 z)) ev (QF D ev (xS m X0 z) (.inr (some (vI r.1))) (xS m r.2 z) rmX12_copied) (xS m X z) 0 0 6 [(0, vA (some m)), (1, vI x1), (2, vI x2), (3, vI x3)] []) (h : fX12_copied_L85 fu rec6 X x1 x2 x3 = some r) : Gd D (foot (xS m X0 z)) ev (QF D ev (xS m X0 z) (.inr (some (vI r.1))) (xS m r.2 z) rmX12_copied) (xS m X z) 0 0 85 [(0, vA (some m)), (1, vI x1), (2, vI x2), (3, vI x3)] [] := by
  unfold fX12_copied_L85 at h
  refine g_iload_n (pc := 85) B dX12_copied_85 2 rfl ?_
  refine g_sub (pc := 86) [0, 1, 3] rfl ?_
  exact cb_X12_copied_L86 B ht hrec6 h
set_option maxRecDepth 100000 in
set_option maxHeartbeats 4000000 in
theorem cb_X12_copied_L55 {D : DD} {ev : EV} {m z : Nat} {X0 : SM} {fu : Nat} {rec6 : SM → Int32 → Int32 → Int32 → Option (Int32 × SM)} {X : SM} {x1 : Int32} {x2 : Int32} {x3 : Int32} {s0 : Int32} {r : Int32 × SM} (B : Amb D (foot (xS m X0 z)) ev RX12 "copied" cX12_copied 5 (some .int) rmX12_copied) (ht : Tb0 ev) (hrec6 : ∀ {X : SM} {x1 : Int32} {x2 : Int32} {x3 : Int32} {r : Int32 × SM}, rec6 X x1 x2 x3 = some r → Gd D (foot (xS m X0 z)) ev (QF D ev (xS m X0 z) (.inr (some (vI r.1))) (xS m r.2 z) rmX12_copied) (xS m X z) 0 0 6 [(0, vA (some m)), (1, vI x1), (2, vI x2), (3, vI x3)] []) (h : fX12_copied_L55 fu rec6 X x1 x2 x3 s0 = some r) : Gd D (foot (xS m X0 z)) ev (QF D ev (xS m X0 z) (.inr (some (vI r.1))) (xS m r.2 z) rmX12_copied) (xS m X z) 0 0 55 [(0, vA (some m)), (1, vI x1), (2, vI x2), (3, vI x3)] [vI s0] := by
  unfold fX12_copied_L55 at h
  refine g_istore (pc := 55) (L' := [(4, vI s0), (0, vA (some m)), (1, vI x1), (2, vI x2), (3, vI x3)]) B dX12_copied_55 (by decide) rfl ?_
  refine g_iload (pc := 57) B dX12_copied_57 0 rfl ?_
  refine g_if_eq (pc := 59) (tgt := 85) B dX12_copied_59 (by decide) (fun c59 => ?_) (fun c59 => ?_)
  · rw [if_pos c59] at h
    refine g_sub (pc := 85) [1, 2, 3, 4] rfl ?_
    exact cb_X12_copied_L85 B ht hrec6 h
  · rw [if_neg c59] at h
    refine g_aload_n (pc := 62) B dX12_copied_62 1 rfl ?_
    refine g_aload_n (pc := 63) B dX12_copied_63 1 rfl ?_
    refine gs_arr (pc := 64) 42 26 B (by decide) (by decide) kfX12_89 dX12_copied_64 ?_
    refine g_iload_n (pc := 67) B dX12_copied_67 4 rfl ?_
    obtain ⟨c68, h⟩ := chk h
    refine gs_iald (pc := 68) B c68 dX12_copied_68 ?_
    refine g_aload_n (pc := 69) B dX12_copied_69 1 rfl ?_
    refine gs_arr (pc := 70) 42 26 B (by decide) (by decide) kfX12_89 dX12_copied_70 ?_
    refine g_iload_n (pc := 73) B dX12_copied_73 2 rfl ?_
    obtain ⟨c74, h⟩ := chk h
    refine gs_iald (pc := 74) B c74 dX12_copied_74 ?_
    obtain ⟨v75, X75, e75, h⟩ := obW h
    refine h_callV (pc := 75) (As := [vI (ar X 26 x3.toNatClampNeg), vI (ar X 26 x1.toNatClampNeg)]) (st := []) (X' := (xS m X75 z)) (cs' := 0) (sl' := 0) (st10 := [vI v75]) B cal_X12_oneForm kmX12_258 kn_X12_oneForm ks_X12_oneForm hkS (by decide) rfl (fun l hl => ct_X12_oneForm hl e75) rfl (Nat.le_of_ble_eq_true rfl) (by decide) (by decide) dX12_copied_75 rfl rfl rfl rfl ?_
    refine g_if_eq (pc := 78) (tgt := 85) B dX12_copied_78 (by decide) (fun c78 => ?_) (fun c78 => ?_)
    · rw [if_pos c78] at h
      refine g_sub (pc := 85) [1, 2, 3, 4] rfl ?_
      exact cb_X12_copied_L85 B ht hrec6 h
    · rw [if_neg c78] at h
      refine g_iload_n (pc := 81) B dX12_copied_81 4 rfl ?_
      refine g_goto (pc := 82) (tgt := 86) B dX12_copied_82 (by decide) ?_
      refine g_sub (pc := 86) [1, 2, 4] rfl ?_
      exact cb_X12_copied_L86 B ht hrec6 h
set_option maxRecDepth 100000 in
set_option maxHeartbeats 4000000 in
theorem cb_X12_copied_L54 {D : DD} {ev : EV} {m z : Nat} {X0 : SM} {fu : Nat} {rec6 : SM → Int32 → Int32 → Int32 → Option (Int32 × SM)} {X : SM} {x1 : Int32} {x2 : Int32} {x3 : Int32} {r : Int32 × SM} (B : Amb D (foot (xS m X0 z)) ev RX12 "copied" cX12_copied 5 (some .int) rmX12_copied) (ht : Tb0 ev) (hrec6 : ∀ {X : SM} {x1 : Int32} {x2 : Int32} {x3 : Int32} {r : Int32 × SM}, rec6 X x1 x2 x3 = some r → Gd D (foot (xS m X0 z)) ev (QF D ev (xS m X0 z) (.inr (some (vI r.1))) (xS m r.2 z) rmX12_copied) (xS m X z) 0 0 6 [(0, vA (some m)), (1, vI x1), (2, vI x2), (3, vI x3)] []) (h : fX12_copied_L54 fu rec6 X x1 x2 x3 = some r) : Gd D (foot (xS m X0 z)) ev (QF D ev (xS m X0 z) (.inr (some (vI r.1))) (xS m r.2 z) rmX12_copied) (xS m X z) 0 0 54 [(0, vA (some m)), (1, vI x1), (2, vI x2), (3, vI x3)] [] := by
  unfold fX12_copied_L54 at h
  refine g_iconst (pc := 54) B dX12_copied_54 (0 : Int32) (by decide) ?_
  refine g_sub (pc := 55) [0, 1, 2, 3] rfl ?_
  exact cb_X12_copied_L55 B ht hrec6 h
set_option maxRecDepth 100000 in
set_option maxHeartbeats 4000000 in
theorem cb_X12_copied_L6b {D : DD} {ev : EV} {m z : Nat} {X0 : SM} {fu : Nat} {rec6 : SM → Int32 → Int32 → Int32 → Option (Int32 × SM)} {X : SM} {x1 : Int32} {x2 : Int32} {x3 : Int32} {r : Int32 × SM} (B : Amb D (foot (xS m X0 z)) ev RX12 "copied" cX12_copied 5 (some .int) rmX12_copied) (ht : Tb0 ev) (hrec6 : ∀ {X : SM} {x1 : Int32} {x2 : Int32} {x3 : Int32} {r : Int32 × SM}, rec6 X x1 x2 x3 = some r → Gd D (foot (xS m X0 z)) ev (QF D ev (xS m X0 z) (.inr (some (vI r.1))) (xS m r.2 z) rmX12_copied) (xS m X z) 0 0 6 [(0, vA (some m)), (1, vI x1), (2, vI x2), (3, vI x3)] []) (h : fX12_copied_L6b fu rec6 X x1 x2 x3 = some r) : Gd D (foot (xS m X0 z)) ev (QF D ev (xS m X0 z) (.inr (some (vI r.1))) (xS m r.2 z) rmX12_copied) (xS m X z) 0 0 6 [(0, vA (some m)), (1, vI x1), (2, vI x2), (3, vI x3)] [] := by
  unfold fX12_copied_L6b at h
  refine g_iload_n (pc := 6) B dX12_copied_6 3 rfl ?_
  refine g_if_lt (pc := 7) (tgt := 93) B dX12_copied_7 (by decide) (fun c7 => ?_) (fun c7 => ?_)
  · rw [if_pos c7] at h
    refine g_iload_n (pc := 93) B dX12_copied_93 2 rfl ?_
    obtain rfl := Option.some.inj h
    exact g_ret_I (pc := 94) B rfl (by decide) (by decide) dX12_copied_94
  · rw [if_neg c7] at h
    refine g_aload_n (pc := 10) B dX12_copied_10 0 rfl ?_
    refine gs_arr (pc := 11) 43 27 B (by decide) (by decide) kfX12_92 dX12_copied_11 ?_
    refine g_iload_n (pc := 14) B dX12_copied_14 3 rfl ?_
    obtain ⟨c15, h⟩ := chk h
    refine gs_iald (pc := 15) B c15 dX12_copied_15 ?_
    refine g_aload_n (pc := 16) B dX12_copied_16 0 rfl ?_
    refine gs_arr (pc := 17) 43 27 B (by decide) (by decide) kfX12_92 dX12_copied_17 ?_
    refine g_iload_n (pc := 20) B dX12_copied_20 1 rfl ?_
    obtain ⟨c21, h⟩ := chk h
    refine gs_iald (pc := 21) B c21 dX12_copied_21 ?_
    refine g_icmp_ne (pc := 22) (tgt := 54) B dX12_copied_22 (by decide) (fun c22 => ?_) (fun c22 => ?_)
    · rw [if_neg c22] at h
      refine g_sub (pc := 54) [0, 1, 2, 3] rfl ?_
      exact cb_X12_copied_L54 B ht hrec6 h
    · rw [if_pos c22] at h
      refine g_aload_n (pc := 25) B dX12_copied_25 0 rfl ?_
      refine gs_arr (pc := 26) 9 4 B (by decide) (by decide) kfX12_23 dX12_copied_26 ?_
      refine g_aload_n (pc := 29) B dX12_copied_29 0 rfl ?_
      refine gs_arr (pc := 30) 42 26 B (by decide) (by decide) kfX12_89 dX12_copied_30 ?_
      refine g_iload_n (pc := 33) B dX12_copied_33 3 rfl ?_
      obtain ⟨c34, h⟩ := chk h
      refine gs_iald (pc := 34) B c34 dX12_copied_34 ?_
      obtain ⟨c35, h⟩ := chk h
      refine gs_iald (pc := 35) B c35 dX12_copied_35 ?_
      refine g_aload_n (pc := 36) B dX12_copied_36 0 rfl ?_
      refine gs_arr (pc := 37) 9 4 B (by decide) (by decide) kfX12_23 dX12_copied_37 ?_
      refine g_aload_n (pc := 40) B dX12_copied_40 0 rfl ?_
      refine gs_arr (pc := 41) 42 26 B (by decide) (by decide) kfX12_89 dX12_copied_41 ?_
      refine g_iload_n (pc := 44) B dX12_copied_44 1 rfl ?_
      obtain ⟨c45, h⟩ := chk h
      refine gs_iald (pc := 45) B c45 dX12_copied_45 ?_
      obtain ⟨c46, h⟩ := chk h
      refine gs_iald (pc := 46) B c46 dX12_copied_46 ?_
      refine g_icmp_eq (pc := 47) (tgt := 54) B dX12_copied_47 (by decide) (fun c47 => ?_) (fun c47 => ?_)
      · rw [if_pos c47] at h
        refine g_sub (pc := 54) [0, 1, 2, 3] rfl ?_
        exact cb_X12_copied_L54 B ht hrec6 h
      · rw [if_neg c47] at h
        refine g_iconst (pc := 50) B dX12_copied_50 (1 : Int32) (by decide) ?_
        refine g_goto (pc := 51) (tgt := 55) B dX12_copied_51 (by decide) ?_
        refine g_sub (pc := 55) [0, 1, 2, 3] rfl ?_
        exact cb_X12_copied_L55 B ht hrec6 h
theorem cb_X12_copied_L6n {D : DD} {ev : EV} {m z : Nat} {X0 : SM} {fu : Nat} (B : Amb D (foot (xS m X0 z)) ev RX12 "copied" cX12_copied 5 (some .int) rmX12_copied) (ht : Tb0 ev)  : ∀ (n : Nat) {X : SM} {x1 : Int32} {x2 : Int32} {x3 : Int32} {r : Int32 × SM}, fX12_copied_L6 fu n X x1 x2 x3 = some r → Gd D (foot (xS m X0 z)) ev (QF D ev (xS m X0 z) (.inr (some (vI r.1))) (xS m r.2 z) rmX12_copied) (xS m X z) 0 0 6 [(0, vA (some m)), (1, vI x1), (2, vI x2), (3, vI x3)] [] := by
  intro n
  induction n with
  | zero => intro X x1 x2 x3 r h; exact nomatch h
  | succ n ih => intro X x1 x2 x3 r h; exact cb_X12_copied_L6b (fu := fu) B ht (fun h9 => ih h9) h
theorem cb_X12_copied_L6 {D : DD} {ev : EV} {m z : Nat} {X0 : SM} {fu : Nat} {X : SM} {x1 : Int32} {x2 : Int32} {x3 : Int32} {n : Nat} {r : Int32 × SM} (B : Amb D (foot (xS m X0 z)) ev RX12 "copied" cX12_copied 5 (some .int) rmX12_copied) (ht : Tb0 ev)  (h : fX12_copied_L6 fu n X x1 x2 x3 = some r) : Gd D (foot (xS m X0 z)) ev (QF D ev (xS m X0 z) (.inr (some (vI r.1))) (xS m r.2 z) rmX12_copied) (xS m X z) 0 0 6 [(0, vA (some m)), (1, vI x1), (2, vI x2), (3, vI x3)] [] := cb_X12_copied_L6n B ht n h
set_option maxRecDepth 100000 in
set_option maxHeartbeats 4000000 in
theorem cb_X12_copied_L0 {D : DD} {ev : EV} {m z : Nat} {X0 : SM} {fu : Nat} {X : SM} {x1 : Int32} {r : Int32 × SM} (B : Amb D (foot (xS m X0 z)) ev RX12 "copied" cX12_copied 5 (some .int) rmX12_copied) (ht : Tb0 ev)  (h : fX12_copied fu X x1 = some r) : Gd D (foot (xS m X0 z)) ev (QF D ev (xS m X0 z) (.inr (some (vI r.1))) (xS m r.2 z) rmX12_copied) (xS m X z) 0 0 0 [(0, vA (some m)), (1, vI x1)] [] := by
  unfold fX12_copied at h
  refine g_iconst (pc := 0) B dX12_copied_0 (-1) (by decide) ?_
  refine g_istore_n (pc := 1) (L' := [(2, vI (-1)), (0, vA (some m)), (1, vI x1)]) B dX12_copied_1 (by decide) rfl ?_
  refine g_iload_n (pc := 2) B dX12_copied_2 2 rfl ?_
  refine g_iconst (pc := 3) B dX12_copied_3 (1 : Int32) (by decide) ?_
  refine g_isub (pc := 4) B dX12_copied_4 ?_
  refine g_istore_n (pc := 5) (L' := [(3, vI (x1 - (1 : Int32))), (2, vI (-1)), (0, vA (some m)), (1, vI x1)]) B dX12_copied_5 (by decide) rfl ?_
  refine g_sub (pc := 6) [2, 3, 1, 0] rfl ?_
  exact cb_X12_copied_L6 B ht h
theorem ct_X12_copied {D : DD} {l : Launch} {m z : Nat} {X0 : SM} {fu : Nat} {x1 : Int32} {r : Int32 × SM} (hl : l.stackTraces = false) (h : fX12_copied fu X0 x1 = some r) : Ctr D l yX12_copied cX12_copied 5 (some .int) rmX12_copied [vA (some m), vI x1] (xS m X0 z) (.inr (some (vI r.1))) (xS m r.2 z) :=
  ctr_of hl (plainFor_of_name (by decide)) (Nat.le_of_ble_eq_true rfl) fun ev _ ht B => cb_X12_copied_L0 B ht h
set_option maxRecDepth 100000 in
set_option maxHeartbeats 4000000 in
theorem cb_X12_greatestOf_L144 {D : DD} {ev : EV} {m z : Nat} {X0 : SM} {fu : Nat} {rec5 : Int32 → Int32 → Int32 → Int32 → Option (Int32)} {x1 : Int32} {x2 : Int32} {x4 : Int32} {s0 : Int32} {r : Int32} (B : Amb D (foot (xS m X0 z)) ev RX12 "greatestOf" cX12_greatestOf 8 (some .int) rmX12_greatestOf) (ht : Tb0 ev) (hrec5 : ∀ {x1 : Int32} {x2 : Int32} {x3 : Int32} {x4 : Int32} {r : Int32}, rec5 x1 x2 x3 x4 = some r → Gd D (foot (xS m X0 z)) ev (QF D ev (xS m X0 z) (.inr (some (vI r))) (xS m X0 z) rmX12_greatestOf) (xS m X0 z) 0 0 5 [(0, vA (some m)), (1, vI x1), (2, vI x2), (3, vI x3), (4, vI x4)] []) (h : fX12_greatestOf_L144 fu X0 rec5 x1 x2 x4 s0 = some r) : Gd D (foot (xS m X0 z)) ev (QF D ev (xS m X0 z) (.inr (some (vI r))) (xS m X0 z) rmX12_greatestOf) (xS m X0 z) 0 0 144 [(0, vA (some m)), (1, vI x1), (2, vI x2), (4, vI x4)] [vI s0] := by
  unfold fX12_greatestOf_L144 at h
  refine g_istore_n (pc := 144) (L' := [(3, vI s0), (0, vA (some m)), (1, vI x1), (2, vI x2), (4, vI x4)]) B dX12_greatestOf_144 (by decide) rfl ?_
  refine g_iinc (pc := 145) (v := (x4 + (1 : Int32))) (L' := [(4, vI (x4 + (1 : Int32))), (3, vI s0), (0, vA (some m)), (1, vI x1), (2, vI x2)]) B dX12_greatestOf_145 (by decide) 4 rfl rfl rfl ?_
  refine g_goto (pc := 148) (tgt := 5) B dX12_greatestOf_148 (by decide) ?_
  refine g_sub (pc := 5) [2, 3, 4, 1, 0] rfl ?_
  exact hrec5 h
set_option maxRecDepth 100000 in
set_option maxHeartbeats 4000000 in
theorem cb_X12_greatestOf_L143 {D : DD} {ev : EV} {m z : Nat} {X0 : SM} {fu : Nat} {rec5 : Int32 → Int32 → Int32 → Int32 → Option (Int32)} {x1 : Int32} {x2 : Int32} {x3 : Int32} {x4 : Int32} {r : Int32} (B : Amb D (foot (xS m X0 z)) ev RX12 "greatestOf" cX12_greatestOf 8 (some .int) rmX12_greatestOf) (ht : Tb0 ev) (hrec5 : ∀ {x1 : Int32} {x2 : Int32} {x3 : Int32} {x4 : Int32} {r : Int32}, rec5 x1 x2 x3 x4 = some r → Gd D (foot (xS m X0 z)) ev (QF D ev (xS m X0 z) (.inr (some (vI r))) (xS m X0 z) rmX12_greatestOf) (xS m X0 z) 0 0 5 [(0, vA (some m)), (1, vI x1), (2, vI x2), (3, vI x3), (4, vI x4)] []) (h : fX12_greatestOf_L143 fu X0 rec5 x1 x2 x3 x4 = some r) : Gd D (foot (xS m X0 z)) ev (QF D ev (xS m X0 z) (.inr (some (vI r))) (xS m X0 z) rmX12_greatestOf) (xS m X0 z) 0 0 143 [(0, vA (some m)), (1, vI x1), (2, vI x2), (3, vI x3), (4, vI x4)] [] := by
  unfold fX12_greatestOf_L143 at h
  refine g_iload_n (pc := 143) B dX12_greatestOf_143 3 rfl ?_
  refine g_sub (pc := 144) [0, 1, 2, 4] rfl ?_
  exact cb_X12_greatestOf_L144 B ht hrec5 h
set_option maxRecDepth 100000 in
set_option maxHeartbeats 4000000 in
theorem cb_X12_greatestOf_L132 {D : DD} {ev : EV} {m z : Nat} {X0 : SM} {fu : Nat} {rec5 : Int32 → Int32 → Int32 → Int32 → Option (Int32)} {x1 : Int32} {x2 : Int32} {x3 : Int32} {x4 : Int32} {x7 : Int32} {r : Int32} (B : Amb D (foot (xS m X0 z)) ev RX12 "greatestOf" cX12_greatestOf 8 (some .int) rmX12_greatestOf) (ht : Tb0 ev) (hrec5 : ∀ {x1 : Int32} {x2 : Int32} {x3 : Int32} {x4 : Int32} {r : Int32}, rec5 x1 x2 x3 x4 = some r → Gd D (foot (xS m X0 z)) ev (QF D ev (xS m X0 z) (.inr (some (vI r))) (xS m X0 z) rmX12_greatestOf) (xS m X0 z) 0 0 5 [(0, vA (some m)), (1, vI x1), (2, vI x2), (3, vI x3), (4, vI x4)] []) (h : fX12_greatestOf_L132 fu X0 rec5 x1 x2 x3 x4 x7 = some r) : Gd D (foot (xS m X0 z)) ev (QF D ev (xS m X0 z) (.inr (some (vI r))) (xS m X0 z) rmX12_greatestOf) (xS m X0 z) 0 0 132 [(0, vA (some m)), (1, vI x1), (2, vI x2), (3, vI x3), (4, vI x4), (7, vI x7)] [] := by
  unfold fX12_greatestOf_L132 at h
  refine g_iload (pc := 132) B dX12_greatestOf_132 5 rfl ?_
  refine g_iload_n (pc := 134) B dX12_greatestOf_134 3 rfl ?_
  refine g_icmp_le (pc := 135) (tgt := 143) B dX12_greatestOf_135 (by decide) (fun c135 => ?_) (fun c135 => ?_)
  · rw [if_pos c135] at h
    refine g_sub (pc := 143) [0, 1, 2, 3, 4] rfl ?_
    exact cb_X12_greatestOf_L143 B ht hrec5 h
  · rw [if_neg c135] at h
    refine g_iload (pc := 138) B dX12_greatestOf_138 5 rfl ?_
    refine g_goto (pc := 140) (tgt := 144) B dX12_greatestOf_140 (by decide) ?_
    refine g_sub (pc := 144) [0, 1, 2, 4] rfl ?_
    exact cb_X12_greatestOf_L144 B ht hrec5 h
set_option maxRecDepth 100000 in
set_option maxHeartbeats 4000000 in
theorem cb_X12_greatestOf_L120 {D : DD} {ev : EV} {m z : Nat} {X0 : SM} {fu : Nat} {rec5 : Int32 → Int32 → Int32 → Int32 → Option (Int32)} {x1 : Int32} {x2 : Int32} {x3 : Int32} {x4 : Int32} {x5 : Int32} {x6 : Int32} {s0 : Int32} {r : Int32} (B : Amb D (foot (xS m X0 z)) ev RX12 "greatestOf" cX12_greatestOf 8 (some .int) rmX12_greatestOf) (ht : Tb0 ev) (hrec5 : ∀ {x1 : Int32} {x2 : Int32} {x3 : Int32} {x4 : Int32} {r : Int32}, rec5 x1 x2 x3 x4 = some r → Gd D (foot (xS m X0 z)) ev (QF D ev (xS m X0 z) (.inr (some (vI r))) (xS m X0 z) rmX12_greatestOf) (xS m X0 z) 0 0 5 [(0, vA (some m)), (1, vI x1), (2, vI x2), (3, vI x3), (4, vI x4)] []) (h : fX12_greatestOf_L120 fu X0 rec5 x1 x2 x3 x4 x5 x6 s0 = some r) : Gd D (foot (xS m X0 z)) ev (QF D ev (xS m X0 z) (.inr (some (vI r))) (xS m X0 z) rmX12_greatestOf) (xS m X0 z) 0 0 120 [(0, vA (some m)), (1, vI x1), (2, vI x2), (3, vI x3), (4, vI x4), (5, vI x5), (6, vI x6)] [vI s0] := by
  unfold fX12_greatestOf_L120 at h
  refine g_istore (pc := 120) (L' := [(7, vI s0), (0, vA (some m)), (1, vI x1), (2, vI x2), (3, vI x3), (4, vI x4), (5, vI x5), (6, vI x6)]) B dX12_greatestOf_120 (by decide) rfl ?_
  refine g_iload (pc := 122) B dX12_greatestOf_122 6 rfl ?_
  refine g_if_ne (pc := 124) (tgt := 132) B dX12_greatestOf_124 (by decide) (fun c124 => ?_) (fun c124 => ?_)
  · rw [if_neg c124] at h
    refine g_sub (pc := 132) [1, 2, 3, 4, 5, 0] rfl ?_
    exact cb_X12_greatestOf_L132 B ht hrec5 h
  · rw [if_pos c124] at h
    refine g_iload (pc := 127) B dX12_greatestOf_127 7 rfl ?_
    refine g_if_eq (pc := 129) (tgt := 143) B dX12_greatestOf_129 (by decide) (fun c129 => ?_) (fun c129 => ?_)
    · rw [if_pos c129] at h
      refine g_sub (pc := 143) [1, 2, 3, 4, 5] rfl ?_
      exact cb_X12_greatestOf_L143 B ht hrec5 h
    · rw [if_neg c129] at h
      refine g_sub (pc := 132) [1, 2, 3, 4, 5, 0] rfl ?_
      exact cb_X12_greatestOf_L132 B ht hrec5 h
set_option maxRecDepth 100000 in
set_option maxHeartbeats 4000000 in
theorem cb_X12_greatestOf_L119 {D : DD} {ev : EV} {m z : Nat} {X0 : SM} {fu : Nat} {rec5 : Int32 → Int32 → Int32 → Int32 → Option (Int32)} {x1 : Int32} {x2 : Int32} {x3 : Int32} {x4 : Int32} {x5 : Int32} {x6 : Int32} {s0 : Int32} {s1 : Int32} {r : Int32} (B : Amb D (foot (xS m X0 z)) ev RX12 "greatestOf" cX12_greatestOf 8 (some .int) rmX12_greatestOf) (ht : Tb0 ev) (hrec5 : ∀ {x1 : Int32} {x2 : Int32} {x3 : Int32} {x4 : Int32} {r : Int32}, rec5 x1 x2 x3 x4 = some r → Gd D (foot (xS m X0 z)) ev (QF D ev (xS m X0 z) (.inr (some (vI r))) (xS m X0 z) rmX12_greatestOf) (xS m X0 z) 0 0 5 [(0, vA (some m)), (1, vI x1), (2, vI x2), (3, vI x3), (4, vI x4)] []) (h : fX12_greatestOf_L119 fu X0 rec5 x1 x2 x3 x4 x5 x6 s0 s1 = some r) : Gd D (foot (xS m X0 z)) ev (QF D ev (xS m X0 z) (.inr (some (vI r))) (xS m X0 z) rmX12_greatestOf) (xS m X0 z) 0 0 119 [(0, vA (some m)), (1, vI x1), (2, vI x2), (3, vI x3), (4, vI x4), (5, vI x5), (6, vI x6)] [vI s1, vI s0] := by
  unfold fX12_greatestOf_L119 at h
  refine g_iadd (pc := 119) B dX12_greatestOf_119 ?_
  refine g_sub (pc := 120) [0, 1, 2, 3, 4, 5, 6] rfl ?_
  exact cb_X12_greatestOf_L120 B ht hrec5 h
set_option maxRecDepth 100000 in
set_option maxHeartbeats 4000000 in
theorem cb_X12_greatestOf_L100 {D : DD} {ev : EV} {m z : Nat} {X0 : SM} {fu : Nat} {rec5 : Int32 → Int32 → Int32 → Int32 → Option (Int32)} {x1 : Int32} {x2 : Int32} {x3 : Int32} {x4 : Int32} {x5 : Int32} {x6 : Int32} {s0 : Int32} {s1 : Int32} {r : Int32} (B : Amb D (foot (xS m X0 z)) ev RX12 "greatestOf" cX12_greatestOf 8 (some .int) rmX12_greatestOf) (ht : Tb0 ev) (hrec5 : ∀ {x1 : Int32} {x2 : Int32} {x3 : Int32} {x4 : Int32} {r : Int32}, rec5 x1 x2 x3 x4 = some r → Gd D (foot (xS m X0 z)) ev (QF D ev (xS m X0 z) (.inr (some (vI r))) (xS m X0 z) rmX12_greatestOf) (xS m X0 z) 0 0 5 [(0, vA (some m)), (1, vI x1), (2, vI x2), (3, vI x3), (4, vI x4)] []) (h : fX12_greatestOf_L100 fu X0 rec5 x1 x2 x3 x4 x5 x6 s0 s1 = some r) : Gd D (foot (xS m X0 z)) ev (QF D ev (xS m X0 z) (.inr (some (vI r))) (xS m X0 z) rmX12_greatestOf) (xS m X0 z) 0 0 100 [(0, vA (some m)), (1, vI x1), (2, vI x2), (3, vI x3), (4, vI x4), (5, vI x5), (6, vI x6)] [vI s1, vI s0] := by
  unfold fX12_greatestOf_L100 at h
  refine g_iadd (pc := 100) B dX12_greatestOf_100 ?_
  refine g_goto (pc := 101) (tgt := 120) B dX12_greatestOf_101 (by decide) ?_
  refine g_sub (pc := 120) [0, 1, 2, 3, 4, 5, 6] rfl ?_
  exact cb_X12_greatestOf_L120 B ht hrec5 h
set_option maxRecDepth 100000 in
set_option maxHeartbeats 4000000 in
theorem cb_X12_greatestOf_L79 {D : DD} {ev : EV} {m z : Nat} {X0 : SM} {fu : Nat} {rec5 : Int32 → Int32 → Int32 → Int32 → Option (Int32)} {x1 : Int32} {x2 : Int32} {x3 : Int32} {x4 : Int32} {x5 : Int32} {s0 : Int32} {r : Int32} (B : Amb D (foot (xS m X0 z)) ev RX12 "greatestOf" cX12_greatestOf 8 (some .int) rmX12_greatestOf) (ht : Tb0 ev) (hrec5 : ∀ {x1 : Int32} {x2 : Int32} {x3 : Int32} {x4 : Int32} {r : Int32}, rec5 x1 x2 x3 x4 = some r → Gd D (foot (xS m X0 z)) ev (QF D ev (xS m X0 z) (.inr (some (vI r))) (xS m X0 z) rmX12_greatestOf) (xS m X0 z) 0 0 5 [(0, vA (some m)), (1, vI x1), (2, vI x2), (3, vI x3), (4, vI x4)] []) (h : fX12_greatestOf_L79 fu X0 rec5 x1 x2 x3 x4 x5 s0 = some r) : Gd D (foot (xS m X0 z)) ev (QF D ev (xS m X0 z) (.inr (some (vI r))) (xS m X0 z) rmX12_greatestOf) (xS m X0 z) 0 0 79 [(0, vA (some m)), (1, vI x1), (2, vI x2), (3, vI x3), (4, vI x4), (5, vI x5)] [vI s0] := by
  unfold fX12_greatestOf_L79 at h
  refine g_istore (pc := 79) (L' := [(6, vI s0), (0, vA (some m)), (1, vI x1), (2, vI x2), (3, vI x3), (4, vI x4), (5, vI x5)]) B dX12_greatestOf_79 (by decide) rfl ?_
  refine g_iload_n (pc := 81) B dX12_greatestOf_81 3 rfl ?_
  refine g_if_eq (pc := 82) (tgt := 104) B dX12_greatestOf_82 (by decide) (fun c82 => ?_) (fun c82 => ?_)
  · rw [if_pos c82] at h
    refine g_iload (pc := 104) B dX12_greatestOf_104 5 rfl ?_
    refine g_bipush (pc := 106) B dX12_greatestOf_106 (16 : Int32) (by decide) ?_
    refine g_idiv (pc := 108) B dX12_greatestOf_108 (by decide) ?_
    refine g_iload (pc := 109) B dX12_greatestOf_109 0 rfl ?_
    refine g_if_eq (pc := 111) (tgt := 118) B dX12_greatestOf_111 (by decide) (fun c111 => ?_) (fun c111 => ?_)
    · rw [if_pos c111] at h
      refine g_iconst (pc := 118) B dX12_greatestOf_118 (0 : Int32) (by decide) ?_
      refine g_sub (pc := 119) [1, 2, 3, 4, 5, 6, 0] rfl ?_
      exact cb_X12_greatestOf_L119 B ht hrec5 h
    · rw [if_neg c111] at h
      refine g_iconst (pc := 114) B dX12_greatestOf_114 (1 : Int32) (by decide) ?_
      refine g_goto (pc := 115) (tgt := 119) B dX12_greatestOf_115 (by decide) ?_
      refine g_sub (pc := 119) [1, 2, 3, 4, 5, 6, 0] rfl ?_
      exact cb_X12_greatestOf_L119 B ht hrec5 h
  · rw [if_neg c82] at h
    refine g_iload (pc := 85) B dX12_greatestOf_85 5 rfl ?_
    refine g_bipush (pc := 87) B dX12_greatestOf_87 (16 : Int32) (by decide) ?_
    refine g_irem (pc := 89) B dX12_greatestOf_89 (by decide) ?_
    refine g_iload (pc := 90) B dX12_greatestOf_90 6 rfl ?_
    refine g_if_eq (pc := 92) (tgt := 99) B dX12_greatestOf_92 (by decide) (fun c92 => ?_) (fun c92 => ?_)
    · rw [if_pos c92] at h
      refine g_iconst (pc := 99) B dX12_greatestOf_99 (0 : Int32) (by decide) ?_
      refine g_sub (pc := 100) [1, 2, 3, 4, 5, 6, 0] rfl ?_
      exact cb_X12_greatestOf_L100 B ht hrec5 h
    · rw [if_neg c92] at h
      refine g_iconst (pc := 95) B dX12_greatestOf_95 (1 : Int32) (by decide) ?_
      refine g_goto (pc := 96) (tgt := 100) B dX12_greatestOf_96 (by decide) ?_
      refine g_sub (pc := 100) [1, 2, 3, 4, 5, 6, 0] rfl ?_
      exact cb_X12_greatestOf_L100 B ht hrec5 h
set_option maxRecDepth 100000 in
set_option maxHeartbeats 4000000 in
theorem cb_X12_greatestOf_L45 {D : DD} {ev : EV} {m z : Nat} {X0 : SM} {fu : Nat} {rec5 : Int32 → Int32 → Int32 → Int32 → Option (Int32)} {x1 : Int32} {x2 : Int32} {x3 : Int32} {x4 : Int32} {s0 : Int32} {r : Int32} (B : Amb D (foot (xS m X0 z)) ev RX12 "greatestOf" cX12_greatestOf 8 (some .int) rmX12_greatestOf) (ht : Tb0 ev) (hrec5 : ∀ {x1 : Int32} {x2 : Int32} {x3 : Int32} {x4 : Int32} {r : Int32}, rec5 x1 x2 x3 x4 = some r → Gd D (foot (xS m X0 z)) ev (QF D ev (xS m X0 z) (.inr (some (vI r))) (xS m X0 z) rmX12_greatestOf) (xS m X0 z) 0 0 5 [(0, vA (some m)), (1, vI x1), (2, vI x2), (3, vI x3), (4, vI x4)] []) (h : fX12_greatestOf_L45 fu X0 rec5 x1 x2 x3 x4 s0 = some r) : Gd D (foot (xS m X0 z)) ev (QF D ev (xS m X0 z) (.inr (some (vI r))) (xS m X0 z) rmX12_greatestOf) (xS m X0 z) 0 0 45 [(0, vA (some m)), (1, vI x1), (2, vI x2), (3, vI x3), (4, vI x4)] [vI s0] := by
  unfold fX12_greatestOf_L45 at h
  refine g_istore (pc := 45) (L' := [(5, vI s0), (0, vA (some m)), (1, vI x1), (2, vI x2), (3, vI x3), (4, vI x4)]) B dX12_greatestOf_45 (by decide) rfl ?_
  refine g_aload_n (pc := 47) B dX12_greatestOf_47 1 rfl ?_
  refine gs_arr (pc := 48) 19 14 B (by decide) (by decide) kfX12_53 dX12_greatestOf_48 ?_
  refine g_bipush (pc := 51) B dX12_greatestOf_51 (16 : Int32) (by decide) ?_
  refine g_iload_n (pc := 53) B dX12_greatestOf_53 2 rfl ?_
  refine g_imul (pc := 54) B dX12_greatestOf_54 ?_
  refine g_iload (pc := 55) B dX12_greatestOf_55 5 rfl ?_
  refine g_bipush (pc := 57) B dX12_greatestOf_57 (16 : Int32) (by decide) ?_
  refine g_idiv (pc := 59) B dX12_greatestOf_59 (by decide) ?_
  refine g_iadd (pc := 60) B dX12_greatestOf_60 ?_
  obtain ⟨c61, h⟩ := chk h
  refine gs_iald (pc := 61) B c61 dX12_greatestOf_61 ?_
  refine g_iload (pc := 62) B dX12_greatestOf_62 5 rfl ?_
  refine g_bipush (pc := 64) B dX12_greatestOf_64 (16 : Int32) (by decide) ?_
  refine g_irem (pc := 66) B dX12_greatestOf_66 (by decide) ?_
  refine g_ishr (pc := 67) B dX12_greatestOf_67 ?_
  refine g_iconst (pc := 68) B dX12_greatestOf_68 (1 : Int32) (by decide) ?_
  refine g_iand (pc := 69) B dX12_greatestOf_69 ?_
  refine g_iconst (pc := 70) B dX12_greatestOf_70 (1 : Int32) (by decide) ?_
  refine g_icmp_ne (pc := 71) (tgt := 78) B dX12_greatestOf_71 (by decide) (fun c71 => ?_) (fun c71 => ?_)
  · rw [if_neg c71] at h
    refine g_iconst (pc := 78) B dX12_greatestOf_78 (0 : Int32) (by decide) ?_
    refine g_sub (pc := 79) [1, 2, 3, 4, 5, 0] rfl ?_
    exact cb_X12_greatestOf_L79 B ht hrec5 h
  · rw [if_pos c71] at h
    refine g_iconst (pc := 74) B dX12_greatestOf_74 (1 : Int32) (by decide) ?_
    refine g_goto (pc := 75) (tgt := 79) B dX12_greatestOf_75 (by decide) ?_
    refine g_sub (pc := 79) [1, 2, 3, 4, 5, 0] rfl ?_
    exact cb_X12_greatestOf_L79 B ht hrec5 h
set_option maxRecDepth 100000 in
set_option maxHeartbeats 4000000 in
theorem cb_X12_greatestOf_L5b {D : DD} {ev : EV} {m z : Nat} {X0 : SM} {fu : Nat} {rec5 : Int32 → Int32 → Int32 → Int32 → Option (Int32)} {x1 : Int32} {x2 : Int32} {x3 : Int32} {x4 : Int32} {r : Int32} (B : Amb D (foot (xS m X0 z)) ev RX12 "greatestOf" cX12_greatestOf 8 (some .int) rmX12_greatestOf) (ht : Tb0 ev) (hrec5 : ∀ {x1 : Int32} {x2 : Int32} {x3 : Int32} {x4 : Int32} {r : Int32}, rec5 x1 x2 x3 x4 = some r → Gd D (foot (xS m X0 z)) ev (QF D ev (xS m X0 z) (.inr (some (vI r))) (xS m X0 z) rmX12_greatestOf) (xS m X0 z) 0 0 5 [(0, vA (some m)), (1, vI x1), (2, vI x2), (3, vI x3), (4, vI x4)] []) (h : fX12_greatestOf_L5b fu X0 rec5 x1 x2 x3 x4 = some r) : Gd D (foot (xS m X0 z)) ev (QF D ev (xS m X0 z) (.inr (some (vI r))) (xS m X0 z) rmX12_greatestOf) (xS m X0 z) 0 0 5 [(0, vA (some m)), (1, vI x1), (2, vI x2), (3, vI x3), (4, vI x4)] [] := by
  unfold fX12_greatestOf_L5b at h
  refine g_iload (pc := 5) B dX12_greatestOf_5 4 rfl ?_
  refine g_sipush (pc := 7) B dX12_greatestOf_7 (256 : Int32) (by decide) ?_
  refine g_icmp_ge (pc := 10) (tgt := 151) B dX12_greatestOf_10 (by decide) (fun c10 => ?_) (fun c10 => ?_)
  · rw [if_pos c10] at h
    refine g_iload_n (pc := 151) B dX12_greatestOf_151 3 rfl ?_
    obtain rfl := Option.some.inj h
    exact g_ret_I (pc := 152) B rfl (by decide) (by decide) dX12_greatestOf_152
  · rw [if_neg c10] at h
    refine g_aload_n (pc := 13) B dX12_greatestOf_13 0 rfl ?_
    refine gs_arr (pc := 14) 18 13 B (by decide) (by decide) kfX12_50 dX12_greatestOf_14 ?_
    refine g_bipush (pc := 17) B dX12_greatestOf_17 (16 : Int32) (by decide) ?_
    refine g_iload_n (pc := 19) B dX12_greatestOf_19 1 rfl ?_
    refine g_imul (pc := 20) B dX12_greatestOf_20 ?_
    refine g_iload (pc := 21) B dX12_greatestOf_21 4 rfl ?_
    refine g_bipush (pc := 23) B dX12_greatestOf_23 (16 : Int32) (by decide) ?_
    refine g_idiv (pc := 25) B dX12_greatestOf_25 (by decide) ?_
    refine g_iadd (pc := 26) B dX12_greatestOf_26 ?_
    obtain ⟨c27, h⟩ := chk h
    refine gs_iald (pc := 27) B c27 dX12_greatestOf_27 ?_
    refine g_iload (pc := 28) B dX12_greatestOf_28 4 rfl ?_
    refine g_bipush (pc := 30) B dX12_greatestOf_30 (16 : Int32) (by decide) ?_
    refine g_irem (pc := 32) B dX12_greatestOf_32 (by decide) ?_
    refine g_ishr (pc := 33) B dX12_greatestOf_33 ?_
    refine g_iconst (pc := 34) B dX12_greatestOf_34 (1 : Int32) (by decide) ?_
    refine g_iand (pc := 35) B dX12_greatestOf_35 ?_
    refine g_iconst (pc := 36) B dX12_greatestOf_36 (1 : Int32) (by decide) ?_
    refine g_icmp_ne (pc := 37) (tgt := 44) B dX12_greatestOf_37 (by decide) (fun c37 => ?_) (fun c37 => ?_)
    · rw [if_neg c37] at h
      refine g_iconst (pc := 44) B dX12_greatestOf_44 (0 : Int32) (by decide) ?_
      refine g_sub (pc := 45) [0, 1, 2, 3, 4] rfl ?_
      exact cb_X12_greatestOf_L45 B ht hrec5 h
    · rw [if_pos c37] at h
      refine g_iconst (pc := 40) B dX12_greatestOf_40 (1 : Int32) (by decide) ?_
      refine g_goto (pc := 41) (tgt := 45) B dX12_greatestOf_41 (by decide) ?_
      refine g_sub (pc := 45) [0, 1, 2, 3, 4] rfl ?_
      exact cb_X12_greatestOf_L45 B ht hrec5 h
theorem cb_X12_greatestOf_L5n {D : DD} {ev : EV} {m z : Nat} {X0 : SM} {fu : Nat} (B : Amb D (foot (xS m X0 z)) ev RX12 "greatestOf" cX12_greatestOf 8 (some .int) rmX12_greatestOf) (ht : Tb0 ev)  : ∀ (n : Nat) {x1 : Int32} {x2 : Int32} {x3 : Int32} {x4 : Int32} {r : Int32}, fX12_greatestOf_L5 fu X0 n x1 x2 x3 x4 = some r → Gd D (foot (xS m X0 z)) ev (QF D ev (xS m X0 z) (.inr (some (vI r))) (xS m X0 z) rmX12_greatestOf) (xS m X0 z) 0 0 5 [(0, vA (some m)), (1, vI x1), (2, vI x2), (3, vI x3), (4, vI x4)] [] := by
  intro n
  induction n with
  | zero => intro x1 x2 x3 x4 r h; exact nomatch h
  | succ n ih => intro x1 x2 x3 x4 r h; exact cb_X12_greatestOf_L5b (fu := fu) B ht (fun h9 => ih h9) h
theorem cb_X12_greatestOf_L5 {D : DD} {ev : EV} {m z : Nat} {X0 : SM} {fu : Nat} {x1 : Int32} {x2 : Int32} {x3 : Int32} {x4 : Int32} {n : Nat} {r : Int32} (B : Amb D (foot (xS m X0 z)) ev RX12 "greatestOf" cX12_greatestOf 8 (some .int) rmX12_greatestOf) (ht : Tb0 ev)  (h : fX12_greatestOf_L5 fu X0 n x1 x2 x3 x4 = some r) : Gd D (foot (xS m X0 z)) ev (QF D ev (xS m X0 z) (.inr (some (vI r))) (xS m X0 z) rmX12_greatestOf) (xS m X0 z) 0 0 5 [(0, vA (some m)), (1, vI x1), (2, vI x2), (3, vI x3), (4, vI x4)] [] := cb_X12_greatestOf_L5n B ht n h
set_option maxRecDepth 100000 in
set_option maxHeartbeats 4000000 in
theorem cb_X12_greatestOf_L0 {D : DD} {ev : EV} {m z : Nat} {X0 : SM} {fu : Nat} {x1 : Int32} {x2 : Int32} {r : Int32} (B : Amb D (foot (xS m X0 z)) ev RX12 "greatestOf" cX12_greatestOf 8 (some .int) rmX12_greatestOf) (ht : Tb0 ev)  (h : fX12_greatestOf fu X0 x1 x2 = some r) : Gd D (foot (xS m X0 z)) ev (QF D ev (xS m X0 z) (.inr (some (vI r))) (xS m X0 z) rmX12_greatestOf) (xS m X0 z) 0 0 0 [(0, vA (some m)), (1, vI x1), (2, vI x2)] [] := by
  unfold fX12_greatestOf at h
  refine g_iconst (pc := 0) B dX12_greatestOf_0 (0 : Int32) (by decide) ?_
  refine g_istore_n (pc := 1) (L' := [(3, vI (0 : Int32)), (0, vA (some m)), (1, vI x1), (2, vI x2)]) B dX12_greatestOf_1 (by decide) rfl ?_
  refine g_iconst (pc := 2) B dX12_greatestOf_2 (0 : Int32) (by decide) ?_
  refine g_istore (pc := 3) (L' := [(4, vI (0 : Int32)), (3, vI (0 : Int32)), (0, vA (some m)), (1, vI x1), (2, vI x2)]) B dX12_greatestOf_3 (by decide) rfl ?_
  refine g_sub (pc := 5) [2, 3, 4, 1, 0] rfl ?_
  exact cb_X12_greatestOf_L5 B ht h
theorem ct_X12_greatestOf {D : DD} {l : Launch} {m z : Nat} {X0 : SM} {fu : Nat} {x1 : Int32} {x2 : Int32} {r : Int32} (hl : l.stackTraces = false) (h : fX12_greatestOf fu X0 x1 x2 = some r) : Ctr D l yX12_greatestOf cX12_greatestOf 8 (some .int) rmX12_greatestOf [vA (some m), vI x1, vI x2] (xS m X0 z) (.inr (some (vI r))) (xS m X0 z) :=
  ctr_of hl (plainFor_of_name (by decide)) (Nat.le_of_ble_eq_true rfl) fun ev _ ht B => cb_X12_greatestOf_L0 B ht h
set_option maxRecDepth 100000 in
set_option maxHeartbeats 4000000 in
theorem cb_X12_isFree_L74 {D : DD} {ev : EV} {m z : Nat} {X0 : SM} {fu : Nat} {rec40 : Int32 → Int32 → Int64 → Int32 → Int32 → Option (Int32)} {x2 : Int32} {x4 : Int32} {x5 : Int64} {x8 : Int32} {s0 : Int32} {r : Int32} (B : Amb D (foot (xS m X0 z)) ev RX12 "isFree" cX12_isFree 9 (some .boolean) rmX12_isFree) (ht : Tb0 ev) (hrec40 : ∀ {x2 : Int32} {x4 : Int32} {x5 : Int64} {x7 : Int32} {x8 : Int32} {r : Int32}, rec40 x2 x4 x5 x7 x8 = some r → Gd D (foot (xS m X0 z)) ev (QF D ev (xS m X0 z) (.inr (some (vI r))) (xS m X0 z) rmX12_isFree) (xS m X0 z) 0 0 40 [(0, vA (some m)), (2, vI x2), (4, vI x4), (5, vJ x5), (7, vI x7), (8, vI x8)] []) (h : fX12_isFree_L74 fu X0 rec40 x2 x4 x5 x8 s0 = some r) : Gd D (foot (xS m X0 z)) ev (QF D ev (xS m X0 z) (.inr (some (vI r))) (xS m X0 z) rmX12_isFree) (xS m X0 z) 0 0 74 [(0, vA (some m)), (2, vI x2), (4, vI x4), (5, vJ x5), (8, vI x8)] [vI s0] := by
  unfold fX12_isFree_L74 at h
  refine g_istore (pc := 74) (L' := [(7, vI s0), (0, vA (some m)), (2, vI x2), (4, vI x4), (5, vJ x5), (8, vI x8)]) B dX12_isFree_74 (by decide) rfl ?_
  refine g_iinc (pc := 76) (v := (x8 + (1 : Int32))) (L' := [(8, vI (x8 + (1 : Int32))), (7, vI s0), (0, vA (some m)), (2, vI x2), (4, vI x4), (5, vJ x5)]) B dX12_isFree_76 (by decide) 5 rfl rfl rfl ?_
  refine g_goto (pc := 79) (tgt := 40) B dX12_isFree_79 (by decide) ?_
  refine g_sub (pc := 40) [2, 3, 4, 5, 1, 0] rfl ?_
  exact hrec40 h
set_option maxRecDepth 100000 in
set_option maxHeartbeats 4000000 in
theorem cb_X12_isFree_L40b {D : DD} {ev : EV} {m z : Nat} {X0 : SM} {fu : Nat} {rec40 : Int32 → Int32 → Int64 → Int32 → Int32 → Option (Int32)} {x2 : Int32} {x4 : Int32} {x5 : Int64} {x7 : Int32} {x8 : Int32} {r : Int32} (B : Amb D (foot (xS m X0 z)) ev RX12 "isFree" cX12_isFree 9 (some .boolean) rmX12_isFree) (ht : Tb0 ev) (hrec40 : ∀ {x2 : Int32} {x4 : Int32} {x5 : Int64} {x7 : Int32} {x8 : Int32} {r : Int32}, rec40 x2 x4 x5 x7 x8 = some r → Gd D (foot (xS m X0 z)) ev (QF D ev (xS m X0 z) (.inr (some (vI r))) (xS m X0 z) rmX12_isFree) (xS m X0 z) 0 0 40 [(0, vA (some m)), (2, vI x2), (4, vI x4), (5, vJ x5), (7, vI x7), (8, vI x8)] []) (h : fX12_isFree_L40b fu X0 rec40 x2 x4 x5 x7 x8 = some r) : Gd D (foot (xS m X0 z)) ev (QF D ev (xS m X0 z) (.inr (some (vI r))) (xS m X0 z) rmX12_isFree) (xS m X0 z) 0 0 40 [(0, vA (some m)), (2, vI x2), (4, vI x4), (5, vJ x5), (7, vI x7), (8, vI x8)] [] := by
  unfold fX12_isFree_L40b at h
  refine g_iload (pc := 40) B dX12_isFree_40 5 rfl ?_
  refine g_iload_n (pc := 42) B dX12_isFree_42 1 rfl ?_
  refine g_iload (pc := 43) B dX12_isFree_43 2 rfl ?_
  refine g_iadd (pc := 45) B dX12_isFree_45 ?_
  refine g_icmp_ge (pc := 46) (tgt := 82) B dX12_isFree_46 (by decide) (fun c46 => ?_) (fun c46 => ?_)
  · rw [if_pos c46] at h
    refine g_iload (pc := 82) B dX12_isFree_82 4 rfl ?_
    obtain ⟨z84, h⟩ := chk h
    obtain rfl := Option.some.inj h
    exact g_ret_Z (pc := 84) B rfl z84 (by decide) (by decide) dX12_isFree_84
  · rw [if_neg c46] at h
    refine g_iload (pc := 49) B dX12_isFree_49 4 rfl ?_
    refine g_if_eq (pc := 51) (tgt := 82) B dX12_isFree_51 (by decide) (fun c51 => ?_) (fun c51 => ?_)
    · rw [if_pos c51] at h
      refine g_iload (pc := 82) B dX12_isFree_82 4 rfl ?_
      obtain ⟨z84, h⟩ := chk h
      obtain rfl := Option.some.inj h
      exact g_ret_Z (pc := 84) B rfl z84 (by decide) (by decide) dX12_isFree_84
    · rw [if_neg c51] at h
      refine g_aload_n (pc := 54) B dX12_isFree_54 0 rfl ?_
      refine gs_arr (pc := 55) 47 29 B (by decide) (by decide) kfX12_105 dX12_isFree_55 ?_
      refine g_iload (pc := 58) B dX12_isFree_58 5 rfl ?_
      obtain ⟨c60, h⟩ := chk h
      refine gs_lald (pc := 60) B c60 dX12_isFree_60 ?_
      refine g_lload (pc := 61) B dX12_isFree_61 3 rfl ?_
      refine g_land (pc := 63) B dX12_isFree_63 ?_
      refine g_lconst (pc := 64) B dX12_isFree_64 (0 : Int64) (by decide) ?_
      refine g_lcmp (pc := 65) B dX12_isFree_65 ?_
      refine g_if_ne (pc := 66) (tgt := 73) B dX12_isFree_66 (by decide) (fun c66 => ?_) (fun c66 => ?_)
      · rw [if_neg c66] at h
        refine g_iconst (pc := 73) B dX12_isFree_73 (0 : Int32) (by decide) ?_
        refine g_sub (pc := 74) [0, 1, 2, 3, 5] rfl ?_
        exact cb_X12_isFree_L74 B ht hrec40 h
      · rw [if_pos c66] at h
        refine g_iconst (pc := 69) B dX12_isFree_69 (1 : Int32) (by decide) ?_
        refine g_goto (pc := 70) (tgt := 74) B dX12_isFree_70 (by decide) ?_
        refine g_sub (pc := 74) [0, 1, 2, 3, 5] rfl ?_
        exact cb_X12_isFree_L74 B ht hrec40 h
theorem cb_X12_isFree_L40n {D : DD} {ev : EV} {m z : Nat} {X0 : SM} {fu : Nat} (B : Amb D (foot (xS m X0 z)) ev RX12 "isFree" cX12_isFree 9 (some .boolean) rmX12_isFree) (ht : Tb0 ev)  : ∀ (n : Nat) {x2 : Int32} {x4 : Int32} {x5 : Int64} {x7 : Int32} {x8 : Int32} {r : Int32}, fX12_isFree_L40 fu X0 n x2 x4 x5 x7 x8 = some r → Gd D (foot (xS m X0 z)) ev (QF D ev (xS m X0 z) (.inr (some (vI r))) (xS m X0 z) rmX12_isFree) (xS m X0 z) 0 0 40 [(0, vA (some m)), (2, vI x2), (4, vI x4), (5, vJ x5), (7, vI x7), (8, vI x8)] [] := by
  intro n
  induction n with
  | zero => intro x2 x4 x5 x7 x8 r h; exact nomatch h
  | succ n ih => intro x2 x4 x5 x7 x8 r h; exact cb_X12_isFree_L40b (fu := fu) B ht (fun h9 => ih h9) h
theorem cb_X12_isFree_L40 {D : DD} {ev : EV} {m z : Nat} {X0 : SM} {fu : Nat} {x2 : Int32} {x4 : Int32} {x5 : Int64} {x7 : Int32} {x8 : Int32} {n : Nat} {r : Int32} (B : Amb D (foot (xS m X0 z)) ev RX12 "isFree" cX12_isFree 9 (some .boolean) rmX12_isFree) (ht : Tb0 ev)  (h : fX12_isFree_L40 fu X0 n x2 x4 x5 x7 x8 = some r) : Gd D (foot (xS m X0 z)) ev (QF D ev (xS m X0 z) (.inr (some (vI r))) (xS m X0 z) rmX12_isFree) (xS m X0 z) 0 0 40 [(0, vA (some m)), (2, vI x2), (4, vI x4), (5, vJ x5), (7, vI x7), (8, vI x8)] [] := cb_X12_isFree_L40n B ht n h
set_option maxRecDepth 100000 in
set_option maxHeartbeats 4000000 in
theorem cb_X12_isFree_L35 {D : DD} {ev : EV} {m z : Nat} {X0 : SM} {fu : Nat} {x2 : Int32} {x4 : Int32} {x5 : Int64} {s0 : Int32} {r : Int32} (B : Amb D (foot (xS m X0 z)) ev RX12 "isFree" cX12_isFree 9 (some .boolean) rmX12_isFree) (ht : Tb0 ev)  (h : fX12_isFree_L35 fu X0 x2 x4 x5 s0 = some r) : Gd D (foot (xS m X0 z)) ev (QF D ev (xS m X0 z) (.inr (some (vI r))) (xS m X0 z) rmX12_isFree) (xS m X0 z) 0 0 35 [(0, vA (some m)), (2, vI x2), (4, vI x4), (5, vJ x5)] [vI s0] := by
  unfold fX12_isFree_L35 at h
  refine g_istore (pc := 35) (L' := [(7, vI s0), (0, vA (some m)), (2, vI x2), (4, vI x4), (5, vJ x5)]) B dX12_isFree_35 (by decide) rfl ?_
  refine g_iload_n (pc := 37) B dX12_isFree_37 2 rfl ?_
  refine g_istore (pc := 38) (L' := [(8, vI x2), (7, vI s0), (0, vA (some m)), (2, vI x2), (4, vI x4), (5, vJ x5)]) B dX12_isFree_38 (by decide) rfl ?_
  refine g_sub (pc := 40) [2, 3, 4, 5, 1, 0] rfl ?_
  exact cb_X12_isFree_L40 B ht h
set_option maxRecDepth 100000 in
set_option maxHeartbeats 4000000 in
theorem cb_X12_isFree_L34 {D : DD} {ev : EV} {m z : Nat} {X0 : SM} {fu : Nat} {x2 : Int32} {x4 : Int32} {x5 : Int64} {r : Int32} (B : Amb D (foot (xS m X0 z)) ev RX12 "isFree" cX12_isFree 9 (some .boolean) rmX12_isFree) (ht : Tb0 ev)  (h : fX12_isFree_L34 fu X0 x2 x4 x5 = some r) : Gd D (foot (xS m X0 z)) ev (QF D ev (xS m X0 z) (.inr (some (vI r))) (xS m X0 z) rmX12_isFree) (xS m X0 z) 0 0 34 [(0, vA (some m)), (2, vI x2), (4, vI x4), (5, vJ x5)] [] := by
  unfold fX12_isFree_L34 at h
  refine g_iconst (pc := 34) B dX12_isFree_34 (0 : Int32) (by decide) ?_
  refine g_sub (pc := 35) [0, 1, 2, 3] rfl ?_
  exact cb_X12_isFree_L35 B ht h
set_option maxRecDepth 100000 in
set_option maxHeartbeats 4000000 in
theorem cb_X12_isFree_L0 {D : DD} {ev : EV} {m z : Nat} {X0 : SM} {fu : Nat} {x1 : Int32} {x2 : Int32} {x3 : Int32} {x4 : Int32} {r : Int32} (B : Amb D (foot (xS m X0 z)) ev RX12 "isFree" cX12_isFree 9 (some .boolean) rmX12_isFree) (ht : Tb0 ev)  (h : fX12_isFree fu X0 x1 x2 x3 x4 = some r) : Gd D (foot (xS m X0 z)) ev (QF D ev (xS m X0 z) (.inr (some (vI r))) (xS m X0 z) rmX12_isFree) (xS m X0 z) 0 0 0 [(0, vA (some m)), (1, vI x1), (2, vI x2), (3, vI x3), (4, vI x4)] [] := by
  unfold fX12_isFree at h
  refine g_lconst (pc := 0) B dX12_isFree_0 (1 : Int64) (by decide) ?_
  refine g_iload_n (pc := 1) B dX12_isFree_1 3 rfl ?_
  refine g_lshl (pc := 2) B dX12_isFree_2 ?_
  refine g_lconst (pc := 3) B dX12_isFree_3 (1 : Int64) (by decide) ?_
  refine g_lsub (pc := 4) B dX12_isFree_4 ?_
  refine g_iload_n (pc := 5) B dX12_isFree_5 1 rfl ?_
  refine g_lshl (pc := 6) B dX12_isFree_6 ?_
  refine g_lstore (pc := 7) (L' := [(5, vJ ((((1 : Int64) <<< (x3.toInt64 &&& 63)) - (1 : Int64)) <<< (x1.toInt64 &&& 63))), (0, vA (some m)), (1, vI x1), (2, vI x2), (3, vI x3), (4, vI x4)]) B dX12_isFree_7 (by decide) rfl ?_
  refine g_iload_n (pc := 9) B dX12_isFree_9 2 rfl ?_
  refine g_iload_n (pc := 10) B dX12_isFree_10 4 rfl ?_
  refine g_iadd (pc := 11) B dX12_isFree_11 ?_
  refine g_aload_n (pc := 12) B dX12_isFree_12 1 rfl ?_
  refine gs_get (pc := 13) 45 B (by decide) (by decide) kfX12_98 dX12_isFree_13 ?_
  refine g_icmp_gt (pc := 16) (tgt := 34) B dX12_isFree_16 (by decide) (fun c16 => ?_) (fun c16 => ?_)
  · rw [if_pos c16] at h
    refine g_sub (pc := 34) [1, 3, 5, 0] rfl ?_
    exact cb_X12_isFree_L34 B ht h
  · rw [if_neg c16] at h
    refine g_iload_n (pc := 19) B dX12_isFree_19 3 rfl ?_
    refine g_iload (pc := 20) B dX12_isFree_20 5 rfl ?_
    refine g_iadd (pc := 22) B dX12_isFree_22 ?_
    refine g_aload_n (pc := 23) B dX12_isFree_23 1 rfl ?_
    refine gs_get (pc := 24) 46 B (by decide) (by decide) kfX12_102 dX12_isFree_24 ?_
    refine g_icmp_gt (pc := 27) (tgt := 34) B dX12_isFree_27 (by decide) (fun c27 => ?_) (fun c27 => ?_)
    · rw [if_pos c27] at h
      refine g_sub (pc := 34) [1, 3, 5, 0] rfl ?_
      exact cb_X12_isFree_L34 B ht h
    · rw [if_neg c27] at h
      refine g_iconst (pc := 30) B dX12_isFree_30 (1 : Int32) (by decide) ?_
      refine g_goto (pc := 31) (tgt := 35) B dX12_isFree_31 (by decide) ?_
      refine g_sub (pc := 35) [1, 3, 5, 0] rfl ?_
      exact cb_X12_isFree_L35 B ht h
theorem ct_X12_isFree {D : DD} {l : Launch} {m z : Nat} {X0 : SM} {fu : Nat} {x1 : Int32} {x2 : Int32} {x3 : Int32} {x4 : Int32} {r : Int32} (hl : l.stackTraces = false) (h : fX12_isFree fu X0 x1 x2 x3 x4 = some r) : Ctr D l yX12_isFree cX12_isFree 9 (some .boolean) rmX12_isFree [vA (some m), vI x1, vI x2, vI x3, vI x4] (xS m X0 z) (.inr (some (vI r))) (xS m X0 z) :=
  ctr_of hl (plainFor_of_name (by decide)) (Nat.le_of_ble_eq_true rfl) fun ev _ ht B => cb_X12_isFree_L0 B ht h
set_option maxRecDepth 100000 in
set_option maxHeartbeats 4000000 in
theorem cb_X12_hangsOne_L178 {D : DD} {ev : EV} {m z : Nat} {X0 : SM} {fu : Nat} {rec55 : SM → Int32 → Int32 → Int32 → Int32 → Option (SM)} {X : SM} {x1 : Int32} {x2 : Int32} {x3 : Int32} {x4 : Int32} {r : SM} (B : Amb D (foot (xS m X0 z)) ev RX12 "hangsOne" cX12_hangsOne 6 (none) rmX12_hangsOne) (ht : Tb0 ev) (hrec55 : ∀ {X : SM} {x1 : Int32} {x2 : Int32} {x3 : Int32} {x4 : Int32} {r : SM}, rec55 X x1 x2 x3 x4 = some r → Gd D (foot (xS m X0 z)) ev (QF D ev (xS m X0 z) (.inr (none)) (xS m r z) rmX12_hangsOne) (xS m X z) 0 0 55 [(0, vA (some m)), (1, vI x1), (2, vI x2), (3, vI x3), (4, vI x4)] []) (h : fX12_hangsOne_L178 fu rec55 X x1 x2 x3 x4 = some r) : Gd D (foot (xS m X0 z)) ev (QF D ev (xS m X0 z) (.inr (none)) (xS m r z) rmX12_hangsOne) (xS m X z) 0 0 178 [(0, vA (some m)), (1, vI x1), (2, vI x2), (3, vI x3), (4, vI x4)] [] := by
  unfold fX12_hangsOne_L178 at h
  refine g_iinc (pc := 178) (v := (x4 + (1 : Int32))) (L' := [(4, vI (x4 + (1 : Int32))), (0, vA (some m)), (1, vI x1), (2, vI x2), (3, vI x3)]) B dX12_hangsOne_178 (by decide) 4 rfl rfl rfl ?_
  refine g_goto (pc := 181) (tgt := 55) B dX12_hangsOne_181 (by decide) ?_
  refine g_sub (pc := 55) [1, 2, 3, 4, 0] rfl ?_
  exact hrec55 h
set_option maxRecDepth 100000 in
set_option maxHeartbeats 4000000 in
theorem cb_X12_hangsOne_L135b {D : DD} {ev : EV} {m z : Nat} {X0 : SM} {fu : Nat} {rec55 : SM → Int32 → Int32 → Int32 → Int32 → Option (SM)} {rec135 : SM → Int32 → Int32 → Int32 → Int32 → Int32 → Option (SM)} {X : SM} {x1 : Int32} {x2 : Int32} {x3 : Int32} {x4 : Int32} {x5 : Int32} {r : SM} (B : Amb D (foot (xS m X0 z)) ev RX12 "hangsOne" cX12_hangsOne 6 (none) rmX12_hangsOne) (ht : Tb0 ev) (hrec55 : ∀ {X : SM} {x1 : Int32} {x2 : Int32} {x3 : Int32} {x4 : Int32} {r : SM}, rec55 X x1 x2 x3 x4 = some r → Gd D (foot (xS m X0 z)) ev (QF D ev (xS m X0 z) (.inr (none)) (xS m r z) rmX12_hangsOne) (xS m X z) 0 0 55 [(0, vA (some m)), (1, vI x1), (2, vI x2), (3, vI x3), (4, vI x4)] []) (hrec135 : ∀ {X : SM} {x1 : Int32} {x2 : Int32} {x3 : Int32} {x4 : Int32} {x5 : Int32} {r : SM}, rec135 X x1 x2 x3 x4 x5 = some r → Gd D (foot (xS m X0 z)) ev (QF D ev (xS m X0 z) (.inr (none)) (xS m r z) rmX12_hangsOne) (xS m X z) 0 0 135 [(0, vA (some m)), (1, vI x1), (2, vI x2), (3, vI x3), (4, vI x4), (5, vI x5)] []) (h : fX12_hangsOne_L135b fu rec55 rec135 X x1 x2 x3 x4 x5 = some r) : Gd D (foot (xS m X0 z)) ev (QF D ev (xS m X0 z) (.inr (none)) (xS m r z) rmX12_hangsOne) (xS m X z) 0 0 135 [(0, vA (some m)), (1, vI x1), (2, vI x2), (3, vI x3), (4, vI x4), (5, vI x5)] [] := by
  unfold fX12_hangsOne_L135b at h
  refine g_iload (pc := 135) B dX12_hangsOne_135 5 rfl ?_
  refine g_iload (pc := 137) B dX12_hangsOne_137 4 rfl ?_
  refine g_aload_n (pc := 139) B dX12_hangsOne_139 0 rfl ?_
  refine gs_get (pc := 140) 45 B (by decide) (by decide) kfX12_98 dX12_hangsOne_140 ?_
  obtain ⟨c143, h⟩ := chkN h
  refine g_idiv (pc := 143) B dX12_hangsOne_143 c143 ?_
  refine g_iload_n (pc := 144) B dX12_hangsOne_144 3 rfl ?_
  refine g_iadd (pc := 145) B dX12_hangsOne_145 ?_
  refine g_icmp_ge (pc := 146) (tgt := 178) B dX12_hangsOne_146 (by decide) (fun c146 => ?_) (fun c146 => ?_)
  · rw [if_pos c146] at h
    refine g_sub (pc := 178) [0, 1, 2, 3, 4] rfl ?_
    exact cb_X12_hangsOne_L178 B ht hrec55 h
  · rw [if_neg c146] at h
    refine g_aload_n (pc := 149) B dX12_hangsOne_149 0 rfl ?_
    refine gs_arr (pc := 150) 47 29 B (by decide) (by decide) kfX12_105 dX12_hangsOne_150 ?_
    refine g_iload (pc := 153) B dX12_hangsOne_153 5 rfl ?_
    refine g_dup2 (pc := 155) B dX12_hangsOne_155 rfl rfl ?_
    obtain ⟨c156, h⟩ := chk h
    refine gs_lald (pc := 156) B c156 dX12_hangsOne_156 ?_
    refine g_lconst (pc := 157) B dX12_hangsOne_157 (1 : Int64) (by decide) ?_
    refine g_iload_n (pc := 158) B dX12_hangsOne_158 2 rfl ?_
    refine g_lshl (pc := 159) B dX12_hangsOne_159 ?_
    refine g_lconst (pc := 160) B dX12_hangsOne_160 (1 : Int64) (by decide) ?_
    refine g_lsub (pc := 161) B dX12_hangsOne_161 ?_
    refine g_iload (pc := 162) B dX12_hangsOne_162 4 rfl ?_
    refine g_aload_n (pc := 164) B dX12_hangsOne_164 0 rfl ?_
    refine gs_get (pc := 165) 45 B (by decide) (by decide) kfX12_98 dX12_hangsOne_165 ?_
    obtain ⟨c168, h⟩ := chkN h
    refine g_irem (pc := 168) B dX12_hangsOne_168 c168 ?_
    refine g_lshl (pc := 169) B dX12_hangsOne_169 ?_
    refine g_lor (pc := 170) B dX12_hangsOne_170 ?_
    obtain ⟨c171, h⟩ := chk h
    refine gs_last (pc := 171) B c171 dX12_hangsOne_171 ?_
    refine g_iinc (pc := 172) (v := (x5 + (1 : Int32))) (L' := [(5, vI (x5 + (1 : Int32))), (0, vA (some m)), (1, vI x1), (2, vI x2), (3, vI x3), (4, vI x4)]) B dX12_hangsOne_172 (by decide) 5 rfl rfl rfl ?_
    refine g_goto (pc := 175) (tgt := 135) B dX12_hangsOne_175 (by decide) ?_
    refine g_sub (pc := 135) [1, 2, 3, 4, 5, 0] rfl ?_
    exact hrec135 h
theorem cb_X12_hangsOne_L135n {D : DD} {ev : EV} {m z : Nat} {X0 : SM} {fu : Nat} {rec55 : SM → Int32 → Int32 → Int32 → Int32 → Option (SM)} (B : Amb D (foot (xS m X0 z)) ev RX12 "hangsOne" cX12_hangsOne 6 (none) rmX12_hangsOne) (ht : Tb0 ev) (hrec55 : ∀ {X : SM} {x1 : Int32} {x2 : Int32} {x3 : Int32} {x4 : Int32} {r : SM}, rec55 X x1 x2 x3 x4 = some r → Gd D (foot (xS m X0 z)) ev (QF D ev (xS m X0 z) (.inr (none)) (xS m r z) rmX12_hangsOne) (xS m X z) 0 0 55 [(0, vA (some m)), (1, vI x1), (2, vI x2), (3, vI x3), (4, vI x4)] []) : ∀ (n : Nat) {X : SM} {x1 : Int32} {x2 : Int32} {x3 : Int32} {x4 : Int32} {x5 : Int32} {r : SM}, fX12_hangsOne_L135 fu rec55 n X x1 x2 x3 x4 x5 = some r → Gd D (foot (xS m X0 z)) ev (QF D ev (xS m X0 z) (.inr (none)) (xS m r z) rmX12_hangsOne) (xS m X z) 0 0 135 [(0, vA (some m)), (1, vI x1), (2, vI x2), (3, vI x3), (4, vI x4), (5, vI x5)] [] := by
  intro n
  induction n with
  | zero => intro X x1 x2 x3 x4 x5 r h; exact nomatch h
  | succ n ih => intro X x1 x2 x3 x4 x5 r h; exact cb_X12_hangsOne_L135b (fu := fu) B ht hrec55 (fun h9 => ih h9) h
theorem cb_X12_hangsOne_L135 {D : DD} {ev : EV} {m z : Nat} {X0 : SM} {fu : Nat} {rec55 : SM → Int32 → Int32 → Int32 → Int32 → Option (SM)} {X : SM} {x1 : Int32} {x2 : Int32} {x3 : Int32} {x4 : Int32} {x5 : Int32} {n : Nat} {r : SM} (B : Amb D (foot (xS m X0 z)) ev RX12 "hangsOne" cX12_hangsOne 6 (none) rmX12_hangsOne) (ht : Tb0 ev) (hrec55 : ∀ {X : SM} {x1 : Int32} {x2 : Int32} {x3 : Int32} {x4 : Int32} {r : SM}, rec55 X x1 x2 x3 x4 = some r → Gd D (foot (xS m X0 z)) ev (QF D ev (xS m X0 z) (.inr (none)) (xS m r z) rmX12_hangsOne) (xS m X z) 0 0 55 [(0, vA (some m)), (1, vI x1), (2, vI x2), (3, vI x3), (4, vI x4)] []) (h : fX12_hangsOne_L135 fu rec55 n X x1 x2 x3 x4 x5 = some r) : Gd D (foot (xS m X0 z)) ev (QF D ev (xS m X0 z) (.inr (none)) (xS m r z) rmX12_hangsOne) (xS m X z) 0 0 135 [(0, vA (some m)), (1, vI x1), (2, vI x2), (3, vI x3), (4, vI x4), (5, vI x5)] [] := cb_X12_hangsOne_L135n B ht (fun h9 => hrec55 h9) n h
set_option maxRecDepth 100000 in
set_option maxHeartbeats 4000000 in
theorem cb_X12_hangsOne_L55b {D : DD} {ev : EV} {m z : Nat} {X0 : SM} {fu : Nat} {rec55 : SM → Int32 → Int32 → Int32 → Int32 → Option (SM)} {X : SM} {x1 : Int32} {x2 : Int32} {x3 : Int32} {x4 : Int32} {r : SM} (B : Amb D (foot (xS m X0 z)) ev RX12 "hangsOne" cX12_hangsOne 6 (none) rmX12_hangsOne) (ht : Tb0 ev) (hrec55 : ∀ {X : SM} {x1 : Int32} {x2 : Int32} {x3 : Int32} {x4 : Int32} {r : SM}, rec55 X x1 x2 x3 x4 = some r → Gd D (foot (xS m X0 z)) ev (QF D ev (xS m X0 z) (.inr (none)) (xS m r z) rmX12_hangsOne) (xS m X z) 0 0 55 [(0, vA (some m)), (1, vI x1), (2, vI x2), (3, vI x3), (4, vI x4)] []) (h : fX12_hangsOne_L55b fu rec55 X x1 x2 x3 x4 = some r) : Gd D (foot (xS m X0 z)) ev (QF D ev (xS m X0 z) (.inr (none)) (xS m r z) rmX12_hangsOne) (xS m X z) 0 0 55 [(0, vA (some m)), (1, vI x1), (2, vI x2), (3, vI x3), (4, vI x4)] [] := by
  unfold fX12_hangsOne_L55b at h
  refine g_iload (pc := 55) B dX12_hangsOne_55 4 rfl ?_
  refine g_aload_n (pc := 57) B dX12_hangsOne_57 0 rfl ?_
  refine gs_get (pc := 58) 45 B (by decide) (by decide) kfX12_98 dX12_hangsOne_58 ?_
  refine g_aload_n (pc := 61) B dX12_hangsOne_61 0 rfl ?_
  refine gs_get (pc := 62) 46 B (by decide) (by decide) kfX12_102 dX12_hangsOne_62 ?_
  refine g_imul (pc := 65) B dX12_hangsOne_65 ?_
  refine g_icmp_ge (pc := 66) (tgt := 184) B dX12_hangsOne_66 (by decide) (fun c66 => ?_) (fun c66 => ?_)
  · rw [if_pos c66] at h
    obtain rfl := Option.some.inj h
    exact g_ret_V (pc := 184) B rfl (by decide) (by decide) dX12_hangsOne_184
  · rw [if_neg c66] at h
    refine g_aload_n (pc := 69) B dX12_hangsOne_69 0 rfl ?_
    refine gs_arr (pc := 70) 48 30 B (by decide) (by decide) kfX12_109 dX12_hangsOne_70 ?_
    refine g_iload_n (pc := 73) B dX12_hangsOne_73 1 rfl ?_
    obtain ⟨c74, h⟩ := chk h
    refine gs_iald (pc := 74) B c74 dX12_hangsOne_74 ?_
    refine g_iconst (pc := 75) B dX12_hangsOne_75 (-1) (by decide) ?_
    refine g_icmp_ne (pc := 76) (tgt := 184) B dX12_hangsOne_76 (by decide) (fun c76 => ?_) (fun c76 => ?_)
    · rw [if_neg c76] at h
      obtain rfl := Option.some.inj h
      exact g_ret_V (pc := 184) B rfl (by decide) (by decide) dX12_hangsOne_184
    · rw [if_pos c76] at h
      refine g_aload_n (pc := 79) B dX12_hangsOne_79 0 rfl ?_
      refine g_iload (pc := 80) B dX12_hangsOne_80 4 rfl ?_
      refine g_aload_n (pc := 82) B dX12_hangsOne_82 0 rfl ?_
      refine gs_get (pc := 83) 45 B (by decide) (by decide) kfX12_98 dX12_hangsOne_83 ?_
      obtain ⟨c86, h⟩ := chkN h
      refine g_irem (pc := 86) B dX12_hangsOne_86 c86 ?_
      refine g_iload (pc := 87) B dX12_hangsOne_87 4 rfl ?_
      refine g_aload_n (pc := 89) B dX12_hangsOne_89 0 rfl ?_
      refine gs_get (pc := 90) 45 B (by decide) (by decide) kfX12_98 dX12_hangsOne_90 ?_
      obtain ⟨c93, h⟩ := chkN h
      refine g_idiv (pc := 93) B dX12_hangsOne_93 c93 ?_
      refine g_iload_n (pc := 94) B dX12_hangsOne_94 2 rfl ?_
      refine g_iload_n (pc := 95) B dX12_hangsOne_95 3 rfl ?_
      obtain ⟨v96, e96, h⟩ := ob h
      refine h_callV (pc := 96) (As := [vI (x4 - x4 / (sc X 45) * (sc X 45)), vI (x4 / (sc X 45)), vI x2, vI x3]) (st := []) (X' := (xS m X z)) (cs' := 0) (sl' := 0) (st10 := [vI v96]) B cal_X12_isFree kmX12_264 kn_X12_isFree ks_X12_isFree hkS (by decide) rfl (fun l hl => ct_X12_isFree hl e96) rfl (Nat.le_of_ble_eq_true rfl) (by decide) (by decide) dX12_hangsOne_96 rfl rfl rfl rfl ?_
      refine g_if_eq (pc := 99) (tgt := 178) B dX12_hangsOne_99 (by decide) (fun c99 => ?_) (fun c99 => ?_)
      · rw [if_pos c99] at h
        refine g_sub (pc := 178) [0, 1, 2, 3, 4] rfl ?_
        exact cb_X12_hangsOne_L178 B ht hrec55 h
      · rw [if_neg c99] at h
        refine g_aload_n (pc := 102) B dX12_hangsOne_102 0 rfl ?_
        refine gs_arr (pc := 103) 48 30 B (by decide) (by decide) kfX12_109 dX12_hangsOne_103 ?_
        refine g_iload_n (pc := 106) B dX12_hangsOne_106 1 rfl ?_
        refine g_bipush (pc := 107) B dX12_hangsOne_107 (100 : Int32) (by decide) ?_
        refine g_iload (pc := 109) B dX12_hangsOne_109 4 rfl ?_
        refine g_aload_n (pc := 111) B dX12_hangsOne_111 0 rfl ?_
        refine gs_get (pc := 112) 45 B (by decide) (by decide) kfX12_98 dX12_hangsOne_112 ?_
        obtain ⟨c115, h⟩ := chkN h
        refine g_irem (pc := 115) B dX12_hangsOne_115 c115 ?_
        refine g_imul (pc := 116) B dX12_hangsOne_116 ?_
        refine g_iload (pc := 117) B dX12_hangsOne_117 4 rfl ?_
        refine g_aload_n (pc := 119) B dX12_hangsOne_119 0 rfl ?_
        refine gs_get (pc := 120) 45 B (by decide) (by decide) kfX12_98 dX12_hangsOne_120 ?_
        obtain ⟨c123, h⟩ := chkN h
        refine g_idiv (pc := 123) B dX12_hangsOne_123 c123 ?_
        refine g_iadd (pc := 124) B dX12_hangsOne_124 ?_
        obtain ⟨c125, h⟩ := chk h
        refine gs_iast (pc := 125) B c125 dX12_hangsOne_125 ?_
        refine g_iload (pc := 126) B dX12_hangsOne_126 4 rfl ?_
        refine g_aload_n (pc := 128) B dX12_hangsOne_128 0 rfl ?_
        refine gs_get (pc := 129) 45 B (by decide) (by decide) kfX12_98 dX12_hangsOne_129 ?_
        obtain ⟨c132, h⟩ := chkN h
        refine g_idiv (pc := 132) B dX12_hangsOne_132 c132 ?_
        refine g_istore (pc := 133) (L' := [(5, vI (x4 / (sc (ua X 30 x1.toNatClampNeg (((100 : Int32) * (x4 - x4 / (sc X 45) * (sc X 45))) + (x4 / (sc X 45)))) 45))), (0, vA (some m)), (1, vI x1), (2, vI x2), (3, vI x3), (4, vI x4)]) B dX12_hangsOne_133 (by decide) rfl ?_
        refine g_sub (pc := 135) [1, 2, 3, 4, 5, 0] rfl ?_
        exact cb_X12_hangsOne_L135 B ht hrec55 h
theorem cb_X12_hangsOne_L55n {D : DD} {ev : EV} {m z : Nat} {X0 : SM} {fu : Nat} (B : Amb D (foot (xS m X0 z)) ev RX12 "hangsOne" cX12_hangsOne 6 (none) rmX12_hangsOne) (ht : Tb0 ev)  : ∀ (n : Nat) {X : SM} {x1 : Int32} {x2 : Int32} {x3 : Int32} {x4 : Int32} {r : SM}, fX12_hangsOne_L55 fu n X x1 x2 x3 x4 = some r → Gd D (foot (xS m X0 z)) ev (QF D ev (xS m X0 z) (.inr (none)) (xS m r z) rmX12_hangsOne) (xS m X z) 0 0 55 [(0, vA (some m)), (1, vI x1), (2, vI x2), (3, vI x3), (4, vI x4)] [] := by
  intro n
  induction n with
  | zero => intro X x1 x2 x3 x4 r h; exact nomatch h
  | succ n ih => intro X x1 x2 x3 x4 r h; exact cb_X12_hangsOne_L55b (fu := fu) B ht (fun h9 => ih h9) h
theorem cb_X12_hangsOne_L55 {D : DD} {ev : EV} {m z : Nat} {X0 : SM} {fu : Nat} {X : SM} {x1 : Int32} {x2 : Int32} {x3 : Int32} {x4 : Int32} {n : Nat} {r : SM} (B : Amb D (foot (xS m X0 z)) ev RX12 "hangsOne" cX12_hangsOne 6 (none) rmX12_hangsOne) (ht : Tb0 ev)  (h : fX12_hangsOne_L55 fu n X x1 x2 x3 x4 = some r) : Gd D (foot (xS m X0 z)) ev (QF D ev (xS m X0 z) (.inr (none)) (xS m r z) rmX12_hangsOne) (xS m X z) 0 0 55 [(0, vA (some m)), (1, vI x1), (2, vI x2), (3, vI x3), (4, vI x4)] [] := cb_X12_hangsOne_L55n B ht n h
set_option maxRecDepth 100000 in
set_option maxHeartbeats 4000000 in
theorem cb_X12_hangsOne_L0 {D : DD} {ev : EV} {m z : Nat} {X0 : SM} {fu : Nat} {X : SM} {x1 : Int32} {r : SM} (B : Amb D (foot (xS m X0 z)) ev RX12 "hangsOne" cX12_hangsOne 6 (none) rmX12_hangsOne) (ht : Tb0 ev)  (h : fX12_hangsOne fu X x1 = some r) : Gd D (foot (xS m X0 z)) ev (QF D ev (xS m X0 z) (.inr (none)) (xS m r z) rmX12_hangsOne) (xS m X z) 0 0 0 [(0, vA (some m)), (1, vI x1)] [] := by
  unfold fX12_hangsOne at h
  refine g_aload_n (pc := 0) B dX12_hangsOne_0 0 rfl ?_
  refine g_aload_n (pc := 1) B dX12_hangsOne_1 0 rfl ?_
  refine gs_arr (pc := 2) 42 26 B (by decide) (by decide) kfX12_89 dX12_hangsOne_2 ?_
  refine g_iload_n (pc := 5) B dX12_hangsOne_5 1 rfl ?_
  obtain ⟨c6, h⟩ := chk h
  refine gs_iald (pc := 6) B c6 dX12_hangsOne_6 ?_
  refine g_iconst (pc := 7) B dX12_hangsOne_7 (1 : Int32) (by decide) ?_
  obtain ⟨v8, e8, h⟩ := ob h
  refine h_callV (pc := 8) (As := [vI (ar X 26 x1.toNatClampNeg), vI (1 : Int32)]) (st := []) (X' := (xS m X z)) (cs' := 0) (sl' := 0) (st10 := [vI v8]) B cal_X12_greatestOf kmX12_261 kn_X12_greatestOf ks_X12_greatestOf hkS (by decide) rfl (fun l hl => ct_X12_greatestOf hl e8) rfl (Nat.le_of_ble_eq_true rfl) (by decide) (by decide) dX12_hangsOne_8 rfl rfl rfl rfl ?_
  refine g_aload_n (pc := 11) B dX12_hangsOne_11 0 rfl ?_
  refine g_aload_n (pc := 12) B dX12_hangsOne_12 0 rfl ?_
  refine gs_arr (pc := 13) 42 26 B (by decide) (by decide) kfX12_89 dX12_hangsOne_13 ?_
  refine g_iload_n (pc := 16) B dX12_hangsOne_16 1 rfl ?_
  obtain ⟨c17, h⟩ := chk h
  refine gs_iald (pc := 17) B c17 dX12_hangsOne_17 ?_
  refine g_iconst (pc := 18) B dX12_hangsOne_18 (1 : Int32) (by decide) ?_
  obtain ⟨v19, e19, h⟩ := ob h
  refine h_callV (pc := 19) (As := [vI (ar X 26 x1.toNatClampNeg), vI (1 : Int32)]) (st := [vI v8]) (X' := (xS m X z)) (cs' := 0) (sl' := 0) (st10 := [vI v19, vI v8]) B cal_X12_leastOf kmX12_244 kn_X12_leastOf ks_X12_leastOf hkS (by decide) rfl (fun l hl => ct_X12_leastOf hl e19) rfl (Nat.le_of_ble_eq_true rfl) (by decide) (by decide) dX12_hangsOne_19 rfl rfl rfl rfl ?_
  refine g_isub (pc := 22) B dX12_hangsOne_22 ?_
  refine g_iconst (pc := 23) B dX12_hangsOne_23 (1 : Int32) (by decide) ?_
  refine g_iadd (pc := 24) B dX12_hangsOne_24 ?_
  refine g_istore_n (pc := 25) (L' := [(2, vI ((v8 - v19) + (1 : Int32))), (0, vA (some m)), (1, vI x1)]) B dX12_hangsOne_25 (by decide) rfl ?_
  refine g_aload_n (pc := 26) B dX12_hangsOne_26 1 rfl ?_
  refine g_aload_n (pc := 27) B dX12_hangsOne_27 1 rfl ?_
  refine gs_arr (pc := 28) 42 26 B (by decide) (by decide) kfX12_89 dX12_hangsOne_28 ?_
  refine g_iload_n (pc := 31) B dX12_hangsOne_31 2 rfl ?_
  obtain ⟨c32, h⟩ := chk h
  refine gs_iald (pc := 32) B c32 dX12_hangsOne_32 ?_
  refine g_iconst (pc := 33) B dX12_hangsOne_33 (0 : Int32) (by decide) ?_
  obtain ⟨v34, e34, h⟩ := ob h
  refine h_callV (pc := 34) (As := [vI (ar X 26 x1.toNatClampNeg), vI (0 : Int32)]) (st := []) (X' := (xS m X z)) (cs' := 0) (sl' := 0) (st10 := [vI v34]) B cal_X12_greatestOf kmX12_261 kn_X12_greatestOf ks_X12_greatestOf hkS (by decide) rfl (fun l hl => ct_X12_greatestOf hl e34) rfl (Nat.le_of_ble_eq_true rfl) (by decide) (by decide) dX12_hangsOne_34 rfl rfl rfl rfl ?_
  refine g_aload_n (pc := 37) B dX12_hangsOne_37 1 rfl ?_
  refine g_aload_n (pc := 38) B dX12_hangsOne_38 1 rfl ?_
  refine gs_arr (pc := 39) 42 26 B (by decide) (by decide) kfX12_89 dX12_hangsOne_39 ?_
  refine g_iload_n (pc := 42) B dX12_hangsOne_42 2 rfl ?_
  obtain ⟨c43, h⟩ := chk h
  refine gs_iald (pc := 43) B c43 dX12_hangsOne_43 ?_
  refine g_iconst (pc := 44) B dX12_hangsOne_44 (0 : Int32) (by decide) ?_
  obtain ⟨v45, e45, h⟩ := ob h
  refine h_callV (pc := 45) (As := [vI (ar X 26 x1.toNatClampNeg), vI (0 : Int32)]) (st := [vI v34]) (X' := (xS m X z)) (cs' := 0) (sl' := 0) (st10 := [vI v45, vI v34]) B cal_X12_leastOf kmX12_244 kn_X12_leastOf ks_X12_leastOf hkS (by decide) rfl (fun l hl => ct_X12_leastOf hl e45) rfl (Nat.le_of_ble_eq_true rfl) (by decide) (by decide) dX12_hangsOne_45 rfl rfl rfl rfl ?_
  refine g_isub (pc := 48) B dX12_hangsOne_48 ?_
  refine g_iconst (pc := 49) B dX12_hangsOne_49 (1 : Int32) (by decide) ?_
  refine g_iadd (pc := 50) B dX12_hangsOne_50 ?_
  refine g_istore_n (pc := 51) (L' := [(3, vI ((v34 - v45) + (1 : Int32))), (2, vI ((v8 - v19) + (1 : Int32))), (0, vA (some m)), (1, vI x1)]) B dX12_hangsOne_51 (by decide) rfl ?_
  refine g_iconst (pc := 52) B dX12_hangsOne_52 (0 : Int32) (by decide) ?_
  refine g_istore (pc := 53) (L' := [(4, vI (0 : Int32)), (3, vI ((v34 - v45) + (1 : Int32))), (2, vI ((v8 - v19) + (1 : Int32))), (0, vA (some m)), (1, vI x1)]) B dX12_hangsOne_53 (by decide) rfl ?_
  refine g_sub (pc := 55) [3, 4, 2, 1, 0] rfl ?_
  exact cb_X12_hangsOne_L55 B ht h
theorem ct_X12_hangsOne {D : DD} {l : Launch} {m z : Nat} {X0 : SM} {fu : Nat} {x1 : Int32} {r : SM} (hl : l.stackTraces = false) (h : fX12_hangsOne fu X0 x1 = some r) : Ctr D l yX12_hangsOne cX12_hangsOne 6 (none) rmX12_hangsOne [vA (some m), vI x1] (xS m X0 z) (.inr (none)) (xS m r z) :=
  ctr_of hl (plainFor_of_name (by decide)) (Nat.le_of_ble_eq_true rfl) fun ev _ ht B => cb_X12_hangsOne_L0 B ht h
set_option maxRecDepth 100000 in
set_option maxHeartbeats 4000000 in
theorem cb_X12_hangsAll_L69 {D : DD} {ev : EV} {m z : Nat} {X0 : SM} {fu : Nat} {rec23 : SM → Int32 → Option (SM)} {X : SM} {x1 : Int32} {r : SM} (B : Amb D (foot (xS m X0 z)) ev RX12 "hangsAll" cX12_hangsAll 2 (none) rmX12_hangsAll) (ht : Tb0 ev) (hrec23 : ∀ {X : SM} {x1 : Int32} {r : SM}, rec23 X x1 = some r → Gd D (foot (xS m X0 z)) ev (QF D ev (xS m X0 z) (.inr (none)) (xS m r z) rmX12_hangsAll) (xS m X z) 0 0 23 [(0, vA (some m)), (1, vI x1)] []) (h : fX12_hangsAll_L69 fu rec23 X x1 = some r) : Gd D (foot (xS m X0 z)) ev (QF D ev (xS m X0 z) (.inr (none)) (xS m r z) rmX12_hangsAll) (xS m X z) 0 0 69 [(0, vA (some m)), (1, vI x1)] [] := by
  unfold fX12_hangsAll_L69 at h
  refine g_iinc (pc := 69) (v := (x1 + (1 : Int32))) (L' := [(1, vI (x1 + (1 : Int32))), (0, vA (some m))]) B dX12_hangsAll_69 (by decide) 1 rfl rfl rfl ?_
  refine g_goto (pc := 72) (tgt := 23) B dX12_hangsAll_72 (by decide) ?_
  refine g_sub (pc := 23) [1, 0] rfl ?_
  exact hrec23 h
set_option maxRecDepth 100000 in
set_option maxHeartbeats 4000000 in
theorem cb_X12_hangsAll_L64 {D : DD} {ev : EV} {m z : Nat} {X0 : SM} {fu : Nat} {rec23 : SM → Int32 → Option (SM)} {X : SM} {x1 : Int32} {r : SM} (B : Amb D (foot (xS m X0 z)) ev RX12 "hangsAll" cX12_hangsAll 2 (none) rmX12_hangsAll) (ht : Tb0 ev) (hrec23 : ∀ {X : SM} {x1 : Int32} {r : SM}, rec23 X x1 = some r → Gd D (foot (xS m X0 z)) ev (QF D ev (xS m X0 z) (.inr (none)) (xS m r z) rmX12_hangsAll) (xS m X z) 0 0 23 [(0, vA (some m)), (1, vI x1)] []) (h : fX12_hangsAll_L64 fu rec23 X x1 = some r) : Gd D (foot (xS m X0 z)) ev (QF D ev (xS m X0 z) (.inr (none)) (xS m r z) rmX12_hangsAll) (xS m X z) 0 0 64 [(0, vA (some m)), (1, vI x1)] [] := by
  unfold fX12_hangsAll_L64 at h
  refine g_aload_n (pc := 64) B dX12_hangsAll_64 0 rfl ?_
  refine g_iload_n (pc := 65) B dX12_hangsAll_65 1 rfl ?_
  obtain ⟨X66, e66, h⟩ := ob h
  refine h_callV (pc := 66) (As := [vI x1]) (st := []) (X' := (xS m X66 z)) (cs' := 0) (sl' := 0) (st10 := []) B cal_X12_hangsOne kmX12_272 kn_X12_hangsOne ks_X12_hangsOne hkS (by decide) rfl (fun l hl => ct_X12_hangsOne hl e66) rfl (Nat.le_of_ble_eq_true rfl) (by decide) (by decide) dX12_hangsAll_66 rfl rfl rfl rfl ?_
  refine g_sub (pc := 69) [0, 1] rfl ?_
  exact cb_X12_hangsAll_L69 B ht hrec23 h
set_option maxRecDepth 100000 in
set_option maxHeartbeats 4000000 in
theorem cb_X12_hangsAll_L23b {D : DD} {ev : EV} {m z : Nat} {X0 : SM} {fu : Nat} {rec23 : SM → Int32 → Option (SM)} {X : SM} {x1 : Int32} {r : SM} (B : Amb D (foot (xS m X0 z)) ev RX12 "hangsAll" cX12_hangsAll 2 (none) rmX12_hangsAll) (ht : Tb0 ev) (hrec23 : ∀ {X : SM} {x1 : Int32} {r : SM}, rec23 X x1 = some r → Gd D (foot (xS m X0 z)) ev (QF D ev (xS m X0 z) (.inr (none)) (xS m r z) rmX12_hangsAll) (xS m X z) 0 0 23 [(0, vA (some m)), (1, vI x1)] []) (h : fX12_hangsAll_L23b fu rec23 X x1 = some r) : Gd D (foot (xS m X0 z)) ev (QF D ev (xS m X0 z) (.inr (none)) (xS m r z) rmX12_hangsAll) (xS m X z) 0 0 23 [(0, vA (some m)), (1, vI x1)] [] := by
  unfold fX12_hangsAll_L23b at h
  refine g_iload_n (pc := 23) B dX12_hangsAll_23 1 rfl ?_
  refine g_aload_n (pc := 24) B dX12_hangsAll_24 0 rfl ?_
  refine gs_get (pc := 25) 41 B (by decide) (by decide) kfX12_232 dX12_hangsAll_25 ?_
  refine g_icmp_ge (pc := 28) (tgt := 75) B dX12_hangsAll_28 (by decide) (fun c28 => ?_) (fun c28 => ?_)
  · rw [if_pos c28] at h
    obtain rfl := Option.some.inj h
    exact g_ret_V (pc := 75) B rfl (by decide) (by decide) dX12_hangsAll_75
  · rw [if_neg c28] at h
    refine g_aload_n (pc := 31) B dX12_hangsAll_31 0 rfl ?_
    refine gs_arr (pc := 32) 48 30 B (by decide) (by decide) kfX12_109 dX12_hangsAll_32 ?_
    refine g_iload_n (pc := 35) B dX12_hangsAll_35 1 rfl ?_
    refine g_iconst (pc := 36) B dX12_hangsAll_36 (-1) (by decide) ?_
    obtain ⟨c37, h⟩ := chk h
    refine gs_iast (pc := 37) B c37 dX12_hangsAll_37 ?_
    refine g_aload_n (pc := 38) B dX12_hangsAll_38 0 rfl ?_
    refine g_iload_n (pc := 39) B dX12_hangsAll_39 1 rfl ?_
    obtain ⟨v40, e40, h⟩ := ob h
    refine h_callV (pc := 40) (As := [vI x1]) (st := []) (X' := (xS m (ua X 30 x1.toNatClampNeg (-1)) z)) (cs' := 0) (sl' := 0) (st10 := [vI v40]) B cal_X12_doesMeet kmX12_235 kn_X12_doesMeet ks_X12_doesMeet hkS (by decide) rfl (fun l hl => ct_X12_doesMeet hl e40) rfl (Nat.le_of_ble_eq_true rfl) (by decide) (by decide) dX12_hangsAll_40 rfl rfl rfl rfl ?_
    refine g_if_eq (pc := 43) (tgt := 69) B dX12_hangsAll_43 (by decide) (fun c43 => ?_) (fun c43 => ?_)
    · rw [if_pos c43] at h
      refine g_sub (pc := 69) [0, 1] rfl ?_
      exact cb_X12_hangsAll_L69 B ht hrec23 h
    · rw [if_neg c43] at h
      refine g_aload_n (pc := 46) B dX12_hangsAll_46 0 rfl ?_
      refine gs_arr (pc := 47) 44 28 B (by decide) (by decide) kfX12_95 dX12_hangsAll_47 ?_
      refine g_iload_n (pc := 50) B dX12_hangsAll_50 1 rfl ?_
      obtain ⟨c51, h⟩ := chk h
      refine gs_zald (pc := 51) B c51 dX12_hangsAll_51 ?_
      refine g_if_ne (pc := 52) (tgt := 64) B dX12_hangsAll_52 (by decide) (fun c52 => ?_) (fun c52 => ?_)
      · rw [if_neg c52] at h
        refine g_sub (pc := 64) [0, 1] rfl ?_
        exact cb_X12_hangsAll_L64 B ht hrec23 h
      · rw [if_pos c52] at h
        refine g_aload_n (pc := 55) B dX12_hangsAll_55 0 rfl ?_
        refine g_iload_n (pc := 56) B dX12_hangsAll_56 1 rfl ?_
        obtain ⟨v57, X57, e57, h⟩ := obW h
        refine h_callV (pc := 57) (As := [vI x1]) (st := []) (X' := (xS m X57 z)) (cs' := 0) (sl' := 0) (st10 := [vI v57]) B cal_X12_copied kmX12_268 kn_X12_copied ks_X12_copied hkS (by decide) rfl (fun l hl => ct_X12_copied hl e57) rfl (Nat.le_of_ble_eq_true rfl) (by decide) (by decide) dX12_hangsAll_57 rfl rfl rfl rfl ?_
        refine g_iconst (pc := 60) B dX12_hangsAll_60 (-1) (by decide) ?_
        refine g_icmp_ne (pc := 61) (tgt := 69) B dX12_hangsAll_61 (by decide) (fun c61 => ?_) (fun c61 => ?_)
        · rw [if_neg c61] at h
          refine g_sub (pc := 69) [0, 1] rfl ?_
          exact cb_X12_hangsAll_L69 B ht hrec23 h
        · rw [if_pos c61] at h
          refine g_sub (pc := 64) [0, 1] rfl ?_
          exact cb_X12_hangsAll_L64 B ht hrec23 h
theorem cb_X12_hangsAll_L23n {D : DD} {ev : EV} {m z : Nat} {X0 : SM} {fu : Nat} (B : Amb D (foot (xS m X0 z)) ev RX12 "hangsAll" cX12_hangsAll 2 (none) rmX12_hangsAll) (ht : Tb0 ev)  : ∀ (n : Nat) {X : SM} {x1 : Int32} {r : SM}, fX12_hangsAll_L23 fu n X x1 = some r → Gd D (foot (xS m X0 z)) ev (QF D ev (xS m X0 z) (.inr (none)) (xS m r z) rmX12_hangsAll) (xS m X z) 0 0 23 [(0, vA (some m)), (1, vI x1)] [] := by
  intro n
  induction n with
  | zero => intro X x1 r h; exact nomatch h
  | succ n ih => intro X x1 r h; exact cb_X12_hangsAll_L23b (fu := fu) B ht (fun h9 => ih h9) h
theorem cb_X12_hangsAll_L23 {D : DD} {ev : EV} {m z : Nat} {X0 : SM} {fu : Nat} {X : SM} {x1 : Int32} {n : Nat} {r : SM} (B : Amb D (foot (xS m X0 z)) ev RX12 "hangsAll" cX12_hangsAll 2 (none) rmX12_hangsAll) (ht : Tb0 ev)  (h : fX12_hangsAll_L23 fu n X x1 = some r) : Gd D (foot (xS m X0 z)) ev (QF D ev (xS m X0 z) (.inr (none)) (xS m r z) rmX12_hangsAll) (xS m X z) 0 0 23 [(0, vA (some m)), (1, vI x1)] [] := cb_X12_hangsAll_L23n B ht n h
set_option maxRecDepth 100000 in
set_option maxHeartbeats 4000000 in
theorem cb_X12_hangsAll_L2b {D : DD} {ev : EV} {m z : Nat} {X0 : SM} {fu : Nat} {rec2 : SM → Int32 → Option (SM)} {X : SM} {x1 : Int32} {r : SM} (B : Amb D (foot (xS m X0 z)) ev RX12 "hangsAll" cX12_hangsAll 2 (none) rmX12_hangsAll) (ht : Tb0 ev) (hrec2 : ∀ {X : SM} {x1 : Int32} {r : SM}, rec2 X x1 = some r → Gd D (foot (xS m X0 z)) ev (QF D ev (xS m X0 z) (.inr (none)) (xS m r z) rmX12_hangsAll) (xS m X z) 0 0 2 [(0, vA (some m)), (1, vI x1)] []) (h : fX12_hangsAll_L2b fu rec2 X x1 = some r) : Gd D (foot (xS m X0 z)) ev (QF D ev (xS m X0 z) (.inr (none)) (xS m r z) rmX12_hangsAll) (xS m X z) 0 0 2 [(0, vA (some m)), (1, vI x1)] [] := by
  unfold fX12_hangsAll_L2b at h
  refine g_iload_n (pc := 2) B dX12_hangsAll_2 1 rfl ?_
  refine g_bipush (pc := 3) B dX12_hangsAll_3 (40 : Int32) (by decide) ?_
  refine g_icmp_ge (pc := 5) (tgt := 21) B dX12_hangsAll_5 (by decide) (fun c5 => ?_) (fun c5 => ?_)
  · rw [if_pos c5] at h
    refine g_iconst (pc := 21) B dX12_hangsAll_21 (0 : Int32) (by decide) ?_
    refine g_istore_n (pc := 22) (L' := [(1, vI (0 : Int32)), (0, vA (some m))]) B dX12_hangsAll_22 (by decide) rfl ?_
    refine g_sub (pc := 23) [1, 0] rfl ?_
    exact cb_X12_hangsAll_L23 B ht h
  · rw [if_neg c5] at h
    refine g_aload_n (pc := 8) B dX12_hangsAll_8 0 rfl ?_
    refine gs_arr (pc := 9) 47 29 B (by decide) (by decide) kfX12_105 dX12_hangsAll_9 ?_
    refine g_iload_n (pc := 12) B dX12_hangsAll_12 1 rfl ?_
    refine g_lconst (pc := 13) B dX12_hangsAll_13 (0 : Int64) (by decide) ?_
    obtain ⟨c14, h⟩ := chk h
    refine gs_last (pc := 14) B c14 dX12_hangsAll_14 ?_
    refine g_iinc (pc := 15) (v := (x1 + (1 : Int32))) (L' := [(1, vI (x1 + (1 : Int32))), (0, vA (some m))]) B dX12_hangsAll_15 (by decide) 1 rfl rfl rfl ?_
    refine g_goto (pc := 18) (tgt := 2) B dX12_hangsAll_18 (by decide) ?_
    refine g_sub (pc := 2) [1, 0] rfl ?_
    exact hrec2 h
theorem cb_X12_hangsAll_L2n {D : DD} {ev : EV} {m z : Nat} {X0 : SM} {fu : Nat} (B : Amb D (foot (xS m X0 z)) ev RX12 "hangsAll" cX12_hangsAll 2 (none) rmX12_hangsAll) (ht : Tb0 ev)  : ∀ (n : Nat) {X : SM} {x1 : Int32} {r : SM}, fX12_hangsAll_L2 fu n X x1 = some r → Gd D (foot (xS m X0 z)) ev (QF D ev (xS m X0 z) (.inr (none)) (xS m r z) rmX12_hangsAll) (xS m X z) 0 0 2 [(0, vA (some m)), (1, vI x1)] [] := by
  intro n
  induction n with
  | zero => intro X x1 r h; exact nomatch h
  | succ n ih => intro X x1 r h; exact cb_X12_hangsAll_L2b (fu := fu) B ht (fun h9 => ih h9) h
theorem cb_X12_hangsAll_L2 {D : DD} {ev : EV} {m z : Nat} {X0 : SM} {fu : Nat} {X : SM} {x1 : Int32} {n : Nat} {r : SM} (B : Amb D (foot (xS m X0 z)) ev RX12 "hangsAll" cX12_hangsAll 2 (none) rmX12_hangsAll) (ht : Tb0 ev)  (h : fX12_hangsAll_L2 fu n X x1 = some r) : Gd D (foot (xS m X0 z)) ev (QF D ev (xS m X0 z) (.inr (none)) (xS m r z) rmX12_hangsAll) (xS m X z) 0 0 2 [(0, vA (some m)), (1, vI x1)] [] := cb_X12_hangsAll_L2n B ht n h
set_option maxRecDepth 100000 in
set_option maxHeartbeats 4000000 in
theorem cb_X12_hangsAll_L0 {D : DD} {ev : EV} {m z : Nat} {X0 : SM} {fu : Nat} {X : SM}  {r : SM} (B : Amb D (foot (xS m X0 z)) ev RX12 "hangsAll" cX12_hangsAll 2 (none) rmX12_hangsAll) (ht : Tb0 ev)  (h : fX12_hangsAll fu X = some r) : Gd D (foot (xS m X0 z)) ev (QF D ev (xS m X0 z) (.inr (none)) (xS m r z) rmX12_hangsAll) (xS m X z) 0 0 0 [(0, vA (some m))] [] := by
  unfold fX12_hangsAll at h
  refine g_iconst (pc := 0) B dX12_hangsAll_0 (0 : Int32) (by decide) ?_
  refine g_istore_n (pc := 1) (L' := [(1, vI (0 : Int32)), (0, vA (some m))]) B dX12_hangsAll_1 (by decide) rfl ?_
  refine g_sub (pc := 2) [1, 0] rfl ?_
  exact cb_X12_hangsAll_L2 B ht h
theorem ct_X12_hangsAll {D : DD} {l : Launch} {m z : Nat} {X0 : SM} {fu : Nat}  {r : SM} (hl : l.stackTraces = false) (h : fX12_hangsAll fu X0 = some r) : Ctr D l yX12_hangsAll cX12_hangsAll 2 (none) rmX12_hangsAll [vA (some m)] (xS m X0 z) (.inr (none)) (xS m r z) :=
  ctr_of hl (plainFor_of_name (by decide)) (Nat.le_of_ble_eq_true rfl) fun ev _ ht B => cb_X12_hangsAll_L0 B ht h
set_option maxRecDepth 100000 in
set_option maxHeartbeats 4000000 in
theorem cb_X12_setWall_L79 {D : DD} {ev : EV} {m z : Nat} {X0 : SM} {fu : Nat} {rec53 : SM → Int32 → Int32 → Option (Int32 × SM)} {X : SM} {x4 : Int32} {s0 : Int32} {s1 : Int32} {r : Int32 × SM} (B : Amb D (foot (xS m X0 z)) ev RX12 "setWall" cX12_setWall 5 (some .int) rmX12_setWall) (ht : Tb0 ev) (hrec53 : ∀ {X : SM} {x3 : Int32} {x4 : Int32} {r : Int32 × SM}, rec53 X x3 x4 = some r → Gd D (foot (xS m X0 z)) ev (QF D ev (xS m X0 z) (.inr (some (vI r.1))) (xS m r.2 z) rmX12_setWall) (xS m X z) 0 0 53 [(0, vA (some m)), (3, vI x3), (4, vI x4)] []) (h : fX12_setWall_L79 fu rec53 X x4 s0 s1 = some r) : Gd D (foot (xS m X0 z)) ev (QF D ev (xS m X0 z) (.inr (some (vI r.1))) (xS m r.2 z) rmX12_setWall) (xS m X z) 0 0 79 [(0, vA (some m)), (4, vI x4)] [vI s1, vI s0] := by
  unfold fX12_setWall_L79 at h
  refine g_iadd (pc := 79) B dX12_setWall_79 ?_
  refine g_istore_n (pc := 80) (L' := [(3, vI (s0 + s1)), (0, vA (some m)), (4, vI x4)]) B dX12_setWall_80 (by decide) rfl ?_
  refine g_iinc (pc := 81) (v := (x4 + (1 : Int32))) (L' := [(4, vI (x4 + (1 : Int32))), (3, vI (s0 + s1)), (0, vA (some m))]) B dX12_setWall_81 (by decide) 2 rfl rfl rfl ?_
  refine g_goto (pc := 84) (tgt := 53) B dX12_setWall_84 (by decide) ?_
  refine g_sub (pc := 53) [2, 1, 0] rfl ?_
  exact hrec53 h
set_option maxRecDepth 100000 in
set_option maxHeartbeats 4000000 in
theorem cb_X12_setWall_L53b {D : DD} {ev : EV} {m z : Nat} {X0 : SM} {fu : Nat} {rec53 : SM → Int32 → Int32 → Option (Int32 × SM)} {X : SM} {x3 : Int32} {x4 : Int32} {r : Int32 × SM} (B : Amb D (foot (xS m X0 z)) ev RX12 "setWall" cX12_setWall 5 (some .int) rmX12_setWall) (ht : Tb0 ev) (hrec53 : ∀ {X : SM} {x3 : Int32} {x4 : Int32} {r : Int32 × SM}, rec53 X x3 x4 = some r → Gd D (foot (xS m X0 z)) ev (QF D ev (xS m X0 z) (.inr (some (vI r.1))) (xS m r.2 z) rmX12_setWall) (xS m X z) 0 0 53 [(0, vA (some m)), (3, vI x3), (4, vI x4)] []) (h : fX12_setWall_L53b fu rec53 X x3 x4 = some r) : Gd D (foot (xS m X0 z)) ev (QF D ev (xS m X0 z) (.inr (some (vI r.1))) (xS m r.2 z) rmX12_setWall) (xS m X z) 0 0 53 [(0, vA (some m)), (3, vI x3), (4, vI x4)] [] := by
  unfold fX12_setWall_L53b at h
  refine g_iload (pc := 53) B dX12_setWall_53 2 rfl ?_
  refine g_aload_n (pc := 55) B dX12_setWall_55 0 rfl ?_
  refine gs_get (pc := 56) 41 B (by decide) (by decide) kfX12_232 dX12_setWall_56 ?_
  refine g_icmp_ge (pc := 59) (tgt := 87) B dX12_setWall_59 (by decide) (fun c59 => ?_) (fun c59 => ?_)
  · rw [if_pos c59] at h
    refine g_iload_n (pc := 87) B dX12_setWall_87 1 rfl ?_
    obtain rfl := Option.some.inj h
    exact g_ret_I (pc := 88) B rfl (by decide) (by decide) dX12_setWall_88
  · rw [if_neg c59] at h
    refine g_iload_n (pc := 62) B dX12_setWall_62 1 rfl ?_
    refine g_aload_n (pc := 63) B dX12_setWall_63 0 rfl ?_
    refine gs_arr (pc := 64) 48 30 B (by decide) (by decide) kfX12_109 dX12_setWall_64 ?_
    refine g_iload (pc := 67) B dX12_setWall_67 2 rfl ?_
    obtain ⟨c69, h⟩ := chk h
    refine gs_iald (pc := 69) B c69 dX12_setWall_69 ?_
    refine g_iconst (pc := 70) B dX12_setWall_70 (-1) (by decide) ?_
    refine g_icmp_eq (pc := 71) (tgt := 78) B dX12_setWall_71 (by decide) (fun c71 => ?_) (fun c71 => ?_)
    · rw [if_pos c71] at h
      refine g_iconst (pc := 78) B dX12_setWall_78 (0 : Int32) (by decide) ?_
      refine g_sub (pc := 79) [0, 2] rfl ?_
      exact cb_X12_setWall_L79 B ht hrec53 h
    · rw [if_neg c71] at h
      refine g_iconst (pc := 74) B dX12_setWall_74 (1 : Int32) (by decide) ?_
      refine g_goto (pc := 75) (tgt := 79) B dX12_setWall_75 (by decide) ?_
      refine g_sub (pc := 79) [0, 2] rfl ?_
      exact cb_X12_setWall_L79 B ht hrec53 h
theorem cb_X12_setWall_L53n {D : DD} {ev : EV} {m z : Nat} {X0 : SM} {fu : Nat} (B : Amb D (foot (xS m X0 z)) ev RX12 "setWall" cX12_setWall 5 (some .int) rmX12_setWall) (ht : Tb0 ev)  : ∀ (n : Nat) {X : SM} {x3 : Int32} {x4 : Int32} {r : Int32 × SM}, fX12_setWall_L53 fu n X x3 x4 = some r → Gd D (foot (xS m X0 z)) ev (QF D ev (xS m X0 z) (.inr (some (vI r.1))) (xS m r.2 z) rmX12_setWall) (xS m X z) 0 0 53 [(0, vA (some m)), (3, vI x3), (4, vI x4)] [] := by
  intro n
  induction n with
  | zero => intro X x3 x4 r h; exact nomatch h
  | succ n ih => intro X x3 x4 r h; exact cb_X12_setWall_L53b (fu := fu) B ht (fun h9 => ih h9) h
theorem cb_X12_setWall_L53 {D : DD} {ev : EV} {m z : Nat} {X0 : SM} {fu : Nat} {X : SM} {x3 : Int32} {x4 : Int32} {n : Nat} {r : Int32 × SM} (B : Amb D (foot (xS m X0 z)) ev RX12 "setWall" cX12_setWall 5 (some .int) rmX12_setWall) (ht : Tb0 ev)  (h : fX12_setWall_L53 fu n X x3 x4 = some r) : Gd D (foot (xS m X0 z)) ev (QF D ev (xS m X0 z) (.inr (some (vI r.1))) (xS m r.2 z) rmX12_setWall) (xS m X z) 0 0 53 [(0, vA (some m)), (3, vI x3), (4, vI x4)] [] := cb_X12_setWall_L53n B ht n h
set_option maxRecDepth 100000 in
set_option maxHeartbeats 4000000 in
theorem cb_X12_setWall_L26 {D : DD} {ev : EV} {m z : Nat} {X0 : SM} {fu : Nat} {X : SM} {x1 : Int32} {x2 : Int32} {s1 : Int32} {r : Int32 × SM} (B : Amb D (foot (xS m X0 z)) ev RX12 "setWall" cX12_setWall 5 (some .int) rmX12_setWall) (ht : Tb0 ev)  (h : fX12_setWall_L26 fu X x1 x2 s1 = some r) : Gd D (foot (xS m X0 z)) ev (QF D ev (xS m X0 z) (.inr (some (vI r.1))) (xS m r.2 z) rmX12_setWall) (xS m X z) 0 0 26 [(0, vA (some m)), (1, vI x1), (2, vI x2)] [vI s1, vA (some m)] := by
  unfold fX12_setWall_L26 at h
  obtain ⟨v26, X26, e26, h⟩ := obW h
  refine h_callV (pc := 26) (As := [vI s1]) (st := []) (X' := (xS m X26 z)) (cs' := 0) (sl' := 0) (st10 := [vI v26]) B cal_X12_holds kmX12_126 kn_X12_holds ks_X12_holds hkS (by decide) rfl (fun l hl => ct_X12_holds hl e26) rfl (Nat.le_of_ble_eq_true rfl) (by decide) (by decide) dX12_setWall_26 rfl rfl rfl rfl ?_
  refine g_if_ne (pc := 29) (tgt := 34) B dX12_setWall_29 (by decide) (fun c29 => ?_) (fun c29 => ?_)
  · rw [if_neg c29] at h
    refine g_aload_n (pc := 34) B dX12_setWall_34 0 rfl ?_
    refine g_iload_n (pc := 35) B dX12_setWall_35 1 rfl ?_
    refine gs_put (pc := 36) 45 B (by decide) (by decide) rfl kfX12_98 dX12_setWall_36 ?_
    refine g_aload_n (pc := 39) B dX12_setWall_39 0 rfl ?_
    refine g_iload_n (pc := 40) B dX12_setWall_40 2 rfl ?_
    refine gs_put (pc := 41) 46 B (by decide) (by decide) rfl kfX12_102 dX12_setWall_41 ?_
    refine g_aload_n (pc := 44) B dX12_setWall_44 0 rfl ?_
    obtain ⟨X45, e45, h⟩ := ob h
    refine h_callV (pc := 45) (As := []) (st := []) (X' := (xS m X45 z)) (cs' := 0) (sl' := 0) (st10 := []) B cal_X12_hangsAll kmX12_241 kn_X12_hangsAll ks_X12_hangsAll hkS (by decide) rfl (fun l hl => ct_X12_hangsAll hl e45) rfl (Nat.le_of_ble_eq_true rfl) (by decide) (by decide) dX12_setWall_45 rfl rfl rfl rfl ?_
    refine g_iconst (pc := 48) B dX12_setWall_48 (0 : Int32) (by decide) ?_
    refine g_istore_n (pc := 49) (L' := [(3, vI (0 : Int32)), (0, vA (some m)), (1, vI x1), (2, vI x2)]) B dX12_setWall_49 (by decide) rfl ?_
    refine g_iconst (pc := 50) B dX12_setWall_50 (0 : Int32) (by decide) ?_
    refine g_istore (pc := 51) (L' := [(4, vI (0 : Int32)), (3, vI (0 : Int32)), (0, vA (some m)), (1, vI x1), (2, vI x2)]) B dX12_setWall_51 (by decide) rfl ?_
    refine g_sub (pc := 53) [2, 1, 0] rfl ?_
    exact cb_X12_setWall_L53 B ht h
  · rw [if_pos c29] at h
    refine g_iconst (pc := 32) B dX12_setWall_32 (0 : Int32) (by decide) ?_
    obtain rfl := Option.some.inj h
    exact g_ret_I (pc := 33) B rfl (by decide) (by decide) dX12_setWall_33
set_option maxRecDepth 100000 in
set_option maxHeartbeats 4000000 in
theorem cb_X12_setWall_L25 {D : DD} {ev : EV} {m z : Nat} {X0 : SM} {fu : Nat} {X : SM} {x1 : Int32} {x2 : Int32} {r : Int32 × SM} (B : Amb D (foot (xS m X0 z)) ev RX12 "setWall" cX12_setWall 5 (some .int) rmX12_setWall) (ht : Tb0 ev)  (h : fX12_setWall_L25 fu X x1 x2 = some r) : Gd D (foot (xS m X0 z)) ev (QF D ev (xS m X0 z) (.inr (some (vI r.1))) (xS m r.2 z) rmX12_setWall) (xS m X z) 0 0 25 [(0, vA (some m)), (1, vI x1), (2, vI x2)] [vA (some m)] := by
  unfold fX12_setWall_L25 at h
  refine g_iconst (pc := 25) B dX12_setWall_25 (1 : Int32) (by decide) ?_
  refine g_sub (pc := 26) [0, 1, 2] rfl ?_
  exact cb_X12_setWall_L26 B ht h
set_option maxRecDepth 100000 in
set_option maxHeartbeats 4000000 in
theorem cb_X12_setWall_L0 {D : DD} {ev : EV} {m z : Nat} {X0 : SM} {fu : Nat} {X : SM} {x1 : Int32} {x2 : Int32} {r : Int32 × SM} (B : Amb D (foot (xS m X0 z)) ev RX12 "setWall" cX12_setWall 5 (some .int) rmX12_setWall) (ht : Tb0 ev)  (h : fX12_setWall fu X x1 x2 = some r) : Gd D (foot (xS m X0 z)) ev (QF D ev (xS m X0 z) (.inr (some (vI r.1))) (xS m r.2 z) rmX12_setWall) (xS m X z) 0 0 0 [(0, vA (some m)), (1, vI x1), (2, vI x2)] [] := by
  unfold fX12_setWall at h
  refine g_aload_n (pc := 0) B dX12_setWall_0 0 rfl ?_
  refine g_iload_n (pc := 1) B dX12_setWall_1 1 rfl ?_
  refine g_iconst (pc := 2) B dX12_setWall_2 (1 : Int32) (by decide) ?_
  refine g_bipush (pc := 3) B dX12_setWall_3 (40 : Int32) (by decide) ?_
  obtain ⟨v5, e5, h⟩ := ob h
  refine h_callS (pc := 5) (As := [vI x1, vI (1 : Int32), vI (40 : Int32)]) (st := [vA (some m)]) (X' := (xS m X z)) (cs' := 0) (sl' := 0) (st10 := [vI v5, vA (some m)]) B cal_X12_isIn kmX12_115 kz_X12_isIn (fun l hl => ct_X12_isIn hl e5) rfl (Nat.le_of_ble_eq_true rfl) (by decide) (by decide) dX12_setWall_5 rfl rfl rfl rfl ?_
  refine g_if_eq (pc := 8) (tgt := 25) B dX12_setWall_8 (by decide) (fun c8 => ?_) (fun c8 => ?_)
  · rw [if_pos c8] at h
    refine g_sub (pc := 25) [0, 1, 2] rfl ?_
    exact cb_X12_setWall_L25 B ht h
  · rw [if_neg c8] at h
    refine g_iload_n (pc := 11) B dX12_setWall_11 2 rfl ?_
    refine g_iconst (pc := 12) B dX12_setWall_12 (1 : Int32) (by decide) ?_
    refine g_bipush (pc := 13) B dX12_setWall_13 (40 : Int32) (by decide) ?_
    obtain ⟨v15, e15, h⟩ := ob h
    refine h_callS (pc := 15) (As := [vI x2, vI (1 : Int32), vI (40 : Int32)]) (st := [vA (some m)]) (X' := (xS m X z)) (cs' := 0) (sl' := 0) (st10 := [vI v15, vA (some m)]) B cal_X12_isIn kmX12_115 kz_X12_isIn (fun l hl => ct_X12_isIn hl e15) rfl (Nat.le_of_ble_eq_true rfl) (by decide) (by decide) dX12_setWall_15 rfl rfl rfl rfl ?_
    refine g_if_eq (pc := 18) (tgt := 25) B dX12_setWall_18 (by decide) (fun c18 => ?_) (fun c18 => ?_)
    · rw [if_pos c18] at h
      refine g_sub (pc := 25) [0, 1, 2] rfl ?_
      exact cb_X12_setWall_L25 B ht h
    · rw [if_neg c18] at h
      refine g_iconst (pc := 21) B dX12_setWall_21 (0 : Int32) (by decide) ?_
      refine g_goto (pc := 22) (tgt := 26) B dX12_setWall_22 (by decide) ?_
      refine g_sub (pc := 26) [0, 1, 2] rfl ?_
      exact cb_X12_setWall_L26 B ht h
theorem ct_X12_setWall {D : DD} {l : Launch} {m z : Nat} {X0 : SM} {fu : Nat} {x1 : Int32} {x2 : Int32} {r : Int32 × SM} (hl : l.stackTraces = false) (h : fX12_setWall fu X0 x1 x2 = some r) : Ctr D l yX12_setWall cX12_setWall 5 (some .int) rmX12_setWall [vA (some m), vI x1, vI x2] (xS m X0 z) (.inr (some (vI r.1))) (xS m r.2 z) :=
  ctr_of hl (plainFor_of_name (by decide)) (Nat.le_of_ble_eq_true rfl) fun ev _ ht B => cb_X12_setWall_L0 B ht h
set_option maxRecDepth 100000 in
set_option maxHeartbeats 4000000 in
theorem cb_X12_longestRow_L177 {D : DD} {ev : EV} {m z : Nat} {X0 : SM} {fu : Nat} {rec36 : SM → Int32 → Int32 → Int32 → Option (Int32 × SM)} {rec49 : SM → Int32 → Int32 → Int32 → Int32 → Option (Int32 × SM)} {X : SM} {x1 : Int32} {x2 : Int32} {x3 : Int32} {x4 : Int32} {s1 : Int32} {s2 : Int32} {r : Int32 × SM} (B : Amb D (foot (xS m X0 z)) ev RX12 "longestRow" cX12_longestRow 6 (some .int) rmX12_longestRow) (ht : Tb0 ev) (hrec36 : ∀ {X : SM} {x1 : Int32} {x2 : Int32} {x3 : Int32} {r : Int32 × SM}, rec36 X x1 x2 x3 = some r → Gd D (foot (xS m X0 z)) ev (QF D ev (xS m X0 z) (.inr (some (vI r.1))) (xS m r.2 z) rmX12_longestRow) (xS m X z) 0 0 36 [(0, vA (some m)), (1, vI x1), (2, vI x2), (3, vI x3)] []) (hrec49 : ∀ {X : SM} {x1 : Int32} {x2 : Int32} {x3 : Int32} {x4 : Int32} {r : Int32 × SM}, rec49 X x1 x2 x3 x4 = some r → Gd D (foot (xS m X0 z)) ev (QF D ev (xS m X0 z) (.inr (some (vI r.1))) (xS m r.2 z) rmX12_longestRow) (xS m X z) 0 0 49 [(0, vA (some m)), (1, vI x1), (2, vI x2), (3, vI x3), (4, vI x4)] []) (h : fX12_longestRow_L177 fu rec36 rec49 X x1 x2 x3 x4 s1 s2 = some r) : Gd D (foot (xS m X0 z)) ev (QF D ev (xS m X0 z) (.inr (some (vI r.1))) (xS m r.2 z) rmX12_longestRow) (xS m X z) 0 0 177 [(0, vA (some m)), (1, vI x1), (2, vI x2), (3, vI x3), (4, vI x4)] [vI s2, vI s1, vA (some (m + 1 + 22))] := by
  unfold fX12_longestRow_L177 at h
  obtain ⟨c177, h⟩ := chk h
  refine gs_iast (pc := 177) B c177 dX12_longestRow_177 ?_
  refine g_iinc (pc := 178) (v := (x4 + (1 : Int32))) (L' := [(4, vI (x4 + (1 : Int32))), (0, vA (some m)), (1, vI x1), (2, vI x2), (3, vI x3)]) B dX12_longestRow_178 (by decide) 4 rfl rfl rfl ?_
  refine g_goto (pc := 181) (tgt := 49) B dX12_longestRow_181 (by decide) ?_
  refine g_sub (pc := 49) [1, 2, 3, 4, 0] rfl ?_
  exact hrec49 h
set_option maxRecDepth 100000 in
set_option maxHeartbeats 4000000 in
theorem cb_X12_longestRow_L122 {D : DD} {ev : EV} {m z : Nat} {X0 : SM} {fu : Nat} {rec36 : SM → Int32 → Int32 → Int32 → Option (Int32 × SM)} {rec49 : SM → Int32 → Int32 → Int32 → Int32 → Option (Int32 × SM)} {X : SM} {x1 : Int32} {x2 : Int32} {x3 : Int32} {x4 : Int32} {s0 : Int32} {r : Int32 × SM} (B : Amb D (foot (xS m X0 z)) ev RX12 "longestRow" cX12_longestRow 6 (some .int) rmX12_longestRow) (ht : Tb0 ev) (hrec36 : ∀ {X : SM} {x1 : Int32} {x2 : Int32} {x3 : Int32} {r : Int32 × SM}, rec36 X x1 x2 x3 = some r → Gd D (foot (xS m X0 z)) ev (QF D ev (xS m X0 z) (.inr (some (vI r.1))) (xS m r.2 z) rmX12_longestRow) (xS m X z) 0 0 36 [(0, vA (some m)), (1, vI x1), (2, vI x2), (3, vI x3)] []) (hrec49 : ∀ {X : SM} {x1 : Int32} {x2 : Int32} {x3 : Int32} {x4 : Int32} {r : Int32 × SM}, rec49 X x1 x2 x3 x4 = some r → Gd D (foot (xS m X0 z)) ev (QF D ev (xS m X0 z) (.inr (some (vI r.1))) (xS m r.2 z) rmX12_longestRow) (xS m X z) 0 0 49 [(0, vA (some m)), (1, vI x1), (2, vI x2), (3, vI x3), (4, vI x4)] []) (h : fX12_longestRow_L122 fu rec36 rec49 X x1 x2 x3 x4 s0 = some r) : Gd D (foot (xS m X0 z)) ev (QF D ev (xS m X0 z) (.inr (some (vI r.1))) (xS m r.2 z) rmX12_longestRow) (xS m X z) 0 0 122 [(0, vA (some m)), (1, vI x1), (2, vI x2), (3, vI x3), (4, vI x4)] [vI s0] := by
  unfold fX12_longestRow_L122 at h
  refine g_istore (pc := 122) (L' := [(5, vI s0), (0, vA (some m)), (1, vI x1), (2, vI x2), (3, vI x3), (4, vI x4)]) B dX12_longestRow_122 (by decide) rfl ?_
  refine g_aload_n (pc := 124) B dX12_longestRow_124 1 rfl ?_
  refine gs_arr (pc := 125) 36 22 B (by decide) (by decide) kfX12_77 dX12_longestRow_125 ?_
  refine g_bipush (pc := 128) B dX12_longestRow_128 (31 : Int32) (by decide) ?_
  refine g_iload_n (pc := 130) B dX12_longestRow_130 4 rfl ?_
  refine g_iconst (pc := 131) B dX12_longestRow_131 (1 : Int32) (by decide) ?_
  refine g_iadd (pc := 132) B dX12_longestRow_132 ?_
  refine g_imul (pc := 133) B dX12_longestRow_133 ?_
  refine g_iload (pc := 134) B dX12_longestRow_134 5 rfl ?_
  refine g_iadd (pc := 136) B dX12_longestRow_136 ?_
  refine g_iconst (pc := 137) B dX12_longestRow_137 (1 : Int32) (by decide) ?_
  refine g_iadd (pc := 138) B dX12_longestRow_138 ?_
  refine g_aload_n (pc := 139) B dX12_longestRow_139 1 rfl ?_
  refine gs_arr (pc := 140) 33 19 B (by decide) (by decide) kfX12_68 dX12_longestRow_140 ?_
  refine g_iload_n (pc := 143) B dX12_longestRow_143 4 rfl ?_
  obtain ⟨c144, h⟩ := chk h
  refine gs_iald (pc := 144) B c144 dX12_longestRow_144 ?_
  refine g_aload_n (pc := 145) B dX12_longestRow_145 1 rfl ?_
  refine gs_arr (pc := 146) 33 19 B (by decide) (by decide) kfX12_68 dX12_longestRow_146 ?_
  refine g_bipush (pc := 149) B dX12_longestRow_149 (30 : Int32) (by decide) ?_
  refine g_iload (pc := 151) B dX12_longestRow_151 5 rfl ?_
  refine g_iadd (pc := 153) B dX12_longestRow_153 ?_
  obtain ⟨c154, h⟩ := chk h
  refine gs_iald (pc := 154) B c154 dX12_longestRow_154 ?_
  refine g_icmp_ne (pc := 155) (tgt := 175) B dX12_longestRow_155 (by decide) (fun c155 => ?_) (fun c155 => ?_)
  · rw [if_neg c155] at h
    refine g_iload (pc := 175) B dX12_longestRow_175 0 rfl ?_
    refine g_sub (pc := 177) [1, 2, 3, 4, 5] rfl ?_
    exact cb_X12_longestRow_L177 B ht hrec36 hrec49 h
  · rw [if_pos c155] at h
    refine g_aload_n (pc := 158) B dX12_longestRow_158 1 rfl ?_
    refine gs_arr (pc := 159) 36 22 B (by decide) (by decide) kfX12_77 dX12_longestRow_159 ?_
    refine g_bipush (pc := 162) B dX12_longestRow_162 (31 : Int32) (by decide) ?_
    refine g_iload_n (pc := 164) B dX12_longestRow_164 4 rfl ?_
    refine g_imul (pc := 165) B dX12_longestRow_165 ?_
    refine g_iload (pc := 166) B dX12_longestRow_166 5 rfl ?_
    refine g_iadd (pc := 168) B dX12_longestRow_168 ?_
    obtain ⟨c169, h⟩ := chk h
    refine gs_iald (pc := 169) B c169 dX12_longestRow_169 ?_
    refine g_iconst (pc := 170) B dX12_longestRow_170 (1 : Int32) (by decide) ?_
    refine g_iadd (pc := 171) B dX12_longestRow_171 ?_
    refine g_goto (pc := 172) (tgt := 177) B dX12_longestRow_172 (by decide) ?_
    refine g_sub (pc := 177) [1, 2, 3, 4, 5] rfl ?_
    exact cb_X12_longestRow_L177 B ht hrec36 hrec49 h
set_option maxRecDepth 100000 in
set_option maxHeartbeats 4000000 in
theorem cb_X12_longestRow_L49b {D : DD} {ev : EV} {m z : Nat} {X0 : SM} {fu : Nat} {rec36 : SM → Int32 → Int32 → Int32 → Option (Int32 × SM)} {rec49 : SM → Int32 → Int32 → Int32 → Int32 → Option (Int32 × SM)} {X : SM} {x1 : Int32} {x2 : Int32} {x3 : Int32} {x4 : Int32} {r : Int32 × SM} (B : Amb D (foot (xS m X0 z)) ev RX12 "longestRow" cX12_longestRow 6 (some .int) rmX12_longestRow) (ht : Tb0 ev) (hrec36 : ∀ {X : SM} {x1 : Int32} {x2 : Int32} {x3 : Int32} {r : Int32 × SM}, rec36 X x1 x2 x3 = some r → Gd D (foot (xS m X0 z)) ev (QF D ev (xS m X0 z) (.inr (some (vI r.1))) (xS m r.2 z) rmX12_longestRow) (xS m X z) 0 0 36 [(0, vA (some m)), (1, vI x1), (2, vI x2), (3, vI x3)] []) (hrec49 : ∀ {X : SM} {x1 : Int32} {x2 : Int32} {x3 : Int32} {x4 : Int32} {r : Int32 × SM}, rec49 X x1 x2 x3 x4 = some r → Gd D (foot (xS m X0 z)) ev (QF D ev (xS m X0 z) (.inr (some (vI r.1))) (xS m r.2 z) rmX12_longestRow) (xS m X z) 0 0 49 [(0, vA (some m)), (1, vI x1), (2, vI x2), (3, vI x3), (4, vI x4)] []) (h : fX12_longestRow_L49b fu rec36 rec49 X x1 x2 x3 x4 = some r) : Gd D (foot (xS m X0 z)) ev (QF D ev (xS m X0 z) (.inr (some (vI r.1))) (xS m r.2 z) rmX12_longestRow) (xS m X z) 0 0 49 [(0, vA (some m)), (1, vI x1), (2, vI x2), (3, vI x3), (4, vI x4)] [] := by
  unfold fX12_longestRow_L49b at h
  refine g_iload (pc := 49) B dX12_longestRow_49 4 rfl ?_
  refine g_aload_n (pc := 51) B dX12_longestRow_51 0 rfl ?_
  refine gs_arr (pc := 52) 10 5 B (by decide) (by decide) kfX12_26 dX12_longestRow_52 ?_
  refine g_iload_n (pc := 55) B dX12_longestRow_55 2 rfl ?_
  obtain ⟨c56, h⟩ := chk h
  refine gs_iald (pc := 56) B c56 dX12_longestRow_56 ?_
  refine g_icmp_ge (pc := 57) (tgt := 184) B dX12_longestRow_57 (by decide) (fun c57 => ?_) (fun c57 => ?_)
  · rw [if_pos c57] at h
    refine g_iinc (pc := 184) (v := (x3 + (1 : Int32))) (L' := [(3, vI (x3 + (1 : Int32))), (0, vA (some m)), (1, vI x1), (2, vI x2), (4, vI x4)]) B dX12_longestRow_184 (by decide) 3 rfl rfl rfl ?_
    refine g_goto (pc := 187) (tgt := 36) B dX12_longestRow_187 (by decide) ?_
    refine g_sub (pc := 36) [1, 2, 3, 0] rfl ?_
    exact hrec36 h
  · rw [if_neg c57] at h
    refine g_aload_n (pc := 60) B dX12_longestRow_60 0 rfl ?_
    refine gs_arr (pc := 61) 36 22 B (by decide) (by decide) kfX12_77 dX12_longestRow_61 ?_
    refine g_bipush (pc := 64) B dX12_longestRow_64 (31 : Int32) (by decide) ?_
    refine g_iload_n (pc := 66) B dX12_longestRow_66 3 rfl ?_
    refine g_imul (pc := 67) B dX12_longestRow_67 ?_
    refine g_iload (pc := 68) B dX12_longestRow_68 4 rfl ?_
    refine g_iadd (pc := 70) B dX12_longestRow_70 ?_
    refine g_iconst (pc := 71) B dX12_longestRow_71 (1 : Int32) (by decide) ?_
    refine g_iadd (pc := 72) B dX12_longestRow_72 ?_
    obtain ⟨c73, h⟩ := chk h
    refine gs_iald (pc := 73) B c73 dX12_longestRow_73 ?_
    refine g_aload_n (pc := 74) B dX12_longestRow_74 0 rfl ?_
    refine gs_arr (pc := 75) 36 22 B (by decide) (by decide) kfX12_77 dX12_longestRow_75 ?_
    refine g_bipush (pc := 78) B dX12_longestRow_78 (31 : Int32) (by decide) ?_
    refine g_iload_n (pc := 80) B dX12_longestRow_80 3 rfl ?_
    refine g_iconst (pc := 81) B dX12_longestRow_81 (1 : Int32) (by decide) ?_
    refine g_iadd (pc := 82) B dX12_longestRow_82 ?_
    refine g_imul (pc := 83) B dX12_longestRow_83 ?_
    refine g_iload (pc := 84) B dX12_longestRow_84 4 rfl ?_
    refine g_iadd (pc := 86) B dX12_longestRow_86 ?_
    obtain ⟨c87, h⟩ := chk h
    refine gs_iald (pc := 87) B c87 dX12_longestRow_87 ?_
    refine g_icmp_le (pc := 88) (tgt := 108) B dX12_longestRow_88 (by decide) (fun c88 => ?_) (fun c88 => ?_)
    · rw [if_pos c88] at h
      refine g_aload_n (pc := 108) B dX12_longestRow_108 0 rfl ?_
      refine gs_arr (pc := 109) 36 22 B (by decide) (by decide) kfX12_77 dX12_longestRow_109 ?_
      refine g_bipush (pc := 112) B dX12_longestRow_112 (31 : Int32) (by decide) ?_
      refine g_iload_n (pc := 114) B dX12_longestRow_114 3 rfl ?_
      refine g_iconst (pc := 115) B dX12_longestRow_115 (1 : Int32) (by decide) ?_
      refine g_iadd (pc := 116) B dX12_longestRow_116 ?_
      refine g_imul (pc := 117) B dX12_longestRow_117 ?_
      refine g_iload (pc := 118) B dX12_longestRow_118 4 rfl ?_
      refine g_iadd (pc := 120) B dX12_longestRow_120 ?_
      obtain ⟨c121, h⟩ := chk h
      refine gs_iald (pc := 121) B c121 dX12_longestRow_121 ?_
      refine g_sub (pc := 122) [0, 1, 2, 3, 4] rfl ?_
      exact cb_X12_longestRow_L122 B ht hrec36 hrec49 h
    · rw [if_neg c88] at h
      refine g_aload_n (pc := 91) B dX12_longestRow_91 0 rfl ?_
      refine gs_arr (pc := 92) 36 22 B (by decide) (by decide) kfX12_77 dX12_longestRow_92 ?_
      refine g_bipush (pc := 95) B dX12_longestRow_95 (31 : Int32) (by decide) ?_
      refine g_iload_n (pc := 97) B dX12_longestRow_97 3 rfl ?_
      refine g_imul (pc := 98) B dX12_longestRow_98 ?_
      refine g_iload (pc := 99) B dX12_longestRow_99 4 rfl ?_
      refine g_iadd (pc := 101) B dX12_longestRow_101 ?_
      refine g_iconst (pc := 102) B dX12_longestRow_102 (1 : Int32) (by decide) ?_
      refine g_iadd (pc := 103) B dX12_longestRow_103 ?_
      obtain ⟨c104, h⟩ := chk h
      refine gs_iald (pc := 104) B c104 dX12_longestRow_104 ?_
      refine g_goto (pc := 105) (tgt := 122) B dX12_longestRow_105 (by decide) ?_
      refine g_sub (pc := 122) [0, 1, 2, 3, 4] rfl ?_
      exact cb_X12_longestRow_L122 B ht hrec36 hrec49 h
theorem cb_X12_longestRow_L49n {D : DD} {ev : EV} {m z : Nat} {X0 : SM} {fu : Nat} {rec36 : SM → Int32 → Int32 → Int32 → Option (Int32 × SM)} (B : Amb D (foot (xS m X0 z)) ev RX12 "longestRow" cX12_longestRow 6 (some .int) rmX12_longestRow) (ht : Tb0 ev) (hrec36 : ∀ {X : SM} {x1 : Int32} {x2 : Int32} {x3 : Int32} {r : Int32 × SM}, rec36 X x1 x2 x3 = some r → Gd D (foot (xS m X0 z)) ev (QF D ev (xS m X0 z) (.inr (some (vI r.1))) (xS m r.2 z) rmX12_longestRow) (xS m X z) 0 0 36 [(0, vA (some m)), (1, vI x1), (2, vI x2), (3, vI x3)] []) : ∀ (n : Nat) {X : SM} {x1 : Int32} {x2 : Int32} {x3 : Int32} {x4 : Int32} {r : Int32 × SM}, fX12_longestRow_L49 fu rec36 n X x1 x2 x3 x4 = some r → Gd D (foot (xS m X0 z)) ev (QF D ev (xS m X0 z) (.inr (some (vI r.1))) (xS m r.2 z) rmX12_longestRow) (xS m X z) 0 0 49 [(0, vA (some m)), (1, vI x1), (2, vI x2), (3, vI x3), (4, vI x4)] [] := by
  intro n
  induction n with
  | zero => intro X x1 x2 x3 x4 r h; exact nomatch h
  | succ n ih => intro X x1 x2 x3 x4 r h; exact cb_X12_longestRow_L49b (fu := fu) B ht hrec36 (fun h9 => ih h9) h
theorem cb_X12_longestRow_L49 {D : DD} {ev : EV} {m z : Nat} {X0 : SM} {fu : Nat} {rec36 : SM → Int32 → Int32 → Int32 → Option (Int32 × SM)} {X : SM} {x1 : Int32} {x2 : Int32} {x3 : Int32} {x4 : Int32} {n : Nat} {r : Int32 × SM} (B : Amb D (foot (xS m X0 z)) ev RX12 "longestRow" cX12_longestRow 6 (some .int) rmX12_longestRow) (ht : Tb0 ev) (hrec36 : ∀ {X : SM} {x1 : Int32} {x2 : Int32} {x3 : Int32} {r : Int32 × SM}, rec36 X x1 x2 x3 = some r → Gd D (foot (xS m X0 z)) ev (QF D ev (xS m X0 z) (.inr (some (vI r.1))) (xS m r.2 z) rmX12_longestRow) (xS m X z) 0 0 36 [(0, vA (some m)), (1, vI x1), (2, vI x2), (3, vI x3)] []) (h : fX12_longestRow_L49 fu rec36 n X x1 x2 x3 x4 = some r) : Gd D (foot (xS m X0 z)) ev (QF D ev (xS m X0 z) (.inr (some (vI r.1))) (xS m r.2 z) rmX12_longestRow) (xS m X z) 0 0 49 [(0, vA (some m)), (1, vI x1), (2, vI x2), (3, vI x3), (4, vI x4)] [] := cb_X12_longestRow_L49n B ht (fun h9 => hrec36 h9) n h
set_option maxRecDepth 100000 in
set_option maxHeartbeats 4000000 in
theorem cb_X12_longestRow_L36b {D : DD} {ev : EV} {m z : Nat} {X0 : SM} {fu : Nat} {rec36 : SM → Int32 → Int32 → Int32 → Option (Int32 × SM)} {X : SM} {x1 : Int32} {x2 : Int32} {x3 : Int32} {r : Int32 × SM} (B : Amb D (foot (xS m X0 z)) ev RX12 "longestRow" cX12_longestRow 6 (some .int) rmX12_longestRow) (ht : Tb0 ev) (hrec36 : ∀ {X : SM} {x1 : Int32} {x2 : Int32} {x3 : Int32} {r : Int32 × SM}, rec36 X x1 x2 x3 = some r → Gd D (foot (xS m X0 z)) ev (QF D ev (xS m X0 z) (.inr (some (vI r.1))) (xS m r.2 z) rmX12_longestRow) (xS m X z) 0 0 36 [(0, vA (some m)), (1, vI x1), (2, vI x2), (3, vI x3)] []) (h : fX12_longestRow_L36b fu rec36 X x1 x2 x3 = some r) : Gd D (foot (xS m X0 z)) ev (QF D ev (xS m X0 z) (.inr (some (vI r.1))) (xS m r.2 z) rmX12_longestRow) (xS m X z) 0 0 36 [(0, vA (some m)), (1, vI x1), (2, vI x2), (3, vI x3)] [] := by
  unfold fX12_longestRow_L36b at h
  refine g_iload_n (pc := 36) B dX12_longestRow_36 3 rfl ?_
  refine g_aload_n (pc := 37) B dX12_longestRow_37 0 rfl ?_
  refine gs_arr (pc := 38) 10 5 B (by decide) (by decide) kfX12_26 dX12_longestRow_38 ?_
  refine g_iload_n (pc := 41) B dX12_longestRow_41 1 rfl ?_
  obtain ⟨c42, h⟩ := chk h
  refine gs_iald (pc := 42) B c42 dX12_longestRow_42 ?_
  refine g_icmp_ge (pc := 43) (tgt := 190) B dX12_longestRow_43 (by decide) (fun c43 => ?_) (fun c43 => ?_)
  · rw [if_pos c43] at h
    refine g_aload_n (pc := 190) B dX12_longestRow_190 0 rfl ?_
    refine gs_arr (pc := 191) 36 22 B (by decide) (by decide) kfX12_77 dX12_longestRow_191 ?_
    refine g_bipush (pc := 194) B dX12_longestRow_194 (31 : Int32) (by decide) ?_
    refine g_aload_n (pc := 196) B dX12_longestRow_196 0 rfl ?_
    refine gs_arr (pc := 197) 10 5 B (by decide) (by decide) kfX12_26 dX12_longestRow_197 ?_
    refine g_iload_n (pc := 200) B dX12_longestRow_200 1 rfl ?_
    obtain ⟨c201, h⟩ := chk h
    refine gs_iald (pc := 201) B c201 dX12_longestRow_201 ?_
    refine g_imul (pc := 202) B dX12_longestRow_202 ?_
    refine g_aload_n (pc := 203) B dX12_longestRow_203 0 rfl ?_
    refine gs_arr (pc := 204) 10 5 B (by decide) (by decide) kfX12_26 dX12_longestRow_204 ?_
    refine g_iload_n (pc := 207) B dX12_longestRow_207 2 rfl ?_
    obtain ⟨c208, h⟩ := chk h
    refine gs_iald (pc := 208) B c208 dX12_longestRow_208 ?_
    refine g_iadd (pc := 209) B dX12_longestRow_209 ?_
    obtain ⟨c210, h⟩ := chk h
    refine gs_iald (pc := 210) B c210 dX12_longestRow_210 ?_
    obtain rfl := Option.some.inj h
    exact g_ret_I (pc := 211) B rfl (by decide) (by decide) dX12_longestRow_211
  · rw [if_neg c43] at h
    refine g_iconst (pc := 46) B dX12_longestRow_46 (0 : Int32) (by decide) ?_
    refine g_istore (pc := 47) (L' := [(4, vI (0 : Int32)), (0, vA (some m)), (1, vI x1), (2, vI x2), (3, vI x3)]) B dX12_longestRow_47 (by decide) rfl ?_
    refine g_sub (pc := 49) [1, 2, 3, 4, 0] rfl ?_
    exact cb_X12_longestRow_L49 B ht hrec36 h
theorem cb_X12_longestRow_L36n {D : DD} {ev : EV} {m z : Nat} {X0 : SM} {fu : Nat} (B : Amb D (foot (xS m X0 z)) ev RX12 "longestRow" cX12_longestRow 6 (some .int) rmX12_longestRow) (ht : Tb0 ev)  : ∀ (n : Nat) {X : SM} {x1 : Int32} {x2 : Int32} {x3 : Int32} {r : Int32 × SM}, fX12_longestRow_L36 fu n X x1 x2 x3 = some r → Gd D (foot (xS m X0 z)) ev (QF D ev (xS m X0 z) (.inr (some (vI r.1))) (xS m r.2 z) rmX12_longestRow) (xS m X z) 0 0 36 [(0, vA (some m)), (1, vI x1), (2, vI x2), (3, vI x3)] [] := by
  intro n
  induction n with
  | zero => intro X x1 x2 x3 r h; exact nomatch h
  | succ n ih => intro X x1 x2 x3 r h; exact cb_X12_longestRow_L36b (fu := fu) B ht (fun h9 => ih h9) h
theorem cb_X12_longestRow_L36 {D : DD} {ev : EV} {m z : Nat} {X0 : SM} {fu : Nat} {X : SM} {x1 : Int32} {x2 : Int32} {x3 : Int32} {n : Nat} {r : Int32 × SM} (B : Amb D (foot (xS m X0 z)) ev RX12 "longestRow" cX12_longestRow 6 (some .int) rmX12_longestRow) (ht : Tb0 ev)  (h : fX12_longestRow_L36 fu n X x1 x2 x3 = some r) : Gd D (foot (xS m X0 z)) ev (QF D ev (xS m X0 z) (.inr (some (vI r.1))) (xS m r.2 z) rmX12_longestRow) (xS m X z) 0 0 36 [(0, vA (some m)), (1, vI x1), (2, vI x2), (3, vI x3)] [] := cb_X12_longestRow_L36n B ht n h
set_option maxRecDepth 100000 in
set_option maxHeartbeats 4000000 in
theorem cb_X12_longestRow_L14b {D : DD} {ev : EV} {m z : Nat} {X0 : SM} {fu : Nat} {rec14 : SM → Int32 → Int32 → Int32 → Option (Int32 × SM)} {X : SM} {x1 : Int32} {x2 : Int32} {x3 : Int32} {r : Int32 × SM} (B : Amb D (foot (xS m X0 z)) ev RX12 "longestRow" cX12_longestRow 6 (some .int) rmX12_longestRow) (ht : Tb0 ev) (hrec14 : ∀ {X : SM} {x1 : Int32} {x2 : Int32} {x3 : Int32} {r : Int32 × SM}, rec14 X x1 x2 x3 = some r → Gd D (foot (xS m X0 z)) ev (QF D ev (xS m X0 z) (.inr (some (vI r.1))) (xS m r.2 z) rmX12_longestRow) (xS m X z) 0 0 14 [(0, vA (some m)), (1, vI x1), (2, vI x2), (3, vI x3)] []) (h : fX12_longestRow_L14b fu rec14 X x1 x2 x3 = some r) : Gd D (foot (xS m X0 z)) ev (QF D ev (xS m X0 z) (.inr (some (vI r.1))) (xS m r.2 z) rmX12_longestRow) (xS m X z) 0 0 14 [(0, vA (some m)), (1, vI x1), (2, vI x2), (3, vI x3)] [] := by
  unfold fX12_longestRow_L14b at h
  refine g_iload_n (pc := 14) B dX12_longestRow_14 3 rfl ?_
  refine g_sipush (pc := 15) B dX12_longestRow_15 (961 : Int32) (by decide) ?_
  refine g_icmp_ge (pc := 18) (tgt := 34) B dX12_longestRow_18 (by decide) (fun c18 => ?_) (fun c18 => ?_)
  · rw [if_pos c18] at h
    refine g_iconst (pc := 34) B dX12_longestRow_34 (0 : Int32) (by decide) ?_
    refine g_istore_n (pc := 35) (L' := [(3, vI (0 : Int32)), (0, vA (some m)), (1, vI x1), (2, vI x2)]) B dX12_longestRow_35 (by decide) rfl ?_
    refine g_sub (pc := 36) [1, 2, 3, 0] rfl ?_
    exact cb_X12_longestRow_L36 B ht h
  · rw [if_neg c18] at h
    refine g_aload_n (pc := 21) B dX12_longestRow_21 0 rfl ?_
    refine gs_arr (pc := 22) 36 22 B (by decide) (by decide) kfX12_77 dX12_longestRow_22 ?_
    refine g_iload_n (pc := 25) B dX12_longestRow_25 3 rfl ?_
    refine g_iconst (pc := 26) B dX12_longestRow_26 (0 : Int32) (by decide) ?_
    obtain ⟨c27, h⟩ := chk h
    refine gs_iast (pc := 27) B c27 dX12_longestRow_27 ?_
    refine g_iinc (pc := 28) (v := (x3 + (1 : Int32))) (L' := [(3, vI (x3 + (1 : Int32))), (0, vA (some m)), (1, vI x1), (2, vI x2)]) B dX12_longestRow_28 (by decide) 3 rfl rfl rfl ?_
    refine g_goto (pc := 31) (tgt := 14) B dX12_longestRow_31 (by decide) ?_
    refine g_sub (pc := 14) [1, 2, 3, 0] rfl ?_
    exact hrec14 h
theorem cb_X12_longestRow_L14n {D : DD} {ev : EV} {m z : Nat} {X0 : SM} {fu : Nat} (B : Amb D (foot (xS m X0 z)) ev RX12 "longestRow" cX12_longestRow 6 (some .int) rmX12_longestRow) (ht : Tb0 ev)  : ∀ (n : Nat) {X : SM} {x1 : Int32} {x2 : Int32} {x3 : Int32} {r : Int32 × SM}, fX12_longestRow_L14 fu n X x1 x2 x3 = some r → Gd D (foot (xS m X0 z)) ev (QF D ev (xS m X0 z) (.inr (some (vI r.1))) (xS m r.2 z) rmX12_longestRow) (xS m X z) 0 0 14 [(0, vA (some m)), (1, vI x1), (2, vI x2), (3, vI x3)] [] := by
  intro n
  induction n with
  | zero => intro X x1 x2 x3 r h; exact nomatch h
  | succ n ih => intro X x1 x2 x3 r h; exact cb_X12_longestRow_L14b (fu := fu) B ht (fun h9 => ih h9) h
theorem cb_X12_longestRow_L14 {D : DD} {ev : EV} {m z : Nat} {X0 : SM} {fu : Nat} {X : SM} {x1 : Int32} {x2 : Int32} {x3 : Int32} {n : Nat} {r : Int32 × SM} (B : Amb D (foot (xS m X0 z)) ev RX12 "longestRow" cX12_longestRow 6 (some .int) rmX12_longestRow) (ht : Tb0 ev)  (h : fX12_longestRow_L14 fu n X x1 x2 x3 = some r) : Gd D (foot (xS m X0 z)) ev (QF D ev (xS m X0 z) (.inr (some (vI r.1))) (xS m r.2 z) rmX12_longestRow) (xS m X z) 0 0 14 [(0, vA (some m)), (1, vI x1), (2, vI x2), (3, vI x3)] [] := cb_X12_longestRow_L14n B ht n h
set_option maxRecDepth 100000 in
set_option maxHeartbeats 4000000 in
theorem cb_X12_longestRow_L0 {D : DD} {ev : EV} {m z : Nat} {X0 : SM} {fu : Nat} {X : SM} {x1 : Int32} {x2 : Int32} {r : Int32 × SM} (B : Amb D (foot (xS m X0 z)) ev RX12 "longestRow" cX12_longestRow 6 (some .int) rmX12_longestRow) (ht : Tb0 ev)  (h : fX12_longestRow fu X x1 x2 = some r) : Gd D (foot (xS m X0 z)) ev (QF D ev (xS m X0 z) (.inr (some (vI r.1))) (xS m r.2 z) rmX12_longestRow) (xS m X z) 0 0 0 [(0, vA (some m)), (1, vI x1), (2, vI x2)] [] := by
  unfold fX12_longestRow at h
  refine g_aload_n (pc := 0) B dX12_longestRow_0 0 rfl ?_
  refine g_iload_n (pc := 1) B dX12_longestRow_1 1 rfl ?_
  refine g_iconst (pc := 2) B dX12_longestRow_2 (0 : Int32) (by decide) ?_
  obtain ⟨X3, e3, h⟩ := ob h
  refine h_callV (pc := 3) (As := [vI x1, vI (0 : Int32)]) (st := []) (X' := (xS m X3 z)) (cs' := 0) (sl' := 0) (st10 := []) B cal_X12_lays kmX12_252 kn_X12_lays ks_X12_lays hkS (by decide) rfl (fun l hl => ct_X12_lays hl e3) rfl (Nat.le_of_ble_eq_true rfl) (by decide) (by decide) dX12_longestRow_3 rfl rfl rfl rfl ?_
  refine g_aload_n (pc := 6) B dX12_longestRow_6 0 rfl ?_
  refine g_iload_n (pc := 7) B dX12_longestRow_7 2 rfl ?_
  refine g_iconst (pc := 8) B dX12_longestRow_8 (1 : Int32) (by decide) ?_
  obtain ⟨X9, e9, h⟩ := ob h
  refine h_callV (pc := 9) (As := [vI x2, vI (1 : Int32)]) (st := []) (X' := (xS m X9 z)) (cs' := 0) (sl' := 0) (st10 := []) B cal_X12_lays kmX12_252 kn_X12_lays ks_X12_lays hkS (by decide) rfl (fun l hl => ct_X12_lays hl e9) rfl (Nat.le_of_ble_eq_true rfl) (by decide) (by decide) dX12_longestRow_9 rfl rfl rfl rfl ?_
  refine g_iconst (pc := 12) B dX12_longestRow_12 (0 : Int32) (by decide) ?_
  refine g_istore_n (pc := 13) (L' := [(3, vI (0 : Int32)), (0, vA (some m)), (1, vI x1), (2, vI x2)]) B dX12_longestRow_13 (by decide) rfl ?_
  refine g_sub (pc := 14) [1, 2, 3, 0] rfl ?_
  exact cb_X12_longestRow_L14 B ht h
theorem ct_X12_longestRow {D : DD} {l : Launch} {m z : Nat} {X0 : SM} {fu : Nat} {x1 : Int32} {x2 : Int32} {r : Int32 × SM} (hl : l.stackTraces = false) (h : fX12_longestRow fu X0 x1 x2 = some r) : Ctr D l yX12_longestRow cX12_longestRow 6 (some .int) rmX12_longestRow [vA (some m), vI x1, vI x2] (xS m X0 z) (.inr (some (vI r.1))) (xS m r.2 z) :=
  ctr_of hl (plainFor_of_name (by decide)) (Nat.le_of_ble_eq_true rfl) fun ev _ ht B => cb_X12_longestRow_L0 B ht h
set_option maxRecDepth 100000 in
set_option maxHeartbeats 4000000 in
theorem cb_X12_drafted_L0 {D : DD} {ev : EV} {m z : Nat} {X0 : SM} {X : SM}  {r : Int32 × SM} (B : Amb D (foot (xS m X0 z)) ev RX12 "drafted" cX12_drafted 1 (some .int) rmX12_drafted) (ht : Tb0 ev)  (h : fX12_drafted X = some r) : Gd D (foot (xS m X0 z)) ev (QF D ev (xS m X0 z) (.inr (some (vI r.1))) (xS m r.2 z) rmX12_drafted) (xS m X z) 0 0 0 [(0, vA (some m))] [] := by
  unfold fX12_drafted at h
  refine g_aload_n (pc := 0) B dX12_drafted_0 0 rfl ?_
  refine g_iconst (pc := 1) B dX12_drafted_1 (0 : Int32) (by decide) ?_
  refine gs_put (pc := 2) 0 B (by decide) (by decide) rfl kfX12_112 dX12_drafted_2 ?_
  refine g_aload_n (pc := 5) B dX12_drafted_5 0 rfl ?_
  refine gs_get (pc := 6) 1 B (by decide) (by decide) kfX12_119 dX12_drafted_6 ?_
  obtain rfl := Option.some.inj h
  exact g_ret_I (pc := 9) B rfl (by decide) (by decide) dX12_drafted_9
theorem ct_X12_drafted {D : DD} {l : Launch} {m z : Nat} {X0 : SM}  {r : Int32 × SM} (hl : l.stackTraces = false) (h : fX12_drafted X0 = some r) : Ctr D l yX12_drafted cX12_drafted 1 (some .int) rmX12_drafted [vA (some m)] (xS m X0 z) (.inr (some (vI r.1))) (xS m r.2 z) :=
  ctr_of hl (plainFor_of_name (by decide)) (Nat.le_of_ble_eq_true rfl) fun ev _ ht B => cb_X12_drafted_L0 B ht h
set_option maxRecDepth 100000 in
set_option maxHeartbeats 4000000 in
theorem cb_X12_programs_L0 {D : DD} {ev : EV} {m z : Nat} {X0 : SM} {X : SM}  {r : Int32 × SM} (B : Amb D (foot (xS m X0 z)) ev RX12 "programs" cX12_programs 1 (some .int) rmX12_programs) (ht : Tb0 ev)  (h : fX12_programs X = some r) : Gd D (foot (xS m X0 z)) ev (QF D ev (xS m X0 z) (.inr (some (vI r.1))) (xS m r.2 z) rmX12_programs) (xS m X z) 0 0 0 [(0, vA (some m))] [] := by
  unfold fX12_programs at h
  refine g_aload_n (pc := 0) B dX12_programs_0 0 rfl ?_
  refine g_iconst (pc := 1) B dX12_programs_1 (0 : Int32) (by decide) ?_
  refine gs_put (pc := 2) 0 B (by decide) (by decide) rfl kfX12_112 dX12_programs_2 ?_
  refine g_aload_n (pc := 5) B dX12_programs_5 0 rfl ?_
  refine gs_get (pc := 6) 8 B (by decide) (by decide) kfX12_147 dX12_programs_6 ?_
  obtain rfl := Option.some.inj h
  exact g_ret_I (pc := 9) B rfl (by decide) (by decide) dX12_programs_9
theorem ct_X12_programs {D : DD} {l : Launch} {m z : Nat} {X0 : SM}  {r : Int32 × SM} (hl : l.stackTraces = false) (h : fX12_programs X0 = some r) : Ctr D l yX12_programs cX12_programs 1 (some .int) rmX12_programs [vA (some m)] (xS m X0 z) (.inr (some (vI r.1))) (xS m r.2 z) :=
  ctr_of hl (plainFor_of_name (by decide)) (Nat.le_of_ble_eq_true rfl) fun ev _ ht B => cb_X12_programs_L0 B ht h
set_option maxRecDepth 100000 in
set_option maxHeartbeats 4000000 in
theorem cb_X12_fault_L14 {D : DD} {ev : EV} {m z : Nat} {X0 : SM} {X : SM} {x1 : Int32} {s1 : Int32} {r : Int32 × SM} (B : Amb D (foot (xS m X0 z)) ev RX12 "fault" cX12_fault 2 (some .int) rmX12_fault) (ht : Tb0 ev)  (h : fX12_fault_L14 X x1 s1 = some r) : Gd D (foot (xS m X0 z)) ev (QF D ev (xS m X0 z) (.inr (some (vI r.1))) (xS m r.2 z) rmX12_fault) (xS m X z) 0 0 14 [(0, vA (some m)), (1, vI x1)] [vI s1, vA (some m)] := by
  unfold fX12_fault_L14 at h
  obtain ⟨v14, X14, e14, h⟩ := obW h
  refine h_callV (pc := 14) (As := [vI s1]) (st := []) (X' := (xS m X14 z)) (cs' := 0) (sl' := 0) (st10 := [vI v14]) B cal_X12_holds kmX12_126 kn_X12_holds ks_X12_holds hkS (by decide) rfl (fun l hl => ct_X12_holds hl e14) rfl (Nat.le_of_ble_eq_true rfl) (by decide) (by decide) dX12_fault_14 rfl rfl rfl rfl ?_
  refine g_if_eq (pc := 17) (tgt := 29) B dX12_fault_17 (by decide) (fun c17 => ?_) (fun c17 => ?_)
  · rw [if_pos c17] at h
    refine g_iconst (pc := 29) B dX12_fault_29 (0 : Int32) (by decide) ?_
    obtain rfl := Option.some.inj h
    exact g_ret_I (pc := 30) B rfl (by decide) (by decide) dX12_fault_30
  · rw [if_neg c17] at h
    refine g_aload_n (pc := 20) B dX12_fault_20 0 rfl ?_
    refine gs_arr (pc := 21) 15 10 B (by decide) (by decide) kfX12_41 dX12_fault_21 ?_
    refine g_iload_n (pc := 24) B dX12_fault_24 1 rfl ?_
    obtain ⟨c25, h⟩ := chk h
    refine gs_iald (pc := 25) B c25 dX12_fault_25 ?_
    refine g_goto (pc := 26) (tgt := 30) B dX12_fault_26 (by decide) ?_
    obtain rfl := Option.some.inj h
    exact g_ret_I (pc := 30) B rfl (by decide) (by decide) dX12_fault_30
set_option maxRecDepth 100000 in
set_option maxHeartbeats 4000000 in
theorem cb_X12_fault_L0 {D : DD} {ev : EV} {m z : Nat} {X0 : SM} {X : SM} {x1 : Int32} {r : Int32 × SM} (B : Amb D (foot (xS m X0 z)) ev RX12 "fault" cX12_fault 2 (some .int) rmX12_fault) (ht : Tb0 ev)  (h : fX12_fault X x1 = some r) : Gd D (foot (xS m X0 z)) ev (QF D ev (xS m X0 z) (.inr (some (vI r.1))) (xS m r.2 z) rmX12_fault) (xS m X z) 0 0 0 [(0, vA (some m)), (1, vI x1)] [] := by
  unfold fX12_fault at h
  refine g_aload_n (pc := 0) B dX12_fault_0 0 rfl ?_
  refine g_aload_n (pc := 1) B dX12_fault_1 0 rfl ?_
  refine g_iload_n (pc := 2) B dX12_fault_2 1 rfl ?_
  obtain ⟨v3, e3, h⟩ := ob h
  refine h_callV (pc := 3) (As := [vI x1]) (st := [vA (some m)]) (X' := (xS m X z)) (cs' := 0) (sl' := 0) (st10 := [vI v3, vA (some m)]) B cal_X12_isProgram kmX12_220 kn_X12_isProgram ks_X12_isProgram hkS (by decide) rfl (fun l hl => ct_X12_isProgram hl e3) rfl (Nat.le_of_ble_eq_true rfl) (by decide) (by decide) dX12_fault_3 rfl rfl rfl rfl ?_
  refine g_if_eq (pc := 6) (tgt := 13) B dX12_fault_6 (by decide) (fun c6 => ?_) (fun c6 => ?_)
  · rw [if_pos c6] at h
    refine g_iconst (pc := 13) B dX12_fault_13 (1 : Int32) (by decide) ?_
    refine g_sub (pc := 14) [0, 1] rfl ?_
    exact cb_X12_fault_L14 B ht h
  · rw [if_neg c6] at h
    refine g_iconst (pc := 9) B dX12_fault_9 (0 : Int32) (by decide) ?_
    refine g_goto (pc := 10) (tgt := 14) B dX12_fault_10 (by decide) ?_
    refine g_sub (pc := 14) [0, 1] rfl ?_
    exact cb_X12_fault_L14 B ht h
theorem ct_X12_fault {D : DD} {l : Launch} {m z : Nat} {X0 : SM} {x1 : Int32} {r : Int32 × SM} (hl : l.stackTraces = false) (h : fX12_fault X0 x1 = some r) : Ctr D l yX12_fault cX12_fault 2 (some .int) rmX12_fault [vA (some m), vI x1] (xS m X0 z) (.inr (some (vI r.1))) (xS m r.2 z) :=
  ctr_of hl (plainFor_of_name (by decide)) (Nat.le_of_ble_eq_true rfl) fun ev _ ht B => cb_X12_fault_L0 B ht h
set_option maxRecDepth 100000 in
set_option maxHeartbeats 4000000 in
theorem cb_X12_steps_L14 {D : DD} {ev : EV} {m z : Nat} {X0 : SM} {X : SM} {x1 : Int32} {s1 : Int32} {r : Int32 × SM} (B : Amb D (foot (xS m X0 z)) ev RX12 "steps" cX12_steps 2 (some .int) rmX12_steps) (ht : Tb0 ev)  (h : fX12_steps_L14 X x1 s1 = some r) : Gd D (foot (xS m X0 z)) ev (QF D ev (xS m X0 z) (.inr (some (vI r.1))) (xS m r.2 z) rmX12_steps) (xS m X z) 0 0 14 [(0, vA (some m)), (1, vI x1)] [vI s1, vA (some m)] := by
  unfold fX12_steps_L14 at h
  obtain ⟨v14, X14, e14, h⟩ := obW h
  refine h_callV (pc := 14) (As := [vI s1]) (st := []) (X' := (xS m X14 z)) (cs' := 0) (sl' := 0) (st10 := [vI v14]) B cal_X12_holds kmX12_126 kn_X12_holds ks_X12_holds hkS (by decide) rfl (fun l hl => ct_X12_holds hl e14) rfl (Nat.le_of_ble_eq_true rfl) (by decide) (by decide) dX12_steps_14 rfl rfl rfl rfl ?_
  refine g_if_eq (pc := 17) (tgt := 29) B dX12_steps_17 (by decide) (fun c17 => ?_) (fun c17 => ?_)
  · rw [if_pos c17] at h
    refine g_iconst (pc := 29) B dX12_steps_29 (0 : Int32) (by decide) ?_
    obtain rfl := Option.some.inj h
    exact g_ret_I (pc := 30) B rfl (by decide) (by decide) dX12_steps_30
  · rw [if_neg c17] at h
    refine g_aload_n (pc := 20) B dX12_steps_20 0 rfl ?_
    refine gs_arr (pc := 21) 16 11 B (by decide) (by decide) kfX12_44 dX12_steps_21 ?_
    refine g_iload_n (pc := 24) B dX12_steps_24 1 rfl ?_
    obtain ⟨c25, h⟩ := chk h
    refine gs_iald (pc := 25) B c25 dX12_steps_25 ?_
    refine g_goto (pc := 26) (tgt := 30) B dX12_steps_26 (by decide) ?_
    obtain rfl := Option.some.inj h
    exact g_ret_I (pc := 30) B rfl (by decide) (by decide) dX12_steps_30
set_option maxRecDepth 100000 in
set_option maxHeartbeats 4000000 in
theorem cb_X12_steps_L0 {D : DD} {ev : EV} {m z : Nat} {X0 : SM} {X : SM} {x1 : Int32} {r : Int32 × SM} (B : Amb D (foot (xS m X0 z)) ev RX12 "steps" cX12_steps 2 (some .int) rmX12_steps) (ht : Tb0 ev)  (h : fX12_steps X x1 = some r) : Gd D (foot (xS m X0 z)) ev (QF D ev (xS m X0 z) (.inr (some (vI r.1))) (xS m r.2 z) rmX12_steps) (xS m X z) 0 0 0 [(0, vA (some m)), (1, vI x1)] [] := by
  unfold fX12_steps at h
  refine g_aload_n (pc := 0) B dX12_steps_0 0 rfl ?_
  refine g_aload_n (pc := 1) B dX12_steps_1 0 rfl ?_
  refine g_iload_n (pc := 2) B dX12_steps_2 1 rfl ?_
  obtain ⟨v3, e3, h⟩ := ob h
  refine h_callV (pc := 3) (As := [vI x1]) (st := [vA (some m)]) (X' := (xS m X z)) (cs' := 0) (sl' := 0) (st10 := [vI v3, vA (some m)]) B cal_X12_isProgram kmX12_220 kn_X12_isProgram ks_X12_isProgram hkS (by decide) rfl (fun l hl => ct_X12_isProgram hl e3) rfl (Nat.le_of_ble_eq_true rfl) (by decide) (by decide) dX12_steps_3 rfl rfl rfl rfl ?_
  refine g_if_eq (pc := 6) (tgt := 13) B dX12_steps_6 (by decide) (fun c6 => ?_) (fun c6 => ?_)
  · rw [if_pos c6] at h
    refine g_iconst (pc := 13) B dX12_steps_13 (1 : Int32) (by decide) ?_
    refine g_sub (pc := 14) [0, 1] rfl ?_
    exact cb_X12_steps_L14 B ht h
  · rw [if_neg c6] at h
    refine g_iconst (pc := 9) B dX12_steps_9 (0 : Int32) (by decide) ?_
    refine g_goto (pc := 10) (tgt := 14) B dX12_steps_10 (by decide) ?_
    refine g_sub (pc := 14) [0, 1] rfl ?_
    exact cb_X12_steps_L14 B ht h
theorem ct_X12_steps {D : DD} {l : Launch} {m z : Nat} {X0 : SM} {x1 : Int32} {r : Int32 × SM} (hl : l.stackTraces = false) (h : fX12_steps X0 x1 = some r) : Ctr D l yX12_steps cX12_steps 2 (some .int) rmX12_steps [vA (some m), vI x1] (xS m X0 z) (.inr (some (vI r.1))) (xS m r.2 z) :=
  ctr_of hl (plainFor_of_name (by decide)) (Nat.le_of_ble_eq_true rfl) fun ev _ ht B => cb_X12_steps_L0 B ht h
set_option maxRecDepth 100000 in
set_option maxHeartbeats 4000000 in
theorem cb_X12_strokes_L14 {D : DD} {ev : EV} {m z : Nat} {X0 : SM} {X : SM} {x1 : Int32} {s1 : Int32} {r : Int32 × SM} (B : Amb D (foot (xS m X0 z)) ev RX12 "strokes" cX12_strokes 2 (some .int) rmX12_strokes) (ht : Tb0 ev)  (h : fX12_strokes_L14 X x1 s1 = some r) : Gd D (foot (xS m X0 z)) ev (QF D ev (xS m X0 z) (.inr (some (vI r.1))) (xS m r.2 z) rmX12_strokes) (xS m X z) 0 0 14 [(0, vA (some m)), (1, vI x1)] [vI s1, vA (some m)] := by
  unfold fX12_strokes_L14 at h
  obtain ⟨v14, X14, e14, h⟩ := obW h
  refine h_callV (pc := 14) (As := [vI s1]) (st := []) (X' := (xS m X14 z)) (cs' := 0) (sl' := 0) (st10 := [vI v14]) B cal_X12_holds kmX12_126 kn_X12_holds ks_X12_holds hkS (by decide) rfl (fun l hl => ct_X12_holds hl e14) rfl (Nat.le_of_ble_eq_true rfl) (by decide) (by decide) dX12_strokes_14 rfl rfl rfl rfl ?_
  refine g_if_eq (pc := 17) (tgt := 29) B dX12_strokes_17 (by decide) (fun c17 => ?_) (fun c17 => ?_)
  · rw [if_pos c17] at h
    refine g_iconst (pc := 29) B dX12_strokes_29 (0 : Int32) (by decide) ?_
    obtain rfl := Option.some.inj h
    exact g_ret_I (pc := 30) B rfl (by decide) (by decide) dX12_strokes_30
  · rw [if_neg c17] at h
    refine g_aload_n (pc := 20) B dX12_strokes_20 0 rfl ?_
    refine gs_arr (pc := 21) 17 12 B (by decide) (by decide) kfX12_47 dX12_strokes_21 ?_
    refine g_iload_n (pc := 24) B dX12_strokes_24 1 rfl ?_
    obtain ⟨c25, h⟩ := chk h
    refine gs_iald (pc := 25) B c25 dX12_strokes_25 ?_
    refine g_goto (pc := 26) (tgt := 30) B dX12_strokes_26 (by decide) ?_
    obtain rfl := Option.some.inj h
    exact g_ret_I (pc := 30) B rfl (by decide) (by decide) dX12_strokes_30
set_option maxRecDepth 100000 in
set_option maxHeartbeats 4000000 in
theorem cb_X12_strokes_L0 {D : DD} {ev : EV} {m z : Nat} {X0 : SM} {X : SM} {x1 : Int32} {r : Int32 × SM} (B : Amb D (foot (xS m X0 z)) ev RX12 "strokes" cX12_strokes 2 (some .int) rmX12_strokes) (ht : Tb0 ev)  (h : fX12_strokes X x1 = some r) : Gd D (foot (xS m X0 z)) ev (QF D ev (xS m X0 z) (.inr (some (vI r.1))) (xS m r.2 z) rmX12_strokes) (xS m X z) 0 0 0 [(0, vA (some m)), (1, vI x1)] [] := by
  unfold fX12_strokes at h
  refine g_aload_n (pc := 0) B dX12_strokes_0 0 rfl ?_
  refine g_aload_n (pc := 1) B dX12_strokes_1 0 rfl ?_
  refine g_iload_n (pc := 2) B dX12_strokes_2 1 rfl ?_
  obtain ⟨v3, e3, h⟩ := ob h
  refine h_callV (pc := 3) (As := [vI x1]) (st := [vA (some m)]) (X' := (xS m X z)) (cs' := 0) (sl' := 0) (st10 := [vI v3, vA (some m)]) B cal_X12_isProgram kmX12_220 kn_X12_isProgram ks_X12_isProgram hkS (by decide) rfl (fun l hl => ct_X12_isProgram hl e3) rfl (Nat.le_of_ble_eq_true rfl) (by decide) (by decide) dX12_strokes_3 rfl rfl rfl rfl ?_
  refine g_if_eq (pc := 6) (tgt := 13) B dX12_strokes_6 (by decide) (fun c6 => ?_) (fun c6 => ?_)
  · rw [if_pos c6] at h
    refine g_iconst (pc := 13) B dX12_strokes_13 (1 : Int32) (by decide) ?_
    refine g_sub (pc := 14) [0, 1] rfl ?_
    exact cb_X12_strokes_L14 B ht h
  · rw [if_neg c6] at h
    refine g_iconst (pc := 9) B dX12_strokes_9 (0 : Int32) (by decide) ?_
    refine g_goto (pc := 10) (tgt := 14) B dX12_strokes_10 (by decide) ?_
    refine g_sub (pc := 14) [0, 1] rfl ?_
    exact cb_X12_strokes_L14 B ht h
theorem ct_X12_strokes {D : DD} {l : Launch} {m z : Nat} {X0 : SM} {x1 : Int32} {r : Int32 × SM} (hl : l.stackTraces = false) (h : fX12_strokes X0 x1 = some r) : Ctr D l yX12_strokes cX12_strokes 2 (some .int) rmX12_strokes [vA (some m), vI x1] (xS m X0 z) (.inr (some (vI r.1))) (xS m r.2 z) :=
  ctr_of hl (plainFor_of_name (by decide)) (Nat.le_of_ble_eq_true rfl) fun ev _ ht B => cb_X12_strokes_L0 B ht h
set_option maxRecDepth 100000 in
set_option maxHeartbeats 4000000 in
theorem cb_X12_strokesBySteps_L29 {D : DD} {ev : EV} {m z : Nat} {X0 : SM} {fu : Nat} {X : SM} {x1 : Int32} {x2 : Int32} {s1 : Int32} {r : Int32 × SM} (B : Amb D (foot (xS m X0 z)) ev RX12 "strokesBySteps" cX12_strokesBySteps 3 (some .int) rmX12_strokesBySteps) (ht : Tb0 ev)  (h : fX12_strokesBySteps_L29 fu X x1 x2 s1 = some r) : Gd D (foot (xS m X0 z)) ev (QF D ev (xS m X0 z) (.inr (some (vI r.1))) (xS m r.2 z) rmX12_strokesBySteps) (xS m X z) 0 0 29 [(0, vA (some m)), (1, vI x1), (2, vI x2)] [vI s1, vA (some m)] := by
  unfold fX12_strokesBySteps_L29 at h
  obtain ⟨v29, X29, e29, h⟩ := obW h
  refine h_callV (pc := 29) (As := [vI s1]) (st := []) (X' := (xS m X29 z)) (cs' := 0) (sl' := 0) (st10 := [vI v29]) B cal_X12_holds kmX12_126 kn_X12_holds ks_X12_holds hkS (by decide) rfl (fun l hl => ct_X12_holds hl e29) rfl (Nat.le_of_ble_eq_true rfl) (by decide) (by decide) dX12_strokesBySteps_29 rfl rfl rfl rfl ?_
  refine g_if_ne (pc := 32) (tgt := 37) B dX12_strokesBySteps_32 (by decide) (fun c32 => ?_) (fun c32 => ?_)
  · rw [if_neg c32] at h
    refine g_aload_n (pc := 37) B dX12_strokesBySteps_37 0 rfl ?_
    refine g_iload_n (pc := 38) B dX12_strokesBySteps_38 1 rfl ?_
    obtain ⟨X39, e39, h⟩ := ob h
    refine h_callV (pc := 39) (As := [vI x1]) (st := []) (X' := (xS m X39 z)) (cs' := 0) (sl' := 0) (st10 := []) B cal_X12_runs kmX12_150 kn_X12_runs ks_X12_runs hkS (by decide) rfl (fun l hl => ct_X12_runs hl e39) rfl (Nat.le_of_ble_eq_true rfl) (by decide) (by decide) dX12_strokesBySteps_39 rfl rfl rfl rfl ?_
    refine g_aload_n (pc := 42) B dX12_strokesBySteps_42 0 rfl ?_
    refine gs_arr (pc := 43) 32 18 B (by decide) (by decide) kfX12_65 dX12_strokesBySteps_43 ?_
    refine g_iload_n (pc := 46) B dX12_strokesBySteps_46 2 rfl ?_
    refine g_aload_n (pc := 47) B dX12_strokesBySteps_47 0 rfl ?_
    refine gs_get (pc := 48) 25 B (by decide) (by decide) kfX12_157 dX12_strokesBySteps_48 ?_
    refine g_icmp_ge (pc := 51) (tgt := 58) B dX12_strokesBySteps_51 (by decide) (fun c51 => ?_) (fun c51 => ?_)
    · rw [if_pos c51] at h
      refine g_aload_n (pc := 58) B dX12_strokesBySteps_58 0 rfl ?_
      refine gs_get (pc := 59) 25 B (by decide) (by decide) kfX12_157 dX12_strokesBySteps_59 ?_
      obtain ⟨c62, h⟩ := chk h
      refine gs_iald (pc := 62) B c62 dX12_strokesBySteps_62 ?_
      obtain rfl := Option.some.inj h
      exact g_ret_I (pc := 63) B rfl (by decide) (by decide) dX12_strokesBySteps_63
    · rw [if_neg c51] at h
      refine g_iload_n (pc := 54) B dX12_strokesBySteps_54 2 rfl ?_
      refine g_goto (pc := 55) (tgt := 62) B dX12_strokesBySteps_55 (by decide) ?_
      obtain ⟨c62, h⟩ := chk h
      refine gs_iald (pc := 62) B c62 dX12_strokesBySteps_62 ?_
      obtain rfl := Option.some.inj h
      exact g_ret_I (pc := 63) B rfl (by decide) (by decide) dX12_strokesBySteps_63
  · rw [if_pos c32] at h
    refine g_iconst (pc := 35) B dX12_strokesBySteps_35 (0 : Int32) (by decide) ?_
    obtain rfl := Option.some.inj h
    exact g_ret_I (pc := 36) B rfl (by decide) (by decide) dX12_strokesBySteps_36
set_option maxRecDepth 100000 in
set_option maxHeartbeats 4000000 in
theorem cb_X12_strokesBySteps_L0 {D : DD} {ev : EV} {m z : Nat} {X0 : SM} {fu : Nat} {X : SM} {x1 : Int32} {x2 : Int32} {r : Int32 × SM} (B : Amb D (foot (xS m X0 z)) ev RX12 "strokesBySteps" cX12_strokesBySteps 3 (some .int) rmX12_strokesBySteps) (ht : Tb0 ev)  (h : fX12_strokesBySteps fu X x1 x2 = some r) : Gd D (foot (xS m X0 z)) ev (QF D ev (xS m X0 z) (.inr (some (vI r.1))) (xS m r.2 z) rmX12_strokesBySteps) (xS m X z) 0 0 0 [(0, vA (some m)), (1, vI x1), (2, vI x2)] [] := by
  unfold fX12_strokesBySteps at h
  refine g_aload_n (pc := 0) B dX12_strokesBySteps_0 0 rfl ?_
  refine g_aload_n (pc := 1) B dX12_strokesBySteps_1 0 rfl ?_
  refine g_iload_n (pc := 2) B dX12_strokesBySteps_2 1 rfl ?_
  obtain ⟨v3, e3, h⟩ := ob h
  refine h_callV (pc := 3) (As := [vI x1]) (st := [vA (some m)]) (X' := (xS m X z)) (cs' := 0) (sl' := 0) (st10 := [vI v3, vA (some m)]) B cal_X12_isProgram kmX12_220 kn_X12_isProgram ks_X12_isProgram hkS (by decide) rfl (fun l hl => ct_X12_isProgram hl e3) rfl (Nat.le_of_ble_eq_true rfl) (by decide) (by decide) dX12_strokesBySteps_3 rfl rfl rfl rfl ?_
  refine g_if_ne (pc := 6) (tgt := 13) B dX12_strokesBySteps_6 (by decide) (fun c6 => ?_) (fun c6 => ?_)
  · rw [if_neg c6] at h
    refine g_iload_n (pc := 13) B dX12_strokesBySteps_13 2 rfl ?_
    refine g_iconst (pc := 14) B dX12_strokesBySteps_14 (0 : Int32) (by decide) ?_
    refine g_sipush (pc := 15) B dX12_strokesBySteps_15 (600 : Int32) (by decide) ?_
    obtain ⟨v18, e18, h⟩ := ob h
    refine h_callS (pc := 18) (As := [vI x2, vI (0 : Int32), vI (600 : Int32)]) (st := [vA (some m)]) (X' := (xS m X z)) (cs' := 0) (sl' := 0) (st10 := [vI v18, vA (some m)]) B cal_X12_isIn kmX12_115 kz_X12_isIn (fun l hl => ct_X12_isIn hl e18) rfl (Nat.le_of_ble_eq_true rfl) (by decide) (by decide) dX12_strokesBySteps_18 rfl rfl rfl rfl ?_
    refine g_if_eq (pc := 21) (tgt := 28) B dX12_strokesBySteps_21 (by decide) (fun c21 => ?_) (fun c21 => ?_)
    · rw [if_pos c21] at h
      refine g_iconst (pc := 28) B dX12_strokesBySteps_28 (2 : Int32) (by decide) ?_
      refine g_sub (pc := 29) [0, 1, 2] rfl ?_
      exact cb_X12_strokesBySteps_L29 B ht h
    · rw [if_neg c21] at h
      refine g_iconst (pc := 24) B dX12_strokesBySteps_24 (0 : Int32) (by decide) ?_
      refine g_goto (pc := 25) (tgt := 29) B dX12_strokesBySteps_25 (by decide) ?_
      refine g_sub (pc := 29) [0, 1, 2] rfl ?_
      exact cb_X12_strokesBySteps_L29 B ht h
  · rw [if_pos c6] at h
    refine g_iconst (pc := 9) B dX12_strokesBySteps_9 (1 : Int32) (by decide) ?_
    refine g_goto (pc := 10) (tgt := 29) B dX12_strokesBySteps_10 (by decide) ?_
    refine g_sub (pc := 29) [0, 1, 2] rfl ?_
    exact cb_X12_strokesBySteps_L29 B ht h
theorem ct_X12_strokesBySteps {D : DD} {l : Launch} {m z : Nat} {X0 : SM} {fu : Nat} {x1 : Int32} {x2 : Int32} {r : Int32 × SM} (hl : l.stackTraces = false) (h : fX12_strokesBySteps fu X0 x1 x2 = some r) : Ctr D l yX12_strokesBySteps cX12_strokesBySteps 3 (some .int) rmX12_strokesBySteps [vA (some m), vI x1, vI x2] (xS m X0 z) (.inr (some (vI r.1))) (xS m r.2 z) :=
  ctr_of hl (plainFor_of_name (by decide)) (Nat.le_of_ble_eq_true rfl) fun ev _ ht B => cb_X12_strokesBySteps_L0 B ht h
set_option maxRecDepth 100000 in
set_option maxHeartbeats 4000000 in
theorem cb_X12_isDrawn_L60 {D : DD} {ev : EV} {m z : Nat} {X0 : SM} {X : SM} {x2 : Int32} {s0 : Int32} {r : Int32 × SM} (B : Amb D (foot (xS m X0 z)) ev RX12 "isDrawn" cX12_isDrawn 6 (some .boolean) rmX12_isDrawn) (ht : Tb0 ev)  (h : fX12_isDrawn_L60 X x2 s0 = some r) : Gd D (foot (xS m X0 z)) ev (QF D ev (xS m X0 z) (.inr (some (vI r.1))) (xS m r.2 z) rmX12_isDrawn) (xS m X z) 0 0 60 [(2, vI x2)] [vI s0] := by
  unfold fX12_isDrawn_L60 at h
  refine g_iload_n (pc := 60) B dX12_isDrawn_60 0 rfl ?_
  refine g_ishr (pc := 61) B dX12_isDrawn_61 ?_
  refine g_iconst (pc := 62) B dX12_isDrawn_62 (1 : Int32) (by decide) ?_
  refine g_iand (pc := 63) B dX12_isDrawn_63 ?_
  refine g_iconst (pc := 64) B dX12_isDrawn_64 (1 : Int32) (by decide) ?_
  refine g_icmp_ne (pc := 65) (tgt := 72) B dX12_isDrawn_65 (by decide) (fun c65 => ?_) (fun c65 => ?_)
  · rw [if_neg c65] at h
    refine g_iconst (pc := 72) B dX12_isDrawn_72 (0 : Int32) (by decide) ?_
    obtain rfl := Option.some.inj h
    exact g_ret_Z (pc := 73) B rfl (Or.inl rfl) (by decide) (by decide) dX12_isDrawn_73
  · rw [if_pos c65] at h
    refine g_iconst (pc := 68) B dX12_isDrawn_68 (1 : Int32) (by decide) ?_
    refine g_goto (pc := 69) (tgt := 73) B dX12_isDrawn_69 (by decide) ?_
    obtain rfl := Option.some.inj h
    exact g_ret_Z (pc := 73) B rfl (Or.inr rfl) (by decide) (by decide) dX12_isDrawn_73
set_option maxRecDepth 100000 in
set_option maxHeartbeats 4000000 in
theorem cb_X12_isDrawn_L22 {D : DD} {ev : EV} {m z : Nat} {X0 : SM} {X : SM} {x1 : Int32} {x2 : Int32} {x3 : Int32} {x4 : Int32} {s1 : Int32} {r : Int32 × SM} (B : Amb D (foot (xS m X0 z)) ev RX12 "isDrawn" cX12_isDrawn 6 (some .boolean) rmX12_isDrawn) (ht : Tb0 ev)  (h : fX12_isDrawn_L22 X x1 x2 x3 x4 s1 = some r) : Gd D (foot (xS m X0 z)) ev (QF D ev (xS m X0 z) (.inr (some (vI r.1))) (xS m r.2 z) rmX12_isDrawn) (xS m X z) 0 0 22 [(0, vA (some m)), (1, vI x1), (2, vI x2), (3, vI x3), (4, vI x4)] [vI s1, vA (some m)] := by
  unfold fX12_isDrawn_L22 at h
  obtain ⟨v22, X22, e22, h⟩ := obW h
  refine h_callV (pc := 22) (As := [vI s1]) (st := []) (X' := (xS m X22 z)) (cs' := 0) (sl' := 0) (st10 := [vI v22]) B cal_X12_holds kmX12_126 kn_X12_holds ks_X12_holds hkS (by decide) rfl (fun l hl => ct_X12_holds hl e22) rfl (Nat.le_of_ble_eq_true rfl) (by decide) (by decide) dX12_isDrawn_22 rfl rfl rfl rfl ?_
  refine g_if_ne (pc := 25) (tgt := 30) B dX12_isDrawn_25 (by decide) (fun c25 => ?_) (fun c25 => ?_)
  · rw [if_neg c25] at h
    refine g_bipush (pc := 30) B dX12_isDrawn_30 (16 : Int32) (by decide) ?_
    refine g_iload_n (pc := 32) B dX12_isDrawn_32 1 rfl ?_
    refine g_imul (pc := 33) B dX12_isDrawn_33 ?_
    refine g_iload_n (pc := 34) B dX12_isDrawn_34 3 rfl ?_
    refine g_iadd (pc := 35) B dX12_isDrawn_35 ?_
    refine g_istore (pc := 36) (L' := [(5, vI (((16 : Int32) * x1) + x3)), (0, vA (some m)), (1, vI x1), (2, vI x2), (3, vI x3), (4, vI x4)]) B dX12_isDrawn_36 (by decide) rfl ?_
    refine g_iload (pc := 38) B dX12_isDrawn_38 5 rfl ?_
    refine g_if_eq (pc := 40) (tgt := 53) B dX12_isDrawn_40 (by decide) (fun c40 => ?_) (fun c40 => ?_)
    · rw [if_pos c40] at h
      refine g_aload_n (pc := 53) B dX12_isDrawn_53 1 rfl ?_
      refine gs_arr (pc := 54) 18 13 B (by decide) (by decide) kfX12_50 dX12_isDrawn_54 ?_
      refine g_iload (pc := 57) B dX12_isDrawn_57 0 rfl ?_
      obtain ⟨c59, h⟩ := chk h
      refine gs_iald (pc := 59) B c59 dX12_isDrawn_59 ?_
      refine g_sub (pc := 60) [3] rfl ?_
      exact cb_X12_isDrawn_L60 B ht h
    · rw [if_neg c40] at h
      refine g_aload_n (pc := 43) B dX12_isDrawn_43 1 rfl ?_
      refine gs_arr (pc := 44) 19 14 B (by decide) (by decide) kfX12_53 dX12_isDrawn_44 ?_
      refine g_iload (pc := 47) B dX12_isDrawn_47 0 rfl ?_
      obtain ⟨c49, h⟩ := chk h
      refine gs_iald (pc := 49) B c49 dX12_isDrawn_49 ?_
      refine g_goto (pc := 50) (tgt := 60) B dX12_isDrawn_50 (by decide) ?_
      refine g_sub (pc := 60) [3] rfl ?_
      exact cb_X12_isDrawn_L60 B ht h
  · rw [if_pos c25] at h
    refine g_iconst (pc := 28) B dX12_isDrawn_28 (0 : Int32) (by decide) ?_
    obtain rfl := Option.some.inj h
    exact g_ret_Z (pc := 29) B rfl (Or.inl rfl) (by decide) (by decide) dX12_isDrawn_29
set_option maxRecDepth 100000 in
set_option maxHeartbeats 4000000 in
theorem cb_X12_isDrawn_L21 {D : DD} {ev : EV} {m z : Nat} {X0 : SM} {X : SM} {x1 : Int32} {x2 : Int32} {x3 : Int32} {x4 : Int32} {r : Int32 × SM} (B : Amb D (foot (xS m X0 z)) ev RX12 "isDrawn" cX12_isDrawn 6 (some .boolean) rmX12_isDrawn) (ht : Tb0 ev)  (h : fX12_isDrawn_L21 X x1 x2 x3 x4 = some r) : Gd D (foot (xS m X0 z)) ev (QF D ev (xS m X0 z) (.inr (some (vI r.1))) (xS m r.2 z) rmX12_isDrawn) (xS m X z) 0 0 21 [(0, vA (some m)), (1, vI x1), (2, vI x2), (3, vI x3), (4, vI x4)] [vA (some m)] := by
  unfold fX12_isDrawn_L21 at h
  refine g_iconst (pc := 21) B dX12_isDrawn_21 (1 : Int32) (by decide) ?_
  refine g_sub (pc := 22) [0, 1, 2, 3, 4] rfl ?_
  exact cb_X12_isDrawn_L22 B ht h
set_option maxRecDepth 100000 in
set_option maxHeartbeats 4000000 in
theorem cb_X12_isDrawn_L0 {D : DD} {ev : EV} {m z : Nat} {X0 : SM} {X : SM} {x1 : Int32} {x2 : Int32} {x3 : Int32} {x4 : Int32} {r : Int32 × SM} (B : Amb D (foot (xS m X0 z)) ev RX12 "isDrawn" cX12_isDrawn 6 (some .boolean) rmX12_isDrawn) (ht : Tb0 ev)  (h : fX12_isDrawn X x1 x2 x3 x4 = some r) : Gd D (foot (xS m X0 z)) ev (QF D ev (xS m X0 z) (.inr (some (vI r.1))) (xS m r.2 z) rmX12_isDrawn) (xS m X z) 0 0 0 [(0, vA (some m)), (1, vI x1), (2, vI x2), (3, vI x3), (4, vI x4)] [] := by
  unfold fX12_isDrawn at h
  refine g_aload_n (pc := 0) B dX12_isDrawn_0 0 rfl ?_
  refine g_aload_n (pc := 1) B dX12_isDrawn_1 0 rfl ?_
  refine g_iload_n (pc := 2) B dX12_isDrawn_2 1 rfl ?_
  obtain ⟨v3, e3, h⟩ := ob h
  refine h_callV (pc := 3) (As := [vI x1]) (st := [vA (some m)]) (X' := (xS m X z)) (cs' := 0) (sl' := 0) (st10 := [vI v3, vA (some m)]) B cal_X12_isProgram kmX12_220 kn_X12_isProgram ks_X12_isProgram hkS (by decide) rfl (fun l hl => ct_X12_isProgram hl e3) rfl (Nat.le_of_ble_eq_true rfl) (by decide) (by decide) dX12_isDrawn_3 rfl rfl rfl rfl ?_
  refine g_if_eq (pc := 6) (tgt := 21) B dX12_isDrawn_6 (by decide) (fun c6 => ?_) (fun c6 => ?_)
  · rw [if_pos c6] at h
    refine g_sub (pc := 21) [0, 1, 2, 3, 4] rfl ?_
    exact cb_X12_isDrawn_L21 B ht h
  · rw [if_neg c6] at h
    refine g_iload_n (pc := 9) B dX12_isDrawn_9 2 rfl ?_
    refine g_iload_n (pc := 10) B dX12_isDrawn_10 3 rfl ?_
    obtain ⟨v11, e11, h⟩ := ob h
    refine h_callS (pc := 11) (As := [vI x2, vI x3]) (st := [vA (some m)]) (X' := (xS m X z)) (cs' := 0) (sl' := 0) (st10 := [vI v11, vA (some m)]) B cal_X12_isOn kmX12_169 kz_X12_isOn (fun l hl => ct_X12_isOn hl e11) rfl (Nat.le_of_ble_eq_true rfl) (by decide) (by decide) dX12_isDrawn_11 rfl rfl rfl rfl ?_
    refine g_if_eq (pc := 14) (tgt := 21) B dX12_isDrawn_14 (by decide) (fun c14 => ?_) (fun c14 => ?_)
    · rw [if_pos c14] at h
      refine g_sub (pc := 21) [0, 1, 2, 3, 4] rfl ?_
      exact cb_X12_isDrawn_L21 B ht h
    · rw [if_neg c14] at h
      refine g_iconst (pc := 17) B dX12_isDrawn_17 (0 : Int32) (by decide) ?_
      refine g_goto (pc := 18) (tgt := 22) B dX12_isDrawn_18 (by decide) ?_
      refine g_sub (pc := 22) [0, 1, 2, 3, 4] rfl ?_
      exact cb_X12_isDrawn_L22 B ht h
theorem ct_X12_isDrawn {D : DD} {l : Launch} {m z : Nat} {X0 : SM} {x1 : Int32} {x2 : Int32} {x3 : Int32} {x4 : Int32} {r : Int32 × SM} (hl : l.stackTraces = false) (h : fX12_isDrawn X0 x1 x2 x3 x4 = some r) : Ctr D l yX12_isDrawn cX12_isDrawn 6 (some .boolean) rmX12_isDrawn [vA (some m), vI x1, vI x2, vI x3, vI x4] (xS m X0 z) (.inr (some (vI r.1))) (xS m r.2 z) :=
  ctr_of hl (plainFor_of_name (by decide)) (Nat.le_of_ble_eq_true rfl) fun ev _ ht B => cb_X12_isDrawn_L0 B ht h
set_option maxRecDepth 100000 in
set_option maxHeartbeats 4000000 in
theorem cb_X12_areTwo_L22 {D : DD} {ev : EV} {m z : Nat} {X0 : SM} {X : SM} {s1 : Int32} {r : Int32 × SM} (B : Amb D (foot (xS m X0 z)) ev RX12 "areTwo" cX12_areTwo 3 (some .boolean) rmX12_areTwo) (ht : Tb0 ev)  (h : fX12_areTwo_L22 X s1 = some r) : Gd D (foot (xS m X0 z)) ev (QF D ev (xS m X0 z) (.inr (some (vI r.1))) (xS m r.2 z) rmX12_areTwo) (xS m X z) 0 0 22 [] [vI s1, vA (some m)] := by
  unfold fX12_areTwo_L22 at h
  obtain ⟨v22, X22, e22, h⟩ := obW h
  refine h_callV (pc := 22) (As := [vI s1]) (st := []) (X' := (xS m X22 z)) (cs' := 0) (sl' := 0) (st10 := [vI v22]) B cal_X12_holds kmX12_126 kn_X12_holds ks_X12_holds hkS (by decide) rfl (fun l hl => ct_X12_holds hl e22) rfl (Nat.le_of_ble_eq_true rfl) (by decide) (by decide) dX12_areTwo_22 rfl rfl rfl rfl ?_
  obtain ⟨z25, h⟩ := chk h
  obtain rfl := Option.some.inj h
  exact g_ret_Z (pc := 25) B rfl z25 (by decide) (by decide) dX12_areTwo_25
set_option maxRecDepth 100000 in
set_option maxHeartbeats 4000000 in
theorem cb_X12_areTwo_L21 {D : DD} {ev : EV} {m z : Nat} {X0 : SM} {X : SM}  {r : Int32 × SM} (B : Amb D (foot (xS m X0 z)) ev RX12 "areTwo" cX12_areTwo 3 (some .boolean) rmX12_areTwo) (ht : Tb0 ev)  (h : fX12_areTwo_L21 X = some r) : Gd D (foot (xS m X0 z)) ev (QF D ev (xS m X0 z) (.inr (some (vI r.1))) (xS m r.2 z) rmX12_areTwo) (xS m X z) 0 0 21 [] [vA (some m)] := by
  unfold fX12_areTwo_L21 at h
  refine g_iconst (pc := 21) B dX12_areTwo_21 (1 : Int32) (by decide) ?_
  refine g_sub (pc := 22) [] rfl ?_
  exact cb_X12_areTwo_L22 B ht h
set_option maxRecDepth 100000 in
set_option maxHeartbeats 4000000 in
theorem cb_X12_areTwo_L0 {D : DD} {ev : EV} {m z : Nat} {X0 : SM} {X : SM} {x1 : Int32} {x2 : Int32} {r : Int32 × SM} (B : Amb D (foot (xS m X0 z)) ev RX12 "areTwo" cX12_areTwo 3 (some .boolean) rmX12_areTwo) (ht : Tb0 ev)  (h : fX12_areTwo X x1 x2 = some r) : Gd D (foot (xS m X0 z)) ev (QF D ev (xS m X0 z) (.inr (some (vI r.1))) (xS m r.2 z) rmX12_areTwo) (xS m X z) 0 0 0 [(0, vA (some m)), (1, vI x1), (2, vI x2)] [] := by
  unfold fX12_areTwo at h
  refine g_aload_n (pc := 0) B dX12_areTwo_0 0 rfl ?_
  refine g_aload_n (pc := 1) B dX12_areTwo_1 0 rfl ?_
  refine g_iload_n (pc := 2) B dX12_areTwo_2 1 rfl ?_
  obtain ⟨v3, e3, h⟩ := ob h
  refine h_callV (pc := 3) (As := [vI x1]) (st := [vA (some m)]) (X' := (xS m X z)) (cs' := 0) (sl' := 0) (st10 := [vI v3, vA (some m)]) B cal_X12_isProgram kmX12_220 kn_X12_isProgram ks_X12_isProgram hkS (by decide) rfl (fun l hl => ct_X12_isProgram hl e3) rfl (Nat.le_of_ble_eq_true rfl) (by decide) (by decide) dX12_areTwo_3 rfl rfl rfl rfl ?_
  refine g_if_eq (pc := 6) (tgt := 21) B dX12_areTwo_6 (by decide) (fun c6 => ?_) (fun c6 => ?_)
  · rw [if_pos c6] at h
    refine g_sub (pc := 21) [] rfl ?_
    exact cb_X12_areTwo_L21 B ht h
  · rw [if_neg c6] at h
    refine g_aload_n (pc := 9) B dX12_areTwo_9 0 rfl ?_
    refine g_iload_n (pc := 10) B dX12_areTwo_10 2 rfl ?_
    obtain ⟨v11, e11, h⟩ := ob h
    refine h_callV (pc := 11) (As := [vI x2]) (st := [vA (some m)]) (X' := (xS m X z)) (cs' := 0) (sl' := 0) (st10 := [vI v11, vA (some m)]) B cal_X12_isProgram kmX12_220 kn_X12_isProgram ks_X12_isProgram hkS (by decide) rfl (fun l hl => ct_X12_isProgram hl e11) rfl (Nat.le_of_ble_eq_true rfl) (by decide) (by decide) dX12_areTwo_11 rfl rfl rfl rfl ?_
    refine g_if_eq (pc := 14) (tgt := 21) B dX12_areTwo_14 (by decide) (fun c14 => ?_) (fun c14 => ?_)
    · rw [if_pos c14] at h
      refine g_sub (pc := 21) [] rfl ?_
      exact cb_X12_areTwo_L21 B ht h
    · rw [if_neg c14] at h
      refine g_iconst (pc := 17) B dX12_areTwo_17 (0 : Int32) (by decide) ?_
      refine g_goto (pc := 18) (tgt := 22) B dX12_areTwo_18 (by decide) ?_
      refine g_sub (pc := 22) [] rfl ?_
      exact cb_X12_areTwo_L22 B ht h
theorem ct_X12_areTwo {D : DD} {l : Launch} {m z : Nat} {X0 : SM} {x1 : Int32} {x2 : Int32} {r : Int32 × SM} (hl : l.stackTraces = false) (h : fX12_areTwo X0 x1 x2 = some r) : Ctr D l yX12_areTwo cX12_areTwo 3 (some .boolean) rmX12_areTwo [vA (some m), vI x1, vI x2] (xS m X0 z) (.inr (some (vI r.1))) (xS m r.2 z) :=
  ctr_of hl (plainFor_of_name (by decide)) (Nat.le_of_ble_eq_true rfl) fun ev _ ht B => cb_X12_areTwo_L0 B ht h
set_option maxRecDepth 100000 in
set_option maxHeartbeats 4000000 in
theorem cb_X12_areAlike_L0 {D : DD} {ev : EV} {m z : Nat} {X0 : SM} {fu : Nat} {X : SM} {x1 : Int32} {x2 : Int32} {r : Int32 × SM} (B : Amb D (foot (xS m X0 z)) ev RX12 "areAlike" cX12_areAlike 3 (some .boolean) rmX12_areAlike) (ht : Tb0 ev)  (h : fX12_areAlike fu X x1 x2 = some r) : Gd D (foot (xS m X0 z)) ev (QF D ev (xS m X0 z) (.inr (some (vI r.1))) (xS m r.2 z) rmX12_areAlike) (xS m X z) 0 0 0 [(0, vA (some m)), (1, vI x1), (2, vI x2)] [] := by
  unfold fX12_areAlike at h
  refine g_aload_n (pc := 0) B dX12_areAlike_0 0 rfl ?_
  refine g_iload_n (pc := 1) B dX12_areAlike_1 1 rfl ?_
  refine g_iload_n (pc := 2) B dX12_areAlike_2 2 rfl ?_
  obtain ⟨v3, X3, e3, h⟩ := obW h
  refine h_callV (pc := 3) (As := [vI x1, vI x2]) (st := []) (X' := (xS m X3 z)) (cs' := 0) (sl' := 0) (st10 := [vI v3]) B cal_X12_areTwo kmX12_275 kn_X12_areTwo ks_X12_areTwo hkS (by decide) rfl (fun l hl => ct_X12_areTwo hl e3) rfl (Nat.le_of_ble_eq_true rfl) (by decide) (by decide) dX12_areAlike_3 rfl rfl rfl rfl ?_
  refine g_if_eq (pc := 6) (tgt := 22) B dX12_areAlike_6 (by decide) (fun c6 => ?_) (fun c6 => ?_)
  · rw [if_pos c6] at h
    refine g_iconst (pc := 22) B dX12_areAlike_22 (0 : Int32) (by decide) ?_
    obtain rfl := Option.some.inj h
    exact g_ret_Z (pc := 23) B rfl (Or.inl rfl) (by decide) (by decide) dX12_areAlike_23
  · rw [if_neg c6] at h
    refine g_aload_n (pc := 9) B dX12_areAlike_9 0 rfl ?_
    refine g_iload_n (pc := 10) B dX12_areAlike_10 1 rfl ?_
    refine g_iload_n (pc := 11) B dX12_areAlike_11 2 rfl ?_
    obtain ⟨v12, e12, h⟩ := ob h
    refine h_callV (pc := 12) (As := [vI x1, vI x2]) (st := []) (X' := (xS m X3 z)) (cs' := 0) (sl' := 0) (st10 := [vI v12]) B cal_X12_alike kmX12_255 kn_X12_alike ks_X12_alike hkS (by decide) rfl (fun l hl => ct_X12_alike hl e12) rfl (Nat.le_of_ble_eq_true rfl) (by decide) (by decide) dX12_areAlike_12 rfl rfl rfl rfl ?_
    refine g_if_eq (pc := 15) (tgt := 22) B dX12_areAlike_15 (by decide) (fun c15 => ?_) (fun c15 => ?_)
    · rw [if_pos c15] at h
      refine g_iconst (pc := 22) B dX12_areAlike_22 (0 : Int32) (by decide) ?_
      obtain rfl := Option.some.inj h
      exact g_ret_Z (pc := 23) B rfl (Or.inl rfl) (by decide) (by decide) dX12_areAlike_23
    · rw [if_neg c15] at h
      refine g_iconst (pc := 18) B dX12_areAlike_18 (1 : Int32) (by decide) ?_
      refine g_goto (pc := 19) (tgt := 23) B dX12_areAlike_19 (by decide) ?_
      obtain rfl := Option.some.inj h
      exact g_ret_Z (pc := 23) B rfl (Or.inr rfl) (by decide) (by decide) dX12_areAlike_23
theorem ct_X12_areAlike {D : DD} {l : Launch} {m z : Nat} {X0 : SM} {fu : Nat} {x1 : Int32} {x2 : Int32} {r : Int32 × SM} (hl : l.stackTraces = false) (h : fX12_areAlike fu X0 x1 x2 = some r) : Ctr D l yX12_areAlike cX12_areAlike 3 (some .boolean) rmX12_areAlike [vA (some m), vI x1, vI x2] (xS m X0 z) (.inr (some (vI r.1))) (xS m r.2 z) :=
  ctr_of hl (plainFor_of_name (by decide)) (Nat.le_of_ble_eq_true rfl) fun ev _ ht B => cb_X12_areAlike_L0 B ht h
set_option maxRecDepth 100000 in
set_option maxHeartbeats 4000000 in
theorem cb_X12_haveOneForm_L0 {D : DD} {ev : EV} {m z : Nat} {X0 : SM} {fu : Nat} {X : SM} {x1 : Int32} {x2 : Int32} {r : Int32 × SM} (B : Amb D (foot (xS m X0 z)) ev RX12 "haveOneForm" cX12_haveOneForm 3 (some .boolean) rmX12_haveOneForm) (ht : Tb0 ev)  (h : fX12_haveOneForm fu X x1 x2 = some r) : Gd D (foot (xS m X0 z)) ev (QF D ev (xS m X0 z) (.inr (some (vI r.1))) (xS m r.2 z) rmX12_haveOneForm) (xS m X z) 0 0 0 [(0, vA (some m)), (1, vI x1), (2, vI x2)] [] := by
  unfold fX12_haveOneForm at h
  refine g_aload_n (pc := 0) B dX12_haveOneForm_0 0 rfl ?_
  refine g_iload_n (pc := 1) B dX12_haveOneForm_1 1 rfl ?_
  refine g_iload_n (pc := 2) B dX12_haveOneForm_2 2 rfl ?_
  obtain ⟨v3, X3, e3, h⟩ := obW h
  refine h_callV (pc := 3) (As := [vI x1, vI x2]) (st := []) (X' := (xS m X3 z)) (cs' := 0) (sl' := 0) (st10 := [vI v3]) B cal_X12_areTwo kmX12_275 kn_X12_areTwo ks_X12_areTwo hkS (by decide) rfl (fun l hl => ct_X12_areTwo hl e3) rfl (Nat.le_of_ble_eq_true rfl) (by decide) (by decide) dX12_haveOneForm_3 rfl rfl rfl rfl ?_
  refine g_if_eq (pc := 6) (tgt := 22) B dX12_haveOneForm_6 (by decide) (fun c6 => ?_) (fun c6 => ?_)
  · rw [if_pos c6] at h
    refine g_iconst (pc := 22) B dX12_haveOneForm_22 (0 : Int32) (by decide) ?_
    obtain rfl := Option.some.inj h
    exact g_ret_Z (pc := 23) B rfl (Or.inl rfl) (by decide) (by decide) dX12_haveOneForm_23
  · rw [if_neg c6] at h
    refine g_aload_n (pc := 9) B dX12_haveOneForm_9 0 rfl ?_
    refine g_iload_n (pc := 10) B dX12_haveOneForm_10 1 rfl ?_
    refine g_iload_n (pc := 11) B dX12_haveOneForm_11 2 rfl ?_
    obtain ⟨v12, X12, e12, h⟩ := obW h
    refine h_callV (pc := 12) (As := [vI x1, vI x2]) (st := []) (X' := (xS m X12 z)) (cs' := 0) (sl' := 0) (st10 := [vI v12]) B cal_X12_oneForm kmX12_258 kn_X12_oneForm ks_X12_oneForm hkS (by decide) rfl (fun l hl => ct_X12_oneForm hl e12) rfl (Nat.le_of_ble_eq_true rfl) (by decide) (by decide) dX12_haveOneForm_12 rfl rfl rfl rfl ?_
    refine g_if_eq (pc := 15) (tgt := 22) B dX12_haveOneForm_15 (by decide) (fun c15 => ?_) (fun c15 => ?_)
    · rw [if_pos c15] at h
      refine g_iconst (pc := 22) B dX12_haveOneForm_22 (0 : Int32) (by decide) ?_
      obtain rfl := Option.some.inj h
      exact g_ret_Z (pc := 23) B rfl (Or.inl rfl) (by decide) (by decide) dX12_haveOneForm_23
    · rw [if_neg c15] at h
      refine g_iconst (pc := 18) B dX12_haveOneForm_18 (1 : Int32) (by decide) ?_
      refine g_goto (pc := 19) (tgt := 23) B dX12_haveOneForm_19 (by decide) ?_
      obtain rfl := Option.some.inj h
      exact g_ret_Z (pc := 23) B rfl (Or.inr rfl) (by decide) (by decide) dX12_haveOneForm_23
theorem ct_X12_haveOneForm {D : DD} {l : Launch} {m z : Nat} {X0 : SM} {fu : Nat} {x1 : Int32} {x2 : Int32} {r : Int32 × SM} (hl : l.stackTraces = false) (h : fX12_haveOneForm fu X0 x1 x2 = some r) : Ctr D l yX12_haveOneForm cX12_haveOneForm 3 (some .boolean) rmX12_haveOneForm [vA (some m), vI x1, vI x2] (xS m X0 z) (.inr (some (vI r.1))) (xS m r.2 z) :=
  ctr_of hl (plainFor_of_name (by decide)) (Nat.le_of_ble_eq_true rfl) fun ev _ ht B => cb_X12_haveOneForm_L0 B ht h
set_option maxRecDepth 100000 in
set_option maxHeartbeats 4000000 in
theorem cb_X12_likeness_L0 {D : DD} {ev : EV} {m z : Nat} {X0 : SM} {fu : Nat} {X : SM} {x1 : Int32} {x2 : Int32} {r : Int32 × SM} (B : Amb D (foot (xS m X0 z)) ev RX12 "likeness" cX12_likeness 3 (some .int) rmX12_likeness) (ht : Tb0 ev)  (h : fX12_likeness fu X x1 x2 = some r) : Gd D (foot (xS m X0 z)) ev (QF D ev (xS m X0 z) (.inr (some (vI r.1))) (xS m r.2 z) rmX12_likeness) (xS m X z) 0 0 0 [(0, vA (some m)), (1, vI x1), (2, vI x2)] [] := by
  unfold fX12_likeness at h
  refine g_aload_n (pc := 0) B dX12_likeness_0 0 rfl ?_
  refine g_iload_n (pc := 1) B dX12_likeness_1 1 rfl ?_
  refine g_iload_n (pc := 2) B dX12_likeness_2 2 rfl ?_
  obtain ⟨v3, X3, e3, h⟩ := obW h
  refine h_callV (pc := 3) (As := [vI x1, vI x2]) (st := []) (X' := (xS m X3 z)) (cs' := 0) (sl' := 0) (st10 := [vI v3]) B cal_X12_areTwo kmX12_275 kn_X12_areTwo ks_X12_areTwo hkS (by decide) rfl (fun l hl => ct_X12_areTwo hl e3) rfl (Nat.le_of_ble_eq_true rfl) (by decide) (by decide) dX12_likeness_3 rfl rfl rfl rfl ?_
  refine g_if_eq (pc := 6) (tgt := 36) B dX12_likeness_6 (by decide) (fun c6 => ?_) (fun c6 => ?_)
  · rw [if_pos c6] at h
    refine g_iconst (pc := 36) B dX12_likeness_36 (0 : Int32) (by decide) ?_
    obtain rfl := Option.some.inj h
    exact g_ret_I (pc := 37) B rfl (by decide) (by decide) dX12_likeness_37
  · rw [if_neg c6] at h
    refine g_sipush (pc := 9) B dX12_likeness_9 (200 : Int32) (by decide) ?_
    refine g_aload_n (pc := 12) B dX12_likeness_12 0 rfl ?_
    refine g_iload_n (pc := 13) B dX12_likeness_13 1 rfl ?_
    refine g_iload_n (pc := 14) B dX12_likeness_14 2 rfl ?_
    obtain ⟨v15, X15, e15, h⟩ := obW h
    refine h_callV (pc := 15) (As := [vI x1, vI x2]) (st := [vI (200 : Int32)]) (X' := (xS m X15 z)) (cs' := 0) (sl' := 0) (st10 := [vI v15, vI (200 : Int32)]) B cal_X12_longestRow kmX12_278 kn_X12_longestRow ks_X12_longestRow hkS (by decide) rfl (fun l hl => ct_X12_longestRow hl e15) rfl (Nat.le_of_ble_eq_true rfl) (by decide) (by decide) dX12_likeness_15 rfl rfl rfl rfl ?_
    refine g_imul (pc := 18) B dX12_likeness_18 ?_
    refine g_aload_n (pc := 19) B dX12_likeness_19 0 rfl ?_
    refine gs_arr (pc := 20) 10 5 B (by decide) (by decide) kfX12_26 dX12_likeness_20 ?_
    refine g_iload_n (pc := 23) B dX12_likeness_23 1 rfl ?_
    obtain ⟨c24, h⟩ := chk h
    refine gs_iald (pc := 24) B c24 dX12_likeness_24 ?_
    refine g_aload_n (pc := 25) B dX12_likeness_25 0 rfl ?_
    refine gs_arr (pc := 26) 10 5 B (by decide) (by decide) kfX12_26 dX12_likeness_26 ?_
    refine g_iload_n (pc := 29) B dX12_likeness_29 2 rfl ?_
    obtain ⟨c30, h⟩ := chk h
    refine gs_iald (pc := 30) B c30 dX12_likeness_30 ?_
    refine g_iadd (pc := 31) B dX12_likeness_31 ?_
    obtain ⟨c32, h⟩ := chkN h
    refine g_idiv (pc := 32) B dX12_likeness_32 c32 ?_
    refine g_goto (pc := 33) (tgt := 37) B dX12_likeness_33 (by decide) ?_
    obtain rfl := Option.some.inj h
    exact g_ret_I (pc := 37) B rfl (by decide) (by decide) dX12_likeness_37
theorem ct_X12_likeness {D : DD} {l : Launch} {m z : Nat} {X0 : SM} {fu : Nat} {x1 : Int32} {x2 : Int32} {r : Int32 × SM} (hl : l.stackTraces = false) (h : fX12_likeness fu X0 x1 x2 = some r) : Ctr D l yX12_likeness cX12_likeness 3 (some .int) rmX12_likeness [vA (some m), vI x1, vI x2] (xS m X0 z) (.inr (some (vI r.1))) (xS m r.2 z) :=
  ctr_of hl (plainFor_of_name (by decide)) (Nat.le_of_ble_eq_true rfl) fun ev _ ht B => cb_X12_likeness_L0 B ht h
set_option maxRecDepth 100000 in
set_option maxHeartbeats 4000000 in
theorem cb_X12_works_L0 {D : DD} {ev : EV} {m z : Nat} {X0 : SM} {X : SM}  {r : Int32 × SM} (B : Amb D (foot (xS m X0 z)) ev RX12 "works" cX12_works 1 (some .int) rmX12_works) (ht : Tb0 ev)  (h : fX12_works X = some r) : Gd D (foot (xS m X0 z)) ev (QF D ev (xS m X0 z) (.inr (some (vI r.1))) (xS m r.2 z) rmX12_works) (xS m X z) 0 0 0 [(0, vA (some m))] [] := by
  unfold fX12_works at h
  refine g_aload_n (pc := 0) B dX12_works_0 0 rfl ?_
  refine g_iconst (pc := 1) B dX12_works_1 (0 : Int32) (by decide) ?_
  refine gs_put (pc := 2) 0 B (by decide) (by decide) rfl kfX12_112 dX12_works_2 ?_
  refine g_aload_n (pc := 5) B dX12_works_5 0 rfl ?_
  refine gs_get (pc := 6) 41 B (by decide) (by decide) kfX12_232 dX12_works_6 ?_
  obtain rfl := Option.some.inj h
  exact g_ret_I (pc := 9) B rfl (by decide) (by decide) dX12_works_9
theorem ct_X12_works {D : DD} {l : Launch} {m z : Nat} {X0 : SM}  {r : Int32 × SM} (hl : l.stackTraces = false) (h : fX12_works X0 = some r) : Ctr D l yX12_works cX12_works 1 (some .int) rmX12_works [vA (some m)] (xS m X0 z) (.inr (some (vI r.1))) (xS m r.2 z) :=
  ctr_of hl (plainFor_of_name (by decide)) (Nat.le_of_ble_eq_true rfl) fun ev _ ht B => cb_X12_works_L0 B ht h
set_option maxRecDepth 100000 in
set_option maxHeartbeats 4000000 in
theorem cb_X12_meets_L14 {D : DD} {ev : EV} {m z : Nat} {X0 : SM} {fu : Nat} {X : SM} {x1 : Int32} {s1 : Int32} {r : Int32 × SM} (B : Amb D (foot (xS m X0 z)) ev RX12 "meets" cX12_meets 2 (some .boolean) rmX12_meets) (ht : Tb0 ev)  (h : fX12_meets_L14 fu X x1 s1 = some r) : Gd D (foot (xS m X0 z)) ev (QF D ev (xS m X0 z) (.inr (some (vI r.1))) (xS m r.2 z) rmX12_meets) (xS m X z) 0 0 14 [(0, vA (some m)), (1, vI x1)] [vI s1, vA (some m)] := by
  unfold fX12_meets_L14 at h
  obtain ⟨v14, X14, e14, h⟩ := obW h
  refine h_callV (pc := 14) (As := [vI s1]) (st := []) (X' := (xS m X14 z)) (cs' := 0) (sl' := 0) (st10 := [vI v14]) B cal_X12_holds kmX12_126 kn_X12_holds ks_X12_holds hkS (by decide) rfl (fun l hl => ct_X12_holds hl e14) rfl (Nat.le_of_ble_eq_true rfl) (by decide) (by decide) dX12_meets_14 rfl rfl rfl rfl ?_
  refine g_if_eq (pc := 17) (tgt := 32) B dX12_meets_17 (by decide) (fun c17 => ?_) (fun c17 => ?_)
  · rw [if_pos c17] at h
    refine g_iconst (pc := 32) B dX12_meets_32 (0 : Int32) (by decide) ?_
    obtain rfl := Option.some.inj h
    exact g_ret_Z (pc := 33) B rfl (Or.inl rfl) (by decide) (by decide) dX12_meets_33
  · rw [if_neg c17] at h
    refine g_aload_n (pc := 20) B dX12_meets_20 0 rfl ?_
    refine g_iload_n (pc := 21) B dX12_meets_21 1 rfl ?_
    obtain ⟨v22, e22, h⟩ := ob h
    refine h_callV (pc := 22) (As := [vI x1]) (st := []) (X' := (xS m X14 z)) (cs' := 0) (sl' := 0) (st10 := [vI v22]) B cal_X12_doesMeet kmX12_235 kn_X12_doesMeet ks_X12_doesMeet hkS (by decide) rfl (fun l hl => ct_X12_doesMeet hl e22) rfl (Nat.le_of_ble_eq_true rfl) (by decide) (by decide) dX12_meets_22 rfl rfl rfl rfl ?_
    refine g_if_eq (pc := 25) (tgt := 32) B dX12_meets_25 (by decide) (fun c25 => ?_) (fun c25 => ?_)
    · rw [if_pos c25] at h
      refine g_iconst (pc := 32) B dX12_meets_32 (0 : Int32) (by decide) ?_
      obtain rfl := Option.some.inj h
      exact g_ret_Z (pc := 33) B rfl (Or.inl rfl) (by decide) (by decide) dX12_meets_33
    · rw [if_neg c25] at h
      refine g_iconst (pc := 28) B dX12_meets_28 (1 : Int32) (by decide) ?_
      refine g_goto (pc := 29) (tgt := 33) B dX12_meets_29 (by decide) ?_
      obtain rfl := Option.some.inj h
      exact g_ret_Z (pc := 33) B rfl (Or.inr rfl) (by decide) (by decide) dX12_meets_33
set_option maxRecDepth 100000 in
set_option maxHeartbeats 4000000 in
theorem cb_X12_meets_L0 {D : DD} {ev : EV} {m z : Nat} {X0 : SM} {fu : Nat} {X : SM} {x1 : Int32} {r : Int32 × SM} (B : Amb D (foot (xS m X0 z)) ev RX12 "meets" cX12_meets 2 (some .boolean) rmX12_meets) (ht : Tb0 ev)  (h : fX12_meets fu X x1 = some r) : Gd D (foot (xS m X0 z)) ev (QF D ev (xS m X0 z) (.inr (some (vI r.1))) (xS m r.2 z) rmX12_meets) (xS m X z) 0 0 0 [(0, vA (some m)), (1, vI x1)] [] := by
  unfold fX12_meets at h
  refine g_aload_n (pc := 0) B dX12_meets_0 0 rfl ?_
  refine g_aload_n (pc := 1) B dX12_meets_1 0 rfl ?_
  refine g_iload_n (pc := 2) B dX12_meets_2 1 rfl ?_
  obtain ⟨v3, e3, h⟩ := ob h
  refine h_callV (pc := 3) (As := [vI x1]) (st := [vA (some m)]) (X' := (xS m X z)) (cs' := 0) (sl' := 0) (st10 := [vI v3, vA (some m)]) B cal_X12_isWork kmX12_238 kn_X12_isWork ks_X12_isWork hkS (by decide) rfl (fun l hl => ct_X12_isWork hl e3) rfl (Nat.le_of_ble_eq_true rfl) (by decide) (by decide) dX12_meets_3 rfl rfl rfl rfl ?_
  refine g_if_eq (pc := 6) (tgt := 13) B dX12_meets_6 (by decide) (fun c6 => ?_) (fun c6 => ?_)
  · rw [if_pos c6] at h
    refine g_iconst (pc := 13) B dX12_meets_13 (1 : Int32) (by decide) ?_
    refine g_sub (pc := 14) [0, 1] rfl ?_
    exact cb_X12_meets_L14 B ht h
  · rw [if_neg c6] at h
    refine g_iconst (pc := 9) B dX12_meets_9 (0 : Int32) (by decide) ?_
    refine g_goto (pc := 10) (tgt := 14) B dX12_meets_10 (by decide) ?_
    refine g_sub (pc := 14) [0, 1] rfl ?_
    exact cb_X12_meets_L14 B ht h
theorem ct_X12_meets {D : DD} {l : Launch} {m z : Nat} {X0 : SM} {fu : Nat} {x1 : Int32} {r : Int32 × SM} (hl : l.stackTraces = false) (h : fX12_meets fu X0 x1 = some r) : Ctr D l yX12_meets cX12_meets 2 (some .boolean) rmX12_meets [vA (some m), vI x1] (xS m X0 z) (.inr (some (vI r.1))) (xS m r.2 z) :=
  ctr_of hl (plainFor_of_name (by decide)) (Nat.le_of_ble_eq_true rfl) fun ev _ ht B => cb_X12_meets_L0 B ht h
set_option maxRecDepth 100000 in
set_option maxHeartbeats 4000000 in
theorem cb_X12_copyOf_L14 {D : DD} {ev : EV} {m z : Nat} {X0 : SM} {fu : Nat} {X : SM} {x1 : Int32} {s1 : Int32} {r : Int32 × SM} (B : Amb D (foot (xS m X0 z)) ev RX12 "copyOf" cX12_copyOf 2 (some .int) rmX12_copyOf) (ht : Tb0 ev)  (h : fX12_copyOf_L14 fu X x1 s1 = some r) : Gd D (foot (xS m X0 z)) ev (QF D ev (xS m X0 z) (.inr (some (vI r.1))) (xS m r.2 z) rmX12_copyOf) (xS m X z) 0 0 14 [(0, vA (some m)), (1, vI x1)] [vI s1, vA (some m)] := by
  unfold fX12_copyOf_L14 at h
  obtain ⟨v14, X14, e14, h⟩ := obW h
  refine h_callV (pc := 14) (As := [vI s1]) (st := []) (X' := (xS m X14 z)) (cs' := 0) (sl' := 0) (st10 := [vI v14]) B cal_X12_holds kmX12_126 kn_X12_holds ks_X12_holds hkS (by decide) rfl (fun l hl => ct_X12_holds hl e14) rfl (Nat.le_of_ble_eq_true rfl) (by decide) (by decide) dX12_copyOf_14 rfl rfl rfl rfl ?_
  refine g_if_eq (pc := 17) (tgt := 28) B dX12_copyOf_17 (by decide) (fun c17 => ?_) (fun c17 => ?_)
  · rw [if_pos c17] at h
    refine g_iconst (pc := 28) B dX12_copyOf_28 (0 : Int32) (by decide) ?_
    obtain rfl := Option.some.inj h
    exact g_ret_I (pc := 29) B rfl (by decide) (by decide) dX12_copyOf_29
  · rw [if_neg c17] at h
    refine g_aload_n (pc := 20) B dX12_copyOf_20 0 rfl ?_
    refine g_iload_n (pc := 21) B dX12_copyOf_21 1 rfl ?_
    obtain ⟨v22, X22, e22, h⟩ := obW h
    refine h_callV (pc := 22) (As := [vI x1]) (st := []) (X' := (xS m X22 z)) (cs' := 0) (sl' := 0) (st10 := [vI v22]) B cal_X12_copied kmX12_268 kn_X12_copied ks_X12_copied hkS (by decide) rfl (fun l hl => ct_X12_copied hl e22) rfl (Nat.le_of_ble_eq_true rfl) (by decide) (by decide) dX12_copyOf_22 rfl rfl rfl rfl ?_
    refine g_goto (pc := 25) (tgt := 29) B dX12_copyOf_25 (by decide) ?_
    obtain rfl := Option.some.inj h
    exact g_ret_I (pc := 29) B rfl (by decide) (by decide) dX12_copyOf_29
set_option maxRecDepth 100000 in
set_option maxHeartbeats 4000000 in
theorem cb_X12_copyOf_L0 {D : DD} {ev : EV} {m z : Nat} {X0 : SM} {fu : Nat} {X : SM} {x1 : Int32} {r : Int32 × SM} (B : Amb D (foot (xS m X0 z)) ev RX12 "copyOf" cX12_copyOf 2 (some .int) rmX12_copyOf) (ht : Tb0 ev)  (h : fX12_copyOf fu X x1 = some r) : Gd D (foot (xS m X0 z)) ev (QF D ev (xS m X0 z) (.inr (some (vI r.1))) (xS m r.2 z) rmX12_copyOf) (xS m X z) 0 0 0 [(0, vA (some m)), (1, vI x1)] [] := by
  unfold fX12_copyOf at h
  refine g_aload_n (pc := 0) B dX12_copyOf_0 0 rfl ?_
  refine g_aload_n (pc := 1) B dX12_copyOf_1 0 rfl ?_
  refine g_iload_n (pc := 2) B dX12_copyOf_2 1 rfl ?_
  obtain ⟨v3, e3, h⟩ := ob h
  refine h_callV (pc := 3) (As := [vI x1]) (st := [vA (some m)]) (X' := (xS m X z)) (cs' := 0) (sl' := 0) (st10 := [vI v3, vA (some m)]) B cal_X12_isWork kmX12_238 kn_X12_isWork ks_X12_isWork hkS (by decide) rfl (fun l hl => ct_X12_isWork hl e3) rfl (Nat.le_of_ble_eq_true rfl) (by decide) (by decide) dX12_copyOf_3 rfl rfl rfl rfl ?_
  refine g_if_eq (pc := 6) (tgt := 13) B dX12_copyOf_6 (by decide) (fun c6 => ?_) (fun c6 => ?_)
  · rw [if_pos c6] at h
    refine g_iconst (pc := 13) B dX12_copyOf_13 (1 : Int32) (by decide) ?_
    refine g_sub (pc := 14) [0, 1] rfl ?_
    exact cb_X12_copyOf_L14 B ht h
  · rw [if_neg c6] at h
    refine g_iconst (pc := 9) B dX12_copyOf_9 (0 : Int32) (by decide) ?_
    refine g_goto (pc := 10) (tgt := 14) B dX12_copyOf_10 (by decide) ?_
    refine g_sub (pc := 14) [0, 1] rfl ?_
    exact cb_X12_copyOf_L14 B ht h
theorem ct_X12_copyOf {D : DD} {l : Launch} {m z : Nat} {X0 : SM} {fu : Nat} {x1 : Int32} {r : Int32 × SM} (hl : l.stackTraces = false) (h : fX12_copyOf fu X0 x1 = some r) : Ctr D l yX12_copyOf cX12_copyOf 2 (some .int) rmX12_copyOf [vA (some m), vI x1] (xS m X0 z) (.inr (some (vI r.1))) (xS m r.2 z) :=
  ctr_of hl (plainFor_of_name (by decide)) (Nat.le_of_ble_eq_true rfl) fun ev _ ht B => cb_X12_copyOf_L0 B ht h
set_option maxRecDepth 100000 in
set_option maxHeartbeats 4000000 in
theorem cb_X12_hangs_L14 {D : DD} {ev : EV} {m z : Nat} {X0 : SM} {fu : Nat} {X : SM} {x1 : Int32} {s1 : Int32} {r : Int32 × SM} (B : Amb D (foot (xS m X0 z)) ev RX12 "hangs" cX12_hangs 2 (some .int) rmX12_hangs) (ht : Tb0 ev)  (h : fX12_hangs_L14 fu X x1 s1 = some r) : Gd D (foot (xS m X0 z)) ev (QF D ev (xS m X0 z) (.inr (some (vI r.1))) (xS m r.2 z) rmX12_hangs) (xS m X z) 0 0 14 [(0, vA (some m)), (1, vI x1)] [vI s1, vA (some m)] := by
  unfold fX12_hangs_L14 at h
  obtain ⟨v14, X14, e14, h⟩ := obW h
  refine h_callV (pc := 14) (As := [vI s1]) (st := []) (X' := (xS m X14 z)) (cs' := 0) (sl' := 0) (st10 := [vI v14]) B cal_X12_holds kmX12_126 kn_X12_holds ks_X12_holds hkS (by decide) rfl (fun l hl => ct_X12_holds hl e14) rfl (Nat.le_of_ble_eq_true rfl) (by decide) (by decide) dX12_hangs_14 rfl rfl rfl rfl ?_
  refine g_if_ne (pc := 17) (tgt := 22) B dX12_hangs_17 (by decide) (fun c17 => ?_) (fun c17 => ?_)
  · rw [if_neg c17] at h
    refine g_aload_n (pc := 22) B dX12_hangs_22 0 rfl ?_
    obtain ⟨X23, e23, h⟩ := ob h
    refine h_callV (pc := 23) (As := []) (st := []) (X' := (xS m X23 z)) (cs' := 0) (sl' := 0) (st10 := []) B cal_X12_hangsAll kmX12_241 kn_X12_hangsAll ks_X12_hangsAll hkS (by decide) rfl (fun l hl => ct_X12_hangsAll hl e23) rfl (Nat.le_of_ble_eq_true rfl) (by decide) (by decide) dX12_hangs_23 rfl rfl rfl rfl ?_
    refine g_aload_n (pc := 26) B dX12_hangs_26 0 rfl ?_
    refine gs_arr (pc := 27) 48 30 B (by decide) (by decide) kfX12_109 dX12_hangs_27 ?_
    refine g_iload_n (pc := 30) B dX12_hangs_30 1 rfl ?_
    obtain ⟨c31, h⟩ := chk h
    refine gs_iald (pc := 31) B c31 dX12_hangs_31 ?_
    obtain rfl := Option.some.inj h
    exact g_ret_I (pc := 32) B rfl (by decide) (by decide) dX12_hangs_32
  · rw [if_pos c17] at h
    refine g_iconst (pc := 20) B dX12_hangs_20 (0 : Int32) (by decide) ?_
    obtain rfl := Option.some.inj h
    exact g_ret_I (pc := 21) B rfl (by decide) (by decide) dX12_hangs_21
set_option maxRecDepth 100000 in
set_option maxHeartbeats 4000000 in
theorem cb_X12_hangs_L0 {D : DD} {ev : EV} {m z : Nat} {X0 : SM} {fu : Nat} {X : SM} {x1 : Int32} {r : Int32 × SM} (B : Amb D (foot (xS m X0 z)) ev RX12 "hangs" cX12_hangs 2 (some .int) rmX12_hangs) (ht : Tb0 ev)  (h : fX12_hangs fu X x1 = some r) : Gd D (foot (xS m X0 z)) ev (QF D ev (xS m X0 z) (.inr (some (vI r.1))) (xS m r.2 z) rmX12_hangs) (xS m X z) 0 0 0 [(0, vA (some m)), (1, vI x1)] [] := by
  unfold fX12_hangs at h
  refine g_aload_n (pc := 0) B dX12_hangs_0 0 rfl ?_
  refine g_aload_n (pc := 1) B dX12_hangs_1 0 rfl ?_
  refine g_iload_n (pc := 2) B dX12_hangs_2 1 rfl ?_
  obtain ⟨v3, e3, h⟩ := ob h
  refine h_callV (pc := 3) (As := [vI x1]) (st := [vA (some m)]) (X' := (xS m X z)) (cs' := 0) (sl' := 0) (st10 := [vI v3, vA (some m)]) B cal_X12_isWork kmX12_238 kn_X12_isWork ks_X12_isWork hkS (by decide) rfl (fun l hl => ct_X12_isWork hl e3) rfl (Nat.le_of_ble_eq_true rfl) (by decide) (by decide) dX12_hangs_3 rfl rfl rfl rfl ?_
  refine g_if_eq (pc := 6) (tgt := 13) B dX12_hangs_6 (by decide) (fun c6 => ?_) (fun c6 => ?_)
  · rw [if_pos c6] at h
    refine g_iconst (pc := 13) B dX12_hangs_13 (1 : Int32) (by decide) ?_
    refine g_sub (pc := 14) [0, 1] rfl ?_
    exact cb_X12_hangs_L14 B ht h
  · rw [if_neg c6] at h
    refine g_iconst (pc := 9) B dX12_hangs_9 (0 : Int32) (by decide) ?_
    refine g_goto (pc := 10) (tgt := 14) B dX12_hangs_10 (by decide) ?_
    refine g_sub (pc := 14) [0, 1] rfl ?_
    exact cb_X12_hangs_L14 B ht h
theorem ct_X12_hangs {D : DD} {l : Launch} {m z : Nat} {X0 : SM} {fu : Nat} {x1 : Int32} {r : Int32 × SM} (hl : l.stackTraces = false) (h : fX12_hangs fu X0 x1 = some r) : Ctr D l yX12_hangs cX12_hangs 2 (some .int) rmX12_hangs [vA (some m), vI x1] (xS m X0 z) (.inr (some (vI r.1))) (xS m r.2 z) :=
  ctr_of hl (plainFor_of_name (by decide)) (Nat.le_of_ble_eq_true rfl) fun ev _ ht B => cb_X12_hangs_L0 B ht h
set_option maxRecDepth 100000 in
set_option maxHeartbeats 4000000 in
theorem cb_X12_covers_L0 {D : DD} {ev : EV} {m z : Nat} {X0 : SM} {fu : Nat} {x1 : Int32} {x2 : Int32} {x3 : Int32} {r : Int32} (B : Amb D (foot (xS m X0 z)) ev RX12 "covers" cX12_covers 7 (some .boolean) rmX12_covers) (ht : Tb0 ev)  (h : fX12_covers fu X0 x1 x2 x3 = some r) : Gd D (foot (xS m X0 z)) ev (QF D ev (xS m X0 z) (.inr (some (vI r))) (xS m X0 z) rmX12_covers) (xS m X0 z) 0 0 0 [(0, vA (some m)), (1, vI x1), (2, vI x2), (3, vI x3)] [] := by
  unfold fX12_covers at h
  refine g_aload_n (pc := 0) B dX12_covers_0 0 rfl ?_
  refine gs_arr (pc := 1) 42 26 B (by decide) (by decide) kfX12_89 dX12_covers_1 ?_
  refine g_iload_n (pc := 4) B dX12_covers_4 1 rfl ?_
  obtain ⟨c5, h⟩ := chk h
  refine gs_iald (pc := 5) B c5 dX12_covers_5 ?_
  refine g_istore (pc := 6) (L' := [(4, vI (ar X0 26 x1.toNatClampNeg)), (0, vA (some m)), (1, vI x1), (2, vI x2), (3, vI x3)]) B dX12_covers_6 (by decide) rfl ?_
  refine g_iload_n (pc := 8) B dX12_covers_8 3 rfl ?_
  refine g_aload_n (pc := 9) B dX12_covers_9 1 rfl ?_
  refine gs_arr (pc := 10) 48 30 B (by decide) (by decide) kfX12_109 dX12_covers_10 ?_
  refine g_iload_n (pc := 13) B dX12_covers_13 2 rfl ?_
  obtain ⟨c14, h⟩ := chk h
  refine gs_iald (pc := 14) B c14 dX12_covers_14 ?_
  refine g_bipush (pc := 15) B dX12_covers_15 (100 : Int32) (by decide) ?_
  refine g_idiv (pc := 17) B dX12_covers_17 (by decide) ?_
  refine g_isub (pc := 18) B dX12_covers_18 ?_
  refine g_istore (pc := 19) (L' := [(5, vI (x2 - ((ar X0 30 x1.toNatClampNeg) / (100 : Int32)))), (4, vI (ar X0 26 x1.toNatClampNeg)), (0, vA (some m)), (1, vI x1), (2, vI x2), (3, vI x3)]) B dX12_covers_19 (by decide) rfl ?_
  refine g_iload_n (pc := 21) B dX12_covers_21 5 rfl ?_
  refine g_aload_n (pc := 22) B dX12_covers_22 2 rfl ?_
  refine gs_arr (pc := 23) 48 30 B (by decide) (by decide) kfX12_109 dX12_covers_23 ?_
  refine g_iload_n (pc := 26) B dX12_covers_26 3 rfl ?_
  obtain ⟨c27, h⟩ := chk h
  refine gs_iald (pc := 27) B c27 dX12_covers_27 ?_
  refine g_bipush (pc := 28) B dX12_covers_28 (100 : Int32) (by decide) ?_
  refine g_irem (pc := 30) B dX12_covers_30 (by decide) ?_
  refine g_isub (pc := 31) B dX12_covers_31 ?_
  refine g_istore (pc := 32) (L' := [(6, vI (x3 - ((ar X0 30 x1.toNatClampNeg) - (ar X0 30 x1.toNatClampNeg) / (100 : Int32) * (100 : Int32)))), (5, vI (x2 - ((ar X0 30 x1.toNatClampNeg) / (100 : Int32)))), (4, vI (ar X0 26 x1.toNatClampNeg)), (0, vA (some m)), (1, vI x1), (2, vI x2), (3, vI x3)]) B dX12_covers_32 (by decide) rfl ?_
  refine g_aload_n (pc := 34) B dX12_covers_34 3 rfl ?_
  refine gs_arr (pc := 35) 48 30 B (by decide) (by decide) kfX12_109 dX12_covers_35 ?_
  refine g_iload_n (pc := 38) B dX12_covers_38 4 rfl ?_
  obtain ⟨c39, h⟩ := chk h
  refine gs_iald (pc := 39) B c39 dX12_covers_39 ?_
  refine g_iconst (pc := 40) B dX12_covers_40 (-1) (by decide) ?_
  refine g_icmp_eq (pc := 41) (tgt := 96) B dX12_covers_41 (by decide) (fun c41 => ?_) (fun c41 => ?_)
  · rw [if_pos c41] at h
    refine g_iconst (pc := 96) B dX12_covers_96 (0 : Int32) (by decide) ?_
    obtain rfl := Option.some.inj h
    exact g_ret_Z (pc := 97) B rfl (Or.inl rfl) (by decide) (by decide) dX12_covers_97
  · rw [if_neg c41] at h
    refine g_iload (pc := 44) B dX12_covers_44 1 rfl ?_
    refine g_iconst (pc := 46) B dX12_covers_46 (0 : Int32) (by decide) ?_
    refine g_aload_n (pc := 47) B dX12_covers_47 3 rfl ?_
    refine g_iload (pc := 48) B dX12_covers_48 2 rfl ?_
    refine g_iconst (pc := 50) B dX12_covers_50 (1 : Int32) (by decide) ?_
    obtain ⟨v51, e51, h⟩ := ob h
    refine h_callV (pc := 51) (As := [vI (ar X0 26 x1.toNatClampNeg), vI (1 : Int32)]) (st := [vI (0 : Int32), vI (x2 - ((ar X0 30 x1.toNatClampNeg) / (100 : Int32)))]) (X' := (xS m X0 z)) (cs' := 0) (sl' := 0) (st10 := [vI v51, vI (0 : Int32), vI (x2 - ((ar X0 30 x1.toNatClampNeg) / (100 : Int32)))]) B cal_X12_greatestOf kmX12_261 kn_X12_greatestOf ks_X12_greatestOf hkS (by decide) rfl (fun l hl => ct_X12_greatestOf hl e51) rfl (Nat.le_of_ble_eq_true rfl) (by decide) (by decide) dX12_covers_51 rfl rfl rfl rfl ?_
    refine g_aload_n (pc := 54) B dX12_covers_54 3 rfl ?_
    refine g_iload (pc := 55) B dX12_covers_55 2 rfl ?_
    refine g_iconst (pc := 57) B dX12_covers_57 (1 : Int32) (by decide) ?_
    obtain ⟨v58, e58, h⟩ := ob h
    refine h_callV (pc := 58) (As := [vI (ar X0 26 x1.toNatClampNeg), vI (1 : Int32)]) (st := [vI v51, vI (0 : Int32), vI (x2 - ((ar X0 30 x1.toNatClampNeg) / (100 : Int32)))]) (X' := (xS m X0 z)) (cs' := 0) (sl' := 0) (st10 := [vI v58, vI v51, vI (0 : Int32), vI (x2 - ((ar X0 30 x1.toNatClampNeg) / (100 : Int32)))]) B cal_X12_leastOf kmX12_244 kn_X12_leastOf ks_X12_leastOf hkS (by decide) rfl (fun l hl => ct_X12_leastOf hl e58) rfl (Nat.le_of_ble_eq_true rfl) (by decide) (by decide) dX12_covers_58 rfl rfl rfl rfl ?_
    refine g_isub (pc := 61) B dX12_covers_61 ?_
    obtain ⟨v62, e62, h⟩ := ob h
    refine h_callS (pc := 62) (As := [vI (x2 - ((ar X0 30 x1.toNatClampNeg) / (100 : Int32))), vI (0 : Int32), vI (v51 - v58)]) (st := []) (X' := (xS m X0 z)) (cs' := 0) (sl' := 0) (st10 := [vI v62]) B cal_X12_isIn kmX12_115 kz_X12_isIn (fun l hl => ct_X12_isIn hl e62) rfl (Nat.le_of_ble_eq_true rfl) (by decide) (by decide) dX12_covers_62 rfl rfl rfl rfl ?_
    refine g_if_eq (pc := 65) (tgt := 96) B dX12_covers_65 (by decide) (fun c65 => ?_) (fun c65 => ?_)
    · rw [if_pos c65] at h
      refine g_iconst (pc := 96) B dX12_covers_96 (0 : Int32) (by decide) ?_
      obtain rfl := Option.some.inj h
      exact g_ret_Z (pc := 97) B rfl (Or.inl rfl) (by decide) (by decide) dX12_covers_97
    · rw [if_neg c65] at h
      refine g_iload (pc := 68) B dX12_covers_68 0 rfl ?_
      refine g_iconst (pc := 70) B dX12_covers_70 (0 : Int32) (by decide) ?_
      refine g_aload_n (pc := 71) B dX12_covers_71 3 rfl ?_
      refine g_iload (pc := 72) B dX12_covers_72 2 rfl ?_
      refine g_iconst (pc := 74) B dX12_covers_74 (0 : Int32) (by decide) ?_
      obtain ⟨v75, e75, h⟩ := ob h
      refine h_callV (pc := 75) (As := [vI (ar X0 26 x1.toNatClampNeg), vI (0 : Int32)]) (st := [vI (0 : Int32), vI (x3 - ((ar X0 30 x1.toNatClampNeg) - (ar X0 30 x1.toNatClampNeg) / (100 : Int32) * (100 : Int32)))]) (X' := (xS m X0 z)) (cs' := 0) (sl' := 0) (st10 := [vI v75, vI (0 : Int32), vI (x3 - ((ar X0 30 x1.toNatClampNeg) - (ar X0 30 x1.toNatClampNeg) / (100 : Int32) * (100 : Int32)))]) B cal_X12_greatestOf kmX12_261 kn_X12_greatestOf ks_X12_greatestOf hkS (by decide) rfl (fun l hl => ct_X12_greatestOf hl e75) rfl (Nat.le_of_ble_eq_true rfl) (by decide) (by decide) dX12_covers_75 rfl rfl rfl rfl ?_
      refine g_aload_n (pc := 78) B dX12_covers_78 3 rfl ?_
      refine g_iload (pc := 79) B dX12_covers_79 2 rfl ?_
      refine g_iconst (pc := 81) B dX12_covers_81 (0 : Int32) (by decide) ?_
      obtain ⟨v82, e82, h⟩ := ob h
      refine h_callV (pc := 82) (As := [vI (ar X0 26 x1.toNatClampNeg), vI (0 : Int32)]) (st := [vI v75, vI (0 : Int32), vI (x3 - ((ar X0 30 x1.toNatClampNeg) - (ar X0 30 x1.toNatClampNeg) / (100 : Int32) * (100 : Int32)))]) (X' := (xS m X0 z)) (cs' := 0) (sl' := 0) (st10 := [vI v82, vI v75, vI (0 : Int32), vI (x3 - ((ar X0 30 x1.toNatClampNeg) - (ar X0 30 x1.toNatClampNeg) / (100 : Int32) * (100 : Int32)))]) B cal_X12_leastOf kmX12_244 kn_X12_leastOf ks_X12_leastOf hkS (by decide) rfl (fun l hl => ct_X12_leastOf hl e82) rfl (Nat.le_of_ble_eq_true rfl) (by decide) (by decide) dX12_covers_82 rfl rfl rfl rfl ?_
      refine g_isub (pc := 85) B dX12_covers_85 ?_
      obtain ⟨v86, e86, h⟩ := ob h
      refine h_callS (pc := 86) (As := [vI (x3 - ((ar X0 30 x1.toNatClampNeg) - (ar X0 30 x1.toNatClampNeg) / (100 : Int32) * (100 : Int32))), vI (0 : Int32), vI (v75 - v82)]) (st := []) (X' := (xS m X0 z)) (cs' := 0) (sl' := 0) (st10 := [vI v86]) B cal_X12_isIn kmX12_115 kz_X12_isIn (fun l hl => ct_X12_isIn hl e86) rfl (Nat.le_of_ble_eq_true rfl) (by decide) (by decide) dX12_covers_86 rfl rfl rfl rfl ?_
      refine g_if_eq (pc := 89) (tgt := 96) B dX12_covers_89 (by decide) (fun c89 => ?_) (fun c89 => ?_)
      · rw [if_pos c89] at h
        refine g_iconst (pc := 96) B dX12_covers_96 (0 : Int32) (by decide) ?_
        obtain rfl := Option.some.inj h
        exact g_ret_Z (pc := 97) B rfl (Or.inl rfl) (by decide) (by decide) dX12_covers_97
      · rw [if_neg c89] at h
        refine g_iconst (pc := 92) B dX12_covers_92 (1 : Int32) (by decide) ?_
        refine g_goto (pc := 93) (tgt := 97) B dX12_covers_93 (by decide) ?_
        obtain rfl := Option.some.inj h
        exact g_ret_Z (pc := 97) B rfl (Or.inr rfl) (by decide) (by decide) dX12_covers_97
theorem ct_X12_covers {D : DD} {l : Launch} {m z : Nat} {X0 : SM} {fu : Nat} {x1 : Int32} {x2 : Int32} {x3 : Int32} {r : Int32} (hl : l.stackTraces = false) (h : fX12_covers fu X0 x1 x2 x3 = some r) : Ctr D l yX12_covers cX12_covers 7 (some .boolean) rmX12_covers [vA (some m), vI x1, vI x2, vI x3] (xS m X0 z) (.inr (some (vI r))) (xS m X0 z) :=
  ctr_of hl (plainFor_of_name (by decide)) (Nat.le_of_ble_eq_true rfl) fun ev _ ht B => cb_X12_covers_L0 B ht h
set_option maxRecDepth 100000 in
set_option maxHeartbeats 4000000 in
theorem cb_X12_onWall_L77 {D : DD} {ev : EV} {m z : Nat} {X0 : SM} {fu : Nat} {rec51 : SM → Int32 → Int32 → Int32 → Int32 → Option (Int32 × SM)} {X : SM} {x1 : Int32} {x2 : Int32} {x4 : Int32} {s0 : Int32} {r : Int32 × SM} (B : Amb D (foot (xS m X0 z)) ev RX12 "onWall" cX12_onWall 5 (some .int) rmX12_onWall) (ht : Tb0 ev) (hrec51 : ∀ {X : SM} {x1 : Int32} {x2 : Int32} {x3 : Int32} {x4 : Int32} {r : Int32 × SM}, rec51 X x1 x2 x3 x4 = some r → Gd D (foot (xS m X0 z)) ev (QF D ev (xS m X0 z) (.inr (some (vI r.1))) (xS m r.2 z) rmX12_onWall) (xS m X z) 0 0 51 [(0, vA (some m)), (1, vI x1), (2, vI x2), (3, vI x3), (4, vI x4)] []) (h : fX12_onWall_L77 fu rec51 X x1 x2 x4 s0 = some r) : Gd D (foot (xS m X0 z)) ev (QF D ev (xS m X0 z) (.inr (some (vI r.1))) (xS m r.2 z) rmX12_onWall) (xS m X z) 0 0 77 [(0, vA (some m)), (1, vI x1), (2, vI x2), (4, vI x4)] [vI s0] := by
  unfold fX12_onWall_L77 at h
  refine g_istore_n (pc := 77) (L' := [(3, vI s0), (0, vA (some m)), (1, vI x1), (2, vI x2), (4, vI x4)]) B dX12_onWall_77 (by decide) rfl ?_
  refine g_iinc (pc := 78) (v := (x4 + (1 : Int32))) (L' := [(4, vI (x4 + (1 : Int32))), (3, vI s0), (0, vA (some m)), (1, vI x1), (2, vI x2)]) B dX12_onWall_78 (by decide) 4 rfl rfl rfl ?_
  refine g_goto (pc := 81) (tgt := 51) B dX12_onWall_81 (by decide) ?_
  refine g_sub (pc := 51) [2, 3, 4, 1, 0] rfl ?_
  exact hrec51 h
set_option maxRecDepth 100000 in
set_option maxHeartbeats 4000000 in
theorem cb_X12_onWall_L51b {D : DD} {ev : EV} {m z : Nat} {X0 : SM} {fu : Nat} {rec51 : SM → Int32 → Int32 → Int32 → Int32 → Option (Int32 × SM)} {X : SM} {x1 : Int32} {x2 : Int32} {x3 : Int32} {x4 : Int32} {r : Int32 × SM} (B : Amb D (foot (xS m X0 z)) ev RX12 "onWall" cX12_onWall 5 (some .int) rmX12_onWall) (ht : Tb0 ev) (hrec51 : ∀ {X : SM} {x1 : Int32} {x2 : Int32} {x3 : Int32} {x4 : Int32} {r : Int32 × SM}, rec51 X x1 x2 x3 x4 = some r → Gd D (foot (xS m X0 z)) ev (QF D ev (xS m X0 z) (.inr (some (vI r.1))) (xS m r.2 z) rmX12_onWall) (xS m X z) 0 0 51 [(0, vA (some m)), (1, vI x1), (2, vI x2), (3, vI x3), (4, vI x4)] []) (h : fX12_onWall_L51b fu rec51 X x1 x2 x3 x4 = some r) : Gd D (foot (xS m X0 z)) ev (QF D ev (xS m X0 z) (.inr (some (vI r.1))) (xS m r.2 z) rmX12_onWall) (xS m X z) 0 0 51 [(0, vA (some m)), (1, vI x1), (2, vI x2), (3, vI x3), (4, vI x4)] [] := by
  unfold fX12_onWall_L51b at h
  refine g_iload (pc := 51) B dX12_onWall_51 4 rfl ?_
  refine g_aload_n (pc := 53) B dX12_onWall_53 0 rfl ?_
  refine gs_get (pc := 54) 41 B (by decide) (by decide) kfX12_232 dX12_onWall_54 ?_
  refine g_icmp_ge (pc := 57) (tgt := 84) B dX12_onWall_57 (by decide) (fun c57 => ?_) (fun c57 => ?_)
  · rw [if_pos c57] at h
    refine g_iload_n (pc := 84) B dX12_onWall_84 3 rfl ?_
    obtain rfl := Option.some.inj h
    exact g_ret_I (pc := 85) B rfl (by decide) (by decide) dX12_onWall_85
  · rw [if_neg c57] at h
    refine g_aload_n (pc := 60) B dX12_onWall_60 0 rfl ?_
    refine g_iload (pc := 61) B dX12_onWall_61 4 rfl ?_
    refine g_iload_n (pc := 63) B dX12_onWall_63 1 rfl ?_
    refine g_iload_n (pc := 64) B dX12_onWall_64 2 rfl ?_
    obtain ⟨v65, e65, h⟩ := ob h
    refine h_callV (pc := 65) (As := [vI x4, vI x1, vI x2]) (st := []) (X' := (xS m X z)) (cs' := 0) (sl' := 0) (st10 := [vI v65]) B cal_X12_covers kmX12_281 kn_X12_covers ks_X12_covers hkS (by decide) rfl (fun l hl => ct_X12_covers hl e65) rfl (Nat.le_of_ble_eq_true rfl) (by decide) (by decide) dX12_onWall_65 rfl rfl rfl rfl ?_
    refine g_if_eq (pc := 68) (tgt := 76) B dX12_onWall_68 (by decide) (fun c68 => ?_) (fun c68 => ?_)
    · rw [if_pos c68] at h
      refine g_iload_n (pc := 76) B dX12_onWall_76 3 rfl ?_
      refine g_sub (pc := 77) [0, 1, 2, 4] rfl ?_
      exact cb_X12_onWall_L77 B ht hrec51 h
    · rw [if_neg c68] at h
      refine g_iload (pc := 71) B dX12_onWall_71 4 rfl ?_
      refine g_goto (pc := 73) (tgt := 77) B dX12_onWall_73 (by decide) ?_
      refine g_sub (pc := 77) [0, 1, 2, 4] rfl ?_
      exact cb_X12_onWall_L77 B ht hrec51 h
theorem cb_X12_onWall_L51n {D : DD} {ev : EV} {m z : Nat} {X0 : SM} {fu : Nat} (B : Amb D (foot (xS m X0 z)) ev RX12 "onWall" cX12_onWall 5 (some .int) rmX12_onWall) (ht : Tb0 ev)  : ∀ (n : Nat) {X : SM} {x1 : Int32} {x2 : Int32} {x3 : Int32} {x4 : Int32} {r : Int32 × SM}, fX12_onWall_L51 fu n X x1 x2 x3 x4 = some r → Gd D (foot (xS m X0 z)) ev (QF D ev (xS m X0 z) (.inr (some (vI r.1))) (xS m r.2 z) rmX12_onWall) (xS m X z) 0 0 51 [(0, vA (some m)), (1, vI x1), (2, vI x2), (3, vI x3), (4, vI x4)] [] := by
  intro n
  induction n with
  | zero => intro X x1 x2 x3 x4 r h; exact nomatch h
  | succ n ih => intro X x1 x2 x3 x4 r h; exact cb_X12_onWall_L51b (fu := fu) B ht (fun h9 => ih h9) h
theorem cb_X12_onWall_L51 {D : DD} {ev : EV} {m z : Nat} {X0 : SM} {fu : Nat} {X : SM} {x1 : Int32} {x2 : Int32} {x3 : Int32} {x4 : Int32} {n : Nat} {r : Int32 × SM} (B : Amb D (foot (xS m X0 z)) ev RX12 "onWall" cX12_onWall 5 (some .int) rmX12_onWall) (ht : Tb0 ev)  (h : fX12_onWall_L51 fu n X x1 x2 x3 x4 = some r) : Gd D (foot (xS m X0 z)) ev (QF D ev (xS m X0 z) (.inr (some (vI r.1))) (xS m r.2 z) rmX12_onWall) (xS m X z) 0 0 51 [(0, vA (some m)), (1, vI x1), (2, vI x2), (3, vI x3), (4, vI x4)] [] := cb_X12_onWall_L51n B ht n h
set_option maxRecDepth 100000 in
set_option maxHeartbeats 4000000 in
theorem cb_X12_onWall_L34 {D : DD} {ev : EV} {m z : Nat} {X0 : SM} {fu : Nat} {X : SM} {x1 : Int32} {x2 : Int32} {s1 : Int32} {r : Int32 × SM} (B : Amb D (foot (xS m X0 z)) ev RX12 "onWall" cX12_onWall 5 (some .int) rmX12_onWall) (ht : Tb0 ev)  (h : fX12_onWall_L34 fu X x1 x2 s1 = some r) : Gd D (foot (xS m X0 z)) ev (QF D ev (xS m X0 z) (.inr (some (vI r.1))) (xS m r.2 z) rmX12_onWall) (xS m X z) 0 0 34 [(0, vA (some m)), (1, vI x1), (2, vI x2)] [vI s1, vA (some m)] := by
  unfold fX12_onWall_L34 at h
  obtain ⟨v34, X34, e34, h⟩ := obW h
  refine h_callV (pc := 34) (As := [vI s1]) (st := []) (X' := (xS m X34 z)) (cs' := 0) (sl' := 0) (st10 := [vI v34]) B cal_X12_holds kmX12_126 kn_X12_holds ks_X12_holds hkS (by decide) rfl (fun l hl => ct_X12_holds hl e34) rfl (Nat.le_of_ble_eq_true rfl) (by decide) (by decide) dX12_onWall_34 rfl rfl rfl rfl ?_
  refine g_if_ne (pc := 37) (tgt := 42) B dX12_onWall_37 (by decide) (fun c37 => ?_) (fun c37 => ?_)
  · rw [if_neg c37] at h
    refine g_aload_n (pc := 42) B dX12_onWall_42 0 rfl ?_
    obtain ⟨X43, e43, h⟩ := ob h
    refine h_callV (pc := 43) (As := []) (st := []) (X' := (xS m X43 z)) (cs' := 0) (sl' := 0) (st10 := []) B cal_X12_hangsAll kmX12_241 kn_X12_hangsAll ks_X12_hangsAll hkS (by decide) rfl (fun l hl => ct_X12_hangsAll hl e43) rfl (Nat.le_of_ble_eq_true rfl) (by decide) (by decide) dX12_onWall_43 rfl rfl rfl rfl ?_
    refine g_iconst (pc := 46) B dX12_onWall_46 (-1) (by decide) ?_
    refine g_istore_n (pc := 47) (L' := [(3, vI (-1)), (0, vA (some m)), (1, vI x1), (2, vI x2)]) B dX12_onWall_47 (by decide) rfl ?_
    refine g_iconst (pc := 48) B dX12_onWall_48 (0 : Int32) (by decide) ?_
    refine g_istore (pc := 49) (L' := [(4, vI (0 : Int32)), (3, vI (-1)), (0, vA (some m)), (1, vI x1), (2, vI x2)]) B dX12_onWall_49 (by decide) rfl ?_
    refine g_sub (pc := 51) [2, 3, 4, 1, 0] rfl ?_
    exact cb_X12_onWall_L51 B ht h
  · rw [if_pos c37] at h
    refine g_iconst (pc := 40) B dX12_onWall_40 (0 : Int32) (by decide) ?_
    obtain rfl := Option.some.inj h
    exact g_ret_I (pc := 41) B rfl (by decide) (by decide) dX12_onWall_41
set_option maxRecDepth 100000 in
set_option maxHeartbeats 4000000 in
theorem cb_X12_onWall_L33 {D : DD} {ev : EV} {m z : Nat} {X0 : SM} {fu : Nat} {X : SM} {x1 : Int32} {x2 : Int32} {r : Int32 × SM} (B : Amb D (foot (xS m X0 z)) ev RX12 "onWall" cX12_onWall 5 (some .int) rmX12_onWall) (ht : Tb0 ev)  (h : fX12_onWall_L33 fu X x1 x2 = some r) : Gd D (foot (xS m X0 z)) ev (QF D ev (xS m X0 z) (.inr (some (vI r.1))) (xS m r.2 z) rmX12_onWall) (xS m X z) 0 0 33 [(0, vA (some m)), (1, vI x1), (2, vI x2)] [vA (some m)] := by
  unfold fX12_onWall_L33 at h
  refine g_iconst (pc := 33) B dX12_onWall_33 (1 : Int32) (by decide) ?_
  refine g_sub (pc := 34) [0, 1, 2] rfl ?_
  exact cb_X12_onWall_L34 B ht h
set_option maxRecDepth 100000 in
set_option maxHeartbeats 4000000 in
theorem cb_X12_onWall_L0 {D : DD} {ev : EV} {m z : Nat} {X0 : SM} {fu : Nat} {X : SM} {x1 : Int32} {x2 : Int32} {r : Int32 × SM} (B : Amb D (foot (xS m X0 z)) ev RX12 "onWall" cX12_onWall 5 (some .int) rmX12_onWall) (ht : Tb0 ev)  (h : fX12_onWall fu X x1 x2 = some r) : Gd D (foot (xS m X0 z)) ev (QF D ev (xS m X0 z) (.inr (some (vI r.1))) (xS m r.2 z) rmX12_onWall) (xS m X z) 0 0 0 [(0, vA (some m)), (1, vI x1), (2, vI x2)] [] := by
  unfold fX12_onWall at h
  refine g_aload_n (pc := 0) B dX12_onWall_0 0 rfl ?_
  refine g_iload_n (pc := 1) B dX12_onWall_1 1 rfl ?_
  refine g_iconst (pc := 2) B dX12_onWall_2 (0 : Int32) (by decide) ?_
  refine g_aload_n (pc := 3) B dX12_onWall_3 0 rfl ?_
  refine gs_get (pc := 4) 45 B (by decide) (by decide) kfX12_98 dX12_onWall_4 ?_
  refine g_iconst (pc := 7) B dX12_onWall_7 (1 : Int32) (by decide) ?_
  refine g_isub (pc := 8) B dX12_onWall_8 ?_
  obtain ⟨v9, e9, h⟩ := ob h
  refine h_callS (pc := 9) (As := [vI x1, vI (0 : Int32), vI ((sc X 45) - (1 : Int32))]) (st := [vA (some m)]) (X' := (xS m X z)) (cs' := 0) (sl' := 0) (st10 := [vI v9, vA (some m)]) B cal_X12_isIn kmX12_115 kz_X12_isIn (fun l hl => ct_X12_isIn hl e9) rfl (Nat.le_of_ble_eq_true rfl) (by decide) (by decide) dX12_onWall_9 rfl rfl rfl rfl ?_
  refine g_if_eq (pc := 12) (tgt := 33) B dX12_onWall_12 (by decide) (fun c12 => ?_) (fun c12 => ?_)
  · rw [if_pos c12] at h
    refine g_sub (pc := 33) [0, 1, 2] rfl ?_
    exact cb_X12_onWall_L33 B ht h
  · rw [if_neg c12] at h
    refine g_iload_n (pc := 15) B dX12_onWall_15 2 rfl ?_
    refine g_iconst (pc := 16) B dX12_onWall_16 (0 : Int32) (by decide) ?_
    refine g_aload_n (pc := 17) B dX12_onWall_17 0 rfl ?_
    refine gs_get (pc := 18) 46 B (by decide) (by decide) kfX12_102 dX12_onWall_18 ?_
    refine g_iconst (pc := 21) B dX12_onWall_21 (1 : Int32) (by decide) ?_
    refine g_isub (pc := 22) B dX12_onWall_22 ?_
    obtain ⟨v23, e23, h⟩ := ob h
    refine h_callS (pc := 23) (As := [vI x2, vI (0 : Int32), vI ((sc X 46) - (1 : Int32))]) (st := [vA (some m)]) (X' := (xS m X z)) (cs' := 0) (sl' := 0) (st10 := [vI v23, vA (some m)]) B cal_X12_isIn kmX12_115 kz_X12_isIn (fun l hl => ct_X12_isIn hl e23) rfl (Nat.le_of_ble_eq_true rfl) (by decide) (by decide) dX12_onWall_23 rfl rfl rfl rfl ?_
    refine g_if_eq (pc := 26) (tgt := 33) B dX12_onWall_26 (by decide) (fun c26 => ?_) (fun c26 => ?_)
    · rw [if_pos c26] at h
      refine g_sub (pc := 33) [0, 1, 2] rfl ?_
      exact cb_X12_onWall_L33 B ht h
    · rw [if_neg c26] at h
      refine g_iconst (pc := 29) B dX12_onWall_29 (0 : Int32) (by decide) ?_
      refine g_goto (pc := 30) (tgt := 34) B dX12_onWall_30 (by decide) ?_
      refine g_sub (pc := 34) [0, 1, 2] rfl ?_
      exact cb_X12_onWall_L34 B ht h
theorem ct_X12_onWall {D : DD} {l : Launch} {m z : Nat} {X0 : SM} {fu : Nat} {x1 : Int32} {x2 : Int32} {r : Int32 × SM} (hl : l.stackTraces = false) (h : fX12_onWall fu X0 x1 x2 = some r) : Ctr D l yX12_onWall cX12_onWall 5 (some .int) rmX12_onWall [vA (some m), vI x1, vI x2] (xS m X0 z) (.inr (some (vI r.1))) (xS m r.2 z) :=
  ctr_of hl (plainFor_of_name (by decide)) (Nat.le_of_ble_eq_true rfl) fun ev _ ht B => cb_X12_onWall_L0 B ht h
set_option maxRecDepth 100000 in
set_option maxHeartbeats 4000000 in
theorem cb_X12_hung_L70 {D : DD} {ev : EV} {m z : Nat} {X0 : SM} {fu : Nat} {rec31 : SM → Int32 → Int32 → Int32 → Option (Int32 × SM)} {X : SM} {x1 : Int32} {x3 : Int32} {s0 : Int32} {s1 : Int32} {r : Int32 × SM} (B : Amb D (foot (xS m X0 z)) ev RX12 "hung" cX12_hung 4 (some .int) rmX12_hung) (ht : Tb0 ev) (hrec31 : ∀ {X : SM} {x1 : Int32} {x2 : Int32} {x3 : Int32} {r : Int32 × SM}, rec31 X x1 x2 x3 = some r → Gd D (foot (xS m X0 z)) ev (QF D ev (xS m X0 z) (.inr (some (vI r.1))) (xS m r.2 z) rmX12_hung) (xS m X z) 0 0 31 [(0, vA (some m)), (1, vI x1), (2, vI x2), (3, vI x3)] []) (h : fX12_hung_L70 fu rec31 X x1 x3 s0 s1 = some r) : Gd D (foot (xS m X0 z)) ev (QF D ev (xS m X0 z) (.inr (some (vI r.1))) (xS m r.2 z) rmX12_hung) (xS m X z) 0 0 70 [(0, vA (some m)), (1, vI x1), (3, vI x3)] [vI s1, vI s0] := by
  unfold fX12_hung_L70 at h
  refine g_iadd (pc := 70) B dX12_hung_70 ?_
  refine g_istore_n (pc := 71) (L' := [(2, vI (s0 + s1)), (0, vA (some m)), (1, vI x1), (3, vI x3)]) B dX12_hung_71 (by decide) rfl ?_
  refine g_iinc (pc := 72) (v := (x3 + (1 : Int32))) (L' := [(3, vI (x3 + (1 : Int32))), (2, vI (s0 + s1)), (0, vA (some m)), (1, vI x1)]) B dX12_hung_72 (by decide) 3 rfl rfl rfl ?_
  refine g_goto (pc := 75) (tgt := 31) B dX12_hung_75 (by decide) ?_
  refine g_sub (pc := 31) [2, 3, 1, 0] rfl ?_
  exact hrec31 h
set_option maxRecDepth 100000 in
set_option maxHeartbeats 4000000 in
theorem cb_X12_hung_L69 {D : DD} {ev : EV} {m z : Nat} {X0 : SM} {fu : Nat} {rec31 : SM → Int32 → Int32 → Int32 → Option (Int32 × SM)} {X : SM} {x1 : Int32} {x3 : Int32} {s0 : Int32} {r : Int32 × SM} (B : Amb D (foot (xS m X0 z)) ev RX12 "hung" cX12_hung 4 (some .int) rmX12_hung) (ht : Tb0 ev) (hrec31 : ∀ {X : SM} {x1 : Int32} {x2 : Int32} {x3 : Int32} {r : Int32 × SM}, rec31 X x1 x2 x3 = some r → Gd D (foot (xS m X0 z)) ev (QF D ev (xS m X0 z) (.inr (some (vI r.1))) (xS m r.2 z) rmX12_hung) (xS m X z) 0 0 31 [(0, vA (some m)), (1, vI x1), (2, vI x2), (3, vI x3)] []) (h : fX12_hung_L69 fu rec31 X x1 x3 s0 = some r) : Gd D (foot (xS m X0 z)) ev (QF D ev (xS m X0 z) (.inr (some (vI r.1))) (xS m r.2 z) rmX12_hung) (xS m X z) 0 0 69 [(0, vA (some m)), (1, vI x1), (3, vI x3)] [vI s0] := by
  unfold fX12_hung_L69 at h
  refine g_iconst (pc := 69) B dX12_hung_69 (0 : Int32) (by decide) ?_
  refine g_sub (pc := 70) [0, 1, 2] rfl ?_
  exact cb_X12_hung_L70 B ht hrec31 h
set_option maxRecDepth 100000 in
set_option maxHeartbeats 4000000 in
theorem cb_X12_hung_L31b {D : DD} {ev : EV} {m z : Nat} {X0 : SM} {fu : Nat} {rec31 : SM → Int32 → Int32 → Int32 → Option (Int32 × SM)} {X : SM} {x1 : Int32} {x2 : Int32} {x3 : Int32} {r : Int32 × SM} (B : Amb D (foot (xS m X0 z)) ev RX12 "hung" cX12_hung 4 (some .int) rmX12_hung) (ht : Tb0 ev) (hrec31 : ∀ {X : SM} {x1 : Int32} {x2 : Int32} {x3 : Int32} {r : Int32 × SM}, rec31 X x1 x2 x3 = some r → Gd D (foot (xS m X0 z)) ev (QF D ev (xS m X0 z) (.inr (some (vI r.1))) (xS m r.2 z) rmX12_hung) (xS m X z) 0 0 31 [(0, vA (some m)), (1, vI x1), (2, vI x2), (3, vI x3)] []) (h : fX12_hung_L31b fu rec31 X x1 x2 x3 = some r) : Gd D (foot (xS m X0 z)) ev (QF D ev (xS m X0 z) (.inr (some (vI r.1))) (xS m r.2 z) rmX12_hung) (xS m X z) 0 0 31 [(0, vA (some m)), (1, vI x1), (2, vI x2), (3, vI x3)] [] := by
  unfold fX12_hung_L31b at h
  refine g_iload_n (pc := 31) B dX12_hung_31 3 rfl ?_
  refine g_aload_n (pc := 32) B dX12_hung_32 0 rfl ?_
  refine gs_get (pc := 33) 41 B (by decide) (by decide) kfX12_232 dX12_hung_33 ?_
  refine g_icmp_ge (pc := 36) (tgt := 78) B dX12_hung_36 (by decide) (fun c36 => ?_) (fun c36 => ?_)
  · rw [if_pos c36] at h
    refine g_iload_n (pc := 78) B dX12_hung_78 2 rfl ?_
    obtain rfl := Option.some.inj h
    exact g_ret_I (pc := 79) B rfl (by decide) (by decide) dX12_hung_79
  · rw [if_neg c36] at h
    refine g_iload_n (pc := 39) B dX12_hung_39 2 rfl ?_
    refine g_aload_n (pc := 40) B dX12_hung_40 0 rfl ?_
    refine gs_arr (pc := 41) 48 30 B (by decide) (by decide) kfX12_109 dX12_hung_41 ?_
    refine g_iload_n (pc := 44) B dX12_hung_44 3 rfl ?_
    obtain ⟨c45, h⟩ := chk h
    refine gs_iald (pc := 45) B c45 dX12_hung_45 ?_
    refine g_iconst (pc := 46) B dX12_hung_46 (-1) (by decide) ?_
    refine g_icmp_eq (pc := 47) (tgt := 69) B dX12_hung_47 (by decide) (fun c47 => ?_) (fun c47 => ?_)
    · rw [if_pos c47] at h
      refine g_sub (pc := 69) [0, 1, 3] rfl ?_
      exact cb_X12_hung_L69 B ht hrec31 h
    · rw [if_neg c47] at h
      refine g_aload_n (pc := 50) B dX12_hung_50 0 rfl ?_
      refine gs_arr (pc := 51) 9 4 B (by decide) (by decide) kfX12_23 dX12_hung_51 ?_
      refine g_aload_n (pc := 54) B dX12_hung_54 0 rfl ?_
      refine gs_arr (pc := 55) 42 26 B (by decide) (by decide) kfX12_89 dX12_hung_55 ?_
      refine g_iload_n (pc := 58) B dX12_hung_58 3 rfl ?_
      obtain ⟨c59, h⟩ := chk h
      refine gs_iald (pc := 59) B c59 dX12_hung_59 ?_
      obtain ⟨c60, h⟩ := chk h
      refine gs_iald (pc := 60) B c60 dX12_hung_60 ?_
      refine g_iload_n (pc := 61) B dX12_hung_61 1 rfl ?_
      refine g_icmp_ne (pc := 62) (tgt := 69) B dX12_hung_62 (by decide) (fun c62 => ?_) (fun c62 => ?_)
      · rw [if_neg c62] at h
        refine g_sub (pc := 69) [0, 1, 3] rfl ?_
        exact cb_X12_hung_L69 B ht hrec31 h
      · rw [if_pos c62] at h
        refine g_iconst (pc := 65) B dX12_hung_65 (1 : Int32) (by decide) ?_
        refine g_goto (pc := 66) (tgt := 70) B dX12_hung_66 (by decide) ?_
        refine g_sub (pc := 70) [0, 1, 3] rfl ?_
        exact cb_X12_hung_L70 B ht hrec31 h
theorem cb_X12_hung_L31n {D : DD} {ev : EV} {m z : Nat} {X0 : SM} {fu : Nat} (B : Amb D (foot (xS m X0 z)) ev RX12 "hung" cX12_hung 4 (some .int) rmX12_hung) (ht : Tb0 ev)  : ∀ (n : Nat) {X : SM} {x1 : Int32} {x2 : Int32} {x3 : Int32} {r : Int32 × SM}, fX12_hung_L31 fu n X x1 x2 x3 = some r → Gd D (foot (xS m X0 z)) ev (QF D ev (xS m X0 z) (.inr (some (vI r.1))) (xS m r.2 z) rmX12_hung) (xS m X z) 0 0 31 [(0, vA (some m)), (1, vI x1), (2, vI x2), (3, vI x3)] [] := by
  intro n
  induction n with
  | zero => intro X x1 x2 x3 r h; exact nomatch h
  | succ n ih => intro X x1 x2 x3 r h; exact cb_X12_hung_L31b (fu := fu) B ht (fun h9 => ih h9) h
theorem cb_X12_hung_L31 {D : DD} {ev : EV} {m z : Nat} {X0 : SM} {fu : Nat} {X : SM} {x1 : Int32} {x2 : Int32} {x3 : Int32} {n : Nat} {r : Int32 × SM} (B : Amb D (foot (xS m X0 z)) ev RX12 "hung" cX12_hung 4 (some .int) rmX12_hung) (ht : Tb0 ev)  (h : fX12_hung_L31 fu n X x1 x2 x3 = some r) : Gd D (foot (xS m X0 z)) ev (QF D ev (xS m X0 z) (.inr (some (vI r.1))) (xS m r.2 z) rmX12_hung) (xS m X z) 0 0 31 [(0, vA (some m)), (1, vI x1), (2, vI x2), (3, vI x3)] [] := cb_X12_hung_L31n B ht n h
set_option maxRecDepth 100000 in
set_option maxHeartbeats 4000000 in
theorem cb_X12_hung_L15 {D : DD} {ev : EV} {m z : Nat} {X0 : SM} {fu : Nat} {X : SM} {x1 : Int32} {s1 : Int32} {r : Int32 × SM} (B : Amb D (foot (xS m X0 z)) ev RX12 "hung" cX12_hung 4 (some .int) rmX12_hung) (ht : Tb0 ev)  (h : fX12_hung_L15 fu X x1 s1 = some r) : Gd D (foot (xS m X0 z)) ev (QF D ev (xS m X0 z) (.inr (some (vI r.1))) (xS m r.2 z) rmX12_hung) (xS m X z) 0 0 15 [(0, vA (some m)), (1, vI x1)] [vI s1, vA (some m)] := by
  unfold fX12_hung_L15 at h
  obtain ⟨v15, X15, e15, h⟩ := obW h
  refine h_callV (pc := 15) (As := [vI s1]) (st := []) (X' := (xS m X15 z)) (cs' := 0) (sl' := 0) (st10 := [vI v15]) B cal_X12_holds kmX12_126 kn_X12_holds ks_X12_holds hkS (by decide) rfl (fun l hl => ct_X12_holds hl e15) rfl (Nat.le_of_ble_eq_true rfl) (by decide) (by decide) dX12_hung_15 rfl rfl rfl rfl ?_
  refine g_if_ne (pc := 18) (tgt := 23) B dX12_hung_18 (by decide) (fun c18 => ?_) (fun c18 => ?_)
  · rw [if_neg c18] at h
    refine g_aload_n (pc := 23) B dX12_hung_23 0 rfl ?_
    obtain ⟨X24, e24, h⟩ := ob h
    refine h_callV (pc := 24) (As := []) (st := []) (X' := (xS m X24 z)) (cs' := 0) (sl' := 0) (st10 := []) B cal_X12_hangsAll kmX12_241 kn_X12_hangsAll ks_X12_hangsAll hkS (by decide) rfl (fun l hl => ct_X12_hangsAll hl e24) rfl (Nat.le_of_ble_eq_true rfl) (by decide) (by decide) dX12_hung_24 rfl rfl rfl rfl ?_
    refine g_iconst (pc := 27) B dX12_hung_27 (0 : Int32) (by decide) ?_
    refine g_istore_n (pc := 28) (L' := [(2, vI (0 : Int32)), (0, vA (some m)), (1, vI x1)]) B dX12_hung_28 (by decide) rfl ?_
    refine g_iconst (pc := 29) B dX12_hung_29 (0 : Int32) (by decide) ?_
    refine g_istore_n (pc := 30) (L' := [(3, vI (0 : Int32)), (2, vI (0 : Int32)), (0, vA (some m)), (1, vI x1)]) B dX12_hung_30 (by decide) rfl ?_
    refine g_sub (pc := 31) [2, 3, 1, 0] rfl ?_
    exact cb_X12_hung_L31 B ht h
  · rw [if_pos c18] at h
    refine g_iconst (pc := 21) B dX12_hung_21 (0 : Int32) (by decide) ?_
    obtain rfl := Option.some.inj h
    exact g_ret_I (pc := 22) B rfl (by decide) (by decide) dX12_hung_22
set_option maxRecDepth 100000 in
set_option maxHeartbeats 4000000 in
theorem cb_X12_hung_L0 {D : DD} {ev : EV} {m z : Nat} {X0 : SM} {fu : Nat} {X : SM} {x1 : Int32} {r : Int32 × SM} (B : Amb D (foot (xS m X0 z)) ev RX12 "hung" cX12_hung 4 (some .int) rmX12_hung) (ht : Tb0 ev)  (h : fX12_hung fu X x1 = some r) : Gd D (foot (xS m X0 z)) ev (QF D ev (xS m X0 z) (.inr (some (vI r.1))) (xS m r.2 z) rmX12_hung) (xS m X z) 0 0 0 [(0, vA (some m)), (1, vI x1)] [] := by
  unfold fX12_hung at h
  refine g_aload_n (pc := 0) B dX12_hung_0 0 rfl ?_
  refine g_iload_n (pc := 1) B dX12_hung_1 1 rfl ?_
  refine g_iconst (pc := 2) B dX12_hung_2 (0 : Int32) (by decide) ?_
  refine g_iconst (pc := 3) B dX12_hung_3 (5 : Int32) (by decide) ?_
  obtain ⟨v4, e4, h⟩ := ob h
  refine h_callS (pc := 4) (As := [vI x1, vI (0 : Int32), vI (5 : Int32)]) (st := [vA (some m)]) (X' := (xS m X z)) (cs' := 0) (sl' := 0) (st10 := [vI v4, vA (some m)]) B cal_X12_isIn kmX12_115 kz_X12_isIn (fun l hl => ct_X12_isIn hl e4) rfl (Nat.le_of_ble_eq_true rfl) (by decide) (by decide) dX12_hung_4 rfl rfl rfl rfl ?_
  refine g_if_eq (pc := 7) (tgt := 14) B dX12_hung_7 (by decide) (fun c7 => ?_) (fun c7 => ?_)
  · rw [if_pos c7] at h
    refine g_iconst (pc := 14) B dX12_hung_14 (1 : Int32) (by decide) ?_
    refine g_sub (pc := 15) [0, 1] rfl ?_
    exact cb_X12_hung_L15 B ht h
  · rw [if_neg c7] at h
    refine g_iconst (pc := 10) B dX12_hung_10 (0 : Int32) (by decide) ?_
    refine g_goto (pc := 11) (tgt := 15) B dX12_hung_11 (by decide) ?_
    refine g_sub (pc := 15) [0, 1] rfl ?_
    exact cb_X12_hung_L15 B ht h
theorem ct_X12_hung {D : DD} {l : Launch} {m z : Nat} {X0 : SM} {fu : Nat} {x1 : Int32} {r : Int32 × SM} (hl : l.stackTraces = false) (h : fX12_hung fu X0 x1 = some r) : Ctr D l yX12_hung cX12_hung 4 (some .int) rmX12_hung [vA (some m), vI x1] (xS m X0 z) (.inr (some (vI r.1))) (xS m r.2 z) :=
  ctr_of hl (plainFor_of_name (by decide)) (Nat.le_of_ble_eq_true rfl) fun ev _ ht B => cb_X12_hung_L0 B ht h
