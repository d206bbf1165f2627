def rmL_forward : Room := { frames := 9, cells := 4, slots := 22, locals := 154 }
def wrL_forward : String ⊕ (Int32 × Mem) → String ⊕ (Int64 × Mem) := fun r => match r with
  | .inl E => .inl E
  | .inr (v, X1) => .inr (v.toInt64, X1)
set_option maxRecDepth 100000 in
set_option maxHeartbeats 4000000 in
theorem cw_L_forward {D : DD} {l : Launch} {X : Mem} {x oa : Nat} {g : Nat → Int64} {x1 : Int32} {x2 : Int32} {r : String ⊕ (Int32 × Mem)} (hl : l.stackTraces = false) (h : fX11_forward X x x1 x2 = some r) (hx : mK X x = some (11, 0)) (ho : mK X oa = none) (ho2 : ∀ v X1, r = .inr (v, X1) → mK X1 oa = none) (hE : ∀ E, r = .inl E → E ∈ (["java/lang/IndexOutOfBoundsException", "java/lang/IllegalArgumentException", "java/lang/IllegalStateException"] : List String)) : CtrP D l yL_forward cL_forward 5 (some .int) [(0, 10, 13, 13), (0, 10, 17, 15), (0, 10, 21, 17)] rmL_forward [vA (some x), vI x1, vI x2, vA (some oa)] (uM X (oM oa g)) (wPost oa g ["java/lang/IndexOutOfBoundsException", "java/lang/IllegalArgumentException", "java/lang/IllegalStateException"] X (wrL_forward r)) := by
  refine ctrP_of hl (by decide) (Nat.le_of_ble_eq_true rfl) fun ev ht B => ?_
  refine g_aload_n (pc := 0) B dL_forward_0 3 rfl ?_
  refine g_iconst (pc := 1) B dL_forward_1 (0 : Int32) (by decide) ?_
  refine g_aload_n (pc := 2) B dL_forward_2 0 rfl ?_
  refine g_iload_n (pc := 3) B dL_forward_3 1 rfl ?_
  refine g_iload_n (pc := 4) B dL_forward_4 2 rfl ?_
  rcases r with E | ⟨v, X1⟩
  · refine h_callVT (pc := 5) (As := [vI x1, vI x2]) (st := [vI (0 : Int32), vA (some oa)]) (X' := uM X (oM oa g)) B cal_X11_forward kmL_7 kn_X11_forward ks_X11_forward (uM_Kl hx) (by decide) rfl (fun l hl => (ct_X11_forward hl h).frame _ (apM_o ho)) rfl (Nat.le_of_ble_eq_true rfl) (by decide) (by decide) dL_forward_5 rfl ?_
    have hm := hE E rfl
    rcases List.mem_cons.mp hm with rfl | hm
    · refine g_catch (pc := 5) [] (0, 10, 13, 13) [(0, 10, 17, 15), (0, 10, 21, 17)] B ht rfl (fun z hz => nomatch hz) ⟨by decide, by decide⟩ (by decide) kxL_13 (List.mem_of_getElem? (i := 0) rfl) (fun z q => ?_)
      refine g_astore (pc := 13) (L' := [(4, vA (some q)), (0, vA (some x)), (1, vI x1), (2, vI x2), (3, vA (some oa))]) B dL_forward_13 (by decide) rfl ?_
      refine g_iconst (pc := 15) B dL_forward_15 (1 : Int32) (by decide) ?_
      exact p_ret_I (pc := 16) B rfl ⟨0, z, rfl, rfl, rfl⟩ (by decide) (by decide) dL_forward_16
    rcases List.mem_cons.mp hm with rfl | hm
    · refine g_catch (pc := 5) [(0, 10, 13, 13)] (0, 10, 17, 15) [(0, 10, 21, 17)] B ht rfl (List.forall_mem_cons.mpr ⟨⟨by decide, _, kxL_13, List.mem_of_getElem? (i := 0) rfl⟩, (fun z hz => nomatch hz)⟩) ⟨by decide, by decide⟩ (by decide) kxL_15 (List.mem_of_getElem? (i := 1) rfl) (fun z q => ?_)
      refine g_astore (pc := 17) (L' := [(4, vA (some q)), (0, vA (some x)), (1, vI x1), (2, vI x2), (3, vA (some oa))]) B dL_forward_17 (by decide) rfl ?_
      refine g_iconst (pc := 19) B dL_forward_19 (2 : Int32) (by decide) ?_
      exact p_ret_I (pc := 20) B rfl ⟨1, z, rfl, rfl, rfl⟩ (by decide) (by decide) dL_forward_20
    rcases List.mem_cons.mp hm with rfl | hm
    · refine g_catch (pc := 5) [(0, 10, 13, 13), (0, 10, 17, 15)] (0, 10, 21, 17) [] B ht rfl (List.forall_mem_cons.mpr ⟨⟨by decide, _, kxL_13, List.mem_of_getElem? (i := 1) rfl⟩, (List.forall_mem_cons.mpr ⟨⟨by decide, _, kxL_15, List.mem_of_getElem? (i := 2) rfl⟩, (fun z hz => nomatch hz)⟩)⟩) ⟨by decide, by decide⟩ (by decide) kxL_17 (List.mem_of_getElem? (i := 2) rfl) (fun z q => ?_)
      refine g_astore (pc := 21) (L' := [(4, vA (some q)), (0, vA (some x)), (1, vI x1), (2, vI x2), (3, vA (some oa))]) B dL_forward_21 (by decide) rfl ?_
      refine g_iconst (pc := 23) B dL_forward_23 (3 : Int32) (by decide) ?_
      exact p_ret_I (pc := 24) B rfl ⟨2, z, rfl, rfl, rfl⟩ (by decide) (by decide) dL_forward_24
    exact nomatch hm
  · refine h_callV (pc := 5) (As := [vI x1, vI x2]) (st := [vI (0 : Int32), vA (some oa)]) (X' := uM X1 (oM oa g)) (cs' := 4) (sl' := 22) (st10 := [vI v, vI (0 : Int32), vA (some oa)]) B cal_X11_forward kmL_7 kn_X11_forward ks_X11_forward (uM_Kl hx) (by decide) rfl (fun l hl => (ct_X11_forward hl h).frame _ (apM_o ho)) rfl (Nat.le_of_ble_eq_true rfl) (by decide) (by decide) dL_forward_5 rfl rfl rfl rfl ?_
    refine g_i2l (pc := 8) B dL_forward_8 ?_
    refine g_last (pc := 9) B ((uM_Kr (ho2 v X1 rfl)).trans oM_K) vin01 dL_forward_9 ?_
    rw [uM_sJ (ho2 v X1 rfl)]
    refine g_goto (pc := 10) (tgt := 25) B dL_forward_10 (by decide) ?_
    refine g_iconst (pc := 25) B dL_forward_25 (0 : Int32) (by decide) ?_
    exact p_ret_I (pc := 26) B rfl ⟨rfl, rfl⟩ (by decide) (by decide) dL_forward_26
def rmL_turn : Room := { frames := 9, cells := 4, slots := 22, locals := 154 }
def wrL_turn : String ⊕ (Int32 × Mem) → String ⊕ (Int64 × Mem) := fun r => match r with
  | .inl E => .inl E
  | .inr (v, X1) => .inr (v.toInt64, X1)
set_option maxRecDepth 100000 in
set_option maxHeartbeats 4000000 in
theorem cw_L_turn {D : DD} {l : Launch} {X : Mem} {x oa : Nat} {g : Nat → Int64} {x1 : Int32} {x2 : Int32} {r : String ⊕ (Int32 × Mem)} (hl : l.stackTraces = false) (h : fX11_turn X x x1 x2 = some r) (hx : mK X x = some (11, 0)) (ho : mK X oa = none) (ho2 : ∀ v X1, r = .inr (v, X1) → mK X1 oa = none) (hE : ∀ E, r = .inl E → E ∈ (["java/lang/IndexOutOfBoundsException", "java/lang/IllegalArgumentException", "java/lang/IllegalStateException"] : List String)) : CtrP D l yL_turn cL_turn 5 (some .int) [(0, 10, 13, 13), (0, 10, 17, 15), (0, 10, 21, 17)] rmL_turn [vA (some x), vI x1, vI x2, vA (some oa)] (uM X (oM oa g)) (wPost oa g ["java/lang/IndexOutOfBoundsException", "java/lang/IllegalArgumentException", "java/lang/IllegalStateException"] X (wrL_turn r)) := by
  refine ctrP_of hl (by decide) (Nat.le_of_ble_eq_true rfl) fun ev ht B => ?_
  refine g_aload_n (pc := 0) B dL_turn_0 3 rfl ?_
  refine g_iconst (pc := 1) B dL_turn_1 (0 : Int32) (by decide) ?_
  refine g_aload_n (pc := 2) B dL_turn_2 0 rfl ?_
  refine g_iload_n (pc := 3) B dL_turn_3 1 rfl ?_
  refine g_iload_n (pc := 4) B dL_turn_4 2 rfl ?_
  rcases r with E | ⟨v, X1⟩
  · refine h_callVT (pc := 5) (As := [vI x1, vI x2]) (st := [vI (0 : Int32), vA (some oa)]) (X' := uM X (oM oa g)) B cal_X11_turn kmL_19 kn_X11_turn ks_X11_turn (uM_Kl hx) (by decide) rfl (fun l hl => (ct_X11_turn hl h).frame _ (apM_o ho)) rfl (Nat.le_of_ble_eq_true rfl) (by decide) (by decide) dL_turn_5 rfl ?_
    have hm := hE E rfl
    rcases List.mem_cons.mp hm with rfl | hm
    · refine g_catch (pc := 5) [] (0, 10, 13, 13) [(0, 10, 17, 15), (0, 10, 21, 17)] B ht rfl (fun z hz => nomatch hz) ⟨by decide, by decide⟩ (by decide) kxL_13 (List.mem_of_getElem? (i := 0) rfl) (fun z q => ?_)
      refine g_astore (pc := 13) (L' := [(4, vA (some q)), (0, vA (some x)), (1, vI x1), (2, vI x2), (3, vA (some oa))]) B dL_turn_13 (by decide) rfl ?_
      refine g_iconst (pc := 15) B dL_turn_15 (1 : Int32) (by decide) ?_
      exact p_ret_I (pc := 16) B rfl ⟨0, z, rfl, rfl, rfl⟩ (by decide) (by decide) dL_turn_16
    rcases List.mem_cons.mp hm with rfl | hm
    · refine g_catch (pc := 5) [(0, 10, 13, 13)] (0, 10, 17, 15) [(0, 10, 21, 17)] B ht rfl (List.forall_mem_cons.mpr ⟨⟨by decide, _, kxL_13, List.mem_of_getElem? (i := 0) rfl⟩, (fun z hz => nomatch hz)⟩) ⟨by decide, by decide⟩ (by decide) kxL_15 (List.mem_of_getElem? (i := 1) rfl) (fun z q => ?_)
      refine g_astore (pc := 17) (L' := [(4, vA (some q)), (0, vA (some x)), (1, vI x1), (2, vI x2), (3, vA (some oa))]) B dL_turn_17 (by decide) rfl ?_
      refine g_iconst (pc := 19) B dL_turn_19 (2 : Int32) (by decide) ?_
      exact p_ret_I (pc := 20) B rfl ⟨1, z, rfl, rfl, rfl⟩ (by decide) (by decide) dL_turn_20
    rcases List.mem_cons.mp hm with rfl | hm
    · refine g_catch (pc := 5) [(0, 10, 13, 13), (0, 10, 17, 15)] (0, 10, 21, 17) [] B ht rfl (List.forall_mem_cons.mpr ⟨⟨by decide, _, kxL_13, List.mem_of_getElem? (i := 1) rfl⟩, (List.forall_mem_cons.mpr ⟨⟨by decide, _, kxL_15, List.mem_of_getElem? (i := 2) rfl⟩, (fun z hz => nomatch hz)⟩)⟩) ⟨by decide, by decide⟩ (by decide) kxL_17 (List.mem_of_getElem? (i := 2) rfl) (fun z q => ?_)
      refine g_astore (pc := 21) (L' := [(4, vA (some q)), (0, vA (some x)), (1, vI x1), (2, vI x2), (3, vA (some oa))]) B dL_turn_21 (by decide) rfl ?_
      refine g_iconst (pc := 23) B dL_turn_23 (3 : Int32) (by decide) ?_
      exact p_ret_I (pc := 24) B rfl ⟨2, z, rfl, rfl, rfl⟩ (by decide) (by decide) dL_turn_24
    exact nomatch hm
  · refine h_callV (pc := 5) (As := [vI x1, vI x2]) (st := [vI (0 : Int32), vA (some oa)]) (X' := uM X1 (oM oa g)) (cs' := 4) (sl' := 22) (st10 := [vI v, vI (0 : Int32), vA (some oa)]) B cal_X11_turn kmL_19 kn_X11_turn ks_X11_turn (uM_Kl hx) (by decide) rfl (fun l hl => (ct_X11_turn hl h).frame _ (apM_o ho)) rfl (Nat.le_of_ble_eq_true rfl) (by decide) (by decide) dL_turn_5 rfl rfl rfl rfl ?_
    refine g_i2l (pc := 8) B dL_turn_8 ?_
    refine g_last (pc := 9) B ((uM_Kr (ho2 v X1 rfl)).trans oM_K) vin01 dL_turn_9 ?_
    rw [uM_sJ (ho2 v X1 rfl)]
    refine g_goto (pc := 10) (tgt := 25) B dL_turn_10 (by decide) ?_
    refine g_iconst (pc := 25) B dL_turn_25 (0 : Int32) (by decide) ?_
    exact p_ret_I (pc := 26) B rfl ⟨rfl, rfl⟩ (by decide) (by decide) dL_turn_26
def rmL_pen : Room := { frames := 8, cells := 2, slots := 10, locals := 135 }
def wrL_pen : String ⊕ (Int32 × Mem) → String ⊕ (Int64 × Mem) := fun r => match r with
  | .inl E => .inl E
  | .inr (v, X1) => .inr (v.toInt64, X1)
set_option maxRecDepth 100000 in
set_option maxHeartbeats 4000000 in
theorem cw_L_pen {D : DD} {l : Launch} {X : Mem} {x oa : Nat} {g : Nat → Int64} {x1 : Int32} {r : String ⊕ (Int32 × Mem)} (hl : l.stackTraces = false) (h : fX11_pen X x x1 = some r) (hx : mK X x = some (11, 0)) (ho : mK X oa = none) (ho2 : ∀ v X1, r = .inr (v, X1) → mK X1 oa = none) (hE : ∀ E, r = .inl E → E ∈ (["java/lang/IllegalStateException"] : List String)) : CtrP D l yL_pen cL_pen 4 (some .int) [(0, 9, 12, 17)] rmL_pen [vA (some x), vI x1, vA (some oa)] (uM X (oM oa g)) (wPost oa g ["java/lang/IllegalStateException"] X (wrL_pen r)) := by
  refine ctrP_of hl (by decide) (Nat.le_of_ble_eq_true rfl) fun ev ht B => ?_
  refine g_aload_n (pc := 0) B dL_pen_0 2 rfl ?_
  refine g_iconst (pc := 1) B dL_pen_1 (0 : Int32) (by decide) ?_
  refine g_aload_n (pc := 2) B dL_pen_2 0 rfl ?_
  refine g_iload_n (pc := 3) B dL_pen_3 1 rfl ?_
  rcases r with E | ⟨v, X1⟩
  · refine h_callVT (pc := 4) (As := [vI x1]) (st := [vI (0 : Int32), vA (some oa)]) (X' := uM X (oM oa g)) B cal_X11_pen kmL_22 kn_X11_pen ks_X11_pen (uM_Kl hx) (by decide) rfl (fun l hl => (ct_X11_pen hl h).frame _ (apM_o ho)) rfl (Nat.le_of_ble_eq_true rfl) (by decide) (by decide) dL_pen_4 rfl ?_
    have hm := hE E rfl
    rcases List.mem_cons.mp hm with rfl | hm
    · refine g_catch (pc := 4) [] (0, 9, 12, 17) [] B ht rfl (fun z hz => nomatch hz) ⟨by decide, by decide⟩ (by decide) kxL_17 (List.mem_of_getElem? (i := 2) rfl) (fun z q => ?_)
      refine g_astore_n (pc := 12) (L' := [(3, vA (some q)), (0, vA (some x)), (1, vI x1), (2, vA (some oa))]) B dL_pen_12 (by decide) rfl ?_
      refine g_iconst (pc := 13) B dL_pen_13 (1 : Int32) (by decide) ?_
      exact p_ret_I (pc := 14) B rfl ⟨0, z, rfl, rfl, rfl⟩ (by decide) (by decide) dL_pen_14
    exact nomatch hm
  · refine h_callV (pc := 4) (As := [vI x1]) (st := [vI (0 : Int32), vA (some oa)]) (X' := uM X1 (oM oa g)) (cs' := 2) (sl' := 10) (st10 := [vI v, vI (0 : Int32), vA (some oa)]) B cal_X11_pen kmL_22 kn_X11_pen ks_X11_pen (uM_Kl hx) (by decide) rfl (fun l hl => (ct_X11_pen hl h).frame _ (apM_o ho)) rfl (Nat.le_of_ble_eq_true rfl) (by decide) (by decide) dL_pen_4 rfl rfl rfl rfl ?_
    refine g_i2l (pc := 7) B dL_pen_7 ?_
    refine g_last (pc := 8) B ((uM_Kr (ho2 v X1 rfl)).trans oM_K) vin01 dL_pen_8 ?_
    rw [uM_sJ (ho2 v X1 rfl)]
    refine g_goto (pc := 9) (tgt := 15) B dL_pen_9 (by decide) ?_
    refine g_iconst (pc := 15) B dL_pen_15 (0 : Int32) (by decide) ?_
    exact p_ret_I (pc := 16) B rfl ⟨rfl, rfl⟩ (by decide) (by decide) dL_pen_16
def rmL_set : Room := { frames := 9, cells := 5, slots := 28, locals := 155 }
def wrL_set : String ⊕ (Int32 × Mem) → String ⊕ (Int64 × Mem) := fun r => match r with
  | .inl E => .inl E
  | .inr (v, X1) => .inr (v.toInt64, X1)
set_option maxRecDepth 100000 in
set_option maxHeartbeats 4000000 in
theorem cw_L_set {D : DD} {l : Launch} {X : Mem} {x oa : Nat} {g : Nat → Int64} {x1 : Int32} {x2 : Int32} {x3 : Int32} {r : String ⊕ (Int32 × Mem)} (hl : l.stackTraces = false) (h : fX11_set X x x1 x2 x3 = some r) (hx : mK X x = some (11, 0)) (ho : mK X oa = none) (ho2 : ∀ v X1, r = .inr (v, X1) → mK X1 oa = none) (hE : ∀ E, r = .inl E → E ∈ (["java/lang/IndexOutOfBoundsException", "java/lang/IllegalArgumentException", "java/lang/IllegalStateException"] : List String)) : CtrP D l yL_set cL_set 6 (some .int) [(0, 12, 15, 13), (0, 12, 19, 15), (0, 12, 23, 17)] rmL_set [vA (some x), vI x1, vI x2, vI x3, vA (some oa)] (uM X (oM oa g)) (wPost oa g ["java/lang/IndexOutOfBoundsException", "java/lang/IllegalArgumentException", "java/lang/IllegalStateException"] X (wrL_set r)) := by
  refine ctrP_of hl (by decide) (Nat.le_of_ble_eq_true rfl) fun ev ht B => ?_
  refine g_aload (pc := 0) B dL_set_0 4 rfl ?_
  refine g_iconst (pc := 2) B dL_set_2 (0 : Int32) (by decide) ?_
  refine g_aload_n (pc := 3) B dL_set_3 0 rfl ?_
  refine g_iload_n (pc := 4) B dL_set_4 1 rfl ?_
  refine g_iload_n (pc := 5) B dL_set_5 2 rfl ?_
  refine g_iload_n (pc := 6) B dL_set_6 3 rfl ?_
  rcases r with E | ⟨v, X1⟩
  · refine h_callVT (pc := 7) (As := [vI x1, vI x2, vI x3]) (st := [vI (0 : Int32), vA (some oa)]) (X' := uM X (oM oa g)) B cal_X11_set kmL_26 kn_X11_set ks_X11_set (uM_Kl hx) (by decide) rfl (fun l hl => (ct_X11_set hl h).frame _ (apM_o ho)) rfl (Nat.le_of_ble_eq_true rfl) (by decide) (by decide) dL_set_7 rfl ?_
    have hm := hE E rfl
    rcases List.mem_cons.mp hm with rfl | hm
    · refine g_catch (pc := 7) [] (0, 12, 15, 13) [(0, 12, 19, 15), (0, 12, 23, 17)] B ht rfl (fun z hz => nomatch hz) ⟨by decide, by decide⟩ (by decide) kxL_13 (List.mem_of_getElem? (i := 0) rfl) (fun z q => ?_)
      refine g_astore (pc := 15) (L' := [(5, vA (some q)), (0, vA (some x)), (1, vI x1), (2, vI x2), (3, vI x3), (4, vA (some oa))]) B dL_set_15 (by decide) rfl ?_
      refine g_iconst (pc := 17) B dL_set_17 (1 : Int32) (by decide) ?_
      exact p_ret_I (pc := 18) B rfl ⟨0, z, rfl, rfl, rfl⟩ (by decide) (by decide) dL_set_18
    rcases List.mem_cons.mp hm with rfl | hm
    · refine g_catch (pc := 7) [(0, 12, 15, 13)] (0, 12, 19, 15) [(0, 12, 23, 17)] B ht rfl (List.forall_mem_cons.mpr ⟨⟨by decide, _, kxL_13, List.mem_of_getElem? (i := 0) rfl⟩, (fun z hz => nomatch hz)⟩) ⟨by decide, by decide⟩ (by decide) kxL_15 (List.mem_of_getElem? (i := 1) rfl) (fun z q => ?_)
      refine g_astore (pc := 19) (L' := [(5, vA (some q)), (0, vA (some x)), (1, vI x1), (2, vI x2), (3, vI x3), (4, vA (some oa))]) B dL_set_19 (by decide) rfl ?_
      refine g_iconst (pc := 21) B dL_set_21 (2 : Int32) (by decide) ?_
      exact p_ret_I (pc := 22) B rfl ⟨1, z, rfl, rfl, rfl⟩ (by decide) (by decide) dL_set_22
    rcases List.mem_cons.mp hm with rfl | hm
    · refine g_catch (pc := 7) [(0, 12, 15, 13), (0, 12, 19, 15)] (0, 12, 23, 17) [] B ht rfl (List.forall_mem_cons.mpr ⟨⟨by decide, _, kxL_13, List.mem_of_getElem? (i := 1) rfl⟩, (List.forall_mem_cons.mpr ⟨⟨by decide, _, kxL_15, List.mem_of_getElem? (i := 2) rfl⟩, (fun z hz => nomatch hz)⟩)⟩) ⟨by decide, by decide⟩ (by decide) kxL_17 (List.mem_of_getElem? (i := 2) rfl) (fun z q => ?_)
      refine g_astore (pc := 23) (L' := [(5, vA (some q)), (0, vA (some x)), (1, vI x1), (2, vI x2), (3, vI x3), (4, vA (some oa))]) B dL_set_23 (by decide) rfl ?_
      refine g_iconst (pc := 25) B dL_set_25 (3 : Int32) (by decide) ?_
      exact p_ret_I (pc := 26) B rfl ⟨2, z, rfl, rfl, rfl⟩ (by decide) (by decide) dL_set_26
    exact nomatch hm
  · refine h_callV (pc := 7) (As := [vI x1, vI x2, vI x3]) (st := [vI (0 : Int32), vA (some oa)]) (X' := uM X1 (oM oa g)) (cs' := 5) (sl' := 28) (st10 := [vI v, vI (0 : Int32), vA (some oa)]) B cal_X11_set kmL_26 kn_X11_set ks_X11_set (uM_Kl hx) (by decide) rfl (fun l hl => (ct_X11_set hl h).frame _ (apM_o ho)) rfl (Nat.le_of_ble_eq_true rfl) (by decide) (by decide) dL_set_7 rfl rfl rfl rfl ?_
    refine g_i2l (pc := 10) B dL_set_10 ?_
    refine g_last (pc := 11) B ((uM_Kr (ho2 v X1 rfl)).trans oM_K) vin01 dL_set_11 ?_
    rw [uM_sJ (ho2 v X1 rfl)]
    refine g_goto (pc := 12) (tgt := 27) B dL_set_12 (by decide) ?_
    refine g_iconst (pc := 27) B dL_set_27 (0 : Int32) (by decide) ?_
    exact p_ret_I (pc := 28) B rfl ⟨rfl, rfl⟩ (by decide) (by decide) dL_set_28
def rmL_add : Room := { frames := 9, cells := 5, slots := 28, locals := 155 }
def wrL_add : String ⊕ (Int32 × Mem) → String ⊕ (Int64 × Mem) := fun r => match r with
  | .inl E => .inl E
  | .inr (v, X1) => .inr (v.toInt64, X1)
set_option maxRecDepth 100000 in
set_option maxHeartbeats 4000000 in
theorem cw_L_add {D : DD} {l : Launch} {X : Mem} {x oa : Nat} {g : Nat → Int64} {x1 : Int32} {x2 : Int32} {x3 : Int32} {r : String ⊕ (Int32 × Mem)} (hl : l.stackTraces = false) (h : fX11_add X x x1 x2 x3 = some r) (hx : mK X x = some (11, 0)) (ho : mK X oa = none) (ho2 : ∀ v X1, r = .inr (v, X1) → mK X1 oa = none) (hE : ∀ E, r = .inl E → E ∈ (["java/lang/IndexOutOfBoundsException", "java/lang/IllegalArgumentException", "java/lang/IllegalStateException"] : List String)) : CtrP D l yL_add cL_add 6 (some .int) [(0, 12, 15, 13), (0, 12, 19, 15), (0, 12, 23, 17)] rmL_add [vA (some x), vI x1, vI x2, vI x3, vA (some oa)] (uM X (oM oa g)) (wPost oa g ["java/lang/IndexOutOfBoundsException", "java/lang/IllegalArgumentException", "java/lang/IllegalStateException"] X (wrL_add r)) := by
  refine ctrP_of hl (by decide) (Nat.le_of_ble_eq_true rfl) fun ev ht B => ?_
  refine g_aload (pc := 0) B dL_add_0 4 rfl ?_
  refine g_iconst (pc := 2) B dL_add_2 (0 : Int32) (by decide) ?_
  refine g_aload_n (pc := 3) B dL_add_3 0 rfl ?_
  refine g_iload_n (pc := 4) B dL_add_4 1 rfl ?_
  refine g_iload_n (pc := 5) B dL_add_5 2 rfl ?_
  refine g_iload_n (pc := 6) B dL_add_6 3 rfl ?_
  rcases r with E | ⟨v, X1⟩
  · refine h_callVT (pc := 7) (As := [vI x1, vI x2, vI x3]) (st := [vI (0 : Int32), vA (some oa)]) (X' := uM X (oM oa g)) B cal_X11_add kmL_30 kn_X11_add ks_X11_add (uM_Kl hx) (by decide) rfl (fun l hl => (ct_X11_add hl h).frame _ (apM_o ho)) rfl (Nat.le_of_ble_eq_true rfl) (by decide) (by decide) dL_add_7 rfl ?_
    have hm := hE E rfl
    rcases List.mem_cons.mp hm with rfl | hm
    · refine g_catch (pc := 7) [] (0, 12, 15, 13) [(0, 12, 19, 15), (0, 12, 23, 17)] B ht rfl (fun z hz => nomatch hz) ⟨by decide, by decide⟩ (by decide) kxL_13 (List.mem_of_getElem? (i := 0) rfl) (fun z q => ?_)
      refine g_astore (pc := 15) (L' := [(5, vA (some q)), (0, vA (some x)), (1, vI x1), (2, vI x2), (3, vI x3), (4, vA (some oa))]) B dL_add_15 (by decide) rfl ?_
      refine g_iconst (pc := 17) B dL_add_17 (1 : Int32) (by decide) ?_
      exact p_ret_I (pc := 18) B rfl ⟨0, z, rfl, rfl, rfl⟩ (by decide) (by decide) dL_add_18
    rcases List.mem_cons.mp hm with rfl | hm
    · refine g_catch (pc := 7) [(0, 12, 15, 13)] (0, 12, 19, 15) [(0, 12, 23, 17)] B ht rfl (List.forall_mem_cons.mpr ⟨⟨by decide, _, kxL_13, List.mem_of_getElem? (i := 0) rfl⟩, (fun z hz => nomatch hz)⟩) ⟨by decide, by decide⟩ (by decide) kxL_15 (List.mem_of_getElem? (i := 1) rfl) (fun z q => ?_)
      refine g_astore (pc := 19) (L' := [(5, vA (some q)), (0, vA (some x)), (1, vI x1), (2, vI x2), (3, vI x3), (4, vA (some oa))]) B dL_add_19 (by decide) rfl ?_
      refine g_iconst (pc := 21) B dL_add_21 (2 : Int32) (by decide) ?_
      exact p_ret_I (pc := 22) B rfl ⟨1, z, rfl, rfl, rfl⟩ (by decide) (by decide) dL_add_22
    rcases List.mem_cons.mp hm with rfl | hm
    · refine g_catch (pc := 7) [(0, 12, 15, 13), (0, 12, 19, 15)] (0, 12, 23, 17) [] B ht rfl (List.forall_mem_cons.mpr ⟨⟨by decide, _, kxL_13, List.mem_of_getElem? (i := 1) rfl⟩, (List.forall_mem_cons.mpr ⟨⟨by decide, _, kxL_15, List.mem_of_getElem? (i := 2) rfl⟩, (fun z hz => nomatch hz)⟩)⟩) ⟨by decide, by decide⟩ (by decide) kxL_17 (List.mem_of_getElem? (i := 2) rfl) (fun z q => ?_)
      refine g_astore (pc := 23) (L' := [(5, vA (some q)), (0, vA (some x)), (1, vI x1), (2, vI x2), (3, vI x3), (4, vA (some oa))]) B dL_add_23 (by decide) rfl ?_
      refine g_iconst (pc := 25) B dL_add_25 (3 : Int32) (by decide) ?_
      exact p_ret_I (pc := 26) B rfl ⟨2, z, rfl, rfl, rfl⟩ (by decide) (by decide) dL_add_26
    exact nomatch hm
  · refine h_callV (pc := 7) (As := [vI x1, vI x2, vI x3]) (st := [vI (0 : Int32), vA (some oa)]) (X' := uM X1 (oM oa g)) (cs' := 5) (sl' := 28) (st10 := [vI v, vI (0 : Int32), vA (some oa)]) B cal_X11_add kmL_30 kn_X11_add ks_X11_add (uM_Kl hx) (by decide) rfl (fun l hl => (ct_X11_add hl h).frame _ (apM_o ho)) rfl (Nat.le_of_ble_eq_true rfl) (by decide) (by decide) dL_add_7 rfl rfl rfl rfl ?_
    refine g_i2l (pc := 10) B dL_add_10 ?_
    refine g_last (pc := 11) B ((uM_Kr (ho2 v X1 rfl)).trans oM_K) vin01 dL_add_11 ?_
    rw [uM_sJ (ho2 v X1 rfl)]
    refine g_goto (pc := 12) (tgt := 27) B dL_add_12 (by decide) ?_
    refine g_iconst (pc := 27) B dL_add_27 (0 : Int32) (by decide) ?_
    exact p_ret_I (pc := 28) B rfl ⟨rfl, rfl⟩ (by decide) (by decide) dL_add_28
def rmL_repeat : Room := { frames := 9, cells := 4, slots := 22, locals := 154 }
def wrL_repeat : String ⊕ (Int32 × Mem) → String ⊕ (Int64 × Mem) := fun r => match r with
  | .inl E => .inl E
  | .inr (v, X1) => .inr (v.toInt64, X1)
set_option maxRecDepth 100000 in
set_option maxHeartbeats 4000000 in
theorem cw_L_repeat {D : DD} {l : Launch} {X : Mem} {x oa : Nat} {g : Nat → Int64} {x1 : Int32} {x2 : Int32} {r : String ⊕ (Int32 × Mem)} (hl : l.stackTraces = false) (h : fX11_repeat X x x1 x2 = some r) (hx : mK X x = some (11, 0)) (ho : mK X oa = none) (ho2 : ∀ v X1, r = .inr (v, X1) → mK X1 oa = none) (hE : ∀ E, r = .inl E → E ∈ (["java/lang/IndexOutOfBoundsException", "java/lang/IllegalArgumentException", "java/lang/IllegalStateException"] : List String)) : CtrP D l yL_repeat cL_repeat 5 (some .int) [(0, 10, 13, 13), (0, 10, 17, 15), (0, 10, 21, 17)] rmL_repeat [vA (some x), vI x1, vI x2, vA (some oa)] (uM X (oM oa g)) (wPost oa g ["java/lang/IndexOutOfBoundsException", "java/lang/IllegalArgumentException", "java/lang/IllegalStateException"] X (wrL_repeat r)) := by
  refine ctrP_of hl (by decide) (Nat.le_of_ble_eq_true rfl) fun ev ht B => ?_
  refine g_aload_n (pc := 0) B dL_repeat_0 3 rfl ?_
  refine g_iconst (pc := 1) B dL_repeat_1 (0 : Int32) (by decide) ?_
  refine g_aload_n (pc := 2) B dL_repeat_2 0 rfl ?_
  refine g_iload_n (pc := 3) B dL_repeat_3 1 rfl ?_
  refine g_iload_n (pc := 4) B dL_repeat_4 2 rfl ?_
  rcases r with E | ⟨v, X1⟩
  · refine h_callVT (pc := 5) (As := [vI x1, vI x2]) (st := [vI (0 : Int32), vA (some oa)]) (X' := uM X (oM oa g)) B cal_X11_repeat kmL_33 kn_X11_repeat ks_X11_repeat (uM_Kl hx) (by decide) rfl (fun l hl => (ct_X11_repeat hl h).frame _ (apM_o ho)) rfl (Nat.le_of_ble_eq_true rfl) (by decide) (by decide) dL_repeat_5 rfl ?_
    have hm := hE E rfl
    rcases List.mem_cons.mp hm with rfl | hm
    · refine g_catch (pc := 5) [] (0, 10, 13, 13) [(0, 10, 17, 15), (0, 10, 21, 17)] B ht rfl (fun z hz => nomatch hz) ⟨by decide, by decide⟩ (by decide) kxL_13 (List.mem_of_getElem? (i := 0) rfl) (fun z q => ?_)
      refine g_astore (pc := 13) (L' := [(4, vA (some q)), (0, vA (some x)), (1, vI x1), (2, vI x2), (3, vA (some oa))]) B dL_repeat_13 (by decide) rfl ?_
      refine g_iconst (pc := 15) B dL_repeat_15 (1 : Int32) (by decide) ?_
      exact p_ret_I (pc := 16) B rfl ⟨0, z, rfl, rfl, rfl⟩ (by decide) (by decide) dL_repeat_16
    rcases List.mem_cons.mp hm with rfl | hm
    · refine g_catch (pc := 5) [(0, 10, 13, 13)] (0, 10, 17, 15) [(0, 10, 21, 17)] B ht rfl (List.forall_mem_cons.mpr ⟨⟨by decide, _, kxL_13, List.mem_of_getElem? (i := 0) rfl⟩, (fun z hz => nomatch hz)⟩) ⟨by decide, by decide⟩ (by decide) kxL_15 (List.mem_of_getElem? (i := 1) rfl) (fun z q => ?_)
      refine g_astore (pc := 17) (L' := [(4, vA (some q)), (0, vA (some x)), (1, vI x1), (2, vI x2), (3, vA (some oa))]) B dL_repeat_17 (by decide) rfl ?_
      refine g_iconst (pc := 19) B dL_repeat_19 (2 : Int32) (by decide) ?_
      exact p_ret_I (pc := 20) B rfl ⟨1, z, rfl, rfl, rfl⟩ (by decide) (by decide) dL_repeat_20
    rcases List.mem_cons.mp hm with rfl | hm
    · refine g_catch (pc := 5) [(0, 10, 13, 13), (0, 10, 17, 15)] (0, 10, 21, 17) [] B ht rfl (List.forall_mem_cons.mpr ⟨⟨by decide, _, kxL_13, List.mem_of_getElem? (i := 1) rfl⟩, (List.forall_mem_cons.mpr ⟨⟨by decide, _, kxL_15, List.mem_of_getElem? (i := 2) rfl⟩, (fun z hz => nomatch hz)⟩)⟩) ⟨by decide, by decide⟩ (by decide) kxL_17 (List.mem_of_getElem? (i := 2) rfl) (fun z q => ?_)
      refine g_astore (pc := 21) (L' := [(4, vA (some q)), (0, vA (some x)), (1, vI x1), (2, vI x2), (3, vA (some oa))]) B dL_repeat_21 (by decide) rfl ?_
      refine g_iconst (pc := 23) B dL_repeat_23 (3 : Int32) (by decide) ?_
      exact p_ret_I (pc := 24) B rfl ⟨2, z, rfl, rfl, rfl⟩ (by decide) (by decide) dL_repeat_24
    exact nomatch hm
  · refine h_callV (pc := 5) (As := [vI x1, vI x2]) (st := [vI (0 : Int32), vA (some oa)]) (X' := uM X1 (oM oa g)) (cs' := 4) (sl' := 22) (st10 := [vI v, vI (0 : Int32), vA (some oa)]) B cal_X11_repeat kmL_33 kn_X11_repeat ks_X11_repeat (uM_Kl hx) (by decide) rfl (fun l hl => (ct_X11_repeat hl h).frame _ (apM_o ho)) rfl (Nat.le_of_ble_eq_true rfl) (by decide) (by decide) dL_repeat_5 rfl rfl rfl rfl ?_
    refine g_i2l (pc := 8) B dL_repeat_8 ?_
    refine g_last (pc := 9) B ((uM_Kr (ho2 v X1 rfl)).trans oM_K) vin01 dL_repeat_9 ?_
    rw [uM_sJ (ho2 v X1 rfl)]
    refine g_goto (pc := 10) (tgt := 25) B dL_repeat_10 (by decide) ?_
    refine g_iconst (pc := 25) B dL_repeat_25 (0 : Int32) (by decide) ?_
    exact p_ret_I (pc := 26) B rfl ⟨rfl, rfl⟩ (by decide) (by decide) dL_repeat_26
def rmL_word : Room := { frames := 8, cells := 4, slots := 22, locals := 135 }
def wrL_word : String ⊕ (Int32 × Mem) → String ⊕ (Int64 × Mem) := fun r => match r with
  | .inl E => .inl E
  | .inr (v, X1) => .inr (v.toInt64, X1)
set_option maxRecDepth 100000 in
set_option maxHeartbeats 4000000 in
theorem cw_L_word {D : DD} {l : Launch} {X : Mem} {x oa : Nat} {g : Nat → Int64} {x1 : Int32} {r : String ⊕ (Int32 × Mem)} (hl : l.stackTraces = false) (h : fX11_word X x x1 = some r) (hx : mK X x = some (11, 0)) (ho : mK X oa = none) (ho2 : ∀ v X1, r = .inr (v, X1) → mK X1 oa = none) (hE : ∀ E, r = .inl E → E ∈ (["java/lang/IndexOutOfBoundsException", "java/lang/IllegalStateException"] : List String)) : CtrP D l yL_word cL_word 4 (some .int) [(0, 9, 12, 13), (0, 9, 15, 17)] rmL_word [vA (some x), vI x1, vA (some oa)] (uM X (oM oa g)) (wPost oa g ["java/lang/IndexOutOfBoundsException", "java/lang/IllegalStateException"] X (wrL_word r)) := by
  refine ctrP_of hl (by decide) (Nat.le_of_ble_eq_true rfl) fun ev ht B => ?_
  refine g_aload_n (pc := 0) B dL_word_0 2 rfl ?_
  refine g_iconst (pc := 1) B dL_word_1 (0 : Int32) (by decide) ?_
  refine g_aload_n (pc := 2) B dL_word_2 0 rfl ?_
  refine g_iload_n (pc := 3) B dL_word_3 1 rfl ?_
  rcases r with E | ⟨v, X1⟩
  · refine h_callVT (pc := 4) (As := [vI x1]) (st := [vI (0 : Int32), vA (some oa)]) (X' := uM X (oM oa g)) B cal_X11_word kmL_36 kn_X11_word ks_X11_word (uM_Kl hx) (by decide) rfl (fun l hl => (ct_X11_word hl h).frame _ (apM_o ho)) rfl (Nat.le_of_ble_eq_true rfl) (by decide) (by decide) dL_word_4 rfl ?_
    have hm := hE E rfl
    rcases List.mem_cons.mp hm with rfl | hm
    · refine g_catch (pc := 4) [] (0, 9, 12, 13) [(0, 9, 15, 17)] B ht rfl (fun z hz => nomatch hz) ⟨by decide, by decide⟩ (by decide) kxL_13 (List.mem_of_getElem? (i := 0) rfl) (fun z q => ?_)
      refine g_astore_n (pc := 12) (L' := [(3, vA (some q)), (0, vA (some x)), (1, vI x1), (2, vA (some oa))]) B dL_word_12 (by decide) rfl ?_
      refine g_iconst (pc := 13) B dL_word_13 (1 : Int32) (by decide) ?_
      exact p_ret_I (pc := 14) B rfl ⟨0, z, rfl, rfl, rfl⟩ (by decide) (by decide) dL_word_14
    rcases List.mem_cons.mp hm with rfl | hm
    · refine g_catch (pc := 4) [(0, 9, 12, 13)] (0, 9, 15, 17) [] B ht rfl (List.forall_mem_cons.mpr ⟨⟨by decide, _, kxL_13, List.mem_of_getElem? (i := 1) rfl⟩, (fun z hz => nomatch hz)⟩) ⟨by decide, by decide⟩ (by decide) kxL_17 (List.mem_of_getElem? (i := 2) rfl) (fun z q => ?_)
      refine g_astore_n (pc := 15) (L' := [(3, vA (some q)), (0, vA (some x)), (1, vI x1), (2, vA (some oa))]) B dL_word_15 (by decide) rfl ?_
      refine g_iconst (pc := 16) B dL_word_16 (2 : Int32) (by decide) ?_
      exact p_ret_I (pc := 17) B rfl ⟨1, z, rfl, rfl, rfl⟩ (by decide) (by decide) dL_word_17
    exact nomatch hm
  · refine h_callV (pc := 4) (As := [vI x1]) (st := [vI (0 : Int32), vA (some oa)]) (X' := uM X1 (oM oa g)) (cs' := 4) (sl' := 22) (st10 := [vI v, vI (0 : Int32), vA (some oa)]) B cal_X11_word kmL_36 kn_X11_word ks_X11_word (uM_Kl hx) (by decide) rfl (fun l hl => (ct_X11_word hl h).frame _ (apM_o ho)) rfl (Nat.le_of_ble_eq_true rfl) (by decide) (by decide) dL_word_4 rfl rfl rfl rfl ?_
    refine g_i2l (pc := 7) B dL_word_7 ?_
    refine g_last (pc := 8) B ((uM_Kr (ho2 v X1 rfl)).trans oM_K) vin01 dL_word_8 ?_
    rw [uM_sJ (ho2 v X1 rfl)]
    refine g_goto (pc := 9) (tgt := 18) B dL_word_9 (by decide) ?_
    refine g_iconst (pc := 18) B dL_word_18 (0 : Int32) (by decide) ?_
    exact p_ret_I (pc := 19) B rfl ⟨rfl, rfl⟩ (by decide) (by decide) dL_word_19
def rmL_call : Room := { frames := 8, cells := 3, slots := 16, locals := 135 }
def wrL_call : String ⊕ (Int32 × Mem) → String ⊕ (Int64 × Mem) := fun r => match r with
  | .inl E => .inl E
  | .inr (v, X1) => .inr (v.toInt64, X1)
set_option maxRecDepth 100000 in
set_option maxHeartbeats 4000000 in
theorem cw_L_call {D : DD} {l : Launch} {X : Mem} {x oa : Nat} {g : Nat → Int64} {x1 : Int32} {r : String ⊕ (Int32 × Mem)} (hl : l.stackTraces = false) (h : fX11_call X x x1 = some r) (hx : mK X x = some (11, 0)) (ho : mK X oa = none) (ho2 : ∀ v X1, r = .inr (v, X1) → mK X1 oa = none) (hE : ∀ E, r = .inl E → E ∈ (["java/lang/IndexOutOfBoundsException", "java/lang/IllegalStateException"] : List String)) : CtrP D l yL_call cL_call 4 (some .int) [(0, 9, 12, 13), (0, 9, 15, 17)] rmL_call [vA (some x), vI x1, vA (some oa)] (uM X (oM oa g)) (wPost oa g ["java/lang/IndexOutOfBoundsException", "java/lang/IllegalStateException"] X (wrL_call r)) := by
  refine ctrP_of hl (by decide) (Nat.le_of_ble_eq_true rfl) fun ev ht B => ?_
  refine g_aload_n (pc := 0) B dL_call_0 2 rfl ?_
  refine g_iconst (pc := 1) B dL_call_1 (0 : Int32) (by decide) ?_
  refine g_aload_n (pc := 2) B dL_call_2 0 rfl ?_
  refine g_iload_n (pc := 3) B dL_call_3 1 rfl ?_
  rcases r with E | ⟨v, X1⟩
  · refine h_callVT (pc := 4) (As := [vI x1]) (st := [vI (0 : Int32), vA (some oa)]) (X' := uM X (oM oa g)) B cal_X11_call kmL_40 kn_X11_call ks_X11_call (uM_Kl hx) (by decide) rfl (fun l hl => (ct_X11_call hl h).frame _ (apM_o ho)) rfl (Nat.le_of_ble_eq_true rfl) (by decide) (by decide) dL_call_4 rfl ?_
    have hm := hE E rfl
    rcases List.mem_cons.mp hm with rfl | hm
    · refine g_catch (pc := 4) [] (0, 9, 12, 13) [(0, 9, 15, 17)] B ht rfl (fun z hz => nomatch hz) ⟨by decide, by decide⟩ (by decide) kxL_13 (List.mem_of_getElem? (i := 0) rfl) (fun z q => ?_)
      refine g_astore_n (pc := 12) (L' := [(3, vA (some q)), (0, vA (some x)), (1, vI x1), (2, vA (some oa))]) B dL_call_12 (by decide) rfl ?_
      refine g_iconst (pc := 13) B dL_call_13 (1 : Int32) (by decide) ?_
      exact p_ret_I (pc := 14) B rfl ⟨0, z, rfl, rfl, rfl⟩ (by decide) (by decide) dL_call_14
    rcases List.mem_cons.mp hm with rfl | hm
    · refine g_catch (pc := 4) [(0, 9, 12, 13)] (0, 9, 15, 17) [] B ht rfl (List.forall_mem_cons.mpr ⟨⟨by decide, _, kxL_13, List.mem_of_getElem? (i := 1) rfl⟩, (fun z hz => nomatch hz)⟩) ⟨by decide, by decide⟩ (by decide) kxL_17 (List.mem_of_getElem? (i := 2) rfl) (fun z q => ?_)
      refine g_astore_n (pc := 15) (L' := [(3, vA (some q)), (0, vA (some x)), (1, vI x1), (2, vA (some oa))]) B dL_call_15 (by decide) rfl ?_
      refine g_iconst (pc := 16) B dL_call_16 (2 : Int32) (by decide) ?_
      exact p_ret_I (pc := 17) B rfl ⟨1, z, rfl, rfl, rfl⟩ (by decide) (by decide) dL_call_17
    exact nomatch hm
  · refine h_callV (pc := 4) (As := [vI x1]) (st := [vI (0 : Int32), vA (some oa)]) (X' := uM X1 (oM oa g)) (cs' := 3) (sl' := 16) (st10 := [vI v, vI (0 : Int32), vA (some oa)]) B cal_X11_call kmL_40 kn_X11_call ks_X11_call (uM_Kl hx) (by decide) rfl (fun l hl => (ct_X11_call hl h).frame _ (apM_o ho)) rfl (Nat.le_of_ble_eq_true rfl) (by decide) (by decide) dL_call_4 rfl rfl rfl rfl ?_
    refine g_i2l (pc := 7) B dL_call_7 ?_
    refine g_last (pc := 8) B ((uM_Kr (ho2 v X1 rfl)).trans oM_K) vin01 dL_call_8 ?_
    rw [uM_sJ (ho2 v X1 rfl)]
    refine g_goto (pc := 9) (tgt := 18) B dL_call_9 (by decide) ?_
    refine g_iconst (pc := 18) B dL_call_18 (0 : Int32) (by decide) ?_
    exact p_ret_I (pc := 19) B rfl ⟨rfl, rfl⟩ (by decide) (by decide) dL_call_19
def rmL_end : Room := { frames := 8, cells := 3, slots := 16, locals := 134 }
def wrL_end : String ⊕ (Int32 × Mem) → String ⊕ (Int64 × Mem) := fun r => match r with
  | .inl E => .inl E
  | .inr (v, X1) => .inr (v.toInt64, X1)
set_option maxRecDepth 100000 in
set_option maxHeartbeats 4000000 in
theorem cw_L_end {D : DD} {l : Launch} {X : Mem} {x oa : Nat} {g : Nat → Int64} {r : String ⊕ (Int32 × Mem)} (hl : l.stackTraces = false) (h : fX11_end X x  = some r) (hx : mK X x = some (11, 0)) (ho : mK X oa = none) (ho2 : ∀ v X1, r = .inr (v, X1) → mK X1 oa = none) (hE : ∀ E, r = .inl E → E ∈ (["java/lang/IllegalStateException"] : List String)) : CtrP D l yL_end cL_end 3 (some .int) [(0, 8, 11, 17)] rmL_end [vA (some x), vA (some oa)] (uM X (oM oa g)) (wPost oa g ["java/lang/IllegalStateException"] X (wrL_end r)) := by
  refine ctrP_of hl (by decide) (Nat.le_of_ble_eq_true rfl) fun ev ht B => ?_
  refine g_aload_n (pc := 0) B dL_end_0 1 rfl ?_
  refine g_iconst (pc := 1) B dL_end_1 (0 : Int32) (by decide) ?_
  refine g_aload_n (pc := 2) B dL_end_2 0 rfl ?_
  rcases r with E | ⟨v, X1⟩
  · refine h_callVT (pc := 3) (As := []) (st := [vI (0 : Int32), vA (some oa)]) (X' := uM X (oM oa g)) B cal_X11_end kmL_43 kn_X11_end ks_X11_end (uM_Kl hx) (by decide) rfl (fun l hl => (ct_X11_end hl h).frame _ (apM_o ho)) rfl (Nat.le_of_ble_eq_true rfl) (by decide) (by decide) dL_end_3 rfl ?_
    have hm := hE E rfl
    rcases List.mem_cons.mp hm with rfl | hm
    · refine g_catch (pc := 3) [] (0, 8, 11, 17) [] B ht rfl (fun z hz => nomatch hz) ⟨by decide, by decide⟩ (by decide) kxL_17 (List.mem_of_getElem? (i := 2) rfl) (fun z q => ?_)
      refine g_astore_n (pc := 11) (L' := [(2, vA (some q)), (0, vA (some x)), (1, vA (some oa))]) B dL_end_11 (by decide) rfl ?_
      refine g_iconst (pc := 12) B dL_end_12 (1 : Int32) (by decide) ?_
      exact p_ret_I (pc := 13) B rfl ⟨0, z, rfl, rfl, rfl⟩ (by decide) (by decide) dL_end_13
    exact nomatch hm
  · refine h_callV (pc := 3) (As := []) (st := [vI (0 : Int32), vA (some oa)]) (X' := uM X1 (oM oa g)) (cs' := 3) (sl' := 16) (st10 := [vI v, vI (0 : Int32), vA (some oa)]) B cal_X11_end kmL_43 kn_X11_end ks_X11_end (uM_Kl hx) (by decide) rfl (fun l hl => (ct_X11_end hl h).frame _ (apM_o ho)) rfl (Nat.le_of_ble_eq_true rfl) (by decide) (by decide) dL_end_3 rfl rfl rfl rfl ?_
    refine g_i2l (pc := 6) B dL_end_6 ?_
    refine g_last (pc := 7) B ((uM_Kr (ho2 v X1 rfl)).trans oM_K) vin01 dL_end_7 ?_
    rw [uM_sJ (ho2 v X1 rfl)]
    refine g_goto (pc := 8) (tgt := 14) B dL_end_8 (by decide) ?_
    refine g_iconst (pc := 14) B dL_end_14 (0 : Int32) (by decide) ?_
    exact p_ret_I (pc := 15) B rfl ⟨rfl, rfl⟩ (by decide) (by decide) dL_end_15
def rmL_write : Room := { frames := 8, cells := 15, slots := 177, locals := 166 }
def wrL_write : String ⊕ (Int32 × Mem) → String ⊕ (Int64 × Mem) := fun r => match r with
  | .inl E => .inl E
  | .inr (v, X1) => .inr (v.toInt64, X1)
set_option maxRecDepth 100000 in
set_option maxHeartbeats 4000000 in
theorem cw_L_write {D : DD} {l : Launch} {X : Mem} {x oa : Nat} {g : Nat → Int64} {fu : Nat} {x1 : Int32} {r : String ⊕ (Int32 × Mem)} (hl : l.stackTraces = false) (h : fX11_write fu X x x1 = some r) (hx : mK X x = some (11, 0)) (ho : mK X oa = none) (ho2 : ∀ v X1, r = .inr (v, X1) → mK X1 oa = none) (hE : ∀ E, r = .inl E → E ∈ (["java/lang/IndexOutOfBoundsException", "java/lang/IllegalStateException"] : List String)) : CtrP D l yL_write cL_write 4 (some .int) [(0, 9, 12, 13), (0, 9, 15, 17)] rmL_write [vA (some x), vI x1, vA (some oa)] (uM X (oM oa g)) (wPost oa g ["java/lang/IndexOutOfBoundsException", "java/lang/IllegalStateException"] X (wrL_write r)) := by
  refine ctrP_of hl (by decide) (Nat.le_of_ble_eq_true rfl) fun ev ht B => ?_
  refine g_aload_n (pc := 0) B dL_write_0 2 rfl ?_
  refine g_iconst (pc := 1) B dL_write_1 (0 : Int32) (by decide) ?_
  refine g_aload_n (pc := 2) B dL_write_2 0 rfl ?_
  refine g_iload_n (pc := 3) B dL_write_3 1 rfl ?_
  rcases r with E | ⟨v, X1⟩
  · refine h_callVT (pc := 4) (As := [vI x1]) (st := [vI (0 : Int32), vA (some oa)]) (X' := uM X (oM oa g)) B cal_X11_write kmL_47 kn_X11_write ks_X11_write (uM_Kl hx) (by decide) rfl (fun l hl => (ct_X11_write hl h).frame _ (apM_o ho)) rfl (Nat.le_of_ble_eq_true rfl) (by decide) (by decide) dL_write_4 rfl ?_
    have hm := hE E rfl
    rcases List.mem_cons.mp hm with rfl | hm
    · refine g_catch (pc := 4) [] (0, 9, 12, 13) [(0, 9, 15, 17)] B ht rfl (fun z hz => nomatch hz) ⟨by decide, by decide⟩ (by decide) kxL_13 (List.mem_of_getElem? (i := 0) rfl) (fun z q => ?_)
      refine g_astore_n (pc := 12) (L' := [(3, vA (some q)), (0, vA (some x)), (1, vI x1), (2, vA (some oa))]) B dL_write_12 (by decide) rfl ?_
      refine g_iconst (pc := 13) B dL_write_13 (1 : Int32) (by decide) ?_
      exact p_ret_I (pc := 14) B rfl ⟨0, z, rfl, rfl, rfl⟩ (by decide) (by decide) dL_write_14
    rcases List.mem_cons.mp hm with rfl | hm
    · refine g_catch (pc := 4) [(0, 9, 12, 13)] (0, 9, 15, 17) [] B ht rfl (List.forall_mem_cons.mpr ⟨⟨by decide, _, kxL_13, List.mem_of_getElem? (i := 1) rfl⟩, (fun z hz => nomatch hz)⟩) ⟨by decide, by decide⟩ (by decide) kxL_17 (List.mem_of_getElem? (i := 2) rfl) (fun z q => ?_)
      refine g_astore_n (pc := 15) (L' := [(3, vA (some q)), (0, vA (some x)), (1, vI x1), (2, vA (some oa))]) B dL_write_15 (by decide) rfl ?_
      refine g_iconst (pc := 16) B dL_write_16 (2 : Int32) (by decide) ?_
      exact p_ret_I (pc := 17) B rfl ⟨1, z, rfl, rfl, rfl⟩ (by decide) (by decide) dL_write_17
    exact nomatch hm
  · refine h_callV (pc := 4) (As := [vI x1]) (st := [vI (0 : Int32), vA (some oa)]) (X' := uM X1 (oM oa g)) (cs' := 15) (sl' := 177) (st10 := [vI v, vI (0 : Int32), vA (some oa)]) B cal_X11_write kmL_47 kn_X11_write ks_X11_write (uM_Kl hx) (by decide) rfl (fun l hl => (ct_X11_write hl h).frame _ (apM_o ho)) rfl (Nat.le_of_ble_eq_true rfl) (by decide) (by decide) dL_write_4 rfl rfl rfl rfl ?_
    refine g_i2l (pc := 7) B dL_write_7 ?_
    refine g_last (pc := 8) B ((uM_Kr (ho2 v X1 rfl)).trans oM_K) vin01 dL_write_8 ?_
    rw [uM_sJ (ho2 v X1 rfl)]
    refine g_goto (pc := 9) (tgt := 18) B dL_write_9 (by decide) ?_
    refine g_iconst (pc := 18) B dL_write_18 (0 : Int32) (by decide) ?_
    exact p_ret_I (pc := 19) B rfl ⟨rfl, rfl⟩ (by decide) (by decide) dL_write_19
def rmL_exercise : Room := { frames := 8, cells := 4, slots := 21, locals := 137 }
def wrL_exercise : String ⊕ (Int32 × Mem) → String ⊕ (Int64 × Mem) := fun r => match r with
  | .inl E => .inl E
  | .inr (v, X1) => .inr (v.toInt64, X1)
set_option maxRecDepth 100000 in
set_option maxHeartbeats 4000000 in
theorem cw_L_exercise {D : DD} {l : Launch} {X : Mem} {x oa : Nat} {g : Nat → Int64} {x1 : Int32} {x2 : Int32} {x3 : Int32} {r : String ⊕ (Int32 × Mem)} (hl : l.stackTraces = false) (h : fX11_exercise X x x1 x2 x3 = some r) (hx : mK X x = some (11, 0)) (ho : mK X oa = none) (ho2 : ∀ v X1, r = .inr (v, X1) → mK X1 oa = none) (hE : ∀ E, r = .inl E → E ∈ (["java/lang/IndexOutOfBoundsException", "java/lang/IllegalArgumentException", "java/lang/IllegalStateException"] : List String)) : CtrP D l yL_exercise cL_exercise 6 (some .int) [(0, 12, 15, 13), (0, 12, 19, 15), (0, 12, 23, 17)] rmL_exercise [vA (some x), vI x1, vI x2, vI x3, vA (some oa)] (uM X (oM oa g)) (wPost oa g ["java/lang/IndexOutOfBoundsException", "java/lang/IllegalArgumentException", "java/lang/IllegalStateException"] X (wrL_exercise r)) := by
  refine ctrP_of hl (by decide) (Nat.le_of_ble_eq_true rfl) fun ev ht B => ?_
  refine g_aload (pc := 0) B dL_exercise_0 4 rfl ?_
  refine g_iconst (pc := 2) B dL_exercise_2 (0 : Int32) (by decide) ?_
  refine g_aload_n (pc := 3) B dL_exercise_3 0 rfl ?_
  refine g_iload_n (pc := 4) B dL_exercise_4 1 rfl ?_
  refine g_iload_n (pc := 5) B dL_exercise_5 2 rfl ?_
  refine g_iload_n (pc := 6) B dL_exercise_6 3 rfl ?_
  rcases r with E | ⟨v, X1⟩
  · refine h_callVT (pc := 7) (As := [vI x1, vI x2, vI x3]) (st := [vI (0 : Int32), vA (some oa)]) (X' := uM X (oM oa g)) B cal_X11_exercise kmL_50 kn_X11_exercise ks_X11_exercise (uM_Kl hx) (by decide) rfl (fun l hl => (ct_X11_exercise hl h).frame _ (apM_o ho)) rfl (Nat.le_of_ble_eq_true rfl) (by decide) (by decide) dL_exercise_7 rfl ?_
    have hm := hE E rfl
    rcases List.mem_cons.mp hm with rfl | hm
    · refine g_catch (pc := 7) [] (0, 12, 15, 13) [(0, 12, 19, 15), (0, 12, 23, 17)] B ht rfl (fun z hz => nomatch hz) ⟨by decide, by decide⟩ (by decide) kxL_13 (List.mem_of_getElem? (i := 0) rfl) (fun z q => ?_)
      refine g_astore (pc := 15) (L' := [(5, vA (some q)), (0, vA (some x)), (1, vI x1), (2, vI x2), (3, vI x3), (4, vA (some oa))]) B dL_exercise_15 (by decide) rfl ?_
      refine g_iconst (pc := 17) B dL_exercise_17 (1 : Int32) (by decide) ?_
      exact p_ret_I (pc := 18) B rfl ⟨0, z, rfl, rfl, rfl⟩ (by decide) (by decide) dL_exercise_18
    rcases List.mem_cons.mp hm with rfl | hm
    · refine g_catch (pc := 7) [(0, 12, 15, 13)] (0, 12, 19, 15) [(0, 12, 23, 17)] B ht rfl (List.forall_mem_cons.mpr ⟨⟨by decide, _, kxL_13, List.mem_of_getElem? (i := 0) rfl⟩, (fun z hz => nomatch hz)⟩) ⟨by decide, by decide⟩ (by decide) kxL_15 (List.mem_of_getElem? (i := 1) rfl) (fun z q => ?_)
      refine g_astore (pc := 19) (L' := [(5, vA (some q)), (0, vA (some x)), (1, vI x1), (2, vI x2), (3, vI x3), (4, vA (some oa))]) B dL_exercise_19 (by decide) rfl ?_
      refine g_iconst (pc := 21) B dL_exercise_21 (2 : Int32) (by decide) ?_
      exact p_ret_I (pc := 22) B rfl ⟨1, z, rfl, rfl, rfl⟩ (by decide) (by decide) dL_exercise_22
    rcases List.mem_cons.mp hm with rfl | hm
    · refine g_catch (pc := 7) [(0, 12, 15, 13), (0, 12, 19, 15)] (0, 12, 23, 17) [] B ht rfl (List.forall_mem_cons.mpr ⟨⟨by decide, _, kxL_13, List.mem_of_getElem? (i := 1) rfl⟩, (List.forall_mem_cons.mpr ⟨⟨by decide, _, kxL_15, List.mem_of_getElem? (i := 2) rfl⟩, (fun z hz => nomatch hz)⟩)⟩) ⟨by decide, by decide⟩ (by decide) kxL_17 (List.mem_of_getElem? (i := 2) rfl) (fun z q => ?_)
      refine g_astore (pc := 23) (L' := [(5, vA (some q)), (0, vA (some x)), (1, vI x1), (2, vI x2), (3, vI x3), (4, vA (some oa))]) B dL_exercise_23 (by decide) rfl ?_
      refine g_iconst (pc := 25) B dL_exercise_25 (3 : Int32) (by decide) ?_
      exact p_ret_I (pc := 26) B rfl ⟨2, z, rfl, rfl, rfl⟩ (by decide) (by decide) dL_exercise_26
    exact nomatch hm
  · refine h_callV (pc := 7) (As := [vI x1, vI x2, vI x3]) (st := [vI (0 : Int32), vA (some oa)]) (X' := uM X1 (oM oa g)) (cs' := 4) (sl' := 21) (st10 := [vI v, vI (0 : Int32), vA (some oa)]) B cal_X11_exercise kmL_50 kn_X11_exercise ks_X11_exercise (uM_Kl hx) (by decide) rfl (fun l hl => (ct_X11_exercise hl h).frame _ (apM_o ho)) rfl (Nat.le_of_ble_eq_true rfl) (by decide) (by decide) dL_exercise_7 rfl rfl rfl rfl ?_
    refine g_i2l (pc := 10) B dL_exercise_10 ?_
    refine g_last (pc := 11) B ((uM_Kr (ho2 v X1 rfl)).trans oM_K) vin01 dL_exercise_11 ?_
    rw [uM_sJ (ho2 v X1 rfl)]
    refine g_goto (pc := 12) (tgt := 27) B dL_exercise_12 (by decide) ?_
    refine g_iconst (pc := 27) B dL_exercise_27 (0 : Int32) (by decide) ?_
    exact p_ret_I (pc := 28) B rfl ⟨rfl, rfl⟩ (by decide) (by decide) dL_exercise_28
def rmL_allow : Room := { frames := 8, cells := 2, slots := 12, locals := 154 }
def wrL_allow : String ⊕ (Int32 × Mem) → String ⊕ (Int64 × Mem) := fun r => match r with
  | .inl E => .inl E
  | .inr (v, X1) => .inr (v.toInt64, X1)
set_option maxRecDepth 100000 in
set_option maxHeartbeats 4000000 in
theorem cw_L_allow {D : DD} {l : Launch} {X : Mem} {x oa : Nat} {g : Nat → Int64} {fu : Nat} {x1 : Int32} {x2 : Int32} {x3 : Int32} {r : String ⊕ (Int32 × Mem)} (hl : l.stackTraces = false) (h : fX11_allow fu X x x1 x2 x3 = some r) (hx : mK X x = some (11, 0)) (ho : mK X oa = none) (ho2 : ∀ v X1, r = .inr (v, X1) → mK X1 oa = none) (hE : ∀ E, r = .inl E → E ∈ (["java/lang/IndexOutOfBoundsException", "java/lang/IllegalArgumentException"] : List String)) : CtrP D l yL_allow cL_allow 6 (some .int) [(0, 12, 15, 13), (0, 12, 19, 15)] rmL_allow [vA (some x), vI x1, vI x2, vI x3, vA (some oa)] (uM X (oM oa g)) (wPost oa g ["java/lang/IndexOutOfBoundsException", "java/lang/IllegalArgumentException"] X (wrL_allow r)) := by
  refine ctrP_of hl (by decide) (Nat.le_of_ble_eq_true rfl) fun ev ht B => ?_
  refine g_aload (pc := 0) B dL_allow_0 4 rfl ?_
  refine g_iconst (pc := 2) B dL_allow_2 (0 : Int32) (by decide) ?_
  refine g_aload_n (pc := 3) B dL_allow_3 0 rfl ?_
  refine g_iload_n (pc := 4) B dL_allow_4 1 rfl ?_
  refine g_iload_n (pc := 5) B dL_allow_5 2 rfl ?_
  refine g_iload_n (pc := 6) B dL_allow_6 3 rfl ?_
  rcases r with E | ⟨v, X1⟩
  · refine h_callVT (pc := 7) (As := [vI x1, vI x2, vI x3]) (st := [vI (0 : Int32), vA (some oa)]) (X' := uM X (oM oa g)) B cal_X11_allow kmL_54 kn_X11_allow ks_X11_allow (uM_Kl hx) (by decide) rfl (fun l hl => (ct_X11_allow hl h).frame _ (apM_o ho)) rfl (Nat.le_of_ble_eq_true rfl) (by decide) (by decide) dL_allow_7 rfl ?_
    have hm := hE E rfl
    rcases List.mem_cons.mp hm with rfl | hm
    · refine g_catch (pc := 7) [] (0, 12, 15, 13) [(0, 12, 19, 15)] B ht rfl (fun z hz => nomatch hz) ⟨by decide, by decide⟩ (by decide) kxL_13 (List.mem_of_getElem? (i := 0) rfl) (fun z q => ?_)
      refine g_astore (pc := 15) (L' := [(5, vA (some q)), (0, vA (some x)), (1, vI x1), (2, vI x2), (3, vI x3), (4, vA (some oa))]) B dL_allow_15 (by decide) rfl ?_
      refine g_iconst (pc := 17) B dL_allow_17 (1 : Int32) (by decide) ?_
      exact p_ret_I (pc := 18) B rfl ⟨0, z, rfl, rfl, rfl⟩ (by decide) (by decide) dL_allow_18
    rcases List.mem_cons.mp hm with rfl | hm
    · refine g_catch (pc := 7) [(0, 12, 15, 13)] (0, 12, 19, 15) [] B ht rfl (List.forall_mem_cons.mpr ⟨⟨by decide, _, kxL_13, List.mem_of_getElem? (i := 0) rfl⟩, (fun z hz => nomatch hz)⟩) ⟨by decide, by decide⟩ (by decide) kxL_15 (List.mem_of_getElem? (i := 1) rfl) (fun z q => ?_)
      refine g_astore (pc := 19) (L' := [(5, vA (some q)), (0, vA (some x)), (1, vI x1), (2, vI x2), (3, vI x3), (4, vA (some oa))]) B dL_allow_19 (by decide) rfl ?_
      refine g_iconst (pc := 21) B dL_allow_21 (2 : Int32) (by decide) ?_
      exact p_ret_I (pc := 22) B rfl ⟨1, z, rfl, rfl, rfl⟩ (by decide) (by decide) dL_allow_22
    exact nomatch hm
  · refine h_callV (pc := 7) (As := [vI x1, vI x2, vI x3]) (st := [vI (0 : Int32), vA (some oa)]) (X' := uM X1 (oM oa g)) (cs' := 2) (sl' := 12) (st10 := [vI v, vI (0 : Int32), vA (some oa)]) B cal_X11_allow kmL_54 kn_X11_allow ks_X11_allow (uM_Kl hx) (by decide) rfl (fun l hl => (ct_X11_allow hl h).frame _ (apM_o ho)) rfl (Nat.le_of_ble_eq_true rfl) (by decide) (by decide) dL_allow_7 rfl rfl rfl rfl ?_
    refine g_i2l (pc := 10) B dL_allow_10 ?_
    refine g_last (pc := 11) B ((uM_Kr (ho2 v X1 rfl)).trans oM_K) vin01 dL_allow_11 ?_
    rw [uM_sJ (ho2 v X1 rfl)]
    refine g_goto (pc := 12) (tgt := 23) B dL_allow_12 (by decide) ?_
    refine g_iconst (pc := 23) B dL_allow_23 (0 : Int32) (by decide) ?_
    exact p_ret_I (pc := 24) B rfl ⟨rfl, rfl⟩ (by decide) (by decide) dL_allow_24
def rmL_handIn : Room := { frames := 8, cells := 4, slots := 25, locals := 153 }
def wrL_handIn : String ⊕ (Int32 × Mem) → String ⊕ (Int64 × Mem) := fun r => match r with
  | .inl E => .inl E
  | .inr (v, X1) => .inr (v.toInt64, X1)
set_option maxRecDepth 100000 in
set_option maxHeartbeats 4000000 in
theorem cw_L_handIn {D : DD} {l : Launch} {X : Mem} {x oa : Nat} {g : Nat → Int64} {fu : Nat} {x1 : Int32} {x2 : Int32} {r : String ⊕ (Int32 × Mem)} (hl : l.stackTraces = false) (h : fX11_handIn fu X x x1 x2 = some r) (hx : mK X x = some (11, 0)) (ho : mK X oa = none) (ho2 : ∀ v X1, r = .inr (v, X1) → mK X1 oa = none) (hE : ∀ E, r = .inl E → E ∈ (["java/lang/IndexOutOfBoundsException", "java/lang/IllegalStateException"] : List String)) : CtrP D l yL_handIn cL_handIn 5 (some .int) [(0, 10, 13, 13), (0, 10, 17, 17)] rmL_handIn [vA (some x), vI x1, vI x2, vA (some oa)] (uM X (oM oa g)) (wPost oa g ["java/lang/IndexOutOfBoundsException", "java/lang/IllegalStateException"] X (wrL_handIn r)) := by
  refine ctrP_of hl (by decide) (Nat.le_of_ble_eq_true rfl) fun ev ht B => ?_
  refine g_aload_n (pc := 0) B dL_handIn_0 3 rfl ?_
  refine g_iconst (pc := 1) B dL_handIn_1 (0 : Int32) (by decide) ?_
  refine g_aload_n (pc := 2) B dL_handIn_2 0 rfl ?_
  refine g_iload_n (pc := 3) B dL_handIn_3 1 rfl ?_
  refine g_iload_n (pc := 4) B dL_handIn_4 2 rfl ?_
  rcases r with E | ⟨v, X1⟩
  · refine h_callVT (pc := 5) (As := [vI x1, vI x2]) (st := [vI (0 : Int32), vA (some oa)]) (X' := uM X (oM oa g)) B cal_X11_handIn kmL_57 kn_X11_handIn ks_X11_handIn (uM_Kl hx) (by decide) rfl (fun l hl => (ct_X11_handIn hl h).frame _ (apM_o ho)) rfl (Nat.le_of_ble_eq_true rfl) (by decide) (by decide) dL_handIn_5 rfl ?_
    have hm := hE E rfl
    rcases List.mem_cons.mp hm with rfl | hm
    · refine g_catch (pc := 5) [] (0, 10, 13, 13) [(0, 10, 17, 17)] B ht rfl (fun z hz => nomatch hz) ⟨by decide, by decide⟩ (by decide) kxL_13 (List.mem_of_getElem? (i := 0) rfl) (fun z q => ?_)
      refine g_astore (pc := 13) (L' := [(4, vA (some q)), (0, vA (some x)), (1, vI x1), (2, vI x2), (3, vA (some oa))]) B dL_handIn_13 (by decide) rfl ?_
      refine g_iconst (pc := 15) B dL_handIn_15 (1 : Int32) (by decide) ?_
      exact p_ret_I (pc := 16) B rfl ⟨0, z, rfl, rfl, rfl⟩ (by decide) (by decide) dL_handIn_16
    rcases List.mem_cons.mp hm with rfl | hm
    · refine g_catch (pc := 5) [(0, 10, 13, 13)] (0, 10, 17, 17) [] B ht rfl (List.forall_mem_cons.mpr ⟨⟨by decide, _, kxL_13, List.mem_of_getElem? (i := 1) rfl⟩, (fun z hz => nomatch hz)⟩) ⟨by decide, by decide⟩ (by decide) kxL_17 (List.mem_of_getElem? (i := 2) rfl) (fun z q => ?_)
      refine g_astore (pc := 17) (L' := [(4, vA (some q)), (0, vA (some x)), (1, vI x1), (2, vI x2), (3, vA (some oa))]) B dL_handIn_17 (by decide) rfl ?_
      refine g_iconst (pc := 19) B dL_handIn_19 (2 : Int32) (by decide) ?_
      exact p_ret_I (pc := 20) B rfl ⟨1, z, rfl, rfl, rfl⟩ (by decide) (by decide) dL_handIn_20
    exact nomatch hm
  · refine h_callV (pc := 5) (As := [vI x1, vI x2]) (st := [vI (0 : Int32), vA (some oa)]) (X' := uM X1 (oM oa g)) (cs' := 4) (sl' := 25) (st10 := [vI v, vI (0 : Int32), vA (some oa)]) B cal_X11_handIn kmL_57 kn_X11_handIn ks_X11_handIn (uM_Kl hx) (by decide) rfl (fun l hl => (ct_X11_handIn hl h).frame _ (apM_o ho)) rfl (Nat.le_of_ble_eq_true rfl) (by decide) (by decide) dL_handIn_5 rfl rfl rfl rfl ?_
    refine g_i2l (pc := 8) B dL_handIn_8 ?_
    refine g_last (pc := 9) B ((uM_Kr (ho2 v X1 rfl)).trans oM_K) vin01 dL_handIn_9 ?_
    rw [uM_sJ (ho2 v X1 rfl)]
    refine g_goto (pc := 10) (tgt := 21) B dL_handIn_10 (by decide) ?_
    refine g_iconst (pc := 21) B dL_handIn_21 (0 : Int32) (by decide) ?_
    exact p_ret_I (pc := 22) B rfl ⟨rfl, rfl⟩ (by decide) (by decide) dL_handIn_22
def rmL_clear : Room := { frames := 8, cells := 1, slots := 6, locals := 152 }
def wrL_clear : String ⊕ (Int32 × Mem) → String ⊕ (Int64 × Mem) := fun r => match r with
  | .inl E => .inl E
  | .inr (v, X1) => .inr ((if v = 0 then (0 : Int64) else 1), X1)
set_option maxRecDepth 100000 in
set_option maxHeartbeats 4000000 in
theorem cw_L_clear {D : DD} {l : Launch} {X : Mem} {x oa : Nat} {g : Nat → Int64} {fu : Nat} {x1 : Int32} {x2 : Int32} {r : String ⊕ (Int32 × Mem)} (hl : l.stackTraces = false) (h : fX11_clear fu X x x1 x2 = some r) (hx : mK X x = some (11, 0)) (ho : mK X oa = none) (ho2 : ∀ v X1, r = .inr (v, X1) → mK X1 oa = none) (hE : ∀ E, r = .inl E → E ∈ (["java/lang/IndexOutOfBoundsException"] : List String)) : CtrP D l yL_clear cL_clear 5 (some .int) [(0, 17, 20, 13)] rmL_clear [vA (some x), vI x1, vI x2, vA (some oa)] (uM X (oM oa g)) (wPost oa g ["java/lang/IndexOutOfBoundsException"] X (wrL_clear r)) := by
  refine ctrP_of hl (by decide) (Nat.le_of_ble_eq_true rfl) fun ev ht B => ?_
  refine g_aload_n (pc := 0) B dL_clear_0 3 rfl ?_
  refine g_iconst (pc := 1) B dL_clear_1 (0 : Int32) (by decide) ?_
  refine g_aload_n (pc := 2) B dL_clear_2 0 rfl ?_
  refine g_iload_n (pc := 3) B dL_clear_3 1 rfl ?_
  refine g_iload_n (pc := 4) B dL_clear_4 2 rfl ?_
  rcases r with E | ⟨v, X1⟩
  · refine h_callVT (pc := 5) (As := [vI x1, vI x2]) (st := [vI (0 : Int32), vA (some oa)]) (X' := uM X (oM oa g)) B cal_X11_clear kmL_61 kn_X11_clear ks_X11_clear (uM_Kl hx) (by decide) rfl (fun l hl => (ct_X11_clear hl h).frame _ (apM_o ho)) rfl (Nat.le_of_ble_eq_true rfl) (by decide) (by decide) dL_clear_5 rfl ?_
    have hm := hE E rfl
    rcases List.mem_cons.mp hm with rfl | hm
    · refine g_catch (pc := 5) [] (0, 17, 20, 13) [] B ht rfl (fun z hz => nomatch hz) ⟨by decide, by decide⟩ (by decide) kxL_13 (List.mem_of_getElem? (i := 0) rfl) (fun z q => ?_)
      refine g_astore (pc := 20) (L' := [(4, vA (some q)), (0, vA (some x)), (1, vI x1), (2, vI x2), (3, vA (some oa))]) B dL_clear_20 (by decide) rfl ?_
      refine g_iconst (pc := 22) B dL_clear_22 (1 : Int32) (by decide) ?_
      exact p_ret_I (pc := 23) B rfl ⟨0, z, rfl, rfl, rfl⟩ (by decide) (by decide) dL_clear_23
    exact nomatch hm
  · refine h_callV (pc := 5) (As := [vI x1, vI x2]) (st := [vI (0 : Int32), vA (some oa)]) (X' := uM X1 (oM oa g)) (cs' := 1) (sl' := 6) (st10 := [vI v, vI (0 : Int32), vA (some oa)]) B cal_X11_clear kmL_61 kn_X11_clear ks_X11_clear (uM_Kl hx) (by decide) rfl (fun l hl => (ct_X11_clear hl h).frame _ (apM_o ho)) rfl (Nat.le_of_ble_eq_true rfl) (by decide) (by decide) dL_clear_5 rfl rfl rfl rfl ?_
    refine g_if_eq (pc := 8) (tgt := 15) B dL_clear_8 (by decide) (fun c9 => ?_) (fun c9 => ?_)
    · refine g_lconst (pc := 15) B dL_clear_15 (0 : Int64) (by decide) ?_
      refine g_last (pc := 16) B ((uM_Kr (ho2 v X1 rfl)).trans oM_K) vin01 dL_clear_16 ?_
      rw [uM_sJ (ho2 v X1 rfl)]
      refine g_goto (pc := 17) (tgt := 24) B dL_clear_17 (by decide) ?_
      refine g_iconst (pc := 24) B dL_clear_24 (0 : Int32) (by decide) ?_
      exact p_ret_I (pc := 25) B rfl ⟨rfl, by rw [if_pos c9]⟩ (by decide) (by decide) dL_clear_25
    · refine g_lconst (pc := 11) B dL_clear_11 (1 : Int64) (by decide) ?_
      refine g_goto (pc := 12) (tgt := 16) B dL_clear_12 (by decide) ?_
      refine g_last (pc := 16) B ((uM_Kr (ho2 v X1 rfl)).trans oM_K) vin01 dL_clear_16 ?_
      rw [uM_sJ (ho2 v X1 rfl)]
      refine g_goto (pc := 17) (tgt := 24) B dL_clear_17 (by decide) ?_
      refine g_iconst (pc := 24) B dL_clear_24 (0 : Int32) (by decide) ?_
      exact p_ret_I (pc := 25) B rfl ⟨rfl, by rw [if_neg c9]⟩ (by decide) (by decide) dL_clear_25
def rmL_setWall : Room := { frames := 7, cells := 1, slots := 6, locals := 150 }
def wrL_setWall : String ⊕ (Int32 × Mem) → String ⊕ (Int64 × Mem) := fun r => match r with
  | .inl E => .inl E
  | .inr (v, X1) => .inr (v.toInt64, X1)
set_option maxRecDepth 100000 in
set_option maxHeartbeats 4000000 in
theorem cw_L_setWall {D : DD} {l : Launch} {X : Mem} {x oa : Nat} {g : Nat → Int64} {fu : Nat} {x1 : Int32} {x2 : Int32} {r : String ⊕ (Int32 × Mem)} (hl : l.stackTraces = false) (h : fX11_setWall fu X x x1 x2 = some r) (hx : mK X x = some (11, 0)) (ho : mK X oa = none) (ho2 : ∀ v X1, r = .inr (v, X1) → mK X1 oa = none) (hE : ∀ E, r = .inl E → E ∈ (["java/lang/IllegalArgumentException"] : List String)) : CtrP D l yL_setWall cL_setWall 5 (some .int) [(0, 10, 13, 15)] rmL_setWall [vA (some x), vI x1, vI x2, vA (some oa)] (uM X (oM oa g)) (wPost oa g ["java/lang/IllegalArgumentException"] X (wrL_setWall r)) := by
  refine ctrP_of hl (by decide) (Nat.le_of_ble_eq_true rfl) fun ev ht B => ?_
  refine g_aload_n (pc := 0) B dL_setWall_0 3 rfl ?_
  refine g_iconst (pc := 1) B dL_setWall_1 (0 : Int32) (by decide) ?_
  refine g_aload_n (pc := 2) B dL_setWall_2 0 rfl ?_
  refine g_iload_n (pc := 3) B dL_setWall_3 1 rfl ?_
  refine g_iload_n (pc := 4) B dL_setWall_4 2 rfl ?_
  rcases r with E | ⟨v, X1⟩
  · refine h_callVT (pc := 5) (As := [vI x1, vI x2]) (st := [vI (0 : Int32), vA (some oa)]) (X' := uM X (oM oa g)) B cal_X11_setWall kmL_65 kn_X11_setWall ks_X11_setWall (uM_Kl hx) (by decide) rfl (fun l hl => (ct_X11_setWall hl h).frame _ (apM_o ho)) rfl (Nat.le_of_ble_eq_true rfl) (by decide) (by decide) dL_setWall_5 rfl ?_
    have hm := hE E rfl
    rcases List.mem_cons.mp hm with rfl | hm
    · refine g_catch (pc := 5) [] (0, 10, 13, 15) [] B ht rfl (fun z hz => nomatch hz) ⟨by decide, by decide⟩ (by decide) kxL_15 (List.mem_of_getElem? (i := 1) rfl) (fun z q => ?_)
      refine g_astore (pc := 13) (L' := [(4, vA (some q)), (0, vA (some x)), (1, vI x1), (2, vI x2), (3, vA (some oa))]) B dL_setWall_13 (by decide) rfl ?_
      refine g_iconst (pc := 15) B dL_setWall_15 (1 : Int32) (by decide) ?_
      exact p_ret_I (pc := 16) B rfl ⟨0, z, rfl, rfl, rfl⟩ (by decide) (by decide) dL_setWall_16
    exact nomatch hm
  · refine h_callV (pc := 5) (As := [vI x1, vI x2]) (st := [vI (0 : Int32), vA (some oa)]) (X' := uM X1 (oM oa g)) (cs' := 1) (sl' := 6) (st10 := [vI v, vI (0 : Int32), vA (some oa)]) B cal_X11_setWall kmL_65 kn_X11_setWall ks_X11_setWall (uM_Kl hx) (by decide) rfl (fun l hl => (ct_X11_setWall hl h).frame _ (apM_o ho)) rfl (Nat.le_of_ble_eq_true rfl) (by decide) (by decide) dL_setWall_5 rfl rfl rfl rfl ?_
    refine g_i2l (pc := 8) B dL_setWall_8 ?_
    refine g_last (pc := 9) B ((uM_Kr (ho2 v X1 rfl)).trans oM_K) vin01 dL_setWall_9 ?_
    rw [uM_sJ (ho2 v X1 rfl)]
    refine g_goto (pc := 10) (tgt := 17) B dL_setWall_10 (by decide) ?_
    refine g_iconst (pc := 17) B dL_setWall_17 (0 : Int32) (by decide) ?_
    exact p_ret_I (pc := 18) B rfl ⟨rfl, rfl⟩ (by decide) (by decide) dL_setWall_18
def rmL_fault : Room := { frames := 8, cells := 1, slots := 6, locals := 133 }
def wrL_fault (X : Mem) : String ⊕ (Int32) → String ⊕ (Int64 × Mem) := fun r => match r with
  | .inl E => .inl E
  | .inr v => .inr (v.toInt64, X)
set_option maxRecDepth 100000 in
set_option maxHeartbeats 4000000 in
theorem cw_L_fault {D : DD} {l : Launch} {X : Mem} {x oa : Nat} {g : Nat → Int64} {x1 : Int32} {r : String ⊕ (Int32)} (hl : l.stackTraces = false) (h : fX11_fault X x x1 = some r) (hx : mK X x = some (11, 0)) (ho : mK X oa = none) (hE : ∀ E, r = .inl E → E ∈ (["java/lang/IndexOutOfBoundsException"] : List String)) : CtrP D l yL_fault cL_fault 4 (some .int) [(0, 9, 12, 13)] rmL_fault [vA (some x), vI x1, vA (some oa)] (uM X (oM oa g)) (wPost oa g ["java/lang/IndexOutOfBoundsException"] X (wrL_fault X r)) := by
  refine ctrP_of hl (by decide) (Nat.le_of_ble_eq_true rfl) fun ev ht B => ?_
  refine g_aload_n (pc := 0) B dL_fault_0 2 rfl ?_
  refine g_iconst (pc := 1) B dL_fault_1 (0 : Int32) (by decide) ?_
  refine g_aload_n (pc := 2) B dL_fault_2 0 rfl ?_
  refine g_iload_n (pc := 3) B dL_fault_3 1 rfl ?_
  rcases r with E | v
  · refine h_callVT (pc := 4) (As := [vI x1]) (st := [vI (0 : Int32), vA (some oa)]) (X' := uM X (oM oa g)) B cal_X11_fault kmL_68 kn_X11_fault ks_X11_fault (uM_Kl hx) (by decide) rfl (fun l hl => (ct_X11_fault hl h).frame _ (apM_o ho)) rfl (Nat.le_of_ble_eq_true rfl) (by decide) (by decide) dL_fault_4 rfl ?_
    have hm := hE E rfl
    rcases List.mem_cons.mp hm with rfl | hm
    · refine g_catch (pc := 4) [] (0, 9, 12, 13) [] B ht rfl (fun z hz => nomatch hz) ⟨by decide, by decide⟩ (by decide) kxL_13 (List.mem_of_getElem? (i := 0) rfl) (fun z q => ?_)
      refine g_astore_n (pc := 12) (L' := [(3, vA (some q)), (0, vA (some x)), (1, vI x1), (2, vA (some oa))]) B dL_fault_12 (by decide) rfl ?_
      refine g_iconst (pc := 13) B dL_fault_13 (1 : Int32) (by decide) ?_
      exact p_ret_I (pc := 14) B rfl ⟨0, z, rfl, rfl, rfl⟩ (by decide) (by decide) dL_fault_14
    exact nomatch hm
  · refine h_callV (pc := 4) (As := [vI x1]) (st := [vI (0 : Int32), vA (some oa)]) (X' := uM X (oM oa g)) (cs' := 1) (sl' := 6) (st10 := [vI v, vI (0 : Int32), vA (some oa)]) B cal_X11_fault kmL_68 kn_X11_fault ks_X11_fault (uM_Kl hx) (by decide) rfl (fun l hl => (ct_X11_fault hl h).frame _ (apM_o ho)) rfl (Nat.le_of_ble_eq_true rfl) (by decide) (by decide) dL_fault_4 rfl rfl rfl rfl ?_
    refine g_i2l (pc := 7) B dL_fault_7 ?_
    refine g_last (pc := 8) B ((uM_Kr ho).trans oM_K) vin01 dL_fault_8 ?_
    rw [uM_sJ ho]
    refine g_goto (pc := 9) (tgt := 15) B dL_fault_9 (by decide) ?_
    refine g_iconst (pc := 15) B dL_fault_15 (0 : Int32) (by decide) ?_
    exact p_ret_I (pc := 16) B rfl ⟨rfl, rfl⟩ (by decide) (by decide) dL_fault_16
def rmL_steps : Room := { frames := 8, cells := 1, slots := 6, locals := 133 }
def wrL_steps (X : Mem) : String ⊕ (Int32) → String ⊕ (Int64 × Mem) := fun r => match r with
  | .inl E => .inl E
  | .inr v => .inr (v.toInt64, X)
set_option maxRecDepth 100000 in
set_option maxHeartbeats 4000000 in
theorem cw_L_steps {D : DD} {l : Launch} {X : Mem} {x oa : Nat} {g : Nat → Int64} {x1 : Int32} {r : String ⊕ (Int32)} (hl : l.stackTraces = false) (h : fX11_steps X x x1 = some r) (hx : mK X x = some (11, 0)) (ho : mK X oa = none) (hE : ∀ E, r = .inl E → E ∈ (["java/lang/IndexOutOfBoundsException"] : List String)) : CtrP D l yL_steps cL_steps 4 (some .int) [(0, 9, 12, 13)] rmL_steps [vA (some x), vI x1, vA (some oa)] (uM X (oM oa g)) (wPost oa g ["java/lang/IndexOutOfBoundsException"] X (wrL_steps X r)) := by
  refine ctrP_of hl (by decide) (Nat.le_of_ble_eq_true rfl) fun ev ht B => ?_
  refine g_aload_n (pc := 0) B dL_steps_0 2 rfl ?_
  refine g_iconst (pc := 1) B dL_steps_1 (0 : Int32) (by decide) ?_
  refine g_aload_n (pc := 2) B dL_steps_2 0 rfl ?_
  refine g_iload_n (pc := 3) B dL_steps_3 1 rfl ?_
  rcases r with E | v
  · refine h_callVT (pc := 4) (As := [vI x1]) (st := [vI (0 : Int32), vA (some oa)]) (X' := uM X (oM oa g)) B cal_X11_steps kmL_71 kn_X11_steps ks_X11_steps (uM_Kl hx) (by decide) rfl (fun l hl => (ct_X11_steps hl h).frame _ (apM_o ho)) rfl (Nat.le_of_ble_eq_true rfl) (by decide) (by decide) dL_steps_4 rfl ?_
    have hm := hE E rfl
    rcases List.mem_cons.mp hm with rfl | hm
    · refine g_catch (pc := 4) [] (0, 9, 12, 13) [] B ht rfl (fun z hz => nomatch hz) ⟨by decide, by decide⟩ (by decide) kxL_13 (List.mem_of_getElem? (i := 0) rfl) (fun z q => ?_)
      refine g_astore_n (pc := 12) (L' := [(3, vA (some q)), (0, vA (some x)), (1, vI x1), (2, vA (some oa))]) B dL_steps_12 (by decide) rfl ?_
      refine g_iconst (pc := 13) B dL_steps_13 (1 : Int32) (by decide) ?_
      exact p_ret_I (pc := 14) B rfl ⟨0, z, rfl, rfl, rfl⟩ (by decide) (by decide) dL_steps_14
    exact nomatch hm
  · refine h_callV (pc := 4) (As := [vI x1]) (st := [vI (0 : Int32), vA (some oa)]) (X' := uM X (oM oa g)) (cs' := 1) (sl' := 6) (st10 := [vI v, vI (0 : Int32), vA (some oa)]) B cal_X11_steps kmL_71 kn_X11_steps ks_X11_steps (uM_Kl hx) (by decide) rfl (fun l hl => (ct_X11_steps hl h).frame _ (apM_o ho)) rfl (Nat.le_of_ble_eq_true rfl) (by decide) (by decide) dL_steps_4 rfl rfl rfl rfl ?_
    refine g_i2l (pc := 7) B dL_steps_7 ?_
    refine g_last (pc := 8) B ((uM_Kr ho).trans oM_K) vin01 dL_steps_8 ?_
    rw [uM_sJ ho]
    refine g_goto (pc := 9) (tgt := 15) B dL_steps_9 (by decide) ?_
    refine g_iconst (pc := 15) B dL_steps_15 (0 : Int32) (by decide) ?_
    exact p_ret_I (pc := 16) B rfl ⟨rfl, rfl⟩ (by decide) (by decide) dL_steps_16
def rmL_strokes : Room := { frames := 8, cells := 1, slots := 6, locals := 133 }
def wrL_strokes (X : Mem) : String ⊕ (Int32) → String ⊕ (Int64 × Mem) := fun r => match r with
  | .inl E => .inl E
  | .inr v => .inr (v.toInt64, X)
set_option maxRecDepth 100000 in
set_option maxHeartbeats 4000000 in
theorem cw_L_strokes {D : DD} {l : Launch} {X : Mem} {x oa : Nat} {g : Nat → Int64} {x1 : Int32} {r : String ⊕ (Int32)} (hl : l.stackTraces = false) (h : fX11_strokes X x x1 = some r) (hx : mK X x = some (11, 0)) (ho : mK X oa = none) (hE : ∀ E, r = .inl E → E ∈ (["java/lang/IndexOutOfBoundsException"] : List String)) : CtrP D l yL_strokes cL_strokes 4 (some .int) [(0, 9, 12, 13)] rmL_strokes [vA (some x), vI x1, vA (some oa)] (uM X (oM oa g)) (wPost oa g ["java/lang/IndexOutOfBoundsException"] X (wrL_strokes X r)) := by
  refine ctrP_of hl (by decide) (Nat.le_of_ble_eq_true rfl) fun ev ht B => ?_
  refine g_aload_n (pc := 0) B dL_strokes_0 2 rfl ?_
  refine g_iconst (pc := 1) B dL_strokes_1 (0 : Int32) (by decide) ?_
  refine g_aload_n (pc := 2) B dL_strokes_2 0 rfl ?_
  refine g_iload_n (pc := 3) B dL_strokes_3 1 rfl ?_
  rcases r with E | v
  · refine h_callVT (pc := 4) (As := [vI x1]) (st := [vI (0 : Int32), vA (some oa)]) (X' := uM X (oM oa g)) B cal_X11_strokes kmL_74 kn_X11_strokes ks_X11_strokes (uM_Kl hx) (by decide) rfl (fun l hl => (ct_X11_strokes hl h).frame _ (apM_o ho)) rfl (Nat.le_of_ble_eq_true rfl) (by decide) (by decide) dL_strokes_4 rfl ?_
    have hm := hE E rfl
    rcases List.mem_cons.mp hm with rfl | hm
    · refine g_catch (pc := 4) [] (0, 9, 12, 13) [] B ht rfl (fun z hz => nomatch hz) ⟨by decide, by decide⟩ (by decide) kxL_13 (List.mem_of_getElem? (i := 0) rfl) (fun z q => ?_)
      refine g_astore_n (pc := 12) (L' := [(3, vA (some q)), (0, vA (some x)), (1, vI x1), (2, vA (some oa))]) B dL_strokes_12 (by decide) rfl ?_
      refine g_iconst (pc := 13) B dL_strokes_13 (1 : Int32) (by decide) ?_
      exact p_ret_I (pc := 14) B rfl ⟨0, z, rfl, rfl, rfl⟩ (by decide) (by decide) dL_strokes_14
    exact nomatch hm
  · refine h_callV (pc := 4) (As := [vI x1]) (st := [vI (0 : Int32), vA (some oa)]) (X' := uM X (oM oa g)) (cs' := 1) (sl' := 6) (st10 := [vI v, vI (0 : Int32), vA (some oa)]) B cal_X11_strokes kmL_74 kn_X11_strokes ks_X11_strokes (uM_Kl hx) (by decide) rfl (fun l hl => (ct_X11_strokes hl h).frame _ (apM_o ho)) rfl (Nat.le_of_ble_eq_true rfl) (by decide) (by decide) dL_strokes_4 rfl rfl rfl rfl ?_
    refine g_i2l (pc := 7) B dL_strokes_7 ?_
    refine g_last (pc := 8) B ((uM_Kr ho).trans oM_K) vin01 dL_strokes_8 ?_
    rw [uM_sJ ho]
    refine g_goto (pc := 9) (tgt := 15) B dL_strokes_9 (by decide) ?_
    refine g_iconst (pc := 15) B dL_strokes_15 (0 : Int32) (by decide) ?_
    exact p_ret_I (pc := 16) B rfl ⟨rfl, rfl⟩ (by decide) (by decide) dL_strokes_16
def rmL_strokesBySteps : Room := { frames := 8, cells := 2, slots := 12, locals := 166 }
def wrL_strokesBySteps : String ⊕ (Int32 × Mem) → String ⊕ (Int64 × Mem) := fun r => match r with
  | .inl E => .inl E
  | .inr (v, X1) => .inr (v.toInt64, X1)
set_option maxRecDepth 100000 in
set_option maxHeartbeats 4000000 in
theorem cw_L_strokesBySteps {D : DD} {l : Launch} {X : Mem} {x oa : Nat} {g : Nat → Int64} {fu : Nat} {x1 : Int32} {x2 : Int32} {r : String ⊕ (Int32 × Mem)} (hl : l.stackTraces = false) (h : fX11_strokesBySteps fu X x x1 x2 = some r) (hx : mK X x = some (11, 0)) (ho : mK X oa = none) (ho2 : ∀ v X1, r = .inr (v, X1) → mK X1 oa = none) (hE : ∀ E, r = .inl E → E ∈ (["java/lang/IndexOutOfBoundsException", "java/lang/IllegalArgumentException"] : List String)) : CtrP D l yL_strokesBySteps cL_strokesBySteps 5 (some .int) [(0, 10, 13, 13), (0, 10, 17, 15)] rmL_strokesBySteps [vA (some x), vI x1, vI x2, vA (some oa)] (uM X (oM oa g)) (wPost oa g ["java/lang/IndexOutOfBoundsException", "java/lang/IllegalArgumentException"] X (wrL_strokesBySteps r)) := by
  refine ctrP_of hl (by decide) (Nat.le_of_ble_eq_true rfl) fun ev ht B => ?_
  refine g_aload_n (pc := 0) B dL_strokesBySteps_0 3 rfl ?_
  refine g_iconst (pc := 1) B dL_strokesBySteps_1 (0 : Int32) (by decide) ?_
  refine g_aload_n (pc := 2) B dL_strokesBySteps_2 0 rfl ?_
  refine g_iload_n (pc := 3) B dL_strokesBySteps_3 1 rfl ?_
  refine g_iload_n (pc := 4) B dL_strokesBySteps_4 2 rfl ?_
  rcases r with E | ⟨v, X1⟩
  · refine h_callVT (pc := 5) (As := [vI x1, vI x2]) (st := [vI (0 : Int32), vA (some oa)]) (X' := uM X (oM oa g)) B cal_X11_strokesBySteps kmL_77 kn_X11_strokesBySteps ks_X11_strokesBySteps (uM_Kl hx) (by decide) rfl (fun l hl => (ct_X11_strokesBySteps hl h).frame _ (apM_o ho)) rfl (Nat.le_of_ble_eq_true rfl) (by decide) (by decide) dL_strokesBySteps_5 rfl ?_
    have hm := hE E rfl
    rcases List.mem_cons.mp hm with rfl | hm
    · refine g_catch (pc := 5) [] (0, 10, 13, 13) [(0, 10, 17, 15)] B ht rfl (fun z hz => nomatch hz) ⟨by decide, by decide⟩ (by decide) kxL_13 (List.mem_of_getElem? (i := 0) rfl) (fun z q => ?_)
      refine g_astore (pc := 13) (L' := [(4, vA (some q)), (0, vA (some x)), (1, vI x1), (2, vI x2), (3, vA (some oa))]) B dL_strokesBySteps_13 (by decide) rfl ?_
      refine g_iconst (pc := 15) B dL_strokesBySteps_15 (1 : Int32) (by decide) ?_
      exact p_ret_I (pc := 16) B rfl ⟨0, z, rfl, rfl, rfl⟩ (by decide) (by decide) dL_strokesBySteps_16
    rcases List.mem_cons.mp hm with rfl | hm
    · refine g_catch (pc := 5) [(0, 10, 13, 13)] (0, 10, 17, 15) [] B ht rfl (List.forall_mem_cons.mpr ⟨⟨by decide, _, kxL_13, List.mem_of_getElem? (i := 0) rfl⟩, (fun z hz => nomatch hz)⟩) ⟨by decide, by decide⟩ (by decide) kxL_15 (List.mem_of_getElem? (i := 1) rfl) (fun z q => ?_)
      refine g_astore (pc := 17) (L' := [(4, vA (some q)), (0, vA (some x)), (1, vI x1), (2, vI x2), (3, vA (some oa))]) B dL_strokesBySteps_17 (by decide) rfl ?_
      refine g_iconst (pc := 19) B dL_strokesBySteps_19 (2 : Int32) (by decide) ?_
      exact p_ret_I (pc := 20) B rfl ⟨1, z, rfl, rfl, rfl⟩ (by decide) (by decide) dL_strokesBySteps_20
    exact nomatch hm
  · refine h_callV (pc := 5) (As := [vI x1, vI x2]) (st := [vI (0 : Int32), vA (some oa)]) (X' := uM X1 (oM oa g)) (cs' := 2) (sl' := 12) (st10 := [vI v, vI (0 : Int32), vA (some oa)]) B cal_X11_strokesBySteps kmL_77 kn_X11_strokesBySteps ks_X11_strokesBySteps (uM_Kl hx) (by decide) rfl (fun l hl => (ct_X11_strokesBySteps hl h).frame _ (apM_o ho)) rfl (Nat.le_of_ble_eq_true rfl) (by decide) (by decide) dL_strokesBySteps_5 rfl rfl rfl rfl ?_
    refine g_i2l (pc := 8) B dL_strokesBySteps_8 ?_
    refine g_last (pc := 9) B ((uM_Kr (ho2 v X1 rfl)).trans oM_K) vin01 dL_strokesBySteps_9 ?_
    rw [uM_sJ (ho2 v X1 rfl)]
    refine g_goto (pc := 10) (tgt := 21) B dL_strokesBySteps_10 (by decide) ?_
    refine g_iconst (pc := 21) B dL_strokesBySteps_21 (0 : Int32) (by decide) ?_
    exact p_ret_I (pc := 22) B rfl ⟨rfl, rfl⟩ (by decide) (by decide) dL_strokesBySteps_22
def rmL_isDrawn : Room := { frames := 8, cells := 2, slots := 12, locals := 137 }
def wrL_isDrawn (X : Mem) : String ⊕ (Int32) → String ⊕ (Int64 × Mem) := fun r => match r with
  | .inl E => .inl E
  | .inr v => .inr ((if v = 0 then (0 : Int64) else 1), X)
set_option maxRecDepth 100000 in
set_option maxHeartbeats 4000000 in
theorem cw_L_isDrawn {D : DD} {l : Launch} {X : Mem} {x oa : Nat} {g : Nat → Int64} {x1 : Int32} {x2 : Int32} {x3 : Int32} {x4 : Int32} {r : String ⊕ (Int32)} (hl : l.stackTraces = false) (h : fX11_isDrawn X x x1 x2 x3 x4 = some r) (hx : mK X x = some (11, 0)) (ho : mK X oa = none) (hE : ∀ E, r = .inl E → E ∈ (["java/lang/IndexOutOfBoundsException"] : List String)) : CtrP D l yL_isDrawn cL_isDrawn 7 (some .int) [(0, 21, 24, 13)] rmL_isDrawn [vA (some x), vI x1, vI x2, vI x3, vI x4, vA (some oa)] (uM X (oM oa g)) (wPost oa g ["java/lang/IndexOutOfBoundsException"] X (wrL_isDrawn X r)) := by
  refine ctrP_of hl (by decide) (Nat.le_of_ble_eq_true rfl) fun ev ht B => ?_
  refine g_aload (pc := 0) B dL_isDrawn_0 5 rfl ?_
  refine g_iconst (pc := 2) B dL_isDrawn_2 (0 : Int32) (by decide) ?_
  refine g_aload_n (pc := 3) B dL_isDrawn_3 0 rfl ?_
  refine g_iload_n (pc := 4) B dL_isDrawn_4 1 rfl ?_
  refine g_iload_n (pc := 5) B dL_isDrawn_5 2 rfl ?_
  refine g_iload_n (pc := 6) B dL_isDrawn_6 3 rfl ?_
  refine g_iload (pc := 7) B dL_isDrawn_7 4 rfl ?_
  rcases r with E | v
  · refine h_callVT (pc := 9) (As := [vI x1, vI x2, vI x3, vI x4]) (st := [vI (0 : Int32), vA (some oa)]) (X' := uM X (oM oa g)) B cal_X11_isDrawn kmL_80 kn_X11_isDrawn ks_X11_isDrawn (uM_Kl hx) (by decide) rfl (fun l hl => (ct_X11_isDrawn hl h).frame _ (apM_o ho)) rfl (Nat.le_of_ble_eq_true rfl) (by decide) (by decide) dL_isDrawn_9 rfl ?_
    have hm := hE E rfl
    rcases List.mem_cons.mp hm with rfl | hm
    · refine g_catch (pc := 9) [] (0, 21, 24, 13) [] B ht rfl (fun z hz => nomatch hz) ⟨by decide, by decide⟩ (by decide) kxL_13 (List.mem_of_getElem? (i := 0) rfl) (fun z q => ?_)
      refine g_astore (pc := 24) (L' := [(6, vA (some q)), (0, vA (some x)), (1, vI x1), (2, vI x2), (3, vI x3), (4, vI x4), (5, vA (some oa))]) B dL_isDrawn_24 (by decide) rfl ?_
      refine g_iconst (pc := 26) B dL_isDrawn_26 (1 : Int32) (by decide) ?_
      exact p_ret_I (pc := 27) B rfl ⟨0, z, rfl, rfl, rfl⟩ (by decide) (by decide) dL_isDrawn_27
    exact nomatch hm
  · refine h_callV (pc := 9) (As := [vI x1, vI x2, vI x3, vI x4]) (st := [vI (0 : Int32), vA (some oa)]) (X' := uM X (oM oa g)) (cs' := 2) (sl' := 12) (st10 := [vI v, vI (0 : Int32), vA (some oa)]) B cal_X11_isDrawn kmL_80 kn_X11_isDrawn ks_X11_isDrawn (uM_Kl hx) (by decide) rfl (fun l hl => (ct_X11_isDrawn hl h).frame _ (apM_o ho)) rfl (Nat.le_of_ble_eq_true rfl) (by decide) (by decide) dL_isDrawn_9 rfl rfl rfl rfl ?_
    refine g_if_eq (pc := 12) (tgt := 19) B dL_isDrawn_12 (by decide) (fun c9 => ?_) (fun c9 => ?_)
    · refine g_lconst (pc := 19) B dL_isDrawn_19 (0 : Int64) (by decide) ?_
      refine g_last (pc := 20) B ((uM_Kr ho).trans oM_K) vin01 dL_isDrawn_20 ?_
      rw [uM_sJ ho]
      refine g_goto (pc := 21) (tgt := 28) B dL_isDrawn_21 (by decide) ?_
      refine g_iconst (pc := 28) B dL_isDrawn_28 (0 : Int32) (by decide) ?_
      exact p_ret_I (pc := 29) B rfl ⟨rfl, by rw [if_pos c9]⟩ (by decide) (by decide) dL_isDrawn_29
    · refine g_lconst (pc := 15) B dL_isDrawn_15 (1 : Int64) (by decide) ?_
      refine g_goto (pc := 16) (tgt := 20) B dL_isDrawn_16 (by decide) ?_
      refine g_last (pc := 20) B ((uM_Kr ho).trans oM_K) vin01 dL_isDrawn_20 ?_
      rw [uM_sJ ho]
      refine g_goto (pc := 21) (tgt := 28) B dL_isDrawn_21 (by decide) ?_
      refine g_iconst (pc := 28) B dL_isDrawn_28 (0 : Int32) (by decide) ?_
      exact p_ret_I (pc := 29) B rfl ⟨rfl, by rw [if_neg c9]⟩ (by decide) (by decide) dL_isDrawn_29
def rmL_areAlike : Room := { frames := 8, cells := 2, slots := 12, locals := 136 }
def wrL_areAlike (X : Mem) : String ⊕ (Int32) → String ⊕ (Int64 × Mem) := fun r => match r with
  | .inl E => .inl E
  | .inr v => .inr ((if v = 0 then (0 : Int64) else 1), X)
set_option maxRecDepth 100000 in
set_option maxHeartbeats 4000000 in
theorem cw_L_areAlike {D : DD} {l : Launch} {X : Mem} {x oa : Nat} {g : Nat → Int64} {fu : Nat} {x1 : Int32} {x2 : Int32} {r : String ⊕ (Int32)} (hl : l.stackTraces = false) (h : fX11_areAlike fu X x x1 x2 = some r) (hx : mK X x = some (11, 0)) (ho : mK X oa = none) (hE : ∀ E, r = .inl E → E ∈ (["java/lang/IndexOutOfBoundsException"] : List String)) : CtrP D l yL_areAlike cL_areAlike 5 (some .int) [(0, 17, 20, 13)] rmL_areAlike [vA (some x), vI x1, vI x2, vA (some oa)] (uM X (oM oa g)) (wPost oa g ["java/lang/IndexOutOfBoundsException"] X (wrL_areAlike X r)) := by
  refine ctrP_of hl (by decide) (Nat.le_of_ble_eq_true rfl) fun ev ht B => ?_
  refine g_aload_n (pc := 0) B dL_areAlike_0 3 rfl ?_
  refine g_iconst (pc := 1) B dL_areAlike_1 (0 : Int32) (by decide) ?_
  refine g_aload_n (pc := 2) B dL_areAlike_2 0 rfl ?_
  refine g_iload_n (pc := 3) B dL_areAlike_3 1 rfl ?_
  refine g_iload_n (pc := 4) B dL_areAlike_4 2 rfl ?_
  rcases r with E | v
  · refine h_callVT (pc := 5) (As := [vI x1, vI x2]) (st := [vI (0 : Int32), vA (some oa)]) (X' := uM X (oM oa g)) B cal_X11_areAlike kmL_84 kn_X11_areAlike ks_X11_areAlike (uM_Kl hx) (by decide) rfl (fun l hl => (ct_X11_areAlike hl h).frame _ (apM_o ho)) rfl (Nat.le_of_ble_eq_true rfl) (by decide) (by decide) dL_areAlike_5 rfl ?_
    have hm := hE E rfl
    rcases List.mem_cons.mp hm with rfl | hm
    · refine g_catch (pc := 5) [] (0, 17, 20, 13) [] B ht rfl (fun z hz => nomatch hz) ⟨by decide, by decide⟩ (by decide) kxL_13 (List.mem_of_getElem? (i := 0) rfl) (fun z q => ?_)
      refine g_astore (pc := 20) (L' := [(4, vA (some q)), (0, vA (some x)), (1, vI x1), (2, vI x2), (3, vA (some oa))]) B dL_areAlike_20 (by decide) rfl ?_
      refine g_iconst (pc := 22) B dL_areAlike_22 (1 : Int32) (by decide) ?_
      exact p_ret_I (pc := 23) B rfl ⟨0, z, rfl, rfl, rfl⟩ (by decide) (by decide) dL_areAlike_23
    exact nomatch hm
  · refine h_callV (pc := 5) (As := [vI x1, vI x2]) (st := [vI (0 : Int32), vA (some oa)]) (X' := uM X (oM oa g)) (cs' := 2) (sl' := 12) (st10 := [vI v, vI (0 : Int32), vA (some oa)]) B cal_X11_areAlike kmL_84 kn_X11_areAlike ks_X11_areAlike (uM_Kl hx) (by decide) rfl (fun l hl => (ct_X11_areAlike hl h).frame _ (apM_o ho)) rfl (Nat.le_of_ble_eq_true rfl) (by decide) (by decide) dL_areAlike_5 rfl rfl rfl rfl ?_
    refine g_if_eq (pc := 8) (tgt := 15) B dL_areAlike_8 (by decide) (fun c9 => ?_) (fun c9 => ?_)
    · refine g_lconst (pc := 15) B dL_areAlike_15 (0 : Int64) (by decide) ?_
      refine g_last (pc := 16) B ((uM_Kr ho).trans oM_K) vin01 dL_areAlike_16 ?_
      rw [uM_sJ ho]
      refine g_goto (pc := 17) (tgt := 24) B dL_areAlike_17 (by decide) ?_
      refine g_iconst (pc := 24) B dL_areAlike_24 (0 : Int32) (by decide) ?_
      exact p_ret_I (pc := 25) B rfl ⟨rfl, by rw [if_pos c9]⟩ (by decide) (by decide) dL_areAlike_25
    · refine g_lconst (pc := 11) B dL_areAlike_11 (1 : Int64) (by decide) ?_
      refine g_goto (pc := 12) (tgt := 16) B dL_areAlike_12 (by decide) ?_
      refine g_last (pc := 16) B ((uM_Kr ho).trans oM_K) vin01 dL_areAlike_16 ?_
      rw [uM_sJ ho]
      refine g_goto (pc := 17) (tgt := 24) B dL_areAlike_17 (by decide) ?_
      refine g_iconst (pc := 24) B dL_areAlike_24 (0 : Int32) (by decide) ?_
      exact p_ret_I (pc := 25) B rfl ⟨rfl, by rw [if_neg c9]⟩ (by decide) (by decide) dL_areAlike_25
def rmL_haveOneForm : Room := { frames := 8, cells := 2, slots := 12, locals := 136 }
def wrL_haveOneForm (X : Mem) : String ⊕ (Int32) → String ⊕ (Int64 × Mem) := fun r => match r with
  | .inl E => .inl E
  | .inr v => .inr ((if v = 0 then (0 : Int64) else 1), X)
set_option maxRecDepth 100000 in
set_option maxHeartbeats 4000000 in
theorem cw_L_haveOneForm {D : DD} {l : Launch} {X : Mem} {x oa : Nat} {g : Nat → Int64} {fu : Nat} {x1 : Int32} {x2 : Int32} {r : String ⊕ (Int32)} (hl : l.stackTraces = false) (h : fX11_haveOneForm fu X x x1 x2 = some r) (hx : mK X x = some (11, 0)) (ho : mK X oa = none) (hE : ∀ E, r = .inl E → E ∈ (["java/lang/IndexOutOfBoundsException"] : List String)) : CtrP D l yL_haveOneForm cL_haveOneForm 5 (some .int) [(0, 17, 20, 13)] rmL_haveOneForm [vA (some x), vI x1, vI x2, vA (some oa)] (uM X (oM oa g)) (wPost oa g ["java/lang/IndexOutOfBoundsException"] X (wrL_haveOneForm X r)) := by
  refine ctrP_of hl (by decide) (Nat.le_of_ble_eq_true rfl) fun ev ht B => ?_
  refine g_aload_n (pc := 0) B dL_haveOneForm_0 3 rfl ?_
  refine g_iconst (pc := 1) B dL_haveOneForm_1 (0 : Int32) (by decide) ?_
  refine g_aload_n (pc := 2) B dL_haveOneForm_2 0 rfl ?_
  refine g_iload_n (pc := 3) B dL_haveOneForm_3 1 rfl ?_
  refine g_iload_n (pc := 4) B dL_haveOneForm_4 2 rfl ?_
  rcases r with E | v
  · refine h_callVT (pc := 5) (As := [vI x1, vI x2]) (st := [vI (0 : Int32), vA (some oa)]) (X' := uM X (oM oa g)) B cal_X11_haveOneForm kmL_88 kn_X11_haveOneForm ks_X11_haveOneForm (uM_Kl hx) (by decide) rfl (fun l hl => (ct_X11_haveOneForm hl h).frame _ (apM_o ho)) rfl (Nat.le_of_ble_eq_true rfl) (by decide) (by decide) dL_haveOneForm_5 rfl ?_
    have hm := hE E rfl
    rcases List.mem_cons.mp hm with rfl | hm
    · refine g_catch (pc := 5) [] (0, 17, 20, 13) [] B ht rfl (fun z hz => nomatch hz) ⟨by decide, by decide⟩ (by decide) kxL_13 (List.mem_of_getElem? (i := 0) rfl) (fun z q => ?_)
      refine g_astore (pc := 20) (L' := [(4, vA (some q)), (0, vA (some x)), (1, vI x1), (2, vI x2), (3, vA (some oa))]) B dL_haveOneForm_20 (by decide) rfl ?_
      refine g_iconst (pc := 22) B dL_haveOneForm_22 (1 : Int32) (by decide) ?_
      exact p_ret_I (pc := 23) B rfl ⟨0, z, rfl, rfl, rfl⟩ (by decide) (by decide) dL_haveOneForm_23
    exact nomatch hm
  · refine h_callV (pc := 5) (As := [vI x1, vI x2]) (st := [vI (0 : Int32), vA (some oa)]) (X' := uM X (oM oa g)) (cs' := 2) (sl' := 12) (st10 := [vI v, vI (0 : Int32), vA (some oa)]) B cal_X11_haveOneForm kmL_88 kn_X11_haveOneForm ks_X11_haveOneForm (uM_Kl hx) (by decide) rfl (fun l hl => (ct_X11_haveOneForm hl h).frame _ (apM_o ho)) rfl (Nat.le_of_ble_eq_true rfl) (by decide) (by decide) dL_haveOneForm_5 rfl rfl rfl rfl ?_
    refine g_if_eq (pc := 8) (tgt := 15) B dL_haveOneForm_8 (by decide) (fun c9 => ?_) (fun c9 => ?_)
    · refine g_lconst (pc := 15) B dL_haveOneForm_15 (0 : Int64) (by decide) ?_
      refine g_last (pc := 16) B ((uM_Kr ho).trans oM_K) vin01 dL_haveOneForm_16 ?_
      rw [uM_sJ ho]
      refine g_goto (pc := 17) (tgt := 24) B dL_haveOneForm_17 (by decide) ?_
      refine g_iconst (pc := 24) B dL_haveOneForm_24 (0 : Int32) (by decide) ?_
      exact p_ret_I (pc := 25) B rfl ⟨rfl, by rw [if_pos c9]⟩ (by decide) (by decide) dL_haveOneForm_25
    · refine g_lconst (pc := 11) B dL_haveOneForm_11 (1 : Int64) (by decide) ?_
      refine g_goto (pc := 12) (tgt := 16) B dL_haveOneForm_12 (by decide) ?_
      refine g_last (pc := 16) B ((uM_Kr ho).trans oM_K) vin01 dL_haveOneForm_16 ?_
      rw [uM_sJ ho]
      refine g_goto (pc := 17) (tgt := 24) B dL_haveOneForm_17 (by decide) ?_
      refine g_iconst (pc := 24) B dL_haveOneForm_24 (0 : Int32) (by decide) ?_
      exact p_ret_I (pc := 25) B rfl ⟨rfl, by rw [if_neg c9]⟩ (by decide) (by decide) dL_haveOneForm_25
def rmL_likeness : Room := { frames := 8, cells := 2, slots := 12, locals := 137 }
def wrL_likeness : String ⊕ (Int32 × Mem) → String ⊕ (Int64 × Mem) := fun r => match r with
  | .inl E => .inl E
  | .inr (v, X1) => .inr (v.toInt64, X1)
set_option maxRecDepth 100000 in
set_option maxHeartbeats 4000000 in
theorem cw_L_likeness {D : DD} {l : Launch} {X : Mem} {x oa : Nat} {g : Nat → Int64} {fu : Nat} {x1 : Int32} {x2 : Int32} {r : String ⊕ (Int32 × Mem)} (hl : l.stackTraces = false) (h : fX11_likeness fu X x x1 x2 = some r) (hx : mK X x = some (11, 0)) (ho : mK X oa = none) (ho2 : ∀ v X1, r = .inr (v, X1) → mK X1 oa = none) (hE : ∀ E, r = .inl E → E ∈ (["java/lang/IndexOutOfBoundsException"] : List String)) : CtrP D l yL_likeness cL_likeness 5 (some .int) [(0, 10, 13, 13)] rmL_likeness [vA (some x), vI x1, vI x2, vA (some oa)] (uM X (oM oa g)) (wPost oa g ["java/lang/IndexOutOfBoundsException"] X (wrL_likeness r)) := by
  refine ctrP_of hl (by decide) (Nat.le_of_ble_eq_true rfl) fun ev ht B => ?_
  refine g_aload_n (pc := 0) B dL_likeness_0 3 rfl ?_
  refine g_iconst (pc := 1) B dL_likeness_1 (0 : Int32) (by decide) ?_
  refine g_aload_n (pc := 2) B dL_likeness_2 0 rfl ?_
  refine g_iload_n (pc := 3) B dL_likeness_3 1 rfl ?_
  refine g_iload_n (pc := 4) B dL_likeness_4 2 rfl ?_
  rcases r with E | ⟨v, X1⟩
  · refine h_callVT (pc := 5) (As := [vI x1, vI x2]) (st := [vI (0 : Int32), vA (some oa)]) (X' := uM X (oM oa g)) B cal_X11_likeness kmL_91 kn_X11_likeness ks_X11_likeness (uM_Kl hx) (by decide) rfl (fun l hl => (ct_X11_likeness hl h).frame _ (apM_o ho)) rfl (Nat.le_of_ble_eq_true rfl) (by decide) (by decide) dL_likeness_5 rfl ?_
    have hm := hE E rfl
    rcases List.mem_cons.mp hm with rfl | hm
    · refine g_catch (pc := 5) [] (0, 10, 13, 13) [] B ht rfl (fun z hz => nomatch hz) ⟨by decide, by decide⟩ (by decide) kxL_13 (List.mem_of_getElem? (i := 0) rfl) (fun z q => ?_)
      refine g_astore (pc := 13) (L' := [(4, vA (some q)), (0, vA (some x)), (1, vI x1), (2, vI x2), (3, vA (some oa))]) B dL_likeness_13 (by decide) rfl ?_
      refine g_iconst (pc := 15) B dL_likeness_15 (1 : Int32) (by decide) ?_
      exact p_ret_I (pc := 16) B rfl ⟨0, z, rfl, rfl, rfl⟩ (by decide) (by decide) dL_likeness_16
    exact nomatch hm
  · refine h_callV (pc := 5) (As := [vI x1, vI x2]) (st := [vI (0 : Int32), vA (some oa)]) (X' := uM X1 (oM oa g)) (cs' := 2) (sl' := 12) (st10 := [vI v, vI (0 : Int32), vA (some oa)]) B cal_X11_likeness kmL_91 kn_X11_likeness ks_X11_likeness (uM_Kl hx) (by decide) rfl (fun l hl => (ct_X11_likeness hl h).frame _ (apM_o ho)) rfl (Nat.le_of_ble_eq_true rfl) (by decide) (by decide) dL_likeness_5 rfl rfl rfl rfl ?_
    refine g_i2l (pc := 8) B dL_likeness_8 ?_
    refine g_last (pc := 9) B ((uM_Kr (ho2 v X1 rfl)).trans oM_K) vin01 dL_likeness_9 ?_
    rw [uM_sJ (ho2 v X1 rfl)]
    refine g_goto (pc := 10) (tgt := 17) B dL_likeness_10 (by decide) ?_
    refine g_iconst (pc := 17) B dL_likeness_17 (0 : Int32) (by decide) ?_
    exact p_ret_I (pc := 18) B rfl ⟨rfl, rfl⟩ (by decide) (by decide) dL_likeness_18
def rmL_meets : Room := { frames := 8, cells := 1, slots := 6, locals := 133 }
def wrL_meets (X : Mem) : String ⊕ (Int32) → String ⊕ (Int64 × Mem) := fun r => match r with
  | .inl E => .inl E
  | .inr v => .inr ((if v = 0 then (0 : Int64) else 1), X)
set_option maxRecDepth 100000 in
set_option maxHeartbeats 4000000 in
theorem cw_L_meets {D : DD} {l : Launch} {X : Mem} {x oa : Nat} {g : Nat → Int64} {fu : Nat} {x1 : Int32} {r : String ⊕ (Int32)} (hl : l.stackTraces = false) (h : fX11_meets fu X x x1 = some r) (hx : mK X x = some (11, 0)) (ho : mK X oa = none) (hE : ∀ E, r = .inl E → E ∈ (["java/lang/IndexOutOfBoundsException"] : List String)) : CtrP D l yL_meets cL_meets 4 (some .int) [(0, 16, 19, 13)] rmL_meets [vA (some x), vI x1, vA (some oa)] (uM X (oM oa g)) (wPost oa g ["java/lang/IndexOutOfBoundsException"] X (wrL_meets X r)) := by
  refine ctrP_of hl (by decide) (Nat.le_of_ble_eq_true rfl) fun ev ht B => ?_
  refine g_aload_n (pc := 0) B dL_meets_0 2 rfl ?_
  refine g_iconst (pc := 1) B dL_meets_1 (0 : Int32) (by decide) ?_
  refine g_aload_n (pc := 2) B dL_meets_2 0 rfl ?_
  refine g_iload_n (pc := 3) B dL_meets_3 1 rfl ?_
  rcases r with E | v
  · refine h_callVT (pc := 4) (As := [vI x1]) (st := [vI (0 : Int32), vA (some oa)]) (X' := uM X (oM oa g)) B cal_X11_meets kmL_94 kn_X11_meets ks_X11_meets (uM_Kl hx) (by decide) rfl (fun l hl => (ct_X11_meets hl h).frame _ (apM_o ho)) rfl (Nat.le_of_ble_eq_true rfl) (by decide) (by decide) dL_meets_4 rfl ?_
    have hm := hE E rfl
    rcases List.mem_cons.mp hm with rfl | hm
    · refine g_catch (pc := 4) [] (0, 16, 19, 13) [] B ht rfl (fun z hz => nomatch hz) ⟨by decide, by decide⟩ (by decide) kxL_13 (List.mem_of_getElem? (i := 0) rfl) (fun z q => ?_)
      refine g_astore_n (pc := 19) (L' := [(3, vA (some q)), (0, vA (some x)), (1, vI x1), (2, vA (some oa))]) B dL_meets_19 (by decide) rfl ?_
      refine g_iconst (pc := 20) B dL_meets_20 (1 : Int32) (by decide) ?_
      exact p_ret_I (pc := 21) B rfl ⟨0, z, rfl, rfl, rfl⟩ (by decide) (by decide) dL_meets_21
    exact nomatch hm
  · refine h_callV (pc := 4) (As := [vI x1]) (st := [vI (0 : Int32), vA (some oa)]) (X' := uM X (oM oa g)) (cs' := 1) (sl' := 6) (st10 := [vI v, vI (0 : Int32), vA (some oa)]) B cal_X11_meets kmL_94 kn_X11_meets ks_X11_meets (uM_Kl hx) (by decide) rfl (fun l hl => (ct_X11_meets hl h).frame _ (apM_o ho)) rfl (Nat.le_of_ble_eq_true rfl) (by decide) (by decide) dL_meets_4 rfl rfl rfl rfl ?_
    refine g_if_eq (pc := 7) (tgt := 14) B dL_meets_7 (by decide) (fun c9 => ?_) (fun c9 => ?_)
    · refine g_lconst (pc := 14) B dL_meets_14 (0 : Int64) (by decide) ?_
      refine g_last (pc := 15) B ((uM_Kr ho).trans oM_K) vin01 dL_meets_15 ?_
      rw [uM_sJ ho]
      refine g_goto (pc := 16) (tgt := 22) B dL_meets_16 (by decide) ?_
      refine g_iconst (pc := 22) B dL_meets_22 (0 : Int32) (by decide) ?_
      exact p_ret_I (pc := 23) B rfl ⟨rfl, by rw [if_pos c9]⟩ (by decide) (by decide) dL_meets_23
    · refine g_lconst (pc := 10) B dL_meets_10 (1 : Int64) (by decide) ?_
      refine g_goto (pc := 11) (tgt := 15) B dL_meets_11 (by decide) ?_
      refine g_last (pc := 15) B ((uM_Kr ho).trans oM_K) vin01 dL_meets_15 ?_
      rw [uM_sJ ho]
      refine g_goto (pc := 16) (tgt := 22) B dL_meets_16 (by decide) ?_
      refine g_iconst (pc := 22) B dL_meets_22 (0 : Int32) (by decide) ?_
      exact p_ret_I (pc := 23) B rfl ⟨rfl, by rw [if_neg c9]⟩ (by decide) (by decide) dL_meets_23
def rmL_copyOf : Room := { frames := 8, cells := 1, slots := 6, locals := 133 }
def wrL_copyOf (X : Mem) : String ⊕ (Int32) → String ⊕ (Int64 × Mem) := fun r => match r with
  | .inl E => .inl E
  | .inr v => .inr (v.toInt64, X)
set_option maxRecDepth 100000 in
set_option maxHeartbeats 4000000 in
theorem cw_L_copyOf {D : DD} {l : Launch} {X : Mem} {x oa : Nat} {g : Nat → Int64} {x1 : Int32} {r : String ⊕ (Int32)} (hl : l.stackTraces = false) (h : fX11_copyOf X x x1 = some r) (hx : mK X x = some (11, 0)) (ho : mK X oa = none) (hE : ∀ E, r = .inl E → E ∈ (["java/lang/IndexOutOfBoundsException"] : List String)) : CtrP D l yL_copyOf cL_copyOf 4 (some .int) [(0, 9, 12, 13)] rmL_copyOf [vA (some x), vI x1, vA (some oa)] (uM X (oM oa g)) (wPost oa g ["java/lang/IndexOutOfBoundsException"] X (wrL_copyOf X r)) := by
  refine ctrP_of hl (by decide) (Nat.le_of_ble_eq_true rfl) fun ev ht B => ?_
  refine g_aload_n (pc := 0) B dL_copyOf_0 2 rfl ?_
  refine g_iconst (pc := 1) B dL_copyOf_1 (0 : Int32) (by decide) ?_
  refine g_aload_n (pc := 2) B dL_copyOf_2 0 rfl ?_
  refine g_iload_n (pc := 3) B dL_copyOf_3 1 rfl ?_
  rcases r with E | v
  · refine h_callVT (pc := 4) (As := [vI x1]) (st := [vI (0 : Int32), vA (some oa)]) (X' := uM X (oM oa g)) B cal_X11_copyOf kmL_98 kn_X11_copyOf ks_X11_copyOf (uM_Kl hx) (by decide) rfl (fun l hl => (ct_X11_copyOf hl h).frame _ (apM_o ho)) rfl (Nat.le_of_ble_eq_true rfl) (by decide) (by decide) dL_copyOf_4 rfl ?_
    have hm := hE E rfl
    rcases List.mem_cons.mp hm with rfl | hm
    · refine g_catch (pc := 4) [] (0, 9, 12, 13) [] B ht rfl (fun z hz => nomatch hz) ⟨by decide, by decide⟩ (by decide) kxL_13 (List.mem_of_getElem? (i := 0) rfl) (fun z q => ?_)
      refine g_astore_n (pc := 12) (L' := [(3, vA (some q)), (0, vA (some x)), (1, vI x1), (2, vA (some oa))]) B dL_copyOf_12 (by decide) rfl ?_
      refine g_iconst (pc := 13) B dL_copyOf_13 (1 : Int32) (by decide) ?_
      exact p_ret_I (pc := 14) B rfl ⟨0, z, rfl, rfl, rfl⟩ (by decide) (by decide) dL_copyOf_14
    exact nomatch hm
  · refine h_callV (pc := 4) (As := [vI x1]) (st := [vI (0 : Int32), vA (some oa)]) (X' := uM X (oM oa g)) (cs' := 1) (sl' := 6) (st10 := [vI v, vI (0 : Int32), vA (some oa)]) B cal_X11_copyOf kmL_98 kn_X11_copyOf ks_X11_copyOf (uM_Kl hx) (by decide) rfl (fun l hl => (ct_X11_copyOf hl h).frame _ (apM_o ho)) rfl (Nat.le_of_ble_eq_true rfl) (by decide) (by decide) dL_copyOf_4 rfl rfl rfl rfl ?_
    refine g_i2l (pc := 7) B dL_copyOf_7 ?_
    refine g_last (pc := 8) B ((uM_Kr ho).trans oM_K) vin01 dL_copyOf_8 ?_
    rw [uM_sJ ho]
    refine g_goto (pc := 9) (tgt := 15) B dL_copyOf_9 (by decide) ?_
    refine g_iconst (pc := 15) B dL_copyOf_15 (0 : Int32) (by decide) ?_
    exact p_ret_I (pc := 16) B rfl ⟨rfl, rfl⟩ (by decide) (by decide) dL_copyOf_16
def rmL_hangs : Room := { frames := 8, cells := 1, slots := 6, locals := 134 }
def wrL_hangs (X : Mem) : String ⊕ (Int32) → String ⊕ (Int64 × Mem) := fun r => match r with
  | .inl E => .inl E
  | .inr v => .inr (v.toInt64, X)
set_option maxRecDepth 100000 in
set_option maxHeartbeats 4000000 in
theorem cw_L_hangs {D : DD} {l : Launch} {X : Mem} {x oa : Nat} {g : Nat → Int64} {x1 : Int32} {r : String ⊕ (Int32)} (hl : l.stackTraces = false) (h : fX11_hangs X x x1 = some r) (hx : mK X x = some (11, 0)) (ho : mK X oa = none) (hE : ∀ E, r = .inl E → E ∈ (["java/lang/IndexOutOfBoundsException"] : List String)) : CtrP D l yL_hangs cL_hangs 4 (some .int) [(0, 9, 12, 13)] rmL_hangs [vA (some x), vI x1, vA (some oa)] (uM X (oM oa g)) (wPost oa g ["java/lang/IndexOutOfBoundsException"] X (wrL_hangs X r)) := by
  refine ctrP_of hl (by decide) (Nat.le_of_ble_eq_true rfl) fun ev ht B => ?_
  refine g_aload_n (pc := 0) B dL_hangs_0 2 rfl ?_
  refine g_iconst (pc := 1) B dL_hangs_1 (0 : Int32) (by decide) ?_
  refine g_aload_n (pc := 2) B dL_hangs_2 0 rfl ?_
  refine g_iload_n (pc := 3) B dL_hangs_3 1 rfl ?_
  rcases r with E | v
  · refine h_callVT (pc := 4) (As := [vI x1]) (st := [vI (0 : Int32), vA (some oa)]) (X' := uM X (oM oa g)) B cal_X11_hangs kmL_101 kn_X11_hangs ks_X11_hangs (uM_Kl hx) (by decide) rfl (fun l hl => (ct_X11_hangs hl h).frame _ (apM_o ho)) rfl (Nat.le_of_ble_eq_true rfl) (by decide) (by decide) dL_hangs_4 rfl ?_
    have hm := hE E rfl
    rcases List.mem_cons.mp hm with rfl | hm
    · refine g_catch (pc := 4) [] (0, 9, 12, 13) [] B ht rfl (fun z hz => nomatch hz) ⟨by decide, by decide⟩ (by decide) kxL_13 (List.mem_of_getElem? (i := 0) rfl) (fun z q => ?_)
      refine g_astore_n (pc := 12) (L' := [(3, vA (some q)), (0, vA (some x)), (1, vI x1), (2, vA (some oa))]) B dL_hangs_12 (by decide) rfl ?_
      refine g_iconst (pc := 13) B dL_hangs_13 (1 : Int32) (by decide) ?_
      exact p_ret_I (pc := 14) B rfl ⟨0, z, rfl, rfl, rfl⟩ (by decide) (by decide) dL_hangs_14
    exact nomatch hm
  · refine h_callV (pc := 4) (As := [vI x1]) (st := [vI (0 : Int32), vA (some oa)]) (X' := uM X (oM oa g)) (cs' := 1) (sl' := 6) (st10 := [vI v, vI (0 : Int32), vA (some oa)]) B cal_X11_hangs kmL_101 kn_X11_hangs ks_X11_hangs (uM_Kl hx) (by decide) rfl (fun l hl => (ct_X11_hangs hl h).frame _ (apM_o ho)) rfl (Nat.le_of_ble_eq_true rfl) (by decide) (by decide) dL_hangs_4 rfl rfl rfl rfl ?_
    refine g_i2l (pc := 7) B dL_hangs_7 ?_
    refine g_last (pc := 8) B ((uM_Kr ho).trans oM_K) vin01 dL_hangs_8 ?_
    rw [uM_sJ ho]
    refine g_goto (pc := 9) (tgt := 15) B dL_hangs_9 (by decide) ?_
    refine g_iconst (pc := 15) B dL_hangs_15 (0 : Int32) (by decide) ?_
    exact p_ret_I (pc := 16) B rfl ⟨rfl, rfl⟩ (by decide) (by decide) dL_hangs_16
def rmL_onWall : Room := { frames := 7, cells := 1, slots := 6, locals := 114 }
def wrL_onWall (X : Mem) : String ⊕ (Int32) → String ⊕ (Int64 × Mem) := fun r => match r with
  | .inl E => .inl E
  | .inr v => .inr (v.toInt64, X)
set_option maxRecDepth 100000 in
set_option maxHeartbeats 4000000 in
theorem cw_L_onWall {D : DD} {l : Launch} {X : Mem} {x oa : Nat} {g : Nat → Int64} {fu : Nat} {x1 : Int32} {x2 : Int32} {r : String ⊕ (Int32)} (hl : l.stackTraces = false) (h : fX11_onWall fu X x x1 x2 = some r) (hx : mK X x = some (11, 0)) (ho : mK X oa = none) (hE : ∀ E, r = .inl E → E ∈ (["java/lang/IndexOutOfBoundsException"] : List String)) : CtrP D l yL_onWall cL_onWall 5 (some .int) [(0, 10, 13, 13)] rmL_onWall [vA (some x), vI x1, vI x2, vA (some oa)] (uM X (oM oa g)) (wPost oa g ["java/lang/IndexOutOfBoundsException"] X (wrL_onWall X r)) := by
  refine ctrP_of hl (by decide) (Nat.le_of_ble_eq_true rfl) fun ev ht B => ?_
  refine g_aload_n (pc := 0) B dL_onWall_0 3 rfl ?_
  refine g_iconst (pc := 1) B dL_onWall_1 (0 : Int32) (by decide) ?_
  refine g_aload_n (pc := 2) B dL_onWall_2 0 rfl ?_
  refine g_iload_n (pc := 3) B dL_onWall_3 1 rfl ?_
  refine g_iload_n (pc := 4) B dL_onWall_4 2 rfl ?_
  rcases r with E | v
  · refine h_callVT (pc := 5) (As := [vI x1, vI x2]) (st := [vI (0 : Int32), vA (some oa)]) (X' := uM X (oM oa g)) B cal_X11_onWall kmL_104 kn_X11_onWall ks_X11_onWall (uM_Kl hx) (by decide) rfl (fun l hl => (ct_X11_onWall hl h).frame _ (apM_o ho)) rfl (Nat.le_of_ble_eq_true rfl) (by decide) (by decide) dL_onWall_5 rfl ?_
    have hm := hE E rfl
    rcases List.mem_cons.mp hm with rfl | hm
    · refine g_catch (pc := 5) [] (0, 10, 13, 13) [] B ht rfl (fun z hz => nomatch hz) ⟨by decide, by decide⟩ (by decide) kxL_13 (List.mem_of_getElem? (i := 0) rfl) (fun z q => ?_)
      refine g_astore (pc := 13) (L' := [(4, vA (some q)), (0, vA (some x)), (1, vI x1), (2, vI x2), (3, vA (some oa))]) B dL_onWall_13 (by decide) rfl ?_
      refine g_iconst (pc := 15) B dL_onWall_15 (1 : Int32) (by decide) ?_
      exact p_ret_I (pc := 16) B rfl ⟨0, z, rfl, rfl, rfl⟩ (by decide) (by decide) dL_onWall_16
    exact nomatch hm
  · refine h_callV (pc := 5) (As := [vI x1, vI x2]) (st := [vI (0 : Int32), vA (some oa)]) (X' := uM X (oM oa g)) (cs' := 1) (sl' := 6) (st10 := [vI v, vI (0 : Int32), vA (some oa)]) B cal_X11_onWall kmL_104 kn_X11_onWall ks_X11_onWall (uM_Kl hx) (by decide) rfl (fun l hl => (ct_X11_onWall hl h).frame _ (apM_o ho)) rfl (Nat.le_of_ble_eq_true rfl) (by decide) (by decide) dL_onWall_5 rfl rfl rfl rfl ?_
    refine g_i2l (pc := 8) B dL_onWall_8 ?_
    refine g_last (pc := 9) B ((uM_Kr ho).trans oM_K) vin01 dL_onWall_9 ?_
    rw [uM_sJ ho]
    refine g_goto (pc := 10) (tgt := 17) B dL_onWall_10 (by decide) ?_
    refine g_iconst (pc := 17) B dL_onWall_17 (0 : Int32) (by decide) ?_
    exact p_ret_I (pc := 18) B rfl ⟨rfl, rfl⟩ (by decide) (by decide) dL_onWall_18
def rmL_hung : Room := { frames := 8, cells := 1, slots := 6, locals := 134 }
def wrL_hung (X : Mem) : String ⊕ (Int32) → String ⊕ (Int64 × Mem) := fun r => match r with
  | .inl E => .inl E
  | .inr v => .inr (v.toInt64, X)
set_option maxRecDepth 100000 in
set_option maxHeartbeats 4000000 in
theorem cw_L_hung {D : DD} {l : Launch} {X : Mem} {x oa : Nat} {g : Nat → Int64} {fu : Nat} {x1 : Int32} {r : String ⊕ (Int32)} (hl : l.stackTraces = false) (h : fX11_hung fu X x x1 = some r) (hx : mK X x = some (11, 0)) (ho : mK X oa = none) (hE : ∀ E, r = .inl E → E ∈ (["java/lang/IndexOutOfBoundsException"] : List String)) : CtrP D l yL_hung cL_hung 4 (some .int) [(0, 9, 12, 13)] rmL_hung [vA (some x), vI x1, vA (some oa)] (uM X (oM oa g)) (wPost oa g ["java/lang/IndexOutOfBoundsException"] X (wrL_hung X r)) := by
  refine ctrP_of hl (by decide) (Nat.le_of_ble_eq_true rfl) fun ev ht B => ?_
  refine g_aload_n (pc := 0) B dL_hung_0 2 rfl ?_
  refine g_iconst (pc := 1) B dL_hung_1 (0 : Int32) (by decide) ?_
  refine g_aload_n (pc := 2) B dL_hung_2 0 rfl ?_
  refine g_iload_n (pc := 3) B dL_hung_3 1 rfl ?_
  rcases r with E | v
  · refine h_callVT (pc := 4) (As := [vI x1]) (st := [vI (0 : Int32), vA (some oa)]) (X' := uM X (oM oa g)) B cal_X11_hung kmL_107 kn_X11_hung ks_X11_hung (uM_Kl hx) (by decide) rfl (fun l hl => (ct_X11_hung hl h).frame _ (apM_o ho)) rfl (Nat.le_of_ble_eq_true rfl) (by decide) (by decide) dL_hung_4 rfl ?_
    have hm := hE E rfl
    rcases List.mem_cons.mp hm with rfl | hm
    · refine g_catch (pc := 4) [] (0, 9, 12, 13) [] B ht rfl (fun z hz => nomatch hz) ⟨by decide, by decide⟩ (by decide) kxL_13 (List.mem_of_getElem? (i := 0) rfl) (fun z q => ?_)
      refine g_astore_n (pc := 12) (L' := [(3, vA (some q)), (0, vA (some x)), (1, vI x1), (2, vA (some oa))]) B dL_hung_12 (by decide) rfl ?_
      refine g_iconst (pc := 13) B dL_hung_13 (1 : Int32) (by decide) ?_
      exact p_ret_I (pc := 14) B rfl ⟨0, z, rfl, rfl, rfl⟩ (by decide) (by decide) dL_hung_14
    exact nomatch hm
  · refine h_callV (pc := 4) (As := [vI x1]) (st := [vI (0 : Int32), vA (some oa)]) (X' := uM X (oM oa g)) (cs' := 1) (sl' := 6) (st10 := [vI v, vI (0 : Int32), vA (some oa)]) B cal_X11_hung kmL_107 kn_X11_hung ks_X11_hung (uM_Kl hx) (by decide) rfl (fun l hl => (ct_X11_hung hl h).frame _ (apM_o ho)) rfl (Nat.le_of_ble_eq_true rfl) (by decide) (by decide) dL_hung_4 rfl rfl rfl rfl ?_
    refine g_i2l (pc := 7) B dL_hung_7 ?_
    refine g_last (pc := 8) B ((uM_Kr ho).trans oM_K) vin01 dL_hung_8 ?_
    rw [uM_sJ ho]
    refine g_goto (pc := 9) (tgt := 15) B dL_hung_9 (by decide) ?_
    refine g_iconst (pc := 15) B dL_hung_15 (0 : Int32) (by decide) ?_
    exact p_ret_I (pc := 16) B rfl ⟨rfl, rfl⟩ (by decide) (by decide) dL_hung_16
