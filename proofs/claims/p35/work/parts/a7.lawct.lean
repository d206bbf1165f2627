set_option maxRecDepth 100000 in
set_option maxHeartbeats 4000000 in
theorem cb_L_law_L258 {D : DD} {ev : EV} {Q : State → Prop} {fu b Ls : Nat} {xs : Nat → Int32} {cs sl : Nat} {X : LwP} {x1 : Nat} {x2 : Nat} {x3 : Nat} {x4 : Nat} {x5 : Int32} {r : Int32 × LwP} (B : Amb D (A0L ev) ev RL "law" cL_law 10 (some .boolean) room_1) (hs : ScrL ev b Ls xs) (hL : Ls < 2 ^ 31) (hend : ∀ (X' : LwP) (cs sl : Nat) (L : List (Nat × TV)), cs ≤ 600104 ∧ sl ≤ 7301314 → Gd D (A0L ev) ev Q (lM X') cs sl 282 L [vI r.1]) (hap : apM X.1 X.2) (hcs : cs + 60 ≤ 600104 ∧ sl + 425 ≤ 7301314)  (h : fL_law_L258 fu Ls xs  X x1 x2 x3 x4 x5 = some r) : Gd D (A0L ev) ev Q (lM X) (cs) (sl) 258 [(1, vA (some x1)), (2, vA (some x2)), (3, vA (some x3)), (4, vA (some x4)), (5, vI x5)] [] := by
  unfold fL_law_L258 at h
  refine g_iload (pc := 258) B dL_law_258 4 rfl ?_
  refine g_if_eq (pc := 260) (tgt := 281) B dL_law_260 (by decide) (fun c260 => ?_) (fun c260 => ?_)
  · rw [if_pos c260] at h
    refine g_iconst (pc := 281) B dL_law_281 (0 : Int32) (by decide) ?_
    obtain rfl := Option.some.inj h
    exact hend _ _ _ _ (by omega)
  · rw [if_neg c260] at h
    refine g_aload_n (pc := 263) B dL_law_263 0 rfl ?_
    refine g_aload_n (pc := 264) B dL_law_264 1 rfl ?_
    refine g_aload_n (pc := 265) B dL_law_265 2 rfl ?_
    refine g_aload (pc := 266) B dL_law_266 3 rfl ?_
    refine g_bipush (pc := 268) B dL_law_268 (7 : Int32) (by decide) ?_
    refine g_iconst (pc := 270) B dL_law_270 (3 : Int32) (by decide) ?_
    obtain ⟨v271, X271, e271, h⟩ := obW h
    obtain ⟨hap271, h⟩ := apC_s h
    refine h_callS (pc := 271) (As := [vA (some x1), vA (some x2), vA (some x3), vA (some x4), vI (7 : Int32), vI (3 : Int32)]) (st := []) (X' := (lM X271)) (cs' := cs + 1) (sl' := sl + 40) (st10 := [vI v271]) B cal_L_isWall kmL_165 kz_L_isWall (fun l hl => ct_L_isWall (X0 := X) hl hap e271) rfl (Nat.le_of_ble_eq_true rfl) (by decide) ⟨by show cs + 1 ≤ 600104; omega, by show sl + 40 ≤ 7301314; omega⟩ dL_law_271 rfl rfl rfl rfl ?_
    refine g_if_eq (pc := 274) (tgt := 281) B dL_law_274 (by decide) (fun c274 => ?_) (fun c274 => ?_)
    · rw [if_pos c274] at h
      refine g_iconst (pc := 281) B dL_law_281 (0 : Int32) (by decide) ?_
      obtain rfl := Option.some.inj h
      exact hend _ _ _ _ (by omega)
    · rw [if_neg c274] at h
      refine g_iconst (pc := 277) B dL_law_277 (1 : Int32) (by decide) ?_
      refine g_goto (pc := 278) (tgt := 282) B dL_law_278 (by decide) ?_
      obtain rfl := Option.some.inj h
      exact hend _ _ _ _ (by omega)
set_option maxRecDepth 100000 in
set_option maxHeartbeats 4000000 in
theorem cb_L_law_L250 {D : DD} {ev : EV} {Q : State → Prop} {fu b Ls : Nat} {xs : Nat → Int32} {cs sl : Nat} {rec107 : LwP → Nat → Nat → Nat → Nat → Int32 → Int32 → Int32 → Option (Int32 × LwP)} {X : LwP} {x1 : Nat} {x2 : Nat} {x3 : Nat} {x4 : Nat} {x6 : Int32} {x7 : Int32} {s0 : Int32} {r : Int32 × LwP} (B : Amb D (A0L ev) ev RL "law" cL_law 10 (some .boolean) room_1) (hs : ScrL ev b Ls xs) (hL : Ls < 2 ^ 31) (hend : ∀ (X' : LwP) (cs sl : Nat) (L : List (Nat × TV)), cs ≤ 600104 ∧ sl ≤ 7301314 → Gd D (A0L ev) ev Q (lM X') cs sl 282 L [vI r.1]) (hap : apM X.1 X.2) (hcs : cs + 60 ≤ 600104 ∧ sl + 425 ≤ 7301314) (hrec107 : ∀ {X : LwP} {x1 : Nat} {x2 : Nat} {x3 : Nat} {x4 : Nat} {x5 : Int32} {x6 : Int32} {x7 : Int32}, apM X.1 X.2 → rec107 X x1 x2 x3 x4 x5 x6 x7 = some r → Gd D (A0L ev) ev Q (lM X) (cs + 59) (sl + 385) 107 [(0, vA (some b)), (1, vA (some x1)), (2, vA (some x2)), (3, vA (some x3)), (4, vA (some x4)), (5, vI x5), (6, vI x6), (7, vI x7)] []) (h : fL_law_L250 fu Ls xs rec107 X x1 x2 x3 x4 x6 x7 s0 = some r) : Gd D (A0L ev) ev Q (lM X) (cs + 59) (sl + 385) 250 [(0, vA (some b)), (1, vA (some x1)), (2, vA (some x2)), (3, vA (some x3)), (4, vA (some x4)), (6, vI x6), (7, vI x7)] [vI s0] := by
  unfold fL_law_L250 at h
  refine g_istore (pc := 250) (L' := [(5, vI s0), (0, vA (some b)), (1, vA (some x1)), (2, vA (some x2)), (3, vA (some x3)), (4, vA (some x4)), (6, vI x6), (7, vI x7)]) B dL_law_250 (by decide) rfl ?_
  refine g_iinc (pc := 252) (v := (x7 + (1 : Int32))) (L' := [(7, vI (x7 + (1 : Int32))), (5, vI s0), (0, vA (some b)), (1, vA (some x1)), (2, vA (some x2)), (3, vA (some x3)), (4, vA (some x4)), (6, vI x6)]) B dL_law_252 (by decide) 7 rfl rfl rfl ?_
  refine g_goto (pc := 255) (tgt := 107) B dL_law_255 (by decide) ?_
  refine g_sub (pc := 107) [2, 3, 4, 5, 6, 1, 7, 0] rfl ?_
  refine g_widen (cs' := cs + 59) (sl' := sl + 385) (by omega) (by omega) ?_
  exact hrec107 hap h
set_option maxRecDepth 100000 in
set_option maxHeartbeats 4000000 in
theorem cb_L_law_L249 {D : DD} {ev : EV} {Q : State → Prop} {fu b Ls : Nat} {xs : Nat → Int32} {cs sl : Nat} {rec107 : LwP → Nat → Nat → Nat → Nat → Int32 → Int32 → Int32 → Option (Int32 × LwP)} {X : LwP} {x1 : Nat} {x2 : Nat} {x3 : Nat} {x4 : Nat} {x6 : Int32} {x7 : Int32} {r : Int32 × LwP} (B : Amb D (A0L ev) ev RL "law" cL_law 10 (some .boolean) room_1) (hs : ScrL ev b Ls xs) (hL : Ls < 2 ^ 31) (hend : ∀ (X' : LwP) (cs sl : Nat) (L : List (Nat × TV)), cs ≤ 600104 ∧ sl ≤ 7301314 → Gd D (A0L ev) ev Q (lM X') cs sl 282 L [vI r.1]) (hap : apM X.1 X.2) (hcs : cs + 60 ≤ 600104 ∧ sl + 425 ≤ 7301314) (hrec107 : ∀ {X : LwP} {x1 : Nat} {x2 : Nat} {x3 : Nat} {x4 : Nat} {x5 : Int32} {x6 : Int32} {x7 : Int32}, apM X.1 X.2 → rec107 X x1 x2 x3 x4 x5 x6 x7 = some r → Gd D (A0L ev) ev Q (lM X) (cs + 59) (sl + 385) 107 [(0, vA (some b)), (1, vA (some x1)), (2, vA (some x2)), (3, vA (some x3)), (4, vA (some x4)), (5, vI x5), (6, vI x6), (7, vI x7)] []) (h : fL_law_L249 fu Ls xs rec107 X x1 x2 x3 x4 x6 x7 = some r) : Gd D (A0L ev) ev Q (lM X) (cs + 59) (sl + 385) 249 [(0, vA (some b)), (1, vA (some x1)), (2, vA (some x2)), (3, vA (some x3)), (4, vA (some x4)), (6, vI x6), (7, vI x7)] [] := by
  unfold fL_law_L249 at h
  refine g_iconst (pc := 249) B dL_law_249 (0 : Int32) (by decide) ?_
  refine g_sub (pc := 250) [0, 1, 2, 3, 4, 5, 6] rfl ?_
  exact cb_L_law_L250 B hs hL hend hap hcs hrec107 h
set_option maxRecDepth 100000 in
set_option maxHeartbeats 4000000 in
theorem cb_L_law_L245 {D : DD} {ev : EV} {Q : State → Prop} {fu b Ls : Nat} {xs : Nat → Int32} {cs sl : Nat} {rec107 : LwP → Nat → Nat → Nat → Nat → Int32 → Int32 → Int32 → Option (Int32 × LwP)} {X : LwP} {x1 : Nat} {x2 : Nat} {x3 : Nat} {x4 : Nat} {x6 : Int32} {x7 : Int32} {r : Int32 × LwP} (B : Amb D (A0L ev) ev RL "law" cL_law 10 (some .boolean) room_1) (hs : ScrL ev b Ls xs) (hL : Ls < 2 ^ 31) (hend : ∀ (X' : LwP) (cs sl : Nat) (L : List (Nat × TV)), cs ≤ 600104 ∧ sl ≤ 7301314 → Gd D (A0L ev) ev Q (lM X') cs sl 282 L [vI r.1]) (hap : apM X.1 X.2) (hcs : cs + 60 ≤ 600104 ∧ sl + 425 ≤ 7301314) (hrec107 : ∀ {X : LwP} {x1 : Nat} {x2 : Nat} {x3 : Nat} {x4 : Nat} {x5 : Int32} {x6 : Int32} {x7 : Int32}, apM X.1 X.2 → rec107 X x1 x2 x3 x4 x5 x6 x7 = some r → Gd D (A0L ev) ev Q (lM X) (cs + 59) (sl + 385) 107 [(0, vA (some b)), (1, vA (some x1)), (2, vA (some x2)), (3, vA (some x3)), (4, vA (some x4)), (5, vI x5), (6, vI x6), (7, vI x7)] []) (h : fL_law_L245 fu Ls xs rec107 X x1 x2 x3 x4 x6 x7 = some r) : Gd D (A0L ev) ev Q (lM X) (cs + 59) (sl + 385) 245 [(0, vA (some b)), (1, vA (some x1)), (2, vA (some x2)), (3, vA (some x3)), (4, vA (some x4)), (6, vI x6), (7, vI x7)] [] := by
  unfold fL_law_L245 at h
  refine g_iconst (pc := 245) B dL_law_245 (1 : Int32) (by decide) ?_
  refine g_goto (pc := 246) (tgt := 250) B dL_law_246 (by decide) ?_
  refine g_sub (pc := 250) [0, 1, 2, 3, 4, 5, 6] rfl ?_
  exact cb_L_law_L250 B hs hL hend hap hcs hrec107 h
set_option maxRecDepth 100000 in
set_option maxHeartbeats 4000000 in
theorem cb_L_law_L216 {D : DD} {ev : EV} {Q : State → Prop} {fu b Ls : Nat} {xs : Nat → Int32} {cs sl : Nat} {rec107 : LwP → Nat → Nat → Nat → Nat → Int32 → Int32 → Int32 → Option (Int32 × LwP)} {X : LwP} {x1 : Nat} {x2 : Nat} {x3 : Nat} {x4 : Nat} {x6 : Int32} {x7 : Int32} {x8 : Int32} {x9 : Int32} {r : Int32 × LwP} (B : Amb D (A0L ev) ev RL "law" cL_law 10 (some .boolean) room_1) (hs : ScrL ev b Ls xs) (hL : Ls < 2 ^ 31) (hend : ∀ (X' : LwP) (cs sl : Nat) (L : List (Nat × TV)), cs ≤ 600104 ∧ sl ≤ 7301314 → Gd D (A0L ev) ev Q (lM X') cs sl 282 L [vI r.1]) (hap : apM X.1 X.2) (hcs : cs + 60 ≤ 600104 ∧ sl + 425 ≤ 7301314) (hrec107 : ∀ {X : LwP} {x1 : Nat} {x2 : Nat} {x3 : Nat} {x4 : Nat} {x5 : Int32} {x6 : Int32} {x7 : Int32}, apM X.1 X.2 → rec107 X x1 x2 x3 x4 x5 x6 x7 = some r → Gd D (A0L ev) ev Q (lM X) (cs + 59) (sl + 385) 107 [(0, vA (some b)), (1, vA (some x1)), (2, vA (some x2)), (3, vA (some x3)), (4, vA (some x4)), (5, vI x5), (6, vI x6), (7, vI x7)] []) (h : fL_law_L216 fu Ls xs rec107 X x1 x2 x3 x4 x6 x7 x8 x9 = some r) : Gd D (A0L ev) ev Q (lM X) (cs + 58) (sl + 345) 216 [(0, vA (some b)), (1, vA (some x1)), (2, vA (some x2)), (3, vA (some x3)), (4, vA (some x4)), (6, vI x6), (7, vI x7), (8, vI x8), (9, vI x9)] [] := by
  unfold fL_law_L216 at h
  refine g_iload (pc := 216) B dL_law_216 6 rfl ?_
  refine g_bipush (pc := 218) B dL_law_218 (40 : Int32) (by decide) ?_
  refine g_irem (pc := 220) B dL_law_220 (by decide) ?_
  refine g_bipush (pc := 221) B dL_law_221 (39 : Int32) (by decide) ?_
  refine g_icmp_ne (pc := 223) (tgt := 245) B dL_law_223 (by decide) (fun c223 => ?_) (fun c223 => ?_)
  · rw [if_neg c223] at h
    refine g_sub (pc := 245) [0, 1, 2, 3, 4, 5, 6] rfl ?_
    refine g_widen (cs' := cs + 59) (sl' := sl + 385) (by omega) (by omega) ?_
    exact cb_L_law_L245 B hs hL hend hap hcs hrec107 h
  · rw [if_pos c223] at h
    refine g_aload_n (pc := 226) B dL_law_226 1 rfl ?_
    refine g_aload_n (pc := 227) B dL_law_227 2 rfl ?_
    refine g_aload_n (pc := 228) B dL_law_228 3 rfl ?_
    refine g_aload (pc := 229) B dL_law_229 4 rfl ?_
    refine g_iload (pc := 231) B dL_law_231 7 rfl ?_
    refine g_iconst (pc := 233) B dL_law_233 (3 : Int32) (by decide) ?_
    refine g_idiv (pc := 234) B dL_law_234 (by decide) ?_
    refine g_iload (pc := 235) B dL_law_235 8 rfl ?_
    refine g_iconst (pc := 237) B dL_law_237 (3 : Int32) (by decide) ?_
    refine g_idiv (pc := 238) B dL_law_238 (by decide) ?_
    obtain ⟨v239, X239, e239, h⟩ := obW h
    obtain ⟨hap239, h⟩ := apC_s h
    refine h_callS (pc := 239) (As := [vA (some x1), vA (some x2), vA (some x3), vA (some x4), vI (x8 / (3 : Int32)), vI (x9 / (3 : Int32))]) (st := []) (X' := (lM X239)) (cs' := cs + 59) (sl' := sl + 385) (st10 := [vI v239]) B cal_L_isWall kmL_165 kz_L_isWall (fun l hl => ct_L_isWall (X0 := X) hl hap e239) rfl (Nat.le_of_ble_eq_true rfl) (by decide) ⟨by show cs + 59 ≤ 600104; omega, by show sl + 385 ≤ 7301314; omega⟩ dL_law_239 rfl rfl rfl rfl ?_
    refine g_if_eq (pc := 242) (tgt := 249) B dL_law_242 (by decide) (fun c242 => ?_) (fun c242 => ?_)
    · rw [if_pos c242] at h
      refine g_sub (pc := 249) [0, 1, 2, 3, 4, 5, 6] rfl ?_
      exact cb_L_law_L249 B hs hL hend hap239 hcs hrec107 h
    · rw [if_neg c242] at h
      refine g_sub (pc := 245) [0, 1, 2, 3, 4, 5, 6] rfl ?_
      exact cb_L_law_L245 B hs hL hend hap239 hcs hrec107 h
set_option maxRecDepth 100000 in
set_option maxHeartbeats 4000000 in
theorem cb_L_law_L107b {D : DD} {ev : EV} {Q : State → Prop} {fu b Ls : Nat} {xs : Nat → Int32} {cs sl : Nat} {rec107 : LwP → Nat → Nat → Nat → Nat → Int32 → Int32 → Int32 → Option (Int32 × LwP)} {X : LwP} {x1 : Nat} {x2 : Nat} {x3 : Nat} {x4 : Nat} {x5 : Int32} {x6 : Int32} {x7 : Int32} {r : Int32 × LwP} (B : Amb D (A0L ev) ev RL "law" cL_law 10 (some .boolean) room_1) (hs : ScrL ev b Ls xs) (hL : Ls < 2 ^ 31) (hend : ∀ (X' : LwP) (cs sl : Nat) (L : List (Nat × TV)), cs ≤ 600104 ∧ sl ≤ 7301314 → Gd D (A0L ev) ev Q (lM X') cs sl 282 L [vI r.1]) (hap : apM X.1 X.2) (hcs : cs + 60 ≤ 600104 ∧ sl + 425 ≤ 7301314) (hrec107 : ∀ {X : LwP} {x1 : Nat} {x2 : Nat} {x3 : Nat} {x4 : Nat} {x5 : Int32} {x6 : Int32} {x7 : Int32}, apM X.1 X.2 → rec107 X x1 x2 x3 x4 x5 x6 x7 = some r → Gd D (A0L ev) ev Q (lM X) (cs + 59) (sl + 385) 107 [(0, vA (some b)), (1, vA (some x1)), (2, vA (some x2)), (3, vA (some x3)), (4, vA (some x4)), (5, vI x5), (6, vI x6), (7, vI x7)] []) (h : fL_law_L107b fu Ls xs rec107 X x1 x2 x3 x4 x5 x6 x7 = some r) : Gd D (A0L ev) ev Q (lM X) (cs) (sl) 107 [(0, vA (some b)), (1, vA (some x1)), (2, vA (some x2)), (3, vA (some x3)), (4, vA (some x4)), (5, vI x5), (6, vI x6), (7, vI x7)] [] := by
  unfold fL_law_L107b at h
  refine g_iload (pc := 107) B dL_law_107 7 rfl ?_
  refine g_iload (pc := 109) B dL_law_109 6 rfl ?_
  refine g_icmp_ge (pc := 111) (tgt := 258) B dL_law_111 (by decide) (fun c111 => ?_) (fun c111 => ?_)
  · rw [if_pos c111] at h
    refine g_sub (pc := 258) [1, 2, 3, 4, 5] rfl ?_
    exact cb_L_law_L258 B hs hL hend hap hcs h
  · rw [if_neg c111] at h
    refine g_iload (pc := 114) B dL_law_114 5 rfl ?_
    refine g_if_eq (pc := 116) (tgt := 258) B dL_law_116 (by decide) (fun c116 => ?_) (fun c116 => ?_)
    · rw [if_pos c116] at h
      refine g_sub (pc := 258) [1, 2, 3, 4, 5] rfl ?_
      exact cb_L_law_L258 B hs hL hend hap hcs h
    · rw [if_neg c116] at h
      refine g_aload_n (pc := 119) B dL_law_119 0 rfl ?_
      refine g_iconst (pc := 120) B dL_law_120 (3 : Int32) (by decide) ?_
      refine g_iload (pc := 121) B dL_law_121 7 rfl ?_
      refine g_imul (pc := 123) B dL_law_123 ?_
      refine g_iconst (pc := 124) B dL_law_124 (1 : Int32) (by decide) ?_
      refine g_iadd (pc := 125) B dL_law_125 ?_
      obtain ⟨c126, h⟩ := chk h
      refine gs_draw (pc := 126) (k := (((3 : Int32) * x7) + (1 : Int32))) (w := (drw Ls xs (((3 : Int32) * x7) + (1 : Int32)))) B hs hL c126 rfl cal_L_draw kmL_155 kz_L_draw (Nat.le_of_ble_eq_true rfl) (by decide) ⟨by show cs ≤ 600104; omega, by show sl ≤ 7301314; omega⟩ dL_law_126 ?_
      refine g_istore (pc := 129) (L' := [(8, vI (drw Ls xs (((3 : Int32) * x7) + (1 : Int32)))), (0, vA (some b)), (1, vA (some x1)), (2, vA (some x2)), (3, vA (some x3)), (4, vA (some x4)), (5, vI x5), (6, vI x6), (7, vI x7)]) B dL_law_129 (by decide) rfl ?_
      refine g_aload_n (pc := 131) B dL_law_131 1 rfl ?_
      refine g_iconst (pc := 132) B dL_law_132 (3 : Int32) (by decide) ?_
      refine g_iload (pc := 133) B dL_law_133 8 rfl ?_
      refine g_imul (pc := 135) B dL_law_135 ?_
      refine g_iconst (pc := 136) B dL_law_136 (2 : Int32) (by decide) ?_
      refine g_iadd (pc := 137) B dL_law_137 ?_
      obtain ⟨c138, h⟩ := chk h
      refine gs_draw (pc := 138) (k := (((3 : Int32) * x7) + (2 : Int32))) (w := (drw Ls xs (((3 : Int32) * x7) + (2 : Int32)))) B hs hL c138 rfl cal_L_draw kmL_155 kz_L_draw (Nat.le_of_ble_eq_true rfl) (by decide) ⟨by show cs ≤ 600104; omega, by show sl ≤ 7301314; omega⟩ dL_law_138 ?_
      refine g_istore (pc := 141) (L' := [(9, vI (drw Ls xs (((3 : Int32) * x7) + (2 : Int32)))), (8, vI (drw Ls xs (((3 : Int32) * x7) + (1 : Int32)))), (0, vA (some b)), (1, vA (some x1)), (2, vA (some x2)), (3, vA (some x3)), (4, vA (some x4)), (5, vI x5), (6, vI x6), (7, vI x7)]) B dL_law_141 (by decide) rfl ?_
      refine g_aload_n (pc := 143) B dL_law_143 3 rfl ?_
      refine g_aload_n (pc := 144) B dL_law_144 4 rfl ?_
      refine g_aload_n (pc := 145) B dL_law_145 5 rfl ?_
      refine g_aload (pc := 146) B dL_law_146 6 rfl ?_
      refine g_aload_n (pc := 148) B dL_law_148 2 rfl ?_
      refine g_iconst (pc := 149) B dL_law_149 (3 : Int32) (by decide) ?_
      refine g_iload (pc := 150) B dL_law_150 9 rfl ?_
      refine g_imul (pc := 152) B dL_law_152 ?_
      obtain ⟨c153, h⟩ := chk h
      refine gs_draw (pc := 153) (k := ((3 : Int32) * x7)) (w := (drw Ls xs ((3 : Int32) * x7))) B hs hL c153 rfl cal_L_draw kmL_155 kz_L_draw (Nat.le_of_ble_eq_true rfl) (by decide) ⟨by show cs ≤ 600104; omega, by show sl ≤ 7301314; omega⟩ dL_law_153 ?_
      refine g_iload (pc := 156) B dL_law_156 1 rfl ?_
      refine g_iload (pc := 158) B dL_law_158 0 rfl ?_
      obtain ⟨v160, X160, e160, h⟩ := obW h
      obtain ⟨hap160, h⟩ := apC_s h
      refine h_callS (pc := 160) (As := [vA (some x1), vA (some x2), vA (some x3), vA (some x4), vI (drw Ls xs ((3 : Int32) * x7)), vI (drw Ls xs (((3 : Int32) * x7) + (1 : Int32))), vI (drw Ls xs (((3 : Int32) * x7) + (2 : Int32)))]) (st := []) (X' := (lM X160)) (cs' := cs + 58) (sl' := sl + 345) (st10 := [vI v160]) B cal_L_step kmL_159 kz_L_step (fun l hl => ct_L_step (X0 := X) hl hap e160) rfl (Nat.le_of_ble_eq_true rfl) (by decide) ⟨by show cs + 58 ≤ 600104; omega, by show sl + 345 ≤ 7301314; omega⟩ dL_law_160 rfl rfl rfl rfl ?_
      refine g_if_eq (pc := 163) (tgt := 249) B dL_law_163 (by decide) (fun c163 => ?_) (fun c163 => ?_)
      · rw [if_pos c163] at h
        refine g_sub (pc := 249) [2, 3, 4, 5, 6, 8, 9] rfl ?_
        refine g_widen (cs' := cs + 59) (sl' := sl + 385) (by omega) (by omega) ?_
        exact cb_L_law_L249 B hs hL hend hap160 hcs hrec107 h
      · rw [if_neg c163] at h
        refine g_aload_n (pc := 166) B dL_law_166 3 rfl ?_
        obtain ⟨k167_1, h⟩ := chk h
        obtain ⟨v167, e167, h⟩ := ob h
        refine p_callV (pc := 167) (P := X160) (As := []) (st := []) (st10 := [vI v167]) (cs' := cs + 58) (sl' := sl + 345) B cal_X11_drafted kmL_52 kn_X11_drafted ks_X11_drafted hap160 k167_1 rfl (fun l hl => ct_X11_drafted hl e167) rfl (Nat.le_of_ble_eq_true rfl) (by decide) ⟨by show cs + 58 ≤ 600104; omega, by show sl + 345 ≤ 7301314; omega⟩ dL_law_167 rfl rfl rfl rfl ?_
        refine g_aload_n (pc := 170) B dL_law_170 4 rfl ?_
        refine g_iconst (pc := 171) B dL_law_171 (0 : Int32) (by decide) ?_
        obtain ⟨c172, h⟩ := chk h
        refine gp_iald (pc := 172) (P := X160) B hap160 c172 dL_law_172 ?_
        refine g_icmp_ne (pc := 173) (tgt := 249) B dL_law_173 (by decide) (fun c173 => ?_) (fun c173 => ?_)
        · rw [if_neg c173] at h
          refine g_sub (pc := 249) [2, 3, 4, 5, 6, 8, 9] rfl ?_
          refine g_widen (cs' := cs + 59) (sl' := sl + 385) (by omega) (by omega) ?_
          exact cb_L_law_L249 B hs hL hend hap160 hcs hrec107 h
        · rw [if_pos c173] at h
          refine g_aload_n (pc := 176) B dL_law_176 4 rfl ?_
          refine g_iconst (pc := 177) B dL_law_177 (3 : Int32) (by decide) ?_
          obtain ⟨c178, h⟩ := chk h
          refine gp_iald (pc := 178) (P := X160) B hap160 c178 dL_law_178 ?_
          refine g_if_eq (pc := 179) (tgt := 216) B dL_law_179 (by decide) (fun c179 => ?_) (fun c179 => ?_)
          · rw [if_pos c179] at h
            refine g_sub (pc := 216) [2, 3, 4, 5, 6, 8, 9, 1, 0] rfl ?_
            exact cb_L_law_L216 B hs hL hend hap160 hcs hrec107 h
          · rw [if_neg c179] at h
            refine g_iload (pc := 182) B dL_law_182 9 rfl ?_
            refine g_bipush (pc := 184) B dL_law_184 (12 : Int32) (by decide) ?_
            refine g_irem (pc := 186) B dL_law_186 (by decide) ?_
            refine g_bipush (pc := 187) B dL_law_187 (11 : Int32) (by decide) ?_
            refine g_icmp_ne (pc := 189) (tgt := 216) B dL_law_189 (by decide) (fun c189 => ?_) (fun c189 => ?_)
            · rw [if_neg c189] at h
              refine g_sub (pc := 216) [2, 3, 4, 5, 6, 8, 9, 1, 0] rfl ?_
              exact cb_L_law_L216 B hs hL hend hap160 hcs hrec107 h
            · rw [if_pos c189] at h
              refine g_aload_n (pc := 192) B dL_law_192 3 rfl ?_
              refine g_aload_n (pc := 193) B dL_law_193 5 rfl ?_
              refine g_iload (pc := 194) B dL_law_194 1 rfl ?_
              refine g_iconst (pc := 196) B dL_law_196 (5 : Int32) (by decide) ?_
              refine g_idiv (pc := 197) B dL_law_197 (by decide) ?_
              refine g_aload_n (pc := 198) B dL_law_198 4 rfl ?_
              refine g_iconst (pc := 199) B dL_law_199 (3 : Int32) (by decide) ?_
              obtain ⟨c200, h⟩ := chk h
              refine gp_iald (pc := 200) (P := X160) B hap160 c200 dL_law_200 ?_
              obtain ⟨c201, h⟩ := chkN h
              refine g_irem (pc := 201) B dL_law_201 c201 ?_
              refine g_iload (pc := 202) B dL_law_202 0 rfl ?_
              refine g_iconst (pc := 204) B dL_law_204 (5 : Int32) (by decide) ?_
              refine g_idiv (pc := 205) B dL_law_205 (by decide) ?_
              refine g_aload_n (pc := 206) B dL_law_206 4 rfl ?_
              refine g_iconst (pc := 207) B dL_law_207 (3 : Int32) (by decide) ?_
              obtain ⟨c208, h⟩ := chk h
              refine gp_iald (pc := 208) (P := X160) B hap160 c208 dL_law_208 ?_
              obtain ⟨c209, h⟩ := chkN h
              refine g_irem (pc := 209) B dL_law_209 c209 ?_
              obtain ⟨v210, X210, e210, h⟩ := obW h
              obtain ⟨hap210, h⟩ := apC_s h
              refine h_callS (pc := 210) (As := [vA (some x1), vA (some x3), vI (((drw Ls xs (((3 : Int32) * x7) + (1 : Int32))) / (5 : Int32)) - ((drw Ls xs (((3 : Int32) * x7) + (1 : Int32))) / (5 : Int32)) / (aI X160.2 x2 (3 : Int32).toNatClampNeg) * (aI X160.2 x2 (3 : Int32).toNatClampNeg)), vI (((drw Ls xs (((3 : Int32) * x7) + (2 : Int32))) / (5 : Int32)) - ((drw Ls xs (((3 : Int32) * x7) + (2 : Int32))) / (5 : Int32)) / (aI X160.2 x2 (3 : Int32).toNatClampNeg) * (aI X160.2 x2 (3 : Int32).toNatClampNeg))]) (st := []) (X' := (lM X210)) (cs' := cs + 58) (sl' := sl + 345) (st10 := [vI v210]) B cal_L_areTwo kmL_162 kz_L_areTwo (fun l hl => ct_L_areTwo (X0 := X160) hl hap160 e210) rfl (Nat.le_of_ble_eq_true rfl) (by decide) ⟨by show cs + 58 ≤ 600104; omega, by show sl + 345 ≤ 7301314; omega⟩ dL_law_210 rfl rfl rfl rfl ?_
              refine g_if_eq (pc := 213) (tgt := 249) B dL_law_213 (by decide) (fun c213 => ?_) (fun c213 => ?_)
              · rw [if_pos c213] at h
                refine g_sub (pc := 249) [2, 3, 4, 5, 6, 8, 9] rfl ?_
                refine g_widen (cs' := cs + 59) (sl' := sl + 385) (by omega) (by omega) ?_
                exact cb_L_law_L249 B hs hL hend hap210 hcs hrec107 h
              · rw [if_neg c213] at h
                refine g_sub (pc := 216) [2, 3, 4, 5, 6, 8, 9, 1, 0] rfl ?_
                exact cb_L_law_L216 B hs hL hend hap210 hcs hrec107 h
theorem cb_L_law_L107 {D : DD} {ev : EV} {Q : State → Prop} {fu b Ls : Nat} {xs : Nat → Int32} {r : Int32 × LwP} (B : Amb D (A0L ev) ev RL "law" cL_law 10 (some .boolean) room_1) (hs : ScrL ev b Ls xs) (hL : Ls < 2 ^ 31) (hend : ∀ (X' : LwP) (cs sl : Nat) (L : List (Nat × TV)), cs ≤ 600104 ∧ sl ≤ 7301314 → Gd D (A0L ev) ev Q (lM X') cs sl 282 L [vI r.1]) : ∀ (n : Nat) {cs sl : Nat} {X : LwP} {x1 : Nat} {x2 : Nat} {x3 : Nat} {x4 : Nat} {x5 : Int32} {x6 : Int32} {x7 : Int32}, cs + 59 * n + 1 ≤ 600104 ∧ sl + 385 * n + 40 ≤ 7301314 → apM X.1 X.2 → fL_law_L107 fu Ls xs n X x1 x2 x3 x4 x5 x6 x7 = some r → Gd D (A0L ev) ev Q (lM X) cs sl 107 [(0, vA (some b)), (1, vA (some x1)), (2, vA (some x2)), (3, vA (some x3)), (4, vA (some x4)), (5, vI x5), (6, vI x6), (7, vI x7)] [] := by
  intro n
  induction n with
  | zero => intro cs sl X x1 x2 x3 x4 x5 x6 x7 hn hap h; exact nomatch h
  | succ n ih => intro cs sl X x1 x2 x3 x4 x5 x6 x7 hn hap h; exact cb_L_law_L107b (fu := fu) B hs hL hend hap ⟨by omega, by omega⟩ (fun hap9 h9 => ih ⟨by omega, by omega⟩ hap9 h9) h
