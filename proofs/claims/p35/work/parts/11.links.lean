set_option maxRecDepth 20000 in
theorem kmX1_3 : Cond.methodLink RX1 3 Lib.objectInit ∈ gd := List.mem_filter.mpr ⟨List.mem_append_right _ (List.mem_of_getElem? (l := tables_1) (i := 33) (by decide +kernel)), by decide +kernel⟩
set_option maxRecDepth 20000 in
theorem kon : Cond.instanceMethod Lib.objectInit ∈ gd := List.mem_filter.mpr ⟨List.mem_append_right _ (List.mem_of_getElem? (l := tables_1) (i := 26) (by decide +kernel)), by decide +kernel⟩
set_option maxRecDepth 20000 in
theorem koc : Cond.code Lib.objectInit ⟨#[0xb1]⟩ 1 none ∈ gd := List.mem_filter.mpr ⟨List.mem_append_right _ (List.mem_of_getElem? (l := tables_1) (i := 27) (by decide +kernel)), by decide +kernel⟩
set_option maxRecDepth 20000 in
theorem kxX1_9 : Cond.classLink RX1 9 (clC 4) ∈ gd := List.mem_filter.mpr ⟨List.mem_append_right _ (List.mem_of_getElem? (l := tables_1) (i := 34) (by decide +kernel)), by decide +kernel⟩
set_option maxRecDepth 20000 in
theorem kin4 : Cond.instantiable (clC 4) (fN 4) ∈ gd := List.mem_filter.mpr ⟨List.mem_append_right _ (List.mem_of_getElem? (l := tables_1) (i := 377) (by decide +kernel)), by decide +kernel⟩
set_option maxRecDepth 20000 in
theorem kiz4 : Cond.initialized (clC 4) ∈ gd := List.mem_filter.mpr ⟨List.mem_append_right _ (List.mem_of_getElem? (l := tables_1) (i := 14) (by decide +kernel)), by decide +kernel⟩
set_option maxRecDepth 20000 in
theorem kfX1_11 : Cond.fieldLink RX1 11 (clT 1 0).1 (clT 1 0).2.1 (clT 1 0).2.2.1 ∈ gd := List.mem_filter.mpr ⟨List.mem_append_right _ (List.mem_of_getElem? (l := tables_1) (i := 36) (by decide +kernel)), by decide +kernel⟩
set_option maxRecDepth 20000 in
theorem ka1 : Cond.arrayClass (newarray.typeOf .boolean) ∈ gd := List.mem_filter.mpr ⟨List.mem_append_right _ (List.mem_of_getElem? (l := tables_1) (i := 49) (by decide +kernel)), by decide +kernel⟩
set_option maxRecDepth 20000 in
theorem kfX1_17 : Cond.fieldLink RX1 17 (clT 1 1).1 (clT 1 1).2.1 (clT 1 1).2.2.1 ∈ gd := List.mem_filter.mpr ⟨List.mem_append_right _ (List.mem_of_getElem? (l := tables_1) (i := 37) (by decide +kernel)), by decide +kernel⟩
set_option maxRecDepth 20000 in
theorem kmX8_3 : Cond.methodLink RX8 3 Lib.objectInit ∈ gd := List.mem_filter.mpr ⟨List.mem_append_right _ (List.mem_of_getElem? (l := tables_1) (i := 61) (by decide +kernel)), by decide +kernel⟩
set_option maxRecDepth 20000 in
theorem kmX2_3 : Cond.methodLink RX2 3 Lib.objectInit ∈ gd := List.mem_filter.mpr ⟨List.mem_append_right _ (List.mem_of_getElem? (l := tables_1) (i := 80) (by decide +kernel)), by decide +kernel⟩
set_option maxRecDepth 20000 in
theorem ka0 : Cond.arrayClass (newarray.typeOf .int) ∈ gd := List.mem_filter.mpr ⟨List.mem_append_right _ (List.mem_of_getElem? (l := tables_1) (i := 104) (by decide +kernel)), by decide +kernel⟩
set_option maxRecDepth 20000 in
theorem kfX2_9 : Cond.fieldLink RX2 9 (clT 2 0).1 (clT 2 0).2.1 (clT 2 0).2.2.1 ∈ gd := List.mem_filter.mpr ⟨List.mem_append_right _ (List.mem_of_getElem? (l := tables_1) (i := 81) (by decide +kernel)), by decide +kernel⟩
set_option maxRecDepth 20000 in
theorem kfX2_15 : Cond.fieldLink RX2 15 (clT 2 1).1 (clT 2 1).2.1 (clT 2 1).2.2.1 ∈ gd := List.mem_filter.mpr ⟨List.mem_append_right _ (List.mem_of_getElem? (l := tables_1) (i := 82) (by decide +kernel)), by decide +kernel⟩
set_option maxRecDepth 20000 in
theorem kmX7_3 : Cond.methodLink RX7 3 Lib.objectInit ∈ gd := List.mem_filter.mpr ⟨List.mem_append_right _ (List.mem_of_getElem? (l := tables_1) (i := 55) (by decide +kernel)), by decide +kernel⟩
set_option maxRecDepth 20000 in
theorem kxX7_9 : Cond.classLink RX7 9 (clC 8) ∈ gd := List.mem_filter.mpr ⟨List.mem_append_right _ (List.mem_of_getElem? (l := tables_1) (i := 56) (by decide +kernel)), by decide +kernel⟩
set_option maxRecDepth 20000 in
theorem kin8 : Cond.instantiable (clC 8) (fN 8) ∈ gd := List.mem_filter.mpr ⟨List.mem_append_right _ (List.mem_of_getElem? (l := tables_1) (i := 57) (by decide +kernel)), by decide +kernel⟩
set_option maxRecDepth 20000 in
theorem kiz8 : Cond.initialized (clC 8) ∈ gd := List.mem_filter.mpr ⟨List.mem_append_right _ (List.mem_of_getElem? (l := tables_1) (i := 4) (by decide +kernel)), by decide +kernel⟩
set_option maxRecDepth 20000 in
theorem kmX7_11 : Cond.methodLinkNest RX7 11 yX8_init "TurtleChalk" ∈ nestW := List.mem_of_getElem? (i := 0) (by decide +kernel)
set_option maxRecDepth 20000 in
theorem kc_X8_init : Cond.code yX8_init cX8_init 1 (none) ∈ gd := List.mem_filter.mpr ⟨List.mem_append_right _ (List.mem_of_getElem? (l := tables_1) (i := 60) (by decide +kernel)), by decide +kernel⟩
set_option maxRecDepth 20000 in
theorem ki_X8 : Cond.initialized RX8 ∈ gd := List.mem_filter.mpr ⟨List.mem_append_right _ (List.mem_of_getElem? (l := tables_1) (i := 4) (by decide +kernel)), by decide +kernel⟩
set_option maxRecDepth 20000 in
theorem cal_X8_init : CalOK yX8_init cX8_init 1 (none) 0 := ⟨kc_X8_init, ki_X8, by decide, by decide +kernel⟩
set_option maxRecDepth 20000 in
theorem kn_X8_init : Cond.instanceMethod yX8_init ∈ gd := List.mem_filter.mpr ⟨List.mem_append_right _ (List.mem_of_getElem? (l := tables_1) (i := 59) (by decide +kernel)), by decide +kernel⟩
set_option maxRecDepth 20000 in
theorem kfX7_12 : Cond.fieldLink RX7 12 (clT 7 0).1 (clT 7 0).2.1 (clT 7 0).2.2.1 ∈ gd := List.mem_filter.mpr ⟨List.mem_append_right _ (List.mem_of_getElem? (l := tables_1) (i := 105) (by decide +kernel)), by decide +kernel⟩
set_option maxRecDepth 20000 in
theorem kfX7_18 : Cond.fieldLink RX7 18 (clT 7 1).1 (clT 7 1).2.1 (clT 7 1).2.2.1 ∈ gd := List.mem_filter.mpr ⟨List.mem_append_right _ (List.mem_of_getElem? (l := tables_1) (i := 106) (by decide +kernel)), by decide +kernel⟩
set_option maxRecDepth 20000 in
theorem kfX7_22 : Cond.fieldLink RX7 22 (clT 7 2).1 (clT 7 2).2.1 (clT 7 2).2.2.1 ∈ gd := List.mem_filter.mpr ⟨List.mem_append_right _ (List.mem_of_getElem? (l := tables_1) (i := 107) (by decide +kernel)), by decide +kernel⟩
set_option maxRecDepth 20000 in
theorem kfX7_25 : Cond.fieldLink RX7 25 (clT 7 3).1 (clT 7 3).2.1 (clT 7 3).2.2.1 ∈ gd := List.mem_filter.mpr ⟨List.mem_append_right _ (List.mem_of_getElem? (l := tables_1) (i := 108) (by decide +kernel)), by decide +kernel⟩
set_option maxRecDepth 20000 in
theorem kxX7_28 : Cond.classLink RX7 28 (clC 2) ∈ gd := List.mem_filter.mpr ⟨List.mem_append_right _ (List.mem_of_getElem? (l := tables_1) (i := 75) (by decide +kernel)), by decide +kernel⟩
set_option maxRecDepth 20000 in
theorem kin2 : Cond.instantiable (clC 2) (fN 2) ∈ gd := List.mem_filter.mpr ⟨List.mem_append_right _ (List.mem_of_getElem? (l := tables_1) (i := 76) (by decide +kernel)), by decide +kernel⟩
set_option maxRecDepth 20000 in
theorem kiz2 : Cond.initialized (clC 2) ∈ gd := List.mem_filter.mpr ⟨List.mem_append_right _ (List.mem_of_getElem? (l := tables_1) (i := 5) (by decide +kernel)), by decide +kernel⟩
set_option maxRecDepth 20000 in
theorem kmX7_30 : Cond.methodLink RX7 30 yX2_init ∈ gd := List.mem_filter.mpr ⟨List.mem_append_right _ (List.mem_of_getElem? (l := tables_1) (i := 77) (by decide +kernel)), by decide +kernel⟩
set_option maxRecDepth 20000 in
theorem kc_X2_init : Cond.code yX2_init cX2_init 1 (none) ∈ gd := List.mem_filter.mpr ⟨List.mem_append_right _ (List.mem_of_getElem? (l := tables_1) (i := 79) (by decide +kernel)), by decide +kernel⟩
set_option maxRecDepth 20000 in
theorem ki_X2 : Cond.initialized RX2 ∈ gd := List.mem_filter.mpr ⟨List.mem_append_right _ (List.mem_of_getElem? (l := tables_1) (i := 5) (by decide +kernel)), by decide +kernel⟩
set_option maxRecDepth 20000 in
theorem cal_X2_init : CalOK yX2_init cX2_init 1 (none) 0 := ⟨kc_X2_init, ki_X2, by decide, by decide +kernel⟩
set_option maxRecDepth 20000 in
theorem kn_X2_init : Cond.instanceMethod yX2_init ∈ gd := List.mem_filter.mpr ⟨List.mem_append_right _ (List.mem_of_getElem? (l := tables_1) (i := 78) (by decide +kernel)), by decide +kernel⟩
set_option maxRecDepth 20000 in
theorem kfX7_31 : Cond.fieldLink RX7 31 (clT 7 4).1 (clT 7 4).2.1 (clT 7 4).2.2.1 ∈ gd := List.mem_filter.mpr ⟨List.mem_append_right _ (List.mem_of_getElem? (l := tables_1) (i := 109) (by decide +kernel)), by decide +kernel⟩
set_option maxRecDepth 20000 in
theorem kmX0_3 : Cond.methodLink RX0 3 Lib.objectInit ∈ gd := List.mem_filter.mpr ⟨List.mem_append_right _ (List.mem_of_getElem? (l := tables_1) (i := 140) (by decide +kernel)), by decide +kernel⟩
set_option maxRecDepth 20000 in
theorem kfX0_9 : Cond.fieldLink RX0 9 (clT 0 0).1 (clT 0 0).2.1 (clT 0 0).2.2.1 ∈ gd := List.mem_filter.mpr ⟨List.mem_append_right _ (List.mem_of_getElem? (l := tables_1) (i := 141) (by decide +kernel)), by decide +kernel⟩
set_option maxRecDepth 20000 in
theorem kfX0_15 : Cond.fieldLink RX0 15 (clT 0 1).1 (clT 0 1).2.1 (clT 0 1).2.2.1 ∈ gd := List.mem_filter.mpr ⟨List.mem_append_right _ (List.mem_of_getElem? (l := tables_1) (i := 142) (by decide +kernel)), by decide +kernel⟩
set_option maxRecDepth 20000 in
theorem kmX9_3 : Cond.methodLink RX9 3 Lib.objectInit ∈ gd := List.mem_filter.mpr ⟨List.mem_append_right _ (List.mem_of_getElem? (l := tables_1) (i := 153) (by decide +kernel)), by decide +kernel⟩
set_option maxRecDepth 20000 in
theorem ka2 : Cond.arrayClass (newarray.typeOf .long) ∈ gd := List.mem_filter.mpr ⟨List.mem_append_right _ (List.mem_of_getElem? (l := tables_1) (i := 164) (by decide +kernel)), by decide +kernel⟩
set_option maxRecDepth 20000 in
theorem kfX9_9 : Cond.fieldLink RX9 9 (clT 9 0).1 (clT 9 0).2.1 (clT 9 0).2.2.1 ∈ gd := List.mem_filter.mpr ⟨List.mem_append_right _ (List.mem_of_getElem? (l := tables_1) (i := 154) (by decide +kernel)), by decide +kernel⟩
set_option maxRecDepth 20000 in
theorem kfX9_15 : Cond.fieldLink RX9 15 (clT 9 1).1 (clT 9 1).2.1 (clT 9 1).2.2.1 ∈ gd := List.mem_filter.mpr ⟨List.mem_append_right _ (List.mem_of_getElem? (l := tables_1) (i := 155) (by decide +kernel)), by decide +kernel⟩
set_option maxRecDepth 20000 in
theorem kfX9_19 : Cond.fieldLink RX9 19 (clT 9 2).1 (clT 9 2).2.1 (clT 9 2).2.2.1 ∈ gd := List.mem_filter.mpr ⟨List.mem_append_right _ (List.mem_of_getElem? (l := tables_1) (i := 156) (by decide +kernel)), by decide +kernel⟩
set_option maxRecDepth 20000 in
theorem kmX11_1 : Cond.methodLink RX11 1 Lib.objectInit ∈ gd := List.mem_filter.mpr ⟨List.mem_append_right _ (List.mem_of_getElem? (l := tables_1) (i := 25) (by decide +kernel)), by decide +kernel⟩
set_option maxRecDepth 20000 in
theorem kxX11_7 : Cond.classLink RX11 7 (clC 1) ∈ gd := List.mem_filter.mpr ⟨List.mem_append_right _ (List.mem_of_getElem? (l := tables_1) (i := 28) (by decide +kernel)), by decide +kernel⟩
set_option maxRecDepth 20000 in
theorem kin1 : Cond.instantiable (clC 1) (fN 1) ∈ gd := List.mem_filter.mpr ⟨List.mem_append_right _ (List.mem_of_getElem? (l := tables_1) (i := 29) (by decide +kernel)), by decide +kernel⟩
set_option maxRecDepth 20000 in
theorem kiz1 : Cond.initialized (clC 1) ∈ gd := List.mem_filter.mpr ⟨List.mem_append_right _ (List.mem_of_getElem? (l := tables_1) (i := 2) (by decide +kernel)), by decide +kernel⟩
set_option maxRecDepth 20000 in
theorem kmX11_9 : Cond.methodLink RX11 9 yX1_init ∈ gd := List.mem_filter.mpr ⟨List.mem_append_right _ (List.mem_of_getElem? (l := tables_1) (i := 30) (by decide +kernel)), by decide +kernel⟩
set_option maxRecDepth 20000 in
theorem kc_X1_init : Cond.code yX1_init cX1_init 1 (none) ∈ gd := List.mem_filter.mpr ⟨List.mem_append_right _ (List.mem_of_getElem? (l := tables_1) (i := 32) (by decide +kernel)), by decide +kernel⟩
set_option maxRecDepth 20000 in
theorem ki_X1 : Cond.initialized RX1 ∈ gd := List.mem_filter.mpr ⟨List.mem_append_right _ (List.mem_of_getElem? (l := tables_1) (i := 2) (by decide +kernel)), by decide +kernel⟩
set_option maxRecDepth 20000 in
theorem cal_X1_init : CalOK yX1_init cX1_init 1 (none) 0 := ⟨kc_X1_init, ki_X1, by decide, by decide +kernel⟩
set_option maxRecDepth 20000 in
theorem kn_X1_init : Cond.instanceMethod yX1_init ∈ gd := List.mem_filter.mpr ⟨List.mem_append_right _ (List.mem_of_getElem? (l := tables_1) (i := 31) (by decide +kernel)), by decide +kernel⟩
set_option maxRecDepth 20000 in
theorem kfX11_10 : Cond.fieldLink RX11 10 (clT 11 0).1 (clT 11 0).2.1 (clT 11 0).2.2.1 ∈ gd := List.mem_filter.mpr ⟨List.mem_append_right _ (List.mem_of_getElem? (l := tables_1) (i := 171) (by decide +kernel)), by decide +kernel⟩
set_option maxRecDepth 20000 in
theorem kxX11_16 : Cond.classLink RX11 16 (clC 7) ∈ gd := List.mem_filter.mpr ⟨List.mem_append_right _ (List.mem_of_getElem? (l := tables_1) (i := 50) (by decide +kernel)), by decide +kernel⟩
set_option maxRecDepth 20000 in
theorem kin7 : Cond.instantiable (clC 7) (fN 7) ∈ gd := List.mem_filter.mpr ⟨List.mem_append_right _ (List.mem_of_getElem? (l := tables_1) (i := 51) (by decide +kernel)), by decide +kernel⟩
set_option maxRecDepth 20000 in
theorem kiz7 : Cond.initialized (clC 7) ∈ gd := List.mem_filter.mpr ⟨List.mem_append_right _ (List.mem_of_getElem? (l := tables_1) (i := 3) (by decide +kernel)), by decide +kernel⟩
set_option maxRecDepth 20000 in
theorem kmX11_18 : Cond.methodLink RX11 18 yX7_init ∈ gd := List.mem_filter.mpr ⟨List.mem_append_right _ (List.mem_of_getElem? (l := tables_1) (i := 52) (by decide +kernel)), by decide +kernel⟩
set_option maxRecDepth 20000 in
theorem kc_X7_init : Cond.code yX7_init cX7_init 1 (none) ∈ gd := List.mem_filter.mpr ⟨List.mem_append_right _ (List.mem_of_getElem? (l := tables_1) (i := 54) (by decide +kernel)), by decide +kernel⟩
set_option maxRecDepth 20000 in
theorem ki_X7 : Cond.initialized RX7 ∈ gd := List.mem_filter.mpr ⟨List.mem_append_right _ (List.mem_of_getElem? (l := tables_1) (i := 3) (by decide +kernel)), by decide +kernel⟩
set_option maxRecDepth 20000 in
theorem cal_X7_init : CalOK yX7_init cX7_init 1 (none) 0 := ⟨kc_X7_init, ki_X7, by decide, by decide +kernel⟩
set_option maxRecDepth 20000 in
theorem kn_X7_init : Cond.instanceMethod yX7_init ∈ gd := List.mem_filter.mpr ⟨List.mem_append_right _ (List.mem_of_getElem? (l := tables_1) (i := 53) (by decide +kernel)), by decide +kernel⟩
set_option maxRecDepth 20000 in
theorem kfX11_19 : Cond.fieldLink RX11 19 (clT 11 1).1 (clT 11 1).2.1 (clT 11 1).2.2.1 ∈ gd := List.mem_filter.mpr ⟨List.mem_append_right _ (List.mem_of_getElem? (l := tables_1) (i := 172) (by decide +kernel)), by decide +kernel⟩
set_option maxRecDepth 20000 in
theorem kxX11_23 : Cond.classLink RX11 23 (clC 2) ∈ gd := List.mem_filter.mpr ⟨List.mem_append_right _ (List.mem_of_getElem? (l := tables_1) (i := 133) (by decide +kernel)), by decide +kernel⟩
set_option maxRecDepth 20000 in
theorem kmX11_25 : Cond.methodLink RX11 25 yX2_init ∈ gd := List.mem_filter.mpr ⟨List.mem_append_right _ (List.mem_of_getElem? (l := tables_1) (i := 134) (by decide +kernel)), by decide +kernel⟩
set_option maxRecDepth 20000 in
theorem kfX11_26 : Cond.fieldLink RX11 26 (clT 11 2).1 (clT 11 2).2.1 (clT 11 2).2.2.1 ∈ gd := List.mem_filter.mpr ⟨List.mem_append_right _ (List.mem_of_getElem? (l := tables_1) (i := 173) (by decide +kernel)), by decide +kernel⟩
set_option maxRecDepth 20000 in
theorem kxX11_30 : Cond.classLink RX11 30 (clC 0) ∈ gd := List.mem_filter.mpr ⟨List.mem_append_right _ (List.mem_of_getElem? (l := tables_1) (i := 135) (by decide +kernel)), by decide +kernel⟩
set_option maxRecDepth 20000 in
theorem kin0 : Cond.instantiable (clC 0) (fN 0) ∈ gd := List.mem_filter.mpr ⟨List.mem_append_right _ (List.mem_of_getElem? (l := tables_1) (i := 136) (by decide +kernel)), by decide +kernel⟩
set_option maxRecDepth 20000 in
theorem kiz0 : Cond.initialized (clC 0) ∈ gd := List.mem_filter.mpr ⟨List.mem_append_right _ (List.mem_of_getElem? (l := tables_1) (i := 6) (by decide +kernel)), by decide +kernel⟩
set_option maxRecDepth 20000 in
theorem kmX11_32 : Cond.methodLink RX11 32 yX0_init ∈ gd := List.mem_filter.mpr ⟨List.mem_append_right _ (List.mem_of_getElem? (l := tables_1) (i := 137) (by decide +kernel)), by decide +kernel⟩
set_option maxRecDepth 20000 in
theorem kc_X0_init : Cond.code yX0_init cX0_init 1 (none) ∈ gd := List.mem_filter.mpr ⟨List.mem_append_right _ (List.mem_of_getElem? (l := tables_1) (i := 139) (by decide +kernel)), by decide +kernel⟩
set_option maxRecDepth 20000 in
theorem ki_X0 : Cond.initialized RX0 ∈ gd := List.mem_filter.mpr ⟨List.mem_append_right _ (List.mem_of_getElem? (l := tables_1) (i := 6) (by decide +kernel)), by decide +kernel⟩
set_option maxRecDepth 20000 in
theorem cal_X0_init : CalOK yX0_init cX0_init 1 (none) 0 := ⟨kc_X0_init, ki_X0, by decide, by decide +kernel⟩
set_option maxRecDepth 20000 in
theorem kn_X0_init : Cond.instanceMethod yX0_init ∈ gd := List.mem_filter.mpr ⟨List.mem_append_right _ (List.mem_of_getElem? (l := tables_1) (i := 138) (by decide +kernel)), by decide +kernel⟩
set_option maxRecDepth 20000 in
theorem kfX11_33 : Cond.fieldLink RX11 33 (clT 11 3).1 (clT 11 3).2.1 (clT 11 3).2.2.1 ∈ gd := List.mem_filter.mpr ⟨List.mem_append_right _ (List.mem_of_getElem? (l := tables_1) (i := 174) (by decide +kernel)), by decide +kernel⟩
set_option maxRecDepth 20000 in
theorem kxX11_37 : Cond.classLink RX11 37 (clC 9) ∈ gd := List.mem_filter.mpr ⟨List.mem_append_right _ (List.mem_of_getElem? (l := tables_1) (i := 148) (by decide +kernel)), by decide +kernel⟩
set_option maxRecDepth 20000 in
theorem kin9 : Cond.instantiable (clC 9) (fN 9) ∈ gd := List.mem_filter.mpr ⟨List.mem_append_right _ (List.mem_of_getElem? (l := tables_1) (i := 149) (by decide +kernel)), by decide +kernel⟩
set_option maxRecDepth 20000 in
theorem kiz9 : Cond.initialized (clC 9) ∈ gd := List.mem_filter.mpr ⟨List.mem_append_right _ (List.mem_of_getElem? (l := tables_1) (i := 7) (by decide +kernel)), by decide +kernel⟩
set_option maxRecDepth 20000 in
theorem kmX11_39 : Cond.methodLink RX11 39 yX9_init ∈ gd := List.mem_filter.mpr ⟨List.mem_append_right _ (List.mem_of_getElem? (l := tables_1) (i := 150) (by decide +kernel)), by decide +kernel⟩
set_option maxRecDepth 20000 in
theorem kc_X9_init : Cond.code yX9_init cX9_init 1 (none) ∈ gd := List.mem_filter.mpr ⟨List.mem_append_right _ (List.mem_of_getElem? (l := tables_1) (i := 152) (by decide +kernel)), by decide +kernel⟩
set_option maxRecDepth 20000 in
theorem ki_X9 : Cond.initialized RX9 ∈ gd := List.mem_filter.mpr ⟨List.mem_append_right _ (List.mem_of_getElem? (l := tables_1) (i := 7) (by decide +kernel)), by decide +kernel⟩
set_option maxRecDepth 20000 in
theorem cal_X9_init : CalOK yX9_init cX9_init 1 (none) 0 := ⟨kc_X9_init, ki_X9, by decide, by decide +kernel⟩
set_option maxRecDepth 20000 in
theorem kn_X9_init : Cond.instanceMethod yX9_init ∈ gd := List.mem_filter.mpr ⟨List.mem_append_right _ (List.mem_of_getElem? (l := tables_1) (i := 151) (by decide +kernel)), by decide +kernel⟩
set_option maxRecDepth 20000 in
theorem kfX11_40 : Cond.fieldLink RX11 40 (clT 11 4).1 (clT 11 4).2.1 (clT 11 4).2.2.1 ∈ gd := List.mem_filter.mpr ⟨List.mem_append_right _ (List.mem_of_getElem? (l := tables_1) (i := 175) (by decide +kernel)), by decide +kernel⟩
set_option maxRecDepth 20000 in
theorem kxX11_44 : Cond.classLink RX11 44 (clC 5) ∈ gd := List.mem_filter.mpr ⟨List.mem_append_right _ (List.mem_of_getElem? (l := tables_1) (i := 165) (by decide +kernel)), by decide +kernel⟩
set_option maxRecDepth 20000 in
theorem kin5 : Cond.instantiable (clC 5) (fN 5) ∈ gd := List.mem_filter.mpr ⟨List.mem_append_right _ (List.mem_of_getElem? (l := tables_1) (i := 479) (by decide +kernel)), by decide +kernel⟩
set_option maxRecDepth 20000 in
theorem kiz5 : Cond.initialized (clC 5) ∈ gd := List.mem_filter.mpr ⟨List.mem_append_right _ (List.mem_of_getElem? (l := tables_1) (i := 15) (by decide +kernel)), by decide +kernel⟩
set_option maxRecDepth 20000 in
theorem kfX11_46 : Cond.fieldLink RX11 46 (clT 11 5).1 (clT 11 5).2.1 (clT 11 5).2.2.1 ∈ gd := List.mem_filter.mpr ⟨List.mem_append_right _ (List.mem_of_getElem? (l := tables_1) (i := 176) (by decide +kernel)), by decide +kernel⟩
set_option maxRecDepth 20000 in
theorem kxX11_50 : Cond.classLink RX11 50 (clC 3) ∈ gd := List.mem_filter.mpr ⟨List.mem_append_right _ (List.mem_of_getElem? (l := tables_1) (i := 167) (by decide +kernel)), by decide +kernel⟩
set_option maxRecDepth 20000 in
theorem kin3 : Cond.instantiable (clC 3) (fN 3) ∈ gd := List.mem_filter.mpr ⟨List.mem_append_right _ (List.mem_of_getElem? (l := tables_1) (i := 733) (by decide +kernel)), by decide +kernel⟩
set_option maxRecDepth 20000 in
theorem kiz3 : Cond.initialized (clC 3) ∈ gd := List.mem_filter.mpr ⟨List.mem_append_right _ (List.mem_of_getElem? (l := tables_1) (i := 18) (by decide +kernel)), by decide +kernel⟩
set_option maxRecDepth 20000 in
theorem kfX11_52 : Cond.fieldLink RX11 52 (clT 11 6).1 (clT 11 6).2.1 (clT 11 6).2.2.1 ∈ gd := List.mem_filter.mpr ⟨List.mem_append_right _ (List.mem_of_getElem? (l := tables_1) (i := 177) (by decide +kernel)), by decide +kernel⟩
set_option maxRecDepth 20000 in
theorem kxX11_56 : Cond.classLink RX11 56 (clC 10) ∈ gd := List.mem_filter.mpr ⟨List.mem_append_right _ (List.mem_of_getElem? (l := tables_1) (i := 169) (by decide +kernel)), by decide +kernel⟩
set_option maxRecDepth 20000 in
theorem kin10 : Cond.instantiable (clC 10) (fN 10) ∈ gd := List.mem_filter.mpr ⟨List.mem_append_right _ (List.mem_of_getElem? (l := tables_1) (i := 831) (by decide +kernel)), by decide +kernel⟩
set_option maxRecDepth 20000 in
theorem kiz10 : Cond.initialized (clC 10) ∈ gd := List.mem_filter.mpr ⟨List.mem_append_right _ (List.mem_of_getElem? (l := tables_1) (i := 19) (by decide +kernel)), by decide +kernel⟩
set_option maxRecDepth 20000 in
theorem kfX11_58 : Cond.fieldLink RX11 58 (clT 11 7).1 (clT 11 7).2.1 (clT 11 7).2.2.1 ∈ gd := List.mem_filter.mpr ⟨List.mem_append_right _ (List.mem_of_getElem? (l := tables_1) (i := 178) (by decide +kernel)), by decide +kernel⟩
set_option maxRecDepth 20000 in
theorem kxX11_204 : Cond.classLink RX11 204 "java/lang/IndexOutOfBoundsException" ∈ gd := List.mem_filter.mpr ⟨List.mem_append_right _ (List.mem_of_getElem? (l := tables_1) (i := 229) (by decide +kernel)), by decide +kernel⟩
set_option maxRecDepth 20000 in
theorem ke_IndexOutOfBoundsException : Cond.initialized "java/lang/IndexOutOfBoundsException" ∈ gd := List.mem_filter.mpr ⟨List.mem_append_right _ (List.mem_of_getElem? (l := tables_1) (i := 11) (by decide +kernel)), by decide +kernel⟩
set_option maxRecDepth 20000 in
theorem kstr262 : (262, "there is no such name") ∈ strW := List.mem_of_getElem? (i := 2) rfl
set_option maxRecDepth 20000 in
theorem kxX11_180 : Cond.classLink RX11 180 "java/lang/IllegalArgumentException" ∈ gd := List.mem_filter.mpr ⟨List.mem_append_right _ (List.mem_of_getElem? (l := tables_1) (i := 340) (by decide +kernel)), by decide +kernel⟩
set_option maxRecDepth 20000 in
theorem ke_IllegalArgumentException : Cond.initialized "java/lang/IllegalArgumentException" ∈ gd := List.mem_filter.mpr ⟨List.mem_append_right _ (List.mem_of_getElem? (l := tables_1) (i := 12) (by decide +kernel)), by decide +kernel⟩
set_option maxRecDepth 20000 in
theorem kstr268 : (268, "value is out of range") ∈ strW := List.mem_of_getElem? (i := 3) rfl
set_option maxRecDepth 20000 in
theorem kmX11_70 : Cond.methodLink RX11 70 yX11_checkName ∈ gd := List.mem_filter.mpr ⟨List.mem_append_right _ (List.mem_of_getElem? (l := tables_1) (i := 336) (by decide +kernel)), by decide +kernel⟩
set_option maxRecDepth 20000 in
theorem kc_X11_checkName : Cond.code yX11_checkName cX11_checkName 1 (none) ∈ gd := List.mem_filter.mpr ⟨List.mem_append_right _ (List.mem_of_getElem? (l := tables_1) (i := 338) (by decide +kernel)), by decide +kernel⟩
set_option maxRecDepth 20000 in
theorem ki_X11 : Cond.initialized RX11 ∈ gd := List.mem_filter.mpr ⟨List.mem_append_right _ (List.mem_of_getElem? (l := tables_1) (i := 1) (by decide +kernel)), by decide +kernel⟩
set_option maxRecDepth 20000 in
theorem cal_X11_checkName : CalOK yX11_checkName cX11_checkName 1 (none) 1 := ⟨kc_X11_checkName, ki_X11, by decide, by decide +kernel⟩
set_option maxRecDepth 20000 in
theorem kz_X11_checkName : Cond.static yX11_checkName ∈ gd := List.mem_filter.mpr ⟨List.mem_append_right _ (List.mem_of_getElem? (l := tables_1) (i := 337) (by decide +kernel)), by decide +kernel⟩
set_option maxRecDepth 20000 in
theorem kfX1_21 : Cond.fieldLink RX1 21 (clT 1 2).1 (clT 1 2).2.1 (clT 1 2).2.2.1 ∈ gd := List.mem_filter.mpr ⟨List.mem_append_right _ (List.mem_of_getElem? (l := tables_1) (i := 38) (by decide +kernel)), by decide +kernel⟩
set_option maxRecDepth 20000 in
theorem kmX4_3 : Cond.methodLink RX4 3 Lib.objectInit ∈ gd := List.mem_filter.mpr ⟨List.mem_append_right _ (List.mem_of_getElem? (l := tables_1) (i := 381) (by decide +kernel)), by decide +kernel⟩
set_option maxRecDepth 20000 in
theorem kfX4_9 : Cond.fieldLink RX4 9 (clT 4 0).1 (clT 4 0).2.1 (clT 4 0).2.2.1 ∈ gd := List.mem_filter.mpr ⟨List.mem_append_right _ (List.mem_of_getElem? (l := tables_1) (i := 382) (by decide +kernel)), by decide +kernel⟩
set_option maxRecDepth 20000 in
theorem kfX4_15 : Cond.fieldLink RX4 15 (clT 4 1).1 (clT 4 1).2.1 (clT 4 1).2.2.1 ∈ gd := List.mem_filter.mpr ⟨List.mem_append_right _ (List.mem_of_getElem? (l := tables_1) (i := 386) (by decide +kernel)), by decide +kernel⟩
set_option maxRecDepth 20000 in
theorem kfX4_18 : Cond.fieldLink RX4 18 (clT 4 2).1 (clT 4 2).2.1 (clT 4 2).2.2.1 ∈ gd := List.mem_filter.mpr ⟨List.mem_append_right _ (List.mem_of_getElem? (l := tables_1) (i := 390) (by decide +kernel)), by decide +kernel⟩
set_option maxRecDepth 20000 in
theorem kfX4_21 : Cond.fieldLink RX4 21 (clT 4 3).1 (clT 4 3).2.1 (clT 4 3).2.2.1 ∈ gd := List.mem_filter.mpr ⟨List.mem_append_right _ (List.mem_of_getElem? (l := tables_1) (i := 393) (by decide +kernel)), by decide +kernel⟩
set_option maxRecDepth 20000 in
theorem kmX1_28 : Cond.methodLink RX1 28 yX4_opensBlock ∈ gd := List.mem_filter.mpr ⟨List.mem_append_right _ (List.mem_of_getElem? (l := tables_1) (i := 409) (by decide +kernel)), by decide +kernel⟩
set_option maxRecDepth 20000 in
theorem kc_X4_opensBlock : Cond.code yX4_opensBlock cX4_opensBlock 1 (some .boolean) ∈ gd := List.mem_filter.mpr ⟨List.mem_append_right _ (List.mem_of_getElem? (l := tables_1) (i := 412) (by decide +kernel)), by decide +kernel⟩
set_option maxRecDepth 20000 in
theorem ki_X4 : Cond.initialized RX4 ∈ gd := List.mem_filter.mpr ⟨List.mem_append_right _ (List.mem_of_getElem? (l := tables_1) (i := 14) (by decide +kernel)), by decide +kernel⟩
set_option maxRecDepth 20000 in
theorem cal_X4_opensBlock : CalOK yX4_opensBlock cX4_opensBlock 1 (some .boolean) 0 := ⟨kc_X4_opensBlock, ki_X4, by decide, by decide +kernel⟩
set_option maxRecDepth 20000 in
theorem kn_X4_opensBlock : Cond.instanceMethod yX4_opensBlock ∈ gd := List.mem_filter.mpr ⟨List.mem_append_right _ (List.mem_of_getElem? (l := tables_1) (i := 410) (by decide +kernel)), by decide +kernel⟩
set_option maxRecDepth 20000 in
theorem ks_X4_opensBlock : Cond.selects yX4_opensBlock.cls yX4_opensBlock yX4_opensBlock ∈ gd := List.mem_filter.mpr ⟨List.mem_append_right _ (List.mem_of_getElem? (l := tables_1) (i := 411) (by decide +kernel)), by decide +kernel⟩
set_option maxRecDepth 20000 in
theorem kfX1_32 : Cond.fieldLinkNest RX1 32 (clT 4 0).1 (clT 4 0).2.1 (clT 4 0).2.2.1 "TurtleChalk" ∈ nestW := List.mem_of_getElem? (i := 3) (by decide +kernel)
set_option maxRecDepth 20000 in
theorem kfX1_25 : Cond.fieldLink RX1 25 (clT 1 3).1 (clT 1 3).2.1 (clT 1 3).2.2.1 ∈ gd := List.mem_filter.mpr ⟨List.mem_append_right _ (List.mem_of_getElem? (l := tables_1) (i := 39) (by decide +kernel)), by decide +kernel⟩
set_option maxRecDepth 20000 in
theorem kfX1_35 : Cond.fieldLinkNest RX1 35 (clT 4 1).1 (clT 4 1).2.1 (clT 4 1).2.2.1 "TurtleChalk" ∈ nestW := List.mem_of_getElem? (i := 6) (by decide +kernel)
set_option maxRecDepth 20000 in
theorem kmX11_94 : Cond.methodLink RX11 94 yX1_length ∈ gd := List.mem_filter.mpr ⟨List.mem_append_right _ (List.mem_of_getElem? (l := tables_1) (i := 209) (by decide +kernel)), by decide +kernel⟩
set_option maxRecDepth 20000 in
theorem kc_X1_length : Cond.code yX1_length cX1_length 1 (some .int) ∈ gd := List.mem_filter.mpr ⟨List.mem_append_right _ (List.mem_of_getElem? (l := tables_1) (i := 212) (by decide +kernel)), by decide +kernel⟩
set_option maxRecDepth 20000 in
theorem cal_X1_length : CalOK yX1_length cX1_length 1 (some .int) 0 := ⟨kc_X1_length, ki_X1, by decide, by decide +kernel⟩
set_option maxRecDepth 20000 in
theorem kn_X1_length : Cond.instanceMethod yX1_length ∈ gd := List.mem_filter.mpr ⟨List.mem_append_right _ (List.mem_of_getElem? (l := tables_1) (i := 210) (by decide +kernel)), by decide +kernel⟩
set_option maxRecDepth 20000 in
theorem ks_X1_length : Cond.selects yX1_length.cls yX1_length yX1_length ∈ gd := List.mem_filter.mpr ⟨List.mem_append_right _ (List.mem_of_getElem? (l := tables_1) (i := 211) (by decide +kernel)), by decide +kernel⟩
set_option maxRecDepth 20000 in
theorem kxX11_274 : Cond.classLink RX11 274 (clC 4) ∈ gd := List.mem_filter.mpr ⟨List.mem_append_right _ (List.mem_of_getElem? (l := tables_1) (i := 376) (by decide +kernel)), by decide +kernel⟩
set_option maxRecDepth 20000 in
theorem kmX11_276 : Cond.methodLink RX11 276 yX4_init ∈ gd := List.mem_filter.mpr ⟨List.mem_append_right _ (List.mem_of_getElem? (l := tables_1) (i := 378) (by decide +kernel)), by decide +kernel⟩
set_option maxRecDepth 20000 in
theorem kc_X4_init : Cond.code yX4_init cX4_init 5 (none) ∈ gd := List.mem_filter.mpr ⟨List.mem_append_right _ (List.mem_of_getElem? (l := tables_1) (i := 380) (by decide +kernel)), by decide +kernel⟩
set_option maxRecDepth 20000 in
theorem cal_X4_init : CalOK yX4_init cX4_init 5 (none) 4 := ⟨kc_X4_init, ki_X4, by decide, by decide +kernel⟩
set_option maxRecDepth 20000 in
theorem kn_X4_init : Cond.instanceMethod yX4_init ∈ gd := List.mem_filter.mpr ⟨List.mem_append_right _ (List.mem_of_getElem? (l := tables_1) (i := 379) (by decide +kernel)), by decide +kernel⟩
set_option maxRecDepth 20000 in
theorem kmX11_279 : Cond.methodLink RX11 279 yX1_append ∈ gd := List.mem_filter.mpr ⟨List.mem_append_right _ (List.mem_of_getElem? (l := tables_1) (i := 405) (by decide +kernel)), by decide +kernel⟩
set_option maxRecDepth 20000 in
theorem kc_X1_append : Cond.code yX1_append cX1_append 2 (none) ∈ gd := List.mem_filter.mpr ⟨List.mem_append_right _ (List.mem_of_getElem? (l := tables_1) (i := 408) (by decide +kernel)), by decide +kernel⟩
set_option maxRecDepth 20000 in
theorem cal_X1_append : CalOK yX1_append cX1_append 2 (none) 1 := ⟨kc_X1_append, ki_X1, by decide, by decide +kernel⟩
set_option maxRecDepth 20000 in
theorem kn_X1_append : Cond.instanceMethod yX1_append ∈ gd := List.mem_filter.mpr ⟨List.mem_append_right _ (List.mem_of_getElem? (l := tables_1) (i := 406) (by decide +kernel)), by decide +kernel⟩
set_option maxRecDepth 20000 in
theorem ks_X1_append : Cond.selects yX1_append.cls yX1_append yX1_append ∈ gd := List.mem_filter.mpr ⟨List.mem_append_right _ (List.mem_of_getElem? (l := tables_1) (i := 407) (by decide +kernel)), by decide +kernel⟩
set_option maxRecDepth 20000 in
theorem kxX11_85 : Cond.classLink RX11 85 "java/lang/IllegalStateException" ∈ gd := List.mem_filter.mpr ⟨List.mem_append_right _ (List.mem_of_getElem? (l := tables_1) (i := 360) (by decide +kernel)), by decide +kernel⟩
set_option maxRecDepth 20000 in
theorem ke_IllegalStateException : Cond.initialized "java/lang/IllegalStateException" ∈ gd := List.mem_filter.mpr ⟨List.mem_append_right _ (List.mem_of_getElem? (l := tables_1) (i := 13) (by decide +kernel)), by decide +kernel⟩
set_option maxRecDepth 20000 in
theorem kstr272 : (272, "the draft has 30 orders") ∈ strW := List.mem_of_getElem? (i := 4) rfl
set_option maxRecDepth 20000 in
theorem kmX11_62 : Cond.methodLink RX11 62 yX11_checkValue ∈ gd := List.mem_filter.mpr ⟨List.mem_append_right _ (List.mem_of_getElem? (l := tables_1) (i := 333) (by decide +kernel)), by decide +kernel⟩
set_option maxRecDepth 20000 in
theorem kc_X11_checkValue : Cond.code yX11_checkValue cX11_checkValue 3 (none) ∈ gd := List.mem_filter.mpr ⟨List.mem_append_right _ (List.mem_of_getElem? (l := tables_1) (i := 335) (by decide +kernel)), by decide +kernel⟩
set_option maxRecDepth 20000 in
theorem cal_X11_checkValue : CalOK yX11_checkValue cX11_checkValue 3 (none) 3 := ⟨kc_X11_checkValue, ki_X11, by decide, by decide +kernel⟩
set_option maxRecDepth 20000 in
theorem kz_X11_checkValue : Cond.static yX11_checkValue ∈ gd := List.mem_filter.mpr ⟨List.mem_append_right _ (List.mem_of_getElem? (l := tables_1) (i := 334) (by decide +kernel)), by decide +kernel⟩
set_option maxRecDepth 20000 in
theorem kmX11_66 : Cond.methodLink RX11 66 yX11_addOrder ∈ gd := List.mem_filter.mpr ⟨List.mem_append_right _ (List.mem_of_getElem? (l := tables_1) (i := 356) (by decide +kernel)), by decide +kernel⟩
set_option maxRecDepth 20000 in
theorem kc_X11_addOrder : Cond.code yX11_addOrder cX11_addOrder 5 (some .int) ∈ gd := List.mem_filter.mpr ⟨List.mem_append_right _ (List.mem_of_getElem? (l := tables_1) (i := 359) (by decide +kernel)), by decide +kernel⟩
set_option maxRecDepth 20000 in
theorem cal_X11_addOrder : CalOK yX11_addOrder cX11_addOrder 5 (some .int) 4 := ⟨kc_X11_addOrder, ki_X11, by decide, by decide +kernel⟩
set_option maxRecDepth 20000 in
theorem kn_X11_addOrder : Cond.instanceMethod yX11_addOrder ∈ gd := List.mem_filter.mpr ⟨List.mem_append_right _ (List.mem_of_getElem? (l := tables_1) (i := 358) (by decide +kernel)), by decide +kernel⟩
set_option maxRecDepth 20000 in
theorem ks_X11_addOrder : Cond.selects yX11_addOrder.cls yX11_addOrder yX11_addOrder ∈ gd := List.mem_filter.mpr ⟨List.mem_append_left _ (List.mem_of_getElem? (l := k2_sels lw_privs) (i := 1) (by decide +kernel)), by decide +kernel⟩
set_option maxRecDepth 20000 in
theorem kstr264 : (264, "there is no such word") ∈ strW := List.mem_of_getElem? (i := 6) rfl
set_option maxRecDepth 20000 in
theorem kmX11_74 : Cond.methodLink RX11 74 yX11_checkWord ∈ gd := List.mem_filter.mpr ⟨List.mem_append_right _ (List.mem_of_getElem? (l := tables_1) (i := 449) (by decide +kernel)), by decide +kernel⟩
set_option maxRecDepth 20000 in
theorem kc_X11_checkWord : Cond.code yX11_checkWord cX11_checkWord 1 (none) ∈ gd := List.mem_filter.mpr ⟨List.mem_append_right _ (List.mem_of_getElem? (l := tables_1) (i := 451) (by decide +kernel)), by decide +kernel⟩
set_option maxRecDepth 20000 in
theorem cal_X11_checkWord : CalOK yX11_checkWord cX11_checkWord 1 (none) 1 := ⟨kc_X11_checkWord, ki_X11, by decide, by decide +kernel⟩
set_option maxRecDepth 20000 in
theorem kz_X11_checkWord : Cond.static yX11_checkWord ∈ gd := List.mem_filter.mpr ⟨List.mem_append_right _ (List.mem_of_getElem? (l := tables_1) (i := 450) (by decide +kernel)), by decide +kernel⟩
set_option maxRecDepth 20000 in
theorem kmX11_77 : Cond.methodLink RX11 77 yX1_openBlocks ∈ gd := List.mem_filter.mpr ⟨List.mem_append_right _ (List.mem_of_getElem? (l := tables_1) (i := 440) (by decide +kernel)), by decide +kernel⟩
set_option maxRecDepth 20000 in
theorem kc_X1_openBlocks : Cond.code yX1_openBlocks cX1_openBlocks 1 (some .int) ∈ gd := List.mem_filter.mpr ⟨List.mem_append_right _ (List.mem_of_getElem? (l := tables_1) (i := 443) (by decide +kernel)), by decide +kernel⟩
set_option maxRecDepth 20000 in
theorem cal_X1_openBlocks : CalOK yX1_openBlocks cX1_openBlocks 1 (some .int) 0 := ⟨kc_X1_openBlocks, ki_X1, by decide, by decide +kernel⟩
set_option maxRecDepth 20000 in
theorem kn_X1_openBlocks : Cond.instanceMethod yX1_openBlocks ∈ gd := List.mem_filter.mpr ⟨List.mem_append_right _ (List.mem_of_getElem? (l := tables_1) (i := 441) (by decide +kernel)), by decide +kernel⟩
set_option maxRecDepth 20000 in
theorem ks_X1_openBlocks : Cond.selects yX1_openBlocks.cls yX1_openBlocks yX1_openBlocks ∈ gd := List.mem_filter.mpr ⟨List.mem_append_right _ (List.mem_of_getElem? (l := tables_1) (i := 442) (by decide +kernel)), by decide +kernel⟩
set_option maxRecDepth 20000 in
theorem kstr87 : (87, "a block is open, or the word has one") ∈ strW := List.mem_of_getElem? (i := 7) rfl
set_option maxRecDepth 20000 in
theorem kmX11_81 : Cond.methodLink RX11 81 yX1_tells ∈ gd := List.mem_filter.mpr ⟨List.mem_append_right _ (List.mem_of_getElem? (l := tables_1) (i := 453) (by decide +kernel)), by decide +kernel⟩
set_option maxRecDepth 20000 in
theorem kc_X1_tells : Cond.code yX1_tells cX1_tells 2 (some .boolean) ∈ gd := List.mem_filter.mpr ⟨List.mem_append_right _ (List.mem_of_getElem? (l := tables_1) (i := 456) (by decide +kernel)), by decide +kernel⟩
set_option maxRecDepth 20000 in
theorem cal_X1_tells : CalOK yX1_tells cX1_tells 2 (some .boolean) 1 := ⟨kc_X1_tells, ki_X1, by decide, by decide +kernel⟩
set_option maxRecDepth 20000 in
theorem kn_X1_tells : Cond.instanceMethod yX1_tells ∈ gd := List.mem_filter.mpr ⟨List.mem_append_right _ (List.mem_of_getElem? (l := tables_1) (i := 454) (by decide +kernel)), by decide +kernel⟩
set_option maxRecDepth 20000 in
theorem ks_X1_tells : Cond.selects yX1_tells.cls yX1_tells yX1_tells ∈ gd := List.mem_filter.mpr ⟨List.mem_append_right _ (List.mem_of_getElem? (l := tables_1) (i := 455) (by decide +kernel)), by decide +kernel⟩
set_option maxRecDepth 20000 in
theorem kstr92 : (92, "no block is open") ∈ strW := List.mem_of_getElem? (i := 5) rfl
set_option maxRecDepth 20000 in
theorem kmX11_97 : Cond.methodLink RX11 97 yX1_makeEmpty ∈ gd := List.mem_filter.mpr ⟨List.mem_append_right _ (List.mem_of_getElem? (l := tables_1) (i := 469) (by decide +kernel)), by decide +kernel⟩
set_option maxRecDepth 20000 in
theorem kc_X1_makeEmpty : Cond.code yX1_makeEmpty cX1_makeEmpty 2 (none) ∈ gd := List.mem_filter.mpr ⟨List.mem_append_right _ (List.mem_of_getElem? (l := tables_1) (i := 472) (by decide +kernel)), by decide +kernel⟩
set_option maxRecDepth 20000 in
theorem cal_X1_makeEmpty : CalOK yX1_makeEmpty cX1_makeEmpty 2 (none) 0 := ⟨kc_X1_makeEmpty, ki_X1, by decide, by decide +kernel⟩
set_option maxRecDepth 20000 in
theorem kn_X1_makeEmpty : Cond.instanceMethod yX1_makeEmpty ∈ gd := List.mem_filter.mpr ⟨List.mem_append_right _ (List.mem_of_getElem? (l := tables_1) (i := 470) (by decide +kernel)), by decide +kernel⟩
set_option maxRecDepth 20000 in
theorem ks_X1_makeEmpty : Cond.selects yX1_makeEmpty.cls yX1_makeEmpty yX1_makeEmpty ∈ gd := List.mem_filter.mpr ⟨List.mem_append_right _ (List.mem_of_getElem? (l := tables_1) (i := 471) (by decide +kernel)), by decide +kernel⟩
set_option maxRecDepth 20000 in
theorem kstr266 : (266, "there is no such pupil") ∈ strW := List.mem_of_getElem? (i := 1) rfl
set_option maxRecDepth 20000 in
theorem kfX5_23 : Cond.fieldLink RX5 23 (clT 5 1).1 (clT 5 1).2.1 (clT 5 1).2.2.1 ∈ gd := List.mem_filter.mpr ⟨List.mem_append_right _ (List.mem_of_getElem? (l := tables_1) (i := 539) (by decide +kernel)), by decide +kernel⟩
set_option maxRecDepth 20000 in
theorem kfX5_27 : Cond.fieldLink RX5 27 (clT 5 2).1 (clT 5 2).2.1 (clT 5 2).2.2.1 ∈ gd := List.mem_filter.mpr ⟨List.mem_append_right _ (List.mem_of_getElem? (l := tables_1) (i := 540) (by decide +kernel)), by decide +kernel⟩
set_option maxRecDepth 20000 in
theorem kmX5_70 : Cond.methodLink RX5 70 yX5_orderAt ∈ gd := List.mem_filter.mpr ⟨List.mem_append_right _ (List.mem_of_getElem? (l := tables_1) (i := 500) (by decide +kernel)), by decide +kernel⟩
set_option maxRecDepth 20000 in
theorem kc_X5_orderAt : Cond.code yX5_orderAt cX5_orderAt 2 (some (.object "TurtleChalk$Order")) ∈ gd := List.mem_filter.mpr ⟨List.mem_append_right _ (List.mem_of_getElem? (l := tables_1) (i := 503) (by decide +kernel)), by decide +kernel⟩
set_option maxRecDepth 20000 in
theorem ki_X5 : Cond.initialized RX5 ∈ gd := List.mem_filter.mpr ⟨List.mem_append_right _ (List.mem_of_getElem? (l := tables_1) (i := 15) (by decide +kernel)), by decide +kernel⟩
set_option maxRecDepth 20000 in
theorem cal_X5_orderAt : CalOK yX5_orderAt cX5_orderAt 2 (some (.object "TurtleChalk$Order")) 1 := ⟨kc_X5_orderAt, ki_X5, by decide, by decide +kernel⟩
set_option maxRecDepth 20000 in
theorem kn_X5_orderAt : Cond.instanceMethod yX5_orderAt ∈ gd := List.mem_filter.mpr ⟨List.mem_append_right _ (List.mem_of_getElem? (l := tables_1) (i := 501) (by decide +kernel)), by decide +kernel⟩
set_option maxRecDepth 20000 in
theorem ks_X5_orderAt : Cond.selects yX5_orderAt.cls yX5_orderAt yX5_orderAt ∈ gd := List.mem_filter.mpr ⟨List.mem_append_right _ (List.mem_of_getElem? (l := tables_1) (i := 502) (by decide +kernel)), by decide +kernel⟩
set_option maxRecDepth 20000 in
theorem kmX5_71 : Cond.methodLink RX5 71 yX4_opensBlock ∈ gd := List.mem_filter.mpr ⟨List.mem_append_right _ (List.mem_of_getElem? (l := tables_1) (i := 504) (by decide +kernel)), by decide +kernel⟩
set_option maxRecDepth 20000 in
theorem kmX5_75 : Cond.methodLink RX5 75 yX5_partnerOf ∈ gd := List.mem_filter.mpr ⟨List.mem_append_right _ (List.mem_of_getElem? (l := tables_1) (i := 505) (by decide +kernel)), by decide +kernel⟩
set_option maxRecDepth 20000 in
theorem kc_X5_partnerOf : Cond.code yX5_partnerOf cX5_partnerOf 2 (some .int) ∈ gd := List.mem_filter.mpr ⟨List.mem_append_right _ (List.mem_of_getElem? (l := tables_1) (i := 508) (by decide +kernel)), by decide +kernel⟩
set_option maxRecDepth 20000 in
theorem cal_X5_partnerOf : CalOK yX5_partnerOf cX5_partnerOf 2 (some .int) 1 := ⟨kc_X5_partnerOf, ki_X5, by decide, by decide +kernel⟩
set_option maxRecDepth 20000 in
theorem kn_X5_partnerOf : Cond.instanceMethod yX5_partnerOf ∈ gd := List.mem_filter.mpr ⟨List.mem_append_right _ (List.mem_of_getElem? (l := tables_1) (i := 506) (by decide +kernel)), by decide +kernel⟩
set_option maxRecDepth 20000 in
theorem ks_X5_partnerOf : Cond.selects yX5_partnerOf.cls yX5_partnerOf yX5_partnerOf ∈ gd := List.mem_filter.mpr ⟨List.mem_append_right _ (List.mem_of_getElem? (l := tables_1) (i := 507) (by decide +kernel)), by decide +kernel⟩
set_option maxRecDepth 20000 in
theorem kfX5_63 : Cond.fieldLinkNest RX5 63 (clT 4 0).1 (clT 4 0).2.1 (clT 4 0).2.2.1 "TurtleChalk" ∈ nestW := List.mem_of_getElem? (i := 4) (by decide +kernel)
set_option maxRecDepth 20000 in
theorem kmX5_66 : Cond.methodLink RX5 66 yX5_lastOpenAhead ∈ gd := List.mem_filter.mpr ⟨List.mem_append_right _ (List.mem_of_getElem? (l := tables_1) (i := 496) (by decide +kernel)), by decide +kernel⟩
set_option maxRecDepth 20000 in
theorem kc_X5_lastOpenAhead : Cond.code yX5_lastOpenAhead cX5_lastOpenAhead 4 (some .int) ∈ gd := List.mem_filter.mpr ⟨List.mem_append_right _ (List.mem_of_getElem? (l := tables_1) (i := 499) (by decide +kernel)), by decide +kernel⟩
set_option maxRecDepth 20000 in
theorem cal_X5_lastOpenAhead : CalOK yX5_lastOpenAhead cX5_lastOpenAhead 4 (some .int) 1 := ⟨kc_X5_lastOpenAhead, ki_X5, by decide, by decide +kernel⟩
set_option maxRecDepth 20000 in
theorem kn_X5_lastOpenAhead : Cond.instanceMethod yX5_lastOpenAhead ∈ gd := List.mem_filter.mpr ⟨List.mem_append_right _ (List.mem_of_getElem? (l := tables_1) (i := 498) (by decide +kernel)), by decide +kernel⟩
set_option maxRecDepth 20000 in
theorem ks_X5_lastOpenAhead : Cond.selects yX5_lastOpenAhead.cls yX5_lastOpenAhead yX5_lastOpenAhead ∈ gd := List.mem_filter.mpr ⟨List.mem_append_left _ (List.mem_of_getElem? (l := k2_sels lw_privs) (i := 3) (by decide +kernel)), by decide +kernel⟩
set_option maxRecDepth 20000 in
theorem kfX5_78 : Cond.fieldLinkNest RX5 78 (clT 4 1).1 (clT 4 1).2.1 (clT 4 1).2.2.1 "TurtleChalk" ∈ nestW := List.mem_of_getElem? (i := 7) (by decide +kernel)
set_option maxRecDepth 20000 in
theorem kfX5_34 : Cond.fieldLink RX5 34 (clT 5 3).1 (clT 5 3).2.1 (clT 5 3).2.2.1 ∈ gd := List.mem_filter.mpr ⟨List.mem_append_right _ (List.mem_of_getElem? (l := tables_1) (i := 541) (by decide +kernel)), by decide +kernel⟩
set_option maxRecDepth 20000 in
theorem kmX6_3 : Cond.methodLink RX6 3 Lib.objectInit ∈ gd := List.mem_filter.mpr ⟨List.mem_append_right _ (List.mem_of_getElem? (l := tables_1) (i := 522) (by decide +kernel)), by decide +kernel⟩
set_option maxRecDepth 20000 in
theorem kfX6_9 : Cond.fieldLink RX6 9 (clT 6 0).1 (clT 6 0).2.1 (clT 6 0).2.2.1 ∈ gd := List.mem_filter.mpr ⟨List.mem_append_right _ (List.mem_of_getElem? (l := tables_1) (i := 523) (by decide +kernel)), by decide +kernel⟩
set_option maxRecDepth 20000 in
theorem kfX6_15 : Cond.fieldLink RX6 15 (clT 6 1).1 (clT 6 1).2.1 (clT 6 1).2.2.1 ∈ gd := List.mem_filter.mpr ⟨List.mem_append_right _ (List.mem_of_getElem? (l := tables_1) (i := 524) (by decide +kernel)), by decide +kernel⟩
set_option maxRecDepth 20000 in
theorem kfX5_87 : Cond.fieldLinkNest RX5 87 (clT 4 3).1 (clT 4 3).2.1 (clT 4 3).2.2.1 "TurtleChalk" ∈ nestW := List.mem_of_getElem? (i := 11) (by decide +kernel)
set_option maxRecDepth 20000 in
theorem kxX5_81 : Cond.classLink RX5 81 (clC 6) ∈ gd := List.mem_filter.mpr ⟨List.mem_append_right _ (List.mem_of_getElem? (l := tables_1) (i := 517) (by decide +kernel)), by decide +kernel⟩
set_option maxRecDepth 20000 in
theorem kin6 : Cond.instantiable (clC 6) (fN 6) ∈ gd := List.mem_filter.mpr ⟨List.mem_append_right _ (List.mem_of_getElem? (l := tables_1) (i := 518) (by decide +kernel)), by decide +kernel⟩
set_option maxRecDepth 20000 in
theorem kiz6 : Cond.initialized (clC 6) ∈ gd := List.mem_filter.mpr ⟨List.mem_append_right _ (List.mem_of_getElem? (l := tables_1) (i := 16) (by decide +kernel)), by decide +kernel⟩
set_option maxRecDepth 20000 in
theorem kmX5_83 : Cond.methodLink RX5 83 yX6_init ∈ gd := List.mem_filter.mpr ⟨List.mem_append_right _ (List.mem_of_getElem? (l := tables_1) (i := 519) (by decide +kernel)), by decide +kernel⟩
set_option maxRecDepth 20000 in
theorem kc_X6_init : Cond.code yX6_init cX6_init 2 (none) ∈ gd := List.mem_filter.mpr ⟨List.mem_append_right _ (List.mem_of_getElem? (l := tables_1) (i := 521) (by decide +kernel)), by decide +kernel⟩
set_option maxRecDepth 20000 in
theorem ki_X6 : Cond.initialized RX6 ∈ gd := List.mem_filter.mpr ⟨List.mem_append_right _ (List.mem_of_getElem? (l := tables_1) (i := 16) (by decide +kernel)), by decide +kernel⟩
set_option maxRecDepth 20000 in
theorem cal_X6_init : CalOK yX6_init cX6_init 2 (none) 0 := ⟨kc_X6_init, ki_X6, by decide, by decide +kernel⟩
set_option maxRecDepth 20000 in
theorem kn_X6_init : Cond.instanceMethod yX6_init ∈ gd := List.mem_filter.mpr ⟨List.mem_append_right _ (List.mem_of_getElem? (l := tables_1) (i := 520) (by decide +kernel)), by decide +kernel⟩
set_option maxRecDepth 20000 in
theorem kfX5_31 : Cond.fieldLink RX5 31 (clT 5 4).1 (clT 5 4).2.1 (clT 5 4).2.2.1 ∈ gd := List.mem_filter.mpr ⟨List.mem_append_right _ (List.mem_of_getElem? (l := tables_1) (i := 542) (by decide +kernel)), by decide +kernel⟩
set_option maxRecDepth 20000 in
theorem kfX5_91 : Cond.fieldLinkNest RX5 91 (clT 4 2).1 (clT 4 2).2.1 (clT 4 2).2.2.1 "TurtleChalk" ∈ nestW := List.mem_of_getElem? (i := 9) (by decide +kernel)
set_option maxRecDepth 20000 in
theorem kmX5_84 : Cond.methodLink RX5 84 yX6_numberOf ∈ gd := List.mem_filter.mpr ⟨List.mem_append_right _ (List.mem_of_getElem? (l := tables_1) (i := 530) (by decide +kernel)), by decide +kernel⟩
set_option maxRecDepth 20000 in
theorem kc_X6_numberOf : Cond.code yX6_numberOf cX6_numberOf 2 (some .int) ∈ gd := List.mem_filter.mpr ⟨List.mem_append_right _ (List.mem_of_getElem? (l := tables_1) (i := 533) (by decide +kernel)), by decide +kernel⟩
set_option maxRecDepth 20000 in
theorem cal_X6_numberOf : CalOK yX6_numberOf cX6_numberOf 2 (some .int) 1 := ⟨kc_X6_numberOf, ki_X6, by decide, by decide +kernel⟩
set_option maxRecDepth 20000 in
theorem kn_X6_numberOf : Cond.instanceMethod yX6_numberOf ∈ gd := List.mem_filter.mpr ⟨List.mem_append_right _ (List.mem_of_getElem? (l := tables_1) (i := 531) (by decide +kernel)), by decide +kernel⟩
set_option maxRecDepth 20000 in
theorem ks_X6_numberOf : Cond.selects yX6_numberOf.cls yX6_numberOf yX6_numberOf ∈ gd := List.mem_filter.mpr ⟨List.mem_append_right _ (List.mem_of_getElem? (l := tables_1) (i := 532) (by decide +kernel)), by decide +kernel⟩
set_option maxRecDepth 20000 in
theorem kmX5_94 : Cond.methodLink RX5 94 yX5_codeOf ∈ gd := List.mem_filter.mpr ⟨List.mem_append_right _ (List.mem_of_getElem? (l := tables_1) (i := 534) (by decide +kernel)), by decide +kernel⟩
set_option maxRecDepth 20000 in
theorem kc_X5_codeOf : Cond.code yX5_codeOf cX5_codeOf 4 (some .int) ∈ gd := List.mem_filter.mpr ⟨List.mem_append_right _ (List.mem_of_getElem? (l := tables_1) (i := 536) (by decide +kernel)), by decide +kernel⟩
set_option maxRecDepth 20000 in
theorem cal_X5_codeOf : CalOK yX5_codeOf cX5_codeOf 4 (some .int) 3 := ⟨kc_X5_codeOf, ki_X5, by decide, by decide +kernel⟩
set_option maxRecDepth 20000 in
theorem kz_X5_codeOf : Cond.static yX5_codeOf ∈ gd := List.mem_filter.mpr ⟨List.mem_append_right _ (List.mem_of_getElem? (l := tables_1) (i := 535) (by decide +kernel)), by decide +kernel⟩
set_option maxRecDepth 20000 in
theorem kmX5_3 : Cond.methodLink RX5 3 Lib.objectInit ∈ gd := List.mem_filter.mpr ⟨List.mem_append_right _ (List.mem_of_getElem? (l := tables_1) (i := 483) (by decide +kernel)), by decide +kernel⟩
set_option maxRecDepth 20000 in
theorem kmX5_9 : Cond.methodLink RX5 9 yX1_length ∈ gd := List.mem_filter.mpr ⟨List.mem_append_right _ (List.mem_of_getElem? (l := tables_1) (i := 484) (by decide +kernel)), by decide +kernel⟩
set_option maxRecDepth 20000 in
theorem kfX5_15 : Cond.fieldLink RX5 15 (clT 5 0).1 (clT 5 0).2.1 (clT 5 0).2.2.1 ∈ gd := List.mem_filter.mpr ⟨List.mem_append_right _ (List.mem_of_getElem? (l := tables_1) (i := 537) (by decide +kernel)), by decide +kernel⟩
set_option maxRecDepth 20000 in
theorem kxX5_21 : Cond.classLink RX5 21 (clC 4) ∈ gd := List.mem_filter.mpr ⟨List.mem_append_right _ (List.mem_of_getElem? (l := tables_1) (i := 485) (by decide +kernel)), by decide +kernel⟩
set_option maxRecDepth 20000 in
theorem kxX5_37 : Cond.classLink RX5 37 (clC 2) ∈ gd := List.mem_filter.mpr ⟨List.mem_append_right _ (List.mem_of_getElem? (l := tables_1) (i := 486) (by decide +kernel)), by decide +kernel⟩
set_option maxRecDepth 20000 in
theorem kmX5_39 : Cond.methodLink RX5 39 yX2_init ∈ gd := List.mem_filter.mpr ⟨List.mem_append_right _ (List.mem_of_getElem? (l := tables_1) (i := 487) (by decide +kernel)), by decide +kernel⟩
set_option maxRecDepth 20000 in
theorem kfX5_40 : Cond.fieldLink RX5 40 (clT 5 5).1 (clT 5 5).2.1 (clT 5 5).2.2.1 ∈ gd := List.mem_filter.mpr ⟨List.mem_append_right _ (List.mem_of_getElem? (l := tables_1) (i := 544) (by decide +kernel)), by decide +kernel⟩
set_option maxRecDepth 20000 in
theorem kmX5_48 : Cond.methodLink RX5 48 yX5_pairBlocks ∈ gd := List.mem_filter.mpr ⟨List.mem_append_right _ (List.mem_of_getElem? (l := tables_1) (i := 492) (by decide +kernel)), by decide +kernel⟩
set_option maxRecDepth 20000 in
theorem kc_X5_pairBlocks : Cond.code yX5_pairBlocks cX5_pairBlocks 4 (none) ∈ gd := List.mem_filter.mpr ⟨List.mem_append_right _ (List.mem_of_getElem? (l := tables_1) (i := 495) (by decide +kernel)), by decide +kernel⟩
set_option maxRecDepth 20000 in
theorem cal_X5_pairBlocks : CalOK yX5_pairBlocks cX5_pairBlocks 4 (none) 0 := ⟨kc_X5_pairBlocks, ki_X5, by decide, by decide +kernel⟩
set_option maxRecDepth 20000 in
theorem kn_X5_pairBlocks : Cond.instanceMethod yX5_pairBlocks ∈ gd := List.mem_filter.mpr ⟨List.mem_append_right _ (List.mem_of_getElem? (l := tables_1) (i := 494) (by decide +kernel)), by decide +kernel⟩
set_option maxRecDepth 20000 in
theorem ks_X5_pairBlocks : Cond.selects yX5_pairBlocks.cls yX5_pairBlocks yX5_pairBlocks ∈ gd := List.mem_filter.mpr ⟨List.mem_append_left _ (List.mem_of_getElem? (l := k2_sels lw_privs) (i := 2) (by decide +kernel)), by decide +kernel⟩
set_option maxRecDepth 20000 in
theorem kmX5_51 : Cond.methodLink RX5 51 yX5_findWords ∈ gd := List.mem_filter.mpr ⟨List.mem_append_right _ (List.mem_of_getElem? (l := tables_1) (i := 509) (by decide +kernel)), by decide +kernel⟩
set_option maxRecDepth 20000 in
theorem kc_X5_findWords : Cond.code yX5_findWords cX5_findWords 3 (none) ∈ gd := List.mem_filter.mpr ⟨List.mem_append_right _ (List.mem_of_getElem? (l := tables_1) (i := 512) (by decide +kernel)), by decide +kernel⟩
set_option maxRecDepth 20000 in
theorem cal_X5_findWords : CalOK yX5_findWords cX5_findWords 3 (none) 0 := ⟨kc_X5_findWords, ki_X5, by decide, by decide +kernel⟩
set_option maxRecDepth 20000 in
theorem kn_X5_findWords : Cond.instanceMethod yX5_findWords ∈ gd := List.mem_filter.mpr ⟨List.mem_append_right _ (List.mem_of_getElem? (l := tables_1) (i := 511) (by decide +kernel)), by decide +kernel⟩
set_option maxRecDepth 20000 in
theorem ks_X5_findWords : Cond.selects yX5_findWords.cls yX5_findWords yX5_findWords ∈ gd := List.mem_filter.mpr ⟨List.mem_append_left _ (List.mem_of_getElem? (l := k2_sels lw_privs) (i := 4) (by decide +kernel)), by decide +kernel⟩
set_option maxRecDepth 20000 in
theorem kmX5_54 : Cond.methodLink RX5 54 yX5_buildForm ∈ gd := List.mem_filter.mpr ⟨List.mem_append_right _ (List.mem_of_getElem? (l := tables_1) (i := 513) (by decide +kernel)), by decide +kernel⟩
set_option maxRecDepth 20000 in
theorem kc_X5_buildForm : Cond.code yX5_buildForm cX5_buildForm 7 (none) ∈ gd := List.mem_filter.mpr ⟨List.mem_append_right _ (List.mem_of_getElem? (l := tables_1) (i := 516) (by decide +kernel)), by decide +kernel⟩
set_option maxRecDepth 20000 in
theorem cal_X5_buildForm : CalOK yX5_buildForm cX5_buildForm 7 (none) 0 := ⟨kc_X5_buildForm, ki_X5, by decide, by decide +kernel⟩
set_option maxRecDepth 20000 in
theorem kn_X5_buildForm : Cond.instanceMethod yX5_buildForm ∈ gd := List.mem_filter.mpr ⟨List.mem_append_right _ (List.mem_of_getElem? (l := tables_1) (i := 515) (by decide +kernel)), by decide +kernel⟩
set_option maxRecDepth 20000 in
theorem ks_X5_buildForm : Cond.selects yX5_buildForm.cls yX5_buildForm yX5_buildForm ∈ gd := List.mem_filter.mpr ⟨List.mem_append_left _ (List.mem_of_getElem? (l := k2_sels lw_privs) (i := 5) (by decide +kernel)), by decide +kernel⟩
set_option maxRecDepth 20000 in
theorem kmX5_44 : Cond.methodLink RX5 44 yX1_orderAt ∈ gd := List.mem_filter.mpr ⟨List.mem_append_right _ (List.mem_of_getElem? (l := tables_1) (i := 488) (by decide +kernel)), by decide +kernel⟩
set_option maxRecDepth 20000 in
theorem kc_X1_orderAt : Cond.code yX1_orderAt cX1_orderAt 2 (some (.object "TurtleChalk$Order")) ∈ gd := List.mem_filter.mpr ⟨List.mem_append_right _ (List.mem_of_getElem? (l := tables_1) (i := 491) (by decide +kernel)), by decide +kernel⟩
set_option maxRecDepth 20000 in
theorem cal_X1_orderAt : CalOK yX1_orderAt cX1_orderAt 2 (some (.object "TurtleChalk$Order")) 1 := ⟨kc_X1_orderAt, ki_X1, by decide, by decide +kernel⟩
set_option maxRecDepth 20000 in
theorem kn_X1_orderAt : Cond.instanceMethod yX1_orderAt ∈ gd := List.mem_filter.mpr ⟨List.mem_append_right _ (List.mem_of_getElem? (l := tables_1) (i := 489) (by decide +kernel)), by decide +kernel⟩
set_option maxRecDepth 20000 in
theorem ks_X1_orderAt : Cond.selects yX1_orderAt.cls yX1_orderAt yX1_orderAt ∈ gd := List.mem_filter.mpr ⟨List.mem_append_right _ (List.mem_of_getElem? (l := tables_1) (i := 490) (by decide +kernel)), by decide +kernel⟩
set_option maxRecDepth 20000 in
theorem kfX8_9 : Cond.fieldLink RX8 9 (clT 8 0).1 (clT 8 0).2.1 (clT 8 0).2.2.1 ∈ gd := List.mem_filter.mpr ⟨List.mem_append_right _ (List.mem_of_getElem? (l := tables_1) (i := 62) (by decide +kernel)), by decide +kernel⟩
set_option maxRecDepth 20000 in
theorem kfX8_15 : Cond.fieldLink RX8 15 (clT 8 1).1 (clT 8 1).2.1 (clT 8 1).2.2.1 ∈ gd := List.mem_filter.mpr ⟨List.mem_append_right _ (List.mem_of_getElem? (l := tables_1) (i := 63) (by decide +kernel)), by decide +kernel⟩
set_option maxRecDepth 20000 in
theorem kfX8_18 : Cond.fieldLink RX8 18 (clT 8 2).1 (clT 8 2).2.1 (clT 8 2).2.2.1 ∈ gd := List.mem_filter.mpr ⟨List.mem_append_right _ (List.mem_of_getElem? (l := tables_1) (i := 64) (by decide +kernel)), by decide +kernel⟩
set_option maxRecDepth 20000 in
theorem kfX8_21 : Cond.fieldLink RX8 21 (clT 8 3).1 (clT 8 3).2.1 (clT 8 3).2.2.1 ∈ gd := List.mem_filter.mpr ⟨List.mem_append_right _ (List.mem_of_getElem? (l := tables_1) (i := 65) (by decide +kernel)), by decide +kernel⟩
set_option maxRecDepth 20000 in
theorem kfX7_45 : Cond.fieldLink RX7 45 (clT 7 5).1 (clT 7 5).2.1 (clT 7 5).2.2.1 ∈ gd := List.mem_filter.mpr ⟨List.mem_append_right _ (List.mem_of_getElem? (l := tables_1) (i := 110) (by decide +kernel)), by decide +kernel⟩
set_option maxRecDepth 20000 in
theorem kmX7_71 : Cond.methodLink RX7 71 yX5_partnerOf ∈ gd := List.mem_filter.mpr ⟨List.mem_append_right _ (List.mem_of_getElem? (l := tables_1) (i := 590) (by decide +kernel)), by decide +kernel⟩
set_option maxRecDepth 20000 in
theorem kmX7_62 : Cond.methodLink RX7 62 yX5_orderAt ∈ gd := List.mem_filter.mpr ⟨List.mem_append_right _ (List.mem_of_getElem? (l := tables_1) (i := 589) (by decide +kernel)), by decide +kernel⟩
set_option maxRecDepth 20000 in
theorem kfX7_66 : Cond.fieldLinkNest RX7 66 (clT 4 0).1 (clT 4 0).2.1 (clT 4 0).2.2.1 "TurtleChalk" ∈ nestW := List.mem_of_getElem? (i := 2) (by decide +kernel)
set_option maxRecDepth 20000 in
theorem kmX7_132 : Cond.methodLink RX7 132 yX7_leaveWord ∈ gd := List.mem_filter.mpr ⟨List.mem_append_right _ (List.mem_of_getElem? (l := tables_1) (i := 595) (by decide +kernel)), by decide +kernel⟩
set_option maxRecDepth 20000 in
theorem kc_X7_leaveWord : Cond.code yX7_leaveWord cX7_leaveWord 2 (some .int) ∈ gd := List.mem_filter.mpr ⟨List.mem_append_right _ (List.mem_of_getElem? (l := tables_1) (i := 598) (by decide +kernel)), by decide +kernel⟩
set_option maxRecDepth 20000 in
theorem cal_X7_leaveWord : CalOK yX7_leaveWord cX7_leaveWord 2 (some .int) 0 := ⟨kc_X7_leaveWord, ki_X7, by decide, by decide +kernel⟩
set_option maxRecDepth 20000 in
theorem kn_X7_leaveWord : Cond.instanceMethod yX7_leaveWord ∈ gd := List.mem_filter.mpr ⟨List.mem_append_right _ (List.mem_of_getElem? (l := tables_1) (i := 597) (by decide +kernel)), by decide +kernel⟩
set_option maxRecDepth 20000 in
theorem ks_X7_leaveWord : Cond.selects yX7_leaveWord.cls yX7_leaveWord yX7_leaveWord ∈ gd := List.mem_filter.mpr ⟨List.mem_append_left _ (List.mem_of_getElem? (l := k2_sels lw_privs) (i := 8) (by decide +kernel)), by decide +kernel⟩
set_option maxRecDepth 20000 in
theorem kfX7_39 : Cond.fieldLink RX7 39 (clT 7 7).1 (clT 7 7).2.1 (clT 7 7).2.2.1 ∈ gd := List.mem_filter.mpr ⟨List.mem_append_right _ (List.mem_of_getElem? (l := tables_1) (i := 112) (by decide +kernel)), by decide +kernel⟩
set_option maxRecDepth 20000 in
theorem kfX7_42 : Cond.fieldLink RX7 42 (clT 7 6).1 (clT 7 6).2.1 (clT 7 6).2.2.1 ∈ gd := List.mem_filter.mpr ⟨List.mem_append_right _ (List.mem_of_getElem? (l := tables_1) (i := 111) (by decide +kernel)), by decide +kernel⟩
set_option maxRecDepth 20000 in
theorem kfX7_35 : Cond.fieldLink RX7 35 (clT 7 8).1 (clT 7 8).2.1 (clT 7 8).2.2.1 ∈ gd := List.mem_filter.mpr ⟨List.mem_append_right _ (List.mem_of_getElem? (l := tables_1) (i := 113) (by decide +kernel)), by decide +kernel⟩
set_option maxRecDepth 20000 in
theorem kfX7_115 : Cond.fieldLinkNest RX7 115 (clT 4 3).1 (clT 4 3).2.1 (clT 4 3).2.2.1 "TurtleChalk" ∈ nestW := List.mem_of_getElem? (i := 10) (by decide +kernel)
set_option maxRecDepth 20000 in
theorem kfX7_119 : Cond.fieldLinkNest RX7 119 (clT 4 2).1 (clT 4 2).2.1 (clT 4 2).2.2.1 "TurtleChalk" ∈ nestW := List.mem_of_getElem? (i := 8) (by decide +kernel)
set_option maxRecDepth 20000 in
theorem kmX7_105 : Cond.methodLink RX7 105 yX7_nameAt ∈ gd := List.mem_filter.mpr ⟨List.mem_append_right _ (List.mem_of_getElem? (l := tables_1) (i := 607) (by decide +kernel)), by decide +kernel⟩
set_option maxRecDepth 20000 in
theorem kc_X7_nameAt : Cond.code yX7_nameAt cX7_nameAt 2 (some .int) ∈ gd := List.mem_filter.mpr ⟨List.mem_append_right _ (List.mem_of_getElem? (l := tables_1) (i := 610) (by decide +kernel)), by decide +kernel⟩
set_option maxRecDepth 20000 in
theorem cal_X7_nameAt : CalOK yX7_nameAt cX7_nameAt 2 (some .int) 1 := ⟨kc_X7_nameAt, ki_X7, by decide, by decide +kernel⟩
set_option maxRecDepth 20000 in
theorem kn_X7_nameAt : Cond.instanceMethod yX7_nameAt ∈ gd := List.mem_filter.mpr ⟨List.mem_append_right _ (List.mem_of_getElem? (l := tables_1) (i := 609) (by decide +kernel)), by decide +kernel⟩
set_option maxRecDepth 20000 in
theorem ks_X7_nameAt : Cond.selects yX7_nameAt.cls yX7_nameAt yX7_nameAt ∈ gd := List.mem_filter.mpr ⟨List.mem_append_left _ (List.mem_of_getElem? (l := k2_sels lw_privs) (i := 11) (by decide +kernel)), by decide +kernel⟩
set_option maxRecDepth 20000 in
theorem kmX8_31 : Cond.methodLink RX8 31 yX8_aheadX ∈ gd := List.mem_filter.mpr ⟨List.mem_append_right _ (List.mem_of_getElem? (l := tables_1) (i := 619) (by decide +kernel)), by decide +kernel⟩
set_option maxRecDepth 20000 in
theorem kc_X8_aheadX : Cond.code yX8_aheadX cX8_aheadX 1 (some .int) ∈ gd := List.mem_filter.mpr ⟨List.mem_append_right _ (List.mem_of_getElem? (l := tables_1) (i := 622) (by decide +kernel)), by decide +kernel⟩
set_option maxRecDepth 20000 in
theorem cal_X8_aheadX : CalOK yX8_aheadX cX8_aheadX 1 (some .int) 0 := ⟨kc_X8_aheadX, ki_X8, by decide, by decide +kernel⟩
set_option maxRecDepth 20000 in
theorem kn_X8_aheadX : Cond.instanceMethod yX8_aheadX ∈ gd := List.mem_filter.mpr ⟨List.mem_append_right _ (List.mem_of_getElem? (l := tables_1) (i := 621) (by decide +kernel)), by decide +kernel⟩
set_option maxRecDepth 20000 in
theorem ks_X8_aheadX : Cond.selects yX8_aheadX.cls yX8_aheadX yX8_aheadX ∈ gd := List.mem_filter.mpr ⟨List.mem_append_left _ (List.mem_of_getElem? (l := k2_sels lw_privs) (i := 13) (by decide +kernel)), by decide +kernel⟩
set_option maxRecDepth 20000 in
theorem kmX8_35 : Cond.methodLinkNest RX8 35 yX11_isOnGround "TurtleChalk" ∈ nestW := List.mem_of_getElem? (i := 22) (by decide +kernel)
set_option maxRecDepth 20000 in
theorem kc_X11_isOnGround : Cond.code yX11_isOnGround cX11_isOnGround 1 (some .boolean) ∈ gd := List.mem_filter.mpr ⟨List.mem_append_right _ (List.mem_of_getElem? (l := tables_1) (i := 625) (by decide +kernel)), by decide +kernel⟩
set_option maxRecDepth 20000 in
theorem cal_X11_isOnGround : CalOK yX11_isOnGround cX11_isOnGround 1 (some .boolean) 1 := ⟨kc_X11_isOnGround, ki_X11, by decide, by decide +kernel⟩
set_option maxRecDepth 20000 in
theorem kz_X11_isOnGround : Cond.static yX11_isOnGround ∈ gd := List.mem_filter.mpr ⟨List.mem_append_right _ (List.mem_of_getElem? (l := tables_1) (i := 624) (by decide +kernel)), by decide +kernel⟩
set_option maxRecDepth 20000 in
theorem kmX8_39 : Cond.methodLink RX8 39 yX8_aheadY ∈ gd := List.mem_filter.mpr ⟨List.mem_append_right _ (List.mem_of_getElem? (l := tables_1) (i := 626) (by decide +kernel)), by decide +kernel⟩
set_option maxRecDepth 20000 in
theorem kc_X8_aheadY : Cond.code yX8_aheadY cX8_aheadY 1 (some .int) ∈ gd := List.mem_filter.mpr ⟨List.mem_append_right _ (List.mem_of_getElem? (l := tables_1) (i := 629) (by decide +kernel)), by decide +kernel⟩
set_option maxRecDepth 20000 in
theorem cal_X8_aheadY : CalOK yX8_aheadY cX8_aheadY 1 (some .int) 0 := ⟨kc_X8_aheadY, ki_X8, by decide, by decide +kernel⟩
set_option maxRecDepth 20000 in
theorem kn_X8_aheadY : Cond.instanceMethod yX8_aheadY ∈ gd := List.mem_filter.mpr ⟨List.mem_append_right _ (List.mem_of_getElem? (l := tables_1) (i := 628) (by decide +kernel)), by decide +kernel⟩
set_option maxRecDepth 20000 in
theorem ks_X8_aheadY : Cond.selects yX8_aheadY.cls yX8_aheadY yX8_aheadY ∈ gd := List.mem_filter.mpr ⟨List.mem_append_left _ (List.mem_of_getElem? (l := k2_sels lw_privs) (i := 14) (by decide +kernel)), by decide +kernel⟩
set_option maxRecDepth 20000 in
theorem kfX2_18 : Cond.fieldLink RX2 18 (clT 2 2).1 (clT 2 2).2.1 (clT 2 2).2.2.1 ∈ gd := List.mem_filter.mpr ⟨List.mem_append_right _ (List.mem_of_getElem? (l := tables_1) (i := 83) (by decide +kernel)), by decide +kernel⟩
set_option maxRecDepth 20000 in
theorem kfX2_30 : Cond.fieldLink RX2 30 (clT 2 3).1 (clT 2 3).2.1 (clT 2 3).2.2.1 ∈ gd := List.mem_filter.mpr ⟨List.mem_append_right _ (List.mem_of_getElem? (l := tables_1) (i := 85) (by decide +kernel)), by decide +kernel⟩
set_option maxRecDepth 20000 in
theorem kfX2_33 : Cond.fieldLink RX2 33 (clT 2 4).1 (clT 2 4).2.1 (clT 2 4).2.2.1 ∈ gd := List.mem_filter.mpr ⟨List.mem_append_right _ (List.mem_of_getElem? (l := tables_1) (i := 86) (by decide +kernel)), by decide +kernel⟩
set_option maxRecDepth 20000 in
theorem kfX2_36 : Cond.fieldLink RX2 36 (clT 2 5).1 (clT 2 5).2.1 (clT 2 5).2.2.1 ∈ gd := List.mem_filter.mpr ⟨List.mem_append_right _ (List.mem_of_getElem? (l := tables_1) (i := 87) (by decide +kernel)), by decide +kernel⟩
set_option maxRecDepth 20000 in
theorem kfX2_39 : Cond.fieldLink RX2 39 (clT 2 6).1 (clT 2 6).2.1 (clT 2 6).2.2.1 ∈ gd := List.mem_filter.mpr ⟨List.mem_append_right _ (List.mem_of_getElem? (l := tables_1) (i := 88) (by decide +kernel)), by decide +kernel⟩
set_option maxRecDepth 20000 in
theorem kmX2_22 : Cond.methodLinkNest RX2 22 yX11_isOnGround "TurtleChalk" ∈ nestW := List.mem_of_getElem? (i := 23) (by decide +kernel)
set_option maxRecDepth 20000 in
theorem kmX2_26 : Cond.methodLink RX2 26 yX2_takeIn ∈ gd := List.mem_filter.mpr ⟨List.mem_append_right _ (List.mem_of_getElem? (l := tables_1) (i := 642) (by decide +kernel)), by decide +kernel⟩
set_option maxRecDepth 20000 in
theorem kc_X2_takeIn : Cond.code yX2_takeIn cX2_takeIn 6 (none) ∈ gd := List.mem_filter.mpr ⟨List.mem_append_right _ (List.mem_of_getElem? (l := tables_1) (i := 645) (by decide +kernel)), by decide +kernel⟩
set_option maxRecDepth 20000 in
theorem cal_X2_takeIn : CalOK yX2_takeIn cX2_takeIn 6 (none) 4 := ⟨kc_X2_takeIn, ki_X2, by decide, by decide +kernel⟩
set_option maxRecDepth 20000 in
theorem kn_X2_takeIn : Cond.instanceMethod yX2_takeIn ∈ gd := List.mem_filter.mpr ⟨List.mem_append_right _ (List.mem_of_getElem? (l := tables_1) (i := 644) (by decide +kernel)), by decide +kernel⟩
set_option maxRecDepth 20000 in
theorem ks_X2_takeIn : Cond.selects yX2_takeIn.cls yX2_takeIn yX2_takeIn ∈ gd := List.mem_filter.mpr ⟨List.mem_append_left _ (List.mem_of_getElem? (l := k2_sels lw_privs) (i := 15) (by decide +kernel)), by decide +kernel⟩
set_option maxRecDepth 20000 in
theorem kmX8_42 : Cond.methodLink RX8 42 yJ9_min_7cf53 ∈ gd := List.mem_filter.mpr ⟨List.mem_append_right _ (List.mem_of_getElem? (l := tables_1) (i := 634) (by decide +kernel)), by decide +kernel⟩
set_option maxRecDepth 20000 in
theorem kc_J9_min_7cf53 : Cond.code yJ9_min_7cf53 cJ9_min_7cf53 2 (some .int) ∈ gd := List.mem_filter.mpr ⟨List.mem_append_right _ (List.mem_of_getElem? (l := tables_1) (i := 636) (by decide +kernel)), by decide +kernel⟩
set_option maxRecDepth 20000 in
theorem ki_J9 : Cond.initialized RJ9 ∈ gd := List.mem_filter.mpr ⟨List.mem_append_right _ (List.mem_of_getElem? (l := tables_1) (i := 17) (by decide +kernel)), by decide +kernel⟩
set_option maxRecDepth 20000 in
theorem cal_J9_min_7cf53 : CalOK yJ9_min_7cf53 cJ9_min_7cf53 2 (some .int) 2 := ⟨kc_J9_min_7cf53, ki_J9, by decide, by decide +kernel⟩
set_option maxRecDepth 20000 in
theorem kz_J9_min_7cf53 : Cond.static yJ9_min_7cf53 ∈ gd := List.mem_filter.mpr ⟨List.mem_append_right _ (List.mem_of_getElem? (l := tables_1) (i := 635) (by decide +kernel)), by decide +kernel⟩
set_option maxRecDepth 20000 in
theorem kmX8_45 : Cond.methodLink RX8 45 yX2_draw ∈ gd := List.mem_filter.mpr ⟨List.mem_append_right _ (List.mem_of_getElem? (l := tables_1) (i := 637) (by decide +kernel)), by decide +kernel⟩
set_option maxRecDepth 20000 in
theorem kc_X2_draw : Cond.code yX2_draw cX2_draw 5 (none) ∈ gd := List.mem_filter.mpr ⟨List.mem_append_right _ (List.mem_of_getElem? (l := tables_1) (i := 640) (by decide +kernel)), by decide +kernel⟩
set_option maxRecDepth 20000 in
theorem cal_X2_draw : CalOK yX2_draw cX2_draw 5 (none) 3 := ⟨kc_X2_draw, ki_X2, by decide, by decide +kernel⟩
set_option maxRecDepth 20000 in
theorem kn_X2_draw : Cond.instanceMethod yX2_draw ∈ gd := List.mem_filter.mpr ⟨List.mem_append_right _ (List.mem_of_getElem? (l := tables_1) (i := 638) (by decide +kernel)), by decide +kernel⟩
set_option maxRecDepth 20000 in
theorem ks_X2_draw : Cond.selects yX2_draw.cls yX2_draw yX2_draw ∈ gd := List.mem_filter.mpr ⟨List.mem_append_right _ (List.mem_of_getElem? (l := tables_1) (i := 639) (by decide +kernel)), by decide +kernel⟩
set_option maxRecDepth 20000 in
theorem kmX7_78 : Cond.methodLink RX7 78 yX7_canCount ∈ gd := List.mem_filter.mpr ⟨List.mem_append_right _ (List.mem_of_getElem? (l := tables_1) (i := 599) (by decide +kernel)), by decide +kernel⟩
set_option maxRecDepth 20000 in
theorem kc_X7_canCount : Cond.code yX7_canCount cX7_canCount 1 (some .boolean) ∈ gd := List.mem_filter.mpr ⟨List.mem_append_right _ (List.mem_of_getElem? (l := tables_1) (i := 602) (by decide +kernel)), by decide +kernel⟩
set_option maxRecDepth 20000 in
theorem cal_X7_canCount : CalOK yX7_canCount cX7_canCount 1 (some .boolean) 0 := ⟨kc_X7_canCount, ki_X7, by decide, by decide +kernel⟩
set_option maxRecDepth 20000 in
theorem kn_X7_canCount : Cond.instanceMethod yX7_canCount ∈ gd := List.mem_filter.mpr ⟨List.mem_append_right _ (List.mem_of_getElem? (l := tables_1) (i := 601) (by decide +kernel)), by decide +kernel⟩
set_option maxRecDepth 20000 in
theorem ks_X7_canCount : Cond.selects yX7_canCount.cls yX7_canCount yX7_canCount ∈ gd := List.mem_filter.mpr ⟨List.mem_append_left _ (List.mem_of_getElem? (l := k2_sels lw_privs) (i := 9) (by decide +kernel)), by decide +kernel⟩
set_option maxRecDepth 20000 in
theorem kmX7_122 : Cond.methodLink RX7 122 yX8_canGo ∈ gd := List.mem_filter.mpr ⟨List.mem_append_right _ (List.mem_of_getElem? (l := tables_1) (i := 615) (by decide +kernel)), by decide +kernel⟩
set_option maxRecDepth 20000 in
theorem kc_X8_canGo : Cond.code yX8_canGo cX8_canGo 1 (some .boolean) ∈ gd := List.mem_filter.mpr ⟨List.mem_append_right _ (List.mem_of_getElem? (l := tables_1) (i := 618) (by decide +kernel)), by decide +kernel⟩
set_option maxRecDepth 20000 in
theorem cal_X8_canGo : CalOK yX8_canGo cX8_canGo 1 (some .boolean) 0 := ⟨kc_X8_canGo, ki_X8, by decide, by decide +kernel⟩
set_option maxRecDepth 20000 in
theorem kn_X8_canGo : Cond.instanceMethod yX8_canGo ∈ gd := List.mem_filter.mpr ⟨List.mem_append_right _ (List.mem_of_getElem? (l := tables_1) (i := 616) (by decide +kernel)), by decide +kernel⟩
set_option maxRecDepth 20000 in
theorem ks_X8_canGo : Cond.selects yX8_canGo.cls yX8_canGo yX8_canGo ∈ gd := List.mem_filter.mpr ⟨List.mem_append_right _ (List.mem_of_getElem? (l := tables_1) (i := 617) (by decide +kernel)), by decide +kernel⟩
set_option maxRecDepth 20000 in
theorem kmX7_125 : Cond.methodLink RX7 125 yX8_go ∈ gd := List.mem_filter.mpr ⟨List.mem_append_right _ (List.mem_of_getElem? (l := tables_1) (i := 630) (by decide +kernel)), by decide +kernel⟩
set_option maxRecDepth 20000 in
theorem kc_X8_go : Cond.code yX8_go cX8_go 4 (none) ∈ gd := List.mem_filter.mpr ⟨List.mem_append_right _ (List.mem_of_getElem? (l := tables_1) (i := 633) (by decide +kernel)), by decide +kernel⟩
set_option maxRecDepth 20000 in
theorem cal_X8_go : CalOK yX8_go cX8_go 4 (none) 1 := ⟨kc_X8_go, ki_X8, by decide, by decide +kernel⟩
set_option maxRecDepth 20000 in
theorem kn_X8_go : Cond.instanceMethod yX8_go ∈ gd := List.mem_filter.mpr ⟨List.mem_append_right _ (List.mem_of_getElem? (l := tables_1) (i := 631) (by decide +kernel)), by decide +kernel⟩
set_option maxRecDepth 20000 in
theorem ks_X8_go : Cond.selects yX8_go.cls yX8_go yX8_go ∈ gd := List.mem_filter.mpr ⟨List.mem_append_right _ (List.mem_of_getElem? (l := tables_1) (i := 632) (by decide +kernel)), by decide +kernel⟩
set_option maxRecDepth 20000 in
theorem kmX8_25 : Cond.methodLink RX8 25 yJ9_floorMod_7cf53 ∈ gd := List.mem_filter.mpr ⟨List.mem_append_right _ (List.mem_of_getElem? (l := tables_1) (i := 650) (by decide +kernel)), by decide +kernel⟩
set_option maxRecDepth 20000 in
theorem kc_J9_floorMod_7cf53 : Cond.code yJ9_floorMod_7cf53 cJ9_floorMod_7cf53 3 (some .int) ∈ gd := List.mem_filter.mpr ⟨List.mem_append_right _ (List.mem_of_getElem? (l := tables_1) (i := 652) (by decide +kernel)), by decide +kernel⟩
set_option maxRecDepth 20000 in
theorem cal_J9_floorMod_7cf53 : CalOK yJ9_floorMod_7cf53 cJ9_floorMod_7cf53 3 (some .int) 2 := ⟨kc_J9_floorMod_7cf53, ki_J9, by decide, by decide +kernel⟩
set_option maxRecDepth 20000 in
theorem kz_J9_floorMod_7cf53 : Cond.static yJ9_floorMod_7cf53 ∈ gd := List.mem_filter.mpr ⟨List.mem_append_right _ (List.mem_of_getElem? (l := tables_1) (i := 651) (by decide +kernel)), by decide +kernel⟩
set_option maxRecDepth 20000 in
theorem kmX7_129 : Cond.methodLink RX7 129 yX5_startOf ∈ gd := List.mem_filter.mpr ⟨List.mem_append_right _ (List.mem_of_getElem? (l := tables_1) (i := 669) (by decide +kernel)), by decide +kernel⟩
set_option maxRecDepth 20000 in
theorem kc_X5_startOf : Cond.code yX5_startOf cX5_startOf 2 (some .int) ∈ gd := List.mem_filter.mpr ⟨List.mem_append_right _ (List.mem_of_getElem? (l := tables_1) (i := 672) (by decide +kernel)), by decide +kernel⟩
set_option maxRecDepth 20000 in
theorem cal_X5_startOf : CalOK yX5_startOf cX5_startOf 2 (some .int) 1 := ⟨kc_X5_startOf, ki_X5, by decide, by decide +kernel⟩
set_option maxRecDepth 20000 in
theorem kn_X5_startOf : Cond.instanceMethod yX5_startOf ∈ gd := List.mem_filter.mpr ⟨List.mem_append_right _ (List.mem_of_getElem? (l := tables_1) (i := 670) (by decide +kernel)), by decide +kernel⟩
set_option maxRecDepth 20000 in
theorem ks_X5_startOf : Cond.selects yX5_startOf.cls yX5_startOf yX5_startOf ∈ gd := List.mem_filter.mpr ⟨List.mem_append_right _ (List.mem_of_getElem? (l := tables_1) (i := 671) (by decide +kernel)), by decide +kernel⟩
set_option maxRecDepth 20000 in
theorem kmX7_82 : Cond.methodLink RX7 82 yX7_valueOf ∈ gd := List.mem_filter.mpr ⟨List.mem_append_right _ (List.mem_of_getElem? (l := tables_1) (i := 603) (by decide +kernel)), by decide +kernel⟩
set_option maxRecDepth 20000 in
theorem kc_X7_valueOf : Cond.code yX7_valueOf cX7_valueOf 2 (some .int) ∈ gd := List.mem_filter.mpr ⟨List.mem_append_right _ (List.mem_of_getElem? (l := tables_1) (i := 606) (by decide +kernel)), by decide +kernel⟩
set_option maxRecDepth 20000 in
theorem cal_X7_valueOf : CalOK yX7_valueOf cX7_valueOf 2 (some .int) 1 := ⟨kc_X7_valueOf, ki_X7, by decide, by decide +kernel⟩
set_option maxRecDepth 20000 in
theorem kn_X7_valueOf : Cond.instanceMethod yX7_valueOf ∈ gd := List.mem_filter.mpr ⟨List.mem_append_right _ (List.mem_of_getElem? (l := tables_1) (i := 605) (by decide +kernel)), by decide +kernel⟩
set_option maxRecDepth 20000 in
theorem ks_X7_valueOf : Cond.selects yX7_valueOf.cls yX7_valueOf yX7_valueOf ∈ gd := List.mem_filter.mpr ⟨List.mem_append_left _ (List.mem_of_getElem? (l := k2_sels lw_privs) (i := 10) (by decide +kernel)), by decide +kernel⟩
set_option maxRecDepth 20000 in
theorem kmX7_86 : Cond.methodLink RX7 86 yX7_goForward ∈ gd := List.mem_filter.mpr ⟨List.mem_append_right _ (List.mem_of_getElem? (l := tables_1) (i := 611) (by decide +kernel)), by decide +kernel⟩
set_option maxRecDepth 20000 in
theorem kc_X7_goForward : Cond.code yX7_goForward cX7_goForward 3 (some .boolean) ∈ gd := List.mem_filter.mpr ⟨List.mem_append_right _ (List.mem_of_getElem? (l := tables_1) (i := 614) (by decide +kernel)), by decide +kernel⟩
set_option maxRecDepth 20000 in
theorem cal_X7_goForward : CalOK yX7_goForward cX7_goForward 3 (some .boolean) 1 := ⟨kc_X7_goForward, ki_X7, by decide, by decide +kernel⟩
set_option maxRecDepth 20000 in
theorem kn_X7_goForward : Cond.instanceMethod yX7_goForward ∈ gd := List.mem_filter.mpr ⟨List.mem_append_right _ (List.mem_of_getElem? (l := tables_1) (i := 613) (by decide +kernel)), by decide +kernel⟩
set_option maxRecDepth 20000 in
theorem ks_X7_goForward : Cond.selects yX7_goForward.cls yX7_goForward yX7_goForward ∈ gd := List.mem_filter.mpr ⟨List.mem_append_left _ (List.mem_of_getElem? (l := k2_sels lw_privs) (i := 12) (by decide +kernel)), by decide +kernel⟩
set_option maxRecDepth 20000 in
theorem kmX7_90 : Cond.methodLink RX7 90 yX8_turnBy ∈ gd := List.mem_filter.mpr ⟨List.mem_append_right _ (List.mem_of_getElem? (l := tables_1) (i := 646) (by decide +kernel)), by decide +kernel⟩
set_option maxRecDepth 20000 in
theorem kc_X8_turnBy : Cond.code yX8_turnBy cX8_turnBy 2 (none) ∈ gd := List.mem_filter.mpr ⟨List.mem_append_right _ (List.mem_of_getElem? (l := tables_1) (i := 649) (by decide +kernel)), by decide +kernel⟩
set_option maxRecDepth 20000 in
theorem cal_X8_turnBy : CalOK yX8_turnBy cX8_turnBy 2 (none) 1 := ⟨kc_X8_turnBy, ki_X8, by decide, by decide +kernel⟩
set_option maxRecDepth 20000 in
theorem kn_X8_turnBy : Cond.instanceMethod yX8_turnBy ∈ gd := List.mem_filter.mpr ⟨List.mem_append_right _ (List.mem_of_getElem? (l := tables_1) (i := 647) (by decide +kernel)), by decide +kernel⟩
set_option maxRecDepth 20000 in
theorem ks_X8_turnBy : Cond.selects yX8_turnBy.cls yX8_turnBy yX8_turnBy ∈ gd := List.mem_filter.mpr ⟨List.mem_append_right _ (List.mem_of_getElem? (l := tables_1) (i := 648) (by decide +kernel)), by decide +kernel⟩
set_option maxRecDepth 20000 in
theorem kfX7_98 : Cond.fieldLinkNest RX7 98 (clT 4 1).1 (clT 4 1).2.1 (clT 4 1).2.2.1 "TurtleChalk" ∈ nestW := List.mem_of_getElem? (i := 5) (by decide +kernel)
set_option maxRecDepth 20000 in
theorem kmX7_101 : Cond.methodLink RX7 101 yX7_putName ∈ gd := List.mem_filter.mpr ⟨List.mem_append_right _ (List.mem_of_getElem? (l := tables_1) (i := 657) (by decide +kernel)), by decide +kernel⟩
set_option maxRecDepth 20000 in
theorem kc_X7_putName : Cond.code yX7_putName cX7_putName 3 (some .boolean) ∈ gd := List.mem_filter.mpr ⟨List.mem_append_right _ (List.mem_of_getElem? (l := tables_1) (i := 660) (by decide +kernel)), by decide +kernel⟩
set_option maxRecDepth 20000 in
theorem cal_X7_putName : CalOK yX7_putName cX7_putName 3 (some .boolean) 2 := ⟨kc_X7_putName, ki_X7, by decide, by decide +kernel⟩
set_option maxRecDepth 20000 in
theorem kn_X7_putName : Cond.instanceMethod yX7_putName ∈ gd := List.mem_filter.mpr ⟨List.mem_append_right _ (List.mem_of_getElem? (l := tables_1) (i := 659) (by decide +kernel)), by decide +kernel⟩
set_option maxRecDepth 20000 in
theorem ks_X7_putName : Cond.selects yX7_putName.cls yX7_putName yX7_putName ∈ gd := List.mem_filter.mpr ⟨List.mem_append_left _ (List.mem_of_getElem? (l := k2_sels lw_privs) (i := 16) (by decide +kernel)), by decide +kernel⟩
set_option maxRecDepth 20000 in
theorem kmX7_108 : Cond.methodLink RX7 108 yX7_beginRepeat ∈ gd := List.mem_filter.mpr ⟨List.mem_append_right _ (List.mem_of_getElem? (l := tables_1) (i := 661) (by decide +kernel)), by decide +kernel⟩
set_option maxRecDepth 20000 in
theorem kc_X7_beginRepeat : Cond.code yX7_beginRepeat cX7_beginRepeat 7 (some .int) ∈ gd := List.mem_filter.mpr ⟨List.mem_append_right _ (List.mem_of_getElem? (l := tables_1) (i := 664) (by decide +kernel)), by decide +kernel⟩
set_option maxRecDepth 20000 in
theorem cal_X7_beginRepeat : CalOK yX7_beginRepeat cX7_beginRepeat 7 (some .int) 3 := ⟨kc_X7_beginRepeat, ki_X7, by decide, by decide +kernel⟩
set_option maxRecDepth 20000 in
theorem kn_X7_beginRepeat : Cond.instanceMethod yX7_beginRepeat ∈ gd := List.mem_filter.mpr ⟨List.mem_append_right _ (List.mem_of_getElem? (l := tables_1) (i := 663) (by decide +kernel)), by decide +kernel⟩
set_option maxRecDepth 20000 in
theorem ks_X7_beginRepeat : Cond.selects yX7_beginRepeat.cls yX7_beginRepeat yX7_beginRepeat ∈ gd := List.mem_filter.mpr ⟨List.mem_append_left _ (List.mem_of_getElem? (l := k2_sels lw_privs) (i := 17) (by decide +kernel)), by decide +kernel⟩
set_option maxRecDepth 20000 in
theorem kmX7_112 : Cond.methodLink RX7 112 yX7_enterWord ∈ gd := List.mem_filter.mpr ⟨List.mem_append_right _ (List.mem_of_getElem? (l := tables_1) (i := 665) (by decide +kernel)), by decide +kernel⟩
set_option maxRecDepth 20000 in
theorem kc_X7_enterWord : Cond.code yX7_enterWord cX7_enterWord 5 (some .int) ∈ gd := List.mem_filter.mpr ⟨List.mem_append_right _ (List.mem_of_getElem? (l := tables_1) (i := 668) (by decide +kernel)), by decide +kernel⟩
set_option maxRecDepth 20000 in
theorem cal_X7_enterWord : CalOK yX7_enterWord cX7_enterWord 5 (some .int) 3 := ⟨kc_X7_enterWord, ki_X7, by decide, by decide +kernel⟩
set_option maxRecDepth 20000 in
theorem kn_X7_enterWord : Cond.instanceMethod yX7_enterWord ∈ gd := List.mem_filter.mpr ⟨List.mem_append_right _ (List.mem_of_getElem? (l := tables_1) (i := 667) (by decide +kernel)), by decide +kernel⟩
set_option maxRecDepth 20000 in
theorem ks_X7_enterWord : Cond.selects yX7_enterWord.cls yX7_enterWord yX7_enterWord ∈ gd := List.mem_filter.mpr ⟨List.mem_append_left _ (List.mem_of_getElem? (l := k2_sels lw_privs) (i := 18) (by decide +kernel)), by decide +kernel⟩
set_option maxRecDepth 20000 in
theorem kmX7_75 : Cond.methodLink RX7 75 yX7_closeBlock ∈ gd := List.mem_filter.mpr ⟨List.mem_append_right _ (List.mem_of_getElem? (l := tables_1) (i := 591) (by decide +kernel)), by decide +kernel⟩
set_option maxRecDepth 20000 in
theorem kc_X7_closeBlock : Cond.code yX7_closeBlock cX7_closeBlock 6 (some .int) ∈ gd := List.mem_filter.mpr ⟨List.mem_append_right _ (List.mem_of_getElem? (l := tables_1) (i := 594) (by decide +kernel)), by decide +kernel⟩
set_option maxRecDepth 20000 in
theorem cal_X7_closeBlock : CalOK yX7_closeBlock cX7_closeBlock 6 (some .int) 2 := ⟨kc_X7_closeBlock, ki_X7, by decide, by decide +kernel⟩
set_option maxRecDepth 20000 in
theorem kn_X7_closeBlock : Cond.instanceMethod yX7_closeBlock ∈ gd := List.mem_filter.mpr ⟨List.mem_append_right _ (List.mem_of_getElem? (l := tables_1) (i := 593) (by decide +kernel)), by decide +kernel⟩
set_option maxRecDepth 20000 in
theorem ks_X7_closeBlock : Cond.selects yX7_closeBlock.cls yX7_closeBlock yX7_closeBlock ∈ gd := List.mem_filter.mpr ⟨List.mem_append_left _ (List.mem_of_getElem? (l := k2_sels lw_privs) (i := 7) (by decide +kernel)), by decide +kernel⟩
set_option maxRecDepth 20000 in
theorem kmX7_94 : Cond.methodLink RX7 94 yX8_putPen ∈ gd := List.mem_filter.mpr ⟨List.mem_append_right _ (List.mem_of_getElem? (l := tables_1) (i := 653) (by decide +kernel)), by decide +kernel⟩
set_option maxRecDepth 20000 in
theorem kc_X8_putPen : Cond.code yX8_putPen cX8_putPen 2 (none) ∈ gd := List.mem_filter.mpr ⟨List.mem_append_right _ (List.mem_of_getElem? (l := tables_1) (i := 656) (by decide +kernel)), by decide +kernel⟩
set_option maxRecDepth 20000 in
theorem cal_X8_putPen : CalOK yX8_putPen cX8_putPen 2 (none) 1 := ⟨kc_X8_putPen, ki_X8, by decide, by decide +kernel⟩
set_option maxRecDepth 20000 in
theorem kn_X8_putPen : Cond.instanceMethod yX8_putPen ∈ gd := List.mem_filter.mpr ⟨List.mem_append_right _ (List.mem_of_getElem? (l := tables_1) (i := 654) (by decide +kernel)), by decide +kernel⟩
set_option maxRecDepth 20000 in
theorem ks_X8_putPen : Cond.selects yX8_putPen.cls yX8_putPen yX8_putPen ∈ gd := List.mem_filter.mpr ⟨List.mem_append_right _ (List.mem_of_getElem? (l := tables_1) (i := 655) (by decide +kernel)), by decide +kernel⟩
set_option maxRecDepth 20000 in
theorem kmX7_48 : Cond.methodLink RX7 48 yX8_begin ∈ gd := List.mem_filter.mpr ⟨List.mem_append_right _ (List.mem_of_getElem? (l := tables_1) (i := 576) (by decide +kernel)), by decide +kernel⟩
set_option maxRecDepth 20000 in
theorem kc_X8_begin : Cond.code yX8_begin cX8_begin 1 (none) ∈ gd := List.mem_filter.mpr ⟨List.mem_append_right _ (List.mem_of_getElem? (l := tables_1) (i := 579) (by decide +kernel)), by decide +kernel⟩
set_option maxRecDepth 20000 in
theorem cal_X8_begin : CalOK yX8_begin cX8_begin 1 (none) 0 := ⟨kc_X8_begin, ki_X8, by decide, by decide +kernel⟩
set_option maxRecDepth 20000 in
theorem kn_X8_begin : Cond.instanceMethod yX8_begin ∈ gd := List.mem_filter.mpr ⟨List.mem_append_right _ (List.mem_of_getElem? (l := tables_1) (i := 577) (by decide +kernel)), by decide +kernel⟩
set_option maxRecDepth 20000 in
theorem ks_X8_begin : Cond.selects yX8_begin.cls yX8_begin yX8_begin ∈ gd := List.mem_filter.mpr ⟨List.mem_append_right _ (List.mem_of_getElem? (l := tables_1) (i := 578) (by decide +kernel)), by decide +kernel⟩
set_option maxRecDepth 20000 in
theorem kkX7_51 : Cond.constant RX7 51 (100000 : Int32) ∈ gd := List.mem_filter.mpr ⟨List.mem_append_right _ (List.mem_of_getElem? (l := tables_1) (i := 580) (by decide +kernel)), by decide +kernel⟩
set_option maxRecDepth 20000 in
theorem kmX7_52 : Cond.methodLink RX7 52 yX5_length ∈ gd := List.mem_filter.mpr ⟨List.mem_append_right _ (List.mem_of_getElem? (l := tables_1) (i := 581) (by decide +kernel)), by decide +kernel⟩
set_option maxRecDepth 20000 in
theorem kc_X5_length : Cond.code yX5_length cX5_length 1 (some .int) ∈ gd := List.mem_filter.mpr ⟨List.mem_append_right _ (List.mem_of_getElem? (l := tables_1) (i := 584) (by decide +kernel)), by decide +kernel⟩
set_option maxRecDepth 20000 in
theorem cal_X5_length : CalOK yX5_length cX5_length 1 (some .int) 0 := ⟨kc_X5_length, ki_X5, by decide, by decide +kernel⟩
set_option maxRecDepth 20000 in
theorem kn_X5_length : Cond.instanceMethod yX5_length ∈ gd := List.mem_filter.mpr ⟨List.mem_append_right _ (List.mem_of_getElem? (l := tables_1) (i := 582) (by decide +kernel)), by decide +kernel⟩
set_option maxRecDepth 20000 in
theorem ks_X5_length : Cond.selects yX5_length.cls yX5_length yX5_length ∈ gd := List.mem_filter.mpr ⟨List.mem_append_right _ (List.mem_of_getElem? (l := tables_1) (i := 583) (by decide +kernel)), by decide +kernel⟩
set_option maxRecDepth 20000 in
theorem kmX7_58 : Cond.methodLink RX7 58 yX7_follow ∈ gd := List.mem_filter.mpr ⟨List.mem_append_right _ (List.mem_of_getElem? (l := tables_1) (i := 585) (by decide +kernel)), by decide +kernel⟩
set_option maxRecDepth 20000 in
theorem kc_X7_follow : Cond.code yX7_follow cX7_follow 5 (some .int) ∈ gd := List.mem_filter.mpr ⟨List.mem_append_right _ (List.mem_of_getElem? (l := tables_1) (i := 588) (by decide +kernel)), by decide +kernel⟩
set_option maxRecDepth 20000 in
theorem cal_X7_follow : CalOK yX7_follow cX7_follow 5 (some .int) 2 := ⟨kc_X7_follow, ki_X7, by decide, by decide +kernel⟩
set_option maxRecDepth 20000 in
theorem kn_X7_follow : Cond.instanceMethod yX7_follow ∈ gd := List.mem_filter.mpr ⟨List.mem_append_right _ (List.mem_of_getElem? (l := tables_1) (i := 587) (by decide +kernel)), by decide +kernel⟩
set_option maxRecDepth 20000 in
theorem ks_X7_follow : Cond.selects yX7_follow.cls yX7_follow yX7_follow ∈ gd := List.mem_filter.mpr ⟨List.mem_append_left _ (List.mem_of_getElem? (l := k2_sels lw_privs) (i := 6) (by decide +kernel)), by decide +kernel⟩
set_option maxRecDepth 20000 in
theorem kfX5_57 : Cond.fieldLink RX5 57 (clT 5 6).1 (clT 5 6).2.1 (clT 5 6).2.2.1 ∈ gd := List.mem_filter.mpr ⟨List.mem_append_right _ (List.mem_of_getElem? (l := tables_1) (i := 550) (by decide +kernel)), by decide +kernel⟩
set_option maxRecDepth 20000 in
theorem kfX5_60 : Cond.fieldLink RX5 60 (clT 5 7).1 (clT 5 7).2.1 (clT 5 7).2.2.1 ∈ gd := List.mem_filter.mpr ⟨List.mem_append_right _ (List.mem_of_getElem? (l := tables_1) (i := 553) (by decide +kernel)), by decide +kernel⟩
set_option maxRecDepth 20000 in
theorem kmX11_100 : Cond.methodLink RX11 100 yX11_checkPupil ∈ gd := List.mem_filter.mpr ⟨List.mem_append_right _ (List.mem_of_getElem? (l := tables_1) (i := 313) (by decide +kernel)), by decide +kernel⟩
set_option maxRecDepth 20000 in
theorem kc_X11_checkPupil : Cond.code yX11_checkPupil cX11_checkPupil 1 (none) ∈ gd := List.mem_filter.mpr ⟨List.mem_append_right _ (List.mem_of_getElem? (l := tables_1) (i := 315) (by decide +kernel)), by decide +kernel⟩
set_option maxRecDepth 20000 in
theorem cal_X11_checkPupil : CalOK yX11_checkPupil cX11_checkPupil 1 (none) 1 := ⟨kc_X11_checkPupil, ki_X11, by decide, by decide +kernel⟩
set_option maxRecDepth 20000 in
theorem kz_X11_checkPupil : Cond.static yX11_checkPupil ∈ gd := List.mem_filter.mpr ⟨List.mem_append_right _ (List.mem_of_getElem? (l := tables_1) (i := 314) (by decide +kernel)), by decide +kernel⟩
set_option maxRecDepth 20000 in
theorem kstr103 : (103, "the draft is empty, or a block is open") ∈ strW := List.mem_of_getElem? (i := 8) rfl
set_option maxRecDepth 20000 in
theorem kfX11_105 : Cond.fieldLink RX11 105 (clT 11 8).1 (clT 11 8).2.1 (clT 11 8).2.2.1 ∈ gd := List.mem_filter.mpr ⟨List.mem_append_right _ (List.mem_of_getElem? (l := tables_1) (i := 179) (by decide +kernel)), by decide +kernel⟩
set_option maxRecDepth 20000 in
theorem kstr109 : (109, "there are 30 programs") ∈ strW := List.mem_of_getElem? (i := 9) rfl
set_option maxRecDepth 20000 in
theorem kmX11_111 : Cond.methodLink RX11 111 yX5_init ∈ gd := List.mem_filter.mpr ⟨List.mem_append_right _ (List.mem_of_getElem? (l := tables_1) (i := 480) (by decide +kernel)), by decide +kernel⟩
set_option maxRecDepth 20000 in
theorem kc_X5_init : Cond.code yX5_init cX5_init 5 (none) ∈ gd := List.mem_filter.mpr ⟨List.mem_append_right _ (List.mem_of_getElem? (l := tables_1) (i := 482) (by decide +kernel)), by decide +kernel⟩
set_option maxRecDepth 20000 in
theorem cal_X5_init : CalOK yX5_init cX5_init 5 (none) 2 := ⟨kc_X5_init, ki_X5, by decide, by decide +kernel⟩
set_option maxRecDepth 20000 in
theorem kn_X5_init : Cond.instanceMethod yX5_init ∈ gd := List.mem_filter.mpr ⟨List.mem_append_right _ (List.mem_of_getElem? (l := tables_1) (i := 481) (by decide +kernel)), by decide +kernel⟩
set_option maxRecDepth 20000 in
theorem kfX11_114 : Cond.fieldLinkNest RX11 114 (clT 5 5).1 (clT 5 5).2.1 (clT 5 5).2.2.1 "TurtleChalk" ∈ nestW := List.mem_of_getElem? (i := 17) (by decide +kernel)
set_option maxRecDepth 20000 in
theorem kmX11_117 : Cond.methodLink RX11 117 yX7_perform ∈ gd := List.mem_filter.mpr ⟨List.mem_append_right _ (List.mem_of_getElem? (l := tables_1) (i := 572) (by decide +kernel)), by decide +kernel⟩
set_option maxRecDepth 20000 in
theorem kc_X7_perform : Cond.code yX7_perform cX7_perform 6 (none) ∈ gd := List.mem_filter.mpr ⟨List.mem_append_right _ (List.mem_of_getElem? (l := tables_1) (i := 575) (by decide +kernel)), by decide +kernel⟩
set_option maxRecDepth 20000 in
theorem cal_X7_perform : CalOK yX7_perform cX7_perform 6 (none) 3 := ⟨kc_X7_perform, ki_X7, by decide, by decide +kernel⟩
set_option maxRecDepth 20000 in
theorem kn_X7_perform : Cond.instanceMethod yX7_perform ∈ gd := List.mem_filter.mpr ⟨List.mem_append_right _ (List.mem_of_getElem? (l := tables_1) (i := 573) (by decide +kernel)), by decide +kernel⟩
set_option maxRecDepth 20000 in
theorem ks_X7_perform : Cond.selects yX7_perform.cls yX7_perform yX7_perform ∈ gd := List.mem_filter.mpr ⟨List.mem_append_right _ (List.mem_of_getElem? (l := tables_1) (i := 574) (by decide +kernel)), by decide +kernel⟩
set_option maxRecDepth 20000 in
theorem kmX11_121 : Cond.methodLink RX11 121 yX7_brokenBy ∈ gd := List.mem_filter.mpr ⟨List.mem_append_right _ (List.mem_of_getElem? (l := tables_1) (i := 673) (by decide +kernel)), by decide +kernel⟩
set_option maxRecDepth 20000 in
theorem kc_X7_brokenBy : Cond.code yX7_brokenBy cX7_brokenBy 1 (some .int) ∈ gd := List.mem_filter.mpr ⟨List.mem_append_right _ (List.mem_of_getElem? (l := tables_1) (i := 676) (by decide +kernel)), by decide +kernel⟩
set_option maxRecDepth 20000 in
theorem cal_X7_brokenBy : CalOK yX7_brokenBy cX7_brokenBy 1 (some .int) 0 := ⟨kc_X7_brokenBy, ki_X7, by decide, by decide +kernel⟩
set_option maxRecDepth 20000 in
theorem kn_X7_brokenBy : Cond.instanceMethod yX7_brokenBy ∈ gd := List.mem_filter.mpr ⟨List.mem_append_right _ (List.mem_of_getElem? (l := tables_1) (i := 674) (by decide +kernel)), by decide +kernel⟩
set_option maxRecDepth 20000 in
theorem ks_X7_brokenBy : Cond.selects yX7_brokenBy.cls yX7_brokenBy yX7_brokenBy ∈ gd := List.mem_filter.mpr ⟨List.mem_append_right _ (List.mem_of_getElem? (l := tables_1) (i := 675) (by decide +kernel)), by decide +kernel⟩
set_option maxRecDepth 20000 in
theorem kmX11_124 : Cond.methodLink RX11 124 yX7_counted ∈ gd := List.mem_filter.mpr ⟨List.mem_append_right _ (List.mem_of_getElem? (l := tables_1) (i := 677) (by decide +kernel)), by decide +kernel⟩
set_option maxRecDepth 20000 in
theorem kc_X7_counted : Cond.code yX7_counted cX7_counted 1 (some .int) ∈ gd := List.mem_filter.mpr ⟨List.mem_append_right _ (List.mem_of_getElem? (l := tables_1) (i := 680) (by decide +kernel)), by decide +kernel⟩
set_option maxRecDepth 20000 in
theorem cal_X7_counted : CalOK yX7_counted cX7_counted 1 (some .int) 0 := ⟨kc_X7_counted, ki_X7, by decide, by decide +kernel⟩
set_option maxRecDepth 20000 in
theorem kn_X7_counted : Cond.instanceMethod yX7_counted ∈ gd := List.mem_filter.mpr ⟨List.mem_append_right _ (List.mem_of_getElem? (l := tables_1) (i := 678) (by decide +kernel)), by decide +kernel⟩
set_option maxRecDepth 20000 in
theorem ks_X7_counted : Cond.selects yX7_counted.cls yX7_counted yX7_counted ∈ gd := List.mem_filter.mpr ⟨List.mem_append_right _ (List.mem_of_getElem? (l := tables_1) (i := 679) (by decide +kernel)), by decide +kernel⟩
set_option maxRecDepth 20000 in
theorem kmX11_127 : Cond.methodLink RX11 127 yX5_keepOutcome ∈ gd := List.mem_filter.mpr ⟨List.mem_append_right _ (List.mem_of_getElem? (l := tables_1) (i := 681) (by decide +kernel)), by decide +kernel⟩
set_option maxRecDepth 20000 in
theorem kc_X5_keepOutcome : Cond.code yX5_keepOutcome cX5_keepOutcome 3 (none) ∈ gd := List.mem_filter.mpr ⟨List.mem_append_right _ (List.mem_of_getElem? (l := tables_1) (i := 684) (by decide +kernel)), by decide +kernel⟩
set_option maxRecDepth 20000 in
theorem cal_X5_keepOutcome : CalOK yX5_keepOutcome cX5_keepOutcome 3 (none) 2 := ⟨kc_X5_keepOutcome, ki_X5, by decide, by decide +kernel⟩
set_option maxRecDepth 20000 in
theorem kn_X5_keepOutcome : Cond.instanceMethod yX5_keepOutcome ∈ gd := List.mem_filter.mpr ⟨List.mem_append_right _ (List.mem_of_getElem? (l := tables_1) (i := 682) (by decide +kernel)), by decide +kernel⟩
set_option maxRecDepth 20000 in
theorem ks_X5_keepOutcome : Cond.selects yX5_keepOutcome.cls yX5_keepOutcome yX5_keepOutcome ∈ gd := List.mem_filter.mpr ⟨List.mem_append_right _ (List.mem_of_getElem? (l := tables_1) (i := 683) (by decide +kernel)), by decide +kernel⟩
set_option maxRecDepth 20000 in
theorem kstr283 : (283, "there is no such program") ∈ strW := List.mem_of_getElem? (i := 10) rfl
set_option maxRecDepth 20000 in
theorem kstr270 : (270, "orders or steps is out of range") ∈ strW := List.mem_of_getElem? (i := 13) rfl
set_option maxRecDepth 20000 in
theorem kmX3_3 : Cond.methodLink RX3 3 Lib.objectInit ∈ gd := List.mem_filter.mpr ⟨List.mem_append_right _ (List.mem_of_getElem? (l := tables_1) (i := 737) (by decide +kernel)), by decide +kernel⟩
set_option maxRecDepth 20000 in
theorem kfX3_9 : Cond.fieldLink RX3 9 (clT 3 0).1 (clT 3 0).2.1 (clT 3 0).2.2.1 ∈ gd := List.mem_filter.mpr ⟨List.mem_append_right _ (List.mem_of_getElem? (l := tables_1) (i := 738) (by decide +kernel)), by decide +kernel⟩
set_option maxRecDepth 20000 in
theorem kfX3_15 : Cond.fieldLink RX3 15 (clT 3 1).1 (clT 3 1).2.1 (clT 3 1).2.2.1 ∈ gd := List.mem_filter.mpr ⟨List.mem_append_right _ (List.mem_of_getElem? (l := tables_1) (i := 739) (by decide +kernel)), by decide +kernel⟩
set_option maxRecDepth 20000 in
theorem kfX3_19 : Cond.fieldLink RX3 19 (clT 3 2).1 (clT 3 2).2.1 (clT 3 2).2.2.1 ∈ gd := List.mem_filter.mpr ⟨List.mem_append_right _ (List.mem_of_getElem? (l := tables_1) (i := 740) (by decide +kernel)), by decide +kernel⟩
set_option maxRecDepth 20000 in
theorem kmX11_131 : Cond.methodLink RX11 131 yX11_programAt ∈ gd := List.mem_filter.mpr ⟨List.mem_append_right _ (List.mem_of_getElem? (l := tables_1) (i := 692) (by decide +kernel)), by decide +kernel⟩
set_option maxRecDepth 20000 in
theorem kc_X11_programAt : Cond.code yX11_programAt cX11_programAt 3 (some (.object "TurtleChalk$Program")) ∈ gd := List.mem_filter.mpr ⟨List.mem_append_right _ (List.mem_of_getElem? (l := tables_1) (i := 695) (by decide +kernel)), by decide +kernel⟩
set_option maxRecDepth 20000 in
theorem cal_X11_programAt : CalOK yX11_programAt cX11_programAt 3 (some (.object "TurtleChalk$Program")) 1 := ⟨kc_X11_programAt, ki_X11, by decide, by decide +kernel⟩
set_option maxRecDepth 20000 in
theorem kn_X11_programAt : Cond.instanceMethod yX11_programAt ∈ gd := List.mem_filter.mpr ⟨List.mem_append_right _ (List.mem_of_getElem? (l := tables_1) (i := 694) (by decide +kernel)), by decide +kernel⟩
set_option maxRecDepth 20000 in
theorem ks_X11_programAt : Cond.selects yX11_programAt.cls yX11_programAt yX11_programAt ∈ gd := List.mem_filter.mpr ⟨List.mem_append_left _ (List.mem_of_getElem? (l := k2_sels lw_privs) (i := 19) (by decide +kernel)), by decide +kernel⟩
set_option maxRecDepth 20000 in
theorem kmX11_135 : Cond.methodLink RX11 135 yX11_checkAllowance ∈ gd := List.mem_filter.mpr ⟨List.mem_append_right _ (List.mem_of_getElem? (l := tables_1) (i := 728) (by decide +kernel)), by decide +kernel⟩
set_option maxRecDepth 20000 in
theorem kc_X11_checkAllowance : Cond.code yX11_checkAllowance cX11_checkAllowance 2 (none) ∈ gd := List.mem_filter.mpr ⟨List.mem_append_right _ (List.mem_of_getElem? (l := tables_1) (i := 730) (by decide +kernel)), by decide +kernel⟩
set_option maxRecDepth 20000 in
theorem cal_X11_checkAllowance : CalOK yX11_checkAllowance cX11_checkAllowance 2 (none) 2 := ⟨kc_X11_checkAllowance, ki_X11, by decide, by decide +kernel⟩
set_option maxRecDepth 20000 in
theorem kz_X11_checkAllowance : Cond.static yX11_checkAllowance ∈ gd := List.mem_filter.mpr ⟨List.mem_append_right _ (List.mem_of_getElem? (l := tables_1) (i := 729) (by decide +kernel)), by decide +kernel⟩
set_option maxRecDepth 20000 in
theorem kfX11_138 : Cond.fieldLink RX11 138 (clT 11 9).1 (clT 11 9).2.1 (clT 11 9).2.2.1 ∈ gd := List.mem_filter.mpr ⟨List.mem_append_right _ (List.mem_of_getElem? (l := tables_1) (i := 180) (by decide +kernel)), by decide +kernel⟩
set_option maxRecDepth 20000 in
theorem kstr141 : (141, "there are 6 exercises") ∈ strW := List.mem_of_getElem? (i := 14) rfl
set_option maxRecDepth 20000 in
theorem kmX11_143 : Cond.methodLink RX11 143 yX3_init ∈ gd := List.mem_filter.mpr ⟨List.mem_append_right _ (List.mem_of_getElem? (l := tables_1) (i := 734) (by decide +kernel)), by decide +kernel⟩
set_option maxRecDepth 20000 in
theorem kc_X3_init : Cond.code yX3_init cX3_init 4 (none) ∈ gd := List.mem_filter.mpr ⟨List.mem_append_right _ (List.mem_of_getElem? (l := tables_1) (i := 736) (by decide +kernel)), by decide +kernel⟩
set_option maxRecDepth 20000 in
theorem ki_X3 : Cond.initialized RX3 ∈ gd := List.mem_filter.mpr ⟨List.mem_append_right _ (List.mem_of_getElem? (l := tables_1) (i := 18) (by decide +kernel)), by decide +kernel⟩
set_option maxRecDepth 20000 in
theorem cal_X3_init : CalOK yX3_init cX3_init 4 (none) 3 := ⟨kc_X3_init, ki_X3, by decide, by decide +kernel⟩
set_option maxRecDepth 20000 in
theorem kn_X3_init : Cond.instanceMethod yX3_init ∈ gd := List.mem_filter.mpr ⟨List.mem_append_right _ (List.mem_of_getElem? (l := tables_1) (i := 735) (by decide +kernel)), by decide +kernel⟩
set_option maxRecDepth 20000 in
theorem kstr285 : (285, "there is no such exercise") ∈ strW := List.mem_of_getElem? (i := 15) rfl
set_option maxRecDepth 20000 in
theorem kmX2_42 : Cond.methodLink RX2 42 yX2_rowInCorner ∈ gd := List.mem_filter.mpr ⟨List.mem_append_right _ (List.mem_of_getElem? (l := tables_1) (i := 762) (by decide +kernel)), by decide +kernel⟩
set_option maxRecDepth 20000 in
theorem kc_X2_rowInCorner : Cond.code yX2_rowInCorner cX2_rowInCorner 4 (some .int) ∈ gd := List.mem_filter.mpr ⟨List.mem_append_right _ (List.mem_of_getElem? (l := tables_1) (i := 765) (by decide +kernel)), by decide +kernel⟩
set_option maxRecDepth 20000 in
theorem cal_X2_rowInCorner : CalOK yX2_rowInCorner cX2_rowInCorner 4 (some .int) 2 := ⟨kc_X2_rowInCorner, ki_X2, by decide, by decide +kernel⟩
set_option maxRecDepth 20000 in
theorem kn_X2_rowInCorner : Cond.instanceMethod yX2_rowInCorner ∈ gd := List.mem_filter.mpr ⟨List.mem_append_right _ (List.mem_of_getElem? (l := tables_1) (i := 764) (by decide +kernel)), by decide +kernel⟩
set_option maxRecDepth 20000 in
theorem ks_X2_rowInCorner : Cond.selects yX2_rowInCorner.cls yX2_rowInCorner yX2_rowInCorner ∈ gd := List.mem_filter.mpr ⟨List.mem_append_left _ (List.mem_of_getElem? (l := k2_sels lw_privs) (i := 20) (by decide +kernel)), by decide +kernel⟩
set_option maxRecDepth 20000 in
theorem kfX3_22 : Cond.fieldLinkNest RX3 22 (clT 5 6).1 (clT 5 6).2.1 (clT 5 6).2.2.1 "TurtleChalk" ∈ nestW := List.mem_of_getElem? (i := 18) (by decide +kernel)
set_option maxRecDepth 20000 in
theorem kmX3_27 : Cond.methodLink RX3 27 yX5_length ∈ gd := List.mem_filter.mpr ⟨List.mem_append_right _ (List.mem_of_getElem? (l := tables_1) (i := 795) (by decide +kernel)), by decide +kernel⟩
set_option maxRecDepth 20000 in
theorem kfX3_31 : Cond.fieldLinkNest RX3 31 (clT 5 7).1 (clT 5 7).2.1 (clT 5 7).2.2.1 "TurtleChalk" ∈ nestW := List.mem_of_getElem? (i := 20) (by decide +kernel)
set_option maxRecDepth 20000 in
theorem kfX3_34 : Cond.fieldLinkNest RX3 34 (clT 5 5).1 (clT 5 5).2.1 (clT 5 5).2.2.1 "TurtleChalk" ∈ nestW := List.mem_of_getElem? (i := 14) (by decide +kernel)
set_option maxRecDepth 20000 in
theorem kmX3_38 : Cond.methodLink RX3 38 yX2_isShiftOf ∈ gd := List.mem_filter.mpr ⟨List.mem_append_right _ (List.mem_of_getElem? (l := tables_1) (i := 796) (by decide +kernel)), by decide +kernel⟩
set_option maxRecDepth 20000 in
theorem kc_X2_isShiftOf : Cond.code yX2_isShiftOf cX2_isShiftOf 3 (some .boolean) ∈ gd := List.mem_filter.mpr ⟨List.mem_append_right _ (List.mem_of_getElem? (l := tables_1) (i := 761) (by decide +kernel)), by decide +kernel⟩
set_option maxRecDepth 20000 in
theorem cal_X2_isShiftOf : CalOK yX2_isShiftOf cX2_isShiftOf 3 (some .boolean) 1 := ⟨kc_X2_isShiftOf, ki_X2, by decide, by decide +kernel⟩
set_option maxRecDepth 20000 in
theorem kn_X2_isShiftOf : Cond.instanceMethod yX2_isShiftOf ∈ gd := List.mem_filter.mpr ⟨List.mem_append_right _ (List.mem_of_getElem? (l := tables_1) (i := 759) (by decide +kernel)), by decide +kernel⟩
set_option maxRecDepth 20000 in
theorem ks_X2_isShiftOf : Cond.selects yX2_isShiftOf.cls yX2_isShiftOf yX2_isShiftOf ∈ gd := List.mem_filter.mpr ⟨List.mem_append_right _ (List.mem_of_getElem? (l := tables_1) (i := 760) (by decide +kernel)), by decide +kernel⟩
set_option maxRecDepth 20000 in
theorem kfX10_15 : Cond.fieldLink RX10 15 (clT 10 1).1 (clT 10 1).2.1 (clT 10 1).2.2.1 ∈ gd := List.mem_filter.mpr ⟨List.mem_append_right _ (List.mem_of_getElem? (l := tables_1) (i := 847) (by decide +kernel)), by decide +kernel⟩
set_option maxRecDepth 20000 in
theorem kfX10_9 : Cond.fieldLink RX10 9 (clT 10 0).1 (clT 10 0).2.1 (clT 10 0).2.2.1 ∈ gd := List.mem_filter.mpr ⟨List.mem_append_right _ (List.mem_of_getElem? (l := tables_1) (i := 844) (by decide +kernel)), by decide +kernel⟩
set_option maxRecDepth 20000 in
theorem kmX10_23 : Cond.methodLink RX10 23 yX3_isMetBy ∈ gd := List.mem_filter.mpr ⟨List.mem_append_right _ (List.mem_of_getElem? (l := tables_1) (i := 791) (by decide +kernel)), by decide +kernel⟩
set_option maxRecDepth 20000 in
theorem kc_X3_isMetBy : Cond.code yX3_isMetBy cX3_isMetBy 2 (some .boolean) ∈ gd := List.mem_filter.mpr ⟨List.mem_append_right _ (List.mem_of_getElem? (l := tables_1) (i := 794) (by decide +kernel)), by decide +kernel⟩
set_option maxRecDepth 20000 in
theorem cal_X3_isMetBy : CalOK yX3_isMetBy cX3_isMetBy 2 (some .boolean) 1 := ⟨kc_X3_isMetBy, ki_X3, by decide, by decide +kernel⟩
set_option maxRecDepth 20000 in
theorem kn_X3_isMetBy : Cond.instanceMethod yX3_isMetBy ∈ gd := List.mem_filter.mpr ⟨List.mem_append_right _ (List.mem_of_getElem? (l := tables_1) (i := 792) (by decide +kernel)), by decide +kernel⟩
set_option maxRecDepth 20000 in
theorem ks_X3_isMetBy : Cond.selects yX3_isMetBy.cls yX3_isMetBy yX3_isMetBy ∈ gd := List.mem_filter.mpr ⟨List.mem_append_right _ (List.mem_of_getElem? (l := tables_1) (i := 793) (by decide +kernel)), by decide +kernel⟩
set_option maxRecDepth 20000 in
theorem kfX10_19 : Cond.fieldLink RX10 19 (clT 10 2).1 (clT 10 2).2.1 (clT 10 2).2.2.1 ∈ gd := List.mem_filter.mpr ⟨List.mem_append_right _ (List.mem_of_getElem? (l := tables_1) (i := 849) (by decide +kernel)), by decide +kernel⟩
set_option maxRecDepth 20000 in
theorem kfX10_29 : Cond.fieldLink RX10 29 (clT 10 3).1 (clT 10 3).2.1 (clT 10 3).2.2.1 ∈ gd := List.mem_filter.mpr ⟨List.mem_append_right _ (List.mem_of_getElem? (l := tables_1) (i := 851) (by decide +kernel)), by decide +kernel⟩
set_option maxRecDepth 20000 in
theorem kfX10_36 : Cond.fieldLink RX10 36 (clT 10 5).1 (clT 10 5).2.1 (clT 10 5).2.2.1 ∈ gd := List.mem_filter.mpr ⟨List.mem_append_right _ (List.mem_of_getElem? (l := tables_1) (i := 855) (by decide +kernel)), by decide +kernel⟩
set_option maxRecDepth 20000 in
theorem kfX10_51 : Cond.fieldLink RX10 51 (clT 10 6).1 (clT 10 6).2.1 (clT 10 6).2.2.1 ∈ gd := List.mem_filter.mpr ⟨List.mem_append_right _ (List.mem_of_getElem? (l := tables_1) (i := 857) (by decide +kernel)), by decide +kernel⟩
set_option maxRecDepth 20000 in
theorem kfX10_33 : Cond.fieldLink RX10 33 (clT 10 4).1 (clT 10 4).2.1 (clT 10 4).2.2.1 ∈ gd := List.mem_filter.mpr ⟨List.mem_append_right _ (List.mem_of_getElem? (l := tables_1) (i := 853) (by decide +kernel)), by decide +kernel⟩
set_option maxRecDepth 20000 in
theorem kfX9_22 : Cond.fieldLinkNest RX9 22 (clT 10 0).1 (clT 10 0).2.1 (clT 10 0).2.2.1 "TurtleChalk" ∈ nestW := List.mem_of_getElem? (i := 24) (by decide +kernel)
set_option maxRecDepth 20000 in
theorem kfX9_28 : Cond.fieldLinkNest RX9 28 (clT 5 5).1 (clT 5 5).2.1 (clT 5 5).2.2.1 "TurtleChalk" ∈ nestW := List.mem_of_getElem? (i := 16) (by decide +kernel)
set_option maxRecDepth 20000 in
theorem kmX9_34 : Cond.methodLink RX9 34 yX2_cellsWide ∈ gd := List.mem_filter.mpr ⟨List.mem_append_right _ (List.mem_of_getElem? (l := tables_1) (i := 805) (by decide +kernel)), by decide +kernel⟩
set_option maxRecDepth 20000 in
theorem kc_X2_cellsWide : Cond.code yX2_cellsWide cX2_cellsWide 1 (some .int) ∈ gd := List.mem_filter.mpr ⟨List.mem_append_right _ (List.mem_of_getElem? (l := tables_1) (i := 304) (by decide +kernel)), by decide +kernel⟩
set_option maxRecDepth 20000 in
theorem cal_X2_cellsWide : CalOK yX2_cellsWide cX2_cellsWide 1 (some .int) 0 := ⟨kc_X2_cellsWide, ki_X2, by decide, by decide +kernel⟩
set_option maxRecDepth 20000 in
theorem kn_X2_cellsWide : Cond.instanceMethod yX2_cellsWide ∈ gd := List.mem_filter.mpr ⟨List.mem_append_right _ (List.mem_of_getElem? (l := tables_1) (i := 302) (by decide +kernel)), by decide +kernel⟩
set_option maxRecDepth 20000 in
theorem ks_X2_cellsWide : Cond.selects yX2_cellsWide.cls yX2_cellsWide yX2_cellsWide ∈ gd := List.mem_filter.mpr ⟨List.mem_append_right _ (List.mem_of_getElem? (l := tables_1) (i := 303) (by decide +kernel)), by decide +kernel⟩
set_option maxRecDepth 20000 in
theorem kmX9_40 : Cond.methodLink RX9 40 yX2_cellsHigh ∈ gd := List.mem_filter.mpr ⟨List.mem_append_right _ (List.mem_of_getElem? (l := tables_1) (i := 806) (by decide +kernel)), by decide +kernel⟩
set_option maxRecDepth 20000 in
theorem kc_X2_cellsHigh : Cond.code yX2_cellsHigh cX2_cellsHigh 1 (some .int) ∈ gd := List.mem_filter.mpr ⟨List.mem_append_right _ (List.mem_of_getElem? (l := tables_1) (i := 308) (by decide +kernel)), by decide +kernel⟩
set_option maxRecDepth 20000 in
theorem cal_X2_cellsHigh : CalOK yX2_cellsHigh cX2_cellsHigh 1 (some .int) 0 := ⟨kc_X2_cellsHigh, ki_X2, by decide, by decide +kernel⟩
set_option maxRecDepth 20000 in
theorem kn_X2_cellsHigh : Cond.instanceMethod yX2_cellsHigh ∈ gd := List.mem_filter.mpr ⟨List.mem_append_right _ (List.mem_of_getElem? (l := tables_1) (i := 306) (by decide +kernel)), by decide +kernel⟩
set_option maxRecDepth 20000 in
theorem ks_X2_cellsHigh : Cond.selects yX2_cellsHigh.cls yX2_cellsHigh yX2_cellsHigh ∈ gd := List.mem_filter.mpr ⟨List.mem_append_right _ (List.mem_of_getElem? (l := tables_1) (i := 307) (by decide +kernel)), by decide +kernel⟩
set_option maxRecDepth 20000 in
theorem kmX9_43 : Cond.methodLink RX9 43 yX9_takenFrom ∈ gd := List.mem_filter.mpr ⟨List.mem_append_right _ (List.mem_of_getElem? (l := tables_1) (i := 807) (by decide +kernel)), by decide +kernel⟩
set_option maxRecDepth 20000 in
theorem kc_X9_takenFrom : Cond.code yX9_takenFrom cX9_takenFrom 6 (some .long) ∈ gd := List.mem_filter.mpr ⟨List.mem_append_right _ (List.mem_of_getElem? (l := tables_1) (i := 810) (by decide +kernel)), by decide +kernel⟩
set_option maxRecDepth 20000 in
theorem cal_X9_takenFrom : CalOK yX9_takenFrom cX9_takenFrom 6 (some .long) 2 := ⟨kc_X9_takenFrom, ki_X9, by decide, by decide +kernel⟩
set_option maxRecDepth 20000 in
theorem kn_X9_takenFrom : Cond.instanceMethod yX9_takenFrom ∈ gd := List.mem_filter.mpr ⟨List.mem_append_right _ (List.mem_of_getElem? (l := tables_1) (i := 809) (by decide +kernel)), by decide +kernel⟩
set_option maxRecDepth 20000 in
theorem ks_X9_takenFrom : Cond.selects yX9_takenFrom.cls yX9_takenFrom yX9_takenFrom ∈ gd := List.mem_filter.mpr ⟨List.mem_append_left _ (List.mem_of_getElem? (l := k2_sels lw_privs) (i := 23) (by decide +kernel)), by decide +kernel⟩
set_option maxRecDepth 20000 in
theorem kmX9_47 : Cond.methodLink RX9 47 yX9_firstFree ∈ gd := List.mem_filter.mpr ⟨List.mem_append_right _ (List.mem_of_getElem? (l := tables_1) (i := 811) (by decide +kernel)), by decide +kernel⟩
set_option maxRecDepth 20000 in
theorem kc_X9_firstFree : Cond.code yX9_firstFree cX9_firstFree 6 (some .int) ∈ gd := List.mem_filter.mpr ⟨List.mem_append_right _ (List.mem_of_getElem? (l := tables_1) (i := 813) (by decide +kernel)), by decide +kernel⟩
set_option maxRecDepth 20000 in
theorem cal_X9_firstFree : CalOK yX9_firstFree cX9_firstFree 6 (some .int) 3 := ⟨kc_X9_firstFree, ki_X9, by decide, by decide +kernel⟩
set_option maxRecDepth 20000 in
theorem kz_X9_firstFree : Cond.static yX9_firstFree ∈ gd := List.mem_filter.mpr ⟨List.mem_append_right _ (List.mem_of_getElem? (l := tables_1) (i := 812) (by decide +kernel)), by decide +kernel⟩
set_option maxRecDepth 20000 in
theorem kmX9_51 : Cond.methodLink RX9 51 yX9_take ∈ gd := List.mem_filter.mpr ⟨List.mem_append_right _ (List.mem_of_getElem? (l := tables_1) (i := 814) (by decide +kernel)), by decide +kernel⟩
set_option maxRecDepth 20000 in
theorem kc_X9_take : Cond.code yX9_take cX9_take 6 (none) ∈ gd := List.mem_filter.mpr ⟨List.mem_append_right _ (List.mem_of_getElem? (l := tables_1) (i := 817) (by decide +kernel)), by decide +kernel⟩
set_option maxRecDepth 20000 in
theorem cal_X9_take : CalOK yX9_take cX9_take 6 (none) 3 := ⟨kc_X9_take, ki_X9, by decide, by decide +kernel⟩
set_option maxRecDepth 20000 in
theorem kn_X9_take : Cond.instanceMethod yX9_take ∈ gd := List.mem_filter.mpr ⟨List.mem_append_right _ (List.mem_of_getElem? (l := tables_1) (i := 816) (by decide +kernel)), by decide +kernel⟩
set_option maxRecDepth 20000 in
theorem ks_X9_take : Cond.selects yX9_take.cls yX9_take yX9_take ∈ gd := List.mem_filter.mpr ⟨List.mem_append_left _ (List.mem_of_getElem? (l := k2_sels lw_privs) (i := 24) (by decide +kernel)), by decide +kernel⟩
set_option maxRecDepth 20000 in
theorem kmX9_55 : Cond.methodLink RX9 55 yX10_hangAt ∈ gd := List.mem_filter.mpr ⟨List.mem_append_right _ (List.mem_of_getElem? (l := tables_1) (i := 818) (by decide +kernel)), by decide +kernel⟩
set_option maxRecDepth 20000 in
theorem kc_X10_hangAt : Cond.code yX10_hangAt cX10_hangAt 3 (none) ∈ gd := List.mem_filter.mpr ⟨List.mem_append_right _ (List.mem_of_getElem? (l := tables_1) (i := 821) (by decide +kernel)), by decide +kernel⟩
set_option maxRecDepth 20000 in
theorem ki_X10 : Cond.initialized RX10 ∈ gd := List.mem_filter.mpr ⟨List.mem_append_right _ (List.mem_of_getElem? (l := tables_1) (i := 19) (by decide +kernel)), by decide +kernel⟩
set_option maxRecDepth 20000 in
theorem cal_X10_hangAt : CalOK yX10_hangAt cX10_hangAt 3 (none) 2 := ⟨kc_X10_hangAt, ki_X10, by decide, by decide +kernel⟩
set_option maxRecDepth 20000 in
theorem kn_X10_hangAt : Cond.instanceMethod yX10_hangAt ∈ gd := List.mem_filter.mpr ⟨List.mem_append_right _ (List.mem_of_getElem? (l := tables_1) (i := 819) (by decide +kernel)), by decide +kernel⟩
set_option maxRecDepth 20000 in
theorem ks_X10_hangAt : Cond.selects yX10_hangAt.cls yX10_hangAt yX10_hangAt ∈ gd := List.mem_filter.mpr ⟨List.mem_append_right _ (List.mem_of_getElem? (l := tables_1) (i := 820) (by decide +kernel)), by decide +kernel⟩
set_option maxRecDepth 20000 in
theorem kmX11_293 : Cond.methodLink RX11 293 yX9_makeEmpty ∈ gd := List.mem_filter.mpr ⟨List.mem_append_right _ (List.mem_of_getElem? (l := tables_1) (i := 783) (by decide +kernel)), by decide +kernel⟩
set_option maxRecDepth 20000 in
theorem kc_X9_makeEmpty : Cond.code yX9_makeEmpty cX9_makeEmpty 2 (none) ∈ gd := List.mem_filter.mpr ⟨List.mem_append_right _ (List.mem_of_getElem? (l := tables_1) (i := 786) (by decide +kernel)), by decide +kernel⟩
set_option maxRecDepth 20000 in
theorem cal_X9_makeEmpty : CalOK yX9_makeEmpty cX9_makeEmpty 2 (none) 0 := ⟨kc_X9_makeEmpty, ki_X9, by decide, by decide +kernel⟩
set_option maxRecDepth 20000 in
theorem kn_X9_makeEmpty : Cond.instanceMethod yX9_makeEmpty ∈ gd := List.mem_filter.mpr ⟨List.mem_append_right _ (List.mem_of_getElem? (l := tables_1) (i := 784) (by decide +kernel)), by decide +kernel⟩
set_option maxRecDepth 20000 in
theorem ks_X9_makeEmpty : Cond.selects yX9_makeEmpty.cls yX9_makeEmpty yX9_makeEmpty ∈ gd := List.mem_filter.mpr ⟨List.mem_append_right _ (List.mem_of_getElem? (l := tables_1) (i := 785) (by decide +kernel)), by decide +kernel⟩
set_option maxRecDepth 20000 in
theorem kfX11_160 : Cond.fieldLink RX11 160 (clT 11 10).1 (clT 11 10).2.1 (clT 11 10).2.2.1 ∈ gd := List.mem_filter.mpr ⟨List.mem_append_right _ (List.mem_of_getElem? (l := tables_1) (i := 181) (by decide +kernel)), by decide +kernel⟩
set_option maxRecDepth 20000 in
theorem kfX11_237 : Cond.fieldLinkNest RX11 237 (clT 10 4).1 (clT 10 4).2.1 (clT 10 4).2.2.1 "TurtleChalk" ∈ nestW := List.mem_of_getElem? (i := 29) (by decide +kernel)
set_option maxRecDepth 20000 in
theorem kmX11_230 : Cond.methodLink RX11 230 yX10_meetsExercise ∈ gd := List.mem_filter.mpr ⟨List.mem_append_right _ (List.mem_of_getElem? (l := tables_1) (i := 787) (by decide +kernel)), by decide +kernel⟩
set_option maxRecDepth 20000 in
theorem kc_X10_meetsExercise : Cond.code yX10_meetsExercise cX10_meetsExercise 1 (some .boolean) ∈ gd := List.mem_filter.mpr ⟨List.mem_append_right _ (List.mem_of_getElem? (l := tables_1) (i := 790) (by decide +kernel)), by decide +kernel⟩
set_option maxRecDepth 20000 in
theorem cal_X10_meetsExercise : CalOK yX10_meetsExercise cX10_meetsExercise 1 (some .boolean) 0 := ⟨kc_X10_meetsExercise, ki_X10, by decide, by decide +kernel⟩
set_option maxRecDepth 20000 in
theorem kn_X10_meetsExercise : Cond.instanceMethod yX10_meetsExercise ∈ gd := List.mem_filter.mpr ⟨List.mem_append_right _ (List.mem_of_getElem? (l := tables_1) (i := 788) (by decide +kernel)), by decide +kernel⟩
set_option maxRecDepth 20000 in
theorem ks_X10_meetsExercise : Cond.selects yX10_meetsExercise.cls yX10_meetsExercise yX10_meetsExercise ∈ gd := List.mem_filter.mpr ⟨List.mem_append_right _ (List.mem_of_getElem? (l := tables_1) (i := 789) (by decide +kernel)), by decide +kernel⟩
set_option maxRecDepth 20000 in
theorem kmX11_294 : Cond.methodLink RX11 294 yX10_isInDoubt ∈ gd := List.mem_filter.mpr ⟨List.mem_append_right _ (List.mem_of_getElem? (l := tables_1) (i := 797) (by decide +kernel)), by decide +kernel⟩
set_option maxRecDepth 20000 in
theorem kc_X10_isInDoubt : Cond.code yX10_isInDoubt cX10_isInDoubt 1 (some .boolean) ∈ gd := List.mem_filter.mpr ⟨List.mem_append_right _ (List.mem_of_getElem? (l := tables_1) (i := 800) (by decide +kernel)), by decide +kernel⟩
set_option maxRecDepth 20000 in
theorem cal_X10_isInDoubt : CalOK yX10_isInDoubt cX10_isInDoubt 1 (some .boolean) 0 := ⟨kc_X10_isInDoubt, ki_X10, by decide, by decide +kernel⟩
set_option maxRecDepth 20000 in
theorem kn_X10_isInDoubt : Cond.instanceMethod yX10_isInDoubt ∈ gd := List.mem_filter.mpr ⟨List.mem_append_right _ (List.mem_of_getElem? (l := tables_1) (i := 798) (by decide +kernel)), by decide +kernel⟩
set_option maxRecDepth 20000 in
theorem ks_X10_isInDoubt : Cond.selects yX10_isInDoubt.cls yX10_isInDoubt yX10_isInDoubt ∈ gd := List.mem_filter.mpr ⟨List.mem_append_right _ (List.mem_of_getElem? (l := tables_1) (i := 799) (by decide +kernel)), by decide +kernel⟩
set_option maxRecDepth 20000 in
theorem kmX11_297 : Cond.methodLink RX11 297 yX9_place ∈ gd := List.mem_filter.mpr ⟨List.mem_append_right _ (List.mem_of_getElem? (l := tables_1) (i := 801) (by decide +kernel)), by decide +kernel⟩
set_option maxRecDepth 20000 in
theorem kc_X9_place : Cond.code yX9_place cX9_place 8 (none) ∈ gd := List.mem_filter.mpr ⟨List.mem_append_right _ (List.mem_of_getElem? (l := tables_1) (i := 804) (by decide +kernel)), by decide +kernel⟩
set_option maxRecDepth 20000 in
theorem cal_X9_place : CalOK yX9_place cX9_place 8 (none) 1 := ⟨kc_X9_place, ki_X9, by decide, by decide +kernel⟩
set_option maxRecDepth 20000 in
theorem kn_X9_place : Cond.instanceMethod yX9_place ∈ gd := List.mem_filter.mpr ⟨List.mem_append_right _ (List.mem_of_getElem? (l := tables_1) (i := 802) (by decide +kernel)), by decide +kernel⟩
set_option maxRecDepth 20000 in
theorem ks_X9_place : Cond.selects yX9_place.cls yX9_place yX9_place ∈ gd := List.mem_filter.mpr ⟨List.mem_append_right _ (List.mem_of_getElem? (l := tables_1) (i := 803) (by decide +kernel)), by decide +kernel⟩
set_option maxRecDepth 20000 in
theorem kfX11_289 : Cond.fieldLinkNest RX11 289 (clT 10 1).1 (clT 10 1).2.1 (clT 10 1).2.2.1 "TurtleChalk" ∈ nestW := List.mem_of_getElem? (i := 26) (by decide +kernel)
set_option maxRecDepth 20000 in
theorem kmX11_146 : Cond.methodLink RX11 146 yX11_exerciseAt ∈ gd := List.mem_filter.mpr ⟨List.mem_append_right _ (List.mem_of_getElem? (l := tables_1) (i := 770) (by decide +kernel)), by decide +kernel⟩
set_option maxRecDepth 20000 in
theorem kc_X11_exerciseAt : Cond.code yX11_exerciseAt cX11_exerciseAt 3 (some (.object "TurtleChalk$Exercise")) ∈ gd := List.mem_filter.mpr ⟨List.mem_append_right _ (List.mem_of_getElem? (l := tables_1) (i := 773) (by decide +kernel)), by decide +kernel⟩
set_option maxRecDepth 20000 in
theorem cal_X11_exerciseAt : CalOK yX11_exerciseAt cX11_exerciseAt 3 (some (.object "TurtleChalk$Exercise")) 1 := ⟨kc_X11_exerciseAt, ki_X11, by decide, by decide +kernel⟩
set_option maxRecDepth 20000 in
theorem kn_X11_exerciseAt : Cond.instanceMethod yX11_exerciseAt ∈ gd := List.mem_filter.mpr ⟨List.mem_append_right _ (List.mem_of_getElem? (l := tables_1) (i := 772) (by decide +kernel)), by decide +kernel⟩
set_option maxRecDepth 20000 in
theorem ks_X11_exerciseAt : Cond.selects yX11_exerciseAt.cls yX11_exerciseAt yX11_exerciseAt ∈ gd := List.mem_filter.mpr ⟨List.mem_append_left _ (List.mem_of_getElem? (l := k2_sels lw_privs) (i := 21) (by decide +kernel)), by decide +kernel⟩
set_option maxRecDepth 20000 in
theorem kmX11_150 : Cond.methodLink RX11 150 yX3_allowAtMost ∈ gd := List.mem_filter.mpr ⟨List.mem_append_right _ (List.mem_of_getElem? (l := tables_1) (i := 775) (by decide +kernel)), by decide +kernel⟩
set_option maxRecDepth 20000 in
theorem kc_X3_allowAtMost : Cond.code yX3_allowAtMost cX3_allowAtMost 3 (none) ∈ gd := List.mem_filter.mpr ⟨List.mem_append_right _ (List.mem_of_getElem? (l := tables_1) (i := 778) (by decide +kernel)), by decide +kernel⟩
set_option maxRecDepth 20000 in
theorem cal_X3_allowAtMost : CalOK yX3_allowAtMost cX3_allowAtMost 3 (none) 2 := ⟨kc_X3_allowAtMost, ki_X3, by decide, by decide +kernel⟩
set_option maxRecDepth 20000 in
theorem kn_X3_allowAtMost : Cond.instanceMethod yX3_allowAtMost ∈ gd := List.mem_filter.mpr ⟨List.mem_append_right _ (List.mem_of_getElem? (l := tables_1) (i := 776) (by decide +kernel)), by decide +kernel⟩
set_option maxRecDepth 20000 in
theorem ks_X3_allowAtMost : Cond.selects yX3_allowAtMost.cls yX3_allowAtMost yX3_allowAtMost ∈ gd := List.mem_filter.mpr ⟨List.mem_append_right _ (List.mem_of_getElem? (l := tables_1) (i := 777) (by decide +kernel)), by decide +kernel⟩
set_option maxRecDepth 20000 in
theorem kmX11_153 : Cond.methodLink RX11 153 yX11_layWall ∈ gd := List.mem_filter.mpr ⟨List.mem_append_right _ (List.mem_of_getElem? (l := tables_1) (i := 779) (by decide +kernel)), by decide +kernel⟩
set_option maxRecDepth 20000 in
theorem kc_X11_layWall : Cond.code yX11_layWall cX11_layWall 3 (none) ∈ gd := List.mem_filter.mpr ⟨List.mem_append_right _ (List.mem_of_getElem? (l := tables_1) (i := 782) (by decide +kernel)), by decide +kernel⟩
set_option maxRecDepth 20000 in
theorem cal_X11_layWall : CalOK yX11_layWall cX11_layWall 3 (none) 0 := ⟨kc_X11_layWall, ki_X11, by decide, by decide +kernel⟩
set_option maxRecDepth 20000 in
theorem kn_X11_layWall : Cond.instanceMethod yX11_layWall ∈ gd := List.mem_filter.mpr ⟨List.mem_append_right _ (List.mem_of_getElem? (l := tables_1) (i := 781) (by decide +kernel)), by decide +kernel⟩
set_option maxRecDepth 20000 in
theorem ks_X11_layWall : Cond.selects yX11_layWall.cls yX11_layWall yX11_layWall ∈ gd := List.mem_filter.mpr ⟨List.mem_append_left _ (List.mem_of_getElem? (l := k2_sels lw_privs) (i := 22) (by decide +kernel)), by decide +kernel⟩
set_option maxRecDepth 20000 in
theorem kmX11_156 : Cond.methodLink RX11 156 yX11_countMeeting ∈ gd := List.mem_filter.mpr ⟨List.mem_append_right _ (List.mem_of_getElem? (l := tables_1) (i := 822) (by decide +kernel)), by decide +kernel⟩
set_option maxRecDepth 20000 in
theorem kc_X11_countMeeting : Cond.code yX11_countMeeting cX11_countMeeting 5 (some .int) ∈ gd := List.mem_filter.mpr ⟨List.mem_append_right _ (List.mem_of_getElem? (l := tables_1) (i := 825) (by decide +kernel)), by decide +kernel⟩
set_option maxRecDepth 20000 in
theorem cal_X11_countMeeting : CalOK yX11_countMeeting cX11_countMeeting 5 (some .int) 1 := ⟨kc_X11_countMeeting, ki_X11, by decide, by decide +kernel⟩
set_option maxRecDepth 20000 in
theorem kn_X11_countMeeting : Cond.instanceMethod yX11_countMeeting ∈ gd := List.mem_filter.mpr ⟨List.mem_append_right _ (List.mem_of_getElem? (l := tables_1) (i := 824) (by decide +kernel)), by decide +kernel⟩
set_option maxRecDepth 20000 in
theorem ks_X11_countMeeting : Cond.selects yX11_countMeeting.cls yX11_countMeeting yX11_countMeeting ∈ gd := List.mem_filter.mpr ⟨List.mem_append_left _ (List.mem_of_getElem? (l := k2_sels lw_privs) (i := 25) (by decide +kernel)), by decide +kernel⟩
set_option maxRecDepth 20000 in
theorem kfX11_255 : Cond.fieldLinkNest RX11 255 (clT 10 0).1 (clT 10 0).2.1 (clT 10 0).2.2.1 "TurtleChalk" ∈ nestW := List.mem_of_getElem? (i := 25) (by decide +kernel)
set_option maxRecDepth 20000 in
theorem kfX11_259 : Cond.fieldLinkNest RX11 259 (clT 5 0).1 (clT 5 0).2.1 (clT 5 0).2.2.1 "TurtleChalk" ∈ nestW := List.mem_of_getElem? (i := 12) (by decide +kernel)
set_option maxRecDepth 20000 in
theorem kmX11_217 : Cond.methodLink RX11 217 yX5_hasFormOf ∈ gd := List.mem_filter.mpr ⟨List.mem_append_right _ (List.mem_of_getElem? (l := tables_1) (i := 836) (by decide +kernel)), by decide +kernel⟩
set_option maxRecDepth 20000 in
theorem kc_X5_hasFormOf : Cond.code yX5_hasFormOf cX5_hasFormOf 3 (some .boolean) ∈ gd := List.mem_filter.mpr ⟨List.mem_append_right _ (List.mem_of_getElem? (l := tables_1) (i := 839) (by decide +kernel)), by decide +kernel⟩
set_option maxRecDepth 20000 in
theorem cal_X5_hasFormOf : CalOK yX5_hasFormOf cX5_hasFormOf 3 (some .boolean) 1 := ⟨kc_X5_hasFormOf, ki_X5, by decide, by decide +kernel⟩
set_option maxRecDepth 20000 in
theorem kn_X5_hasFormOf : Cond.instanceMethod yX5_hasFormOf ∈ gd := List.mem_filter.mpr ⟨List.mem_append_right _ (List.mem_of_getElem? (l := tables_1) (i := 837) (by decide +kernel)), by decide +kernel⟩
set_option maxRecDepth 20000 in
theorem ks_X5_hasFormOf : Cond.selects yX5_hasFormOf.cls yX5_hasFormOf yX5_hasFormOf ∈ gd := List.mem_filter.mpr ⟨List.mem_append_right _ (List.mem_of_getElem? (l := tables_1) (i := 838) (by decide +kernel)), by decide +kernel⟩
set_option maxRecDepth 20000 in
theorem kmX10_3 : Cond.methodLink RX10 3 Lib.objectInit ∈ gd := List.mem_filter.mpr ⟨List.mem_append_right _ (List.mem_of_getElem? (l := tables_1) (i := 843) (by decide +kernel)), by decide +kernel⟩
set_option maxRecDepth 20000 in
theorem kstr163 : (163, "there are 24 works") ∈ strW := List.mem_of_getElem? (i := 16) rfl
set_option maxRecDepth 20000 in
theorem kmX11_165 : Cond.methodLink RX11 165 yX11_findOriginal ∈ gd := List.mem_filter.mpr ⟨List.mem_append_right _ (List.mem_of_getElem? (l := tables_1) (i := 832) (by decide +kernel)), by decide +kernel⟩
set_option maxRecDepth 20000 in
theorem kc_X11_findOriginal : Cond.code yX11_findOriginal cX11_findOriginal 5 (some .int) ∈ gd := List.mem_filter.mpr ⟨List.mem_append_right _ (List.mem_of_getElem? (l := tables_1) (i := 835) (by decide +kernel)), by decide +kernel⟩
set_option maxRecDepth 20000 in
theorem cal_X11_findOriginal : CalOK yX11_findOriginal cX11_findOriginal 5 (some .int) 2 := ⟨kc_X11_findOriginal, ki_X11, by decide, by decide +kernel⟩
set_option maxRecDepth 20000 in
theorem kn_X11_findOriginal : Cond.instanceMethod yX11_findOriginal ∈ gd := List.mem_filter.mpr ⟨List.mem_append_right _ (List.mem_of_getElem? (l := tables_1) (i := 834) (by decide +kernel)), by decide +kernel⟩
set_option maxRecDepth 20000 in
theorem ks_X11_findOriginal : Cond.selects yX11_findOriginal.cls yX11_findOriginal yX11_findOriginal ∈ gd := List.mem_filter.mpr ⟨List.mem_append_left _ (List.mem_of_getElem? (l := k2_sels lw_privs) (i := 26) (by decide +kernel)), by decide +kernel⟩
set_option maxRecDepth 20000 in
theorem kmX11_169 : Cond.methodLink RX11 169 yX10_init ∈ gd := List.mem_filter.mpr ⟨List.mem_append_right _ (List.mem_of_getElem? (l := tables_1) (i := 840) (by decide +kernel)), by decide +kernel⟩
set_option maxRecDepth 20000 in
theorem kc_X10_init : Cond.code yX10_init cX10_init 4 (none) ∈ gd := List.mem_filter.mpr ⟨List.mem_append_right _ (List.mem_of_getElem? (l := tables_1) (i := 842) (by decide +kernel)), by decide +kernel⟩
set_option maxRecDepth 20000 in
theorem cal_X10_init : CalOK yX10_init cX10_init 4 (none) 3 := ⟨kc_X10_init, ki_X10, by decide, by decide +kernel⟩
set_option maxRecDepth 20000 in
theorem kn_X10_init : Cond.instanceMethod yX10_init ∈ gd := List.mem_filter.mpr ⟨List.mem_append_right _ (List.mem_of_getElem? (l := tables_1) (i := 841) (by decide +kernel)), by decide +kernel⟩
set_option maxRecDepth 20000 in
theorem kstr287 : (287, "there is no such work") ∈ strW := List.mem_of_getElem? (i := 17) rfl
set_option maxRecDepth 20000 in
theorem kmX11_172 : Cond.methodLink RX11 172 yX11_workAt ∈ gd := List.mem_filter.mpr ⟨List.mem_append_right _ (List.mem_of_getElem? (l := tables_1) (i := 878) (by decide +kernel)), by decide +kernel⟩
set_option maxRecDepth 20000 in
theorem kc_X11_workAt : Cond.code yX11_workAt cX11_workAt 3 (some (.object "TurtleChalk$Work")) ∈ gd := List.mem_filter.mpr ⟨List.mem_append_right _ (List.mem_of_getElem? (l := tables_1) (i := 881) (by decide +kernel)), by decide +kernel⟩
set_option maxRecDepth 20000 in
theorem cal_X11_workAt : CalOK yX11_workAt cX11_workAt 3 (some (.object "TurtleChalk$Work")) 1 := ⟨kc_X11_workAt, ki_X11, by decide, by decide +kernel⟩
set_option maxRecDepth 20000 in
theorem kn_X11_workAt : Cond.instanceMethod yX11_workAt ∈ gd := List.mem_filter.mpr ⟨List.mem_append_right _ (List.mem_of_getElem? (l := tables_1) (i := 880) (by decide +kernel)), by decide +kernel⟩
set_option maxRecDepth 20000 in
theorem ks_X11_workAt : Cond.selects yX11_workAt.cls yX11_workAt yX11_workAt ∈ gd := List.mem_filter.mpr ⟨List.mem_append_left _ (List.mem_of_getElem? (l := k2_sels lw_privs) (i := 27) (by decide +kernel)), by decide +kernel⟩
set_option maxRecDepth 20000 in
theorem kfX11_176 : Cond.fieldLinkNest RX11 176 (clT 10 3).1 (clT 10 3).2.1 (clT 10 3).2.2.1 "TurtleChalk" ∈ nestW := List.mem_of_getElem? (i := 28) (by decide +kernel)
set_option maxRecDepth 20000 in
theorem kstr182 : (182, "width or height is out of range") ∈ strW := List.mem_of_getElem? (i := 18) rfl
set_option maxRecDepth 20000 in
theorem kmX11_185 : Cond.methodLink RX11 185 yX9_measure ∈ gd := List.mem_filter.mpr ⟨List.mem_append_right _ (List.mem_of_getElem? (l := tables_1) (i := 888) (by decide +kernel)), by decide +kernel⟩
set_option maxRecDepth 20000 in
theorem kc_X9_measure : Cond.code yX9_measure cX9_measure 3 (none) ∈ gd := List.mem_filter.mpr ⟨List.mem_append_right _ (List.mem_of_getElem? (l := tables_1) (i := 891) (by decide +kernel)), by decide +kernel⟩
set_option maxRecDepth 20000 in
theorem cal_X9_measure : CalOK yX9_measure cX9_measure 3 (none) 2 := ⟨kc_X9_measure, ki_X9, by decide, by decide +kernel⟩
set_option maxRecDepth 20000 in
theorem kn_X9_measure : Cond.instanceMethod yX9_measure ∈ gd := List.mem_filter.mpr ⟨List.mem_append_right _ (List.mem_of_getElem? (l := tables_1) (i := 889) (by decide +kernel)), by decide +kernel⟩
set_option maxRecDepth 20000 in
theorem ks_X9_measure : Cond.selects yX9_measure.cls yX9_measure yX9_measure ∈ gd := List.mem_filter.mpr ⟨List.mem_append_right _ (List.mem_of_getElem? (l := tables_1) (i := 890) (by decide +kernel)), by decide +kernel⟩
set_option maxRecDepth 20000 in
theorem kmX11_188 : Cond.methodLink RX11 188 yX11_countHanging ∈ gd := List.mem_filter.mpr ⟨List.mem_append_right _ (List.mem_of_getElem? (l := tables_1) (i := 892) (by decide +kernel)), by decide +kernel⟩
set_option maxRecDepth 20000 in
theorem kc_X11_countHanging : Cond.code yX11_countHanging cX11_countHanging 4 (some .int) ∈ gd := List.mem_filter.mpr ⟨List.mem_append_right _ (List.mem_of_getElem? (l := tables_1) (i := 895) (by decide +kernel)), by decide +kernel⟩
set_option maxRecDepth 20000 in
theorem cal_X11_countHanging : CalOK yX11_countHanging cX11_countHanging 4 (some .int) 0 := ⟨kc_X11_countHanging, ki_X11, by decide, by decide +kernel⟩
set_option maxRecDepth 20000 in
theorem kn_X11_countHanging : Cond.instanceMethod yX11_countHanging ∈ gd := List.mem_filter.mpr ⟨List.mem_append_right _ (List.mem_of_getElem? (l := tables_1) (i := 894) (by decide +kernel)), by decide +kernel⟩
set_option maxRecDepth 20000 in
theorem ks_X11_countHanging : Cond.selects yX11_countHanging.cls yX11_countHanging yX11_countHanging ∈ gd := List.mem_filter.mpr ⟨List.mem_append_left _ (List.mem_of_getElem? (l := k2_sels lw_privs) (i := 28) (by decide +kernel)), by decide +kernel⟩
set_option maxRecDepth 20000 in
theorem kfX11_191 : Cond.fieldLinkNest RX11 191 (clT 5 6).1 (clT 5 6).2.1 (clT 5 6).2.2.1 "TurtleChalk" ∈ nestW := List.mem_of_getElem? (i := 19) (by decide +kernel)
set_option maxRecDepth 20000 in
theorem kfX11_193 : Cond.fieldLinkNest RX11 193 (clT 5 7).1 (clT 5 7).2.1 (clT 5 7).2.2.1 "TurtleChalk" ∈ nestW := List.mem_of_getElem? (i := 21) (by decide +kernel)
set_option maxRecDepth 20000 in
theorem kfX11_195 : Cond.fieldLinkNest RX11 195 (clT 2 2).1 (clT 2 2).2.1 (clT 2 2).2.2.1 "TurtleChalk" ∈ nestW := List.mem_of_getElem? (i := 1) (by decide +kernel)
set_option maxRecDepth 20000 in
theorem kstr198 : (198, "steps is out of range") ∈ strW := List.mem_of_getElem? (i := 12) rfl
set_option maxRecDepth 20000 in
theorem kmX11_200 : Cond.methodLink RX11 200 yX2_makeEmpty ∈ gd := List.mem_filter.mpr ⟨List.mem_append_right _ (List.mem_of_getElem? (l := tables_1) (i := 720) (by decide +kernel)), by decide +kernel⟩
set_option maxRecDepth 20000 in
theorem kc_X2_makeEmpty : Cond.code yX2_makeEmpty cX2_makeEmpty 2 (none) ∈ gd := List.mem_filter.mpr ⟨List.mem_append_right _ (List.mem_of_getElem? (l := tables_1) (i := 723) (by decide +kernel)), by decide +kernel⟩
set_option maxRecDepth 20000 in
theorem cal_X2_makeEmpty : CalOK yX2_makeEmpty cX2_makeEmpty 2 (none) 0 := ⟨kc_X2_makeEmpty, ki_X2, by decide, by decide +kernel⟩
set_option maxRecDepth 20000 in
theorem kn_X2_makeEmpty : Cond.instanceMethod yX2_makeEmpty ∈ gd := List.mem_filter.mpr ⟨List.mem_append_right _ (List.mem_of_getElem? (l := tables_1) (i := 721) (by decide +kernel)), by decide +kernel⟩
set_option maxRecDepth 20000 in
theorem ks_X2_makeEmpty : Cond.selects yX2_makeEmpty.cls yX2_makeEmpty yX2_makeEmpty ∈ gd := List.mem_filter.mpr ⟨List.mem_append_right _ (List.mem_of_getElem? (l := tables_1) (i := 722) (by decide +kernel)), by decide +kernel⟩
set_option maxRecDepth 20000 in
theorem kmX11_201 : Cond.methodLink RX11 201 yX11_isOnGround ∈ gd := List.mem_filter.mpr ⟨List.mem_append_right _ (List.mem_of_getElem? (l := tables_1) (i := 697) (by decide +kernel)), by decide +kernel⟩
set_option maxRecDepth 20000 in
theorem kstr206 : (206, "there is no such point") ∈ strW := List.mem_of_getElem? (i := 11) rfl
set_option maxRecDepth 20000 in
theorem kmX11_209 : Cond.methodLink RX11 209 yX2_hasStroke ∈ gd := List.mem_filter.mpr ⟨List.mem_append_right _ (List.mem_of_getElem? (l := tables_1) (i := 699) (by decide +kernel)), by decide +kernel⟩
set_option maxRecDepth 20000 in
theorem kc_X2_hasStroke : Cond.code yX2_hasStroke cX2_hasStroke 5 (some .boolean) ∈ gd := List.mem_filter.mpr ⟨List.mem_append_right _ (List.mem_of_getElem? (l := tables_1) (i := 702) (by decide +kernel)), by decide +kernel⟩
set_option maxRecDepth 20000 in
theorem cal_X2_hasStroke : CalOK yX2_hasStroke cX2_hasStroke 5 (some .boolean) 3 := ⟨kc_X2_hasStroke, ki_X2, by decide, by decide +kernel⟩
set_option maxRecDepth 20000 in
theorem kn_X2_hasStroke : Cond.instanceMethod yX2_hasStroke ∈ gd := List.mem_filter.mpr ⟨List.mem_append_right _ (List.mem_of_getElem? (l := tables_1) (i := 700) (by decide +kernel)), by decide +kernel⟩
set_option maxRecDepth 20000 in
theorem ks_X2_hasStroke : Cond.selects yX2_hasStroke.cls yX2_hasStroke yX2_hasStroke ∈ gd := List.mem_filter.mpr ⟨List.mem_append_right _ (List.mem_of_getElem? (l := tables_1) (i := 701) (by decide +kernel)), by decide +kernel⟩
set_option maxRecDepth 20000 in
theorem kmX11_213 : Cond.methodLink RX11 213 yX2_isShiftOf ∈ gd := List.mem_filter.mpr ⟨List.mem_append_right _ (List.mem_of_getElem? (l := tables_1) (i := 758) (by decide +kernel)), by decide +kernel⟩
set_option maxRecDepth 20000 in
theorem kmX0_28 : Cond.methodLink RX0 28 yJ9_max_7cf53 ∈ gd := List.mem_filter.mpr ⟨List.mem_append_right _ (List.mem_of_getElem? (l := tables_1) (i := 921) (by decide +kernel)), by decide +kernel⟩
set_option maxRecDepth 20000 in
theorem kc_J9_max_7cf53 : Cond.code yJ9_max_7cf53 cJ9_max_7cf53 2 (some .int) ∈ gd := List.mem_filter.mpr ⟨List.mem_append_right _ (List.mem_of_getElem? (l := tables_1) (i := 923) (by decide +kernel)), by decide +kernel⟩
set_option maxRecDepth 20000 in
theorem cal_J9_max_7cf53 : CalOK yJ9_max_7cf53 cJ9_max_7cf53 2 (some .int) 2 := ⟨kc_J9_max_7cf53, ki_J9, by decide, by decide +kernel⟩
set_option maxRecDepth 20000 in
theorem kz_J9_max_7cf53 : Cond.static yJ9_max_7cf53 ∈ gd := List.mem_filter.mpr ⟨List.mem_append_right _ (List.mem_of_getElem? (l := tables_1) (i := 922) (by decide +kernel)), by decide +kernel⟩
set_option maxRecDepth 20000 in
theorem kmX0_18 : Cond.methodLink RX0 18 yJ9_min_7cf53 ∈ gd := List.mem_filter.mpr ⟨List.mem_append_right _ (List.mem_of_getElem? (l := tables_1) (i := 916) (by decide +kernel)), by decide +kernel⟩
set_option maxRecDepth 20000 in
theorem kmX0_24 : Cond.methodLink RX0 24 yX0_fillBelow ∈ gd := List.mem_filter.mpr ⟨List.mem_append_right _ (List.mem_of_getElem? (l := tables_1) (i := 917) (by decide +kernel)), by decide +kernel⟩
set_option maxRecDepth 20000 in
theorem kc_X0_fillBelow : Cond.code yX0_fillBelow cX0_fillBelow 5 (none) ∈ gd := List.mem_filter.mpr ⟨List.mem_append_right _ (List.mem_of_getElem? (l := tables_1) (i := 920) (by decide +kernel)), by decide +kernel⟩
set_option maxRecDepth 20000 in
theorem cal_X0_fillBelow : CalOK yX0_fillBelow cX0_fillBelow 5 (none) 3 := ⟨kc_X0_fillBelow, ki_X0, by decide, by decide +kernel⟩
set_option maxRecDepth 20000 in
theorem kn_X0_fillBelow : Cond.instanceMethod yX0_fillBelow ∈ gd := List.mem_filter.mpr ⟨List.mem_append_right _ (List.mem_of_getElem? (l := tables_1) (i := 919) (by decide +kernel)), by decide +kernel⟩
set_option maxRecDepth 20000 in
theorem ks_X0_fillBelow : Cond.selects yX0_fillBelow.cls yX0_fillBelow yX0_fillBelow ∈ gd := List.mem_filter.mpr ⟨List.mem_append_left _ (List.mem_of_getElem? (l := k2_sels lw_privs) (i := 29) (by decide +kernel)), by decide +kernel⟩
set_option maxRecDepth 20000 in
theorem kmX11_221 : Cond.methodLink RX11 221 yX5_length ∈ gd := List.mem_filter.mpr ⟨List.mem_append_right _ (List.mem_of_getElem? (l := tables_1) (i := 911) (by decide +kernel)), by decide +kernel⟩
set_option maxRecDepth 20000 in
theorem kfX11_222 : Cond.fieldLinkNest RX11 222 (clT 5 4).1 (clT 5 4).2.1 (clT 5 4).2.2.1 "TurtleChalk" ∈ nestW := List.mem_of_getElem? (i := 13) (by decide +kernel)
set_option maxRecDepth 20000 in
theorem kmX11_226 : Cond.methodLink RX11 226 yX0_longestCommon ∈ gd := List.mem_filter.mpr ⟨List.mem_append_right _ (List.mem_of_getElem? (l := tables_1) (i := 912) (by decide +kernel)), by decide +kernel⟩
set_option maxRecDepth 20000 in
theorem kc_X0_longestCommon : Cond.code yX0_longestCommon cX0_longestCommon 6 (some .int) ∈ gd := List.mem_filter.mpr ⟨List.mem_append_right _ (List.mem_of_getElem? (l := tables_1) (i := 915) (by decide +kernel)), by decide +kernel⟩
set_option maxRecDepth 20000 in
theorem cal_X0_longestCommon : CalOK yX0_longestCommon cX0_longestCommon 6 (some .int) 2 := ⟨kc_X0_longestCommon, ki_X0, by decide, by decide +kernel⟩
set_option maxRecDepth 20000 in
theorem kn_X0_longestCommon : Cond.instanceMethod yX0_longestCommon ∈ gd := List.mem_filter.mpr ⟨List.mem_append_right _ (List.mem_of_getElem? (l := tables_1) (i := 913) (by decide +kernel)), by decide +kernel⟩
set_option maxRecDepth 20000 in
theorem ks_X0_longestCommon : Cond.selects yX0_longestCommon.cls yX0_longestCommon yX0_longestCommon ∈ gd := List.mem_filter.mpr ⟨List.mem_append_right _ (List.mem_of_getElem? (l := tables_1) (i := 914) (by decide +kernel)), by decide +kernel⟩
set_option maxRecDepth 20000 in
theorem kfX11_234 : Cond.fieldLinkNest RX11 234 (clT 10 2).1 (clT 10 2).2.1 (clT 10 2).2.2.1 "TurtleChalk" ∈ nestW := List.mem_of_getElem? (i := 27) (by decide +kernel)
set_option maxRecDepth 20000 in
theorem kfX11_240 : Cond.fieldLinkNest RX11 240 (clT 10 5).1 (clT 10 5).2.1 (clT 10 5).2.2.1 "TurtleChalk" ∈ nestW := List.mem_of_getElem? (i := 30) (by decide +kernel)
set_option maxRecDepth 20000 in
theorem kfX11_243 : Cond.fieldLinkNest RX11 243 (clT 10 6).1 (clT 10 6).2.1 (clT 10 6).2.2.1 "TurtleChalk" ∈ nestW := List.mem_of_getElem? (i := 31) (by decide +kernel)
set_option maxRecDepth 20000 in
theorem kfX10_39 : Cond.fieldLinkNest RX10 39 (clT 5 5).1 (clT 5 5).2.1 (clT 5 5).2.2.1 "TurtleChalk" ∈ nestW := List.mem_of_getElem? (i := 15) (by decide +kernel)
set_option maxRecDepth 20000 in
theorem kmX10_45 : Cond.methodLink RX10 45 yX2_cellsWide ∈ gd := List.mem_filter.mpr ⟨List.mem_append_right _ (List.mem_of_getElem? (l := tables_1) (i := 301) (by decide +kernel)), by decide +kernel⟩
set_option maxRecDepth 20000 in
theorem kmX10_54 : Cond.methodLink RX10 54 yX2_cellsHigh ∈ gd := List.mem_filter.mpr ⟨List.mem_append_right _ (List.mem_of_getElem? (l := tables_1) (i := 305) (by decide +kernel)), by decide +kernel⟩
set_option maxRecDepth 20000 in
theorem kmX11_246 : Cond.methodLink RX11 246 yX9_hasCell ∈ gd := List.mem_filter.mpr ⟨List.mem_append_right _ (List.mem_of_getElem? (l := tables_1) (i := 225) (by decide +kernel)), by decide +kernel⟩
set_option maxRecDepth 20000 in
theorem kc_X9_hasCell : Cond.code yX9_hasCell cX9_hasCell 3 (some .boolean) ∈ gd := List.mem_filter.mpr ⟨List.mem_append_right _ (List.mem_of_getElem? (l := tables_1) (i := 228) (by decide +kernel)), by decide +kernel⟩
set_option maxRecDepth 20000 in
theorem cal_X9_hasCell : CalOK yX9_hasCell cX9_hasCell 3 (some .boolean) 2 := ⟨kc_X9_hasCell, ki_X9, by decide, by decide +kernel⟩
set_option maxRecDepth 20000 in
theorem kn_X9_hasCell : Cond.instanceMethod yX9_hasCell ∈ gd := List.mem_filter.mpr ⟨List.mem_append_right _ (List.mem_of_getElem? (l := tables_1) (i := 226) (by decide +kernel)), by decide +kernel⟩
set_option maxRecDepth 20000 in
theorem ks_X9_hasCell : Cond.selects yX9_hasCell.cls yX9_hasCell yX9_hasCell ∈ gd := List.mem_filter.mpr ⟨List.mem_append_right _ (List.mem_of_getElem? (l := tables_1) (i := 227) (by decide +kernel)), by decide +kernel⟩
set_option maxRecDepth 20000 in
theorem kstr250 : (250, "the wall has no such cell") ∈ strW := List.mem_of_getElem? (i := 0) rfl
set_option maxRecDepth 20000 in
theorem kmX11_252 : Cond.methodLink RX11 252 yX10_covers ∈ gd := List.mem_filter.mpr ⟨List.mem_append_right _ (List.mem_of_getElem? (l := tables_1) (i := 297) (by decide +kernel)), by decide +kernel⟩
set_option maxRecDepth 20000 in
theorem kc_X10_covers : Cond.code yX10_covers cX10_covers 3 (some .boolean) ∈ gd := List.mem_filter.mpr ⟨List.mem_append_right _ (List.mem_of_getElem? (l := tables_1) (i := 300) (by decide +kernel)), by decide +kernel⟩
set_option maxRecDepth 20000 in
theorem cal_X10_covers : CalOK yX10_covers cX10_covers 3 (some .boolean) 2 := ⟨kc_X10_covers, ki_X10, by decide, by decide +kernel⟩
set_option maxRecDepth 20000 in
theorem kn_X10_covers : Cond.instanceMethod yX10_covers ∈ gd := List.mem_filter.mpr ⟨List.mem_append_right _ (List.mem_of_getElem? (l := tables_1) (i := 298) (by decide +kernel)), by decide +kernel⟩
set_option maxRecDepth 20000 in
theorem ks_X10_covers : Cond.selects yX10_covers.cls yX10_covers yX10_covers ∈ gd := List.mem_filter.mpr ⟨List.mem_append_right _ (List.mem_of_getElem? (l := tables_1) (i := 299) (by decide +kernel)), by decide +kernel⟩
