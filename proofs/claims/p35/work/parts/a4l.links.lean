set_option maxRecDepth 20000 in
theorem kc_L_draw : Cond.code yL_draw cL_draw 2 (some .int) ∈ gd := List.mem_filter.mpr ⟨List.mem_append_right _ (List.mem_of_getElem? (l := tables_1) (i := 319) (by decide +kernel)), by decide +kernel⟩
set_option maxRecDepth 20000 in
theorem cal_L_draw : CalOK yL_draw cL_draw 2 (some .int) 2 := ⟨kc_L_draw, ki_L, by decide, by decide +kernel⟩
set_option maxRecDepth 20000 in
theorem kz_L_draw : Cond.static yL_draw ∈ gd := List.mem_filter.mpr ⟨List.mem_append_right _ (List.mem_of_getElem? (l := tables_1) (i := 318) (by decide +kernel)), by decide +kernel⟩
set_option maxRecDepth 20000 in
theorem kc_L_step : Cond.code yL_step cL_step 12 (some .boolean) ∈ gd := List.mem_filter.mpr ⟨List.mem_append_right _ (List.mem_of_getElem? (l := tables_1) (i := 325) rfl), rfl⟩
set_option maxRecDepth 20000 in
theorem cal_L_step : CalOK yL_step cL_step 12 (some .boolean) 7 := ⟨kc_L_step, ki_L, by decide, by decide +kernel⟩
set_option maxRecDepth 20000 in
theorem kz_L_step : Cond.static yL_step ∈ gd := List.mem_filter.mpr ⟨List.mem_append_right _ (List.mem_of_getElem? (l := tables_1) (i := 324) (by decide +kernel)), by decide +kernel⟩
set_option maxRecDepth 20000 in
theorem kc_L_areTwo : Cond.code yL_areTwo cL_areTwo 7 (some .boolean) ∈ gd := List.mem_filter.mpr ⟨List.mem_append_right _ (List.mem_of_getElem? (l := tables_1) (i := 902) (by decide +kernel)), by decide +kernel⟩
set_option maxRecDepth 20000 in
theorem cal_L_areTwo : CalOK yL_areTwo cL_areTwo 7 (some .boolean) 4 := ⟨kc_L_areTwo, ki_L, by decide, by decide +kernel⟩
set_option maxRecDepth 20000 in
theorem kz_L_areTwo : Cond.static yL_areTwo ∈ gd := List.mem_filter.mpr ⟨List.mem_append_right _ (List.mem_of_getElem? (l := tables_1) (i := 901) (by decide +kernel)), by decide +kernel⟩
set_option maxRecDepth 20000 in
theorem kc_L_isWall : Cond.code yL_isWall cL_isWall 19 (some .boolean) ∈ gd := List.mem_filter.mpr ⟨List.mem_append_right _ (List.mem_of_getElem? (l := tables_1) (i := 929) rfl), rfl⟩
set_option maxRecDepth 20000 in
theorem cal_L_isWall : CalOK yL_isWall cL_isWall 19 (some .boolean) 6 := ⟨kc_L_isWall, ki_L, by decide, by decide +kernel⟩
set_option maxRecDepth 20000 in
theorem kz_L_isWall : Cond.static yL_isWall ∈ gd := List.mem_filter.mpr ⟨List.mem_append_right _ (List.mem_of_getElem? (l := tables_1) (i := 928) (by decide +kernel)), by decide +kernel⟩
set_option maxRecDepth 20000 in
theorem kkL_7 : Cond.constant RL 7 (2147483647 : Int32) ∈ gd := List.mem_filter.mpr ⟨List.mem_append_right _ (List.mem_of_getElem? (l := tables_1) (i := 320) (by decide +kernel)), by decide +kernel⟩
set_option maxRecDepth 20000 in
theorem kkL_8 : Cond.constant RL 8 (104729 : Int32) ∈ gd := List.mem_filter.mpr ⟨List.mem_append_right _ (List.mem_of_getElem? (l := tables_1) (i := 321) (by decide +kernel)), by decide +kernel⟩
set_option maxRecDepth 20000 in
theorem kkL_9 : Cond.constant RL 9 (65521 : Int32) ∈ gd := List.mem_filter.mpr ⟨List.mem_append_right _ (List.mem_of_getElem? (l := tables_1) (i := 322) (by decide +kernel)), by decide +kernel⟩
set_option maxRecDepth 20000 in
theorem kmL_154 : Cond.methodLink RL 154 yX11_init ∈ gd := List.mem_filter.mpr ⟨List.mem_append_right _ (List.mem_of_getElem? (l := tables_1) (i := 22) (by decide +kernel)), by decide +kernel⟩
set_option maxRecDepth 20000 in
theorem kc_X11_init : Cond.code yX11_init cX11_init 1 (none) ∈ gd := List.mem_filter.mpr ⟨List.mem_append_right _ (List.mem_of_getElem? (l := tables_1) (i := 24) (by decide +kernel)), by decide +kernel⟩
set_option maxRecDepth 20000 in
theorem cal_X11_init : CalOK yX11_init cX11_init 1 (none) 0 := ⟨kc_X11_init, ki_X11, by decide, by decide +kernel⟩
set_option maxRecDepth 20000 in
theorem kn_X11_init : Cond.instanceMethod yX11_init ∈ gd := List.mem_filter.mpr ⟨List.mem_append_right _ (List.mem_of_getElem? (l := tables_1) (i := 23) (by decide +kernel)), by decide +kernel⟩
set_option maxRecDepth 20000 in
theorem kmL_155 : Cond.methodLink RL 155 yL_draw ∈ gd := List.mem_filter.mpr ⟨List.mem_append_right _ (List.mem_of_getElem? (l := tables_1) (i := 317) (by decide +kernel)), by decide +kernel⟩
set_option maxRecDepth 20000 in
theorem kmL_159 : Cond.methodLink RL 159 yL_step ∈ gd := List.mem_filter.mpr ⟨List.mem_append_right _ (List.mem_of_getElem? (l := tables_1) (i := 323) (by decide +kernel)), by decide +kernel⟩
set_option maxRecDepth 20000 in
theorem kmL_162 : Cond.methodLink RL 162 yL_areTwo ∈ gd := List.mem_filter.mpr ⟨List.mem_append_right _ (List.mem_of_getElem? (l := tables_1) (i := 900) (by decide +kernel)), by decide +kernel⟩
set_option maxRecDepth 20000 in
theorem kmL_165 : Cond.methodLink RL 165 yL_isWall ∈ gd := List.mem_filter.mpr ⟨List.mem_append_right _ (List.mem_of_getElem? (l := tables_1) (i := 927) (by decide +kernel)), by decide +kernel⟩
