set_option maxRecDepth 20000 in
theorem kxL_13 : Cond.classLink RL 13 "java/lang/IndexOutOfBoundsException" ∈ gd := List.mem_filter.mpr ⟨List.mem_append_right _ (List.mem_of_getElem? (l := tables_1) (i := 233) (by decide +kernel)), by decide +kernel⟩
set_option maxRecDepth 20000 in
theorem kxL_15 : Cond.classLink RL 15 "java/lang/IllegalArgumentException" ∈ gd := List.mem_filter.mpr ⟨List.mem_append_right _ (List.mem_of_getElem? (l := tables_1) (i := 234) (by decide +kernel)), by decide +kernel⟩
set_option maxRecDepth 20000 in
theorem kxL_17 : Cond.classLink RL 17 "java/lang/IllegalStateException" ∈ gd := List.mem_filter.mpr ⟨List.mem_append_right _ (List.mem_of_getElem? (l := tables_1) (i := 235) (by decide +kernel)), by decide +kernel⟩
set_option maxRecDepth 20000 in
theorem kmL_7 : Cond.methodLink RL 7 yX11_forward ∈ gd := List.mem_filter.mpr ⟨List.mem_append_right _ (List.mem_of_getElem? (l := tables_1) (i := 236) (by decide +kernel)), by decide +kernel⟩
set_option maxRecDepth 20000 in
theorem kc_X11_forward : Cond.code yX11_forward cX11_forward 3 (some .int) ∈ gd := List.mem_filter.mpr ⟨List.mem_append_right _ (List.mem_of_getElem? (l := tables_1) (i := 239) (by decide +kernel)), by decide +kernel⟩
set_option maxRecDepth 20000 in
theorem cal_X11_forward : CalOK yX11_forward cX11_forward 3 (some .int) 2 := ⟨kc_X11_forward, ki_X11, by decide, by decide +kernel⟩
set_option maxRecDepth 20000 in
theorem kn_X11_forward : Cond.instanceMethod yX11_forward ∈ gd := List.mem_filter.mpr ⟨List.mem_append_right _ (List.mem_of_getElem? (l := tables_1) (i := 237) (by decide +kernel)), by decide +kernel⟩
set_option maxRecDepth 20000 in
theorem ks_X11_forward : Cond.selects yX11_forward.cls yX11_forward yX11_forward ∈ gd := List.mem_filter.mpr ⟨List.mem_append_right _ (List.mem_of_getElem? (l := tables_1) (i := 238) (by decide +kernel)), by decide +kernel⟩
set_option maxRecDepth 20000 in
theorem kcw_L_forward : Cond.codeWith yL_forward cL_forward 5 (some .int) [(0, 10, 13, 13), (0, 10, 17, 15), (0, 10, 21, 17)] ∈ gd := List.mem_filter.mpr ⟨List.mem_append_right _ (List.mem_of_getElem? (l := tables_1) (i := 232) (by decide +kernel)), by decide +kernel⟩
set_option maxRecDepth 20000 in
theorem ki_L : Cond.initialized RL ∈ gd := List.mem_filter.mpr ⟨List.mem_append_right _ (List.mem_of_getElem? (l := tables_1) (i := 0) (by decide +kernel)), by decide +kernel⟩
set_option maxRecDepth 20000 in
theorem calw_L_forward : CalW yL_forward cL_forward 5 (some .int) [(0, 10, 13, 13), (0, 10, 17, 15), (0, 10, 21, 17)] 4 := ⟨kcw_L_forward, ki_L, by decide, by decide +kernel⟩
set_option maxRecDepth 20000 in
theorem kz_L_forward : Cond.static yL_forward ∈ gd := List.mem_filter.mpr ⟨List.mem_append_right _ (List.mem_of_getElem? (l := tables_1) (i := 231) (by decide +kernel)), by decide +kernel⟩
set_option maxRecDepth 20000 in
theorem kmL_19 : Cond.methodLink RL 19 yX11_turn ∈ gd := List.mem_filter.mpr ⟨List.mem_append_right _ (List.mem_of_getElem? (l := tables_1) (i := 390) (by decide +kernel)), by decide +kernel⟩
set_option maxRecDepth 20000 in
theorem kc_X11_turn : Cond.code yX11_turn cX11_turn 3 (some .int) ∈ gd := List.mem_filter.mpr ⟨List.mem_append_right _ (List.mem_of_getElem? (l := tables_1) (i := 393) (by decide +kernel)), by decide +kernel⟩
set_option maxRecDepth 20000 in
theorem cal_X11_turn : CalOK yX11_turn cX11_turn 3 (some .int) 2 := ⟨kc_X11_turn, ki_X11, by decide, by decide +kernel⟩
set_option maxRecDepth 20000 in
theorem kn_X11_turn : Cond.instanceMethod yX11_turn ∈ gd := List.mem_filter.mpr ⟨List.mem_append_right _ (List.mem_of_getElem? (l := tables_1) (i := 391) (by decide +kernel)), by decide +kernel⟩
set_option maxRecDepth 20000 in
theorem ks_X11_turn : Cond.selects yX11_turn.cls yX11_turn yX11_turn ∈ gd := List.mem_filter.mpr ⟨List.mem_append_right _ (List.mem_of_getElem? (l := tables_1) (i := 392) (by decide +kernel)), by decide +kernel⟩
set_option maxRecDepth 20000 in
theorem kcw_L_turn : Cond.codeWith yL_turn cL_turn 5 (some .int) [(0, 10, 13, 13), (0, 10, 17, 15), (0, 10, 21, 17)] ∈ gd := List.mem_filter.mpr ⟨List.mem_append_right _ (List.mem_of_getElem? (l := tables_1) (i := 389) (by decide +kernel)), by decide +kernel⟩
set_option maxRecDepth 20000 in
theorem calw_L_turn : CalW yL_turn cL_turn 5 (some .int) [(0, 10, 13, 13), (0, 10, 17, 15), (0, 10, 21, 17)] 4 := ⟨kcw_L_turn, ki_L, by decide, by decide +kernel⟩
set_option maxRecDepth 20000 in
theorem kz_L_turn : Cond.static yL_turn ∈ gd := List.mem_filter.mpr ⟨List.mem_append_right _ (List.mem_of_getElem? (l := tables_1) (i := 388) (by decide +kernel)), by decide +kernel⟩
set_option maxRecDepth 20000 in
theorem kmL_22 : Cond.methodLink RL 22 yX11_pen ∈ gd := List.mem_filter.mpr ⟨List.mem_append_right _ (List.mem_of_getElem? (l := tables_1) (i := 397) (by decide +kernel)), by decide +kernel⟩
set_option maxRecDepth 20000 in
theorem kc_X11_pen : Cond.code yX11_pen cX11_pen 2 (some .int) ∈ gd := List.mem_filter.mpr ⟨List.mem_append_right _ (List.mem_of_getElem? (l := tables_1) (i := 400) (by decide +kernel)), by decide +kernel⟩
set_option maxRecDepth 20000 in
theorem cal_X11_pen : CalOK yX11_pen cX11_pen 2 (some .int) 1 := ⟨kc_X11_pen, ki_X11, by decide, by decide +kernel⟩
set_option maxRecDepth 20000 in
theorem kn_X11_pen : Cond.instanceMethod yX11_pen ∈ gd := List.mem_filter.mpr ⟨List.mem_append_right _ (List.mem_of_getElem? (l := tables_1) (i := 398) (by decide +kernel)), by decide +kernel⟩
set_option maxRecDepth 20000 in
theorem ks_X11_pen : Cond.selects yX11_pen.cls yX11_pen yX11_pen ∈ gd := List.mem_filter.mpr ⟨List.mem_append_right _ (List.mem_of_getElem? (l := tables_1) (i := 399) (by decide +kernel)), by decide +kernel⟩
set_option maxRecDepth 20000 in
theorem kcw_L_pen : Cond.codeWith yL_pen cL_pen 4 (some .int) [(0, 9, 12, 17)] ∈ gd := List.mem_filter.mpr ⟨List.mem_append_right _ (List.mem_of_getElem? (l := tables_1) (i := 396) (by decide +kernel)), by decide +kernel⟩
set_option maxRecDepth 20000 in
theorem calw_L_pen : CalW yL_pen cL_pen 4 (some .int) [(0, 9, 12, 17)] 3 := ⟨kcw_L_pen, ki_L, by decide, by decide +kernel⟩
set_option maxRecDepth 20000 in
theorem kz_L_pen : Cond.static yL_pen ∈ gd := List.mem_filter.mpr ⟨List.mem_append_right _ (List.mem_of_getElem? (l := tables_1) (i := 395) (by decide +kernel)), by decide +kernel⟩
set_option maxRecDepth 20000 in
theorem kmL_26 : Cond.methodLink RL 26 yX11_set ∈ gd := List.mem_filter.mpr ⟨List.mem_append_right _ (List.mem_of_getElem? (l := tables_1) (i := 404) (by decide +kernel)), by decide +kernel⟩
set_option maxRecDepth 20000 in
theorem kc_X11_set : Cond.code yX11_set cX11_set 4 (some .int) ∈ gd := List.mem_filter.mpr ⟨List.mem_append_right _ (List.mem_of_getElem? (l := tables_1) (i := 407) (by decide +kernel)), by decide +kernel⟩
set_option maxRecDepth 20000 in
theorem cal_X11_set : CalOK yX11_set cX11_set 4 (some .int) 3 := ⟨kc_X11_set, ki_X11, by decide, by decide +kernel⟩
set_option maxRecDepth 20000 in
theorem kn_X11_set : Cond.instanceMethod yX11_set ∈ gd := List.mem_filter.mpr ⟨List.mem_append_right _ (List.mem_of_getElem? (l := tables_1) (i := 405) (by decide +kernel)), by decide +kernel⟩
set_option maxRecDepth 20000 in
theorem ks_X11_set : Cond.selects yX11_set.cls yX11_set yX11_set ∈ gd := List.mem_filter.mpr ⟨List.mem_append_right _ (List.mem_of_getElem? (l := tables_1) (i := 406) (by decide +kernel)), by decide +kernel⟩
set_option maxRecDepth 20000 in
theorem kcw_L_set : Cond.codeWith yL_set cL_set 6 (some .int) [(0, 12, 15, 13), (0, 12, 19, 15), (0, 12, 23, 17)] ∈ gd := List.mem_filter.mpr ⟨List.mem_append_right _ (List.mem_of_getElem? (l := tables_1) (i := 403) (by decide +kernel)), by decide +kernel⟩
set_option maxRecDepth 20000 in
theorem calw_L_set : CalW yL_set cL_set 6 (some .int) [(0, 12, 15, 13), (0, 12, 19, 15), (0, 12, 23, 17)] 5 := ⟨kcw_L_set, ki_L, by decide, by decide +kernel⟩
set_option maxRecDepth 20000 in
theorem kz_L_set : Cond.static yL_set ∈ gd := List.mem_filter.mpr ⟨List.mem_append_right _ (List.mem_of_getElem? (l := tables_1) (i := 402) (by decide +kernel)), by decide +kernel⟩
set_option maxRecDepth 20000 in
theorem kmL_30 : Cond.methodLink RL 30 yX11_add ∈ gd := List.mem_filter.mpr ⟨List.mem_append_right _ (List.mem_of_getElem? (l := tables_1) (i := 411) (by decide +kernel)), by decide +kernel⟩
set_option maxRecDepth 20000 in
theorem kc_X11_add : Cond.code yX11_add cX11_add 4 (some .int) ∈ gd := List.mem_filter.mpr ⟨List.mem_append_right _ (List.mem_of_getElem? (l := tables_1) (i := 414) (by decide +kernel)), by decide +kernel⟩
set_option maxRecDepth 20000 in
theorem cal_X11_add : CalOK yX11_add cX11_add 4 (some .int) 3 := ⟨kc_X11_add, ki_X11, by decide, by decide +kernel⟩
set_option maxRecDepth 20000 in
theorem kn_X11_add : Cond.instanceMethod yX11_add ∈ gd := List.mem_filter.mpr ⟨List.mem_append_right _ (List.mem_of_getElem? (l := tables_1) (i := 412) (by decide +kernel)), by decide +kernel⟩
set_option maxRecDepth 20000 in
theorem ks_X11_add : Cond.selects yX11_add.cls yX11_add yX11_add ∈ gd := List.mem_filter.mpr ⟨List.mem_append_right _ (List.mem_of_getElem? (l := tables_1) (i := 413) (by decide +kernel)), by decide +kernel⟩
set_option maxRecDepth 20000 in
theorem kcw_L_add : Cond.codeWith yL_add cL_add 6 (some .int) [(0, 12, 15, 13), (0, 12, 19, 15), (0, 12, 23, 17)] ∈ gd := List.mem_filter.mpr ⟨List.mem_append_right _ (List.mem_of_getElem? (l := tables_1) (i := 410) (by decide +kernel)), by decide +kernel⟩
set_option maxRecDepth 20000 in
theorem calw_L_add : CalW yL_add cL_add 6 (some .int) [(0, 12, 15, 13), (0, 12, 19, 15), (0, 12, 23, 17)] 5 := ⟨kcw_L_add, ki_L, by decide, by decide +kernel⟩
set_option maxRecDepth 20000 in
theorem kz_L_add : Cond.static yL_add ∈ gd := List.mem_filter.mpr ⟨List.mem_append_right _ (List.mem_of_getElem? (l := tables_1) (i := 409) (by decide +kernel)), by decide +kernel⟩
set_option maxRecDepth 20000 in
theorem kmL_33 : Cond.methodLink RL 33 yX11_repeat ∈ gd := List.mem_filter.mpr ⟨List.mem_append_right _ (List.mem_of_getElem? (l := tables_1) (i := 418) (by decide +kernel)), by decide +kernel⟩
set_option maxRecDepth 20000 in
theorem kc_X11_repeat : Cond.code yX11_repeat cX11_repeat 3 (some .int) ∈ gd := List.mem_filter.mpr ⟨List.mem_append_right _ (List.mem_of_getElem? (l := tables_1) (i := 421) (by decide +kernel)), by decide +kernel⟩
set_option maxRecDepth 20000 in
theorem cal_X11_repeat : CalOK yX11_repeat cX11_repeat 3 (some .int) 2 := ⟨kc_X11_repeat, ki_X11, by decide, by decide +kernel⟩
set_option maxRecDepth 20000 in
theorem kn_X11_repeat : Cond.instanceMethod yX11_repeat ∈ gd := List.mem_filter.mpr ⟨List.mem_append_right _ (List.mem_of_getElem? (l := tables_1) (i := 419) (by decide +kernel)), by decide +kernel⟩
set_option maxRecDepth 20000 in
theorem ks_X11_repeat : Cond.selects yX11_repeat.cls yX11_repeat yX11_repeat ∈ gd := List.mem_filter.mpr ⟨List.mem_append_right _ (List.mem_of_getElem? (l := tables_1) (i := 420) (by decide +kernel)), by decide +kernel⟩
set_option maxRecDepth 20000 in
theorem kcw_L_repeat : Cond.codeWith yL_repeat cL_repeat 5 (some .int) [(0, 10, 13, 13), (0, 10, 17, 15), (0, 10, 21, 17)] ∈ gd := List.mem_filter.mpr ⟨List.mem_append_right _ (List.mem_of_getElem? (l := tables_1) (i := 417) (by decide +kernel)), by decide +kernel⟩
set_option maxRecDepth 20000 in
theorem calw_L_repeat : CalW yL_repeat cL_repeat 5 (some .int) [(0, 10, 13, 13), (0, 10, 17, 15), (0, 10, 21, 17)] 4 := ⟨kcw_L_repeat, ki_L, by decide, by decide +kernel⟩
set_option maxRecDepth 20000 in
theorem kz_L_repeat : Cond.static yL_repeat ∈ gd := List.mem_filter.mpr ⟨List.mem_append_right _ (List.mem_of_getElem? (l := tables_1) (i := 416) (by decide +kernel)), by decide +kernel⟩
set_option maxRecDepth 20000 in
theorem kmL_36 : Cond.methodLink RL 36 yX11_word ∈ gd := List.mem_filter.mpr ⟨List.mem_append_right _ (List.mem_of_getElem? (l := tables_1) (i := 425) (by decide +kernel)), by decide +kernel⟩
set_option maxRecDepth 20000 in
theorem kc_X11_word : Cond.code yX11_word cX11_word 2 (some .int) ∈ gd := List.mem_filter.mpr ⟨List.mem_append_right _ (List.mem_of_getElem? (l := tables_1) (i := 428) (by decide +kernel)), by decide +kernel⟩
set_option maxRecDepth 20000 in
theorem cal_X11_word : CalOK yX11_word cX11_word 2 (some .int) 1 := ⟨kc_X11_word, ki_X11, by decide, by decide +kernel⟩
set_option maxRecDepth 20000 in
theorem kn_X11_word : Cond.instanceMethod yX11_word ∈ gd := List.mem_filter.mpr ⟨List.mem_append_right _ (List.mem_of_getElem? (l := tables_1) (i := 426) (by decide +kernel)), by decide +kernel⟩
set_option maxRecDepth 20000 in
theorem ks_X11_word : Cond.selects yX11_word.cls yX11_word yX11_word ∈ gd := List.mem_filter.mpr ⟨List.mem_append_right _ (List.mem_of_getElem? (l := tables_1) (i := 427) (by decide +kernel)), by decide +kernel⟩
set_option maxRecDepth 20000 in
theorem kcw_L_word : Cond.codeWith yL_word cL_word 4 (some .int) [(0, 9, 12, 13), (0, 9, 15, 17)] ∈ gd := List.mem_filter.mpr ⟨List.mem_append_right _ (List.mem_of_getElem? (l := tables_1) (i := 424) (by decide +kernel)), by decide +kernel⟩
set_option maxRecDepth 20000 in
theorem calw_L_word : CalW yL_word cL_word 4 (some .int) [(0, 9, 12, 13), (0, 9, 15, 17)] 3 := ⟨kcw_L_word, ki_L, by decide, by decide +kernel⟩
set_option maxRecDepth 20000 in
theorem kz_L_word : Cond.static yL_word ∈ gd := List.mem_filter.mpr ⟨List.mem_append_right _ (List.mem_of_getElem? (l := tables_1) (i := 423) (by decide +kernel)), by decide +kernel⟩
set_option maxRecDepth 20000 in
theorem kmL_40 : Cond.methodLink RL 40 yX11_call ∈ gd := List.mem_filter.mpr ⟨List.mem_append_right _ (List.mem_of_getElem? (l := tables_1) (i := 445) (by decide +kernel)), by decide +kernel⟩
set_option maxRecDepth 20000 in
theorem kc_X11_call : Cond.code yX11_call cX11_call 2 (some .int) ∈ gd := List.mem_filter.mpr ⟨List.mem_append_right _ (List.mem_of_getElem? (l := tables_1) (i := 448) (by decide +kernel)), by decide +kernel⟩
set_option maxRecDepth 20000 in
theorem cal_X11_call : CalOK yX11_call cX11_call 2 (some .int) 1 := ⟨kc_X11_call, ki_X11, by decide, by decide +kernel⟩
set_option maxRecDepth 20000 in
theorem kn_X11_call : Cond.instanceMethod yX11_call ∈ gd := List.mem_filter.mpr ⟨List.mem_append_right _ (List.mem_of_getElem? (l := tables_1) (i := 446) (by decide +kernel)), by decide +kernel⟩
set_option maxRecDepth 20000 in
theorem ks_X11_call : Cond.selects yX11_call.cls yX11_call yX11_call ∈ gd := List.mem_filter.mpr ⟨List.mem_append_right _ (List.mem_of_getElem? (l := tables_1) (i := 447) (by decide +kernel)), by decide +kernel⟩
set_option maxRecDepth 20000 in
theorem kcw_L_call : Cond.codeWith yL_call cL_call 4 (some .int) [(0, 9, 12, 13), (0, 9, 15, 17)] ∈ gd := List.mem_filter.mpr ⟨List.mem_append_right _ (List.mem_of_getElem? (l := tables_1) (i := 444) (by decide +kernel)), by decide +kernel⟩
set_option maxRecDepth 20000 in
theorem calw_L_call : CalW yL_call cL_call 4 (some .int) [(0, 9, 12, 13), (0, 9, 15, 17)] 3 := ⟨kcw_L_call, ki_L, by decide, by decide +kernel⟩
set_option maxRecDepth 20000 in
theorem kz_L_call : Cond.static yL_call ∈ gd := List.mem_filter.mpr ⟨List.mem_append_right _ (List.mem_of_getElem? (l := tables_1) (i := 443) (by decide +kernel)), by decide +kernel⟩
set_option maxRecDepth 20000 in
theorem kmL_43 : Cond.methodLink RL 43 yX11_end ∈ gd := List.mem_filter.mpr ⟨List.mem_append_right _ (List.mem_of_getElem? (l := tables_1) (i := 452) (by decide +kernel)), by decide +kernel⟩
set_option maxRecDepth 20000 in
theorem kc_X11_end : Cond.code yX11_end cX11_end 1 (some .int) ∈ gd := List.mem_filter.mpr ⟨List.mem_append_right _ (List.mem_of_getElem? (l := tables_1) (i := 455) (by decide +kernel)), by decide +kernel⟩
set_option maxRecDepth 20000 in
theorem cal_X11_end : CalOK yX11_end cX11_end 1 (some .int) 0 := ⟨kc_X11_end, ki_X11, by decide, by decide +kernel⟩
set_option maxRecDepth 20000 in
theorem kn_X11_end : Cond.instanceMethod yX11_end ∈ gd := List.mem_filter.mpr ⟨List.mem_append_right _ (List.mem_of_getElem? (l := tables_1) (i := 453) (by decide +kernel)), by decide +kernel⟩
set_option maxRecDepth 20000 in
theorem ks_X11_end : Cond.selects yX11_end.cls yX11_end yX11_end ∈ gd := List.mem_filter.mpr ⟨List.mem_append_right _ (List.mem_of_getElem? (l := tables_1) (i := 454) (by decide +kernel)), by decide +kernel⟩
set_option maxRecDepth 20000 in
theorem kcw_L_end : Cond.codeWith yL_end cL_end 3 (some .int) [(0, 8, 11, 17)] ∈ gd := List.mem_filter.mpr ⟨List.mem_append_right _ (List.mem_of_getElem? (l := tables_1) (i := 451) (by decide +kernel)), by decide +kernel⟩
set_option maxRecDepth 20000 in
theorem calw_L_end : CalW yL_end cL_end 3 (some .int) [(0, 8, 11, 17)] 2 := ⟨kcw_L_end, ki_L, by decide, by decide +kernel⟩
set_option maxRecDepth 20000 in
theorem kz_L_end : Cond.static yL_end ∈ gd := List.mem_filter.mpr ⟨List.mem_append_right _ (List.mem_of_getElem? (l := tables_1) (i := 450) (by decide +kernel)), by decide +kernel⟩
set_option maxRecDepth 20000 in
theorem kmL_47 : Cond.methodLink RL 47 yX11_write ∈ gd := List.mem_filter.mpr ⟨List.mem_append_right _ (List.mem_of_getElem? (l := tables_1) (i := 460) (by decide +kernel)), by decide +kernel⟩
set_option maxRecDepth 20000 in
theorem kc_X11_write : Cond.code yX11_write cX11_write 4 (some .int) ∈ gd := List.mem_filter.mpr ⟨List.mem_append_right _ (List.mem_of_getElem? (l := tables_1) (i := 463) (by decide +kernel)), by decide +kernel⟩
set_option maxRecDepth 20000 in
theorem cal_X11_write : CalOK yX11_write cX11_write 4 (some .int) 1 := ⟨kc_X11_write, ki_X11, by decide, by decide +kernel⟩
set_option maxRecDepth 20000 in
theorem kn_X11_write : Cond.instanceMethod yX11_write ∈ gd := List.mem_filter.mpr ⟨List.mem_append_right _ (List.mem_of_getElem? (l := tables_1) (i := 461) (by decide +kernel)), by decide +kernel⟩
set_option maxRecDepth 20000 in
theorem ks_X11_write : Cond.selects yX11_write.cls yX11_write yX11_write ∈ gd := List.mem_filter.mpr ⟨List.mem_append_right _ (List.mem_of_getElem? (l := tables_1) (i := 462) (by decide +kernel)), by decide +kernel⟩
set_option maxRecDepth 20000 in
theorem kcw_L_write : Cond.codeWith yL_write cL_write 4 (some .int) [(0, 9, 12, 13), (0, 9, 15, 17)] ∈ gd := List.mem_filter.mpr ⟨List.mem_append_right _ (List.mem_of_getElem? (l := tables_1) (i := 459) (by decide +kernel)), by decide +kernel⟩
set_option maxRecDepth 20000 in
theorem calw_L_write : CalW yL_write cL_write 4 (some .int) [(0, 9, 12, 13), (0, 9, 15, 17)] 3 := ⟨kcw_L_write, ki_L, by decide, by decide +kernel⟩
set_option maxRecDepth 20000 in
theorem kz_L_write : Cond.static yL_write ∈ gd := List.mem_filter.mpr ⟨List.mem_append_right _ (List.mem_of_getElem? (l := tables_1) (i := 458) (by decide +kernel)), by decide +kernel⟩
set_option maxRecDepth 20000 in
theorem kmL_50 : Cond.methodLink RL 50 yX11_exercise ∈ gd := List.mem_filter.mpr ⟨List.mem_append_right _ (List.mem_of_getElem? (l := tables_1) (i := 679) (by decide +kernel)), by decide +kernel⟩
set_option maxRecDepth 20000 in
theorem kc_X11_exercise : Cond.code yX11_exercise cX11_exercise 6 (some .int) ∈ gd := List.mem_filter.mpr ⟨List.mem_append_right _ (List.mem_of_getElem? (l := tables_1) (i := 682) (by decide +kernel)), by decide +kernel⟩
set_option maxRecDepth 20000 in
theorem cal_X11_exercise : CalOK yX11_exercise cX11_exercise 6 (some .int) 3 := ⟨kc_X11_exercise, ki_X11, by decide, by decide +kernel⟩
set_option maxRecDepth 20000 in
theorem kn_X11_exercise : Cond.instanceMethod yX11_exercise ∈ gd := List.mem_filter.mpr ⟨List.mem_append_right _ (List.mem_of_getElem? (l := tables_1) (i := 680) (by decide +kernel)), by decide +kernel⟩
set_option maxRecDepth 20000 in
theorem ks_X11_exercise : Cond.selects yX11_exercise.cls yX11_exercise yX11_exercise ∈ gd := List.mem_filter.mpr ⟨List.mem_append_right _ (List.mem_of_getElem? (l := tables_1) (i := 681) (by decide +kernel)), by decide +kernel⟩
set_option maxRecDepth 20000 in
theorem kcw_L_exercise : Cond.codeWith yL_exercise cL_exercise 6 (some .int) [(0, 12, 15, 13), (0, 12, 19, 15), (0, 12, 23, 17)] ∈ gd := List.mem_filter.mpr ⟨List.mem_append_right _ (List.mem_of_getElem? (l := tables_1) (i := 678) (by decide +kernel)), by decide +kernel⟩
set_option maxRecDepth 20000 in
theorem calw_L_exercise : CalW yL_exercise cL_exercise 6 (some .int) [(0, 12, 15, 13), (0, 12, 19, 15), (0, 12, 23, 17)] 5 := ⟨kcw_L_exercise, ki_L, by decide, by decide +kernel⟩
set_option maxRecDepth 20000 in
theorem kz_L_exercise : Cond.static yL_exercise ∈ gd := List.mem_filter.mpr ⟨List.mem_append_right _ (List.mem_of_getElem? (l := tables_1) (i := 677) (by decide +kernel)), by decide +kernel⟩
set_option maxRecDepth 20000 in
theorem kmL_54 : Cond.methodLink RL 54 yX11_allow ∈ gd := List.mem_filter.mpr ⟨List.mem_append_right _ (List.mem_of_getElem? (l := tables_1) (i := 711) (by decide +kernel)), by decide +kernel⟩
set_option maxRecDepth 20000 in
theorem kc_X11_allow : Cond.code yX11_allow cX11_allow 5 (some .int) ∈ gd := List.mem_filter.mpr ⟨List.mem_append_right _ (List.mem_of_getElem? (l := tables_1) (i := 714) (by decide +kernel)), by decide +kernel⟩
set_option maxRecDepth 20000 in
theorem cal_X11_allow : CalOK yX11_allow cX11_allow 5 (some .int) 3 := ⟨kc_X11_allow, ki_X11, by decide, by decide +kernel⟩
set_option maxRecDepth 20000 in
theorem kn_X11_allow : Cond.instanceMethod yX11_allow ∈ gd := List.mem_filter.mpr ⟨List.mem_append_right _ (List.mem_of_getElem? (l := tables_1) (i := 712) (by decide +kernel)), by decide +kernel⟩
set_option maxRecDepth 20000 in
theorem ks_X11_allow : Cond.selects yX11_allow.cls yX11_allow yX11_allow ∈ gd := List.mem_filter.mpr ⟨List.mem_append_right _ (List.mem_of_getElem? (l := tables_1) (i := 713) (by decide +kernel)), by decide +kernel⟩
set_option maxRecDepth 20000 in
theorem kcw_L_allow : Cond.codeWith yL_allow cL_allow 6 (some .int) [(0, 12, 15, 13), (0, 12, 19, 15)] ∈ gd := List.mem_filter.mpr ⟨List.mem_append_right _ (List.mem_of_getElem? (l := tables_1) (i := 710) (by decide +kernel)), by decide +kernel⟩
set_option maxRecDepth 20000 in
theorem calw_L_allow : CalW yL_allow cL_allow 6 (some .int) [(0, 12, 15, 13), (0, 12, 19, 15)] 5 := ⟨kcw_L_allow, ki_L, by decide, by decide +kernel⟩
set_option maxRecDepth 20000 in
theorem kz_L_allow : Cond.static yL_allow ∈ gd := List.mem_filter.mpr ⟨List.mem_append_right _ (List.mem_of_getElem? (l := tables_1) (i := 709) (by decide +kernel)), by decide +kernel⟩
set_option maxRecDepth 20000 in
theorem kmL_57 : Cond.methodLink RL 57 yX11_handIn ∈ gd := List.mem_filter.mpr ⟨List.mem_append_right _ (List.mem_of_getElem? (l := tables_1) (i := 787) (by decide +kernel)), by decide +kernel⟩
set_option maxRecDepth 20000 in
theorem kc_X11_handIn : Cond.code yX11_handIn cX11_handIn 6 (some .int) ∈ gd := List.mem_filter.mpr ⟨List.mem_append_right _ (List.mem_of_getElem? (l := tables_1) (i := 790) (by decide +kernel)), by decide +kernel⟩
set_option maxRecDepth 20000 in
theorem cal_X11_handIn : CalOK yX11_handIn cX11_handIn 6 (some .int) 2 := ⟨kc_X11_handIn, ki_X11, by decide, by decide +kernel⟩
set_option maxRecDepth 20000 in
theorem kn_X11_handIn : Cond.instanceMethod yX11_handIn ∈ gd := List.mem_filter.mpr ⟨List.mem_append_right _ (List.mem_of_getElem? (l := tables_1) (i := 788) (by decide +kernel)), by decide +kernel⟩
set_option maxRecDepth 20000 in
theorem ks_X11_handIn : Cond.selects yX11_handIn.cls yX11_handIn yX11_handIn ∈ gd := List.mem_filter.mpr ⟨List.mem_append_right _ (List.mem_of_getElem? (l := tables_1) (i := 789) (by decide +kernel)), by decide +kernel⟩
set_option maxRecDepth 20000 in
theorem kcw_L_handIn : Cond.codeWith yL_handIn cL_handIn 5 (some .int) [(0, 10, 13, 13), (0, 10, 17, 17)] ∈ gd := List.mem_filter.mpr ⟨List.mem_append_right _ (List.mem_of_getElem? (l := tables_1) (i := 786) (by decide +kernel)), by decide +kernel⟩
set_option maxRecDepth 20000 in
theorem calw_L_handIn : CalW yL_handIn cL_handIn 5 (some .int) [(0, 10, 13, 13), (0, 10, 17, 17)] 4 := ⟨kcw_L_handIn, ki_L, by decide, by decide +kernel⟩
set_option maxRecDepth 20000 in
theorem kz_L_handIn : Cond.static yL_handIn ∈ gd := List.mem_filter.mpr ⟨List.mem_append_right _ (List.mem_of_getElem? (l := tables_1) (i := 785) (by decide +kernel)), by decide +kernel⟩
set_option maxRecDepth 20000 in
theorem kmL_61 : Cond.methodLink RL 61 yX11_clear ∈ gd := List.mem_filter.mpr ⟨List.mem_append_right _ (List.mem_of_getElem? (l := tables_1) (i := 838) (by decide +kernel)), by decide +kernel⟩
set_option maxRecDepth 20000 in
theorem kc_X11_clear : Cond.code yX11_clear cX11_clear 5 (some .boolean) ∈ gd := List.mem_filter.mpr ⟨List.mem_append_right _ (List.mem_of_getElem? (l := tables_1) (i := 841) (by decide +kernel)), by decide +kernel⟩
set_option maxRecDepth 20000 in
theorem cal_X11_clear : CalOK yX11_clear cX11_clear 5 (some .boolean) 2 := ⟨kc_X11_clear, ki_X11, by decide, by decide +kernel⟩
set_option maxRecDepth 20000 in
theorem kn_X11_clear : Cond.instanceMethod yX11_clear ∈ gd := List.mem_filter.mpr ⟨List.mem_append_right _ (List.mem_of_getElem? (l := tables_1) (i := 839) (by decide +kernel)), by decide +kernel⟩
set_option maxRecDepth 20000 in
theorem ks_X11_clear : Cond.selects yX11_clear.cls yX11_clear yX11_clear ∈ gd := List.mem_filter.mpr ⟨List.mem_append_right _ (List.mem_of_getElem? (l := tables_1) (i := 840) (by decide +kernel)), by decide +kernel⟩
set_option maxRecDepth 20000 in
theorem kcw_L_clear : Cond.codeWith yL_clear cL_clear 5 (some .int) [(0, 17, 20, 13)] ∈ gd := List.mem_filter.mpr ⟨List.mem_append_right _ (List.mem_of_getElem? (l := tables_1) (i := 837) (by decide +kernel)), by decide +kernel⟩
set_option maxRecDepth 20000 in
theorem calw_L_clear : CalW yL_clear cL_clear 5 (some .int) [(0, 17, 20, 13)] 4 := ⟨kcw_L_clear, ki_L, by decide, by decide +kernel⟩
set_option maxRecDepth 20000 in
theorem kz_L_clear : Cond.static yL_clear ∈ gd := List.mem_filter.mpr ⟨List.mem_append_right _ (List.mem_of_getElem? (l := tables_1) (i := 836) (by decide +kernel)), by decide +kernel⟩
set_option maxRecDepth 20000 in
theorem kmL_65 : Cond.methodLink RL 65 yX11_setWall ∈ gd := List.mem_filter.mpr ⟨List.mem_append_right _ (List.mem_of_getElem? (l := tables_1) (i := 850) (by decide +kernel)), by decide +kernel⟩
set_option maxRecDepth 20000 in
theorem kc_X11_setWall : Cond.code yX11_setWall cX11_setWall 3 (some .int) ∈ gd := List.mem_filter.mpr ⟨List.mem_append_right _ (List.mem_of_getElem? (l := tables_1) (i := 853) (by decide +kernel)), by decide +kernel⟩
set_option maxRecDepth 20000 in
theorem cal_X11_setWall : CalOK yX11_setWall cX11_setWall 3 (some .int) 2 := ⟨kc_X11_setWall, ki_X11, by decide, by decide +kernel⟩
set_option maxRecDepth 20000 in
theorem kn_X11_setWall : Cond.instanceMethod yX11_setWall ∈ gd := List.mem_filter.mpr ⟨List.mem_append_right _ (List.mem_of_getElem? (l := tables_1) (i := 851) (by decide +kernel)), by decide +kernel⟩
set_option maxRecDepth 20000 in
theorem ks_X11_setWall : Cond.selects yX11_setWall.cls yX11_setWall yX11_setWall ∈ gd := List.mem_filter.mpr ⟨List.mem_append_right _ (List.mem_of_getElem? (l := tables_1) (i := 852) (by decide +kernel)), by decide +kernel⟩
set_option maxRecDepth 20000 in
theorem kcw_L_setWall : Cond.codeWith yL_setWall cL_setWall 5 (some .int) [(0, 10, 13, 15)] ∈ gd := List.mem_filter.mpr ⟨List.mem_append_right _ (List.mem_of_getElem? (l := tables_1) (i := 849) (by decide +kernel)), by decide +kernel⟩
set_option maxRecDepth 20000 in
theorem calw_L_setWall : CalW yL_setWall cL_setWall 5 (some .int) [(0, 10, 13, 15)] 4 := ⟨kcw_L_setWall, ki_L, by decide, by decide +kernel⟩
set_option maxRecDepth 20000 in
theorem kz_L_setWall : Cond.static yL_setWall ∈ gd := List.mem_filter.mpr ⟨List.mem_append_right _ (List.mem_of_getElem? (l := tables_1) (i := 848) (by decide +kernel)), by decide +kernel⟩
set_option maxRecDepth 20000 in
theorem kmL_68 : Cond.methodLink RL 68 yX11_fault ∈ gd := List.mem_filter.mpr ⟨List.mem_append_right _ (List.mem_of_getElem? (l := tables_1) (i := 866) (by decide +kernel)), by decide +kernel⟩
set_option maxRecDepth 20000 in
theorem kc_X11_fault : Cond.code yX11_fault cX11_fault 2 (some .int) ∈ gd := List.mem_filter.mpr ⟨List.mem_append_right _ (List.mem_of_getElem? (l := tables_1) (i := 869) (by decide +kernel)), by decide +kernel⟩
set_option maxRecDepth 20000 in
theorem cal_X11_fault : CalOK yX11_fault cX11_fault 2 (some .int) 1 := ⟨kc_X11_fault, ki_X11, by decide, by decide +kernel⟩
set_option maxRecDepth 20000 in
theorem kn_X11_fault : Cond.instanceMethod yX11_fault ∈ gd := List.mem_filter.mpr ⟨List.mem_append_right _ (List.mem_of_getElem? (l := tables_1) (i := 867) (by decide +kernel)), by decide +kernel⟩
set_option maxRecDepth 20000 in
theorem ks_X11_fault : Cond.selects yX11_fault.cls yX11_fault yX11_fault ∈ gd := List.mem_filter.mpr ⟨List.mem_append_right _ (List.mem_of_getElem? (l := tables_1) (i := 868) (by decide +kernel)), by decide +kernel⟩
set_option maxRecDepth 20000 in
theorem kcw_L_fault : Cond.codeWith yL_fault cL_fault 4 (some .int) [(0, 9, 12, 13)] ∈ gd := List.mem_filter.mpr ⟨List.mem_append_right _ (List.mem_of_getElem? (l := tables_1) (i := 865) (by decide +kernel)), by decide +kernel⟩
set_option maxRecDepth 20000 in
theorem calw_L_fault : CalW yL_fault cL_fault 4 (some .int) [(0, 9, 12, 13)] 3 := ⟨kcw_L_fault, ki_L, by decide, by decide +kernel⟩
set_option maxRecDepth 20000 in
theorem kz_L_fault : Cond.static yL_fault ∈ gd := List.mem_filter.mpr ⟨List.mem_append_right _ (List.mem_of_getElem? (l := tables_1) (i := 864) (by decide +kernel)), by decide +kernel⟩
set_option maxRecDepth 20000 in
theorem kmL_71 : Cond.methodLink RL 71 yX11_steps ∈ gd := List.mem_filter.mpr ⟨List.mem_append_right _ (List.mem_of_getElem? (l := tables_1) (i := 873) (by decide +kernel)), by decide +kernel⟩
set_option maxRecDepth 20000 in
theorem kc_X11_steps : Cond.code yX11_steps cX11_steps 2 (some .int) ∈ gd := List.mem_filter.mpr ⟨List.mem_append_right _ (List.mem_of_getElem? (l := tables_1) (i := 876) (by decide +kernel)), by decide +kernel⟩
set_option maxRecDepth 20000 in
theorem cal_X11_steps : CalOK yX11_steps cX11_steps 2 (some .int) 1 := ⟨kc_X11_steps, ki_X11, by decide, by decide +kernel⟩
set_option maxRecDepth 20000 in
theorem kn_X11_steps : Cond.instanceMethod yX11_steps ∈ gd := List.mem_filter.mpr ⟨List.mem_append_right _ (List.mem_of_getElem? (l := tables_1) (i := 874) (by decide +kernel)), by decide +kernel⟩
set_option maxRecDepth 20000 in
theorem ks_X11_steps : Cond.selects yX11_steps.cls yX11_steps yX11_steps ∈ gd := List.mem_filter.mpr ⟨List.mem_append_right _ (List.mem_of_getElem? (l := tables_1) (i := 875) (by decide +kernel)), by decide +kernel⟩
set_option maxRecDepth 20000 in
theorem kcw_L_steps : Cond.codeWith yL_steps cL_steps 4 (some .int) [(0, 9, 12, 13)] ∈ gd := List.mem_filter.mpr ⟨List.mem_append_right _ (List.mem_of_getElem? (l := tables_1) (i := 872) (by decide +kernel)), by decide +kernel⟩
set_option maxRecDepth 20000 in
theorem calw_L_steps : CalW yL_steps cL_steps 4 (some .int) [(0, 9, 12, 13)] 3 := ⟨kcw_L_steps, ki_L, by decide, by decide +kernel⟩
set_option maxRecDepth 20000 in
theorem kz_L_steps : Cond.static yL_steps ∈ gd := List.mem_filter.mpr ⟨List.mem_append_right _ (List.mem_of_getElem? (l := tables_1) (i := 871) (by decide +kernel)), by decide +kernel⟩
set_option maxRecDepth 20000 in
theorem kmL_74 : Cond.methodLink RL 74 yX11_strokes ∈ gd := List.mem_filter.mpr ⟨List.mem_append_right _ (List.mem_of_getElem? (l := tables_1) (i := 880) (by decide +kernel)), by decide +kernel⟩
set_option maxRecDepth 20000 in
theorem kc_X11_strokes : Cond.code yX11_strokes cX11_strokes 2 (some .int) ∈ gd := List.mem_filter.mpr ⟨List.mem_append_right _ (List.mem_of_getElem? (l := tables_1) (i := 883) (by decide +kernel)), by decide +kernel⟩
set_option maxRecDepth 20000 in
theorem cal_X11_strokes : CalOK yX11_strokes cX11_strokes 2 (some .int) 1 := ⟨kc_X11_strokes, ki_X11, by decide, by decide +kernel⟩
set_option maxRecDepth 20000 in
theorem kn_X11_strokes : Cond.instanceMethod yX11_strokes ∈ gd := List.mem_filter.mpr ⟨List.mem_append_right _ (List.mem_of_getElem? (l := tables_1) (i := 881) (by decide +kernel)), by decide +kernel⟩
set_option maxRecDepth 20000 in
theorem ks_X11_strokes : Cond.selects yX11_strokes.cls yX11_strokes yX11_strokes ∈ gd := List.mem_filter.mpr ⟨List.mem_append_right _ (List.mem_of_getElem? (l := tables_1) (i := 882) (by decide +kernel)), by decide +kernel⟩
set_option maxRecDepth 20000 in
theorem kcw_L_strokes : Cond.codeWith yL_strokes cL_strokes 4 (some .int) [(0, 9, 12, 13)] ∈ gd := List.mem_filter.mpr ⟨List.mem_append_right _ (List.mem_of_getElem? (l := tables_1) (i := 879) (by decide +kernel)), by decide +kernel⟩
set_option maxRecDepth 20000 in
theorem calw_L_strokes : CalW yL_strokes cL_strokes 4 (some .int) [(0, 9, 12, 13)] 3 := ⟨kcw_L_strokes, ki_L, by decide, by decide +kernel⟩
set_option maxRecDepth 20000 in
theorem kz_L_strokes : Cond.static yL_strokes ∈ gd := List.mem_filter.mpr ⟨List.mem_append_right _ (List.mem_of_getElem? (l := tables_1) (i := 878) (by decide +kernel)), by decide +kernel⟩
set_option maxRecDepth 20000 in
theorem kmL_77 : Cond.methodLink RL 77 yX11_strokesBySteps ∈ gd := List.mem_filter.mpr ⟨List.mem_append_right _ (List.mem_of_getElem? (l := tables_1) (i := 887) (by decide +kernel)), by decide +kernel⟩
set_option maxRecDepth 20000 in
theorem kc_X11_strokesBySteps : Cond.code yX11_strokesBySteps cX11_strokesBySteps 4 (some .int) ∈ gd := List.mem_filter.mpr ⟨List.mem_append_right _ (List.mem_of_getElem? (l := tables_1) (i := 890) (by decide +kernel)), by decide +kernel⟩
set_option maxRecDepth 20000 in
theorem cal_X11_strokesBySteps : CalOK yX11_strokesBySteps cX11_strokesBySteps 4 (some .int) 2 := ⟨kc_X11_strokesBySteps, ki_X11, by decide, by decide +kernel⟩
set_option maxRecDepth 20000 in
theorem kn_X11_strokesBySteps : Cond.instanceMethod yX11_strokesBySteps ∈ gd := List.mem_filter.mpr ⟨List.mem_append_right _ (List.mem_of_getElem? (l := tables_1) (i := 888) (by decide +kernel)), by decide +kernel⟩
set_option maxRecDepth 20000 in
theorem ks_X11_strokesBySteps : Cond.selects yX11_strokesBySteps.cls yX11_strokesBySteps yX11_strokesBySteps ∈ gd := List.mem_filter.mpr ⟨List.mem_append_right _ (List.mem_of_getElem? (l := tables_1) (i := 889) (by decide +kernel)), by decide +kernel⟩
set_option maxRecDepth 20000 in
theorem kcw_L_strokesBySteps : Cond.codeWith yL_strokesBySteps cL_strokesBySteps 5 (some .int) [(0, 10, 13, 13), (0, 10, 17, 15)] ∈ gd := List.mem_filter.mpr ⟨List.mem_append_right _ (List.mem_of_getElem? (l := tables_1) (i := 886) (by decide +kernel)), by decide +kernel⟩
set_option maxRecDepth 20000 in
theorem calw_L_strokesBySteps : CalW yL_strokesBySteps cL_strokesBySteps 5 (some .int) [(0, 10, 13, 13), (0, 10, 17, 15)] 4 := ⟨kcw_L_strokesBySteps, ki_L, by decide, by decide +kernel⟩
set_option maxRecDepth 20000 in
theorem kz_L_strokesBySteps : Cond.static yL_strokesBySteps ∈ gd := List.mem_filter.mpr ⟨List.mem_append_right _ (List.mem_of_getElem? (l := tables_1) (i := 885) (by decide +kernel)), by decide +kernel⟩
set_option maxRecDepth 20000 in
theorem kmL_80 : Cond.methodLink RL 80 yX11_isDrawn ∈ gd := List.mem_filter.mpr ⟨List.mem_append_right _ (List.mem_of_getElem? (l := tables_1) (i := 899) (by decide +kernel)), by decide +kernel⟩
set_option maxRecDepth 20000 in
theorem kc_X11_isDrawn : Cond.code yX11_isDrawn cX11_isDrawn 6 (some .boolean) ∈ gd := List.mem_filter.mpr ⟨List.mem_append_right _ (List.mem_of_getElem? (l := tables_1) (i := 902) (by decide +kernel)), by decide +kernel⟩
set_option maxRecDepth 20000 in
theorem cal_X11_isDrawn : CalOK yX11_isDrawn cX11_isDrawn 6 (some .boolean) 4 := ⟨kc_X11_isDrawn, ki_X11, by decide, by decide +kernel⟩
set_option maxRecDepth 20000 in
theorem kn_X11_isDrawn : Cond.instanceMethod yX11_isDrawn ∈ gd := List.mem_filter.mpr ⟨List.mem_append_right _ (List.mem_of_getElem? (l := tables_1) (i := 900) (by decide +kernel)), by decide +kernel⟩
set_option maxRecDepth 20000 in
theorem ks_X11_isDrawn : Cond.selects yX11_isDrawn.cls yX11_isDrawn yX11_isDrawn ∈ gd := List.mem_filter.mpr ⟨List.mem_append_right _ (List.mem_of_getElem? (l := tables_1) (i := 901) (by decide +kernel)), by decide +kernel⟩
set_option maxRecDepth 20000 in
theorem kcw_L_isDrawn : Cond.codeWith yL_isDrawn cL_isDrawn 7 (some .int) [(0, 21, 24, 13)] ∈ gd := List.mem_filter.mpr ⟨List.mem_append_right _ (List.mem_of_getElem? (l := tables_1) (i := 898) (by decide +kernel)), by decide +kernel⟩
set_option maxRecDepth 20000 in
theorem calw_L_isDrawn : CalW yL_isDrawn cL_isDrawn 7 (some .int) [(0, 21, 24, 13)] 6 := ⟨kcw_L_isDrawn, ki_L, by decide, by decide +kernel⟩
set_option maxRecDepth 20000 in
theorem kz_L_isDrawn : Cond.static yL_isDrawn ∈ gd := List.mem_filter.mpr ⟨List.mem_append_right _ (List.mem_of_getElem? (l := tables_1) (i := 897) (by decide +kernel)), by decide +kernel⟩
set_option maxRecDepth 20000 in
theorem kmL_84 : Cond.methodLink RL 84 yX11_areAlike ∈ gd := List.mem_filter.mpr ⟨List.mem_append_right _ (List.mem_of_getElem? (l := tables_1) (i := 912) (by decide +kernel)), by decide +kernel⟩
set_option maxRecDepth 20000 in
theorem kc_X11_areAlike : Cond.code yX11_areAlike cX11_areAlike 5 (some .boolean) ∈ gd := List.mem_filter.mpr ⟨List.mem_append_right _ (List.mem_of_getElem? (l := tables_1) (i := 915) (by decide +kernel)), by decide +kernel⟩
set_option maxRecDepth 20000 in
theorem cal_X11_areAlike : CalOK yX11_areAlike cX11_areAlike 5 (some .boolean) 2 := ⟨kc_X11_areAlike, ki_X11, by decide, by decide +kernel⟩
set_option maxRecDepth 20000 in
theorem kn_X11_areAlike : Cond.instanceMethod yX11_areAlike ∈ gd := List.mem_filter.mpr ⟨List.mem_append_right _ (List.mem_of_getElem? (l := tables_1) (i := 913) (by decide +kernel)), by decide +kernel⟩
set_option maxRecDepth 20000 in
theorem ks_X11_areAlike : Cond.selects yX11_areAlike.cls yX11_areAlike yX11_areAlike ∈ gd := List.mem_filter.mpr ⟨List.mem_append_right _ (List.mem_of_getElem? (l := tables_1) (i := 914) (by decide +kernel)), by decide +kernel⟩
set_option maxRecDepth 20000 in
theorem kcw_L_areAlike : Cond.codeWith yL_areAlike cL_areAlike 5 (some .int) [(0, 17, 20, 13)] ∈ gd := List.mem_filter.mpr ⟨List.mem_append_right _ (List.mem_of_getElem? (l := tables_1) (i := 911) (by decide +kernel)), by decide +kernel⟩
set_option maxRecDepth 20000 in
theorem calw_L_areAlike : CalW yL_areAlike cL_areAlike 5 (some .int) [(0, 17, 20, 13)] 4 := ⟨kcw_L_areAlike, ki_L, by decide, by decide +kernel⟩
set_option maxRecDepth 20000 in
theorem kz_L_areAlike : Cond.static yL_areAlike ∈ gd := List.mem_filter.mpr ⟨List.mem_append_right _ (List.mem_of_getElem? (l := tables_1) (i := 910) (by decide +kernel)), by decide +kernel⟩
set_option maxRecDepth 20000 in
theorem kmL_88 : Cond.methodLink RL 88 yX11_haveOneForm ∈ gd := List.mem_filter.mpr ⟨List.mem_append_right _ (List.mem_of_getElem? (l := tables_1) (i := 920) (by decide +kernel)), by decide +kernel⟩
set_option maxRecDepth 20000 in
theorem kc_X11_haveOneForm : Cond.code yX11_haveOneForm cX11_haveOneForm 5 (some .boolean) ∈ gd := List.mem_filter.mpr ⟨List.mem_append_right _ (List.mem_of_getElem? (l := tables_1) (i := 923) (by decide +kernel)), by decide +kernel⟩
set_option maxRecDepth 20000 in
theorem cal_X11_haveOneForm : CalOK yX11_haveOneForm cX11_haveOneForm 5 (some .boolean) 2 := ⟨kc_X11_haveOneForm, ki_X11, by decide, by decide +kernel⟩
set_option maxRecDepth 20000 in
theorem kn_X11_haveOneForm : Cond.instanceMethod yX11_haveOneForm ∈ gd := List.mem_filter.mpr ⟨List.mem_append_right _ (List.mem_of_getElem? (l := tables_1) (i := 921) (by decide +kernel)), by decide +kernel⟩
set_option maxRecDepth 20000 in
theorem ks_X11_haveOneForm : Cond.selects yX11_haveOneForm.cls yX11_haveOneForm yX11_haveOneForm ∈ gd := List.mem_filter.mpr ⟨List.mem_append_right _ (List.mem_of_getElem? (l := tables_1) (i := 922) (by decide +kernel)), by decide +kernel⟩
set_option maxRecDepth 20000 in
theorem kcw_L_haveOneForm : Cond.codeWith yL_haveOneForm cL_haveOneForm 5 (some .int) [(0, 17, 20, 13)] ∈ gd := List.mem_filter.mpr ⟨List.mem_append_right _ (List.mem_of_getElem? (l := tables_1) (i := 919) (by decide +kernel)), by decide +kernel⟩
set_option maxRecDepth 20000 in
theorem calw_L_haveOneForm : CalW yL_haveOneForm cL_haveOneForm 5 (some .int) [(0, 17, 20, 13)] 4 := ⟨kcw_L_haveOneForm, ki_L, by decide, by decide +kernel⟩
set_option maxRecDepth 20000 in
theorem kz_L_haveOneForm : Cond.static yL_haveOneForm ∈ gd := List.mem_filter.mpr ⟨List.mem_append_right _ (List.mem_of_getElem? (l := tables_1) (i := 918) (by decide +kernel)), by decide +kernel⟩
set_option maxRecDepth 20000 in
theorem kmL_91 : Cond.methodLink RL 91 yX11_likeness ∈ gd := List.mem_filter.mpr ⟨List.mem_append_right _ (List.mem_of_getElem? (l := tables_1) (i := 927) (by decide +kernel)), by decide +kernel⟩
set_option maxRecDepth 20000 in
theorem kc_X11_likeness : Cond.code yX11_likeness cX11_likeness 6 (some .int) ∈ gd := List.mem_filter.mpr ⟨List.mem_append_right _ (List.mem_of_getElem? (l := tables_1) (i := 930) (by decide +kernel)), by decide +kernel⟩
set_option maxRecDepth 20000 in
theorem cal_X11_likeness : CalOK yX11_likeness cX11_likeness 6 (some .int) 2 := ⟨kc_X11_likeness, ki_X11, by decide, by decide +kernel⟩
set_option maxRecDepth 20000 in
theorem kn_X11_likeness : Cond.instanceMethod yX11_likeness ∈ gd := List.mem_filter.mpr ⟨List.mem_append_right _ (List.mem_of_getElem? (l := tables_1) (i := 928) (by decide +kernel)), by decide +kernel⟩
set_option maxRecDepth 20000 in
theorem ks_X11_likeness : Cond.selects yX11_likeness.cls yX11_likeness yX11_likeness ∈ gd := List.mem_filter.mpr ⟨List.mem_append_right _ (List.mem_of_getElem? (l := tables_1) (i := 929) (by decide +kernel)), by decide +kernel⟩
set_option maxRecDepth 20000 in
theorem kcw_L_likeness : Cond.codeWith yL_likeness cL_likeness 5 (some .int) [(0, 10, 13, 13)] ∈ gd := List.mem_filter.mpr ⟨List.mem_append_right _ (List.mem_of_getElem? (l := tables_1) (i := 926) (by decide +kernel)), by decide +kernel⟩
set_option maxRecDepth 20000 in
theorem calw_L_likeness : CalW yL_likeness cL_likeness 5 (some .int) [(0, 10, 13, 13)] 4 := ⟨kcw_L_likeness, ki_L, by decide, by decide +kernel⟩
set_option maxRecDepth 20000 in
theorem kz_L_likeness : Cond.static yL_likeness ∈ gd := List.mem_filter.mpr ⟨List.mem_append_right _ (List.mem_of_getElem? (l := tables_1) (i := 925) (by decide +kernel)), by decide +kernel⟩
set_option maxRecDepth 20000 in
theorem kmL_94 : Cond.methodLink RL 94 yX11_meets ∈ gd := List.mem_filter.mpr ⟨List.mem_append_right _ (List.mem_of_getElem? (l := tables_1) (i := 947) (by decide +kernel)), by decide +kernel⟩
set_option maxRecDepth 20000 in
theorem kc_X11_meets : Cond.code yX11_meets cX11_meets 2 (some .boolean) ∈ gd := List.mem_filter.mpr ⟨List.mem_append_right _ (List.mem_of_getElem? (l := tables_1) (i := 950) (by decide +kernel)), by decide +kernel⟩
set_option maxRecDepth 20000 in
theorem cal_X11_meets : CalOK yX11_meets cX11_meets 2 (some .boolean) 1 := ⟨kc_X11_meets, ki_X11, by decide, by decide +kernel⟩
set_option maxRecDepth 20000 in
theorem kn_X11_meets : Cond.instanceMethod yX11_meets ∈ gd := List.mem_filter.mpr ⟨List.mem_append_right _ (List.mem_of_getElem? (l := tables_1) (i := 948) (by decide +kernel)), by decide +kernel⟩
set_option maxRecDepth 20000 in
theorem ks_X11_meets : Cond.selects yX11_meets.cls yX11_meets yX11_meets ∈ gd := List.mem_filter.mpr ⟨List.mem_append_right _ (List.mem_of_getElem? (l := tables_1) (i := 949) (by decide +kernel)), by decide +kernel⟩
set_option maxRecDepth 20000 in
theorem kcw_L_meets : Cond.codeWith yL_meets cL_meets 4 (some .int) [(0, 16, 19, 13)] ∈ gd := List.mem_filter.mpr ⟨List.mem_append_right _ (List.mem_of_getElem? (l := tables_1) (i := 946) (by decide +kernel)), by decide +kernel⟩
set_option maxRecDepth 20000 in
theorem calw_L_meets : CalW yL_meets cL_meets 4 (some .int) [(0, 16, 19, 13)] 3 := ⟨kcw_L_meets, ki_L, by decide, by decide +kernel⟩
set_option maxRecDepth 20000 in
theorem kz_L_meets : Cond.static yL_meets ∈ gd := List.mem_filter.mpr ⟨List.mem_append_right _ (List.mem_of_getElem? (l := tables_1) (i := 945) (by decide +kernel)), by decide +kernel⟩
set_option maxRecDepth 20000 in
theorem kmL_98 : Cond.methodLink RL 98 yX11_copyOf ∈ gd := List.mem_filter.mpr ⟨List.mem_append_right _ (List.mem_of_getElem? (l := tables_1) (i := 954) (by decide +kernel)), by decide +kernel⟩
set_option maxRecDepth 20000 in
theorem kc_X11_copyOf : Cond.code yX11_copyOf cX11_copyOf 2 (some .int) ∈ gd := List.mem_filter.mpr ⟨List.mem_append_right _ (List.mem_of_getElem? (l := tables_1) (i := 957) (by decide +kernel)), by decide +kernel⟩
set_option maxRecDepth 20000 in
theorem cal_X11_copyOf : CalOK yX11_copyOf cX11_copyOf 2 (some .int) 1 := ⟨kc_X11_copyOf, ki_X11, by decide, by decide +kernel⟩
set_option maxRecDepth 20000 in
theorem kn_X11_copyOf : Cond.instanceMethod yX11_copyOf ∈ gd := List.mem_filter.mpr ⟨List.mem_append_right _ (List.mem_of_getElem? (l := tables_1) (i := 955) (by decide +kernel)), by decide +kernel⟩
set_option maxRecDepth 20000 in
theorem ks_X11_copyOf : Cond.selects yX11_copyOf.cls yX11_copyOf yX11_copyOf ∈ gd := List.mem_filter.mpr ⟨List.mem_append_right _ (List.mem_of_getElem? (l := tables_1) (i := 956) (by decide +kernel)), by decide +kernel⟩
set_option maxRecDepth 20000 in
theorem kcw_L_copyOf : Cond.codeWith yL_copyOf cL_copyOf 4 (some .int) [(0, 9, 12, 13)] ∈ gd := List.mem_filter.mpr ⟨List.mem_append_right _ (List.mem_of_getElem? (l := tables_1) (i := 953) (by decide +kernel)), by decide +kernel⟩
set_option maxRecDepth 20000 in
theorem calw_L_copyOf : CalW yL_copyOf cL_copyOf 4 (some .int) [(0, 9, 12, 13)] 3 := ⟨kcw_L_copyOf, ki_L, by decide, by decide +kernel⟩
set_option maxRecDepth 20000 in
theorem kz_L_copyOf : Cond.static yL_copyOf ∈ gd := List.mem_filter.mpr ⟨List.mem_append_right _ (List.mem_of_getElem? (l := tables_1) (i := 952) (by decide +kernel)), by decide +kernel⟩
set_option maxRecDepth 20000 in
theorem kmL_101 : Cond.methodLink RL 101 yX11_hangs ∈ gd := List.mem_filter.mpr ⟨List.mem_append_right _ (List.mem_of_getElem? (l := tables_1) (i := 961) (by decide +kernel)), by decide +kernel⟩
set_option maxRecDepth 20000 in
theorem kc_X11_hangs : Cond.code yX11_hangs cX11_hangs 3 (some .int) ∈ gd := List.mem_filter.mpr ⟨List.mem_append_right _ (List.mem_of_getElem? (l := tables_1) (i := 964) (by decide +kernel)), by decide +kernel⟩
set_option maxRecDepth 20000 in
theorem cal_X11_hangs : CalOK yX11_hangs cX11_hangs 3 (some .int) 1 := ⟨kc_X11_hangs, ki_X11, by decide, by decide +kernel⟩
set_option maxRecDepth 20000 in
theorem kn_X11_hangs : Cond.instanceMethod yX11_hangs ∈ gd := List.mem_filter.mpr ⟨List.mem_append_right _ (List.mem_of_getElem? (l := tables_1) (i := 962) (by decide +kernel)), by decide +kernel⟩
set_option maxRecDepth 20000 in
theorem ks_X11_hangs : Cond.selects yX11_hangs.cls yX11_hangs yX11_hangs ∈ gd := List.mem_filter.mpr ⟨List.mem_append_right _ (List.mem_of_getElem? (l := tables_1) (i := 963) (by decide +kernel)), by decide +kernel⟩
set_option maxRecDepth 20000 in
theorem kcw_L_hangs : Cond.codeWith yL_hangs cL_hangs 4 (some .int) [(0, 9, 12, 13)] ∈ gd := List.mem_filter.mpr ⟨List.mem_append_right _ (List.mem_of_getElem? (l := tables_1) (i := 960) (by decide +kernel)), by decide +kernel⟩
set_option maxRecDepth 20000 in
theorem calw_L_hangs : CalW yL_hangs cL_hangs 4 (some .int) [(0, 9, 12, 13)] 3 := ⟨kcw_L_hangs, ki_L, by decide, by decide +kernel⟩
set_option maxRecDepth 20000 in
theorem kz_L_hangs : Cond.static yL_hangs ∈ gd := List.mem_filter.mpr ⟨List.mem_append_right _ (List.mem_of_getElem? (l := tables_1) (i := 959) (by decide +kernel)), by decide +kernel⟩
set_option maxRecDepth 20000 in
theorem kmL_104 : Cond.methodLink RL 104 yX11_onWall ∈ gd := List.mem_filter.mpr ⟨List.mem_append_right _ (List.mem_of_getElem? (l := tables_1) (i := 968) (by decide +kernel)), by decide +kernel⟩
set_option maxRecDepth 20000 in
theorem kc_X11_onWall : Cond.code yX11_onWall cX11_onWall 5 (some .int) ∈ gd := List.mem_filter.mpr ⟨List.mem_append_right _ (List.mem_of_getElem? (l := tables_1) (i := 971) (by decide +kernel)), by decide +kernel⟩
set_option maxRecDepth 20000 in
theorem cal_X11_onWall : CalOK yX11_onWall cX11_onWall 5 (some .int) 2 := ⟨kc_X11_onWall, ki_X11, by decide, by decide +kernel⟩
set_option maxRecDepth 20000 in
theorem kn_X11_onWall : Cond.instanceMethod yX11_onWall ∈ gd := List.mem_filter.mpr ⟨List.mem_append_right _ (List.mem_of_getElem? (l := tables_1) (i := 969) (by decide +kernel)), by decide +kernel⟩
set_option maxRecDepth 20000 in
theorem ks_X11_onWall : Cond.selects yX11_onWall.cls yX11_onWall yX11_onWall ∈ gd := List.mem_filter.mpr ⟨List.mem_append_right _ (List.mem_of_getElem? (l := tables_1) (i := 970) (by decide +kernel)), by decide +kernel⟩
set_option maxRecDepth 20000 in
theorem kcw_L_onWall : Cond.codeWith yL_onWall cL_onWall 5 (some .int) [(0, 10, 13, 13)] ∈ gd := List.mem_filter.mpr ⟨List.mem_append_right _ (List.mem_of_getElem? (l := tables_1) (i := 967) (by decide +kernel)), by decide +kernel⟩
set_option maxRecDepth 20000 in
theorem calw_L_onWall : CalW yL_onWall cL_onWall 5 (some .int) [(0, 10, 13, 13)] 4 := ⟨kcw_L_onWall, ki_L, by decide, by decide +kernel⟩
set_option maxRecDepth 20000 in
theorem kz_L_onWall : Cond.static yL_onWall ∈ gd := List.mem_filter.mpr ⟨List.mem_append_right _ (List.mem_of_getElem? (l := tables_1) (i := 966) (by decide +kernel)), by decide +kernel⟩
set_option maxRecDepth 20000 in
theorem kmL_107 : Cond.methodLink RL 107 yX11_hung ∈ gd := List.mem_filter.mpr ⟨List.mem_append_right _ (List.mem_of_getElem? (l := tables_1) (i := 986) (by decide +kernel)), by decide +kernel⟩
set_option maxRecDepth 20000 in
theorem kc_X11_hung : Cond.code yX11_hung cX11_hung 5 (some .int) ∈ gd := List.mem_filter.mpr ⟨List.mem_append_right _ (List.mem_of_getElem? (l := tables_1) (i := 989) (by decide +kernel)), by decide +kernel⟩
set_option maxRecDepth 20000 in
theorem cal_X11_hung : CalOK yX11_hung cX11_hung 5 (some .int) 1 := ⟨kc_X11_hung, ki_X11, by decide, by decide +kernel⟩
set_option maxRecDepth 20000 in
theorem kn_X11_hung : Cond.instanceMethod yX11_hung ∈ gd := List.mem_filter.mpr ⟨List.mem_append_right _ (List.mem_of_getElem? (l := tables_1) (i := 987) (by decide +kernel)), by decide +kernel⟩
set_option maxRecDepth 20000 in
theorem ks_X11_hung : Cond.selects yX11_hung.cls yX11_hung yX11_hung ∈ gd := List.mem_filter.mpr ⟨List.mem_append_right _ (List.mem_of_getElem? (l := tables_1) (i := 988) (by decide +kernel)), by decide +kernel⟩
set_option maxRecDepth 20000 in
theorem kcw_L_hung : Cond.codeWith yL_hung cL_hung 4 (some .int) [(0, 9, 12, 13)] ∈ gd := List.mem_filter.mpr ⟨List.mem_append_right _ (List.mem_of_getElem? (l := tables_1) (i := 985) (by decide +kernel)), by decide +kernel⟩
set_option maxRecDepth 20000 in
theorem calw_L_hung : CalW yL_hung cL_hung 4 (some .int) [(0, 9, 12, 13)] 3 := ⟨kcw_L_hung, ki_L, by decide, by decide +kernel⟩
set_option maxRecDepth 20000 in
theorem kz_L_hung : Cond.static yL_hung ∈ gd := List.mem_filter.mpr ⟨List.mem_append_right _ (List.mem_of_getElem? (l := tables_1) (i := 984) (by decide +kernel)), by decide +kernel⟩
set_option maxRecDepth 20000 in
theorem kmL_114 : Cond.methodLink RL 114 yL_forward ∈ gd := List.mem_filter.mpr ⟨List.mem_append_right _ (List.mem_of_getElem? (l := tables_1) (i := 230) (by decide +kernel)), by decide +kernel⟩
set_option maxRecDepth 20000 in
theorem kmL_119 : Cond.methodLink RL 119 yX12_forward ∈ gd := List.mem_filter.mpr ⟨List.mem_append_right _ (List.mem_of_getElem? (l := tables_1) (i := 1148) (by decide +kernel)), by decide +kernel⟩
set_option maxRecDepth 20000 in
theorem kc_X12_forward : Cond.code yX12_forward cX12_forward 3 (some .int) ∈ gd := List.mem_filter.mpr ⟨List.mem_append_right _ (List.mem_of_getElem? (l := tables_1) (i := 1151) (by decide +kernel)), by decide +kernel⟩
set_option maxRecDepth 20000 in
theorem cal_X12_forward : CalOK yX12_forward cX12_forward 3 (some .int) 2 := ⟨kc_X12_forward, ki_X12, by decide, by decide +kernel⟩
set_option maxRecDepth 20000 in
theorem kn_X12_forward : Cond.instanceMethod yX12_forward ∈ gd := List.mem_filter.mpr ⟨List.mem_append_right _ (List.mem_of_getElem? (l := tables_1) (i := 1149) (by decide +kernel)), by decide +kernel⟩
set_option maxRecDepth 20000 in
theorem ks_X12_forward : Cond.selects yX12_forward.cls yX12_forward yX12_forward ∈ gd := List.mem_filter.mpr ⟨List.mem_append_right _ (List.mem_of_getElem? (l := tables_1) (i := 1150) (by decide +kernel)), by decide +kernel⟩
set_option maxRecDepth 20000 in
theorem kmL_120 : Cond.methodLink RL 120 yX12_thrown ∈ gd := List.mem_filter.mpr ⟨List.mem_append_right _ (List.mem_of_getElem? (l := tables_1) (i := 1144) (by decide +kernel)), by decide +kernel⟩
set_option maxRecDepth 20000 in
theorem kc_X12_thrown : Cond.code yX12_thrown cX12_thrown 1 (some .int) ∈ gd := List.mem_filter.mpr ⟨List.mem_append_right _ (List.mem_of_getElem? (l := tables_1) (i := 1147) (by decide +kernel)), by decide +kernel⟩
set_option maxRecDepth 20000 in
theorem cal_X12_thrown : CalOK yX12_thrown cX12_thrown 1 (some .int) 0 := ⟨kc_X12_thrown, ki_X12, by decide, by decide +kernel⟩
set_option maxRecDepth 20000 in
theorem kn_X12_thrown : Cond.instanceMethod yX12_thrown ∈ gd := List.mem_filter.mpr ⟨List.mem_append_right _ (List.mem_of_getElem? (l := tables_1) (i := 1145) (by decide +kernel)), by decide +kernel⟩
set_option maxRecDepth 20000 in
theorem ks_X12_thrown : Cond.selects yX12_thrown.cls yX12_thrown yX12_thrown ∈ gd := List.mem_filter.mpr ⟨List.mem_append_right _ (List.mem_of_getElem? (l := tables_1) (i := 1146) (by decide +kernel)), by decide +kernel⟩
set_option maxRecDepth 20000 in
theorem kmL_123 : Cond.methodLink RL 123 yL_turn ∈ gd := List.mem_filter.mpr ⟨List.mem_append_right _ (List.mem_of_getElem? (l := tables_1) (i := 387) (by decide +kernel)), by decide +kernel⟩
set_option maxRecDepth 20000 in
theorem kmL_125 : Cond.methodLink RL 125 yX12_turn ∈ gd := List.mem_filter.mpr ⟨List.mem_append_right _ (List.mem_of_getElem? (l := tables_1) (i := 1170) (by decide +kernel)), by decide +kernel⟩
set_option maxRecDepth 20000 in
theorem kc_X12_turn : Cond.code yX12_turn cX12_turn 3 (some .int) ∈ gd := List.mem_filter.mpr ⟨List.mem_append_right _ (List.mem_of_getElem? (l := tables_1) (i := 1173) (by decide +kernel)), by decide +kernel⟩
set_option maxRecDepth 20000 in
theorem cal_X12_turn : CalOK yX12_turn cX12_turn 3 (some .int) 2 := ⟨kc_X12_turn, ki_X12, by decide, by decide +kernel⟩
set_option maxRecDepth 20000 in
theorem kn_X12_turn : Cond.instanceMethod yX12_turn ∈ gd := List.mem_filter.mpr ⟨List.mem_append_right _ (List.mem_of_getElem? (l := tables_1) (i := 1171) (by decide +kernel)), by decide +kernel⟩
set_option maxRecDepth 20000 in
theorem ks_X12_turn : Cond.selects yX12_turn.cls yX12_turn yX12_turn ∈ gd := List.mem_filter.mpr ⟨List.mem_append_right _ (List.mem_of_getElem? (l := tables_1) (i := 1172) (by decide +kernel)), by decide +kernel⟩
set_option maxRecDepth 20000 in
theorem kmL_126 : Cond.methodLink RL 126 yL_pen ∈ gd := List.mem_filter.mpr ⟨List.mem_append_right _ (List.mem_of_getElem? (l := tables_1) (i := 394) (by decide +kernel)), by decide +kernel⟩
set_option maxRecDepth 20000 in
theorem kmL_129 : Cond.methodLink RL 129 yX12_pen ∈ gd := List.mem_filter.mpr ⟨List.mem_append_right _ (List.mem_of_getElem? (l := tables_1) (i := 1174) (by decide +kernel)), by decide +kernel⟩
set_option maxRecDepth 20000 in
theorem kc_X12_pen : Cond.code yX12_pen cX12_pen 2 (some .int) ∈ gd := List.mem_filter.mpr ⟨List.mem_append_right _ (List.mem_of_getElem? (l := tables_1) (i := 1177) (by decide +kernel)), by decide +kernel⟩
set_option maxRecDepth 20000 in
theorem cal_X12_pen : CalOK yX12_pen cX12_pen 2 (some .int) 1 := ⟨kc_X12_pen, ki_X12, by decide, by decide +kernel⟩
set_option maxRecDepth 20000 in
theorem kn_X12_pen : Cond.instanceMethod yX12_pen ∈ gd := List.mem_filter.mpr ⟨List.mem_append_right _ (List.mem_of_getElem? (l := tables_1) (i := 1175) (by decide +kernel)), by decide +kernel⟩
set_option maxRecDepth 20000 in
theorem ks_X12_pen : Cond.selects yX12_pen.cls yX12_pen yX12_pen ∈ gd := List.mem_filter.mpr ⟨List.mem_append_right _ (List.mem_of_getElem? (l := tables_1) (i := 1176) (by decide +kernel)), by decide +kernel⟩
set_option maxRecDepth 20000 in
theorem kmL_130 : Cond.methodLink RL 130 yL_set ∈ gd := List.mem_filter.mpr ⟨List.mem_append_right _ (List.mem_of_getElem? (l := tables_1) (i := 401) (by decide +kernel)), by decide +kernel⟩
set_option maxRecDepth 20000 in
theorem kmL_133 : Cond.methodLink RL 133 yX12_set ∈ gd := List.mem_filter.mpr ⟨List.mem_append_right _ (List.mem_of_getElem? (l := tables_1) (i := 1178) (by decide +kernel)), by decide +kernel⟩
set_option maxRecDepth 20000 in
theorem kc_X12_set : Cond.code yX12_set cX12_set 4 (some .int) ∈ gd := List.mem_filter.mpr ⟨List.mem_append_right _ (List.mem_of_getElem? (l := tables_1) (i := 1181) (by decide +kernel)), by decide +kernel⟩
set_option maxRecDepth 20000 in
theorem cal_X12_set : CalOK yX12_set cX12_set 4 (some .int) 3 := ⟨kc_X12_set, ki_X12, by decide, by decide +kernel⟩
set_option maxRecDepth 20000 in
theorem kn_X12_set : Cond.instanceMethod yX12_set ∈ gd := List.mem_filter.mpr ⟨List.mem_append_right _ (List.mem_of_getElem? (l := tables_1) (i := 1179) (by decide +kernel)), by decide +kernel⟩
set_option maxRecDepth 20000 in
theorem ks_X12_set : Cond.selects yX12_set.cls yX12_set yX12_set ∈ gd := List.mem_filter.mpr ⟨List.mem_append_right _ (List.mem_of_getElem? (l := tables_1) (i := 1180) (by decide +kernel)), by decide +kernel⟩
set_option maxRecDepth 20000 in
theorem kmL_134 : Cond.methodLink RL 134 yL_add ∈ gd := List.mem_filter.mpr ⟨List.mem_append_right _ (List.mem_of_getElem? (l := tables_1) (i := 408) (by decide +kernel)), by decide +kernel⟩
set_option maxRecDepth 20000 in
theorem kmL_136 : Cond.methodLink RL 136 yX12_add ∈ gd := List.mem_filter.mpr ⟨List.mem_append_right _ (List.mem_of_getElem? (l := tables_1) (i := 1182) (by decide +kernel)), by decide +kernel⟩
set_option maxRecDepth 20000 in
theorem kc_X12_add : Cond.code yX12_add cX12_add 4 (some .int) ∈ gd := List.mem_filter.mpr ⟨List.mem_append_right _ (List.mem_of_getElem? (l := tables_1) (i := 1185) (by decide +kernel)), by decide +kernel⟩
set_option maxRecDepth 20000 in
theorem cal_X12_add : CalOK yX12_add cX12_add 4 (some .int) 3 := ⟨kc_X12_add, ki_X12, by decide, by decide +kernel⟩
set_option maxRecDepth 20000 in
theorem kn_X12_add : Cond.instanceMethod yX12_add ∈ gd := List.mem_filter.mpr ⟨List.mem_append_right _ (List.mem_of_getElem? (l := tables_1) (i := 1183) (by decide +kernel)), by decide +kernel⟩
set_option maxRecDepth 20000 in
theorem ks_X12_add : Cond.selects yX12_add.cls yX12_add yX12_add ∈ gd := List.mem_filter.mpr ⟨List.mem_append_right _ (List.mem_of_getElem? (l := tables_1) (i := 1184) (by decide +kernel)), by decide +kernel⟩
set_option maxRecDepth 20000 in
theorem kmL_137 : Cond.methodLink RL 137 yL_repeat ∈ gd := List.mem_filter.mpr ⟨List.mem_append_right _ (List.mem_of_getElem? (l := tables_1) (i := 415) (by decide +kernel)), by decide +kernel⟩
set_option maxRecDepth 20000 in
theorem kmL_139 : Cond.methodLink RL 139 yX12_repeat ∈ gd := List.mem_filter.mpr ⟨List.mem_append_right _ (List.mem_of_getElem? (l := tables_1) (i := 1186) (by decide +kernel)), by decide +kernel⟩
set_option maxRecDepth 20000 in
theorem kc_X12_repeat : Cond.code yX12_repeat cX12_repeat 3 (some .int) ∈ gd := List.mem_filter.mpr ⟨List.mem_append_right _ (List.mem_of_getElem? (l := tables_1) (i := 1189) (by decide +kernel)), by decide +kernel⟩
set_option maxRecDepth 20000 in
theorem cal_X12_repeat : CalOK yX12_repeat cX12_repeat 3 (some .int) 2 := ⟨kc_X12_repeat, ki_X12, by decide, by decide +kernel⟩
set_option maxRecDepth 20000 in
theorem kn_X12_repeat : Cond.instanceMethod yX12_repeat ∈ gd := List.mem_filter.mpr ⟨List.mem_append_right _ (List.mem_of_getElem? (l := tables_1) (i := 1187) (by decide +kernel)), by decide +kernel⟩
set_option maxRecDepth 20000 in
theorem ks_X12_repeat : Cond.selects yX12_repeat.cls yX12_repeat yX12_repeat ∈ gd := List.mem_filter.mpr ⟨List.mem_append_right _ (List.mem_of_getElem? (l := tables_1) (i := 1188) (by decide +kernel)), by decide +kernel⟩
set_option maxRecDepth 20000 in
theorem kmL_140 : Cond.methodLink RL 140 yL_word ∈ gd := List.mem_filter.mpr ⟨List.mem_append_right _ (List.mem_of_getElem? (l := tables_1) (i := 422) (by decide +kernel)), by decide +kernel⟩
set_option maxRecDepth 20000 in
theorem kmL_143 : Cond.methodLink RL 143 yX12_word ∈ gd := List.mem_filter.mpr ⟨List.mem_append_right _ (List.mem_of_getElem? (l := tables_1) (i := 1190) (by decide +kernel)), by decide +kernel⟩
set_option maxRecDepth 20000 in
theorem kc_X12_word : Cond.code yX12_word cX12_word 3 (some .int) ∈ gd := List.mem_filter.mpr ⟨List.mem_append_right _ (List.mem_of_getElem? (l := tables_1) (i := 1193) (by decide +kernel)), by decide +kernel⟩
set_option maxRecDepth 20000 in
theorem cal_X12_word : CalOK yX12_word cX12_word 3 (some .int) 1 := ⟨kc_X12_word, ki_X12, by decide, by decide +kernel⟩
set_option maxRecDepth 20000 in
theorem kn_X12_word : Cond.instanceMethod yX12_word ∈ gd := List.mem_filter.mpr ⟨List.mem_append_right _ (List.mem_of_getElem? (l := tables_1) (i := 1191) (by decide +kernel)), by decide +kernel⟩
set_option maxRecDepth 20000 in
theorem ks_X12_word : Cond.selects yX12_word.cls yX12_word yX12_word ∈ gd := List.mem_filter.mpr ⟨List.mem_append_right _ (List.mem_of_getElem? (l := tables_1) (i := 1192) (by decide +kernel)), by decide +kernel⟩
set_option maxRecDepth 20000 in
theorem kmL_144 : Cond.methodLink RL 144 yL_call ∈ gd := List.mem_filter.mpr ⟨List.mem_append_right _ (List.mem_of_getElem? (l := tables_1) (i := 442) (by decide +kernel)), by decide +kernel⟩
set_option maxRecDepth 20000 in
theorem kmL_146 : Cond.methodLink RL 146 yX12_call ∈ gd := List.mem_filter.mpr ⟨List.mem_append_right _ (List.mem_of_getElem? (l := tables_1) (i := 1194) (by decide +kernel)), by decide +kernel⟩
set_option maxRecDepth 20000 in
theorem kc_X12_call : Cond.code yX12_call cX12_call 2 (some .int) ∈ gd := List.mem_filter.mpr ⟨List.mem_append_right _ (List.mem_of_getElem? (l := tables_1) (i := 1197) (by decide +kernel)), by decide +kernel⟩
set_option maxRecDepth 20000 in
theorem cal_X12_call : CalOK yX12_call cX12_call 2 (some .int) 1 := ⟨kc_X12_call, ki_X12, by decide, by decide +kernel⟩
set_option maxRecDepth 20000 in
theorem kn_X12_call : Cond.instanceMethod yX12_call ∈ gd := List.mem_filter.mpr ⟨List.mem_append_right _ (List.mem_of_getElem? (l := tables_1) (i := 1195) (by decide +kernel)), by decide +kernel⟩
set_option maxRecDepth 20000 in
theorem ks_X12_call : Cond.selects yX12_call.cls yX12_call yX12_call ∈ gd := List.mem_filter.mpr ⟨List.mem_append_right _ (List.mem_of_getElem? (l := tables_1) (i := 1196) (by decide +kernel)), by decide +kernel⟩
set_option maxRecDepth 20000 in
theorem kmL_147 : Cond.methodLink RL 147 yL_end ∈ gd := List.mem_filter.mpr ⟨List.mem_append_right _ (List.mem_of_getElem? (l := tables_1) (i := 449) (by decide +kernel)), by decide +kernel⟩
set_option maxRecDepth 20000 in
theorem kmL_150 : Cond.methodLink RL 150 yX12_end ∈ gd := List.mem_filter.mpr ⟨List.mem_append_right _ (List.mem_of_getElem? (l := tables_1) (i := 1198) (by decide +kernel)), by decide +kernel⟩
set_option maxRecDepth 20000 in
theorem kc_X12_end : Cond.code yX12_end cX12_end 2 (some .int) ∈ gd := List.mem_filter.mpr ⟨List.mem_append_right _ (List.mem_of_getElem? (l := tables_1) (i := 1201) (by decide +kernel)), by decide +kernel⟩
set_option maxRecDepth 20000 in
theorem cal_X12_end : CalOK yX12_end cX12_end 2 (some .int) 0 := ⟨kc_X12_end, ki_X12, by decide, by decide +kernel⟩
set_option maxRecDepth 20000 in
theorem kn_X12_end : Cond.instanceMethod yX12_end ∈ gd := List.mem_filter.mpr ⟨List.mem_append_right _ (List.mem_of_getElem? (l := tables_1) (i := 1199) (by decide +kernel)), by decide +kernel⟩
set_option maxRecDepth 20000 in
theorem ks_X12_end : Cond.selects yX12_end.cls yX12_end yX12_end ∈ gd := List.mem_filter.mpr ⟨List.mem_append_right _ (List.mem_of_getElem? (l := tables_1) (i := 1200) (by decide +kernel)), by decide +kernel⟩
set_option maxRecDepth 20000 in
theorem kmL_151 : Cond.methodLink RL 151 yX11_wipe ∈ gd := List.mem_filter.mpr ⟨List.mem_append_right _ (List.mem_of_getElem? (l := tables_1) (i := 206) (by decide +kernel)), by decide +kernel⟩
set_option maxRecDepth 20000 in
theorem kc_X11_wipe : Cond.code yX11_wipe cX11_wipe 2 (some .int) ∈ gd := List.mem_filter.mpr ⟨List.mem_append_right _ (List.mem_of_getElem? (l := tables_1) (i := 209) (by decide +kernel)), by decide +kernel⟩
set_option maxRecDepth 20000 in
theorem cal_X11_wipe : CalOK yX11_wipe cX11_wipe 2 (some .int) 0 := ⟨kc_X11_wipe, ki_X11, by decide, by decide +kernel⟩
set_option maxRecDepth 20000 in
theorem kn_X11_wipe : Cond.instanceMethod yX11_wipe ∈ gd := List.mem_filter.mpr ⟨List.mem_append_right _ (List.mem_of_getElem? (l := tables_1) (i := 207) (by decide +kernel)), by decide +kernel⟩
set_option maxRecDepth 20000 in
theorem ks_X11_wipe : Cond.selects yX11_wipe.cls yX11_wipe yX11_wipe ∈ gd := List.mem_filter.mpr ⟨List.mem_append_right _ (List.mem_of_getElem? (l := tables_1) (i := 208) (by decide +kernel)), by decide +kernel⟩
set_option maxRecDepth 20000 in
theorem kmL_154 : Cond.methodLink RL 154 yX12_wipe ∈ gd := List.mem_filter.mpr ⟨List.mem_append_right _ (List.mem_of_getElem? (l := tables_1) (i := 1202) (by decide +kernel)), by decide +kernel⟩
set_option maxRecDepth 20000 in
theorem kc_X12_wipe : Cond.code yX12_wipe cX12_wipe 1 (some .int) ∈ gd := List.mem_filter.mpr ⟨List.mem_append_right _ (List.mem_of_getElem? (l := tables_1) (i := 1205) (by decide +kernel)), by decide +kernel⟩
set_option maxRecDepth 20000 in
theorem cal_X12_wipe : CalOK yX12_wipe cX12_wipe 1 (some .int) 0 := ⟨kc_X12_wipe, ki_X12, by decide, by decide +kernel⟩
set_option maxRecDepth 20000 in
theorem kn_X12_wipe : Cond.instanceMethod yX12_wipe ∈ gd := List.mem_filter.mpr ⟨List.mem_append_right _ (List.mem_of_getElem? (l := tables_1) (i := 1203) (by decide +kernel)), by decide +kernel⟩
set_option maxRecDepth 20000 in
theorem ks_X12_wipe : Cond.selects yX12_wipe.cls yX12_wipe yX12_wipe ∈ gd := List.mem_filter.mpr ⟨List.mem_append_right _ (List.mem_of_getElem? (l := tables_1) (i := 1204) (by decide +kernel)), by decide +kernel⟩
set_option maxRecDepth 20000 in
theorem kmL_155 : Cond.methodLink RL 155 yL_write ∈ gd := List.mem_filter.mpr ⟨List.mem_append_right _ (List.mem_of_getElem? (l := tables_1) (i := 457) (by decide +kernel)), by decide +kernel⟩
set_option maxRecDepth 20000 in
theorem kmL_157 : Cond.methodLink RL 157 yX12_write ∈ gd := List.mem_filter.mpr ⟨List.mem_append_right _ (List.mem_of_getElem? (l := tables_1) (i := 1210) (by decide +kernel)), by decide +kernel⟩
set_option maxRecDepth 20000 in
theorem kc_X12_write : Cond.code yX12_write cX12_write 5 (some .int) ∈ gd := List.mem_filter.mpr ⟨List.mem_append_right _ (List.mem_of_getElem? (l := tables_1) (i := 1213) (by decide +kernel)), by decide +kernel⟩
set_option maxRecDepth 20000 in
theorem cal_X12_write : CalOK yX12_write cX12_write 5 (some .int) 1 := ⟨kc_X12_write, ki_X12, by decide, by decide +kernel⟩
set_option maxRecDepth 20000 in
theorem kn_X12_write : Cond.instanceMethod yX12_write ∈ gd := List.mem_filter.mpr ⟨List.mem_append_right _ (List.mem_of_getElem? (l := tables_1) (i := 1211) (by decide +kernel)), by decide +kernel⟩
set_option maxRecDepth 20000 in
theorem ks_X12_write : Cond.selects yX12_write.cls yX12_write yX12_write ∈ gd := List.mem_filter.mpr ⟨List.mem_append_right _ (List.mem_of_getElem? (l := tables_1) (i := 1212) (by decide +kernel)), by decide +kernel⟩
set_option maxRecDepth 20000 in
theorem kmL_158 : Cond.methodLink RL 158 yL_exercise ∈ gd := List.mem_filter.mpr ⟨List.mem_append_right _ (List.mem_of_getElem? (l := tables_1) (i := 676) (by decide +kernel)), by decide +kernel⟩
set_option maxRecDepth 20000 in
theorem kmL_161 : Cond.methodLink RL 161 yX12_exercise ∈ gd := List.mem_filter.mpr ⟨List.mem_append_right _ (List.mem_of_getElem? (l := tables_1) (i := 1261) (by decide +kernel)), by decide +kernel⟩
set_option maxRecDepth 20000 in
theorem kc_X12_exercise : Cond.code yX12_exercise cX12_exercise 5 (some .int) ∈ gd := List.mem_filter.mpr ⟨List.mem_append_right _ (List.mem_of_getElem? (l := tables_1) (i := 1264) (by decide +kernel)), by decide +kernel⟩
set_option maxRecDepth 20000 in
theorem cal_X12_exercise : CalOK yX12_exercise cX12_exercise 5 (some .int) 3 := ⟨kc_X12_exercise, ki_X12, by decide, by decide +kernel⟩
set_option maxRecDepth 20000 in
theorem kn_X12_exercise : Cond.instanceMethod yX12_exercise ∈ gd := List.mem_filter.mpr ⟨List.mem_append_right _ (List.mem_of_getElem? (l := tables_1) (i := 1262) (by decide +kernel)), by decide +kernel⟩
set_option maxRecDepth 20000 in
theorem ks_X12_exercise : Cond.selects yX12_exercise.cls yX12_exercise yX12_exercise ∈ gd := List.mem_filter.mpr ⟨List.mem_append_right _ (List.mem_of_getElem? (l := tables_1) (i := 1263) (by decide +kernel)), by decide +kernel⟩
set_option maxRecDepth 20000 in
theorem kmL_162 : Cond.methodLink RL 162 yL_allow ∈ gd := List.mem_filter.mpr ⟨List.mem_append_right _ (List.mem_of_getElem? (l := tables_1) (i := 708) (by decide +kernel)), by decide +kernel⟩
set_option maxRecDepth 20000 in
theorem kmL_164 : Cond.methodLink RL 164 yX12_allow ∈ gd := List.mem_filter.mpr ⟨List.mem_append_right _ (List.mem_of_getElem? (l := tables_1) (i := 1272) (by decide +kernel)), by decide +kernel⟩
set_option maxRecDepth 20000 in
theorem kc_X12_allow : Cond.code yX12_allow cX12_allow 6 (some .int) ∈ gd := List.mem_filter.mpr ⟨List.mem_append_right _ (List.mem_of_getElem? (l := tables_1) (i := 1275) (by decide +kernel)), by decide +kernel⟩
set_option maxRecDepth 20000 in
theorem cal_X12_allow : CalOK yX12_allow cX12_allow 6 (some .int) 3 := ⟨kc_X12_allow, ki_X12, by decide, by decide +kernel⟩
set_option maxRecDepth 20000 in
theorem kn_X12_allow : Cond.instanceMethod yX12_allow ∈ gd := List.mem_filter.mpr ⟨List.mem_append_right _ (List.mem_of_getElem? (l := tables_1) (i := 1273) (by decide +kernel)), by decide +kernel⟩
set_option maxRecDepth 20000 in
theorem ks_X12_allow : Cond.selects yX12_allow.cls yX12_allow yX12_allow ∈ gd := List.mem_filter.mpr ⟨List.mem_append_right _ (List.mem_of_getElem? (l := tables_1) (i := 1274) (by decide +kernel)), by decide +kernel⟩
set_option maxRecDepth 20000 in
theorem kmL_165 : Cond.methodLink RL 165 yL_handIn ∈ gd := List.mem_filter.mpr ⟨List.mem_append_right _ (List.mem_of_getElem? (l := tables_1) (i := 784) (by decide +kernel)), by decide +kernel⟩
set_option maxRecDepth 20000 in
theorem kmL_168 : Cond.methodLink RL 168 yX12_handIn ∈ gd := List.mem_filter.mpr ⟨List.mem_append_right _ (List.mem_of_getElem? (l := tables_1) (i := 1292) (by decide +kernel)), by decide +kernel⟩
set_option maxRecDepth 20000 in
theorem kc_X12_handIn : Cond.code yX12_handIn cX12_handIn 4 (some .int) ∈ gd := List.mem_filter.mpr ⟨List.mem_append_right _ (List.mem_of_getElem? (l := tables_1) (i := 1295) (by decide +kernel)), by decide +kernel⟩
set_option maxRecDepth 20000 in
theorem cal_X12_handIn : CalOK yX12_handIn cX12_handIn 4 (some .int) 2 := ⟨kc_X12_handIn, ki_X12, by decide, by decide +kernel⟩
set_option maxRecDepth 20000 in
theorem kn_X12_handIn : Cond.instanceMethod yX12_handIn ∈ gd := List.mem_filter.mpr ⟨List.mem_append_right _ (List.mem_of_getElem? (l := tables_1) (i := 1293) (by decide +kernel)), by decide +kernel⟩
set_option maxRecDepth 20000 in
theorem ks_X12_handIn : Cond.selects yX12_handIn.cls yX12_handIn yX12_handIn ∈ gd := List.mem_filter.mpr ⟨List.mem_append_right _ (List.mem_of_getElem? (l := tables_1) (i := 1294) (by decide +kernel)), by decide +kernel⟩
set_option maxRecDepth 20000 in
theorem kmL_169 : Cond.methodLink RL 169 yL_clear ∈ gd := List.mem_filter.mpr ⟨List.mem_append_right _ (List.mem_of_getElem? (l := tables_1) (i := 835) (by decide +kernel)), by decide +kernel⟩
set_option maxRecDepth 20000 in
theorem kmL_171 : Cond.methodLink RL 171 yX12_clear ∈ gd := List.mem_filter.mpr ⟨List.mem_append_right _ (List.mem_of_getElem? (l := tables_1) (i := 1296) (by decide +kernel)), by decide +kernel⟩
set_option maxRecDepth 20000 in
theorem kc_X12_clear : Cond.code yX12_clear cX12_clear 4 (some .boolean) ∈ gd := List.mem_filter.mpr ⟨List.mem_append_right _ (List.mem_of_getElem? (l := tables_1) (i := 1299) (by decide +kernel)), by decide +kernel⟩
set_option maxRecDepth 20000 in
theorem cal_X12_clear : CalOK yX12_clear cX12_clear 4 (some .boolean) 2 := ⟨kc_X12_clear, ki_X12, by decide, by decide +kernel⟩
set_option maxRecDepth 20000 in
theorem kn_X12_clear : Cond.instanceMethod yX12_clear ∈ gd := List.mem_filter.mpr ⟨List.mem_append_right _ (List.mem_of_getElem? (l := tables_1) (i := 1297) (by decide +kernel)), by decide +kernel⟩
set_option maxRecDepth 20000 in
theorem ks_X12_clear : Cond.selects yX12_clear.cls yX12_clear yX12_clear ∈ gd := List.mem_filter.mpr ⟨List.mem_append_right _ (List.mem_of_getElem? (l := tables_1) (i := 1298) (by decide +kernel)), by decide +kernel⟩
set_option maxRecDepth 20000 in
theorem kmL_172 : Cond.methodLink RL 172 yL_setWall ∈ gd := List.mem_filter.mpr ⟨List.mem_append_right _ (List.mem_of_getElem? (l := tables_1) (i := 847) (by decide +kernel)), by decide +kernel⟩
set_option maxRecDepth 20000 in
theorem kmL_174 : Cond.methodLink RL 174 yX12_setWall ∈ gd := List.mem_filter.mpr ⟨List.mem_append_right _ (List.mem_of_getElem? (l := tables_1) (i := 1304) (by decide +kernel)), by decide +kernel⟩
set_option maxRecDepth 20000 in
theorem kc_X12_setWall : Cond.code yX12_setWall cX12_setWall 5 (some .int) ∈ gd := List.mem_filter.mpr ⟨List.mem_append_right _ (List.mem_of_getElem? (l := tables_1) (i := 1307) (by decide +kernel)), by decide +kernel⟩
set_option maxRecDepth 20000 in
theorem cal_X12_setWall : CalOK yX12_setWall cX12_setWall 5 (some .int) 2 := ⟨kc_X12_setWall, ki_X12, by decide, by decide +kernel⟩
set_option maxRecDepth 20000 in
theorem kn_X12_setWall : Cond.instanceMethod yX12_setWall ∈ gd := List.mem_filter.mpr ⟨List.mem_append_right _ (List.mem_of_getElem? (l := tables_1) (i := 1305) (by decide +kernel)), by decide +kernel⟩
set_option maxRecDepth 20000 in
theorem ks_X12_setWall : Cond.selects yX12_setWall.cls yX12_setWall yX12_setWall ∈ gd := List.mem_filter.mpr ⟨List.mem_append_right _ (List.mem_of_getElem? (l := tables_1) (i := 1306) (by decide +kernel)), by decide +kernel⟩
set_option maxRecDepth 20000 in
theorem kmL_175 : Cond.methodLink RL 175 yX11_drafted ∈ gd := List.mem_filter.mpr ⟨List.mem_append_right _ (List.mem_of_getElem? (l := tables_1) (i := 218) (by decide +kernel)), by decide +kernel⟩
set_option maxRecDepth 20000 in
theorem kc_X11_drafted : Cond.code yX11_drafted cX11_drafted 1 (some .int) ∈ gd := List.mem_filter.mpr ⟨List.mem_append_right _ (List.mem_of_getElem? (l := tables_1) (i := 221) (by decide +kernel)), by decide +kernel⟩
set_option maxRecDepth 20000 in
theorem cal_X11_drafted : CalOK yX11_drafted cX11_drafted 1 (some .int) 0 := ⟨kc_X11_drafted, ki_X11, by decide, by decide +kernel⟩
set_option maxRecDepth 20000 in
theorem kn_X11_drafted : Cond.instanceMethod yX11_drafted ∈ gd := List.mem_filter.mpr ⟨List.mem_append_right _ (List.mem_of_getElem? (l := tables_1) (i := 219) (by decide +kernel)), by decide +kernel⟩
set_option maxRecDepth 20000 in
theorem ks_X11_drafted : Cond.selects yX11_drafted.cls yX11_drafted yX11_drafted ∈ gd := List.mem_filter.mpr ⟨List.mem_append_right _ (List.mem_of_getElem? (l := tables_1) (i := 220) (by decide +kernel)), by decide +kernel⟩
set_option maxRecDepth 20000 in
theorem kmL_178 : Cond.methodLink RL 178 yX12_drafted ∈ gd := List.mem_filter.mpr ⟨List.mem_append_right _ (List.mem_of_getElem? (l := tables_1) (i := 1339) (by decide +kernel)), by decide +kernel⟩
set_option maxRecDepth 20000 in
theorem kc_X12_drafted : Cond.code yX12_drafted cX12_drafted 1 (some .int) ∈ gd := List.mem_filter.mpr ⟨List.mem_append_right _ (List.mem_of_getElem? (l := tables_1) (i := 1342) (by decide +kernel)), by decide +kernel⟩
set_option maxRecDepth 20000 in
theorem cal_X12_drafted : CalOK yX12_drafted cX12_drafted 1 (some .int) 0 := ⟨kc_X12_drafted, ki_X12, by decide, by decide +kernel⟩
set_option maxRecDepth 20000 in
theorem kn_X12_drafted : Cond.instanceMethod yX12_drafted ∈ gd := List.mem_filter.mpr ⟨List.mem_append_right _ (List.mem_of_getElem? (l := tables_1) (i := 1340) (by decide +kernel)), by decide +kernel⟩
set_option maxRecDepth 20000 in
theorem ks_X12_drafted : Cond.selects yX12_drafted.cls yX12_drafted yX12_drafted ∈ gd := List.mem_filter.mpr ⟨List.mem_append_right _ (List.mem_of_getElem? (l := tables_1) (i := 1341) (by decide +kernel)), by decide +kernel⟩
set_option maxRecDepth 20000 in
theorem kmL_179 : Cond.methodLink RL 179 yX11_programs ∈ gd := List.mem_filter.mpr ⟨List.mem_append_right _ (List.mem_of_getElem? (l := tables_1) (i := 222) (by decide +kernel)), by decide +kernel⟩
set_option maxRecDepth 20000 in
theorem kc_X11_programs : Cond.code yX11_programs cX11_programs 1 (some .int) ∈ gd := List.mem_filter.mpr ⟨List.mem_append_right _ (List.mem_of_getElem? (l := tables_1) (i := 225) (by decide +kernel)), by decide +kernel⟩
set_option maxRecDepth 20000 in
theorem cal_X11_programs : CalOK yX11_programs cX11_programs 1 (some .int) 0 := ⟨kc_X11_programs, ki_X11, by decide, by decide +kernel⟩
set_option maxRecDepth 20000 in
theorem kn_X11_programs : Cond.instanceMethod yX11_programs ∈ gd := List.mem_filter.mpr ⟨List.mem_append_right _ (List.mem_of_getElem? (l := tables_1) (i := 223) (by decide +kernel)), by decide +kernel⟩
set_option maxRecDepth 20000 in
theorem ks_X11_programs : Cond.selects yX11_programs.cls yX11_programs yX11_programs ∈ gd := List.mem_filter.mpr ⟨List.mem_append_right _ (List.mem_of_getElem? (l := tables_1) (i := 224) (by decide +kernel)), by decide +kernel⟩
set_option maxRecDepth 20000 in
theorem kmL_182 : Cond.methodLink RL 182 yX12_programs ∈ gd := List.mem_filter.mpr ⟨List.mem_append_right _ (List.mem_of_getElem? (l := tables_1) (i := 1343) (by decide +kernel)), by decide +kernel⟩
set_option maxRecDepth 20000 in
theorem kc_X12_programs : Cond.code yX12_programs cX12_programs 1 (some .int) ∈ gd := List.mem_filter.mpr ⟨List.mem_append_right _ (List.mem_of_getElem? (l := tables_1) (i := 1346) (by decide +kernel)), by decide +kernel⟩
set_option maxRecDepth 20000 in
theorem cal_X12_programs : CalOK yX12_programs cX12_programs 1 (some .int) 0 := ⟨kc_X12_programs, ki_X12, by decide, by decide +kernel⟩
set_option maxRecDepth 20000 in
theorem kn_X12_programs : Cond.instanceMethod yX12_programs ∈ gd := List.mem_filter.mpr ⟨List.mem_append_right _ (List.mem_of_getElem? (l := tables_1) (i := 1344) (by decide +kernel)), by decide +kernel⟩
set_option maxRecDepth 20000 in
theorem ks_X12_programs : Cond.selects yX12_programs.cls yX12_programs yX12_programs ∈ gd := List.mem_filter.mpr ⟨List.mem_append_right _ (List.mem_of_getElem? (l := tables_1) (i := 1345) (by decide +kernel)), by decide +kernel⟩
set_option maxRecDepth 20000 in
theorem kmL_183 : Cond.methodLink RL 183 yL_fault ∈ gd := List.mem_filter.mpr ⟨List.mem_append_right _ (List.mem_of_getElem? (l := tables_1) (i := 863) (by decide +kernel)), by decide +kernel⟩
set_option maxRecDepth 20000 in
theorem kmL_185 : Cond.methodLink RL 185 yX12_fault ∈ gd := List.mem_filter.mpr ⟨List.mem_append_right _ (List.mem_of_getElem? (l := tables_1) (i := 1347) (by decide +kernel)), by decide +kernel⟩
set_option maxRecDepth 20000 in
theorem kc_X12_fault : Cond.code yX12_fault cX12_fault 2 (some .int) ∈ gd := List.mem_filter.mpr ⟨List.mem_append_right _ (List.mem_of_getElem? (l := tables_1) (i := 1350) (by decide +kernel)), by decide +kernel⟩
set_option maxRecDepth 20000 in
theorem cal_X12_fault : CalOK yX12_fault cX12_fault 2 (some .int) 1 := ⟨kc_X12_fault, ki_X12, by decide, by decide +kernel⟩
set_option maxRecDepth 20000 in
theorem kn_X12_fault : Cond.instanceMethod yX12_fault ∈ gd := List.mem_filter.mpr ⟨List.mem_append_right _ (List.mem_of_getElem? (l := tables_1) (i := 1348) (by decide +kernel)), by decide +kernel⟩
set_option maxRecDepth 20000 in
theorem ks_X12_fault : Cond.selects yX12_fault.cls yX12_fault yX12_fault ∈ gd := List.mem_filter.mpr ⟨List.mem_append_right _ (List.mem_of_getElem? (l := tables_1) (i := 1349) (by decide +kernel)), by decide +kernel⟩
set_option maxRecDepth 20000 in
theorem kmL_186 : Cond.methodLink RL 186 yL_steps ∈ gd := List.mem_filter.mpr ⟨List.mem_append_right _ (List.mem_of_getElem? (l := tables_1) (i := 870) (by decide +kernel)), by decide +kernel⟩
set_option maxRecDepth 20000 in
theorem kmL_188 : Cond.methodLink RL 188 yX12_steps ∈ gd := List.mem_filter.mpr ⟨List.mem_append_right _ (List.mem_of_getElem? (l := tables_1) (i := 1351) (by decide +kernel)), by decide +kernel⟩
set_option maxRecDepth 20000 in
theorem kc_X12_steps : Cond.code yX12_steps cX12_steps 2 (some .int) ∈ gd := List.mem_filter.mpr ⟨List.mem_append_right _ (List.mem_of_getElem? (l := tables_1) (i := 1354) (by decide +kernel)), by decide +kernel⟩
set_option maxRecDepth 20000 in
theorem cal_X12_steps : CalOK yX12_steps cX12_steps 2 (some .int) 1 := ⟨kc_X12_steps, ki_X12, by decide, by decide +kernel⟩
set_option maxRecDepth 20000 in
theorem kn_X12_steps : Cond.instanceMethod yX12_steps ∈ gd := List.mem_filter.mpr ⟨List.mem_append_right _ (List.mem_of_getElem? (l := tables_1) (i := 1352) (by decide +kernel)), by decide +kernel⟩
set_option maxRecDepth 20000 in
theorem ks_X12_steps : Cond.selects yX12_steps.cls yX12_steps yX12_steps ∈ gd := List.mem_filter.mpr ⟨List.mem_append_right _ (List.mem_of_getElem? (l := tables_1) (i := 1353) (by decide +kernel)), by decide +kernel⟩
set_option maxRecDepth 20000 in
theorem kmL_189 : Cond.methodLink RL 189 yL_strokes ∈ gd := List.mem_filter.mpr ⟨List.mem_append_right _ (List.mem_of_getElem? (l := tables_1) (i := 877) (by decide +kernel)), by decide +kernel⟩
set_option maxRecDepth 20000 in
theorem kmL_191 : Cond.methodLink RL 191 yX12_strokes ∈ gd := List.mem_filter.mpr ⟨List.mem_append_right _ (List.mem_of_getElem? (l := tables_1) (i := 1355) (by decide +kernel)), by decide +kernel⟩
set_option maxRecDepth 20000 in
theorem kc_X12_strokes : Cond.code yX12_strokes cX12_strokes 2 (some .int) ∈ gd := List.mem_filter.mpr ⟨List.mem_append_right _ (List.mem_of_getElem? (l := tables_1) (i := 1358) (by decide +kernel)), by decide +kernel⟩
set_option maxRecDepth 20000 in
theorem cal_X12_strokes : CalOK yX12_strokes cX12_strokes 2 (some .int) 1 := ⟨kc_X12_strokes, ki_X12, by decide, by decide +kernel⟩
set_option maxRecDepth 20000 in
theorem kn_X12_strokes : Cond.instanceMethod yX12_strokes ∈ gd := List.mem_filter.mpr ⟨List.mem_append_right _ (List.mem_of_getElem? (l := tables_1) (i := 1356) (by decide +kernel)), by decide +kernel⟩
set_option maxRecDepth 20000 in
theorem ks_X12_strokes : Cond.selects yX12_strokes.cls yX12_strokes yX12_strokes ∈ gd := List.mem_filter.mpr ⟨List.mem_append_right _ (List.mem_of_getElem? (l := tables_1) (i := 1357) (by decide +kernel)), by decide +kernel⟩
set_option maxRecDepth 20000 in
theorem kmL_192 : Cond.methodLink RL 192 yL_strokesBySteps ∈ gd := List.mem_filter.mpr ⟨List.mem_append_right _ (List.mem_of_getElem? (l := tables_1) (i := 884) (by decide +kernel)), by decide +kernel⟩
set_option maxRecDepth 20000 in
theorem kmL_194 : Cond.methodLink RL 194 yX12_strokesBySteps ∈ gd := List.mem_filter.mpr ⟨List.mem_append_right _ (List.mem_of_getElem? (l := tables_1) (i := 1359) (by decide +kernel)), by decide +kernel⟩
set_option maxRecDepth 20000 in
theorem kc_X12_strokesBySteps : Cond.code yX12_strokesBySteps cX12_strokesBySteps 3 (some .int) ∈ gd := List.mem_filter.mpr ⟨List.mem_append_right _ (List.mem_of_getElem? (l := tables_1) (i := 1362) (by decide +kernel)), by decide +kernel⟩
set_option maxRecDepth 20000 in
theorem cal_X12_strokesBySteps : CalOK yX12_strokesBySteps cX12_strokesBySteps 3 (some .int) 2 := ⟨kc_X12_strokesBySteps, ki_X12, by decide, by decide +kernel⟩
set_option maxRecDepth 20000 in
theorem kn_X12_strokesBySteps : Cond.instanceMethod yX12_strokesBySteps ∈ gd := List.mem_filter.mpr ⟨List.mem_append_right _ (List.mem_of_getElem? (l := tables_1) (i := 1360) (by decide +kernel)), by decide +kernel⟩
set_option maxRecDepth 20000 in
theorem ks_X12_strokesBySteps : Cond.selects yX12_strokesBySteps.cls yX12_strokesBySteps yX12_strokesBySteps ∈ gd := List.mem_filter.mpr ⟨List.mem_append_right _ (List.mem_of_getElem? (l := tables_1) (i := 1361) (by decide +kernel)), by decide +kernel⟩
set_option maxRecDepth 20000 in
theorem kmL_195 : Cond.methodLink RL 195 yL_isDrawn ∈ gd := List.mem_filter.mpr ⟨List.mem_append_right _ (List.mem_of_getElem? (l := tables_1) (i := 896) (by decide +kernel)), by decide +kernel⟩
set_option maxRecDepth 20000 in
theorem kmL_198 : Cond.methodLink RL 198 yX12_isDrawn ∈ gd := List.mem_filter.mpr ⟨List.mem_append_right _ (List.mem_of_getElem? (l := tables_1) (i := 1363) (by decide +kernel)), by decide +kernel⟩
set_option maxRecDepth 20000 in
theorem kc_X12_isDrawn : Cond.code yX12_isDrawn cX12_isDrawn 6 (some .boolean) ∈ gd := List.mem_filter.mpr ⟨List.mem_append_right _ (List.mem_of_getElem? (l := tables_1) (i := 1366) (by decide +kernel)), by decide +kernel⟩
set_option maxRecDepth 20000 in
theorem cal_X12_isDrawn : CalOK yX12_isDrawn cX12_isDrawn 6 (some .boolean) 4 := ⟨kc_X12_isDrawn, ki_X12, by decide, by decide +kernel⟩
set_option maxRecDepth 20000 in
theorem kn_X12_isDrawn : Cond.instanceMethod yX12_isDrawn ∈ gd := List.mem_filter.mpr ⟨List.mem_append_right _ (List.mem_of_getElem? (l := tables_1) (i := 1364) (by decide +kernel)), by decide +kernel⟩
set_option maxRecDepth 20000 in
theorem ks_X12_isDrawn : Cond.selects yX12_isDrawn.cls yX12_isDrawn yX12_isDrawn ∈ gd := List.mem_filter.mpr ⟨List.mem_append_right _ (List.mem_of_getElem? (l := tables_1) (i := 1365) (by decide +kernel)), by decide +kernel⟩
set_option maxRecDepth 20000 in
theorem kmL_199 : Cond.methodLink RL 199 yL_areAlike ∈ gd := List.mem_filter.mpr ⟨List.mem_append_right _ (List.mem_of_getElem? (l := tables_1) (i := 909) (by decide +kernel)), by decide +kernel⟩
set_option maxRecDepth 20000 in
theorem kmL_201 : Cond.methodLink RL 201 yX12_areAlike ∈ gd := List.mem_filter.mpr ⟨List.mem_append_right _ (List.mem_of_getElem? (l := tables_1) (i := 1367) (by decide +kernel)), by decide +kernel⟩
set_option maxRecDepth 20000 in
theorem kc_X12_areAlike : Cond.code yX12_areAlike cX12_areAlike 3 (some .boolean) ∈ gd := List.mem_filter.mpr ⟨List.mem_append_right _ (List.mem_of_getElem? (l := tables_1) (i := 1370) (by decide +kernel)), by decide +kernel⟩
set_option maxRecDepth 20000 in
theorem cal_X12_areAlike : CalOK yX12_areAlike cX12_areAlike 3 (some .boolean) 2 := ⟨kc_X12_areAlike, ki_X12, by decide, by decide +kernel⟩
set_option maxRecDepth 20000 in
theorem kn_X12_areAlike : Cond.instanceMethod yX12_areAlike ∈ gd := List.mem_filter.mpr ⟨List.mem_append_right _ (List.mem_of_getElem? (l := tables_1) (i := 1368) (by decide +kernel)), by decide +kernel⟩
set_option maxRecDepth 20000 in
theorem ks_X12_areAlike : Cond.selects yX12_areAlike.cls yX12_areAlike yX12_areAlike ∈ gd := List.mem_filter.mpr ⟨List.mem_append_right _ (List.mem_of_getElem? (l := tables_1) (i := 1369) (by decide +kernel)), by decide +kernel⟩
set_option maxRecDepth 20000 in
theorem kmL_202 : Cond.methodLink RL 202 yL_haveOneForm ∈ gd := List.mem_filter.mpr ⟨List.mem_append_right _ (List.mem_of_getElem? (l := tables_1) (i := 917) (by decide +kernel)), by decide +kernel⟩
set_option maxRecDepth 20000 in
theorem kmL_204 : Cond.methodLink RL 204 yX12_haveOneForm ∈ gd := List.mem_filter.mpr ⟨List.mem_append_right _ (List.mem_of_getElem? (l := tables_1) (i := 1375) (by decide +kernel)), by decide +kernel⟩
set_option maxRecDepth 20000 in
theorem kc_X12_haveOneForm : Cond.code yX12_haveOneForm cX12_haveOneForm 3 (some .boolean) ∈ gd := List.mem_filter.mpr ⟨List.mem_append_right _ (List.mem_of_getElem? (l := tables_1) (i := 1378) (by decide +kernel)), by decide +kernel⟩
set_option maxRecDepth 20000 in
theorem cal_X12_haveOneForm : CalOK yX12_haveOneForm cX12_haveOneForm 3 (some .boolean) 2 := ⟨kc_X12_haveOneForm, ki_X12, by decide, by decide +kernel⟩
set_option maxRecDepth 20000 in
theorem kn_X12_haveOneForm : Cond.instanceMethod yX12_haveOneForm ∈ gd := List.mem_filter.mpr ⟨List.mem_append_right _ (List.mem_of_getElem? (l := tables_1) (i := 1376) (by decide +kernel)), by decide +kernel⟩
set_option maxRecDepth 20000 in
theorem ks_X12_haveOneForm : Cond.selects yX12_haveOneForm.cls yX12_haveOneForm yX12_haveOneForm ∈ gd := List.mem_filter.mpr ⟨List.mem_append_right _ (List.mem_of_getElem? (l := tables_1) (i := 1377) (by decide +kernel)), by decide +kernel⟩
set_option maxRecDepth 20000 in
theorem kmL_205 : Cond.methodLink RL 205 yL_likeness ∈ gd := List.mem_filter.mpr ⟨List.mem_append_right _ (List.mem_of_getElem? (l := tables_1) (i := 924) (by decide +kernel)), by decide +kernel⟩
set_option maxRecDepth 20000 in
theorem kmL_207 : Cond.methodLink RL 207 yX12_likeness ∈ gd := List.mem_filter.mpr ⟨List.mem_append_right _ (List.mem_of_getElem? (l := tables_1) (i := 1379) (by decide +kernel)), by decide +kernel⟩
set_option maxRecDepth 20000 in
theorem kc_X12_likeness : Cond.code yX12_likeness cX12_likeness 3 (some .int) ∈ gd := List.mem_filter.mpr ⟨List.mem_append_right _ (List.mem_of_getElem? (l := tables_1) (i := 1382) (by decide +kernel)), by decide +kernel⟩
set_option maxRecDepth 20000 in
theorem cal_X12_likeness : CalOK yX12_likeness cX12_likeness 3 (some .int) 2 := ⟨kc_X12_likeness, ki_X12, by decide, by decide +kernel⟩
set_option maxRecDepth 20000 in
theorem kn_X12_likeness : Cond.instanceMethod yX12_likeness ∈ gd := List.mem_filter.mpr ⟨List.mem_append_right _ (List.mem_of_getElem? (l := tables_1) (i := 1380) (by decide +kernel)), by decide +kernel⟩
set_option maxRecDepth 20000 in
theorem ks_X12_likeness : Cond.selects yX12_likeness.cls yX12_likeness yX12_likeness ∈ gd := List.mem_filter.mpr ⟨List.mem_append_right _ (List.mem_of_getElem? (l := tables_1) (i := 1381) (by decide +kernel)), by decide +kernel⟩
set_option maxRecDepth 20000 in
theorem kmL_208 : Cond.methodLink RL 208 yX11_works ∈ gd := List.mem_filter.mpr ⟨List.mem_append_right _ (List.mem_of_getElem? (l := tables_1) (i := 226) (by decide +kernel)), by decide +kernel⟩
set_option maxRecDepth 20000 in
theorem kc_X11_works : Cond.code yX11_works cX11_works 1 (some .int) ∈ gd := List.mem_filter.mpr ⟨List.mem_append_right _ (List.mem_of_getElem? (l := tables_1) (i := 229) (by decide +kernel)), by decide +kernel⟩
set_option maxRecDepth 20000 in
theorem cal_X11_works : CalOK yX11_works cX11_works 1 (some .int) 0 := ⟨kc_X11_works, ki_X11, by decide, by decide +kernel⟩
set_option maxRecDepth 20000 in
theorem kn_X11_works : Cond.instanceMethod yX11_works ∈ gd := List.mem_filter.mpr ⟨List.mem_append_right _ (List.mem_of_getElem? (l := tables_1) (i := 227) (by decide +kernel)), by decide +kernel⟩
set_option maxRecDepth 20000 in
theorem ks_X11_works : Cond.selects yX11_works.cls yX11_works yX11_works ∈ gd := List.mem_filter.mpr ⟨List.mem_append_right _ (List.mem_of_getElem? (l := tables_1) (i := 228) (by decide +kernel)), by decide +kernel⟩
set_option maxRecDepth 20000 in
theorem kmL_211 : Cond.methodLink RL 211 yX12_works ∈ gd := List.mem_filter.mpr ⟨List.mem_append_right _ (List.mem_of_getElem? (l := tables_1) (i := 1387) (by decide +kernel)), by decide +kernel⟩
set_option maxRecDepth 20000 in
theorem kc_X12_works : Cond.code yX12_works cX12_works 1 (some .int) ∈ gd := List.mem_filter.mpr ⟨List.mem_append_right _ (List.mem_of_getElem? (l := tables_1) (i := 1390) (by decide +kernel)), by decide +kernel⟩
set_option maxRecDepth 20000 in
theorem cal_X12_works : CalOK yX12_works cX12_works 1 (some .int) 0 := ⟨kc_X12_works, ki_X12, by decide, by decide +kernel⟩
set_option maxRecDepth 20000 in
theorem kn_X12_works : Cond.instanceMethod yX12_works ∈ gd := List.mem_filter.mpr ⟨List.mem_append_right _ (List.mem_of_getElem? (l := tables_1) (i := 1388) (by decide +kernel)), by decide +kernel⟩
set_option maxRecDepth 20000 in
theorem ks_X12_works : Cond.selects yX12_works.cls yX12_works yX12_works ∈ gd := List.mem_filter.mpr ⟨List.mem_append_right _ (List.mem_of_getElem? (l := tables_1) (i := 1389) (by decide +kernel)), by decide +kernel⟩
set_option maxRecDepth 20000 in
theorem kmL_212 : Cond.methodLink RL 212 yL_meets ∈ gd := List.mem_filter.mpr ⟨List.mem_append_right _ (List.mem_of_getElem? (l := tables_1) (i := 944) (by decide +kernel)), by decide +kernel⟩
set_option maxRecDepth 20000 in
theorem kmL_214 : Cond.methodLink RL 214 yX12_meets ∈ gd := List.mem_filter.mpr ⟨List.mem_append_right _ (List.mem_of_getElem? (l := tables_1) (i := 1391) (by decide +kernel)), by decide +kernel⟩
set_option maxRecDepth 20000 in
theorem kc_X12_meets : Cond.code yX12_meets cX12_meets 2 (some .boolean) ∈ gd := List.mem_filter.mpr ⟨List.mem_append_right _ (List.mem_of_getElem? (l := tables_1) (i := 1394) (by decide +kernel)), by decide +kernel⟩
set_option maxRecDepth 20000 in
theorem cal_X12_meets : CalOK yX12_meets cX12_meets 2 (some .boolean) 1 := ⟨kc_X12_meets, ki_X12, by decide, by decide +kernel⟩
set_option maxRecDepth 20000 in
theorem kn_X12_meets : Cond.instanceMethod yX12_meets ∈ gd := List.mem_filter.mpr ⟨List.mem_append_right _ (List.mem_of_getElem? (l := tables_1) (i := 1392) (by decide +kernel)), by decide +kernel⟩
set_option maxRecDepth 20000 in
theorem ks_X12_meets : Cond.selects yX12_meets.cls yX12_meets yX12_meets ∈ gd := List.mem_filter.mpr ⟨List.mem_append_right _ (List.mem_of_getElem? (l := tables_1) (i := 1393) (by decide +kernel)), by decide +kernel⟩
set_option maxRecDepth 20000 in
theorem kmL_215 : Cond.methodLink RL 215 yL_copyOf ∈ gd := List.mem_filter.mpr ⟨List.mem_append_right _ (List.mem_of_getElem? (l := tables_1) (i := 951) (by decide +kernel)), by decide +kernel⟩
set_option maxRecDepth 20000 in
theorem kmL_217 : Cond.methodLink RL 217 yX12_copyOf ∈ gd := List.mem_filter.mpr ⟨List.mem_append_right _ (List.mem_of_getElem? (l := tables_1) (i := 1395) (by decide +kernel)), by decide +kernel⟩
set_option maxRecDepth 20000 in
theorem kc_X12_copyOf : Cond.code yX12_copyOf cX12_copyOf 2 (some .int) ∈ gd := List.mem_filter.mpr ⟨List.mem_append_right _ (List.mem_of_getElem? (l := tables_1) (i := 1398) (by decide +kernel)), by decide +kernel⟩
set_option maxRecDepth 20000 in
theorem cal_X12_copyOf : CalOK yX12_copyOf cX12_copyOf 2 (some .int) 1 := ⟨kc_X12_copyOf, ki_X12, by decide, by decide +kernel⟩
set_option maxRecDepth 20000 in
theorem kn_X12_copyOf : Cond.instanceMethod yX12_copyOf ∈ gd := List.mem_filter.mpr ⟨List.mem_append_right _ (List.mem_of_getElem? (l := tables_1) (i := 1396) (by decide +kernel)), by decide +kernel⟩
set_option maxRecDepth 20000 in
theorem ks_X12_copyOf : Cond.selects yX12_copyOf.cls yX12_copyOf yX12_copyOf ∈ gd := List.mem_filter.mpr ⟨List.mem_append_right _ (List.mem_of_getElem? (l := tables_1) (i := 1397) (by decide +kernel)), by decide +kernel⟩
set_option maxRecDepth 20000 in
theorem kmL_218 : Cond.methodLink RL 218 yL_hangs ∈ gd := List.mem_filter.mpr ⟨List.mem_append_right _ (List.mem_of_getElem? (l := tables_1) (i := 958) (by decide +kernel)), by decide +kernel⟩
set_option maxRecDepth 20000 in
theorem kmL_220 : Cond.methodLink RL 220 yX12_hangs ∈ gd := List.mem_filter.mpr ⟨List.mem_append_right _ (List.mem_of_getElem? (l := tables_1) (i := 1399) (by decide +kernel)), by decide +kernel⟩
set_option maxRecDepth 20000 in
theorem kc_X12_hangs : Cond.code yX12_hangs cX12_hangs 2 (some .int) ∈ gd := List.mem_filter.mpr ⟨List.mem_append_right _ (List.mem_of_getElem? (l := tables_1) (i := 1402) (by decide +kernel)), by decide +kernel⟩
set_option maxRecDepth 20000 in
theorem cal_X12_hangs : CalOK yX12_hangs cX12_hangs 2 (some .int) 1 := ⟨kc_X12_hangs, ki_X12, by decide, by decide +kernel⟩
set_option maxRecDepth 20000 in
theorem kn_X12_hangs : Cond.instanceMethod yX12_hangs ∈ gd := List.mem_filter.mpr ⟨List.mem_append_right _ (List.mem_of_getElem? (l := tables_1) (i := 1400) (by decide +kernel)), by decide +kernel⟩
set_option maxRecDepth 20000 in
theorem ks_X12_hangs : Cond.selects yX12_hangs.cls yX12_hangs yX12_hangs ∈ gd := List.mem_filter.mpr ⟨List.mem_append_right _ (List.mem_of_getElem? (l := tables_1) (i := 1401) (by decide +kernel)), by decide +kernel⟩
set_option maxRecDepth 20000 in
theorem kmL_221 : Cond.methodLink RL 221 yL_onWall ∈ gd := List.mem_filter.mpr ⟨List.mem_append_right _ (List.mem_of_getElem? (l := tables_1) (i := 965) (by decide +kernel)), by decide +kernel⟩
set_option maxRecDepth 20000 in
theorem kmL_223 : Cond.methodLink RL 223 yX12_onWall ∈ gd := List.mem_filter.mpr ⟨List.mem_append_right _ (List.mem_of_getElem? (l := tables_1) (i := 1403) (by decide +kernel)), by decide +kernel⟩
set_option maxRecDepth 20000 in
theorem kc_X12_onWall : Cond.code yX12_onWall cX12_onWall 5 (some .int) ∈ gd := List.mem_filter.mpr ⟨List.mem_append_right _ (List.mem_of_getElem? (l := tables_1) (i := 1406) (by decide +kernel)), by decide +kernel⟩
set_option maxRecDepth 20000 in
theorem cal_X12_onWall : CalOK yX12_onWall cX12_onWall 5 (some .int) 2 := ⟨kc_X12_onWall, ki_X12, by decide, by decide +kernel⟩
set_option maxRecDepth 20000 in
theorem kn_X12_onWall : Cond.instanceMethod yX12_onWall ∈ gd := List.mem_filter.mpr ⟨List.mem_append_right _ (List.mem_of_getElem? (l := tables_1) (i := 1404) (by decide +kernel)), by decide +kernel⟩
set_option maxRecDepth 20000 in
theorem ks_X12_onWall : Cond.selects yX12_onWall.cls yX12_onWall yX12_onWall ∈ gd := List.mem_filter.mpr ⟨List.mem_append_right _ (List.mem_of_getElem? (l := tables_1) (i := 1405) (by decide +kernel)), by decide +kernel⟩
set_option maxRecDepth 20000 in
theorem kmL_224 : Cond.methodLink RL 224 yL_hung ∈ gd := List.mem_filter.mpr ⟨List.mem_append_right _ (List.mem_of_getElem? (l := tables_1) (i := 983) (by decide +kernel)), by decide +kernel⟩
set_option maxRecDepth 20000 in
theorem kmL_226 : Cond.methodLink RL 226 yX12_hung ∈ gd := List.mem_filter.mpr ⟨List.mem_append_right _ (List.mem_of_getElem? (l := tables_1) (i := 1411) (by decide +kernel)), by decide +kernel⟩
set_option maxRecDepth 20000 in
theorem kc_X12_hung : Cond.code yX12_hung cX12_hung 4 (some .int) ∈ gd := List.mem_filter.mpr ⟨List.mem_append_right _ (List.mem_of_getElem? (l := tables_1) (i := 1414) (by decide +kernel)), by decide +kernel⟩
set_option maxRecDepth 20000 in
theorem cal_X12_hung : CalOK yX12_hung cX12_hung 4 (some .int) 1 := ⟨kc_X12_hung, ki_X12, by decide, by decide +kernel⟩
set_option maxRecDepth 20000 in
theorem kn_X12_hung : Cond.instanceMethod yX12_hung ∈ gd := List.mem_filter.mpr ⟨List.mem_append_right _ (List.mem_of_getElem? (l := tables_1) (i := 1412) (by decide +kernel)), by decide +kernel⟩
set_option maxRecDepth 20000 in
theorem ks_X12_hung : Cond.selects yX12_hung.cls yX12_hung yX12_hung ∈ gd := List.mem_filter.mpr ⟨List.mem_append_right _ (List.mem_of_getElem? (l := tables_1) (i := 1413) (by decide +kernel)), by decide +kernel⟩
