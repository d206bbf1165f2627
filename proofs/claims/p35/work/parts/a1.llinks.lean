set_option maxRecDepth 20000 in
theorem kmL_83 : Cond.methodLink RL 83 yX11_end ∈ gd := List.mem_filter.mpr ⟨List.mem_append_right _ (List.mem_of_getElem? (l := tables_1) (i := 436) (by decide +kernel)), by decide +kernel⟩
set_option maxRecDepth 20000 in
theorem kc_X11_end : Cond.code yX11_end cX11_end 1 (some .int) ∈ gd := List.mem_filter.mpr ⟨List.mem_append_right _ (List.mem_of_getElem? (l := tables_1) (i := 439) (by decide +kernel)), by decide +kernel⟩
set_option maxRecDepth 20000 in
theorem cal_X11_end : CalOK yX11_end cX11_end 1 (some .int) 0 := ⟨kc_X11_end, ki_X11, by decide, by decide +kernel⟩
set_option maxRecDepth 20000 in
theorem kn_X11_end : Cond.instanceMethod yX11_end ∈ gd := List.mem_filter.mpr ⟨List.mem_append_right _ (List.mem_of_getElem? (l := tables_1) (i := 437) (by decide +kernel)), by decide +kernel⟩
set_option maxRecDepth 20000 in
theorem ks_X11_end : Cond.selects yX11_end.cls yX11_end yX11_end ∈ gd := List.mem_filter.mpr ⟨List.mem_append_right _ (List.mem_of_getElem? (l := tables_1) (i := 438) (by decide +kernel)), by decide +kernel⟩
set_option maxRecDepth 20000 in
theorem kmL_86 : Cond.methodLink RL 86 yX11_word ∈ gd := List.mem_filter.mpr ⟨List.mem_append_right _ (List.mem_of_getElem? (l := tables_1) (i := 445) (by decide +kernel)), by decide +kernel⟩
set_option maxRecDepth 20000 in
theorem kc_X11_word : Cond.code yX11_word cX11_word 2 (some .int) ∈ gd := List.mem_filter.mpr ⟨List.mem_append_right _ (List.mem_of_getElem? (l := tables_1) (i := 448) (by decide +kernel)), by decide +kernel⟩
set_option maxRecDepth 20000 in
theorem cal_X11_word : CalOK yX11_word cX11_word 2 (some .int) 1 := ⟨kc_X11_word, ki_X11, by decide, by decide +kernel⟩
set_option maxRecDepth 20000 in
theorem kn_X11_word : Cond.instanceMethod yX11_word ∈ gd := List.mem_filter.mpr ⟨List.mem_append_right _ (List.mem_of_getElem? (l := tables_1) (i := 446) (by decide +kernel)), by decide +kernel⟩
set_option maxRecDepth 20000 in
theorem ks_X11_word : Cond.selects yX11_word.cls yX11_word yX11_word ∈ gd := List.mem_filter.mpr ⟨List.mem_append_right _ (List.mem_of_getElem? (l := tables_1) (i := 447) (by decide +kernel)), by decide +kernel⟩
set_option maxRecDepth 20000 in
theorem kmL_89 : Cond.methodLink RL 89 yX11_call ∈ gd := List.mem_filter.mpr ⟨List.mem_append_right _ (List.mem_of_getElem? (l := tables_1) (i := 458) (by decide +kernel)), by decide +kernel⟩
set_option maxRecDepth 20000 in
theorem kc_X11_call : Cond.code yX11_call cX11_call 2 (some .int) ∈ gd := List.mem_filter.mpr ⟨List.mem_append_right _ (List.mem_of_getElem? (l := tables_1) (i := 461) (by decide +kernel)), by decide +kernel⟩
set_option maxRecDepth 20000 in
theorem cal_X11_call : CalOK yX11_call cX11_call 2 (some .int) 1 := ⟨kc_X11_call, ki_X11, by decide, by decide +kernel⟩
set_option maxRecDepth 20000 in
theorem kn_X11_call : Cond.instanceMethod yX11_call ∈ gd := List.mem_filter.mpr ⟨List.mem_append_right _ (List.mem_of_getElem? (l := tables_1) (i := 459) (by decide +kernel)), by decide +kernel⟩
set_option maxRecDepth 20000 in
theorem ks_X11_call : Cond.selects yX11_call.cls yX11_call yX11_call ∈ gd := List.mem_filter.mpr ⟨List.mem_append_right _ (List.mem_of_getElem? (l := tables_1) (i := 460) (by decide +kernel)), by decide +kernel⟩
set_option maxRecDepth 20000 in
theorem kmL_62 : Cond.methodLink RL 62 yX11_turn ∈ gd := List.mem_filter.mpr ⟨List.mem_append_right _ (List.mem_of_getElem? (l := tables_1) (i := 413) (by decide +kernel)), by decide +kernel⟩
set_option maxRecDepth 20000 in
theorem kc_X11_turn : Cond.code yX11_turn cX11_turn 3 (some .int) ∈ gd := List.mem_filter.mpr ⟨List.mem_append_right _ (List.mem_of_getElem? (l := tables_1) (i := 416) (by decide +kernel)), by decide +kernel⟩
set_option maxRecDepth 20000 in
theorem cal_X11_turn : CalOK yX11_turn cX11_turn 3 (some .int) 2 := ⟨kc_X11_turn, ki_X11, by decide, by decide +kernel⟩
set_option maxRecDepth 20000 in
theorem kn_X11_turn : Cond.instanceMethod yX11_turn ∈ gd := List.mem_filter.mpr ⟨List.mem_append_right _ (List.mem_of_getElem? (l := tables_1) (i := 414) (by decide +kernel)), by decide +kernel⟩
set_option maxRecDepth 20000 in
theorem ks_X11_turn : Cond.selects yX11_turn.cls yX11_turn yX11_turn ∈ gd := List.mem_filter.mpr ⟨List.mem_append_right _ (List.mem_of_getElem? (l := tables_1) (i := 415) (by decide +kernel)), by decide +kernel⟩
set_option maxRecDepth 20000 in
theorem kmL_76 : Cond.methodLink RL 76 yX11_repeat ∈ gd := List.mem_filter.mpr ⟨List.mem_append_right _ (List.mem_of_getElem? (l := tables_1) (i := 429) (by decide +kernel)), by decide +kernel⟩
set_option maxRecDepth 20000 in
theorem kc_X11_repeat : Cond.code yX11_repeat cX11_repeat 3 (some .int) ∈ gd := List.mem_filter.mpr ⟨List.mem_append_right _ (List.mem_of_getElem? (l := tables_1) (i := 432) (by decide +kernel)), by decide +kernel⟩
set_option maxRecDepth 20000 in
theorem cal_X11_repeat : CalOK yX11_repeat cX11_repeat 3 (some .int) 2 := ⟨kc_X11_repeat, ki_X11, by decide, by decide +kernel⟩
set_option maxRecDepth 20000 in
theorem kn_X11_repeat : Cond.instanceMethod yX11_repeat ∈ gd := List.mem_filter.mpr ⟨List.mem_append_right _ (List.mem_of_getElem? (l := tables_1) (i := 430) (by decide +kernel)), by decide +kernel⟩
set_option maxRecDepth 20000 in
theorem ks_X11_repeat : Cond.selects yX11_repeat.cls yX11_repeat yX11_repeat ∈ gd := List.mem_filter.mpr ⟨List.mem_append_right _ (List.mem_of_getElem? (l := tables_1) (i := 431) (by decide +kernel)), by decide +kernel⟩
set_option maxRecDepth 20000 in
theorem kmL_79 : Cond.methodLink RL 79 yL_others ∈ gd := List.mem_filter.mpr ⟨List.mem_append_right _ (List.mem_of_getElem? (l := tables_1) (i := 433) (by decide +kernel)), by decide +kernel⟩
set_option maxRecDepth 20000 in
theorem kc_L_others : Cond.code yL_others cL_others 4 (some .boolean) ∈ gd := List.mem_filter.mpr ⟨List.mem_append_right _ (List.mem_of_getElem? (l := tables_1) (i := 435) (by decide +kernel)), by decide +kernel⟩
set_option maxRecDepth 20000 in
theorem ki_L : Cond.initialized RL ∈ gd := List.mem_filter.mpr ⟨List.mem_append_right _ (List.mem_of_getElem? (l := tables_1) (i := 0) (by decide +kernel)), by decide +kernel⟩
set_option maxRecDepth 20000 in
theorem cal_L_others : CalOK yL_others cL_others 4 (some .boolean) 4 := ⟨kc_L_others, ki_L, by decide, by decide +kernel⟩
set_option maxRecDepth 20000 in
theorem kz_L_others : Cond.static yL_others ∈ gd := List.mem_filter.mpr ⟨List.mem_append_right _ (List.mem_of_getElem? (l := tables_1) (i := 434) (by decide +kernel)), by decide +kernel⟩
set_option maxRecDepth 20000 in
theorem kmL_58 : Cond.methodLink RL 58 yX11_forward ∈ gd := List.mem_filter.mpr ⟨List.mem_append_right _ (List.mem_of_getElem? (l := tables_1) (i := 329) (by decide +kernel)), by decide +kernel⟩
set_option maxRecDepth 20000 in
theorem kc_X11_forward : Cond.code yX11_forward cX11_forward 3 (some .int) ∈ gd := List.mem_filter.mpr ⟨List.mem_append_right _ (List.mem_of_getElem? (l := tables_1) (i := 332) (by decide +kernel)), by decide +kernel⟩
set_option maxRecDepth 20000 in
theorem cal_X11_forward : CalOK yX11_forward cX11_forward 3 (some .int) 2 := ⟨kc_X11_forward, ki_X11, by decide, by decide +kernel⟩
set_option maxRecDepth 20000 in
theorem kn_X11_forward : Cond.instanceMethod yX11_forward ∈ gd := List.mem_filter.mpr ⟨List.mem_append_right _ (List.mem_of_getElem? (l := tables_1) (i := 330) (by decide +kernel)), by decide +kernel⟩
set_option maxRecDepth 20000 in
theorem ks_X11_forward : Cond.selects yX11_forward.cls yX11_forward yX11_forward ∈ gd := List.mem_filter.mpr ⟨List.mem_append_right _ (List.mem_of_getElem? (l := tables_1) (i := 331) (by decide +kernel)), by decide +kernel⟩
set_option maxRecDepth 20000 in
theorem kmL_69 : Cond.methodLink RL 69 yX11_add ∈ gd := List.mem_filter.mpr ⟨List.mem_append_right _ (List.mem_of_getElem? (l := tables_1) (i := 421) (by decide +kernel)), by decide +kernel⟩
set_option maxRecDepth 20000 in
theorem kc_X11_add : Cond.code yX11_add cX11_add 4 (some .int) ∈ gd := List.mem_filter.mpr ⟨List.mem_append_right _ (List.mem_of_getElem? (l := tables_1) (i := 424) (by decide +kernel)), by decide +kernel⟩
set_option maxRecDepth 20000 in
theorem cal_X11_add : CalOK yX11_add cX11_add 4 (some .int) 3 := ⟨kc_X11_add, ki_X11, by decide, by decide +kernel⟩
set_option maxRecDepth 20000 in
theorem kn_X11_add : Cond.instanceMethod yX11_add ∈ gd := List.mem_filter.mpr ⟨List.mem_append_right _ (List.mem_of_getElem? (l := tables_1) (i := 422) (by decide +kernel)), by decide +kernel⟩
set_option maxRecDepth 20000 in
theorem ks_X11_add : Cond.selects yX11_add.cls yX11_add yX11_add ∈ gd := List.mem_filter.mpr ⟨List.mem_append_right _ (List.mem_of_getElem? (l := tables_1) (i := 423) (by decide +kernel)), by decide +kernel⟩
set_option maxRecDepth 20000 in
theorem kmL_65 : Cond.methodLink RL 65 yX11_pen ∈ gd := List.mem_filter.mpr ⟨List.mem_append_right _ (List.mem_of_getElem? (l := tables_1) (i := 417) (by decide +kernel)), by decide +kernel⟩
set_option maxRecDepth 20000 in
theorem kc_X11_pen : Cond.code yX11_pen cX11_pen 2 (some .int) ∈ gd := List.mem_filter.mpr ⟨List.mem_append_right _ (List.mem_of_getElem? (l := tables_1) (i := 420) (by decide +kernel)), by decide +kernel⟩
set_option maxRecDepth 20000 in
theorem cal_X11_pen : CalOK yX11_pen cX11_pen 2 (some .int) 1 := ⟨kc_X11_pen, ki_X11, by decide, by decide +kernel⟩
set_option maxRecDepth 20000 in
theorem kn_X11_pen : Cond.instanceMethod yX11_pen ∈ gd := List.mem_filter.mpr ⟨List.mem_append_right _ (List.mem_of_getElem? (l := tables_1) (i := 418) (by decide +kernel)), by decide +kernel⟩
set_option maxRecDepth 20000 in
theorem ks_X11_pen : Cond.selects yX11_pen.cls yX11_pen yX11_pen ∈ gd := List.mem_filter.mpr ⟨List.mem_append_right _ (List.mem_of_getElem? (l := tables_1) (i := 419) (by decide +kernel)), by decide +kernel⟩
set_option maxRecDepth 20000 in
theorem kmL_73 : Cond.methodLink RL 73 yX11_set ∈ gd := List.mem_filter.mpr ⟨List.mem_append_right _ (List.mem_of_getElem? (l := tables_1) (i := 425) (by decide +kernel)), by decide +kernel⟩
set_option maxRecDepth 20000 in
theorem kc_X11_set : Cond.code yX11_set cX11_set 4 (some .int) ∈ gd := List.mem_filter.mpr ⟨List.mem_append_right _ (List.mem_of_getElem? (l := tables_1) (i := 428) (by decide +kernel)), by decide +kernel⟩
set_option maxRecDepth 20000 in
theorem cal_X11_set : CalOK yX11_set cX11_set 4 (some .int) 3 := ⟨kc_X11_set, ki_X11, by decide, by decide +kernel⟩
set_option maxRecDepth 20000 in
theorem kn_X11_set : Cond.instanceMethod yX11_set ∈ gd := List.mem_filter.mpr ⟨List.mem_append_right _ (List.mem_of_getElem? (l := tables_1) (i := 426) (by decide +kernel)), by decide +kernel⟩
set_option maxRecDepth 20000 in
theorem ks_X11_set : Cond.selects yX11_set.cls yX11_set yX11_set ∈ gd := List.mem_filter.mpr ⟨List.mem_append_right _ (List.mem_of_getElem? (l := tables_1) (i := 427) (by decide +kernel)), by decide +kernel⟩
set_option maxRecDepth 20000 in
theorem kmL_99 : Cond.methodLink RL 99 yX11_isDrawn ∈ gd := List.mem_filter.mpr ⟨List.mem_append_right _ (List.mem_of_getElem? (l := tables_1) (i := 688) (by decide +kernel)), by decide +kernel⟩
set_option maxRecDepth 20000 in
theorem kc_X11_isDrawn : Cond.code yX11_isDrawn cX11_isDrawn 6 (some .boolean) ∈ gd := List.mem_filter.mpr ⟨List.mem_append_right _ (List.mem_of_getElem? (l := tables_1) (i := 691) (by decide +kernel)), by decide +kernel⟩
set_option maxRecDepth 20000 in
theorem cal_X11_isDrawn : CalOK yX11_isDrawn cX11_isDrawn 6 (some .boolean) 4 := ⟨kc_X11_isDrawn, ki_X11, by decide, by decide +kernel⟩
set_option maxRecDepth 20000 in
theorem kn_X11_isDrawn : Cond.instanceMethod yX11_isDrawn ∈ gd := List.mem_filter.mpr ⟨List.mem_append_right _ (List.mem_of_getElem? (l := tables_1) (i := 689) (by decide +kernel)), by decide +kernel⟩
set_option maxRecDepth 20000 in
theorem ks_X11_isDrawn : Cond.selects yX11_isDrawn.cls yX11_isDrawn yX11_isDrawn ∈ gd := List.mem_filter.mpr ⟨List.mem_append_right _ (List.mem_of_getElem? (l := tables_1) (i := 690) (by decide +kernel)), by decide +kernel⟩
set_option maxRecDepth 20000 in
theorem kmL_103 : Cond.methodLink RL 103 yX11_steps ∈ gd := List.mem_filter.mpr ⟨List.mem_append_right _ (List.mem_of_getElem? (l := tables_1) (i := 703) (by decide +kernel)), by decide +kernel⟩
set_option maxRecDepth 20000 in
theorem kc_X11_steps : Cond.code yX11_steps cX11_steps 2 (some .int) ∈ gd := List.mem_filter.mpr ⟨List.mem_append_right _ (List.mem_of_getElem? (l := tables_1) (i := 706) (by decide +kernel)), by decide +kernel⟩
set_option maxRecDepth 20000 in
theorem cal_X11_steps : CalOK yX11_steps cX11_steps 2 (some .int) 1 := ⟨kc_X11_steps, ki_X11, by decide, by decide +kernel⟩
set_option maxRecDepth 20000 in
theorem kn_X11_steps : Cond.instanceMethod yX11_steps ∈ gd := List.mem_filter.mpr ⟨List.mem_append_right _ (List.mem_of_getElem? (l := tables_1) (i := 704) (by decide +kernel)), by decide +kernel⟩
set_option maxRecDepth 20000 in
theorem ks_X11_steps : Cond.selects yX11_steps.cls yX11_steps yX11_steps ∈ gd := List.mem_filter.mpr ⟨List.mem_append_right _ (List.mem_of_getElem? (l := tables_1) (i := 705) (by decide +kernel)), by decide +kernel⟩
set_option maxRecDepth 20000 in
theorem kmL_106 : Cond.methodLink RL 106 yX11_strokes ∈ gd := List.mem_filter.mpr ⟨List.mem_append_right _ (List.mem_of_getElem? (l := tables_1) (i := 707) (by decide +kernel)), by decide +kernel⟩
set_option maxRecDepth 20000 in
theorem kc_X11_strokes : Cond.code yX11_strokes cX11_strokes 2 (some .int) ∈ gd := List.mem_filter.mpr ⟨List.mem_append_right _ (List.mem_of_getElem? (l := tables_1) (i := 710) (by decide +kernel)), by decide +kernel⟩
set_option maxRecDepth 20000 in
theorem cal_X11_strokes : CalOK yX11_strokes cX11_strokes 2 (some .int) 1 := ⟨kc_X11_strokes, ki_X11, by decide, by decide +kernel⟩
set_option maxRecDepth 20000 in
theorem kn_X11_strokes : Cond.instanceMethod yX11_strokes ∈ gd := List.mem_filter.mpr ⟨List.mem_append_right _ (List.mem_of_getElem? (l := tables_1) (i := 708) (by decide +kernel)), by decide +kernel⟩
set_option maxRecDepth 20000 in
theorem ks_X11_strokes : Cond.selects yX11_strokes.cls yX11_strokes yX11_strokes ∈ gd := List.mem_filter.mpr ⟨List.mem_append_right _ (List.mem_of_getElem? (l := tables_1) (i := 709) (by decide +kernel)), by decide +kernel⟩
set_option maxRecDepth 20000 in
theorem kmL_109 : Cond.methodLink RL 109 yX11_fault ∈ gd := List.mem_filter.mpr ⟨List.mem_append_right _ (List.mem_of_getElem? (l := tables_1) (i := 711) (by decide +kernel)), by decide +kernel⟩
set_option maxRecDepth 20000 in
theorem kc_X11_fault : Cond.code yX11_fault cX11_fault 2 (some .int) ∈ gd := List.mem_filter.mpr ⟨List.mem_append_right _ (List.mem_of_getElem? (l := tables_1) (i := 714) (by decide +kernel)), by decide +kernel⟩
set_option maxRecDepth 20000 in
theorem cal_X11_fault : CalOK yX11_fault cX11_fault 2 (some .int) 1 := ⟨kc_X11_fault, ki_X11, by decide, by decide +kernel⟩
set_option maxRecDepth 20000 in
theorem kn_X11_fault : Cond.instanceMethod yX11_fault ∈ gd := List.mem_filter.mpr ⟨List.mem_append_right _ (List.mem_of_getElem? (l := tables_1) (i := 712) (by decide +kernel)), by decide +kernel⟩
set_option maxRecDepth 20000 in
theorem ks_X11_fault : Cond.selects yX11_fault.cls yX11_fault yX11_fault ∈ gd := List.mem_filter.mpr ⟨List.mem_append_right _ (List.mem_of_getElem? (l := tables_1) (i := 713) (by decide +kernel)), by decide +kernel⟩
set_option maxRecDepth 20000 in
theorem kmL_112 : Cond.methodLink RL 112 yX11_strokesBySteps ∈ gd := List.mem_filter.mpr ⟨List.mem_append_right _ (List.mem_of_getElem? (l := tables_1) (i := 715) (by decide +kernel)), by decide +kernel⟩
set_option maxRecDepth 20000 in
theorem kc_X11_strokesBySteps : Cond.code yX11_strokesBySteps cX11_strokesBySteps 4 (some .int) ∈ gd := List.mem_filter.mpr ⟨List.mem_append_right _ (List.mem_of_getElem? (l := tables_1) (i := 718) (by decide +kernel)), by decide +kernel⟩
set_option maxRecDepth 20000 in
theorem cal_X11_strokesBySteps : CalOK yX11_strokesBySteps cX11_strokesBySteps 4 (some .int) 2 := ⟨kc_X11_strokesBySteps, ki_X11, by decide, by decide +kernel⟩
set_option maxRecDepth 20000 in
theorem kn_X11_strokesBySteps : Cond.instanceMethod yX11_strokesBySteps ∈ gd := List.mem_filter.mpr ⟨List.mem_append_right _ (List.mem_of_getElem? (l := tables_1) (i := 716) (by decide +kernel)), by decide +kernel⟩
set_option maxRecDepth 20000 in
theorem ks_X11_strokesBySteps : Cond.selects yX11_strokesBySteps.cls yX11_strokesBySteps yX11_strokesBySteps ∈ gd := List.mem_filter.mpr ⟨List.mem_append_right _ (List.mem_of_getElem? (l := tables_1) (i := 717) (by decide +kernel)), by decide +kernel⟩
set_option maxRecDepth 20000 in
theorem kmL_92 : Cond.methodLink RL 92 yX11_write ∈ gd := List.mem_filter.mpr ⟨List.mem_append_right _ (List.mem_of_getElem? (l := tables_1) (i := 473) (by decide +kernel)), by decide +kernel⟩
set_option maxRecDepth 20000 in
theorem kc_X11_write : Cond.code yX11_write cX11_write 4 (some .int) ∈ gd := List.mem_filter.mpr ⟨List.mem_append_right _ (List.mem_of_getElem? (l := tables_1) (i := 476) (by decide +kernel)), by decide +kernel⟩
set_option maxRecDepth 20000 in
theorem cal_X11_write : CalOK yX11_write cX11_write 4 (some .int) 1 := ⟨kc_X11_write, ki_X11, by decide, by decide +kernel⟩
set_option maxRecDepth 20000 in
theorem kn_X11_write : Cond.instanceMethod yX11_write ∈ gd := List.mem_filter.mpr ⟨List.mem_append_right _ (List.mem_of_getElem? (l := tables_1) (i := 474) (by decide +kernel)), by decide +kernel⟩
set_option maxRecDepth 20000 in
theorem ks_X11_write : Cond.selects yX11_write.cls yX11_write yX11_write ∈ gd := List.mem_filter.mpr ⟨List.mem_append_right _ (List.mem_of_getElem? (l := tables_1) (i := 475) (by decide +kernel)), by decide +kernel⟩
set_option maxRecDepth 20000 in
theorem kmL_52 : Cond.methodLink RL 52 yX11_drafted ∈ gd := List.mem_filter.mpr ⟨List.mem_append_right _ (List.mem_of_getElem? (l := tables_1) (i := 205) (by decide +kernel)), by decide +kernel⟩
set_option maxRecDepth 20000 in
theorem kc_X11_drafted : Cond.code yX11_drafted cX11_drafted 1 (some .int) ∈ gd := List.mem_filter.mpr ⟨List.mem_append_right _ (List.mem_of_getElem? (l := tables_1) (i := 208) (by decide +kernel)), by decide +kernel⟩
set_option maxRecDepth 20000 in
theorem cal_X11_drafted : CalOK yX11_drafted cX11_drafted 1 (some .int) 0 := ⟨kc_X11_drafted, ki_X11, by decide, by decide +kernel⟩
set_option maxRecDepth 20000 in
theorem kn_X11_drafted : Cond.instanceMethod yX11_drafted ∈ gd := List.mem_filter.mpr ⟨List.mem_append_right _ (List.mem_of_getElem? (l := tables_1) (i := 206) (by decide +kernel)), by decide +kernel⟩
set_option maxRecDepth 20000 in
theorem ks_X11_drafted : Cond.selects yX11_drafted.cls yX11_drafted yX11_drafted ∈ gd := List.mem_filter.mpr ⟨List.mem_append_right _ (List.mem_of_getElem? (l := tables_1) (i := 207) (by decide +kernel)), by decide +kernel⟩
set_option maxRecDepth 20000 in
theorem kmL_20 : Cond.methodLink RL 20 yX11_programs ∈ gd := List.mem_filter.mpr ⟨List.mem_append_right _ (List.mem_of_getElem? (l := tables_1) (i := 213) (by decide +kernel)), by decide +kernel⟩
set_option maxRecDepth 20000 in
theorem kc_X11_programs : Cond.code yX11_programs cX11_programs 1 (some .int) ∈ gd := List.mem_filter.mpr ⟨List.mem_append_right _ (List.mem_of_getElem? (l := tables_1) (i := 216) (by decide +kernel)), by decide +kernel⟩
set_option maxRecDepth 20000 in
theorem cal_X11_programs : CalOK yX11_programs cX11_programs 1 (some .int) 0 := ⟨kc_X11_programs, ki_X11, by decide, by decide +kernel⟩
set_option maxRecDepth 20000 in
theorem kn_X11_programs : Cond.instanceMethod yX11_programs ∈ gd := List.mem_filter.mpr ⟨List.mem_append_right _ (List.mem_of_getElem? (l := tables_1) (i := 214) (by decide +kernel)), by decide +kernel⟩
set_option maxRecDepth 20000 in
theorem ks_X11_programs : Cond.selects yX11_programs.cls yX11_programs yX11_programs ∈ gd := List.mem_filter.mpr ⟨List.mem_append_right _ (List.mem_of_getElem? (l := tables_1) (i := 215) (by decide +kernel)), by decide +kernel⟩
set_option maxRecDepth 20000 in
theorem kmL_55 : Cond.methodLink RL 55 yX11_wipe ∈ gd := List.mem_filter.mpr ⟨List.mem_append_right _ (List.mem_of_getElem? (l := tables_1) (i := 465) (by decide +kernel)), by decide +kernel⟩
set_option maxRecDepth 20000 in
theorem kc_X11_wipe : Cond.code yX11_wipe cX11_wipe 2 (some .int) ∈ gd := List.mem_filter.mpr ⟨List.mem_append_right _ (List.mem_of_getElem? (l := tables_1) (i := 468) (by decide +kernel)), by decide +kernel⟩
set_option maxRecDepth 20000 in
theorem cal_X11_wipe : CalOK yX11_wipe cX11_wipe 2 (some .int) 0 := ⟨kc_X11_wipe, ki_X11, by decide, by decide +kernel⟩
set_option maxRecDepth 20000 in
theorem kn_X11_wipe : Cond.instanceMethod yX11_wipe ∈ gd := List.mem_filter.mpr ⟨List.mem_append_right _ (List.mem_of_getElem? (l := tables_1) (i := 466) (by decide +kernel)), by decide +kernel⟩
set_option maxRecDepth 20000 in
theorem ks_X11_wipe : Cond.selects yX11_wipe.cls yX11_wipe yX11_wipe ∈ gd := List.mem_filter.mpr ⟨List.mem_append_right _ (List.mem_of_getElem? (l := tables_1) (i := 467) (by decide +kernel)), by decide +kernel⟩
set_option maxRecDepth 20000 in
theorem kmL_95 : Cond.methodLink RL 95 yL_isDrawing ∈ gd := List.mem_filter.mpr ⟨List.mem_append_right _ (List.mem_of_getElem? (l := tables_1) (i := 685) (by decide +kernel)), by decide +kernel⟩
set_option maxRecDepth 20000 in
theorem kc_L_isDrawing : Cond.code yL_isDrawing cL_isDrawing 13 (some .boolean) ∈ gd := List.mem_filter.mpr ⟨List.mem_append_right _ (List.mem_of_getElem? (l := tables_1) (i := 687) (by decide +kernel)), by decide +kernel⟩
set_option maxRecDepth 20000 in
theorem cal_L_isDrawing : CalOK yL_isDrawing cL_isDrawing 13 (some .boolean) 3 := ⟨kc_L_isDrawing, ki_L, by decide, by decide +kernel⟩
set_option maxRecDepth 20000 in
theorem kz_L_isDrawing : Cond.static yL_isDrawing ∈ gd := List.mem_filter.mpr ⟨List.mem_append_right _ (List.mem_of_getElem? (l := tables_1) (i := 686) (by decide +kernel)), by decide +kernel⟩
set_option maxRecDepth 20000 in
theorem kmL_122 : Cond.methodLink RL 122 yX11_areAlike ∈ gd := List.mem_filter.mpr ⟨List.mem_append_right _ (List.mem_of_getElem? (l := tables_1) (i := 754) (by decide +kernel)), by decide +kernel⟩
set_option maxRecDepth 20000 in
theorem kc_X11_areAlike : Cond.code yX11_areAlike cX11_areAlike 5 (some .boolean) ∈ gd := List.mem_filter.mpr ⟨List.mem_append_right _ (List.mem_of_getElem? (l := tables_1) (i := 757) (by decide +kernel)), by decide +kernel⟩
set_option maxRecDepth 20000 in
theorem cal_X11_areAlike : CalOK yX11_areAlike cX11_areAlike 5 (some .boolean) 2 := ⟨kc_X11_areAlike, ki_X11, by decide, by decide +kernel⟩
set_option maxRecDepth 20000 in
theorem kn_X11_areAlike : Cond.instanceMethod yX11_areAlike ∈ gd := List.mem_filter.mpr ⟨List.mem_append_right _ (List.mem_of_getElem? (l := tables_1) (i := 755) (by decide +kernel)), by decide +kernel⟩
set_option maxRecDepth 20000 in
theorem ks_X11_areAlike : Cond.selects yX11_areAlike.cls yX11_areAlike yX11_areAlike ∈ gd := List.mem_filter.mpr ⟨List.mem_append_right _ (List.mem_of_getElem? (l := tables_1) (i := 756) (by decide +kernel)), by decide +kernel⟩
set_option maxRecDepth 20000 in
theorem kmL_132 : Cond.methodLink RL 132 yX11_allow ∈ gd := List.mem_filter.mpr ⟨List.mem_append_right _ (List.mem_of_getElem? (l := tables_1) (i := 766) (by decide +kernel)), by decide +kernel⟩
set_option maxRecDepth 20000 in
theorem kc_X11_allow : Cond.code yX11_allow cX11_allow 5 (some .int) ∈ gd := List.mem_filter.mpr ⟨List.mem_append_right _ (List.mem_of_getElem? (l := tables_1) (i := 769) (by decide +kernel)), by decide +kernel⟩
set_option maxRecDepth 20000 in
theorem cal_X11_allow : CalOK yX11_allow cX11_allow 5 (some .int) 3 := ⟨kc_X11_allow, ki_X11, by decide, by decide +kernel⟩
set_option maxRecDepth 20000 in
theorem kn_X11_allow : Cond.instanceMethod yX11_allow ∈ gd := List.mem_filter.mpr ⟨List.mem_append_right _ (List.mem_of_getElem? (l := tables_1) (i := 767) (by decide +kernel)), by decide +kernel⟩
set_option maxRecDepth 20000 in
theorem ks_X11_allow : Cond.selects yX11_allow.cls yX11_allow yX11_allow ∈ gd := List.mem_filter.mpr ⟨List.mem_append_right _ (List.mem_of_getElem? (l := tables_1) (i := 768) (by decide +kernel)), by decide +kernel⟩
set_option maxRecDepth 20000 in
theorem kmL_128 : Cond.methodLink RL 128 yL_meets ∈ gd := List.mem_filter.mpr ⟨List.mem_append_right _ (List.mem_of_getElem? (l := tables_1) (i := 751) (by decide +kernel)), by decide +kernel⟩
set_option maxRecDepth 20000 in
theorem kc_L_meets : Cond.code yL_meets cL_meets 7 (some .boolean) ∈ gd := List.mem_filter.mpr ⟨List.mem_append_right _ (List.mem_of_getElem? (l := tables_1) (i := 753) (by decide +kernel)), by decide +kernel⟩
set_option maxRecDepth 20000 in
theorem cal_L_meets : CalOK yL_meets cL_meets 7 (some .boolean) 5 := ⟨kc_L_meets, ki_L, by decide, by decide +kernel⟩
set_option maxRecDepth 20000 in
theorem kz_L_meets : Cond.static yL_meets ∈ gd := List.mem_filter.mpr ⟨List.mem_append_right _ (List.mem_of_getElem? (l := tables_1) (i := 752) (by decide +kernel)), by decide +kernel⟩
set_option maxRecDepth 20000 in
theorem kmL_26 : Cond.methodLink RL 26 yX11_exercise ∈ gd := List.mem_filter.mpr ⟨List.mem_append_right _ (List.mem_of_getElem? (l := tables_1) (i := 724) (by decide +kernel)), by decide +kernel⟩
set_option maxRecDepth 20000 in
theorem kc_X11_exercise : Cond.code yX11_exercise cX11_exercise 6 (some .int) ∈ gd := List.mem_filter.mpr ⟨List.mem_append_right _ (List.mem_of_getElem? (l := tables_1) (i := 727) (by decide +kernel)), by decide +kernel⟩
set_option maxRecDepth 20000 in
theorem cal_X11_exercise : CalOK yX11_exercise cX11_exercise 6 (some .int) 3 := ⟨kc_X11_exercise, ki_X11, by decide, by decide +kernel⟩
set_option maxRecDepth 20000 in
theorem kn_X11_exercise : Cond.instanceMethod yX11_exercise ∈ gd := List.mem_filter.mpr ⟨List.mem_append_right _ (List.mem_of_getElem? (l := tables_1) (i := 725) (by decide +kernel)), by decide +kernel⟩
set_option maxRecDepth 20000 in
theorem ks_X11_exercise : Cond.selects yX11_exercise.cls yX11_exercise yX11_exercise ∈ gd := List.mem_filter.mpr ⟨List.mem_append_right _ (List.mem_of_getElem? (l := tables_1) (i := 726) (by decide +kernel)), by decide +kernel⟩
set_option maxRecDepth 20000 in
theorem kmL_30 : Cond.methodLink RL 30 yL_allows ∈ gd := List.mem_filter.mpr ⟨List.mem_append_right _ (List.mem_of_getElem? (l := tables_1) (i := 748) (by decide +kernel)), by decide +kernel⟩
set_option maxRecDepth 20000 in
theorem kc_L_allows : Cond.code yL_allows cL_allows 9 (some .boolean) ∈ gd := List.mem_filter.mpr ⟨List.mem_append_right _ (List.mem_of_getElem? (l := tables_1) (i := 750) (by decide +kernel)), by decide +kernel⟩
set_option maxRecDepth 20000 in
theorem cal_L_allows : CalOK yL_allows cL_allows 9 (some .boolean) 7 := ⟨kc_L_allows, ki_L, by decide, by decide +kernel⟩
set_option maxRecDepth 20000 in
theorem kz_L_allows : Cond.static yL_allows ∈ gd := List.mem_filter.mpr ⟨List.mem_append_right _ (List.mem_of_getElem? (l := tables_1) (i := 749) (by decide +kernel)), by decide +kernel⟩
set_option maxRecDepth 20000 in
theorem kmL_45 : Cond.methodLink RL 45 yX11_setWall ∈ gd := List.mem_filter.mpr ⟨List.mem_append_right _ (List.mem_of_getElem? (l := tables_1) (i := 883) (by decide +kernel)), by decide +kernel⟩
set_option maxRecDepth 20000 in
theorem kc_X11_setWall : Cond.code yX11_setWall cX11_setWall 3 (some .int) ∈ gd := List.mem_filter.mpr ⟨List.mem_append_right _ (List.mem_of_getElem? (l := tables_1) (i := 886) (by decide +kernel)), by decide +kernel⟩
set_option maxRecDepth 20000 in
theorem cal_X11_setWall : CalOK yX11_setWall cX11_setWall 3 (some .int) 2 := ⟨kc_X11_setWall, ki_X11, by decide, by decide +kernel⟩
set_option maxRecDepth 20000 in
theorem kn_X11_setWall : Cond.instanceMethod yX11_setWall ∈ gd := List.mem_filter.mpr ⟨List.mem_append_right _ (List.mem_of_getElem? (l := tables_1) (i := 884) (by decide +kernel)), by decide +kernel⟩
set_option maxRecDepth 20000 in
theorem ks_X11_setWall : Cond.selects yX11_setWall.cls yX11_setWall yX11_setWall ∈ gd := List.mem_filter.mpr ⟨List.mem_append_right _ (List.mem_of_getElem? (l := tables_1) (i := 885) (by decide +kernel)), by decide +kernel⟩
set_option maxRecDepth 20000 in
theorem kmL_10 : Cond.methodLink RL 10 yL_drafts ∈ gd := List.mem_filter.mpr ⟨List.mem_append_right _ (List.mem_of_getElem? (l := tables_1) (i := 326) (by decide +kernel)), by decide +kernel⟩
set_option maxRecDepth 20000 in
theorem kc_L_drafts : Cond.code yL_drafts cL_drafts 7 (some .boolean) ∈ gd := List.mem_filter.mpr ⟨List.mem_append_right _ (List.mem_of_getElem? (l := tables_1) (i := 328) (by decide +kernel)), by decide +kernel⟩
set_option maxRecDepth 20000 in
theorem cal_L_drafts : CalOK yL_drafts cL_drafts 7 (some .boolean) 5 := ⟨kc_L_drafts, ki_L, by decide, by decide +kernel⟩
set_option maxRecDepth 20000 in
theorem kz_L_drafts : Cond.static yL_drafts ∈ gd := List.mem_filter.mpr ⟨List.mem_append_right _ (List.mem_of_getElem? (l := tables_1) (i := 327) (by decide +kernel)), by decide +kernel⟩
set_option maxRecDepth 20000 in
theorem kmL_16 : Cond.methodLink RL 16 yL_writes ∈ gd := List.mem_filter.mpr ⟨List.mem_append_right _ (List.mem_of_getElem? (l := tables_1) (i := 462) (by decide +kernel)), by decide +kernel⟩
set_option maxRecDepth 20000 in
theorem kc_L_writes : Cond.code yL_writes cL_writes 6 (some .boolean) ∈ gd := List.mem_filter.mpr ⟨List.mem_append_right _ (List.mem_of_getElem? (l := tables_1) (i := 464) (by decide +kernel)), by decide +kernel⟩
set_option maxRecDepth 20000 in
theorem cal_L_writes : CalOK yL_writes cL_writes 6 (some .boolean) 4 := ⟨kc_L_writes, ki_L, by decide, by decide +kernel⟩
set_option maxRecDepth 20000 in
theorem kz_L_writes : Cond.static yL_writes ∈ gd := List.mem_filter.mpr ⟨List.mem_append_right _ (List.mem_of_getElem? (l := tables_1) (i := 463) (by decide +kernel)), by decide +kernel⟩
set_option maxRecDepth 20000 in
theorem kmL_37 : Cond.methodLink RL 37 yX11_handIn ∈ gd := List.mem_filter.mpr ⟨List.mem_append_right _ (List.mem_of_getElem? (l := tables_1) (i := 826) (by decide +kernel)), by decide +kernel⟩
set_option maxRecDepth 20000 in
theorem kc_X11_handIn : Cond.code yX11_handIn cX11_handIn 6 (some .int) ∈ gd := List.mem_filter.mpr ⟨List.mem_append_right _ (List.mem_of_getElem? (l := tables_1) (i := 829) (by decide +kernel)), by decide +kernel⟩
set_option maxRecDepth 20000 in
theorem cal_X11_handIn : CalOK yX11_handIn cX11_handIn 6 (some .int) 2 := ⟨kc_X11_handIn, ki_X11, by decide, by decide +kernel⟩
set_option maxRecDepth 20000 in
theorem kn_X11_handIn : Cond.instanceMethod yX11_handIn ∈ gd := List.mem_filter.mpr ⟨List.mem_append_right _ (List.mem_of_getElem? (l := tables_1) (i := 827) (by decide +kernel)), by decide +kernel⟩
set_option maxRecDepth 20000 in
theorem ks_X11_handIn : Cond.selects yX11_handIn.cls yX11_handIn yX11_handIn ∈ gd := List.mem_filter.mpr ⟨List.mem_append_right _ (List.mem_of_getElem? (l := tables_1) (i := 828) (by decide +kernel)), by decide +kernel⟩
set_option maxRecDepth 20000 in
theorem kmL_48 : Cond.methodLink RL 48 yX11_hangs ∈ gd := List.mem_filter.mpr ⟨List.mem_append_right _ (List.mem_of_getElem? (l := tables_1) (i := 896) (by decide +kernel)), by decide +kernel⟩
set_option maxRecDepth 20000 in
theorem kc_X11_hangs : Cond.code yX11_hangs cX11_hangs 3 (some .int) ∈ gd := List.mem_filter.mpr ⟨List.mem_append_right _ (List.mem_of_getElem? (l := tables_1) (i := 899) (by decide +kernel)), by decide +kernel⟩
set_option maxRecDepth 20000 in
theorem cal_X11_hangs : CalOK yX11_hangs cX11_hangs 3 (some .int) 1 := ⟨kc_X11_hangs, ki_X11, by decide, by decide +kernel⟩
set_option maxRecDepth 20000 in
theorem kn_X11_hangs : Cond.instanceMethod yX11_hangs ∈ gd := List.mem_filter.mpr ⟨List.mem_append_right _ (List.mem_of_getElem? (l := tables_1) (i := 897) (by decide +kernel)), by decide +kernel⟩
set_option maxRecDepth 20000 in
theorem ks_X11_hangs : Cond.selects yX11_hangs.cls yX11_hangs yX11_hangs ∈ gd := List.mem_filter.mpr ⟨List.mem_append_right _ (List.mem_of_getElem? (l := tables_1) (i := 898) (by decide +kernel)), by decide +kernel⟩
set_option maxRecDepth 20000 in
theorem kmL_34 : Cond.methodLink RL 34 yX11_works ∈ gd := List.mem_filter.mpr ⟨List.mem_append_right _ (List.mem_of_getElem? (l := tables_1) (i := 217) (by decide +kernel)), by decide +kernel⟩
set_option maxRecDepth 20000 in
theorem kc_X11_works : Cond.code yX11_works cX11_works 1 (some .int) ∈ gd := List.mem_filter.mpr ⟨List.mem_append_right _ (List.mem_of_getElem? (l := tables_1) (i := 220) (by decide +kernel)), by decide +kernel⟩
set_option maxRecDepth 20000 in
theorem cal_X11_works : CalOK yX11_works cX11_works 1 (some .int) 0 := ⟨kc_X11_works, ki_X11, by decide, by decide +kernel⟩
set_option maxRecDepth 20000 in
theorem kn_X11_works : Cond.instanceMethod yX11_works ∈ gd := List.mem_filter.mpr ⟨List.mem_append_right _ (List.mem_of_getElem? (l := tables_1) (i := 218) (by decide +kernel)), by decide +kernel⟩
set_option maxRecDepth 20000 in
theorem ks_X11_works : Cond.selects yX11_works.cls yX11_works yX11_works ∈ gd := List.mem_filter.mpr ⟨List.mem_append_right _ (List.mem_of_getElem? (l := tables_1) (i := 219) (by decide +kernel)), by decide +kernel⟩
set_option maxRecDepth 20000 in
theorem kmL_41 : Cond.methodLink RL 41 yX11_clear ∈ gd := List.mem_filter.mpr ⟨List.mem_append_right _ (List.mem_of_getElem? (l := tables_1) (i := 874) (by decide +kernel)), by decide +kernel⟩
set_option maxRecDepth 20000 in
theorem kc_X11_clear : Cond.code yX11_clear cX11_clear 5 (some .boolean) ∈ gd := List.mem_filter.mpr ⟨List.mem_append_right _ (List.mem_of_getElem? (l := tables_1) (i := 877) (by decide +kernel)), by decide +kernel⟩
set_option maxRecDepth 20000 in
theorem cal_X11_clear : CalOK yX11_clear cX11_clear 5 (some .boolean) 2 := ⟨kc_X11_clear, ki_X11, by decide, by decide +kernel⟩
set_option maxRecDepth 20000 in
theorem kn_X11_clear : Cond.instanceMethod yX11_clear ∈ gd := List.mem_filter.mpr ⟨List.mem_append_right _ (List.mem_of_getElem? (l := tables_1) (i := 875) (by decide +kernel)), by decide +kernel⟩
set_option maxRecDepth 20000 in
theorem ks_X11_clear : Cond.selects yX11_clear.cls yX11_clear yX11_clear ∈ gd := List.mem_filter.mpr ⟨List.mem_append_right _ (List.mem_of_getElem? (l := tables_1) (i := 876) (by decide +kernel)), by decide +kernel⟩
set_option maxRecDepth 20000 in
theorem kmL_115 : Cond.methodLink RL 115 yX11_haveOneForm ∈ gd := List.mem_filter.mpr ⟨List.mem_append_right _ (List.mem_of_getElem? (l := tables_1) (i := 903) (by decide +kernel)), by decide +kernel⟩
set_option maxRecDepth 20000 in
theorem kc_X11_haveOneForm : Cond.code yX11_haveOneForm cX11_haveOneForm 5 (some .boolean) ∈ gd := List.mem_filter.mpr ⟨List.mem_append_right _ (List.mem_of_getElem? (l := tables_1) (i := 906) (by decide +kernel)), by decide +kernel⟩
set_option maxRecDepth 20000 in
theorem cal_X11_haveOneForm : CalOK yX11_haveOneForm cX11_haveOneForm 5 (some .boolean) 2 := ⟨kc_X11_haveOneForm, ki_X11, by decide, by decide +kernel⟩
set_option maxRecDepth 20000 in
theorem kn_X11_haveOneForm : Cond.instanceMethod yX11_haveOneForm ∈ gd := List.mem_filter.mpr ⟨List.mem_append_right _ (List.mem_of_getElem? (l := tables_1) (i := 904) (by decide +kernel)), by decide +kernel⟩
set_option maxRecDepth 20000 in
theorem ks_X11_haveOneForm : Cond.selects yX11_haveOneForm.cls yX11_haveOneForm yX11_haveOneForm ∈ gd := List.mem_filter.mpr ⟨List.mem_append_right _ (List.mem_of_getElem? (l := tables_1) (i := 905) (by decide +kernel)), by decide +kernel⟩
set_option maxRecDepth 20000 in
theorem kmL_119 : Cond.methodLink RL 119 yX11_likeness ∈ gd := List.mem_filter.mpr ⟨List.mem_append_right _ (List.mem_of_getElem? (l := tables_1) (i := 907) (by decide +kernel)), by decide +kernel⟩
set_option maxRecDepth 20000 in
theorem kc_X11_likeness : Cond.code yX11_likeness cX11_likeness 6 (some .int) ∈ gd := List.mem_filter.mpr ⟨List.mem_append_right _ (List.mem_of_getElem? (l := tables_1) (i := 910) (by decide +kernel)), by decide +kernel⟩
set_option maxRecDepth 20000 in
theorem cal_X11_likeness : CalOK yX11_likeness cX11_likeness 6 (some .int) 2 := ⟨kc_X11_likeness, ki_X11, by decide, by decide +kernel⟩
set_option maxRecDepth 20000 in
theorem kn_X11_likeness : Cond.instanceMethod yX11_likeness ∈ gd := List.mem_filter.mpr ⟨List.mem_append_right _ (List.mem_of_getElem? (l := tables_1) (i := 908) (by decide +kernel)), by decide +kernel⟩
set_option maxRecDepth 20000 in
theorem ks_X11_likeness : Cond.selects yX11_likeness.cls yX11_likeness yX11_likeness ∈ gd := List.mem_filter.mpr ⟨List.mem_append_right _ (List.mem_of_getElem? (l := tables_1) (i := 909) (by decide +kernel)), by decide +kernel⟩
set_option maxRecDepth 20000 in
theorem kmL_125 : Cond.methodLink RL 125 yL_isAlike ∈ gd := List.mem_filter.mpr ⟨List.mem_append_right _ (List.mem_of_getElem? (l := tables_1) (i := 924) (by decide +kernel)), by decide +kernel⟩
set_option maxRecDepth 20000 in
theorem kc_L_isAlike : Cond.code yL_isAlike cL_isAlike 9 (some .boolean) ∈ gd := List.mem_filter.mpr ⟨List.mem_append_right _ (List.mem_of_getElem? (l := tables_1) (i := 926) (by decide +kernel)), by decide +kernel⟩
set_option maxRecDepth 20000 in
theorem cal_L_isAlike : CalOK yL_isAlike cL_isAlike 9 (some .boolean) 4 := ⟨kc_L_isAlike, ki_L, by decide, by decide +kernel⟩
set_option maxRecDepth 20000 in
theorem kz_L_isAlike : Cond.static yL_isAlike ∈ gd := List.mem_filter.mpr ⟨List.mem_append_right _ (List.mem_of_getElem? (l := tables_1) (i := 925) (by decide +kernel)), by decide +kernel⟩
set_option maxRecDepth 20000 in
theorem kmL_135 : Cond.methodLink RL 135 yL_copyOf ∈ gd := List.mem_filter.mpr ⟨List.mem_append_right _ (List.mem_of_getElem? (l := tables_1) (i := 930) (by decide +kernel)), by decide +kernel⟩
set_option maxRecDepth 20000 in
theorem kc_L_copyOf : Cond.code yL_copyOf cL_copyOf 5 (some .int) ∈ gd := List.mem_filter.mpr ⟨List.mem_append_right _ (List.mem_of_getElem? (l := tables_1) (i := 932) (by decide +kernel)), by decide +kernel⟩
set_option maxRecDepth 20000 in
theorem cal_L_copyOf : CalOK yL_copyOf cL_copyOf 5 (some .int) 4 := ⟨kc_L_copyOf, ki_L, by decide, by decide +kernel⟩
set_option maxRecDepth 20000 in
theorem kz_L_copyOf : Cond.static yL_copyOf ∈ gd := List.mem_filter.mpr ⟨List.mem_append_right _ (List.mem_of_getElem? (l := tables_1) (i := 931) (by decide +kernel)), by decide +kernel⟩
set_option maxRecDepth 20000 in
theorem kmL_148 : Cond.methodLink RL 148 yX11_onWall ∈ gd := List.mem_filter.mpr ⟨List.mem_append_right _ (List.mem_of_getElem? (l := tables_1) (i := 221) (by decide +kernel)), by decide +kernel⟩
set_option maxRecDepth 20000 in
theorem kc_X11_onWall : Cond.code yX11_onWall cX11_onWall 5 (some .int) ∈ gd := List.mem_filter.mpr ⟨List.mem_append_right _ (List.mem_of_getElem? (l := tables_1) (i := 224) (by decide +kernel)), by decide +kernel⟩
set_option maxRecDepth 20000 in
theorem cal_X11_onWall : CalOK yX11_onWall cX11_onWall 5 (some .int) 2 := ⟨kc_X11_onWall, ki_X11, by decide, by decide +kernel⟩
set_option maxRecDepth 20000 in
theorem kn_X11_onWall : Cond.instanceMethod yX11_onWall ∈ gd := List.mem_filter.mpr ⟨List.mem_append_right _ (List.mem_of_getElem? (l := tables_1) (i := 222) (by decide +kernel)), by decide +kernel⟩
set_option maxRecDepth 20000 in
theorem ks_X11_onWall : Cond.selects yX11_onWall.cls yX11_onWall yX11_onWall ∈ gd := List.mem_filter.mpr ⟨List.mem_append_right _ (List.mem_of_getElem? (l := tables_1) (i := 223) (by decide +kernel)), by decide +kernel⟩
set_option maxRecDepth 20000 in
theorem kmL_151 : Cond.methodLink RL 151 yX11_hung ∈ gd := List.mem_filter.mpr ⟨List.mem_append_right _ (List.mem_of_getElem? (l := tables_1) (i := 309) (by decide +kernel)), by decide +kernel⟩
set_option maxRecDepth 20000 in
theorem kc_X11_hung : Cond.code yX11_hung cX11_hung 5 (some .int) ∈ gd := List.mem_filter.mpr ⟨List.mem_append_right _ (List.mem_of_getElem? (l := tables_1) (i := 312) (by decide +kernel)), by decide +kernel⟩
set_option maxRecDepth 20000 in
theorem cal_X11_hung : CalOK yX11_hung cX11_hung 5 (some .int) 1 := ⟨kc_X11_hung, ki_X11, by decide, by decide +kernel⟩
set_option maxRecDepth 20000 in
theorem kn_X11_hung : Cond.instanceMethod yX11_hung ∈ gd := List.mem_filter.mpr ⟨List.mem_append_right _ (List.mem_of_getElem? (l := tables_1) (i := 310) (by decide +kernel)), by decide +kernel⟩
set_option maxRecDepth 20000 in
theorem ks_X11_hung : Cond.selects yX11_hung.cls yX11_hung yX11_hung ∈ gd := List.mem_filter.mpr ⟨List.mem_append_right _ (List.mem_of_getElem? (l := tables_1) (i := 311) (by decide +kernel)), by decide +kernel⟩
set_option maxRecDepth 20000 in
theorem kmL_139 : Cond.methodLink RL 139 yL_isFree ∈ gd := List.mem_filter.mpr ⟨List.mem_append_right _ (List.mem_of_getElem? (l := tables_1) (i := 933) (by decide +kernel)), by decide +kernel⟩
set_option maxRecDepth 20000 in
theorem kc_L_isFree : Cond.code yL_isFree cL_isFree 8 (some .boolean) ∈ gd := List.mem_filter.mpr ⟨List.mem_append_right _ (List.mem_of_getElem? (l := tables_1) (i := 935) (by decide +kernel)), by decide +kernel⟩
set_option maxRecDepth 20000 in
theorem cal_L_isFree : CalOK yL_isFree cL_isFree 8 (some .boolean) 6 := ⟨kc_L_isFree, ki_L, by decide, by decide +kernel⟩
set_option maxRecDepth 20000 in
theorem kz_L_isFree : Cond.static yL_isFree ∈ gd := List.mem_filter.mpr ⟨List.mem_append_right _ (List.mem_of_getElem? (l := tables_1) (i := 934) (by decide +kernel)), by decide +kernel⟩
set_option maxRecDepth 20000 in
theorem kmL_143 : Cond.methodLink RL 143 yX11_meets ∈ gd := List.mem_filter.mpr ⟨List.mem_append_right _ (List.mem_of_getElem? (l := tables_1) (i := 936) (by decide +kernel)), by decide +kernel⟩
set_option maxRecDepth 20000 in
theorem kc_X11_meets : Cond.code yX11_meets cX11_meets 2 (some .boolean) ∈ gd := List.mem_filter.mpr ⟨List.mem_append_right _ (List.mem_of_getElem? (l := tables_1) (i := 939) (by decide +kernel)), by decide +kernel⟩
set_option maxRecDepth 20000 in
theorem cal_X11_meets : CalOK yX11_meets cX11_meets 2 (some .boolean) 1 := ⟨kc_X11_meets, ki_X11, by decide, by decide +kernel⟩
set_option maxRecDepth 20000 in
theorem kn_X11_meets : Cond.instanceMethod yX11_meets ∈ gd := List.mem_filter.mpr ⟨List.mem_append_right _ (List.mem_of_getElem? (l := tables_1) (i := 937) (by decide +kernel)), by decide +kernel⟩
set_option maxRecDepth 20000 in
theorem ks_X11_meets : Cond.selects yX11_meets.cls yX11_meets yX11_meets ∈ gd := List.mem_filter.mpr ⟨List.mem_append_right _ (List.mem_of_getElem? (l := tables_1) (i := 938) (by decide +kernel)), by decide +kernel⟩
set_option maxRecDepth 20000 in
theorem kmL_146 : Cond.methodLink RL 146 yX11_copyOf ∈ gd := List.mem_filter.mpr ⟨List.mem_append_right _ (List.mem_of_getElem? (l := tables_1) (i := 940) (by decide +kernel)), by decide +kernel⟩
set_option maxRecDepth 20000 in
theorem kc_X11_copyOf : Cond.code yX11_copyOf cX11_copyOf 2 (some .int) ∈ gd := List.mem_filter.mpr ⟨List.mem_append_right _ (List.mem_of_getElem? (l := tables_1) (i := 943) (by decide +kernel)), by decide +kernel⟩
set_option maxRecDepth 20000 in
theorem cal_X11_copyOf : CalOK yX11_copyOf cX11_copyOf 2 (some .int) 1 := ⟨kc_X11_copyOf, ki_X11, by decide, by decide +kernel⟩
set_option maxRecDepth 20000 in
theorem kn_X11_copyOf : Cond.instanceMethod yX11_copyOf ∈ gd := List.mem_filter.mpr ⟨List.mem_append_right _ (List.mem_of_getElem? (l := tables_1) (i := 941) (by decide +kernel)), by decide +kernel⟩
set_option maxRecDepth 20000 in
theorem ks_X11_copyOf : Cond.selects yX11_copyOf.cls yX11_copyOf yX11_copyOf ∈ gd := List.mem_filter.mpr ⟨List.mem_append_right _ (List.mem_of_getElem? (l := tables_1) (i := 942) (by decide +kernel)), by decide +kernel⟩
