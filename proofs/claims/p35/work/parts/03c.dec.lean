theorem dX11_areAlike_0 : decode cX11_areAlike 0 = .ok (.aload_n 0, 1) := by decide +kernel
theorem dX11_areAlike_1 : decode cX11_areAlike 1 = .ok (.iload_n 1, 1) := by decide +kernel
theorem dX11_areAlike_2 : decode cX11_areAlike 2 = .ok (.invokevirtual 131, 3) := by decide +kernel
theorem dX11_areAlike_5 : decode cX11_areAlike 5 = .ok (.astore_n 3, 1) := by decide +kernel
theorem dX11_areAlike_6 : decode cX11_areAlike 6 = .ok (.aload_n 0, 1) := by decide +kernel
theorem dX11_areAlike_7 : decode cX11_areAlike 7 = .ok (.iload_n 2, 1) := by decide +kernel
theorem dX11_areAlike_8 : decode cX11_areAlike 8 = .ok (.invokevirtual 131, 3) := by decide +kernel
theorem dX11_areAlike_11 : decode cX11_areAlike 11 = .ok (.astore 4, 2) := by decide +kernel
theorem dX11_areAlike_13 : decode cX11_areAlike 13 = .ok (.aload_n 3, 1) := by decide +kernel
theorem dX11_areAlike_14 : decode cX11_areAlike 14 = .ok (.getfield 114, 3) := by decide +kernel
theorem dX11_areAlike_17 : decode cX11_areAlike 17 = .ok (.aload 4, 2) := by decide +kernel
theorem dX11_areAlike_19 : decode cX11_areAlike 19 = .ok (.getfield 114, 3) := by decide +kernel
theorem dX11_areAlike_22 : decode cX11_areAlike 22 = .ok (.invokevirtual 213, 3) := by decide +kernel
theorem dX11_areAlike_25 : decode cX11_areAlike 25 = .ok (.ireturn, 1) := by decide +kernel
theorem dX11_haveOneForm_0 : decode cX11_haveOneForm 0 = .ok (.aload_n 0, 1) := by decide +kernel
theorem dX11_haveOneForm_1 : decode cX11_haveOneForm 1 = .ok (.iload_n 1, 1) := by decide +kernel
theorem dX11_haveOneForm_2 : decode cX11_haveOneForm 2 = .ok (.invokevirtual 131, 3) := by decide +kernel
theorem dX11_haveOneForm_5 : decode cX11_haveOneForm 5 = .ok (.astore_n 3, 1) := by decide +kernel
theorem dX11_haveOneForm_6 : decode cX11_haveOneForm 6 = .ok (.aload_n 0, 1) := by decide +kernel
theorem dX11_haveOneForm_7 : decode cX11_haveOneForm 7 = .ok (.iload_n 2, 1) := by decide +kernel
theorem dX11_haveOneForm_8 : decode cX11_haveOneForm 8 = .ok (.invokevirtual 131, 3) := by decide +kernel
theorem dX11_haveOneForm_11 : decode cX11_haveOneForm 11 = .ok (.astore 4, 2) := by decide +kernel
theorem dX11_haveOneForm_13 : decode cX11_haveOneForm 13 = .ok (.aload_n 3, 1) := by decide +kernel
theorem dX11_haveOneForm_14 : decode cX11_haveOneForm 14 = .ok (.aload 4, 2) := by decide +kernel
theorem dX11_haveOneForm_16 : decode cX11_haveOneForm 16 = .ok (.invokevirtual 217, 3) := by decide +kernel
theorem dX11_haveOneForm_19 : decode cX11_haveOneForm 19 = .ok (.ireturn, 1) := by decide +kernel
theorem dX11_likeness_0 : decode cX11_likeness 0 = .ok (.aload_n 0, 1) := by decide +kernel
theorem dX11_likeness_1 : decode cX11_likeness 1 = .ok (.iload_n 1, 1) := by decide +kernel
theorem dX11_likeness_2 : decode cX11_likeness 2 = .ok (.invokevirtual 131, 3) := by decide +kernel
theorem dX11_likeness_5 : decode cX11_likeness 5 = .ok (.astore_n 3, 1) := by decide +kernel
theorem dX11_likeness_6 : decode cX11_likeness 6 = .ok (.aload_n 0, 1) := by decide +kernel
theorem dX11_likeness_7 : decode cX11_likeness 7 = .ok (.iload_n 2, 1) := by decide +kernel
theorem dX11_likeness_8 : decode cX11_likeness 8 = .ok (.invokevirtual 131, 3) := by decide +kernel
theorem dX11_likeness_11 : decode cX11_likeness 11 = .ok (.astore 4, 2) := by decide +kernel
theorem dX11_likeness_13 : decode cX11_likeness 13 = .ok (.aload_n 3, 1) := by decide +kernel
theorem dX11_likeness_14 : decode cX11_likeness 14 = .ok (.invokevirtual 221, 3) := by decide +kernel
theorem dX11_likeness_17 : decode cX11_likeness 17 = .ok (.aload 4, 2) := by decide +kernel
theorem dX11_likeness_19 : decode cX11_likeness 19 = .ok (.invokevirtual 221, 3) := by decide +kernel
theorem dX11_likeness_22 : decode cX11_likeness 22 = .ok (.iadd, 1) := by decide +kernel
theorem dX11_likeness_23 : decode cX11_likeness 23 = .ok (.istore 5, 2) := by decide +kernel
theorem dX11_likeness_25 : decode cX11_likeness 25 = .ok (.iload 5, 2) := by decide +kernel
theorem dX11_likeness_27 : decode cX11_likeness 27 = .ok (.ifCond .gt 5, 3) := by decide +kernel
theorem dX11_likeness_30 : decode cX11_likeness 30 = .ok (.iconst 0, 1) := by decide +kernel
theorem dX11_likeness_31 : decode cX11_likeness 31 = .ok (.ireturn, 1) := by decide +kernel
theorem dX11_likeness_32 : decode cX11_likeness 32 = .ok (.sipush 200, 3) := by decide +kernel
theorem dX11_likeness_35 : decode cX11_likeness 35 = .ok (.aload_n 0, 1) := by decide +kernel
theorem dX11_likeness_36 : decode cX11_likeness 36 = .ok (.getfield 33, 3) := by decide +kernel
theorem dX11_likeness_39 : decode cX11_likeness 39 = .ok (.aload_n 3, 1) := by decide +kernel
theorem dX11_likeness_40 : decode cX11_likeness 40 = .ok (.getfield 222, 3) := by decide +kernel
theorem dX11_likeness_43 : decode cX11_likeness 43 = .ok (.aload 4, 2) := by decide +kernel
theorem dX11_likeness_45 : decode cX11_likeness 45 = .ok (.getfield 222, 3) := by decide +kernel
theorem dX11_likeness_48 : decode cX11_likeness 48 = .ok (.invokevirtual 226, 3) := by decide +kernel
theorem dX11_likeness_51 : decode cX11_likeness 51 = .ok (.imul, 1) := by decide +kernel
theorem dX11_likeness_52 : decode cX11_likeness 52 = .ok (.iload 5, 2) := by decide +kernel
theorem dX11_likeness_54 : decode cX11_likeness 54 = .ok (.idiv, 1) := by decide +kernel
theorem dX11_likeness_55 : decode cX11_likeness 55 = .ok (.ireturn, 1) := by decide +kernel
theorem dX11_works_0 : decode cX11_works 0 = .ok (.aload_n 0, 1) := by decide +kernel
theorem dX11_works_1 : decode cX11_works 1 = .ok (.getfield 160, 3) := by decide +kernel
theorem dX11_works_4 : decode cX11_works 4 = .ok (.ireturn, 1) := by decide +kernel
theorem dX11_meets_0 : decode cX11_meets 0 = .ok (.aload_n 0, 1) := by decide +kernel
theorem dX11_meets_1 : decode cX11_meets 1 = .ok (.iload_n 1, 1) := by decide +kernel
theorem dX11_meets_2 : decode cX11_meets 2 = .ok (.invokevirtual 172, 3) := by decide +kernel
theorem dX11_meets_5 : decode cX11_meets 5 = .ok (.invokevirtual 230, 3) := by decide +kernel
theorem dX11_meets_8 : decode cX11_meets 8 = .ok (.ireturn, 1) := by decide +kernel
theorem dX11_copyOf_0 : decode cX11_copyOf 0 = .ok (.aload_n 0, 1) := by decide +kernel
theorem dX11_copyOf_1 : decode cX11_copyOf 1 = .ok (.iload_n 1, 1) := by decide +kernel
theorem dX11_copyOf_2 : decode cX11_copyOf 2 = .ok (.invokevirtual 172, 3) := by decide +kernel
theorem dX11_copyOf_5 : decode cX11_copyOf 5 = .ok (.getfield 234, 3) := by decide +kernel
theorem dX11_copyOf_8 : decode cX11_copyOf 8 = .ok (.ireturn, 1) := by decide +kernel
theorem dX11_hangs_0 : decode cX11_hangs 0 = .ok (.aload_n 0, 1) := by decide +kernel
theorem dX11_hangs_1 : decode cX11_hangs 1 = .ok (.iload_n 1, 1) := by decide +kernel
theorem dX11_hangs_2 : decode cX11_hangs 2 = .ok (.invokevirtual 172, 3) := by decide +kernel
theorem dX11_hangs_5 : decode cX11_hangs 5 = .ok (.astore_n 2, 1) := by decide +kernel
theorem dX11_hangs_6 : decode cX11_hangs 6 = .ok (.aload_n 2, 1) := by decide +kernel
theorem dX11_hangs_7 : decode cX11_hangs 7 = .ok (.getfield 237, 3) := by decide +kernel
theorem dX11_hangs_10 : decode cX11_hangs 10 = .ok (.ifCond .eq 18, 3) := by decide +kernel
theorem dX11_hangs_13 : decode cX11_hangs 13 = .ok (.bipush 100, 2) := by decide +kernel
theorem dX11_hangs_15 : decode cX11_hangs 15 = .ok (.aload_n 2, 1) := by decide +kernel
theorem dX11_hangs_16 : decode cX11_hangs 16 = .ok (.getfield 240, 3) := by decide +kernel
theorem dX11_hangs_19 : decode cX11_hangs 19 = .ok (.imul, 1) := by decide +kernel
theorem dX11_hangs_20 : decode cX11_hangs 20 = .ok (.aload_n 2, 1) := by decide +kernel
theorem dX11_hangs_21 : decode cX11_hangs 21 = .ok (.getfield 243, 3) := by decide +kernel
theorem dX11_hangs_24 : decode cX11_hangs 24 = .ok (.iadd, 1) := by decide +kernel
theorem dX11_hangs_25 : decode cX11_hangs 25 = .ok (.goto 4, 3) := by decide +kernel
theorem dX11_hangs_28 : decode cX11_hangs 28 = .ok (.iconst (-1), 1) := by decide +kernel
theorem dX11_hangs_29 : decode cX11_hangs 29 = .ok (.ireturn, 1) := by decide +kernel
theorem dX11_onWall_0 : decode cX11_onWall 0 = .ok (.aload_n 0, 1) := by decide +kernel
theorem dX11_onWall_1 : decode cX11_onWall 1 = .ok (.getfield 40, 3) := by decide +kernel
theorem dX11_onWall_4 : decode cX11_onWall 4 = .ok (.iload_n 1, 1) := by decide +kernel
theorem dX11_onWall_5 : decode cX11_onWall 5 = .ok (.iload_n 2, 1) := by decide +kernel
theorem dX11_onWall_6 : decode cX11_onWall 6 = .ok (.invokevirtual 246, 3) := by decide +kernel
theorem dX11_onWall_9 : decode cX11_onWall 9 = .ok (.ifCond .ne 13, 3) := by decide +kernel
theorem dX11_onWall_12 : decode cX11_onWall 12 = .ok (.new 204, 3) := by decide +kernel
theorem dX11_onWall_15 : decode cX11_onWall 15 = .ok (.dup, 1) := by decide +kernel
theorem dX11_onWall_16 : decode cX11_onWall 16 = .ok (.ldc 250, 2) := by decide +kernel
theorem dX11_onWall_18 : decode cX11_onWall 18 = .ok (.invokespecial 208, 3) := by decide +kernel
theorem dX11_onWall_21 : decode cX11_onWall 21 = .ok (.athrow, 1) := by decide +kernel
theorem dX11_onWall_22 : decode cX11_onWall 22 = .ok (.iconst 0, 1) := by decide +kernel
theorem dX11_onWall_23 : decode cX11_onWall 23 = .ok (.istore_n 3, 1) := by decide +kernel
theorem dX11_onWall_24 : decode cX11_onWall 24 = .ok (.iload_n 3, 1) := by decide +kernel
theorem dX11_onWall_25 : decode cX11_onWall 25 = .ok (.aload_n 0, 1) := by decide +kernel
theorem dX11_onWall_26 : decode cX11_onWall 26 = .ok (.getfield 160, 3) := by decide +kernel
theorem dX11_onWall_29 : decode cX11_onWall 29 = .ok (.if_icmp .ge 43, 3) := by decide +kernel
theorem dX11_onWall_32 : decode cX11_onWall 32 = .ok (.iload_n 3, 1) := by decide +kernel
theorem dX11_onWall_33 : decode cX11_onWall 33 = .ok (.aload_n 0, 1) := by decide +kernel
theorem dX11_onWall_34 : decode cX11_onWall 34 = .ok (.getfield 58, 3) := by decide +kernel
theorem dX11_onWall_37 : decode cX11_onWall 37 = .ok (.arraylength, 1) := by decide +kernel
theorem dX11_onWall_38 : decode cX11_onWall 38 = .ok (.if_icmp .ge 34, 3) := by decide +kernel
theorem dX11_onWall_41 : decode cX11_onWall 41 = .ok (.aload_n 0, 1) := by decide +kernel
theorem dX11_onWall_42 : decode cX11_onWall 42 = .ok (.getfield 58, 3) := by decide +kernel
theorem dX11_onWall_45 : decode cX11_onWall 45 = .ok (.iload_n 3, 1) := by decide +kernel
theorem dX11_onWall_46 : decode cX11_onWall 46 = .ok (.aaload, 1) := by decide +kernel
theorem dX11_onWall_47 : decode cX11_onWall 47 = .ok (.astore 4, 2) := by decide +kernel
theorem dX11_onWall_49 : decode cX11_onWall 49 = .ok (.aload 4, 2) := by decide +kernel
theorem dX11_onWall_51 : decode cX11_onWall 51 = .ok (.ifnull 15, 3) := by decide +kernel
theorem dX11_onWall_54 : decode cX11_onWall 54 = .ok (.aload 4, 2) := by decide +kernel
theorem dX11_onWall_56 : decode cX11_onWall 56 = .ok (.iload_n 1, 1) := by decide +kernel
theorem dX11_onWall_57 : decode cX11_onWall 57 = .ok (.iload_n 2, 1) := by decide +kernel
theorem dX11_onWall_58 : decode cX11_onWall 58 = .ok (.invokevirtual 252, 3) := by decide +kernel
theorem dX11_onWall_61 : decode cX11_onWall 61 = .ok (.ifCond .eq 5, 3) := by decide +kernel
theorem dX11_onWall_64 : decode cX11_onWall 64 = .ok (.iload_n 3, 1) := by decide +kernel
theorem dX11_onWall_65 : decode cX11_onWall 65 = .ok (.ireturn, 1) := by decide +kernel
theorem dX11_onWall_66 : decode cX11_onWall 66 = .ok (.iinc 3 1, 3) := by decide +kernel
theorem dX11_onWall_69 : decode cX11_onWall 69 = .ok (.goto (-45), 3) := by decide +kernel
theorem dX11_onWall_72 : decode cX11_onWall 72 = .ok (.iconst (-1), 1) := by decide +kernel
theorem dX11_onWall_73 : decode cX11_onWall 73 = .ok (.ireturn, 1) := by decide +kernel
theorem dX11_hung_0 : decode cX11_hung 0 = .ok (.iload_n 1, 1) := by decide +kernel
theorem dX11_hung_1 : decode cX11_hung 1 = .ok (.invokestatic 100, 3) := by decide +kernel
theorem dX11_hung_4 : decode cX11_hung 4 = .ok (.iconst 0, 1) := by decide +kernel
theorem dX11_hung_5 : decode cX11_hung 5 = .ok (.istore_n 2, 1) := by decide +kernel
theorem dX11_hung_6 : decode cX11_hung 6 = .ok (.iconst 0, 1) := by decide +kernel
theorem dX11_hung_7 : decode cX11_hung 7 = .ok (.istore_n 3, 1) := by decide +kernel
theorem dX11_hung_8 : decode cX11_hung 8 = .ok (.iload_n 3, 1) := by decide +kernel
theorem dX11_hung_9 : decode cX11_hung 9 = .ok (.aload_n 0, 1) := by decide +kernel
theorem dX11_hung_10 : decode cX11_hung 10 = .ok (.getfield 160, 3) := by decide +kernel
theorem dX11_hung_13 : decode cX11_hung 13 = .ok (.if_icmp .ge 54, 3) := by decide +kernel
theorem dX11_hung_16 : decode cX11_hung 16 = .ok (.iload_n 3, 1) := by decide +kernel
theorem dX11_hung_17 : decode cX11_hung 17 = .ok (.aload_n 0, 1) := by decide +kernel
theorem dX11_hung_18 : decode cX11_hung 18 = .ok (.getfield 58, 3) := by decide +kernel
theorem dX11_hung_21 : decode cX11_hung 21 = .ok (.arraylength, 1) := by decide +kernel
theorem dX11_hung_22 : decode cX11_hung 22 = .ok (.if_icmp .ge 45, 3) := by decide +kernel
theorem dX11_hung_25 : decode cX11_hung 25 = .ok (.aload_n 0, 1) := by decide +kernel
theorem dX11_hung_26 : decode cX11_hung 26 = .ok (.getfield 58, 3) := by decide +kernel
theorem dX11_hung_29 : decode cX11_hung 29 = .ok (.iload_n 3, 1) := by decide +kernel
theorem dX11_hung_30 : decode cX11_hung 30 = .ok (.aaload, 1) := by decide +kernel
theorem dX11_hung_31 : decode cX11_hung 31 = .ok (.astore 4, 2) := by decide +kernel
theorem dX11_hung_33 : decode cX11_hung 33 = .ok (.aload 4, 2) := by decide +kernel
theorem dX11_hung_35 : decode cX11_hung 35 = .ok (.ifnull 26, 3) := by decide +kernel
theorem dX11_hung_38 : decode cX11_hung 38 = .ok (.aload 4, 2) := by decide +kernel
theorem dX11_hung_40 : decode cX11_hung 40 = .ok (.getfield 237, 3) := by decide +kernel
theorem dX11_hung_43 : decode cX11_hung 43 = .ok (.ifCond .eq 18, 3) := by decide +kernel
theorem dX11_hung_46 : decode cX11_hung 46 = .ok (.aload 4, 2) := by decide +kernel
theorem dX11_hung_48 : decode cX11_hung 48 = .ok (.getfield 255, 3) := by decide +kernel
theorem dX11_hung_51 : decode cX11_hung 51 = .ok (.getfield 259, 3) := by decide +kernel
theorem dX11_hung_54 : decode cX11_hung 54 = .ok (.iload_n 1, 1) := by decide +kernel
theorem dX11_hung_55 : decode cX11_hung 55 = .ok (.if_icmp .ne 6, 3) := by decide +kernel
theorem dX11_hung_58 : decode cX11_hung 58 = .ok (.iinc 2 1, 3) := by decide +kernel
theorem dX11_hung_61 : decode cX11_hung 61 = .ok (.iinc 3 1, 3) := by decide +kernel
theorem dX11_hung_64 : decode cX11_hung 64 = .ok (.goto (-56), 3) := by decide +kernel
theorem dX11_hung_67 : decode cX11_hung 67 = .ok (.iload_n 2, 1) := by decide +kernel
theorem dX11_hung_68 : decode cX11_hung 68 = .ok (.ireturn, 1) := by decide +kernel
theorem dX11_checkName_0 : decode cX11_checkName 0 = .ok (.iload_n 0, 1) := by decide +kernel
theorem dX11_checkName_1 : decode cX11_checkName 1 = .ok (.ifCond .lt 8, 3) := by decide +kernel
theorem dX11_checkName_4 : decode cX11_checkName 4 = .ok (.iload_n 0, 1) := by decide +kernel
theorem dX11_checkName_5 : decode cX11_checkName 5 = .ok (.iconst 4, 1) := by decide +kernel
theorem dX11_checkName_6 : decode cX11_checkName 6 = .ok (.if_icmp .lt 14, 3) := by decide +kernel
theorem dX11_checkName_9 : decode cX11_checkName 9 = .ok (.new 204, 3) := by decide +kernel
theorem dX11_checkName_12 : decode cX11_checkName 12 = .ok (.dup, 1) := by decide +kernel
theorem dX11_checkName_13 : decode cX11_checkName 13 = .ok (.ldc_w 262, 3) := by decide +kernel
theorem dX11_checkName_16 : decode cX11_checkName 16 = .ok (.invokespecial 208, 3) := by decide +kernel
theorem dX11_checkName_19 : decode cX11_checkName 19 = .ok (.athrow, 1) := by decide +kernel
theorem dX11_checkName_20 : decode cX11_checkName 20 = .ok (.return_, 1) := by decide +kernel
theorem dX11_checkWord_0 : decode cX11_checkWord 0 = .ok (.iload_n 0, 1) := by decide +kernel
theorem dX11_checkWord_1 : decode cX11_checkWord 1 = .ok (.ifCond .lt 8, 3) := by decide +kernel
theorem dX11_checkWord_4 : decode cX11_checkWord 4 = .ok (.iload_n 0, 1) := by decide +kernel
theorem dX11_checkWord_5 : decode cX11_checkWord 5 = .ok (.iconst 4, 1) := by decide +kernel
theorem dX11_checkWord_6 : decode cX11_checkWord 6 = .ok (.if_icmp .lt 14, 3) := by decide +kernel
theorem dX11_checkWord_9 : decode cX11_checkWord 9 = .ok (.new 204, 3) := by decide +kernel
theorem dX11_checkWord_12 : decode cX11_checkWord 12 = .ok (.dup, 1) := by decide +kernel
theorem dX11_checkWord_13 : decode cX11_checkWord 13 = .ok (.ldc_w 264, 3) := by decide +kernel
theorem dX11_checkWord_16 : decode cX11_checkWord 16 = .ok (.invokespecial 208, 3) := by decide +kernel
theorem dX11_checkWord_19 : decode cX11_checkWord 19 = .ok (.athrow, 1) := by decide +kernel
theorem dX11_checkWord_20 : decode cX11_checkWord 20 = .ok (.return_, 1) := by decide +kernel
theorem dX11_checkPupil_0 : decode cX11_checkPupil 0 = .ok (.iload_n 0, 1) := by decide +kernel
theorem dX11_checkPupil_1 : decode cX11_checkPupil 1 = .ok (.ifCond .lt 9, 3) := by decide +kernel
theorem dX11_checkPupil_4 : decode cX11_checkPupil 4 = .ok (.iload_n 0, 1) := by decide +kernel
theorem dX11_checkPupil_5 : decode cX11_checkPupil 5 = .ok (.bipush 6, 2) := by decide +kernel
theorem dX11_checkPupil_7 : decode cX11_checkPupil 7 = .ok (.if_icmp .lt 14, 3) := by decide +kernel
theorem dX11_checkPupil_10 : decode cX11_checkPupil 10 = .ok (.new 204, 3) := by decide +kernel
theorem dX11_checkPupil_13 : decode cX11_checkPupil 13 = .ok (.dup, 1) := by decide +kernel
theorem dX11_checkPupil_14 : decode cX11_checkPupil 14 = .ok (.ldc_w 266, 3) := by decide +kernel
theorem dX11_checkPupil_17 : decode cX11_checkPupil 17 = .ok (.invokespecial 208, 3) := by decide +kernel
theorem dX11_checkPupil_20 : decode cX11_checkPupil 20 = .ok (.athrow, 1) := by decide +kernel
theorem dX11_checkPupil_21 : decode cX11_checkPupil 21 = .ok (.return_, 1) := by decide +kernel
theorem dX11_checkValue_0 : decode cX11_checkValue 0 = .ok (.iload_n 1, 1) := by decide +kernel
theorem dX11_checkValue_1 : decode cX11_checkValue 1 = .ok (.ifCond .eq 10, 3) := by decide +kernel
theorem dX11_checkValue_4 : decode cX11_checkValue 4 = .ok (.iload_n 0, 1) := by decide +kernel
theorem dX11_checkValue_5 : decode cX11_checkValue 5 = .ok (.invokestatic 70, 3) := by decide +kernel
theorem dX11_checkValue_8 : decode cX11_checkValue 8 = .ok (.goto 25, 3) := by decide +kernel
theorem dX11_checkValue_11 : decode cX11_checkValue 11 = .ok (.iload_n 0, 1) := by decide +kernel
theorem dX11_checkValue_12 : decode cX11_checkValue 12 = .ok (.iload_n 2, 1) := by decide +kernel
theorem dX11_checkValue_13 : decode cX11_checkValue 13 = .ok (.if_icmp .lt 9, 3) := by decide +kernel
theorem dX11_checkValue_16 : decode cX11_checkValue 16 = .ok (.iload_n 0, 1) := by decide +kernel
theorem dX11_checkValue_17 : decode cX11_checkValue 17 = .ok (.bipush 99, 2) := by decide +kernel
theorem dX11_checkValue_19 : decode cX11_checkValue 19 = .ok (.if_icmp .le 14, 3) := by decide +kernel
theorem dX11_checkValue_22 : decode cX11_checkValue 22 = .ok (.new 180, 3) := by decide +kernel
theorem dX11_checkValue_25 : decode cX11_checkValue 25 = .ok (.dup, 1) := by decide +kernel
theorem dX11_checkValue_26 : decode cX11_checkValue 26 = .ok (.ldc_w 268, 3) := by decide +kernel
theorem dX11_checkValue_29 : decode cX11_checkValue 29 = .ok (.invokespecial 184, 3) := by decide +kernel
theorem dX11_checkValue_32 : decode cX11_checkValue 32 = .ok (.athrow, 1) := by decide +kernel
theorem dX11_checkValue_33 : decode cX11_checkValue 33 = .ok (.return_, 1) := by decide +kernel
theorem dX11_checkAllowance_0 : decode cX11_checkAllowance 0 = .ok (.iload_n 0, 1) := by decide +kernel
theorem dX11_checkAllowance_1 : decode cX11_checkAllowance 1 = .ok (.iconst 1, 1) := by decide +kernel
theorem dX11_checkAllowance_2 : decode cX11_checkAllowance 2 = .ok (.if_icmp .lt 20, 3) := by decide +kernel
theorem dX11_checkAllowance_5 : decode cX11_checkAllowance 5 = .ok (.iload_n 0, 1) := by decide +kernel
theorem dX11_checkAllowance_6 : decode cX11_checkAllowance 6 = .ok (.bipush 30, 2) := by decide +kernel
theorem dX11_checkAllowance_8 : decode cX11_checkAllowance 8 = .ok (.if_icmp .gt 14, 3) := by decide +kernel
theorem dX11_checkAllowance_11 : decode cX11_checkAllowance 11 = .ok (.iload_n 1, 1) := by decide +kernel
theorem dX11_checkAllowance_12 : decode cX11_checkAllowance 12 = .ok (.ifCond .lt 10, 3) := by decide +kernel
theorem dX11_checkAllowance_15 : decode cX11_checkAllowance 15 = .ok (.iload_n 1, 1) := by decide +kernel
theorem dX11_checkAllowance_16 : decode cX11_checkAllowance 16 = .ok (.sipush 600, 3) := by decide +kernel
theorem dX11_checkAllowance_19 : decode cX11_checkAllowance 19 = .ok (.if_icmp .le 14, 3) := by decide +kernel
theorem dX11_checkAllowance_22 : decode cX11_checkAllowance 22 = .ok (.new 180, 3) := by decide +kernel
theorem dX11_checkAllowance_25 : decode cX11_checkAllowance 25 = .ok (.dup, 1) := by decide +kernel
theorem dX11_checkAllowance_26 : decode cX11_checkAllowance 26 = .ok (.ldc_w 270, 3) := by decide +kernel
theorem dX11_checkAllowance_29 : decode cX11_checkAllowance 29 = .ok (.invokespecial 184, 3) := by decide +kernel
theorem dX11_checkAllowance_32 : decode cX11_checkAllowance 32 = .ok (.athrow, 1) := by decide +kernel
theorem dX11_checkAllowance_33 : decode cX11_checkAllowance 33 = .ok (.return_, 1) := by decide +kernel
theorem dX11_isOnGround_0 : decode cX11_isOnGround 0 = .ok (.iload_n 0, 1) := by decide +kernel
theorem dX11_isOnGround_1 : decode cX11_isOnGround 1 = .ok (.ifCond .lt 13, 3) := by decide +kernel
theorem dX11_isOnGround_4 : decode cX11_isOnGround 4 = .ok (.iload_n 0, 1) := by decide +kernel
theorem dX11_isOnGround_5 : decode cX11_isOnGround 5 = .ok (.bipush 16, 2) := by decide +kernel
theorem dX11_isOnGround_7 : decode cX11_isOnGround 7 = .ok (.if_icmp .ge 7, 3) := by decide +kernel
theorem dX11_isOnGround_10 : decode cX11_isOnGround 10 = .ok (.iconst 1, 1) := by decide +kernel
theorem dX11_isOnGround_11 : decode cX11_isOnGround 11 = .ok (.goto 4, 3) := by decide +kernel
theorem dX11_isOnGround_14 : decode cX11_isOnGround 14 = .ok (.iconst 0, 1) := by decide +kernel
theorem dX11_isOnGround_15 : decode cX11_isOnGround 15 = .ok (.ireturn, 1) := by decide +kernel
theorem dX11_addOrder_0 : decode cX11_addOrder 0 = .ok (.aload_n 0, 1) := by decide +kernel
theorem dX11_addOrder_1 : decode cX11_addOrder 1 = .ok (.getfield 10, 3) := by decide +kernel
theorem dX11_addOrder_4 : decode cX11_addOrder 4 = .ok (.invokevirtual 94, 3) := by decide +kernel
theorem dX11_addOrder_7 : decode cX11_addOrder 7 = .ok (.bipush 30, 2) := by decide +kernel
theorem dX11_addOrder_9 : decode cX11_addOrder 9 = .ok (.if_icmp .lt 14, 3) := by decide +kernel
theorem dX11_addOrder_12 : decode cX11_addOrder 12 = .ok (.new 85, 3) := by decide +kernel
theorem dX11_addOrder_15 : decode cX11_addOrder 15 = .ok (.dup, 1) := by decide +kernel
theorem dX11_addOrder_16 : decode cX11_addOrder 16 = .ok (.ldc_w 272, 3) := by decide +kernel
theorem dX11_addOrder_19 : decode cX11_addOrder 19 = .ok (.invokespecial 89, 3) := by decide +kernel
theorem dX11_addOrder_22 : decode cX11_addOrder 22 = .ok (.athrow, 1) := by decide +kernel
theorem dX11_addOrder_23 : decode cX11_addOrder 23 = .ok (.aload_n 0, 1) := by decide +kernel
theorem dX11_addOrder_24 : decode cX11_addOrder 24 = .ok (.getfield 10, 3) := by decide +kernel
theorem dX11_addOrder_27 : decode cX11_addOrder 27 = .ok (.new 274, 3) := by decide +kernel
theorem dX11_addOrder_30 : decode cX11_addOrder 30 = .ok (.dup, 1) := by decide +kernel
theorem dX11_addOrder_31 : decode cX11_addOrder 31 = .ok (.iload_n 1, 1) := by decide +kernel
theorem dX11_addOrder_32 : decode cX11_addOrder 32 = .ok (.iload_n 2, 1) := by decide +kernel
theorem dX11_addOrder_33 : decode cX11_addOrder 33 = .ok (.iload_n 3, 1) := by decide +kernel
theorem dX11_addOrder_34 : decode cX11_addOrder 34 = .ok (.iload 4, 2) := by decide +kernel
theorem dX11_addOrder_36 : decode cX11_addOrder 36 = .ok (.invokespecial 276, 3) := by decide +kernel
theorem dX11_addOrder_39 : decode cX11_addOrder 39 = .ok (.invokevirtual 279, 3) := by decide +kernel
theorem dX11_addOrder_42 : decode cX11_addOrder 42 = .ok (.aload_n 0, 1) := by decide +kernel
theorem dX11_addOrder_43 : decode cX11_addOrder 43 = .ok (.getfield 10, 3) := by decide +kernel
theorem dX11_addOrder_46 : decode cX11_addOrder 46 = .ok (.invokevirtual 94, 3) := by decide +kernel
theorem dX11_addOrder_49 : decode cX11_addOrder 49 = .ok (.ireturn, 1) := by decide +kernel
theorem dX11_programAt_0 : decode cX11_programAt 0 = .ok (.aconst_null, 1) := by decide +kernel
theorem dX11_programAt_1 : decode cX11_programAt 1 = .ok (.astore_n 2, 1) := by decide +kernel
theorem dX11_programAt_2 : decode cX11_programAt 2 = .ok (.iload_n 1, 1) := by decide +kernel
theorem dX11_programAt_3 : decode cX11_programAt 3 = .ok (.ifCond .lt 27, 3) := by decide +kernel
theorem dX11_programAt_6 : decode cX11_programAt 6 = .ok (.iload_n 1, 1) := by decide +kernel
theorem dX11_programAt_7 : decode cX11_programAt 7 = .ok (.aload_n 0, 1) := by decide +kernel
theorem dX11_programAt_8 : decode cX11_programAt 8 = .ok (.getfield 105, 3) := by decide +kernel
theorem dX11_programAt_11 : decode cX11_programAt 11 = .ok (.if_icmp .ge 19, 3) := by decide +kernel
theorem dX11_programAt_14 : decode cX11_programAt 14 = .ok (.iload_n 1, 1) := by decide +kernel
theorem dX11_programAt_15 : decode cX11_programAt 15 = .ok (.aload_n 0, 1) := by decide +kernel
theorem dX11_programAt_16 : decode cX11_programAt 16 = .ok (.getfield 46, 3) := by decide +kernel
theorem dX11_programAt_19 : decode cX11_programAt 19 = .ok (.arraylength, 1) := by decide +kernel
theorem dX11_programAt_20 : decode cX11_programAt 20 = .ok (.if_icmp .ge 10, 3) := by decide +kernel
theorem dX11_programAt_23 : decode cX11_programAt 23 = .ok (.aload_n 0, 1) := by decide +kernel
theorem dX11_programAt_24 : decode cX11_programAt 24 = .ok (.getfield 46, 3) := by decide +kernel
theorem dX11_programAt_27 : decode cX11_programAt 27 = .ok (.iload_n 1, 1) := by decide +kernel
theorem dX11_programAt_28 : decode cX11_programAt 28 = .ok (.aaload, 1) := by decide +kernel
theorem dX11_programAt_29 : decode cX11_programAt 29 = .ok (.astore_n 2, 1) := by decide +kernel
theorem dX11_programAt_30 : decode cX11_programAt 30 = .ok (.aload_n 2, 1) := by decide +kernel
theorem dX11_programAt_31 : decode cX11_programAt 31 = .ok (.ifnonnull 14, 3) := by decide +kernel
theorem dX11_programAt_34 : decode cX11_programAt 34 = .ok (.new 204, 3) := by decide +kernel
theorem dX11_programAt_37 : decode cX11_programAt 37 = .ok (.dup, 1) := by decide +kernel
theorem dX11_programAt_38 : decode cX11_programAt 38 = .ok (.ldc_w 283, 3) := by decide +kernel
theorem dX11_programAt_41 : decode cX11_programAt 41 = .ok (.invokespecial 208, 3) := by decide +kernel
theorem dX11_programAt_44 : decode cX11_programAt 44 = .ok (.athrow, 1) := by decide +kernel
theorem dX11_programAt_45 : decode cX11_programAt 45 = .ok (.aload_n 2, 1) := by decide +kernel
theorem dX11_programAt_46 : decode cX11_programAt 46 = .ok (.areturn, 1) := by decide +kernel
theorem dX11_exerciseAt_0 : decode cX11_exerciseAt 0 = .ok (.aconst_null, 1) := by decide +kernel
theorem dX11_exerciseAt_1 : decode cX11_exerciseAt 1 = .ok (.astore_n 2, 1) := by decide +kernel
theorem dX11_exerciseAt_2 : decode cX11_exerciseAt 2 = .ok (.iload_n 1, 1) := by decide +kernel
theorem dX11_exerciseAt_3 : decode cX11_exerciseAt 3 = .ok (.ifCond .lt 27, 3) := by decide +kernel
theorem dX11_exerciseAt_6 : decode cX11_exerciseAt 6 = .ok (.iload_n 1, 1) := by decide +kernel
theorem dX11_exerciseAt_7 : decode cX11_exerciseAt 7 = .ok (.aload_n 0, 1) := by decide +kernel
theorem dX11_exerciseAt_8 : decode cX11_exerciseAt 8 = .ok (.getfield 138, 3) := by decide +kernel
theorem dX11_exerciseAt_11 : decode cX11_exerciseAt 11 = .ok (.if_icmp .ge 19, 3) := by decide +kernel
theorem dX11_exerciseAt_14 : decode cX11_exerciseAt 14 = .ok (.iload_n 1, 1) := by decide +kernel
theorem dX11_exerciseAt_15 : decode cX11_exerciseAt 15 = .ok (.aload_n 0, 1) := by decide +kernel
theorem dX11_exerciseAt_16 : decode cX11_exerciseAt 16 = .ok (.getfield 52, 3) := by decide +kernel
theorem dX11_exerciseAt_19 : decode cX11_exerciseAt 19 = .ok (.arraylength, 1) := by decide +kernel
theorem dX11_exerciseAt_20 : decode cX11_exerciseAt 20 = .ok (.if_icmp .ge 10, 3) := by decide +kernel
theorem dX11_exerciseAt_23 : decode cX11_exerciseAt 23 = .ok (.aload_n 0, 1) := by decide +kernel
theorem dX11_exerciseAt_24 : decode cX11_exerciseAt 24 = .ok (.getfield 52, 3) := by decide +kernel
theorem dX11_exerciseAt_27 : decode cX11_exerciseAt 27 = .ok (.iload_n 1, 1) := by decide +kernel
theorem dX11_exerciseAt_28 : decode cX11_exerciseAt 28 = .ok (.aaload, 1) := by decide +kernel
theorem dX11_exerciseAt_29 : decode cX11_exerciseAt 29 = .ok (.astore_n 2, 1) := by decide +kernel
theorem dX11_exerciseAt_30 : decode cX11_exerciseAt 30 = .ok (.aload_n 2, 1) := by decide +kernel
theorem dX11_exerciseAt_31 : decode cX11_exerciseAt 31 = .ok (.ifnonnull 14, 3) := by decide +kernel
theorem dX11_exerciseAt_34 : decode cX11_exerciseAt 34 = .ok (.new 204, 3) := by decide +kernel
theorem dX11_exerciseAt_37 : decode cX11_exerciseAt 37 = .ok (.dup, 1) := by decide +kernel
theorem dX11_exerciseAt_38 : decode cX11_exerciseAt 38 = .ok (.ldc_w 285, 3) := by decide +kernel
theorem dX11_exerciseAt_41 : decode cX11_exerciseAt 41 = .ok (.invokespecial 208, 3) := by decide +kernel
theorem dX11_exerciseAt_44 : decode cX11_exerciseAt 44 = .ok (.athrow, 1) := by decide +kernel
theorem dX11_exerciseAt_45 : decode cX11_exerciseAt 45 = .ok (.aload_n 2, 1) := by decide +kernel
theorem dX11_exerciseAt_46 : decode cX11_exerciseAt 46 = .ok (.areturn, 1) := by decide +kernel
theorem dX11_workAt_0 : decode cX11_workAt 0 = .ok (.aconst_null, 1) := by decide +kernel
theorem dX11_workAt_1 : decode cX11_workAt 1 = .ok (.astore_n 2, 1) := by decide +kernel
theorem dX11_workAt_2 : decode cX11_workAt 2 = .ok (.iload_n 1, 1) := by decide +kernel
theorem dX11_workAt_3 : decode cX11_workAt 3 = .ok (.ifCond .lt 27, 3) := by decide +kernel
theorem dX11_workAt_6 : decode cX11_workAt 6 = .ok (.iload_n 1, 1) := by decide +kernel
theorem dX11_workAt_7 : decode cX11_workAt 7 = .ok (.aload_n 0, 1) := by decide +kernel
theorem dX11_workAt_8 : decode cX11_workAt 8 = .ok (.getfield 160, 3) := by decide +kernel
theorem dX11_workAt_11 : decode cX11_workAt 11 = .ok (.if_icmp .ge 19, 3) := by decide +kernel
theorem dX11_workAt_14 : decode cX11_workAt 14 = .ok (.iload_n 1, 1) := by decide +kernel
theorem dX11_workAt_15 : decode cX11_workAt 15 = .ok (.aload_n 0, 1) := by decide +kernel
theorem dX11_workAt_16 : decode cX11_workAt 16 = .ok (.getfield 58, 3) := by decide +kernel
theorem dX11_workAt_19 : decode cX11_workAt 19 = .ok (.arraylength, 1) := by decide +kernel
theorem dX11_workAt_20 : decode cX11_workAt 20 = .ok (.if_icmp .ge 10, 3) := by decide +kernel
theorem dX11_workAt_23 : decode cX11_workAt 23 = .ok (.aload_n 0, 1) := by decide +kernel
theorem dX11_workAt_24 : decode cX11_workAt 24 = .ok (.getfield 58, 3) := by decide +kernel
theorem dX11_workAt_27 : decode cX11_workAt 27 = .ok (.iload_n 1, 1) := by decide +kernel
theorem dX11_workAt_28 : decode cX11_workAt 28 = .ok (.aaload, 1) := by decide +kernel
theorem dX11_workAt_29 : decode cX11_workAt 29 = .ok (.astore_n 2, 1) := by decide +kernel
theorem dX11_workAt_30 : decode cX11_workAt 30 = .ok (.aload_n 2, 1) := by decide +kernel
theorem dX11_workAt_31 : decode cX11_workAt 31 = .ok (.ifnonnull 14, 3) := by decide +kernel
theorem dX11_workAt_34 : decode cX11_workAt 34 = .ok (.new 204, 3) := by decide +kernel
theorem dX11_workAt_37 : decode cX11_workAt 37 = .ok (.dup, 1) := by decide +kernel
theorem dX11_workAt_38 : decode cX11_workAt 38 = .ok (.ldc_w 287, 3) := by decide +kernel
theorem dX11_workAt_41 : decode cX11_workAt 41 = .ok (.invokespecial 208, 3) := by decide +kernel
theorem dX11_workAt_44 : decode cX11_workAt 44 = .ok (.athrow, 1) := by decide +kernel
theorem dX11_workAt_45 : decode cX11_workAt 45 = .ok (.aload_n 2, 1) := by decide +kernel
theorem dX11_workAt_46 : decode cX11_workAt 46 = .ok (.areturn, 1) := by decide +kernel
theorem dX11_findOriginal_0 : decode cX11_findOriginal 0 = .ok (.iconst 0, 1) := by decide +kernel
theorem dX11_findOriginal_1 : decode cX11_findOriginal 1 = .ok (.istore_n 3, 1) := by decide +kernel
theorem dX11_findOriginal_2 : decode cX11_findOriginal 2 = .ok (.iload_n 3, 1) := by decide +kernel
theorem dX11_findOriginal_3 : decode cX11_findOriginal 3 = .ok (.aload_n 0, 1) := by decide +kernel
theorem dX11_findOriginal_4 : decode cX11_findOriginal 4 = .ok (.getfield 160, 3) := by decide +kernel
theorem dX11_findOriginal_7 : decode cX11_findOriginal 7 = .ok (.if_icmp .ge 69, 3) := by decide +kernel
theorem dX11_findOriginal_10 : decode cX11_findOriginal 10 = .ok (.iload_n 3, 1) := by decide +kernel
theorem dX11_findOriginal_11 : decode cX11_findOriginal 11 = .ok (.aload_n 0, 1) := by decide +kernel
theorem dX11_findOriginal_12 : decode cX11_findOriginal 12 = .ok (.getfield 58, 3) := by decide +kernel
theorem dX11_findOriginal_15 : decode cX11_findOriginal 15 = .ok (.arraylength, 1) := by decide +kernel
theorem dX11_findOriginal_16 : decode cX11_findOriginal 16 = .ok (.if_icmp .ge 60, 3) := by decide +kernel
theorem dX11_findOriginal_19 : decode cX11_findOriginal 19 = .ok (.aload_n 0, 1) := by decide +kernel
theorem dX11_findOriginal_20 : decode cX11_findOriginal 20 = .ok (.getfield 58, 3) := by decide +kernel
theorem dX11_findOriginal_23 : decode cX11_findOriginal 23 = .ok (.iload_n 3, 1) := by decide +kernel
theorem dX11_findOriginal_24 : decode cX11_findOriginal 24 = .ok (.aaload, 1) := by decide +kernel
theorem dX11_findOriginal_25 : decode cX11_findOriginal 25 = .ok (.astore 4, 2) := by decide +kernel
theorem dX11_findOriginal_27 : decode cX11_findOriginal 27 = .ok (.aload 4, 2) := by decide +kernel
theorem dX11_findOriginal_29 : decode cX11_findOriginal 29 = .ok (.ifnull 41, 3) := by decide +kernel
theorem dX11_findOriginal_32 : decode cX11_findOriginal 32 = .ok (.aload 4, 2) := by decide +kernel
theorem dX11_findOriginal_34 : decode cX11_findOriginal 34 = .ok (.getfield 289, 3) := by decide +kernel
theorem dX11_findOriginal_37 : decode cX11_findOriginal 37 = .ok (.aload_n 2, 1) := by decide +kernel
theorem dX11_findOriginal_38 : decode cX11_findOriginal 38 = .ok (.if_acmp .ne 32, 3) := by decide +kernel
theorem dX11_findOriginal_41 : decode cX11_findOriginal 41 = .ok (.aload 4, 2) := by decide +kernel
theorem dX11_findOriginal_43 : decode cX11_findOriginal 43 = .ok (.getfield 255, 3) := by decide +kernel
theorem dX11_findOriginal_46 : decode cX11_findOriginal 46 = .ok (.getfield 259, 3) := by decide +kernel
theorem dX11_findOriginal_49 : decode cX11_findOriginal 49 = .ok (.aload_n 1, 1) := by decide +kernel
theorem dX11_findOriginal_50 : decode cX11_findOriginal 50 = .ok (.getfield 259, 3) := by decide +kernel
theorem dX11_findOriginal_53 : decode cX11_findOriginal 53 = .ok (.if_icmp .eq 17, 3) := by decide +kernel
theorem dX11_findOriginal_56 : decode cX11_findOriginal 56 = .ok (.aload 4, 2) := by decide +kernel
theorem dX11_findOriginal_58 : decode cX11_findOriginal 58 = .ok (.getfield 255, 3) := by decide +kernel
theorem dX11_findOriginal_61 : decode cX11_findOriginal 61 = .ok (.aload_n 1, 1) := by decide +kernel
theorem dX11_findOriginal_62 : decode cX11_findOriginal 62 = .ok (.invokevirtual 217, 3) := by decide +kernel
theorem dX11_findOriginal_65 : decode cX11_findOriginal 65 = .ok (.ifCond .eq 5, 3) := by decide +kernel
theorem dX11_findOriginal_68 : decode cX11_findOriginal 68 = .ok (.iload_n 3, 1) := by decide +kernel
theorem dX11_findOriginal_69 : decode cX11_findOriginal 69 = .ok (.ireturn, 1) := by decide +kernel
theorem dX11_findOriginal_70 : decode cX11_findOriginal 70 = .ok (.iinc 3 1, 3) := by decide +kernel
theorem dX11_findOriginal_73 : decode cX11_findOriginal 73 = .ok (.goto (-71), 3) := by decide +kernel
theorem dX11_findOriginal_76 : decode cX11_findOriginal 76 = .ok (.iconst (-1), 1) := by decide +kernel
theorem dX11_findOriginal_77 : decode cX11_findOriginal 77 = .ok (.ireturn, 1) := by decide +kernel
theorem dX11_countMeeting_0 : decode cX11_countMeeting 0 = .ok (.iconst 0, 1) := by decide +kernel
theorem dX11_countMeeting_1 : decode cX11_countMeeting 1 = .ok (.istore_n 2, 1) := by decide +kernel
theorem dX11_countMeeting_2 : decode cX11_countMeeting 2 = .ok (.iconst 0, 1) := by decide +kernel
theorem dX11_countMeeting_3 : decode cX11_countMeeting 3 = .ok (.istore_n 3, 1) := by decide +kernel
theorem dX11_countMeeting_4 : decode cX11_countMeeting 4 = .ok (.iload_n 3, 1) := by decide +kernel
theorem dX11_countMeeting_5 : decode cX11_countMeeting 5 = .ok (.aload_n 0, 1) := by decide +kernel
theorem dX11_countMeeting_6 : decode cX11_countMeeting 6 = .ok (.getfield 160, 3) := by decide +kernel
theorem dX11_countMeeting_9 : decode cX11_countMeeting 9 = .ok (.if_icmp .ge 51, 3) := by decide +kernel
theorem dX11_countMeeting_12 : decode cX11_countMeeting 12 = .ok (.iload_n 3, 1) := by decide +kernel
theorem dX11_countMeeting_13 : decode cX11_countMeeting 13 = .ok (.aload_n 0, 1) := by decide +kernel
theorem dX11_countMeeting_14 : decode cX11_countMeeting 14 = .ok (.getfield 58, 3) := by decide +kernel
theorem dX11_countMeeting_17 : decode cX11_countMeeting 17 = .ok (.arraylength, 1) := by decide +kernel
theorem dX11_countMeeting_18 : decode cX11_countMeeting 18 = .ok (.if_icmp .ge 42, 3) := by decide +kernel
theorem dX11_countMeeting_21 : decode cX11_countMeeting 21 = .ok (.aload_n 0, 1) := by decide +kernel
theorem dX11_countMeeting_22 : decode cX11_countMeeting 22 = .ok (.getfield 58, 3) := by decide +kernel
theorem dX11_countMeeting_25 : decode cX11_countMeeting 25 = .ok (.iload_n 3, 1) := by decide +kernel
theorem dX11_countMeeting_26 : decode cX11_countMeeting 26 = .ok (.aaload, 1) := by decide +kernel
theorem dX11_countMeeting_27 : decode cX11_countMeeting 27 = .ok (.astore 4, 2) := by decide +kernel
theorem dX11_countMeeting_29 : decode cX11_countMeeting 29 = .ok (.aload 4, 2) := by decide +kernel
theorem dX11_countMeeting_31 : decode cX11_countMeeting 31 = .ok (.ifnull 23, 3) := by decide +kernel
theorem dX11_countMeeting_34 : decode cX11_countMeeting 34 = .ok (.aload 4, 2) := by decide +kernel
theorem dX11_countMeeting_36 : decode cX11_countMeeting 36 = .ok (.getfield 289, 3) := by decide +kernel
theorem dX11_countMeeting_39 : decode cX11_countMeeting 39 = .ok (.aload_n 1, 1) := by decide +kernel
theorem dX11_countMeeting_40 : decode cX11_countMeeting 40 = .ok (.if_acmp .ne 14, 3) := by decide +kernel
theorem dX11_countMeeting_43 : decode cX11_countMeeting 43 = .ok (.aload 4, 2) := by decide +kernel
theorem dX11_countMeeting_45 : decode cX11_countMeeting 45 = .ok (.invokevirtual 230, 3) := by decide +kernel
theorem dX11_countMeeting_48 : decode cX11_countMeeting 48 = .ok (.ifCond .eq 6, 3) := by decide +kernel
theorem dX11_countMeeting_51 : decode cX11_countMeeting 51 = .ok (.iinc 2 1, 3) := by decide +kernel
theorem dX11_countMeeting_54 : decode cX11_countMeeting 54 = .ok (.iinc 3 1, 3) := by decide +kernel
theorem dX11_countMeeting_57 : decode cX11_countMeeting 57 = .ok (.goto (-53), 3) := by decide +kernel
theorem dX11_countMeeting_60 : decode cX11_countMeeting 60 = .ok (.iload_n 2, 1) := by decide +kernel
theorem dX11_countMeeting_61 : decode cX11_countMeeting 61 = .ok (.ireturn, 1) := by decide +kernel
theorem dX11_countHanging_0 : decode cX11_countHanging 0 = .ok (.iconst 0, 1) := by decide +kernel
theorem dX11_countHanging_1 : decode cX11_countHanging 1 = .ok (.istore_n 1, 1) := by decide +kernel
theorem dX11_countHanging_2 : decode cX11_countHanging 2 = .ok (.iconst 0, 1) := by decide +kernel
theorem dX11_countHanging_3 : decode cX11_countHanging 3 = .ok (.istore_n 2, 1) := by decide +kernel
theorem dX11_countHanging_4 : decode cX11_countHanging 4 = .ok (.iload_n 2, 1) := by decide +kernel
theorem dX11_countHanging_5 : decode cX11_countHanging 5 = .ok (.aload_n 0, 1) := by decide +kernel
theorem dX11_countHanging_6 : decode cX11_countHanging 6 = .ok (.getfield 160, 3) := by decide +kernel
theorem dX11_countHanging_9 : decode cX11_countHanging 9 = .ok (.if_icmp .ge 39, 3) := by decide +kernel
theorem dX11_countHanging_12 : decode cX11_countHanging 12 = .ok (.iload_n 2, 1) := by decide +kernel
theorem dX11_countHanging_13 : decode cX11_countHanging 13 = .ok (.aload_n 0, 1) := by decide +kernel
theorem dX11_countHanging_14 : decode cX11_countHanging 14 = .ok (.getfield 58, 3) := by decide +kernel
theorem dX11_countHanging_17 : decode cX11_countHanging 17 = .ok (.arraylength, 1) := by decide +kernel
theorem dX11_countHanging_18 : decode cX11_countHanging 18 = .ok (.if_icmp .ge 30, 3) := by decide +kernel
theorem dX11_countHanging_21 : decode cX11_countHanging 21 = .ok (.aload_n 0, 1) := by decide +kernel
theorem dX11_countHanging_22 : decode cX11_countHanging 22 = .ok (.getfield 58, 3) := by decide +kernel
theorem dX11_countHanging_25 : decode cX11_countHanging 25 = .ok (.iload_n 2, 1) := by decide +kernel
theorem dX11_countHanging_26 : decode cX11_countHanging 26 = .ok (.aaload, 1) := by decide +kernel
theorem dX11_countHanging_27 : decode cX11_countHanging 27 = .ok (.astore_n 3, 1) := by decide +kernel
theorem dX11_countHanging_28 : decode cX11_countHanging 28 = .ok (.aload_n 3, 1) := by decide +kernel
theorem dX11_countHanging_29 : decode cX11_countHanging 29 = .ok (.ifnull 13, 3) := by decide +kernel
theorem dX11_countHanging_32 : decode cX11_countHanging 32 = .ok (.aload_n 3, 1) := by decide +kernel
theorem dX11_countHanging_33 : decode cX11_countHanging 33 = .ok (.getfield 237, 3) := by decide +kernel
theorem dX11_countHanging_36 : decode cX11_countHanging 36 = .ok (.ifCond .eq 6, 3) := by decide +kernel
theorem dX11_countHanging_39 : decode cX11_countHanging 39 = .ok (.iinc 1 1, 3) := by decide +kernel
theorem dX11_countHanging_42 : decode cX11_countHanging 42 = .ok (.iinc 2 1, 3) := by decide +kernel
theorem dX11_countHanging_45 : decode cX11_countHanging 45 = .ok (.goto (-41), 3) := by decide +kernel
theorem dX11_countHanging_48 : decode cX11_countHanging 48 = .ok (.iload_n 1, 1) := by decide +kernel
theorem dX11_countHanging_49 : decode cX11_countHanging 49 = .ok (.ireturn, 1) := by decide +kernel
theorem dX11_layWall_0 : decode cX11_layWall 0 = .ok (.aload_n 0, 1) := by decide +kernel
theorem dX11_layWall_1 : decode cX11_layWall 1 = .ok (.getfield 40, 3) := by decide +kernel
theorem dX11_layWall_4 : decode cX11_layWall 4 = .ok (.invokevirtual 293, 3) := by decide +kernel
theorem dX11_layWall_7 : decode cX11_layWall 7 = .ok (.iconst 0, 1) := by decide +kernel
theorem dX11_layWall_8 : decode cX11_layWall 8 = .ok (.istore_n 1, 1) := by decide +kernel
theorem dX11_layWall_9 : decode cX11_layWall 9 = .ok (.iload_n 1, 1) := by decide +kernel
theorem dX11_layWall_10 : decode cX11_layWall 10 = .ok (.aload_n 0, 1) := by decide +kernel
theorem dX11_layWall_11 : decode cX11_layWall 11 = .ok (.getfield 160, 3) := by decide +kernel
theorem dX11_layWall_14 : decode cX11_layWall 14 = .ok (.if_icmp .ge 56, 3) := by decide +kernel
theorem dX11_layWall_17 : decode cX11_layWall 17 = .ok (.iload_n 1, 1) := by decide +kernel
theorem dX11_layWall_18 : decode cX11_layWall 18 = .ok (.aload_n 0, 1) := by decide +kernel
theorem dX11_layWall_19 : decode cX11_layWall 19 = .ok (.getfield 58, 3) := by decide +kernel
theorem dX11_layWall_22 : decode cX11_layWall 22 = .ok (.arraylength, 1) := by decide +kernel
theorem dX11_layWall_23 : decode cX11_layWall 23 = .ok (.if_icmp .ge 47, 3) := by decide +kernel
theorem dX11_layWall_26 : decode cX11_layWall 26 = .ok (.aload_n 0, 1) := by decide +kernel
theorem dX11_layWall_27 : decode cX11_layWall 27 = .ok (.getfield 58, 3) := by decide +kernel
theorem dX11_layWall_30 : decode cX11_layWall 30 = .ok (.iload_n 1, 1) := by decide +kernel
theorem dX11_layWall_31 : decode cX11_layWall 31 = .ok (.aaload, 1) := by decide +kernel
theorem dX11_layWall_32 : decode cX11_layWall 32 = .ok (.astore_n 2, 1) := by decide +kernel
theorem dX11_layWall_33 : decode cX11_layWall 33 = .ok (.aload_n 2, 1) := by decide +kernel
theorem dX11_layWall_34 : decode cX11_layWall 34 = .ok (.ifnull 30, 3) := by decide +kernel
theorem dX11_layWall_37 : decode cX11_layWall 37 = .ok (.aload_n 2, 1) := by decide +kernel
theorem dX11_layWall_38 : decode cX11_layWall 38 = .ok (.iconst 0, 1) := by decide +kernel
theorem dX11_layWall_39 : decode cX11_layWall 39 = .ok (.putfield 237, 3) := by decide +kernel
theorem dX11_layWall_42 : decode cX11_layWall 42 = .ok (.aload_n 2, 1) := by decide +kernel
theorem dX11_layWall_43 : decode cX11_layWall 43 = .ok (.invokevirtual 230, 3) := by decide +kernel
theorem dX11_layWall_46 : decode cX11_layWall 46 = .ok (.ifCond .eq 18, 3) := by decide +kernel
theorem dX11_layWall_49 : decode cX11_layWall 49 = .ok (.aload_n 2, 1) := by decide +kernel
theorem dX11_layWall_50 : decode cX11_layWall 50 = .ok (.invokevirtual 294, 3) := by decide +kernel
theorem dX11_layWall_53 : decode cX11_layWall 53 = .ok (.ifCond .ne 11, 3) := by decide +kernel
theorem dX11_layWall_56 : decode cX11_layWall 56 = .ok (.aload_n 0, 1) := by decide +kernel
theorem dX11_layWall_57 : decode cX11_layWall 57 = .ok (.getfield 40, 3) := by decide +kernel
theorem dX11_layWall_60 : decode cX11_layWall 60 = .ok (.aload_n 2, 1) := by decide +kernel
theorem dX11_layWall_61 : decode cX11_layWall 61 = .ok (.invokevirtual 297, 3) := by decide +kernel
theorem dX11_layWall_64 : decode cX11_layWall 64 = .ok (.iinc 1 1, 3) := by decide +kernel
theorem dX11_layWall_67 : decode cX11_layWall 67 = .ok (.goto (-58), 3) := by decide +kernel
theorem dX11_layWall_70 : decode cX11_layWall 70 = .ok (.return_, 1) := by decide +kernel
theorem dJ9_floorMod_7cf53_0 : decode cJ9_floorMod_7cf53 0 = .ok (.iload_n 0, 1) := by decide +kernel
theorem dJ9_floorMod_7cf53_1 : decode cJ9_floorMod_7cf53 1 = .ok (.iload_n 1, 1) := by decide +kernel
theorem dJ9_floorMod_7cf53_2 : decode cJ9_floorMod_7cf53 2 = .ok (.irem, 1) := by decide +kernel
theorem dJ9_floorMod_7cf53_3 : decode cJ9_floorMod_7cf53 3 = .ok (.istore_n 2, 1) := by decide +kernel
theorem dJ9_floorMod_7cf53_4 : decode cJ9_floorMod_7cf53 4 = .ok (.iload_n 0, 1) := by decide +kernel
theorem dJ9_floorMod_7cf53_5 : decode cJ9_floorMod_7cf53 5 = .ok (.iload_n 1, 1) := by decide +kernel
theorem dJ9_floorMod_7cf53_6 : decode cJ9_floorMod_7cf53 6 = .ok (.ixor, 1) := by decide +kernel
theorem dJ9_floorMod_7cf53_7 : decode cJ9_floorMod_7cf53 7 = .ok (.ifCond .ge 11, 3) := by decide +kernel
theorem dJ9_floorMod_7cf53_10 : decode cJ9_floorMod_7cf53 10 = .ok (.iload_n 2, 1) := by decide +kernel
theorem dJ9_floorMod_7cf53_11 : decode cJ9_floorMod_7cf53 11 = .ok (.ifCond .eq 7, 3) := by decide +kernel
theorem dJ9_floorMod_7cf53_14 : decode cJ9_floorMod_7cf53 14 = .ok (.iload_n 2, 1) := by decide +kernel
theorem dJ9_floorMod_7cf53_15 : decode cJ9_floorMod_7cf53 15 = .ok (.iload_n 1, 1) := by decide +kernel
theorem dJ9_floorMod_7cf53_16 : decode cJ9_floorMod_7cf53 16 = .ok (.iadd, 1) := by decide +kernel
theorem dJ9_floorMod_7cf53_17 : decode cJ9_floorMod_7cf53 17 = .ok (.ireturn, 1) := by decide +kernel
theorem dJ9_floorMod_7cf53_18 : decode cJ9_floorMod_7cf53 18 = .ok (.iload_n 2, 1) := by decide +kernel
theorem dJ9_floorMod_7cf53_19 : decode cJ9_floorMod_7cf53 19 = .ok (.ireturn, 1) := by decide +kernel
theorem dJ9_max_7cf53_0 : decode cJ9_max_7cf53 0 = .ok (.iload_n 0, 1) := by decide +kernel
theorem dJ9_max_7cf53_1 : decode cJ9_max_7cf53 1 = .ok (.iload_n 1, 1) := by decide +kernel
theorem dJ9_max_7cf53_2 : decode cJ9_max_7cf53 2 = .ok (.if_icmp .lt 7, 3) := by decide +kernel
theorem dJ9_max_7cf53_5 : decode cJ9_max_7cf53 5 = .ok (.iload_n 0, 1) := by decide +kernel
theorem dJ9_max_7cf53_6 : decode cJ9_max_7cf53 6 = .ok (.goto 4, 3) := by decide +kernel
theorem dJ9_max_7cf53_9 : decode cJ9_max_7cf53 9 = .ok (.iload_n 1, 1) := by decide +kernel
theorem dJ9_max_7cf53_10 : decode cJ9_max_7cf53 10 = .ok (.ireturn, 1) := by decide +kernel
theorem dJ9_min_7cf53_0 : decode cJ9_min_7cf53 0 = .ok (.iload_n 0, 1) := by decide +kernel
theorem dJ9_min_7cf53_1 : decode cJ9_min_7cf53 1 = .ok (.iload_n 1, 1) := by decide +kernel
theorem dJ9_min_7cf53_2 : decode cJ9_min_7cf53 2 = .ok (.if_icmp .gt 7, 3) := by decide +kernel
theorem dJ9_min_7cf53_5 : decode cJ9_min_7cf53 5 = .ok (.iload_n 0, 1) := by decide +kernel
theorem dJ9_min_7cf53_6 : decode cJ9_min_7cf53 6 = .ok (.goto 4, 3) := by decide +kernel
theorem dJ9_min_7cf53_9 : decode cJ9_min_7cf53 9 = .ok (.iload_n 1, 1) := by decide +kernel
theorem dJ9_min_7cf53_10 : decode cJ9_min_7cf53 10 = .ok (.ireturn, 1) := by decide +kernel
theorem dL_draw_0 : decode cL_draw 0 = .ok (.iload_n 1, 1) := by decide +kernel
theorem dL_draw_1 : decode cL_draw 1 = .ok (.aload_n 0, 1) := by decide +kernel
theorem dL_draw_2 : decode cL_draw 2 = .ok (.arraylength, 1) := by decide +kernel
theorem dL_draw_3 : decode cL_draw 3 = .ok (.if_icmp .ge 12, 3) := by decide +kernel
theorem dL_draw_6 : decode cL_draw 6 = .ok (.aload_n 0, 1) := by decide +kernel
theorem dL_draw_7 : decode cL_draw 7 = .ok (.iload_n 1, 1) := by decide +kernel
theorem dL_draw_8 : decode cL_draw 8 = .ok (.iaload, 1) := by decide +kernel
theorem dL_draw_9 : decode cL_draw 9 = .ok (.ldc 7, 2) := by decide +kernel
theorem dL_draw_11 : decode cL_draw 11 = .ok (.iand, 1) := by decide +kernel
theorem dL_draw_12 : decode cL_draw 12 = .ok (.goto 12, 3) := by decide +kernel
theorem dL_draw_15 : decode cL_draw 15 = .ok (.ldc 8, 2) := by decide +kernel
theorem dL_draw_17 : decode cL_draw 17 = .ok (.iload_n 1, 1) := by decide +kernel
theorem dL_draw_18 : decode cL_draw 18 = .ok (.iconst 2, 1) := by decide +kernel
theorem dL_draw_19 : decode cL_draw 19 = .ok (.iadd, 1) := by decide +kernel
theorem dL_draw_20 : decode cL_draw 20 = .ok (.imul, 1) := by decide +kernel
theorem dL_draw_21 : decode cL_draw 21 = .ok (.ldc 9, 2) := by decide +kernel
theorem dL_draw_23 : decode cL_draw 23 = .ok (.irem, 1) := by decide +kernel
theorem dL_draw_24 : decode cL_draw 24 = .ok (.ireturn, 1) := by decide +kernel
theorem dL_step_0 : decode cL_step 0 = .ok (.iload 4, 2) := by decide +kernel
theorem dL_step_2 : decode cL_step 2 = .ok (.bipush 16, 2) := by decide +kernel
theorem dL_step_4 : decode cL_step 4 = .ok (.irem, 1) := by decide +kernel
theorem dL_step_5 : decode cL_step 5 = .ok (.tableswitch 584 0 14 #[75, 75, 75, 75, 75, 75, 75, 106, 106, 139, 257, 301, 301, 402, 495], 75) := by decide +kernel
theorem dL_step_80 : decode cL_step 80 = .ok (.aload_n 1, 1) := by decide +kernel
theorem dL_step_81 : decode cL_step 81 = .ok (.iconst 0, 1) := by decide +kernel
theorem dL_step_82 : decode cL_step 82 = .ok (.iaload, 1) := by decide +kernel
theorem dL_step_83 : decode cL_step 83 = .ok (.bipush 30, 2) := by decide +kernel
theorem dL_step_85 : decode cL_step 85 = .ok (.if_icmp .eq 20, 3) := by decide +kernel
theorem dL_step_88 : decode cL_step 88 = .ok (.aload_n 0, 1) := by decide +kernel
theorem dL_step_89 : decode cL_step 89 = .ok (.aload_n 1, 1) := by decide +kernel
theorem dL_step_90 : decode cL_step 90 = .ok (.iload 4, 2) := by decide +kernel
theorem dL_step_92 : decode cL_step 92 = .ok (.bipush 7, 2) := by decide +kernel
theorem dL_step_94 : decode cL_step 94 = .ok (.irem, 1) := by decide +kernel
theorem dL_step_95 : decode cL_step 95 = .ok (.iload 5, 2) := by decide +kernel
theorem dL_step_97 : decode cL_step 97 = .ok (.iload 6, 2) := by decide +kernel
theorem dL_step_99 : decode cL_step 99 = .ok (.invokestatic 10, 3) := by decide +kernel
theorem dL_step_102 : decode cL_step 102 = .ok (.ifCond .eq 7, 3) := by decide +kernel
theorem dL_step_105 : decode cL_step 105 = .ok (.iconst 1, 1) := by decide +kernel
theorem dL_step_106 : decode cL_step 106 = .ok (.goto 4, 3) := by decide +kernel
theorem dL_step_109 : decode cL_step 109 = .ok (.iconst 0, 1) := by decide +kernel
theorem dL_step_110 : decode cL_step 110 = .ok (.ireturn, 1) := by decide +kernel
theorem dL_step_111 : decode cL_step 111 = .ok (.aload_n 1, 1) := by decide +kernel
theorem dL_step_112 : decode cL_step 112 = .ok (.iconst 0, 1) := by decide +kernel
theorem dL_step_113 : decode cL_step 113 = .ok (.iaload, 1) := by decide +kernel
theorem dL_step_114 : decode cL_step 114 = .ok (.ifCond .eq 24, 3) := by decide +kernel
theorem dL_step_117 : decode cL_step 117 = .ok (.aload_n 1, 1) := by decide +kernel
theorem dL_step_118 : decode cL_step 118 = .ok (.iconst 3, 1) := by decide +kernel
theorem dL_step_119 : decode cL_step 119 = .ok (.iaload, 1) := by decide +kernel
theorem dL_step_120 : decode cL_step 120 = .ok (.bipush 10, 2) := by decide +kernel
theorem dL_step_122 : decode cL_step 122 = .ok (.if_icmp .eq 16, 3) := by decide +kernel
theorem dL_step_125 : decode cL_step 125 = .ok (.aload_n 0, 1) := by decide +kernel
theorem dL_step_126 : decode cL_step 126 = .ok (.aload_n 1, 1) := by decide +kernel
theorem dL_step_127 : decode cL_step 127 = .ok (.aload_n 2, 1) := by decide +kernel
theorem dL_step_128 : decode cL_step 128 = .ok (.iload 6, 2) := by decide +kernel
theorem dL_step_130 : decode cL_step 130 = .ok (.iconst 3, 1) := by decide +kernel
theorem dL_step_131 : decode cL_step 131 = .ok (.irem, 1) := by decide +kernel
theorem dL_step_132 : decode cL_step 132 = .ok (.invokestatic 16, 3) := by decide +kernel
theorem dL_step_135 : decode cL_step 135 = .ok (.ifCond .eq 7, 3) := by decide +kernel
theorem dL_step_138 : decode cL_step 138 = .ok (.iconst 1, 1) := by decide +kernel
theorem dL_step_139 : decode cL_step 139 = .ok (.goto 4, 3) := by decide +kernel
theorem dL_step_142 : decode cL_step 142 = .ok (.iconst 0, 1) := by decide +kernel
theorem dL_step_143 : decode cL_step 143 = .ok (.ireturn, 1) := by decide +kernel
theorem dL_step_144 : decode cL_step 144 = .ok (.aload_n 1, 1) := by decide +kernel
theorem dL_step_145 : decode cL_step 145 = .ok (.iconst 3, 1) := by decide +kernel
theorem dL_step_146 : decode cL_step 146 = .ok (.iaload, 1) := by decide +kernel
theorem dL_step_147 : decode cL_step 147 = .ok (.ifCond .eq 10, 3) := by decide +kernel
theorem dL_step_150 : decode cL_step 150 = .ok (.aload_n 1, 1) := by decide +kernel
theorem dL_step_151 : decode cL_step 151 = .ok (.iconst 4, 1) := by decide +kernel
theorem dL_step_152 : decode cL_step 152 = .ok (.iaload, 1) := by decide +kernel
theorem dL_step_153 : decode cL_step 153 = .ok (.iconst 4, 1) := by decide +kernel
theorem dL_step_154 : decode cL_step 154 = .ok (.if_icmp .ne 19, 3) := by decide +kernel
theorem dL_step_157 : decode cL_step 157 = .ok (.aload_n 0, 1) := by decide +kernel
theorem dL_step_158 : decode cL_step 158 = .ok (.invokevirtual 20, 3) := by decide +kernel
theorem dL_step_161 : decode cL_step 161 = .ok (.aload_n 1, 1) := by decide +kernel
theorem dL_step_162 : decode cL_step 162 = .ok (.iconst 3, 1) := by decide +kernel
theorem dL_step_163 : decode cL_step 163 = .ok (.iaload, 1) := by decide +kernel
theorem dL_step_164 : decode cL_step 164 = .ok (.if_icmp .ne 7, 3) := by decide +kernel
theorem dL_step_167 : decode cL_step 167 = .ok (.iconst 1, 1) := by decide +kernel
theorem dL_step_168 : decode cL_step 168 = .ok (.goto 4, 3) := by decide +kernel
theorem dL_step_171 : decode cL_step 171 = .ok (.iconst 0, 1) := by decide +kernel
theorem dL_step_172 : decode cL_step 172 = .ok (.ireturn, 1) := by decide +kernel
theorem dL_step_173 : decode cL_step 173 = .ok (.aload_n 3, 1) := by decide +kernel
theorem dL_step_174 : decode cL_step 174 = .ok (.aload_n 1, 1) := by decide +kernel
theorem dL_step_175 : decode cL_step 175 = .ok (.iconst 4, 1) := by decide +kernel
theorem dL_step_176 : decode cL_step 176 = .ok (.iaload, 1) := by decide +kernel
theorem dL_step_177 : decode cL_step 177 = .ok (.iload 5, 2) := by decide +kernel
theorem dL_step_179 : decode cL_step 179 = .ok (.aload_n 1, 1) := by decide +kernel
theorem dL_step_180 : decode cL_step 180 = .ok (.iconst 3, 1) := by decide +kernel
theorem dL_step_181 : decode cL_step 181 = .ok (.iaload, 1) := by decide +kernel
theorem dL_step_182 : decode cL_step 182 = .ok (.irem, 1) := by decide +kernel
theorem dL_step_183 : decode cL_step 183 = .ok (.iastore, 1) := by decide +kernel
theorem dL_step_184 : decode cL_step 184 = .ok (.aload_n 3, 1) := by decide +kernel
theorem dL_step_185 : decode cL_step 185 = .ok (.iconst 4, 1) := by decide +kernel
theorem dL_step_186 : decode cL_step 186 = .ok (.aload_n 1, 1) := by decide +kernel
theorem dL_step_187 : decode cL_step 187 = .ok (.iconst 4, 1) := by decide +kernel
theorem dL_step_188 : decode cL_step 188 = .ok (.iaload, 1) := by decide +kernel
theorem dL_step_189 : decode cL_step 189 = .ok (.iadd, 1) := by decide +kernel
theorem dL_step_190 : decode cL_step 190 = .ok (.iconst 1, 1) := by decide +kernel
theorem dL_step_191 : decode cL_step 191 = .ok (.iload 6, 2) := by decide +kernel
theorem dL_step_193 : decode cL_step 193 = .ok (.bipush 30, 2) := by decide +kernel
theorem dL_step_195 : decode cL_step 195 = .ok (.irem, 1) := by decide +kernel
theorem dL_step_196 : decode cL_step 196 = .ok (.iadd, 1) := by decide +kernel
theorem dL_step_197 : decode cL_step 197 = .ok (.iastore, 1) := by decide +kernel
theorem dL_step_198 : decode cL_step 198 = .ok (.aload_n 3, 1) := by decide +kernel
theorem dL_step_199 : decode cL_step 199 = .ok (.bipush 8, 2) := by decide +kernel
theorem dL_step_201 : decode cL_step 201 = .ok (.aload_n 1, 1) := by decide +kernel
theorem dL_step_202 : decode cL_step 202 = .ok (.iconst 4, 1) := by decide +kernel
theorem dL_step_203 : decode cL_step 203 = .ok (.iaload, 1) := by decide +kernel
theorem dL_step_204 : decode cL_step 204 = .ok (.iadd, 1) := by decide +kernel
theorem dL_step_205 : decode cL_step 205 = .ok (.iload 6, 2) := by decide +kernel
theorem dL_step_207 : decode cL_step 207 = .ok (.bipush 30, 2) := by decide +kernel
theorem dL_step_209 : decode cL_step 209 = .ok (.idiv, 1) := by decide +kernel
theorem dL_step_210 : decode cL_step 210 = .ok (.sipush 601, 3) := by decide +kernel
theorem dL_step_213 : decode cL_step 213 = .ok (.irem, 1) := by decide +kernel
theorem dL_step_214 : decode cL_step 214 = .ok (.iastore, 1) := by decide +kernel
theorem dL_step_215 : decode cL_step 215 = .ok (.aload_n 1, 1) := by decide +kernel
theorem dL_step_216 : decode cL_step 216 = .ok (.iconst 4, 1) := by decide +kernel
theorem dL_step_217 : decode cL_step 217 = .ok (.dup2, 1) := by decide +kernel
theorem dL_step_218 : decode cL_step 218 = .ok (.iaload, 1) := by decide +kernel
theorem dL_step_219 : decode cL_step 219 = .ok (.iconst 1, 1) := by decide +kernel
theorem dL_step_220 : decode cL_step 220 = .ok (.iadd, 1) := by decide +kernel
theorem dL_step_221 : decode cL_step 221 = .ok (.iastore, 1) := by decide +kernel
theorem dL_step_222 : decode cL_step 222 = .ok (.aload_n 0, 1) := by decide +kernel
theorem dL_step_223 : decode cL_step 223 = .ok (.iload 5, 2) := by decide +kernel
theorem dL_step_225 : decode cL_step 225 = .ok (.aload_n 1, 1) := by decide +kernel
theorem dL_step_226 : decode cL_step 226 = .ok (.iconst 3, 1) := by decide +kernel
theorem dL_step_227 : decode cL_step 227 = .ok (.iaload, 1) := by decide +kernel
theorem dL_step_228 : decode cL_step 228 = .ok (.irem, 1) := by decide +kernel
theorem dL_step_229 : decode cL_step 229 = .ok (.iconst 1, 1) := by decide +kernel
theorem dL_step_230 : decode cL_step 230 = .ok (.iload 6, 2) := by decide +kernel
theorem dL_step_232 : decode cL_step 232 = .ok (.bipush 30, 2) := by decide +kernel
theorem dL_step_234 : decode cL_step 234 = .ok (.irem, 1) := by decide +kernel
theorem dL_step_235 : decode cL_step 235 = .ok (.iadd, 1) := by decide +kernel
theorem dL_step_236 : decode cL_step 236 = .ok (.iload 6, 2) := by decide +kernel
theorem dL_step_238 : decode cL_step 238 = .ok (.bipush 30, 2) := by decide +kernel
theorem dL_step_240 : decode cL_step 240 = .ok (.idiv, 1) := by decide +kernel
theorem dL_step_241 : decode cL_step 241 = .ok (.sipush 601, 3) := by decide +kernel
theorem dL_step_244 : decode cL_step 244 = .ok (.irem, 1) := by decide +kernel
theorem dL_step_245 : decode cL_step 245 = .ok (.invokevirtual 26, 3) := by decide +kernel
theorem dL_step_248 : decode cL_step 248 = .ok (.aload_n 1, 1) := by decide +kernel
theorem dL_step_249 : decode cL_step 249 = .ok (.iconst 4, 1) := by decide +kernel
theorem dL_step_250 : decode cL_step 250 = .ok (.iaload, 1) := by decide +kernel
theorem dL_step_251 : decode cL_step 251 = .ok (.iconst 1, 1) := by decide +kernel
theorem dL_step_252 : decode cL_step 252 = .ok (.isub, 1) := by decide +kernel
theorem dL_step_253 : decode cL_step 253 = .ok (.if_icmp .ne 7, 3) := by decide +kernel
theorem dL_step_256 : decode cL_step 256 = .ok (.iconst 1, 1) := by decide +kernel
theorem dL_step_257 : decode cL_step 257 = .ok (.goto 4, 3) := by decide +kernel
theorem dL_step_260 : decode cL_step 260 = .ok (.iconst 0, 1) := by decide +kernel
theorem dL_step_261 : decode cL_step 261 = .ok (.ireturn, 1) := by decide +kernel
theorem dL_step_262 : decode cL_step 262 = .ok (.aload_n 1, 1) := by decide +kernel
theorem dL_step_263 : decode cL_step 263 = .ok (.iconst 4, 1) := by decide +kernel
theorem dL_step_264 : decode cL_step 264 = .ok (.iaload, 1) := by decide +kernel
theorem dL_step_265 : decode cL_step 265 = .ok (.ifCond .eq 35, 3) := by decide +kernel
theorem dL_step_268 : decode cL_step 268 = .ok (.aload_n 0, 1) := by decide +kernel
theorem dL_step_269 : decode cL_step 269 = .ok (.aload_n 1, 1) := by decide +kernel
theorem dL_step_270 : decode cL_step 270 = .ok (.aload_n 2, 1) := by decide +kernel
theorem dL_step_271 : decode cL_step 271 = .ok (.aload_n 3, 1) := by decide +kernel
theorem dL_step_272 : decode cL_step 272 = .ok (.iload 5, 2) := by decide +kernel
theorem dL_step_274 : decode cL_step 274 = .ok (.aload_n 1, 1) := by decide +kernel
theorem dL_step_275 : decode cL_step 275 = .ok (.iconst 4, 1) := by decide +kernel
theorem dL_step_276 : decode cL_step 276 = .ok (.iaload, 1) := by decide +kernel
theorem dL_step_277 : decode cL_step 277 = .ok (.irem, 1) := by decide +kernel
theorem dL_step_278 : decode cL_step 278 = .ok (.iconst 1, 1) := by decide +kernel
theorem dL_step_279 : decode cL_step 279 = .ok (.iload 6, 2) := by decide +kernel
theorem dL_step_281 : decode cL_step 281 = .ok (.bipush 30, 2) := by decide +kernel
theorem dL_step_283 : decode cL_step 283 = .ok (.irem, 1) := by decide +kernel
theorem dL_step_284 : decode cL_step 284 = .ok (.iadd, 1) := by decide +kernel
theorem dL_step_285 : decode cL_step 285 = .ok (.iload 6, 2) := by decide +kernel
theorem dL_step_287 : decode cL_step 287 = .ok (.bipush 30, 2) := by decide +kernel
theorem dL_step_289 : decode cL_step 289 = .ok (.idiv, 1) := by decide +kernel
theorem dL_step_290 : decode cL_step 290 = .ok (.sipush 601, 3) := by decide +kernel
theorem dL_step_293 : decode cL_step 293 = .ok (.irem, 1) := by decide +kernel
theorem dL_step_294 : decode cL_step 294 = .ok (.invokestatic 30, 3) := by decide +kernel
theorem dL_step_297 : decode cL_step 297 = .ok (.ifCond .eq 7, 3) := by decide +kernel
theorem dL_step_300 : decode cL_step 300 = .ok (.iconst 1, 1) := by decide +kernel
theorem dL_step_301 : decode cL_step 301 = .ok (.goto 4, 3) := by decide +kernel
theorem dL_step_304 : decode cL_step 304 = .ok (.iconst 0, 1) := by decide +kernel
theorem dL_step_305 : decode cL_step 305 = .ok (.ireturn, 1) := by decide +kernel
theorem dL_step_306 : decode cL_step 306 = .ok (.aload_n 1, 1) := by decide +kernel
theorem dL_step_307 : decode cL_step 307 = .ok (.iconst 3, 1) := by decide +kernel
theorem dL_step_308 : decode cL_step 308 = .ok (.iaload, 1) := by decide +kernel
theorem dL_step_309 : decode cL_step 309 = .ok (.ifCond .eq 17, 3) := by decide +kernel
theorem dL_step_312 : decode cL_step 312 = .ok (.aload_n 1, 1) := by decide +kernel
theorem dL_step_313 : decode cL_step 313 = .ok (.iconst 4, 1) := by decide +kernel
theorem dL_step_314 : decode cL_step 314 = .ok (.iaload, 1) := by decide +kernel
theorem dL_step_315 : decode cL_step 315 = .ok (.ifCond .eq 11, 3) := by decide +kernel
theorem dL_step_318 : decode cL_step 318 = .ok (.aload_n 1, 1) := by decide +kernel
theorem dL_step_319 : decode cL_step 319 = .ok (.iconst 5, 1) := by decide +kernel
theorem dL_step_320 : decode cL_step 320 = .ok (.iaload, 1) := by decide +kernel
theorem dL_step_321 : decode cL_step 321 = .ok (.bipush 10, 2) := by decide +kernel
theorem dL_step_323 : decode cL_step 323 = .ok (.if_icmp .ne 19, 3) := by decide +kernel
theorem dL_step_326 : decode cL_step 326 = .ok (.aload_n 0, 1) := by decide +kernel
theorem dL_step_327 : decode cL_step 327 = .ok (.invokevirtual 34, 3) := by decide +kernel
theorem dL_step_330 : decode cL_step 330 = .ok (.aload_n 1, 1) := by decide +kernel
theorem dL_step_331 : decode cL_step 331 = .ok (.iconst 5, 1) := by decide +kernel
theorem dL_step_332 : decode cL_step 332 = .ok (.iaload, 1) := by decide +kernel
theorem dL_step_333 : decode cL_step 333 = .ok (.if_icmp .ne 7, 3) := by decide +kernel
theorem dL_step_336 : decode cL_step 336 = .ok (.iconst 1, 1) := by decide +kernel
theorem dL_step_337 : decode cL_step 337 = .ok (.goto 4, 3) := by decide +kernel
theorem dL_step_340 : decode cL_step 340 = .ok (.iconst 0, 1) := by decide +kernel
theorem dL_step_341 : decode cL_step 341 = .ok (.ireturn, 1) := by decide +kernel
theorem dL_step_342 : decode cL_step 342 = .ok (.aload_n 3, 1) := by decide +kernel
theorem dL_step_343 : decode cL_step 343 = .ok (.bipush 12, 2) := by decide +kernel
theorem dL_step_345 : decode cL_step 345 = .ok (.aload_n 1, 1) := by decide +kernel
theorem dL_step_346 : decode cL_step 346 = .ok (.iconst 5, 1) := by decide +kernel
theorem dL_step_347 : decode cL_step 347 = .ok (.iaload, 1) := by decide +kernel
theorem dL_step_348 : decode cL_step 348 = .ok (.iadd, 1) := by decide +kernel
theorem dL_step_349 : decode cL_step 349 = .ok (.iload 5, 2) := by decide +kernel
theorem dL_step_351 : decode cL_step 351 = .ok (.aload_n 1, 1) := by decide +kernel
theorem dL_step_352 : decode cL_step 352 = .ok (.iconst 3, 1) := by decide +kernel
theorem dL_step_353 : decode cL_step 353 = .ok (.iaload, 1) := by decide +kernel
theorem dL_step_354 : decode cL_step 354 = .ok (.irem, 1) := by decide +kernel
theorem dL_step_355 : decode cL_step 355 = .ok (.iastore, 1) := by decide +kernel
theorem dL_step_356 : decode cL_step 356 = .ok (.aload_n 3, 1) := by decide +kernel
theorem dL_step_357 : decode cL_step 357 = .ok (.bipush 22, 2) := by decide +kernel
theorem dL_step_359 : decode cL_step 359 = .ok (.aload_n 1, 1) := by decide +kernel
theorem dL_step_360 : decode cL_step 360 = .ok (.iconst 5, 1) := by decide +kernel
theorem dL_step_361 : decode cL_step 361 = .ok (.iaload, 1) := by decide +kernel
theorem dL_step_362 : decode cL_step 362 = .ok (.iadd, 1) := by decide +kernel
theorem dL_step_363 : decode cL_step 363 = .ok (.iload 6, 2) := by decide +kernel
theorem dL_step_365 : decode cL_step 365 = .ok (.aload_n 1, 1) := by decide +kernel
theorem dL_step_366 : decode cL_step 366 = .ok (.iconst 4, 1) := by decide +kernel
theorem dL_step_367 : decode cL_step 367 = .ok (.iaload, 1) := by decide +kernel
theorem dL_step_368 : decode cL_step 368 = .ok (.irem, 1) := by decide +kernel
theorem dL_step_369 : decode cL_step 369 = .ok (.iastore, 1) := by decide +kernel
theorem dL_step_370 : decode cL_step 370 = .ok (.aload_n 1, 1) := by decide +kernel
theorem dL_step_371 : decode cL_step 371 = .ok (.iconst 5, 1) := by decide +kernel
theorem dL_step_372 : decode cL_step 372 = .ok (.dup2, 1) := by decide +kernel
theorem dL_step_373 : decode cL_step 373 = .ok (.iaload, 1) := by decide +kernel
theorem dL_step_374 : decode cL_step 374 = .ok (.iconst 1, 1) := by decide +kernel
theorem dL_step_375 : decode cL_step 375 = .ok (.iadd, 1) := by decide +kernel
theorem dL_step_376 : decode cL_step 376 = .ok (.iastore, 1) := by decide +kernel
theorem dL_step_377 : decode cL_step 377 = .ok (.aload_n 0, 1) := by decide +kernel
theorem dL_step_378 : decode cL_step 378 = .ok (.iload 5, 2) := by decide +kernel
theorem dL_step_380 : decode cL_step 380 = .ok (.aload_n 1, 1) := by decide +kernel
theorem dL_step_381 : decode cL_step 381 = .ok (.iconst 3, 1) := by decide +kernel
theorem dL_step_382 : decode cL_step 382 = .ok (.iaload, 1) := by decide +kernel
theorem dL_step_383 : decode cL_step 383 = .ok (.irem, 1) := by decide +kernel
theorem dL_step_384 : decode cL_step 384 = .ok (.iload 6, 2) := by decide +kernel
theorem dL_step_386 : decode cL_step 386 = .ok (.aload_n 1, 1) := by decide +kernel
theorem dL_step_387 : decode cL_step 387 = .ok (.iconst 4, 1) := by decide +kernel
theorem dL_step_388 : decode cL_step 388 = .ok (.iaload, 1) := by decide +kernel
theorem dL_step_389 : decode cL_step 389 = .ok (.irem, 1) := by decide +kernel
theorem dL_step_390 : decode cL_step 390 = .ok (.invokevirtual 37, 3) := by decide +kernel
theorem dL_step_393 : decode cL_step 393 = .ok (.aload_n 1, 1) := by decide +kernel
theorem dL_step_394 : decode cL_step 394 = .ok (.iconst 5, 1) := by decide +kernel
theorem dL_step_395 : decode cL_step 395 = .ok (.iaload, 1) := by decide +kernel
theorem dL_step_396 : decode cL_step 396 = .ok (.iconst 1, 1) := by decide +kernel
theorem dL_step_397 : decode cL_step 397 = .ok (.isub, 1) := by decide +kernel
theorem dL_step_398 : decode cL_step 398 = .ok (.if_icmp .ne 7, 3) := by decide +kernel
theorem dL_step_401 : decode cL_step 401 = .ok (.iconst 1, 1) := by decide +kernel
theorem dL_step_402 : decode cL_step 402 = .ok (.goto 4, 3) := by decide +kernel
theorem dL_step_405 : decode cL_step 405 = .ok (.iconst 0, 1) := by decide +kernel
theorem dL_step_406 : decode cL_step 406 = .ok (.ireturn, 1) := by decide +kernel
theorem dL_step_407 : decode cL_step 407 = .ok (.aload_n 1, 1) := by decide +kernel
theorem dL_step_408 : decode cL_step 408 = .ok (.iconst 5, 1) := by decide +kernel
theorem dL_step_409 : decode cL_step 409 = .ok (.iaload, 1) := by decide +kernel
theorem dL_step_410 : decode cL_step 410 = .ok (.ifCond .ne 7, 3) := by decide +kernel
theorem dL_step_413 : decode cL_step 413 = .ok (.iconst 0, 1) := by decide +kernel
theorem dL_step_414 : decode cL_step 414 = .ok (.goto 9, 3) := by decide +kernel
theorem dL_step_417 : decode cL_step 417 = .ok (.iload 5, 2) := by decide +kernel
theorem dL_step_419 : decode cL_step 419 = .ok (.aload_n 1, 1) := by decide +kernel
theorem dL_step_420 : decode cL_step 420 = .ok (.iconst 5, 1) := by decide +kernel
theorem dL_step_421 : decode cL_step 421 = .ok (.iaload, 1) := by decide +kernel
theorem dL_step_422 : decode cL_step 422 = .ok (.irem, 1) := by decide +kernel
theorem dL_step_423 : decode cL_step 423 = .ok (.istore 7, 2) := by decide +kernel
theorem dL_step_425 : decode cL_step 425 = .ok (.aload_n 3, 1) := by decide +kernel
theorem dL_step_426 : decode cL_step 426 = .ok (.bipush 32, 2) := by decide +kernel
theorem dL_step_428 : decode cL_step 428 = .ok (.iload 7, 2) := by decide +kernel
theorem dL_step_430 : decode cL_step 430 = .ok (.iadd, 1) := by decide +kernel
theorem dL_step_431 : decode cL_step 431 = .ok (.iaload, 1) := by decide +kernel
theorem dL_step_432 : decode cL_step 432 = .ok (.iconst 1, 1) := by decide +kernel
theorem dL_step_433 : decode cL_step 433 = .ok (.if_icmp .ne 7, 3) := by decide +kernel
theorem dL_step_436 : decode cL_step 436 = .ok (.iconst 1, 1) := by decide +kernel
theorem dL_step_437 : decode cL_step 437 = .ok (.goto 4, 3) := by decide +kernel
theorem dL_step_440 : decode cL_step 440 = .ok (.iconst 0, 1) := by decide +kernel
theorem dL_step_441 : decode cL_step 441 = .ok (.istore 8, 2) := by decide +kernel
theorem dL_step_443 : decode cL_step 443 = .ok (.aload_n 3, 1) := by decide +kernel
theorem dL_step_444 : decode cL_step 444 = .ok (.bipush 32, 2) := by decide +kernel
theorem dL_step_446 : decode cL_step 446 = .ok (.iload 7, 2) := by decide +kernel
theorem dL_step_448 : decode cL_step 448 = .ok (.iadd, 1) := by decide +kernel
theorem dL_step_449 : decode cL_step 449 = .ok (.aload_n 1, 1) := by decide +kernel
theorem dL_step_450 : decode cL_step 450 = .ok (.iconst 5, 1) := by decide +kernel
theorem dL_step_451 : decode cL_step 451 = .ok (.iaload, 1) := by decide +kernel
theorem dL_step_452 : decode cL_step 452 = .ok (.ifCond .ne 7, 3) := by decide +kernel
theorem dL_step_455 : decode cL_step 455 = .ok (.iconst 0, 1) := by decide +kernel
theorem dL_step_456 : decode cL_step 456 = .ok (.goto 7, 3) := by decide +kernel
theorem dL_step_459 : decode cL_step 459 = .ok (.iload 6, 2) := by decide +kernel
theorem dL_step_461 : decode cL_step 461 = .ok (.iconst 2, 1) := by decide +kernel
theorem dL_step_462 : decode cL_step 462 = .ok (.irem, 1) := by decide +kernel
theorem dL_step_463 : decode cL_step 463 = .ok (.iastore, 1) := by decide +kernel
theorem dL_step_464 : decode cL_step 464 = .ok (.aload_n 1, 1) := by decide +kernel
theorem dL_step_465 : decode cL_step 465 = .ok (.iconst 5, 1) := by decide +kernel
theorem dL_step_466 : decode cL_step 466 = .ok (.iaload, 1) := by decide +kernel
theorem dL_step_467 : decode cL_step 467 = .ok (.ifCond .eq 27, 3) := by decide +kernel
theorem dL_step_470 : decode cL_step 470 = .ok (.aload_n 0, 1) := by decide +kernel
theorem dL_step_471 : decode cL_step 471 = .ok (.iload 7, 2) := by decide +kernel
theorem dL_step_473 : decode cL_step 473 = .ok (.iload 6, 2) := by decide +kernel
theorem dL_step_475 : decode cL_step 475 = .ok (.iconst 2, 1) := by decide +kernel
theorem dL_step_476 : decode cL_step 476 = .ok (.irem, 1) := by decide +kernel
theorem dL_step_477 : decode cL_step 477 = .ok (.iconst 1, 1) := by decide +kernel
theorem dL_step_478 : decode cL_step 478 = .ok (.if_icmp .ne 7, 3) := by decide +kernel
theorem dL_step_481 : decode cL_step 481 = .ok (.iconst 1, 1) := by decide +kernel
theorem dL_step_482 : decode cL_step 482 = .ok (.goto 4, 3) := by decide +kernel
theorem dL_step_485 : decode cL_step 485 = .ok (.iconst 0, 1) := by decide +kernel
theorem dL_step_486 : decode cL_step 486 = .ok (.invokevirtual 41, 3) := by decide +kernel
theorem dL_step_489 : decode cL_step 489 = .ok (.iload 8, 2) := by decide +kernel
theorem dL_step_491 : decode cL_step 491 = .ok (.if_icmp .ne 7, 3) := by decide +kernel
theorem dL_step_494 : decode cL_step 494 = .ok (.iconst 1, 1) := by decide +kernel
theorem dL_step_495 : decode cL_step 495 = .ok (.goto 4, 3) := by decide +kernel
theorem dL_step_498 : decode cL_step 498 = .ok (.iconst 0, 1) := by decide +kernel
theorem dL_step_499 : decode cL_step 499 = .ok (.ireturn, 1) := by decide +kernel
theorem dL_step_500 : decode cL_step 500 = .ok (.aload_n 1, 1) := by decide +kernel
theorem dL_step_501 : decode cL_step 501 = .ok (.bipush 6, 2) := by decide +kernel
theorem dL_step_503 : decode cL_step 503 = .ok (.iconst 1, 1) := by decide +kernel
theorem dL_step_504 : decode cL_step 504 = .ok (.iload 5, 2) := by decide +kernel
theorem dL_step_506 : decode cL_step 506 = .ok (.bipush 40, 2) := by decide +kernel
theorem dL_step_508 : decode cL_step 508 = .ok (.irem, 1) := by decide +kernel
theorem dL_step_509 : decode cL_step 509 = .ok (.iadd, 1) := by decide +kernel
theorem dL_step_510 : decode cL_step 510 = .ok (.iastore, 1) := by decide +kernel
theorem dL_step_511 : decode cL_step 511 = .ok (.aload_n 1, 1) := by decide +kernel
theorem dL_step_512 : decode cL_step 512 = .ok (.bipush 7, 2) := by decide +kernel
theorem dL_step_514 : decode cL_step 514 = .ok (.iconst 1, 1) := by decide +kernel
theorem dL_step_515 : decode cL_step 515 = .ok (.iload 6, 2) := by decide +kernel
theorem dL_step_517 : decode cL_step 517 = .ok (.bipush 40, 2) := by decide +kernel
theorem dL_step_519 : decode cL_step 519 = .ok (.irem, 1) := by decide +kernel
theorem dL_step_520 : decode cL_step 520 = .ok (.iadd, 1) := by decide +kernel
theorem dL_step_521 : decode cL_step 521 = .ok (.iastore, 1) := by decide +kernel
theorem dL_step_522 : decode cL_step 522 = .ok (.iconst 0, 1) := by decide +kernel
theorem dL_step_523 : decode cL_step 523 = .ok (.istore 9, 2) := by decide +kernel
theorem dL_step_525 : decode cL_step 525 = .ok (.aload_n 0, 1) := by decide +kernel
theorem dL_step_526 : decode cL_step 526 = .ok (.aload_n 1, 1) := by decide +kernel
theorem dL_step_527 : decode cL_step 527 = .ok (.bipush 6, 2) := by decide +kernel
theorem dL_step_529 : decode cL_step 529 = .ok (.iaload, 1) := by decide +kernel
theorem dL_step_530 : decode cL_step 530 = .ok (.aload_n 1, 1) := by decide +kernel
theorem dL_step_531 : decode cL_step 531 = .ok (.bipush 7, 2) := by decide +kernel
theorem dL_step_533 : decode cL_step 533 = .ok (.iaload, 1) := by decide +kernel
theorem dL_step_534 : decode cL_step 534 = .ok (.invokevirtual 45, 3) := by decide +kernel
theorem dL_step_537 : decode cL_step 537 = .ok (.istore 10, 2) := by decide +kernel
theorem dL_step_539 : decode cL_step 539 = .ok (.iconst 0, 1) := by decide +kernel
theorem dL_step_540 : decode cL_step 540 = .ok (.istore 11, 2) := by decide +kernel
theorem dL_step_542 : decode cL_step 542 = .ok (.iload 11, 2) := by decide +kernel
theorem dL_step_544 : decode cL_step 544 = .ok (.aload_n 1, 1) := by decide +kernel
theorem dL_step_545 : decode cL_step 545 = .ok (.iconst 5, 1) := by decide +kernel
theorem dL_step_546 : decode cL_step 546 = .ok (.iaload, 1) := by decide +kernel
theorem dL_step_547 : decode cL_step 547 = .ok (.if_icmp .ge 29, 3) := by decide +kernel
theorem dL_step_550 : decode cL_step 550 = .ok (.iload 9, 2) := by decide +kernel
theorem dL_step_552 : decode cL_step 552 = .ok (.aload_n 0, 1) := by decide +kernel
theorem dL_step_553 : decode cL_step 553 = .ok (.iload 11, 2) := by decide +kernel
theorem dL_step_555 : decode cL_step 555 = .ok (.invokevirtual 48, 3) := by decide +kernel
theorem dL_step_558 : decode cL_step 558 = .ok (.iconst (-1), 1) := by decide +kernel
theorem dL_step_559 : decode cL_step 559 = .ok (.if_icmp .ne 7, 3) := by decide +kernel
theorem dL_step_562 : decode cL_step 562 = .ok (.iconst 0, 1) := by decide +kernel
theorem dL_step_563 : decode cL_step 563 = .ok (.goto 4, 3) := by decide +kernel
theorem dL_step_566 : decode cL_step 566 = .ok (.iconst 1, 1) := by decide +kernel
theorem dL_step_567 : decode cL_step 567 = .ok (.iadd, 1) := by decide +kernel
theorem dL_step_568 : decode cL_step 568 = .ok (.istore 9, 2) := by decide +kernel
theorem dL_step_570 : decode cL_step 570 = .ok (.iinc 11 1, 3) := by decide +kernel
theorem dL_step_573 : decode cL_step 573 = .ok (.goto (-31), 3) := by decide +kernel
theorem dL_step_576 : decode cL_step 576 = .ok (.iload 10, 2) := by decide +kernel
theorem dL_step_578 : decode cL_step 578 = .ok (.iload 9, 2) := by decide +kernel
theorem dL_step_580 : decode cL_step 580 = .ok (.if_icmp .ne 7, 3) := by decide +kernel
theorem dL_step_583 : decode cL_step 583 = .ok (.iconst 1, 1) := by decide +kernel
theorem dL_step_584 : decode cL_step 584 = .ok (.goto 4, 3) := by decide +kernel
theorem dL_step_587 : decode cL_step 587 = .ok (.iconst 0, 1) := by decide +kernel
theorem dL_step_588 : decode cL_step 588 = .ok (.ireturn, 1) := by decide +kernel
theorem dL_step_589 : decode cL_step 589 = .ok (.iload 6, 2) := by decide +kernel
theorem dL_step_591 : decode cL_step 591 = .ok (.iconst 3, 1) := by decide +kernel
theorem dL_step_592 : decode cL_step 592 = .ok (.irem, 1) := by decide +kernel
theorem dL_step_593 : decode cL_step 593 = .ok (.ifCond .le 27, 3) := by decide +kernel
theorem dL_step_596 : decode cL_step 596 = .ok (.aload_n 1, 1) := by decide +kernel
theorem dL_step_597 : decode cL_step 597 = .ok (.iconst 0, 1) := by decide +kernel
theorem dL_step_598 : decode cL_step 598 = .ok (.iaload, 1) := by decide +kernel
theorem dL_step_599 : decode cL_step 599 = .ok (.bipush 25, 2) := by decide +kernel
theorem dL_step_601 : decode cL_step 601 = .ok (.if_icmp .ge 19, 3) := by decide +kernel
theorem dL_step_604 : decode cL_step 604 = .ok (.aload_n 0, 1) := by decide +kernel
theorem dL_step_605 : decode cL_step 605 = .ok (.invokevirtual 52, 3) := by decide +kernel
theorem dL_step_608 : decode cL_step 608 = .ok (.aload_n 1, 1) := by decide +kernel
theorem dL_step_609 : decode cL_step 609 = .ok (.iconst 0, 1) := by decide +kernel
theorem dL_step_610 : decode cL_step 610 = .ok (.iaload, 1) := by decide +kernel
theorem dL_step_611 : decode cL_step 611 = .ok (.if_icmp .ne 7, 3) := by decide +kernel
theorem dL_step_614 : decode cL_step 614 = .ok (.iconst 1, 1) := by decide +kernel
theorem dL_step_615 : decode cL_step 615 = .ok (.goto 4, 3) := by decide +kernel
theorem dL_step_618 : decode cL_step 618 = .ok (.iconst 0, 1) := by decide +kernel
theorem dL_step_619 : decode cL_step 619 = .ok (.ireturn, 1) := by decide +kernel
theorem dL_step_620 : decode cL_step 620 = .ok (.aload_n 1, 1) := by decide +kernel
theorem dL_step_621 : decode cL_step 621 = .ok (.iconst 0, 1) := by decide +kernel
theorem dL_step_622 : decode cL_step 622 = .ok (.iaload, 1) := by decide +kernel
theorem dL_step_623 : decode cL_step 623 = .ok (.istore 11, 2) := by decide +kernel
theorem dL_step_625 : decode cL_step 625 = .ok (.aload_n 1, 1) := by decide +kernel
theorem dL_step_626 : decode cL_step 626 = .ok (.iconst 0, 1) := by decide +kernel
theorem dL_step_627 : decode cL_step 627 = .ok (.iconst 0, 1) := by decide +kernel
theorem dL_step_628 : decode cL_step 628 = .ok (.iastore, 1) := by decide +kernel
theorem dL_step_629 : decode cL_step 629 = .ok (.aload_n 1, 1) := by decide +kernel
theorem dL_step_630 : decode cL_step 630 = .ok (.iconst 1, 1) := by decide +kernel
theorem dL_step_631 : decode cL_step 631 = .ok (.iconst 0, 1) := by decide +kernel
theorem dL_step_632 : decode cL_step 632 = .ok (.iastore, 1) := by decide +kernel
theorem dL_step_633 : decode cL_step 633 = .ok (.aload_n 1, 1) := by decide +kernel
theorem dL_step_634 : decode cL_step 634 = .ok (.iconst 2, 1) := by decide +kernel
theorem dL_step_635 : decode cL_step 635 = .ok (.iconst 0, 1) := by decide +kernel
theorem dL_step_636 : decode cL_step 636 = .ok (.iastore, 1) := by decide +kernel
theorem dL_step_637 : decode cL_step 637 = .ok (.aload_n 0, 1) := by decide +kernel
theorem dL_step_638 : decode cL_step 638 = .ok (.invokevirtual 55, 3) := by decide +kernel
theorem dL_step_641 : decode cL_step 641 = .ok (.iload 11, 2) := by decide +kernel
theorem dL_step_643 : decode cL_step 643 = .ok (.if_icmp .ne 14, 3) := by decide +kernel
theorem dL_step_646 : decode cL_step 646 = .ok (.aload_n 0, 1) := by decide +kernel
theorem dL_step_647 : decode cL_step 647 = .ok (.invokevirtual 52, 3) := by decide +kernel
theorem dL_step_650 : decode cL_step 650 = .ok (.ifCond .ne 7, 3) := by decide +kernel
theorem dL_step_653 : decode cL_step 653 = .ok (.iconst 1, 1) := by decide +kernel
theorem dL_step_654 : decode cL_step 654 = .ok (.goto 4, 3) := by decide +kernel
theorem dL_step_657 : decode cL_step 657 = .ok (.iconst 0, 1) := by decide +kernel
theorem dL_step_658 : decode cL_step 658 = .ok (.ireturn, 1) := by decide +kernel
theorem dL_drafts_0 : decode cL_drafts 0 = .ok (.iload 4, 2) := by decide +kernel
theorem dL_drafts_2 : decode cL_drafts 2 = .ok (.iconst 4, 1) := by decide +kernel
theorem dL_drafts_3 : decode cL_drafts 3 = .ok (.irem, 1) := by decide +kernel
theorem dL_drafts_4 : decode cL_drafts 4 = .ok (.ifCond .ne 7, 3) := by decide +kernel
theorem dL_drafts_7 : decode cL_drafts 7 = .ok (.iconst 1, 1) := by decide +kernel
theorem dL_drafts_8 : decode cL_drafts 8 = .ok (.goto 4, 3) := by decide +kernel
theorem dL_drafts_11 : decode cL_drafts 11 = .ok (.iconst 0, 1) := by decide +kernel
theorem dL_drafts_12 : decode cL_drafts 12 = .ok (.istore 5, 2) := by decide +kernel
theorem dL_drafts_14 : decode cL_drafts 14 = .ok (.iload 5, 2) := by decide +kernel
theorem dL_drafts_16 : decode cL_drafts 16 = .ok (.ifCond .eq 12, 3) := by decide +kernel
theorem dL_drafts_19 : decode cL_drafts 19 = .ok (.iload 4, 2) := by decide +kernel
theorem dL_drafts_21 : decode cL_drafts 21 = .ok (.iconst 4, 1) := by decide +kernel
theorem dL_drafts_22 : decode cL_drafts 22 = .ok (.idiv, 1) := by decide +kernel
theorem dL_drafts_23 : decode cL_drafts 23 = .ok (.iconst 4, 1) := by decide +kernel
theorem dL_drafts_24 : decode cL_drafts 24 = .ok (.irem, 1) := by decide +kernel
theorem dL_drafts_25 : decode cL_drafts 25 = .ok (.goto 18, 3) := by decide +kernel
theorem dL_drafts_28 : decode cL_drafts 28 = .ok (.iload 4, 2) := by decide +kernel
theorem dL_drafts_30 : decode cL_drafts 30 = .ok (.iconst 4, 1) := by decide +kernel
theorem dL_drafts_31 : decode cL_drafts 31 = .ok (.idiv, 1) := by decide +kernel
theorem dL_drafts_32 : decode cL_drafts 32 = .ok (.iload_n 2, 1) := by decide +kernel
theorem dL_drafts_33 : decode cL_drafts 33 = .ok (.ifCond .ne 8, 3) := by decide +kernel
theorem dL_drafts_36 : decode cL_drafts 36 = .ok (.bipush 9, 2) := by decide +kernel
theorem dL_drafts_38 : decode cL_drafts 38 = .ok (.goto 4, 3) := by decide +kernel
theorem dL_drafts_41 : decode cL_drafts 41 = .ok (.iconst 5, 1) := by decide +kernel
theorem dL_drafts_42 : decode cL_drafts 42 = .ok (.irem, 1) := by decide +kernel
theorem dL_drafts_43 : decode cL_drafts 43 = .ok (.istore 6, 2) := by decide +kernel
theorem dL_drafts_45 : decode cL_drafts 45 = .ok (.aload_n 1, 1) := by decide +kernel
theorem dL_drafts_46 : decode cL_drafts 46 = .ok (.iconst 0, 1) := by decide +kernel
theorem dL_drafts_47 : decode cL_drafts 47 = .ok (.dup2, 1) := by decide +kernel
theorem dL_drafts_48 : decode cL_drafts 48 = .ok (.iaload, 1) := by decide +kernel
theorem dL_drafts_49 : decode cL_drafts 49 = .ok (.iconst 1, 1) := by decide +kernel
theorem dL_drafts_50 : decode cL_drafts 50 = .ok (.iadd, 1) := by decide +kernel
theorem dL_drafts_51 : decode cL_drafts 51 = .ok (.iastore, 1) := by decide +kernel
theorem dL_drafts_52 : decode cL_drafts 52 = .ok (.iload_n 2, 1) := by decide +kernel
theorem dL_drafts_53 : decode cL_drafts 53 = .ok (.tableswitch 201 0 5 #[39, 39, 59, 79, 139, 174], 39) := by decide +kernel
theorem dL_drafts_92 : decode cL_drafts 92 = .ok (.aload_n 0, 1) := by decide +kernel
theorem dL_drafts_93 : decode cL_drafts 93 = .ok (.iload 6, 2) := by decide +kernel
theorem dL_drafts_95 : decode cL_drafts 95 = .ok (.iload 5, 2) := by decide +kernel
theorem dL_drafts_97 : decode cL_drafts 97 = .ok (.invokevirtual 58, 3) := by decide +kernel
theorem dL_drafts_100 : decode cL_drafts 100 = .ok (.aload_n 1, 1) := by decide +kernel
theorem dL_drafts_101 : decode cL_drafts 101 = .ok (.iconst 0, 1) := by decide +kernel
theorem dL_drafts_102 : decode cL_drafts 102 = .ok (.iaload, 1) := by decide +kernel
theorem dL_drafts_103 : decode cL_drafts 103 = .ok (.if_icmp .ne 7, 3) := by decide +kernel
theorem dL_drafts_106 : decode cL_drafts 106 = .ok (.iconst 1, 1) := by decide +kernel
theorem dL_drafts_107 : decode cL_drafts 107 = .ok (.goto 4, 3) := by decide +kernel
theorem dL_drafts_110 : decode cL_drafts 110 = .ok (.iconst 0, 1) := by decide +kernel
theorem dL_drafts_111 : decode cL_drafts 111 = .ok (.ireturn, 1) := by decide +kernel
theorem dL_drafts_112 : decode cL_drafts 112 = .ok (.aload_n 0, 1) := by decide +kernel
theorem dL_drafts_113 : decode cL_drafts 113 = .ok (.iload 6, 2) := by decide +kernel
theorem dL_drafts_115 : decode cL_drafts 115 = .ok (.iload 5, 2) := by decide +kernel
theorem dL_drafts_117 : decode cL_drafts 117 = .ok (.invokevirtual 62, 3) := by decide +kernel
theorem dL_drafts_120 : decode cL_drafts 120 = .ok (.aload_n 1, 1) := by decide +kernel
theorem dL_drafts_121 : decode cL_drafts 121 = .ok (.iconst 0, 1) := by decide +kernel
theorem dL_drafts_122 : decode cL_drafts 122 = .ok (.iaload, 1) := by decide +kernel
theorem dL_drafts_123 : decode cL_drafts 123 = .ok (.if_icmp .ne 7, 3) := by decide +kernel
theorem dL_drafts_126 : decode cL_drafts 126 = .ok (.iconst 1, 1) := by decide +kernel
theorem dL_drafts_127 : decode cL_drafts 127 = .ok (.goto 4, 3) := by decide +kernel
theorem dL_drafts_130 : decode cL_drafts 130 = .ok (.iconst 0, 1) := by decide +kernel
theorem dL_drafts_131 : decode cL_drafts 131 = .ok (.ireturn, 1) := by decide +kernel
theorem dL_drafts_132 : decode cL_drafts 132 = .ok (.iload 4, 2) := by decide +kernel
theorem dL_drafts_134 : decode cL_drafts 134 = .ok (.iconst 3, 1) := by decide +kernel
theorem dL_drafts_135 : decode cL_drafts 135 = .ok (.irem, 1) := by decide +kernel
theorem dL_drafts_136 : decode cL_drafts 136 = .ok (.ifCond .ne 21, 3) := by decide +kernel
theorem dL_drafts_139 : decode cL_drafts 139 = .ok (.aload_n 0, 1) := by decide +kernel
theorem dL_drafts_140 : decode cL_drafts 140 = .ok (.iload_n 3, 1) := by decide +kernel
theorem dL_drafts_141 : decode cL_drafts 141 = .ok (.iconst 2, 1) := by decide +kernel
theorem dL_drafts_142 : decode cL_drafts 142 = .ok (.irem, 1) := by decide +kernel
theorem dL_drafts_143 : decode cL_drafts 143 = .ok (.ifCond .ne 7, 3) := by decide +kernel
theorem dL_drafts_146 : decode cL_drafts 146 = .ok (.iconst 1, 1) := by decide +kernel
theorem dL_drafts_147 : decode cL_drafts 147 = .ok (.goto 4, 3) := by decide +kernel
theorem dL_drafts_150 : decode cL_drafts 150 = .ok (.iconst 0, 1) := by decide +kernel
theorem dL_drafts_151 : decode cL_drafts 151 = .ok (.invokevirtual 65, 3) := by decide +kernel
theorem dL_drafts_154 : decode cL_drafts 154 = .ok (.goto 26, 3) := by decide +kernel
theorem dL_drafts_157 : decode cL_drafts 157 = .ok (.aload_n 0, 1) := by decide +kernel
theorem dL_drafts_158 : decode cL_drafts 158 = .ok (.iload_n 3, 1) := by decide +kernel
theorem dL_drafts_159 : decode cL_drafts 159 = .ok (.iconst 4, 1) := by decide +kernel
theorem dL_drafts_160 : decode cL_drafts 160 = .ok (.irem, 1) := by decide +kernel
theorem dL_drafts_161 : decode cL_drafts 161 = .ok (.iload 5, 2) := by decide +kernel
theorem dL_drafts_163 : decode cL_drafts 163 = .ok (.ifCond .eq 8, 3) := by decide +kernel
theorem dL_drafts_166 : decode cL_drafts 166 = .ok (.iload 6, 2) := by decide +kernel
theorem dL_drafts_168 : decode cL_drafts 168 = .ok (.goto 7, 3) := by decide +kernel
theorem dL_drafts_171 : decode cL_drafts 171 = .ok (.iload 6, 2) := by decide +kernel
theorem dL_drafts_173 : decode cL_drafts 173 = .ok (.iconst 2, 1) := by decide +kernel
theorem dL_drafts_174 : decode cL_drafts 174 = .ok (.isub, 1) := by decide +kernel
theorem dL_drafts_175 : decode cL_drafts 175 = .ok (.iload 5, 2) := by decide +kernel
theorem dL_drafts_177 : decode cL_drafts 177 = .ok (.invokevirtual 69, 3) := by decide +kernel
theorem dL_drafts_180 : decode cL_drafts 180 = .ok (.aload_n 1, 1) := by decide +kernel
theorem dL_drafts_181 : decode cL_drafts 181 = .ok (.iconst 0, 1) := by decide +kernel
theorem dL_drafts_182 : decode cL_drafts 182 = .ok (.iaload, 1) := by decide +kernel
theorem dL_drafts_183 : decode cL_drafts 183 = .ok (.if_icmp .ne 7, 3) := by decide +kernel
theorem dL_drafts_186 : decode cL_drafts 186 = .ok (.iconst 1, 1) := by decide +kernel
theorem dL_drafts_187 : decode cL_drafts 187 = .ok (.goto 4, 3) := by decide +kernel
theorem dL_drafts_190 : decode cL_drafts 190 = .ok (.iconst 0, 1) := by decide +kernel
theorem dL_drafts_191 : decode cL_drafts 191 = .ok (.ireturn, 1) := by decide +kernel
theorem dL_drafts_192 : decode cL_drafts 192 = .ok (.aload_n 0, 1) := by decide +kernel
theorem dL_drafts_193 : decode cL_drafts 193 = .ok (.iload_n 3, 1) := by decide +kernel
theorem dL_drafts_194 : decode cL_drafts 194 = .ok (.iconst 4, 1) := by decide +kernel
theorem dL_drafts_195 : decode cL_drafts 195 = .ok (.irem, 1) := by decide +kernel
theorem dL_drafts_196 : decode cL_drafts 196 = .ok (.iload 5, 2) := by decide +kernel
theorem dL_drafts_198 : decode cL_drafts 198 = .ok (.ifCond .eq 8, 3) := by decide +kernel
theorem dL_drafts_201 : decode cL_drafts 201 = .ok (.iload 6, 2) := by decide +kernel
theorem dL_drafts_203 : decode cL_drafts 203 = .ok (.goto 7, 3) := by decide +kernel
theorem dL_drafts_206 : decode cL_drafts 206 = .ok (.iload 6, 2) := by decide +kernel
theorem dL_drafts_208 : decode cL_drafts 208 = .ok (.iconst 1, 1) := by decide +kernel
theorem dL_drafts_209 : decode cL_drafts 209 = .ok (.isub, 1) := by decide +kernel
theorem dL_drafts_210 : decode cL_drafts 210 = .ok (.iload 5, 2) := by decide +kernel
theorem dL_drafts_212 : decode cL_drafts 212 = .ok (.invokevirtual 73, 3) := by decide +kernel
theorem dL_drafts_215 : decode cL_drafts 215 = .ok (.aload_n 1, 1) := by decide +kernel
theorem dL_drafts_216 : decode cL_drafts 216 = .ok (.iconst 0, 1) := by decide +kernel
theorem dL_drafts_217 : decode cL_drafts 217 = .ok (.iaload, 1) := by decide +kernel
theorem dL_drafts_218 : decode cL_drafts 218 = .ok (.if_icmp .ne 7, 3) := by decide +kernel
theorem dL_drafts_221 : decode cL_drafts 221 = .ok (.iconst 1, 1) := by decide +kernel
theorem dL_drafts_222 : decode cL_drafts 222 = .ok (.goto 4, 3) := by decide +kernel
theorem dL_drafts_225 : decode cL_drafts 225 = .ok (.iconst 0, 1) := by decide +kernel
theorem dL_drafts_226 : decode cL_drafts 226 = .ok (.ireturn, 1) := by decide +kernel
theorem dL_drafts_227 : decode cL_drafts 227 = .ok (.aload_n 1, 1) := by decide +kernel
theorem dL_drafts_228 : decode cL_drafts 228 = .ok (.iconst 1, 1) := by decide +kernel
theorem dL_drafts_229 : decode cL_drafts 229 = .ok (.dup2, 1) := by decide +kernel
theorem dL_drafts_230 : decode cL_drafts 230 = .ok (.iaload, 1) := by decide +kernel
theorem dL_drafts_231 : decode cL_drafts 231 = .ok (.iconst 1, 1) := by decide +kernel
theorem dL_drafts_232 : decode cL_drafts 232 = .ok (.iadd, 1) := by decide +kernel
theorem dL_drafts_233 : decode cL_drafts 233 = .ok (.iastore, 1) := by decide +kernel
theorem dL_drafts_234 : decode cL_drafts 234 = .ok (.aload_n 0, 1) := by decide +kernel
theorem dL_drafts_235 : decode cL_drafts 235 = .ok (.iload 6, 2) := by decide +kernel
theorem dL_drafts_237 : decode cL_drafts 237 = .ok (.iload 5, 2) := by decide +kernel
theorem dL_drafts_239 : decode cL_drafts 239 = .ok (.invokevirtual 76, 3) := by decide +kernel
theorem dL_drafts_242 : decode cL_drafts 242 = .ok (.aload_n 1, 1) := by decide +kernel
theorem dL_drafts_243 : decode cL_drafts 243 = .ok (.iconst 0, 1) := by decide +kernel
theorem dL_drafts_244 : decode cL_drafts 244 = .ok (.iaload, 1) := by decide +kernel
theorem dL_drafts_245 : decode cL_drafts 245 = .ok (.if_icmp .ne 7, 3) := by decide +kernel
theorem dL_drafts_248 : decode cL_drafts 248 = .ok (.iconst 1, 1) := by decide +kernel
theorem dL_drafts_249 : decode cL_drafts 249 = .ok (.goto 4, 3) := by decide +kernel
theorem dL_drafts_252 : decode cL_drafts 252 = .ok (.iconst 0, 1) := by decide +kernel
theorem dL_drafts_253 : decode cL_drafts 253 = .ok (.ireturn, 1) := by decide +kernel
theorem dL_drafts_254 : decode cL_drafts 254 = .ok (.aload_n 0, 1) := by decide +kernel
theorem dL_drafts_255 : decode cL_drafts 255 = .ok (.aload_n 1, 1) := by decide +kernel
theorem dL_drafts_256 : decode cL_drafts 256 = .ok (.iload_n 3, 1) := by decide +kernel
theorem dL_drafts_257 : decode cL_drafts 257 = .ok (.iconst 4, 1) := by decide +kernel
theorem dL_drafts_258 : decode cL_drafts 258 = .ok (.irem, 1) := by decide +kernel
theorem dL_drafts_259 : decode cL_drafts 259 = .ok (.iload 4, 2) := by decide +kernel
theorem dL_drafts_261 : decode cL_drafts 261 = .ok (.invokestatic 79, 3) := by decide +kernel
theorem dL_drafts_264 : decode cL_drafts 264 = .ok (.ireturn, 1) := by decide +kernel
theorem dL_others_0 : decode cL_others 0 = .ok (.aload_n 1, 1) := by decide +kernel
theorem dL_others_1 : decode cL_others 1 = .ok (.iconst 1, 1) := by decide +kernel
theorem dL_others_2 : decode cL_others 2 = .ok (.iaload, 1) := by decide +kernel
theorem dL_others_3 : decode cL_others 3 = .ok (.ifCond .le 32, 3) := by decide +kernel
theorem dL_others_6 : decode cL_others 6 = .ok (.iload_n 3, 1) := by decide +kernel
theorem dL_others_7 : decode cL_others 7 = .ok (.iconst 3, 1) := by decide +kernel
theorem dL_others_8 : decode cL_others 8 = .ok (.irem, 1) := by decide +kernel
theorem dL_others_9 : decode cL_others 9 = .ok (.ifCond .le 26, 3) := by decide +kernel
theorem dL_others_12 : decode cL_others 12 = .ok (.aload_n 1, 1) := by decide +kernel
theorem dL_others_13 : decode cL_others 13 = .ok (.iconst 1, 1) := by decide +kernel
theorem dL_others_14 : decode cL_others 14 = .ok (.dup2, 1) := by decide +kernel
theorem dL_others_15 : decode cL_others 15 = .ok (.iaload, 1) := by decide +kernel
theorem dL_others_16 : decode cL_others 16 = .ok (.iconst 1, 1) := by decide +kernel
theorem dL_others_17 : decode cL_others 17 = .ok (.isub, 1) := by decide +kernel
theorem dL_others_18 : decode cL_others 18 = .ok (.iastore, 1) := by decide +kernel
theorem dL_others_19 : decode cL_others 19 = .ok (.aload_n 0, 1) := by decide +kernel
theorem dL_others_20 : decode cL_others 20 = .ok (.invokevirtual 83, 3) := by decide +kernel
theorem dL_others_23 : decode cL_others 23 = .ok (.aload_n 1, 1) := by decide +kernel
theorem dL_others_24 : decode cL_others 24 = .ok (.iconst 1, 1) := by decide +kernel
theorem dL_others_25 : decode cL_others 25 = .ok (.iaload, 1) := by decide +kernel
theorem dL_others_26 : decode cL_others 26 = .ok (.if_icmp .ne 7, 3) := by decide +kernel
theorem dL_others_29 : decode cL_others 29 = .ok (.iconst 1, 1) := by decide +kernel
theorem dL_others_30 : decode cL_others 30 = .ok (.goto 4, 3) := by decide +kernel
theorem dL_others_33 : decode cL_others 33 = .ok (.iconst 0, 1) := by decide +kernel
theorem dL_others_34 : decode cL_others 34 = .ok (.ireturn, 1) := by decide +kernel
theorem dL_others_35 : decode cL_others 35 = .ok (.aload_n 1, 1) := by decide +kernel
theorem dL_others_36 : decode cL_others 36 = .ok (.iconst 1, 1) := by decide +kernel
theorem dL_others_37 : decode cL_others 37 = .ok (.iaload, 1) := by decide +kernel
theorem dL_others_38 : decode cL_others 38 = .ok (.ifCond .ne 52, 3) := by decide +kernel
theorem dL_others_41 : decode cL_others 41 = .ok (.aload_n 1, 1) := by decide +kernel
theorem dL_others_42 : decode cL_others 42 = .ok (.iconst 2, 1) := by decide +kernel
theorem dL_others_43 : decode cL_others 43 = .ok (.iaload, 1) := by decide +kernel
theorem dL_others_44 : decode cL_others 44 = .ok (.iload_n 2, 1) := by decide +kernel
theorem dL_others_45 : decode cL_others 45 = .ok (.ishr, 1) := by decide +kernel
theorem dL_others_46 : decode cL_others 46 = .ok (.iconst 1, 1) := by decide +kernel
theorem dL_others_47 : decode cL_others 47 = .ok (.iand, 1) := by decide +kernel
theorem dL_others_48 : decode cL_others 48 = .ok (.ifCond .ne 42, 3) := by decide +kernel
theorem dL_others_51 : decode cL_others 51 = .ok (.iload_n 3, 1) := by decide +kernel
theorem dL_others_52 : decode cL_others 52 = .ok (.iconst 2, 1) := by decide +kernel
theorem dL_others_53 : decode cL_others 53 = .ok (.irem, 1) := by decide +kernel
theorem dL_others_54 : decode cL_others 54 = .ok (.ifCond .ne 36, 3) := by decide +kernel
theorem dL_others_57 : decode cL_others 57 = .ok (.aload_n 1, 1) := by decide +kernel
theorem dL_others_58 : decode cL_others 58 = .ok (.iconst 1, 1) := by decide +kernel
theorem dL_others_59 : decode cL_others 59 = .ok (.dup2, 1) := by decide +kernel
theorem dL_others_60 : decode cL_others 60 = .ok (.iaload, 1) := by decide +kernel
theorem dL_others_61 : decode cL_others 61 = .ok (.iconst 1, 1) := by decide +kernel
theorem dL_others_62 : decode cL_others 62 = .ok (.iadd, 1) := by decide +kernel
theorem dL_others_63 : decode cL_others 63 = .ok (.iastore, 1) := by decide +kernel
theorem dL_others_64 : decode cL_others 64 = .ok (.aload_n 1, 1) := by decide +kernel
theorem dL_others_65 : decode cL_others 65 = .ok (.iconst 2, 1) := by decide +kernel
theorem dL_others_66 : decode cL_others 66 = .ok (.dup2, 1) := by decide +kernel
theorem dL_others_67 : decode cL_others 67 = .ok (.iaload, 1) := by decide +kernel
theorem dL_others_68 : decode cL_others 68 = .ok (.iconst 1, 1) := by decide +kernel
theorem dL_others_69 : decode cL_others 69 = .ok (.iload_n 2, 1) := by decide +kernel
theorem dL_others_70 : decode cL_others 70 = .ok (.ishl, 1) := by decide +kernel
theorem dL_others_71 : decode cL_others 71 = .ok (.ior, 1) := by decide +kernel
theorem dL_others_72 : decode cL_others 72 = .ok (.iastore, 1) := by decide +kernel
theorem dL_others_73 : decode cL_others 73 = .ok (.aload_n 0, 1) := by decide +kernel
theorem dL_others_74 : decode cL_others 74 = .ok (.iload_n 2, 1) := by decide +kernel
theorem dL_others_75 : decode cL_others 75 = .ok (.invokevirtual 86, 3) := by decide +kernel
theorem dL_others_78 : decode cL_others 78 = .ok (.aload_n 1, 1) := by decide +kernel
theorem dL_others_79 : decode cL_others 79 = .ok (.iconst 0, 1) := by decide +kernel
theorem dL_others_80 : decode cL_others 80 = .ok (.iaload, 1) := by decide +kernel
theorem dL_others_81 : decode cL_others 81 = .ok (.if_icmp .ne 7, 3) := by decide +kernel
theorem dL_others_84 : decode cL_others 84 = .ok (.iconst 1, 1) := by decide +kernel
theorem dL_others_85 : decode cL_others 85 = .ok (.goto 4, 3) := by decide +kernel
theorem dL_others_88 : decode cL_others 88 = .ok (.iconst 0, 1) := by decide +kernel
theorem dL_others_89 : decode cL_others 89 = .ok (.ireturn, 1) := by decide +kernel
theorem dL_others_90 : decode cL_others 90 = .ok (.aload_n 0, 1) := by decide +kernel
theorem dL_others_91 : decode cL_others 91 = .ok (.iload_n 2, 1) := by decide +kernel
theorem dL_others_92 : decode cL_others 92 = .ok (.invokevirtual 89, 3) := by decide +kernel
theorem dL_others_95 : decode cL_others 95 = .ok (.aload_n 1, 1) := by decide +kernel
theorem dL_others_96 : decode cL_others 96 = .ok (.iconst 0, 1) := by decide +kernel
theorem dL_others_97 : decode cL_others 97 = .ok (.iaload, 1) := by decide +kernel
theorem dL_others_98 : decode cL_others 98 = .ok (.if_icmp .ne 7, 3) := by decide +kernel
theorem dL_others_101 : decode cL_others 101 = .ok (.iconst 1, 1) := by decide +kernel
theorem dL_others_102 : decode cL_others 102 = .ok (.goto 4, 3) := by decide +kernel
theorem dL_others_105 : decode cL_others 105 = .ok (.iconst 0, 1) := by decide +kernel
theorem dL_others_106 : decode cL_others 106 = .ok (.ireturn, 1) := by decide +kernel
theorem dL_writes_0 : decode cL_writes 0 = .ok (.iconst 1, 1) := by decide +kernel
theorem dL_writes_1 : decode cL_writes 1 = .ok (.istore 4, 2) := by decide +kernel
theorem dL_writes_3 : decode cL_writes 3 = .ok (.aload_n 1, 1) := by decide +kernel
theorem dL_writes_4 : decode cL_writes 4 = .ok (.iconst 1, 1) := by decide +kernel
theorem dL_writes_5 : decode cL_writes 5 = .ok (.iaload, 1) := by decide +kernel
theorem dL_writes_6 : decode cL_writes 6 = .ok (.ifCond .le 50, 3) := by decide +kernel
theorem dL_writes_9 : decode cL_writes 9 = .ok (.aload_n 1, 1) := by decide +kernel
theorem dL_writes_10 : decode cL_writes 10 = .ok (.iconst 0, 1) := by decide +kernel
theorem dL_writes_11 : decode cL_writes 11 = .ok (.iaload, 1) := by decide +kernel
theorem dL_writes_12 : decode cL_writes 12 = .ok (.bipush 30, 2) := by decide +kernel
theorem dL_writes_14 : decode cL_writes 14 = .ok (.if_icmp .ge 42, 3) := by decide +kernel
theorem dL_writes_17 : decode cL_writes 17 = .ok (.aload_n 1, 1) := by decide +kernel
theorem dL_writes_18 : decode cL_writes 18 = .ok (.iconst 0, 1) := by decide +kernel
theorem dL_writes_19 : decode cL_writes 19 = .ok (.dup2, 1) := by decide +kernel
theorem dL_writes_20 : decode cL_writes 20 = .ok (.iaload, 1) := by decide +kernel
theorem dL_writes_21 : decode cL_writes 21 = .ok (.iconst 1, 1) := by decide +kernel
theorem dL_writes_22 : decode cL_writes 22 = .ok (.iadd, 1) := by decide +kernel
theorem dL_writes_23 : decode cL_writes 23 = .ok (.iastore, 1) := by decide +kernel
theorem dL_writes_24 : decode cL_writes 24 = .ok (.aload_n 1, 1) := by decide +kernel
theorem dL_writes_25 : decode cL_writes 25 = .ok (.iconst 1, 1) := by decide +kernel
theorem dL_writes_26 : decode cL_writes 26 = .ok (.dup2, 1) := by decide +kernel
theorem dL_writes_27 : decode cL_writes 27 = .ok (.iaload, 1) := by decide +kernel
theorem dL_writes_28 : decode cL_writes 28 = .ok (.iconst 1, 1) := by decide +kernel
theorem dL_writes_29 : decode cL_writes 29 = .ok (.isub, 1) := by decide +kernel
theorem dL_writes_30 : decode cL_writes 30 = .ok (.iastore, 1) := by decide +kernel
theorem dL_writes_31 : decode cL_writes 31 = .ok (.iload 4, 2) := by decide +kernel
theorem dL_writes_33 : decode cL_writes 33 = .ok (.ifCond .eq 17, 3) := by decide +kernel
theorem dL_writes_36 : decode cL_writes 36 = .ok (.aload_n 0, 1) := by decide +kernel
theorem dL_writes_37 : decode cL_writes 37 = .ok (.invokevirtual 83, 3) := by decide +kernel
theorem dL_writes_40 : decode cL_writes 40 = .ok (.aload_n 1, 1) := by decide +kernel
theorem dL_writes_41 : decode cL_writes 41 = .ok (.iconst 1, 1) := by decide +kernel
theorem dL_writes_42 : decode cL_writes 42 = .ok (.iaload, 1) := by decide +kernel
