theorem dX0_init_0 : decode cX0_init 0 = .ok (.aload_n 0, 1) := by decide +kernel
theorem dX0_init_1 : decode cX0_init 1 = .ok (.invokespecial 3, 3) := by decide +kernel
theorem dX0_init_4 : decode cX0_init 4 = .ok (.aload_n 0, 1) := by decide +kernel
theorem dX0_init_5 : decode cX0_init 5 = .ok (.bipush 31, 2) := by decide +kernel
theorem dX0_init_7 : decode cX0_init 7 = .ok (.newarray .int, 2) := by decide +kernel
theorem dX0_init_9 : decode cX0_init 9 = .ok (.putfield 9, 3) := by decide +kernel
theorem dX0_init_12 : decode cX0_init 12 = .ok (.aload_n 0, 1) := by decide +kernel
theorem dX0_init_13 : decode cX0_init 13 = .ok (.bipush 31, 2) := by decide +kernel
theorem dX0_init_15 : decode cX0_init 15 = .ok (.newarray .int, 2) := by decide +kernel
theorem dX0_init_17 : decode cX0_init 17 = .ok (.putfield 15, 3) := by decide +kernel
theorem dX0_init_20 : decode cX0_init 20 = .ok (.return_, 1) := by decide +kernel
theorem dX0_longestCommon_0 : decode cX0_longestCommon 0 = .ok (.aload_n 2, 1) := by decide +kernel
theorem dX0_longestCommon_1 : decode cX0_longestCommon 1 = .ok (.arraylength, 1) := by decide +kernel
theorem dX0_longestCommon_2 : decode cX0_longestCommon 2 = .ok (.aload_n 0, 1) := by decide +kernel
theorem dX0_longestCommon_3 : decode cX0_longestCommon 3 = .ok (.getfield 9, 3) := by decide +kernel
theorem dX0_longestCommon_6 : decode cX0_longestCommon 6 = .ok (.arraylength, 1) := by decide +kernel
theorem dX0_longestCommon_7 : decode cX0_longestCommon 7 = .ok (.aload_n 0, 1) := by decide +kernel
theorem dX0_longestCommon_8 : decode cX0_longestCommon 8 = .ok (.getfield 15, 3) := by decide +kernel
theorem dX0_longestCommon_11 : decode cX0_longestCommon 11 = .ok (.arraylength, 1) := by decide +kernel
theorem dX0_longestCommon_12 : decode cX0_longestCommon 12 = .ok (.invokestatic 18, 3) := by decide +kernel
theorem dX0_longestCommon_15 : decode cX0_longestCommon 15 = .ok (.iconst 1, 1) := by decide +kernel
theorem dX0_longestCommon_16 : decode cX0_longestCommon 16 = .ok (.isub, 1) := by decide +kernel
theorem dX0_longestCommon_17 : decode cX0_longestCommon 17 = .ok (.invokestatic 18, 3) := by decide +kernel
theorem dX0_longestCommon_20 : decode cX0_longestCommon 20 = .ok (.istore_n 3, 1) := by decide +kernel
theorem dX0_longestCommon_21 : decode cX0_longestCommon 21 = .ok (.iconst 0, 1) := by decide +kernel
theorem dX0_longestCommon_22 : decode cX0_longestCommon 22 = .ok (.istore 4, 2) := by decide +kernel
theorem dX0_longestCommon_24 : decode cX0_longestCommon 24 = .ok (.iload 4, 2) := by decide +kernel
theorem dX0_longestCommon_26 : decode cX0_longestCommon 26 = .ok (.aload_n 0, 1) := by decide +kernel
theorem dX0_longestCommon_27 : decode cX0_longestCommon 27 = .ok (.getfield 9, 3) := by decide +kernel
theorem dX0_longestCommon_30 : decode cX0_longestCommon 30 = .ok (.arraylength, 1) := by decide +kernel
theorem dX0_longestCommon_31 : decode cX0_longestCommon 31 = .ok (.if_icmp .ge 17, 3) := by decide +kernel
theorem dX0_longestCommon_34 : decode cX0_longestCommon 34 = .ok (.aload_n 0, 1) := by decide +kernel
theorem dX0_longestCommon_35 : decode cX0_longestCommon 35 = .ok (.getfield 9, 3) := by decide +kernel
theorem dX0_longestCommon_38 : decode cX0_longestCommon 38 = .ok (.iload 4, 2) := by decide +kernel
theorem dX0_longestCommon_40 : decode cX0_longestCommon 40 = .ok (.iconst 0, 1) := by decide +kernel
theorem dX0_longestCommon_41 : decode cX0_longestCommon 41 = .ok (.iastore, 1) := by decide +kernel
theorem dX0_longestCommon_42 : decode cX0_longestCommon 42 = .ok (.iinc 4 1, 3) := by decide +kernel
theorem dX0_longestCommon_45 : decode cX0_longestCommon 45 = .ok (.goto (-21), 3) := by decide +kernel
theorem dX0_longestCommon_48 : decode cX0_longestCommon 48 = .ok (.iconst 0, 1) := by decide +kernel
theorem dX0_longestCommon_49 : decode cX0_longestCommon 49 = .ok (.istore 4, 2) := by decide +kernel
theorem dX0_longestCommon_51 : decode cX0_longestCommon 51 = .ok (.iload 4, 2) := by decide +kernel
theorem dX0_longestCommon_53 : decode cX0_longestCommon 53 = .ok (.aload_n 1, 1) := by decide +kernel
theorem dX0_longestCommon_54 : decode cX0_longestCommon 54 = .ok (.arraylength, 1) := by decide +kernel
theorem dX0_longestCommon_55 : decode cX0_longestCommon 55 = .ok (.if_icmp .ge 39, 3) := by decide +kernel
theorem dX0_longestCommon_58 : decode cX0_longestCommon 58 = .ok (.aload_n 0, 1) := by decide +kernel
theorem dX0_longestCommon_59 : decode cX0_longestCommon 59 = .ok (.aload_n 1, 1) := by decide +kernel
theorem dX0_longestCommon_60 : decode cX0_longestCommon 60 = .ok (.iload 4, 2) := by decide +kernel
theorem dX0_longestCommon_62 : decode cX0_longestCommon 62 = .ok (.iaload, 1) := by decide +kernel
theorem dX0_longestCommon_63 : decode cX0_longestCommon 63 = .ok (.aload_n 2, 1) := by decide +kernel
theorem dX0_longestCommon_64 : decode cX0_longestCommon 64 = .ok (.iload_n 3, 1) := by decide +kernel
theorem dX0_longestCommon_65 : decode cX0_longestCommon 65 = .ok (.invokevirtual 24, 3) := by decide +kernel
theorem dX0_longestCommon_68 : decode cX0_longestCommon 68 = .ok (.aload_n 0, 1) := by decide +kernel
theorem dX0_longestCommon_69 : decode cX0_longestCommon 69 = .ok (.getfield 9, 3) := by decide +kernel
theorem dX0_longestCommon_72 : decode cX0_longestCommon 72 = .ok (.astore 5, 2) := by decide +kernel
theorem dX0_longestCommon_74 : decode cX0_longestCommon 74 = .ok (.aload_n 0, 1) := by decide +kernel
theorem dX0_longestCommon_75 : decode cX0_longestCommon 75 = .ok (.aload_n 0, 1) := by decide +kernel
theorem dX0_longestCommon_76 : decode cX0_longestCommon 76 = .ok (.getfield 15, 3) := by decide +kernel
theorem dX0_longestCommon_79 : decode cX0_longestCommon 79 = .ok (.putfield 9, 3) := by decide +kernel
theorem dX0_longestCommon_82 : decode cX0_longestCommon 82 = .ok (.aload_n 0, 1) := by decide +kernel
theorem dX0_longestCommon_83 : decode cX0_longestCommon 83 = .ok (.aload 5, 2) := by decide +kernel
theorem dX0_longestCommon_85 : decode cX0_longestCommon 85 = .ok (.putfield 15, 3) := by decide +kernel
theorem dX0_longestCommon_88 : decode cX0_longestCommon 88 = .ok (.iinc 4 1, 3) := by decide +kernel
theorem dX0_longestCommon_91 : decode cX0_longestCommon 91 = .ok (.goto (-40), 3) := by decide +kernel
theorem dX0_longestCommon_94 : decode cX0_longestCommon 94 = .ok (.iload_n 3, 1) := by decide +kernel
theorem dX0_longestCommon_95 : decode cX0_longestCommon 95 = .ok (.ifCond .lt 21, 3) := by decide +kernel
theorem dX0_longestCommon_98 : decode cX0_longestCommon 98 = .ok (.iload_n 3, 1) := by decide +kernel
theorem dX0_longestCommon_99 : decode cX0_longestCommon 99 = .ok (.aload_n 0, 1) := by decide +kernel
theorem dX0_longestCommon_100 : decode cX0_longestCommon 100 = .ok (.getfield 9, 3) := by decide +kernel
theorem dX0_longestCommon_103 : decode cX0_longestCommon 103 = .ok (.arraylength, 1) := by decide +kernel
theorem dX0_longestCommon_104 : decode cX0_longestCommon 104 = .ok (.if_icmp .ge 12, 3) := by decide +kernel
theorem dX0_longestCommon_107 : decode cX0_longestCommon 107 = .ok (.aload_n 0, 1) := by decide +kernel
theorem dX0_longestCommon_108 : decode cX0_longestCommon 108 = .ok (.getfield 9, 3) := by decide +kernel
theorem dX0_longestCommon_111 : decode cX0_longestCommon 111 = .ok (.iload_n 3, 1) := by decide +kernel
theorem dX0_longestCommon_112 : decode cX0_longestCommon 112 = .ok (.iaload, 1) := by decide +kernel
theorem dX0_longestCommon_113 : decode cX0_longestCommon 113 = .ok (.goto 4, 3) := by decide +kernel
theorem dX0_longestCommon_116 : decode cX0_longestCommon 116 = .ok (.iconst 0, 1) := by decide +kernel
theorem dX0_longestCommon_117 : decode cX0_longestCommon 117 = .ok (.ireturn, 1) := by decide +kernel
theorem dX0_fillBelow_0 : decode cX0_fillBelow 0 = .ok (.aload_n 0, 1) := by decide +kernel
theorem dX0_fillBelow_1 : decode cX0_fillBelow 1 = .ok (.getfield 15, 3) := by decide +kernel
theorem dX0_fillBelow_4 : decode cX0_fillBelow 4 = .ok (.arraylength, 1) := by decide +kernel
theorem dX0_fillBelow_5 : decode cX0_fillBelow 5 = .ok (.ifCond .le 10, 3) := by decide +kernel
theorem dX0_fillBelow_8 : decode cX0_fillBelow 8 = .ok (.aload_n 0, 1) := by decide +kernel
theorem dX0_fillBelow_9 : decode cX0_fillBelow 9 = .ok (.getfield 15, 3) := by decide +kernel
theorem dX0_fillBelow_12 : decode cX0_fillBelow 12 = .ok (.iconst 0, 1) := by decide +kernel
theorem dX0_fillBelow_13 : decode cX0_fillBelow 13 = .ok (.iconst 0, 1) := by decide +kernel
theorem dX0_fillBelow_14 : decode cX0_fillBelow 14 = .ok (.iastore, 1) := by decide +kernel
theorem dX0_fillBelow_15 : decode cX0_fillBelow 15 = .ok (.iconst 1, 1) := by decide +kernel
theorem dX0_fillBelow_16 : decode cX0_fillBelow 16 = .ok (.istore 4, 2) := by decide +kernel
theorem dX0_fillBelow_18 : decode cX0_fillBelow 18 = .ok (.iload 4, 2) := by decide +kernel
theorem dX0_fillBelow_20 : decode cX0_fillBelow 20 = .ok (.iload_n 3, 1) := by decide +kernel
theorem dX0_fillBelow_21 : decode cX0_fillBelow 21 = .ok (.if_icmp .gt 93, 3) := by decide +kernel
theorem dX0_fillBelow_24 : decode cX0_fillBelow 24 = .ok (.iload 4, 2) := by decide +kernel
theorem dX0_fillBelow_26 : decode cX0_fillBelow 26 = .ok (.aload_n 0, 1) := by decide +kernel
theorem dX0_fillBelow_27 : decode cX0_fillBelow 27 = .ok (.getfield 9, 3) := by decide +kernel
theorem dX0_fillBelow_30 : decode cX0_fillBelow 30 = .ok (.arraylength, 1) := by decide +kernel
theorem dX0_fillBelow_31 : decode cX0_fillBelow 31 = .ok (.if_icmp .ge 83, 3) := by decide +kernel
theorem dX0_fillBelow_34 : decode cX0_fillBelow 34 = .ok (.iload 4, 2) := by decide +kernel
theorem dX0_fillBelow_36 : decode cX0_fillBelow 36 = .ok (.aload_n 0, 1) := by decide +kernel
theorem dX0_fillBelow_37 : decode cX0_fillBelow 37 = .ok (.getfield 15, 3) := by decide +kernel
theorem dX0_fillBelow_40 : decode cX0_fillBelow 40 = .ok (.arraylength, 1) := by decide +kernel
theorem dX0_fillBelow_41 : decode cX0_fillBelow 41 = .ok (.if_icmp .ge 73, 3) := by decide +kernel
theorem dX0_fillBelow_44 : decode cX0_fillBelow 44 = .ok (.iload 4, 2) := by decide +kernel
theorem dX0_fillBelow_46 : decode cX0_fillBelow 46 = .ok (.aload_n 2, 1) := by decide +kernel
theorem dX0_fillBelow_47 : decode cX0_fillBelow 47 = .ok (.arraylength, 1) := by decide +kernel
theorem dX0_fillBelow_48 : decode cX0_fillBelow 48 = .ok (.if_icmp .gt 66, 3) := by decide +kernel
theorem dX0_fillBelow_51 : decode cX0_fillBelow 51 = .ok (.aload_n 2, 1) := by decide +kernel
theorem dX0_fillBelow_52 : decode cX0_fillBelow 52 = .ok (.iload 4, 2) := by decide +kernel
theorem dX0_fillBelow_54 : decode cX0_fillBelow 54 = .ok (.iconst 1, 1) := by decide +kernel
theorem dX0_fillBelow_55 : decode cX0_fillBelow 55 = .ok (.isub, 1) := by decide +kernel
theorem dX0_fillBelow_56 : decode cX0_fillBelow 56 = .ok (.iaload, 1) := by decide +kernel
theorem dX0_fillBelow_57 : decode cX0_fillBelow 57 = .ok (.iload_n 1, 1) := by decide +kernel
theorem dX0_fillBelow_58 : decode cX0_fillBelow 58 = .ok (.if_icmp .ne 24, 3) := by decide +kernel
theorem dX0_fillBelow_61 : decode cX0_fillBelow 61 = .ok (.aload_n 0, 1) := by decide +kernel
theorem dX0_fillBelow_62 : decode cX0_fillBelow 62 = .ok (.getfield 15, 3) := by decide +kernel
theorem dX0_fillBelow_65 : decode cX0_fillBelow 65 = .ok (.iload 4, 2) := by decide +kernel
theorem dX0_fillBelow_67 : decode cX0_fillBelow 67 = .ok (.aload_n 0, 1) := by decide +kernel
theorem dX0_fillBelow_68 : decode cX0_fillBelow 68 = .ok (.getfield 9, 3) := by decide +kernel
theorem dX0_fillBelow_71 : decode cX0_fillBelow 71 = .ok (.iload 4, 2) := by decide +kernel
theorem dX0_fillBelow_73 : decode cX0_fillBelow 73 = .ok (.iconst 1, 1) := by decide +kernel
theorem dX0_fillBelow_74 : decode cX0_fillBelow 74 = .ok (.isub, 1) := by decide +kernel
theorem dX0_fillBelow_75 : decode cX0_fillBelow 75 = .ok (.iaload, 1) := by decide +kernel
theorem dX0_fillBelow_76 : decode cX0_fillBelow 76 = .ok (.iconst 1, 1) := by decide +kernel
theorem dX0_fillBelow_77 : decode cX0_fillBelow 77 = .ok (.iadd, 1) := by decide +kernel
theorem dX0_fillBelow_78 : decode cX0_fillBelow 78 = .ok (.iastore, 1) := by decide +kernel
theorem dX0_fillBelow_79 : decode cX0_fillBelow 79 = .ok (.goto 29, 3) := by decide +kernel
theorem dX0_fillBelow_82 : decode cX0_fillBelow 82 = .ok (.aload_n 0, 1) := by decide +kernel
theorem dX0_fillBelow_83 : decode cX0_fillBelow 83 = .ok (.getfield 15, 3) := by decide +kernel
theorem dX0_fillBelow_86 : decode cX0_fillBelow 86 = .ok (.iload 4, 2) := by decide +kernel
theorem dX0_fillBelow_88 : decode cX0_fillBelow 88 = .ok (.aload_n 0, 1) := by decide +kernel
theorem dX0_fillBelow_89 : decode cX0_fillBelow 89 = .ok (.getfield 9, 3) := by decide +kernel
theorem dX0_fillBelow_92 : decode cX0_fillBelow 92 = .ok (.iload 4, 2) := by decide +kernel
theorem dX0_fillBelow_94 : decode cX0_fillBelow 94 = .ok (.iaload, 1) := by decide +kernel
theorem dX0_fillBelow_95 : decode cX0_fillBelow 95 = .ok (.aload_n 0, 1) := by decide +kernel
theorem dX0_fillBelow_96 : decode cX0_fillBelow 96 = .ok (.getfield 15, 3) := by decide +kernel
theorem dX0_fillBelow_99 : decode cX0_fillBelow 99 = .ok (.iload 4, 2) := by decide +kernel
theorem dX0_fillBelow_101 : decode cX0_fillBelow 101 = .ok (.iconst 1, 1) := by decide +kernel
theorem dX0_fillBelow_102 : decode cX0_fillBelow 102 = .ok (.isub, 1) := by decide +kernel
theorem dX0_fillBelow_103 : decode cX0_fillBelow 103 = .ok (.iaload, 1) := by decide +kernel
theorem dX0_fillBelow_104 : decode cX0_fillBelow 104 = .ok (.invokestatic 28, 3) := by decide +kernel
theorem dX0_fillBelow_107 : decode cX0_fillBelow 107 = .ok (.iastore, 1) := by decide +kernel
theorem dX0_fillBelow_108 : decode cX0_fillBelow 108 = .ok (.iinc 4 1, 3) := by decide +kernel
theorem dX0_fillBelow_111 : decode cX0_fillBelow 111 = .ok (.goto (-93), 3) := by decide +kernel
theorem dX0_fillBelow_114 : decode cX0_fillBelow 114 = .ok (.return_, 1) := by decide +kernel
theorem dX1_init_0 : decode cX1_init 0 = .ok (.aload_n 0, 1) := by decide +kernel
theorem dX1_init_1 : decode cX1_init 1 = .ok (.invokespecial 3, 3) := by decide +kernel
theorem dX1_init_4 : decode cX1_init 4 = .ok (.aload_n 0, 1) := by decide +kernel
theorem dX1_init_5 : decode cX1_init 5 = .ok (.bipush 30, 2) := by decide +kernel
theorem dX1_init_7 : decode cX1_init 7 = .ok (.anewarray 9, 3) := by decide +kernel
theorem dX1_init_10 : decode cX1_init 10 = .ok (.putfield 11, 3) := by decide +kernel
theorem dX1_init_13 : decode cX1_init 13 = .ok (.aload_n 0, 1) := by decide +kernel
theorem dX1_init_14 : decode cX1_init 14 = .ok (.iconst 4, 1) := by decide +kernel
theorem dX1_init_15 : decode cX1_init 15 = .ok (.newarray .boolean, 2) := by decide +kernel
theorem dX1_init_17 : decode cX1_init 17 = .ok (.putfield 17, 3) := by decide +kernel
theorem dX1_init_20 : decode cX1_init 20 = .ok (.return_, 1) := by decide +kernel
theorem dX1_length_0 : decode cX1_length 0 = .ok (.aload_n 0, 1) := by decide +kernel
theorem dX1_length_1 : decode cX1_length 1 = .ok (.getfield 21, 3) := by decide +kernel
theorem dX1_length_4 : decode cX1_length 4 = .ok (.ireturn, 1) := by decide +kernel
theorem dX1_openBlocks_0 : decode cX1_openBlocks 0 = .ok (.aload_n 0, 1) := by decide +kernel
theorem dX1_openBlocks_1 : decode cX1_openBlocks 1 = .ok (.getfield 25, 3) := by decide +kernel
theorem dX1_openBlocks_4 : decode cX1_openBlocks 4 = .ok (.ireturn, 1) := by decide +kernel
theorem dX1_tells_0 : decode cX1_tells 0 = .ok (.iload_n 1, 1) := by decide +kernel
theorem dX1_tells_1 : decode cX1_tells 1 = .ok (.ifCond .lt 25, 3) := by decide +kernel
theorem dX1_tells_4 : decode cX1_tells 4 = .ok (.iload_n 1, 1) := by decide +kernel
theorem dX1_tells_5 : decode cX1_tells 5 = .ok (.aload_n 0, 1) := by decide +kernel
theorem dX1_tells_6 : decode cX1_tells 6 = .ok (.getfield 17, 3) := by decide +kernel
theorem dX1_tells_9 : decode cX1_tells 9 = .ok (.arraylength, 1) := by decide +kernel
theorem dX1_tells_10 : decode cX1_tells 10 = .ok (.if_icmp .ge 16, 3) := by decide +kernel
theorem dX1_tells_13 : decode cX1_tells 13 = .ok (.aload_n 0, 1) := by decide +kernel
theorem dX1_tells_14 : decode cX1_tells 14 = .ok (.getfield 17, 3) := by decide +kernel
theorem dX1_tells_17 : decode cX1_tells 17 = .ok (.iload_n 1, 1) := by decide +kernel
theorem dX1_tells_18 : decode cX1_tells 18 = .ok (.baload, 1) := by decide +kernel
theorem dX1_tells_19 : decode cX1_tells 19 = .ok (.ifCond .eq 7, 3) := by decide +kernel
theorem dX1_tells_22 : decode cX1_tells 22 = .ok (.iconst 1, 1) := by decide +kernel
theorem dX1_tells_23 : decode cX1_tells 23 = .ok (.goto 4, 3) := by decide +kernel
theorem dX1_tells_26 : decode cX1_tells 26 = .ok (.iconst 0, 1) := by decide +kernel
theorem dX1_tells_27 : decode cX1_tells 27 = .ok (.ireturn, 1) := by decide +kernel
theorem dX1_orderAt_0 : decode cX1_orderAt 0 = .ok (.iload_n 1, 1) := by decide +kernel
theorem dX1_orderAt_1 : decode cX1_orderAt 1 = .ok (.ifCond .lt 29, 3) := by decide +kernel
theorem dX1_orderAt_4 : decode cX1_orderAt 4 = .ok (.iload_n 1, 1) := by decide +kernel
theorem dX1_orderAt_5 : decode cX1_orderAt 5 = .ok (.aload_n 0, 1) := by decide +kernel
theorem dX1_orderAt_6 : decode cX1_orderAt 6 = .ok (.getfield 21, 3) := by decide +kernel
theorem dX1_orderAt_9 : decode cX1_orderAt 9 = .ok (.if_icmp .ge 21, 3) := by decide +kernel
theorem dX1_orderAt_12 : decode cX1_orderAt 12 = .ok (.iload_n 1, 1) := by decide +kernel
theorem dX1_orderAt_13 : decode cX1_orderAt 13 = .ok (.aload_n 0, 1) := by decide +kernel
theorem dX1_orderAt_14 : decode cX1_orderAt 14 = .ok (.getfield 11, 3) := by decide +kernel
theorem dX1_orderAt_17 : decode cX1_orderAt 17 = .ok (.arraylength, 1) := by decide +kernel
theorem dX1_orderAt_18 : decode cX1_orderAt 18 = .ok (.if_icmp .ge 12, 3) := by decide +kernel
theorem dX1_orderAt_21 : decode cX1_orderAt 21 = .ok (.aload_n 0, 1) := by decide +kernel
theorem dX1_orderAt_22 : decode cX1_orderAt 22 = .ok (.getfield 11, 3) := by decide +kernel
theorem dX1_orderAt_25 : decode cX1_orderAt 25 = .ok (.iload_n 1, 1) := by decide +kernel
theorem dX1_orderAt_26 : decode cX1_orderAt 26 = .ok (.aaload, 1) := by decide +kernel
theorem dX1_orderAt_27 : decode cX1_orderAt 27 = .ok (.goto 4, 3) := by decide +kernel
theorem dX1_orderAt_30 : decode cX1_orderAt 30 = .ok (.aconst_null, 1) := by decide +kernel
theorem dX1_orderAt_31 : decode cX1_orderAt 31 = .ok (.areturn, 1) := by decide +kernel
theorem dX1_append_0 : decode cX1_append 0 = .ok (.aload_n 0, 1) := by decide +kernel
theorem dX1_append_1 : decode cX1_append 1 = .ok (.getfield 21, 3) := by decide +kernel
theorem dX1_append_4 : decode cX1_append 4 = .ok (.ifCond .lt 15, 3) := by decide +kernel
theorem dX1_append_7 : decode cX1_append 7 = .ok (.aload_n 0, 1) := by decide +kernel
theorem dX1_append_8 : decode cX1_append 8 = .ok (.getfield 21, 3) := by decide +kernel
theorem dX1_append_11 : decode cX1_append 11 = .ok (.aload_n 0, 1) := by decide +kernel
theorem dX1_append_12 : decode cX1_append 12 = .ok (.getfield 11, 3) := by decide +kernel
theorem dX1_append_15 : decode cX1_append 15 = .ok (.arraylength, 1) := by decide +kernel
theorem dX1_append_16 : decode cX1_append 16 = .ok (.if_icmp .lt 4, 3) := by decide +kernel
theorem dX1_append_19 : decode cX1_append 19 = .ok (.return_, 1) := by decide +kernel
theorem dX1_append_20 : decode cX1_append 20 = .ok (.aload_n 0, 1) := by decide +kernel
theorem dX1_append_21 : decode cX1_append 21 = .ok (.getfield 11, 3) := by decide +kernel
theorem dX1_append_24 : decode cX1_append 24 = .ok (.aload_n 0, 1) := by decide +kernel
theorem dX1_append_25 : decode cX1_append 25 = .ok (.getfield 21, 3) := by decide +kernel
theorem dX1_append_28 : decode cX1_append 28 = .ok (.aload_n 1, 1) := by decide +kernel
theorem dX1_append_29 : decode cX1_append 29 = .ok (.aastore, 1) := by decide +kernel
theorem dX1_append_30 : decode cX1_append 30 = .ok (.aload_n 0, 1) := by decide +kernel
theorem dX1_append_31 : decode cX1_append 31 = .ok (.dup, 1) := by decide +kernel
theorem dX1_append_32 : decode cX1_append 32 = .ok (.getfield 21, 3) := by decide +kernel
theorem dX1_append_35 : decode cX1_append 35 = .ok (.iconst 1, 1) := by decide +kernel
theorem dX1_append_36 : decode cX1_append 36 = .ok (.iadd, 1) := by decide +kernel
theorem dX1_append_37 : decode cX1_append 37 = .ok (.putfield 21, 3) := by decide +kernel
theorem dX1_append_40 : decode cX1_append 40 = .ok (.aload_n 1, 1) := by decide +kernel
theorem dX1_append_41 : decode cX1_append 41 = .ok (.invokevirtual 28, 3) := by decide +kernel
theorem dX1_append_44 : decode cX1_append 44 = .ok (.ifCond .eq 16, 3) := by decide +kernel
theorem dX1_append_47 : decode cX1_append 47 = .ok (.aload_n 0, 1) := by decide +kernel
theorem dX1_append_48 : decode cX1_append 48 = .ok (.dup, 1) := by decide +kernel
theorem dX1_append_49 : decode cX1_append 49 = .ok (.getfield 25, 3) := by decide +kernel
theorem dX1_append_52 : decode cX1_append 52 = .ok (.iconst 1, 1) := by decide +kernel
theorem dX1_append_53 : decode cX1_append 53 = .ok (.iadd, 1) := by decide +kernel
theorem dX1_append_54 : decode cX1_append 54 = .ok (.putfield 25, 3) := by decide +kernel
theorem dX1_append_57 : decode cX1_append 57 = .ok (.goto 22, 3) := by decide +kernel
theorem dX1_append_60 : decode cX1_append 60 = .ok (.aload_n 1, 1) := by decide +kernel
theorem dX1_append_61 : decode cX1_append 61 = .ok (.getfield 32, 3) := by decide +kernel
theorem dX1_append_64 : decode cX1_append 64 = .ok (.bipush 8, 2) := by decide +kernel
theorem dX1_append_66 : decode cX1_append 66 = .ok (.if_icmp .ne 13, 3) := by decide +kernel
theorem dX1_append_69 : decode cX1_append 69 = .ok (.aload_n 0, 1) := by decide +kernel
theorem dX1_append_70 : decode cX1_append 70 = .ok (.dup, 1) := by decide +kernel
theorem dX1_append_71 : decode cX1_append 71 = .ok (.getfield 25, 3) := by decide +kernel
theorem dX1_append_74 : decode cX1_append 74 = .ok (.iconst 1, 1) := by decide +kernel
theorem dX1_append_75 : decode cX1_append 75 = .ok (.isub, 1) := by decide +kernel
theorem dX1_append_76 : decode cX1_append 76 = .ok (.putfield 25, 3) := by decide +kernel
theorem dX1_append_79 : decode cX1_append 79 = .ok (.aload_n 1, 1) := by decide +kernel
theorem dX1_append_80 : decode cX1_append 80 = .ok (.getfield 32, 3) := by decide +kernel
theorem dX1_append_83 : decode cX1_append 83 = .ok (.bipush 6, 2) := by decide +kernel
theorem dX1_append_85 : decode cX1_append 85 = .ok (.if_icmp .ne 32, 3) := by decide +kernel
theorem dX1_append_88 : decode cX1_append 88 = .ok (.aload_n 1, 1) := by decide +kernel
theorem dX1_append_89 : decode cX1_append 89 = .ok (.getfield 35, 3) := by decide +kernel
theorem dX1_append_92 : decode cX1_append 92 = .ok (.ifCond .lt 25, 3) := by decide +kernel
theorem dX1_append_95 : decode cX1_append 95 = .ok (.aload_n 1, 1) := by decide +kernel
theorem dX1_append_96 : decode cX1_append 96 = .ok (.getfield 35, 3) := by decide +kernel
theorem dX1_append_99 : decode cX1_append 99 = .ok (.aload_n 0, 1) := by decide +kernel
theorem dX1_append_100 : decode cX1_append 100 = .ok (.getfield 17, 3) := by decide +kernel
theorem dX1_append_103 : decode cX1_append 103 = .ok (.arraylength, 1) := by decide +kernel
theorem dX1_append_104 : decode cX1_append 104 = .ok (.if_icmp .ge 13, 3) := by decide +kernel
theorem dX1_append_107 : decode cX1_append 107 = .ok (.aload_n 0, 1) := by decide +kernel
theorem dX1_append_108 : decode cX1_append 108 = .ok (.getfield 17, 3) := by decide +kernel
theorem dX1_append_111 : decode cX1_append 111 = .ok (.aload_n 1, 1) := by decide +kernel
theorem dX1_append_112 : decode cX1_append 112 = .ok (.getfield 35, 3) := by decide +kernel
theorem dX1_append_115 : decode cX1_append 115 = .ok (.iconst 1, 1) := by decide +kernel
theorem dX1_append_116 : decode cX1_append 116 = .ok (.bastore, 1) := by decide +kernel
theorem dX1_append_117 : decode cX1_append 117 = .ok (.return_, 1) := by decide +kernel
theorem dX1_makeEmpty_0 : decode cX1_makeEmpty 0 = .ok (.aload_n 0, 1) := by decide +kernel
theorem dX1_makeEmpty_1 : decode cX1_makeEmpty 1 = .ok (.iconst 0, 1) := by decide +kernel
theorem dX1_makeEmpty_2 : decode cX1_makeEmpty 2 = .ok (.putfield 21, 3) := by decide +kernel
theorem dX1_makeEmpty_5 : decode cX1_makeEmpty 5 = .ok (.aload_n 0, 1) := by decide +kernel
theorem dX1_makeEmpty_6 : decode cX1_makeEmpty 6 = .ok (.iconst 0, 1) := by decide +kernel
theorem dX1_makeEmpty_7 : decode cX1_makeEmpty 7 = .ok (.putfield 25, 3) := by decide +kernel
theorem dX1_makeEmpty_10 : decode cX1_makeEmpty 10 = .ok (.iconst 0, 1) := by decide +kernel
theorem dX1_makeEmpty_11 : decode cX1_makeEmpty 11 = .ok (.istore_n 1, 1) := by decide +kernel
theorem dX1_makeEmpty_12 : decode cX1_makeEmpty 12 = .ok (.iload_n 1, 1) := by decide +kernel
theorem dX1_makeEmpty_13 : decode cX1_makeEmpty 13 = .ok (.aload_n 0, 1) := by decide +kernel
theorem dX1_makeEmpty_14 : decode cX1_makeEmpty 14 = .ok (.getfield 17, 3) := by decide +kernel
theorem dX1_makeEmpty_17 : decode cX1_makeEmpty 17 = .ok (.arraylength, 1) := by decide +kernel
theorem dX1_makeEmpty_18 : decode cX1_makeEmpty 18 = .ok (.if_icmp .ge 16, 3) := by decide +kernel
theorem dX1_makeEmpty_21 : decode cX1_makeEmpty 21 = .ok (.aload_n 0, 1) := by decide +kernel
theorem dX1_makeEmpty_22 : decode cX1_makeEmpty 22 = .ok (.getfield 17, 3) := by decide +kernel
theorem dX1_makeEmpty_25 : decode cX1_makeEmpty 25 = .ok (.iload_n 1, 1) := by decide +kernel
theorem dX1_makeEmpty_26 : decode cX1_makeEmpty 26 = .ok (.iconst 0, 1) := by decide +kernel
theorem dX1_makeEmpty_27 : decode cX1_makeEmpty 27 = .ok (.bastore, 1) := by decide +kernel
theorem dX1_makeEmpty_28 : decode cX1_makeEmpty 28 = .ok (.iinc 1 1, 3) := by decide +kernel
theorem dX1_makeEmpty_31 : decode cX1_makeEmpty 31 = .ok (.goto (-19), 3) := by decide +kernel
theorem dX1_makeEmpty_34 : decode cX1_makeEmpty 34 = .ok (.return_, 1) := by decide +kernel
theorem dX2_init_0 : decode cX2_init 0 = .ok (.aload_n 0, 1) := by decide +kernel
theorem dX2_init_1 : decode cX2_init 1 = .ok (.invokespecial 3, 3) := by decide +kernel
theorem dX2_init_4 : decode cX2_init 4 = .ok (.aload_n 0, 1) := by decide +kernel
theorem dX2_init_5 : decode cX2_init 5 = .ok (.bipush 16, 2) := by decide +kernel
theorem dX2_init_7 : decode cX2_init 7 = .ok (.newarray .int, 2) := by decide +kernel
theorem dX2_init_9 : decode cX2_init 9 = .ok (.putfield 9, 3) := by decide +kernel
theorem dX2_init_12 : decode cX2_init 12 = .ok (.aload_n 0, 1) := by decide +kernel
theorem dX2_init_13 : decode cX2_init 13 = .ok (.bipush 16, 2) := by decide +kernel
theorem dX2_init_15 : decode cX2_init 15 = .ok (.newarray .int, 2) := by decide +kernel
theorem dX2_init_17 : decode cX2_init 17 = .ok (.putfield 15, 3) := by decide +kernel
theorem dX2_init_20 : decode cX2_init 20 = .ok (.return_, 1) := by decide +kernel
theorem dX2_makeEmpty_0 : decode cX2_makeEmpty 0 = .ok (.aload_n 0, 1) := by decide +kernel
theorem dX2_makeEmpty_1 : decode cX2_makeEmpty 1 = .ok (.iconst 0, 1) := by decide +kernel
theorem dX2_makeEmpty_2 : decode cX2_makeEmpty 2 = .ok (.putfield 18, 3) := by decide +kernel
theorem dX2_makeEmpty_5 : decode cX2_makeEmpty 5 = .ok (.iconst 0, 1) := by decide +kernel
theorem dX2_makeEmpty_6 : decode cX2_makeEmpty 6 = .ok (.istore_n 1, 1) := by decide +kernel
theorem dX2_makeEmpty_7 : decode cX2_makeEmpty 7 = .ok (.iload_n 1, 1) := by decide +kernel
theorem dX2_makeEmpty_8 : decode cX2_makeEmpty 8 = .ok (.bipush 16, 2) := by decide +kernel
theorem dX2_makeEmpty_10 : decode cX2_makeEmpty 10 = .ok (.if_icmp .ge 41, 3) := by decide +kernel
theorem dX2_makeEmpty_13 : decode cX2_makeEmpty 13 = .ok (.iload_n 1, 1) := by decide +kernel
theorem dX2_makeEmpty_14 : decode cX2_makeEmpty 14 = .ok (.aload_n 0, 1) := by decide +kernel
theorem dX2_makeEmpty_15 : decode cX2_makeEmpty 15 = .ok (.getfield 9, 3) := by decide +kernel
theorem dX2_makeEmpty_18 : decode cX2_makeEmpty 18 = .ok (.arraylength, 1) := by decide +kernel
theorem dX2_makeEmpty_19 : decode cX2_makeEmpty 19 = .ok (.if_icmp .ge 32, 3) := by decide +kernel
theorem dX2_makeEmpty_22 : decode cX2_makeEmpty 22 = .ok (.iload_n 1, 1) := by decide +kernel
theorem dX2_makeEmpty_23 : decode cX2_makeEmpty 23 = .ok (.aload_n 0, 1) := by decide +kernel
theorem dX2_makeEmpty_24 : decode cX2_makeEmpty 24 = .ok (.getfield 15, 3) := by decide +kernel
theorem dX2_makeEmpty_27 : decode cX2_makeEmpty 27 = .ok (.arraylength, 1) := by decide +kernel
theorem dX2_makeEmpty_28 : decode cX2_makeEmpty 28 = .ok (.if_icmp .ge 23, 3) := by decide +kernel
theorem dX2_makeEmpty_31 : decode cX2_makeEmpty 31 = .ok (.aload_n 0, 1) := by decide +kernel
theorem dX2_makeEmpty_32 : decode cX2_makeEmpty 32 = .ok (.getfield 9, 3) := by decide +kernel
theorem dX2_makeEmpty_35 : decode cX2_makeEmpty 35 = .ok (.iload_n 1, 1) := by decide +kernel
theorem dX2_makeEmpty_36 : decode cX2_makeEmpty 36 = .ok (.iconst 0, 1) := by decide +kernel
theorem dX2_makeEmpty_37 : decode cX2_makeEmpty 37 = .ok (.iastore, 1) := by decide +kernel
theorem dX2_makeEmpty_38 : decode cX2_makeEmpty 38 = .ok (.aload_n 0, 1) := by decide +kernel
theorem dX2_makeEmpty_39 : decode cX2_makeEmpty 39 = .ok (.getfield 15, 3) := by decide +kernel
theorem dX2_makeEmpty_42 : decode cX2_makeEmpty 42 = .ok (.iload_n 1, 1) := by decide +kernel
theorem dX2_makeEmpty_43 : decode cX2_makeEmpty 43 = .ok (.iconst 0, 1) := by decide +kernel
theorem dX2_makeEmpty_44 : decode cX2_makeEmpty 44 = .ok (.iastore, 1) := by decide +kernel
theorem dX2_makeEmpty_45 : decode cX2_makeEmpty 45 = .ok (.iinc 1 1, 3) := by decide +kernel
theorem dX2_makeEmpty_48 : decode cX2_makeEmpty 48 = .ok (.goto (-41), 3) := by decide +kernel
theorem dX2_makeEmpty_51 : decode cX2_makeEmpty 51 = .ok (.return_, 1) := by decide +kernel
theorem dX2_hasStroke_0 : decode cX2_hasStroke 0 = .ok (.iload_n 3, 1) := by decide +kernel
theorem dX2_hasStroke_1 : decode cX2_hasStroke 1 = .ok (.ifCond .eq 10, 3) := by decide +kernel
theorem dX2_hasStroke_4 : decode cX2_hasStroke 4 = .ok (.aload_n 0, 1) := by decide +kernel
theorem dX2_hasStroke_5 : decode cX2_hasStroke 5 = .ok (.getfield 15, 3) := by decide +kernel
theorem dX2_hasStroke_8 : decode cX2_hasStroke 8 = .ok (.goto 7, 3) := by decide +kernel
theorem dX2_hasStroke_11 : decode cX2_hasStroke 11 = .ok (.aload_n 0, 1) := by decide +kernel
theorem dX2_hasStroke_12 : decode cX2_hasStroke 12 = .ok (.getfield 9, 3) := by decide +kernel
theorem dX2_hasStroke_15 : decode cX2_hasStroke 15 = .ok (.astore 4, 2) := by decide +kernel
theorem dX2_hasStroke_17 : decode cX2_hasStroke 17 = .ok (.iload_n 1, 1) := by decide +kernel
theorem dX2_hasStroke_18 : decode cX2_hasStroke 18 = .ok (.invokestatic 22, 3) := by decide +kernel
theorem dX2_hasStroke_21 : decode cX2_hasStroke 21 = .ok (.ifCond .eq 30, 3) := by decide +kernel
theorem dX2_hasStroke_24 : decode cX2_hasStroke 24 = .ok (.iload_n 2, 1) := by decide +kernel
theorem dX2_hasStroke_25 : decode cX2_hasStroke 25 = .ok (.ifCond .lt 26, 3) := by decide +kernel
theorem dX2_hasStroke_28 : decode cX2_hasStroke 28 = .ok (.iload_n 2, 1) := by decide +kernel
theorem dX2_hasStroke_29 : decode cX2_hasStroke 29 = .ok (.aload 4, 2) := by decide +kernel
theorem dX2_hasStroke_31 : decode cX2_hasStroke 31 = .ok (.arraylength, 1) := by decide +kernel
theorem dX2_hasStroke_32 : decode cX2_hasStroke 32 = .ok (.if_icmp .ge 19, 3) := by decide +kernel
theorem dX2_hasStroke_35 : decode cX2_hasStroke 35 = .ok (.aload 4, 2) := by decide +kernel
theorem dX2_hasStroke_37 : decode cX2_hasStroke 37 = .ok (.iload_n 2, 1) := by decide +kernel
theorem dX2_hasStroke_38 : decode cX2_hasStroke 38 = .ok (.iaload, 1) := by decide +kernel
theorem dX2_hasStroke_39 : decode cX2_hasStroke 39 = .ok (.iload_n 1, 1) := by decide +kernel
theorem dX2_hasStroke_40 : decode cX2_hasStroke 40 = .ok (.ishr, 1) := by decide +kernel
theorem dX2_hasStroke_41 : decode cX2_hasStroke 41 = .ok (.iconst 1, 1) := by decide +kernel
theorem dX2_hasStroke_42 : decode cX2_hasStroke 42 = .ok (.iand, 1) := by decide +kernel
theorem dX2_hasStroke_43 : decode cX2_hasStroke 43 = .ok (.iconst 1, 1) := by decide +kernel
theorem dX2_hasStroke_44 : decode cX2_hasStroke 44 = .ok (.if_icmp .ne 7, 3) := by decide +kernel
theorem dX2_hasStroke_47 : decode cX2_hasStroke 47 = .ok (.iconst 1, 1) := by decide +kernel
theorem dX2_hasStroke_48 : decode cX2_hasStroke 48 = .ok (.goto 4, 3) := by decide +kernel
theorem dX2_hasStroke_51 : decode cX2_hasStroke 51 = .ok (.iconst 0, 1) := by decide +kernel
theorem dX2_hasStroke_52 : decode cX2_hasStroke 52 = .ok (.ireturn, 1) := by decide +kernel
theorem dX2_draw_0 : decode cX2_draw 0 = .ok (.iload_n 3, 1) := by decide +kernel
theorem dX2_draw_1 : decode cX2_draw 1 = .ok (.ifCond .eq 10, 3) := by decide +kernel
theorem dX2_draw_4 : decode cX2_draw 4 = .ok (.aload_n 0, 1) := by decide +kernel
theorem dX2_draw_5 : decode cX2_draw 5 = .ok (.getfield 15, 3) := by decide +kernel
theorem dX2_draw_8 : decode cX2_draw 8 = .ok (.goto 7, 3) := by decide +kernel
theorem dX2_draw_11 : decode cX2_draw 11 = .ok (.aload_n 0, 1) := by decide +kernel
theorem dX2_draw_12 : decode cX2_draw 12 = .ok (.getfield 9, 3) := by decide +kernel
theorem dX2_draw_15 : decode cX2_draw 15 = .ok (.astore 4, 2) := by decide +kernel
theorem dX2_draw_17 : decode cX2_draw 17 = .ok (.iload_n 1, 1) := by decide +kernel
theorem dX2_draw_18 : decode cX2_draw 18 = .ok (.invokestatic 22, 3) := by decide +kernel
theorem dX2_draw_21 : decode cX2_draw 21 = .ok (.ifCond .eq 26, 3) := by decide +kernel
theorem dX2_draw_24 : decode cX2_draw 24 = .ok (.iload_n 2, 1) := by decide +kernel
theorem dX2_draw_25 : decode cX2_draw 25 = .ok (.ifCond .lt 22, 3) := by decide +kernel
theorem dX2_draw_28 : decode cX2_draw 28 = .ok (.iload_n 2, 1) := by decide +kernel
theorem dX2_draw_29 : decode cX2_draw 29 = .ok (.aload 4, 2) := by decide +kernel
theorem dX2_draw_31 : decode cX2_draw 31 = .ok (.arraylength, 1) := by decide +kernel
theorem dX2_draw_32 : decode cX2_draw 32 = .ok (.if_icmp .ge 15, 3) := by decide +kernel
theorem dX2_draw_35 : decode cX2_draw 35 = .ok (.aload 4, 2) := by decide +kernel
theorem dX2_draw_37 : decode cX2_draw 37 = .ok (.iload_n 2, 1) := by decide +kernel
theorem dX2_draw_38 : decode cX2_draw 38 = .ok (.iaload, 1) := by decide +kernel
theorem dX2_draw_39 : decode cX2_draw 39 = .ok (.iload_n 1, 1) := by decide +kernel
theorem dX2_draw_40 : decode cX2_draw 40 = .ok (.ishr, 1) := by decide +kernel
theorem dX2_draw_41 : decode cX2_draw 41 = .ok (.iconst 1, 1) := by decide +kernel
theorem dX2_draw_42 : decode cX2_draw 42 = .ok (.iand, 1) := by decide +kernel
theorem dX2_draw_43 : decode cX2_draw 43 = .ok (.iconst 1, 1) := by decide +kernel
theorem dX2_draw_44 : decode cX2_draw 44 = .ok (.if_icmp .ne 4, 3) := by decide +kernel
theorem dX2_draw_47 : decode cX2_draw 47 = .ok (.return_, 1) := by decide +kernel
theorem dX2_draw_48 : decode cX2_draw 48 = .ok (.aload 4, 2) := by decide +kernel
theorem dX2_draw_50 : decode cX2_draw 50 = .ok (.iload_n 2, 1) := by decide +kernel
theorem dX2_draw_51 : decode cX2_draw 51 = .ok (.dup2, 1) := by decide +kernel
theorem dX2_draw_52 : decode cX2_draw 52 = .ok (.iaload, 1) := by decide +kernel
theorem dX2_draw_53 : decode cX2_draw 53 = .ok (.iconst 1, 1) := by decide +kernel
theorem dX2_draw_54 : decode cX2_draw 54 = .ok (.iload_n 1, 1) := by decide +kernel
theorem dX2_draw_55 : decode cX2_draw 55 = .ok (.ishl, 1) := by decide +kernel
theorem dX2_draw_56 : decode cX2_draw 56 = .ok (.ior, 1) := by decide +kernel
theorem dX2_draw_57 : decode cX2_draw 57 = .ok (.iastore, 1) := by decide +kernel
theorem dX2_draw_58 : decode cX2_draw 58 = .ok (.aload_n 0, 1) := by decide +kernel
theorem dX2_draw_59 : decode cX2_draw 59 = .ok (.iload_n 1, 1) := by decide +kernel
theorem dX2_draw_60 : decode cX2_draw 60 = .ok (.iload_n 2, 1) := by decide +kernel
theorem dX2_draw_61 : decode cX2_draw 61 = .ok (.iload_n 3, 1) := by decide +kernel
theorem dX2_draw_62 : decode cX2_draw 62 = .ok (.ifCond .eq 7, 3) := by decide +kernel
theorem dX2_draw_65 : decode cX2_draw 65 = .ok (.iload_n 1, 1) := by decide +kernel
theorem dX2_draw_66 : decode cX2_draw 66 = .ok (.goto 6, 3) := by decide +kernel
theorem dX2_draw_69 : decode cX2_draw 69 = .ok (.iload_n 1, 1) := by decide +kernel
theorem dX2_draw_70 : decode cX2_draw 70 = .ok (.iconst 1, 1) := by decide +kernel
theorem dX2_draw_71 : decode cX2_draw 71 = .ok (.iadd, 1) := by decide +kernel
theorem dX2_draw_72 : decode cX2_draw 72 = .ok (.iload_n 3, 1) := by decide +kernel
theorem dX2_draw_73 : decode cX2_draw 73 = .ok (.ifCond .eq 9, 3) := by decide +kernel
theorem dX2_draw_76 : decode cX2_draw 76 = .ok (.iload_n 2, 1) := by decide +kernel
theorem dX2_draw_77 : decode cX2_draw 77 = .ok (.iconst 1, 1) := by decide +kernel
theorem dX2_draw_78 : decode cX2_draw 78 = .ok (.iadd, 1) := by decide +kernel
theorem dX2_draw_79 : decode cX2_draw 79 = .ok (.goto 4, 3) := by decide +kernel
theorem dX2_draw_82 : decode cX2_draw 82 = .ok (.iload_n 2, 1) := by decide +kernel
theorem dX2_draw_83 : decode cX2_draw 83 = .ok (.invokevirtual 26, 3) := by decide +kernel
theorem dX2_draw_86 : decode cX2_draw 86 = .ok (.aload_n 0, 1) := by decide +kernel
theorem dX2_draw_87 : decode cX2_draw 87 = .ok (.dup, 1) := by decide +kernel
theorem dX2_draw_88 : decode cX2_draw 88 = .ok (.getfield 18, 3) := by decide +kernel
theorem dX2_draw_91 : decode cX2_draw 91 = .ok (.iconst 1, 1) := by decide +kernel
theorem dX2_draw_92 : decode cX2_draw 92 = .ok (.iadd, 1) := by decide +kernel
theorem dX2_draw_93 : decode cX2_draw 93 = .ok (.putfield 18, 3) := by decide +kernel
theorem dX2_draw_96 : decode cX2_draw 96 = .ok (.return_, 1) := by decide +kernel
theorem dX2_takeIn_0 : decode cX2_takeIn 0 = .ok (.aload_n 0, 1) := by decide +kernel
theorem dX2_takeIn_1 : decode cX2_takeIn 1 = .ok (.getfield 18, 3) := by decide +kernel
theorem dX2_takeIn_4 : decode cX2_takeIn 4 = .ok (.ifCond .ne 7, 3) := by decide +kernel
theorem dX2_takeIn_7 : decode cX2_takeIn 7 = .ok (.iconst 1, 1) := by decide +kernel
theorem dX2_takeIn_8 : decode cX2_takeIn 8 = .ok (.goto 4, 3) := by decide +kernel
theorem dX2_takeIn_11 : decode cX2_takeIn 11 = .ok (.iconst 0, 1) := by decide +kernel
theorem dX2_takeIn_12 : decode cX2_takeIn 12 = .ok (.istore 5, 2) := by decide +kernel
theorem dX2_takeIn_14 : decode cX2_takeIn 14 = .ok (.aload_n 0, 1) := by decide +kernel
theorem dX2_takeIn_15 : decode cX2_takeIn 15 = .ok (.iload 5, 2) := by decide +kernel
theorem dX2_takeIn_17 : decode cX2_takeIn 17 = .ok (.ifCond .ne 11, 3) := by decide +kernel
theorem dX2_takeIn_20 : decode cX2_takeIn 20 = .ok (.iload_n 1, 1) := by decide +kernel
theorem dX2_takeIn_21 : decode cX2_takeIn 21 = .ok (.aload_n 0, 1) := by decide +kernel
theorem dX2_takeIn_22 : decode cX2_takeIn 22 = .ok (.getfield 30, 3) := by decide +kernel
theorem dX2_takeIn_25 : decode cX2_takeIn 25 = .ok (.if_icmp .ge 7, 3) := by decide +kernel
theorem dX2_takeIn_28 : decode cX2_takeIn 28 = .ok (.iload_n 1, 1) := by decide +kernel
theorem dX2_takeIn_29 : decode cX2_takeIn 29 = .ok (.goto 7, 3) := by decide +kernel
theorem dX2_takeIn_32 : decode cX2_takeIn 32 = .ok (.aload_n 0, 1) := by decide +kernel
theorem dX2_takeIn_33 : decode cX2_takeIn 33 = .ok (.getfield 30, 3) := by decide +kernel
theorem dX2_takeIn_36 : decode cX2_takeIn 36 = .ok (.putfield 30, 3) := by decide +kernel
theorem dX2_takeIn_39 : decode cX2_takeIn 39 = .ok (.aload_n 0, 1) := by decide +kernel
theorem dX2_takeIn_40 : decode cX2_takeIn 40 = .ok (.iload 5, 2) := by decide +kernel
theorem dX2_takeIn_42 : decode cX2_takeIn 42 = .ok (.ifCond .ne 11, 3) := by decide +kernel
theorem dX2_takeIn_45 : decode cX2_takeIn 45 = .ok (.iload_n 2, 1) := by decide +kernel
theorem dX2_takeIn_46 : decode cX2_takeIn 46 = .ok (.aload_n 0, 1) := by decide +kernel
theorem dX2_takeIn_47 : decode cX2_takeIn 47 = .ok (.getfield 33, 3) := by decide +kernel
theorem dX2_takeIn_50 : decode cX2_takeIn 50 = .ok (.if_icmp .ge 7, 3) := by decide +kernel
theorem dX2_takeIn_53 : decode cX2_takeIn 53 = .ok (.iload_n 2, 1) := by decide +kernel
theorem dX2_takeIn_54 : decode cX2_takeIn 54 = .ok (.goto 7, 3) := by decide +kernel
theorem dX2_takeIn_57 : decode cX2_takeIn 57 = .ok (.aload_n 0, 1) := by decide +kernel
theorem dX2_takeIn_58 : decode cX2_takeIn 58 = .ok (.getfield 33, 3) := by decide +kernel
theorem dX2_takeIn_61 : decode cX2_takeIn 61 = .ok (.putfield 33, 3) := by decide +kernel
theorem dX2_takeIn_64 : decode cX2_takeIn 64 = .ok (.aload_n 0, 1) := by decide +kernel
theorem dX2_takeIn_65 : decode cX2_takeIn 65 = .ok (.iload 5, 2) := by decide +kernel
theorem dX2_takeIn_67 : decode cX2_takeIn 67 = .ok (.ifCond .ne 11, 3) := by decide +kernel
theorem dX2_takeIn_70 : decode cX2_takeIn 70 = .ok (.iload_n 3, 1) := by decide +kernel
theorem dX2_takeIn_71 : decode cX2_takeIn 71 = .ok (.aload_n 0, 1) := by decide +kernel
theorem dX2_takeIn_72 : decode cX2_takeIn 72 = .ok (.getfield 36, 3) := by decide +kernel
theorem dX2_takeIn_75 : decode cX2_takeIn 75 = .ok (.if_icmp .le 7, 3) := by decide +kernel
theorem dX2_takeIn_78 : decode cX2_takeIn 78 = .ok (.iload_n 3, 1) := by decide +kernel
theorem dX2_takeIn_79 : decode cX2_takeIn 79 = .ok (.goto 7, 3) := by decide +kernel
theorem dX2_takeIn_82 : decode cX2_takeIn 82 = .ok (.aload_n 0, 1) := by decide +kernel
theorem dX2_takeIn_83 : decode cX2_takeIn 83 = .ok (.getfield 36, 3) := by decide +kernel
theorem dX2_takeIn_86 : decode cX2_takeIn 86 = .ok (.putfield 36, 3) := by decide +kernel
theorem dX2_takeIn_89 : decode cX2_takeIn 89 = .ok (.aload_n 0, 1) := by decide +kernel
theorem dX2_takeIn_90 : decode cX2_takeIn 90 = .ok (.iload 5, 2) := by decide +kernel
theorem dX2_takeIn_92 : decode cX2_takeIn 92 = .ok (.ifCond .ne 12, 3) := by decide +kernel
theorem dX2_takeIn_95 : decode cX2_takeIn 95 = .ok (.iload 4, 2) := by decide +kernel
theorem dX2_takeIn_97 : decode cX2_takeIn 97 = .ok (.aload_n 0, 1) := by decide +kernel
theorem dX2_takeIn_98 : decode cX2_takeIn 98 = .ok (.getfield 39, 3) := by decide +kernel
theorem dX2_takeIn_101 : decode cX2_takeIn 101 = .ok (.if_icmp .le 8, 3) := by decide +kernel
theorem dX2_takeIn_104 : decode cX2_takeIn 104 = .ok (.iload 4, 2) := by decide +kernel
theorem dX2_takeIn_106 : decode cX2_takeIn 106 = .ok (.goto 7, 3) := by decide +kernel
theorem dX2_takeIn_109 : decode cX2_takeIn 109 = .ok (.aload_n 0, 1) := by decide +kernel
theorem dX2_takeIn_110 : decode cX2_takeIn 110 = .ok (.getfield 39, 3) := by decide +kernel
theorem dX2_takeIn_113 : decode cX2_takeIn 113 = .ok (.putfield 39, 3) := by decide +kernel
theorem dX2_takeIn_116 : decode cX2_takeIn 116 = .ok (.return_, 1) := by decide +kernel
theorem dX2_cellsWide_0 : decode cX2_cellsWide 0 = .ok (.aload_n 0, 1) := by decide +kernel
theorem dX2_cellsWide_1 : decode cX2_cellsWide 1 = .ok (.getfield 18, 3) := by decide +kernel
theorem dX2_cellsWide_4 : decode cX2_cellsWide 4 = .ok (.ifCond .ne 7, 3) := by decide +kernel
theorem dX2_cellsWide_7 : decode cX2_cellsWide 7 = .ok (.iconst 1, 1) := by decide +kernel
theorem dX2_cellsWide_8 : decode cX2_cellsWide 8 = .ok (.goto 14, 3) := by decide +kernel
theorem dX2_cellsWide_11 : decode cX2_cellsWide 11 = .ok (.aload_n 0, 1) := by decide +kernel
theorem dX2_cellsWide_12 : decode cX2_cellsWide 12 = .ok (.getfield 36, 3) := by decide +kernel
theorem dX2_cellsWide_15 : decode cX2_cellsWide 15 = .ok (.aload_n 0, 1) := by decide +kernel
theorem dX2_cellsWide_16 : decode cX2_cellsWide 16 = .ok (.getfield 30, 3) := by decide +kernel
theorem dX2_cellsWide_19 : decode cX2_cellsWide 19 = .ok (.isub, 1) := by decide +kernel
theorem dX2_cellsWide_20 : decode cX2_cellsWide 20 = .ok (.iconst 1, 1) := by decide +kernel
theorem dX2_cellsWide_21 : decode cX2_cellsWide 21 = .ok (.iadd, 1) := by decide +kernel
theorem dX2_cellsWide_22 : decode cX2_cellsWide 22 = .ok (.ireturn, 1) := by decide +kernel
theorem dX2_cellsHigh_0 : decode cX2_cellsHigh 0 = .ok (.aload_n 0, 1) := by decide +kernel
theorem dX2_cellsHigh_1 : decode cX2_cellsHigh 1 = .ok (.getfield 18, 3) := by decide +kernel
theorem dX2_cellsHigh_4 : decode cX2_cellsHigh 4 = .ok (.ifCond .ne 7, 3) := by decide +kernel
theorem dX2_cellsHigh_7 : decode cX2_cellsHigh 7 = .ok (.iconst 1, 1) := by decide +kernel
theorem dX2_cellsHigh_8 : decode cX2_cellsHigh 8 = .ok (.goto 14, 3) := by decide +kernel
theorem dX2_cellsHigh_11 : decode cX2_cellsHigh 11 = .ok (.aload_n 0, 1) := by decide +kernel
theorem dX2_cellsHigh_12 : decode cX2_cellsHigh 12 = .ok (.getfield 39, 3) := by decide +kernel
theorem dX2_cellsHigh_15 : decode cX2_cellsHigh 15 = .ok (.aload_n 0, 1) := by decide +kernel
theorem dX2_cellsHigh_16 : decode cX2_cellsHigh 16 = .ok (.getfield 33, 3) := by decide +kernel
theorem dX2_cellsHigh_19 : decode cX2_cellsHigh 19 = .ok (.isub, 1) := by decide +kernel
theorem dX2_cellsHigh_20 : decode cX2_cellsHigh 20 = .ok (.iconst 1, 1) := by decide +kernel
theorem dX2_cellsHigh_21 : decode cX2_cellsHigh 21 = .ok (.iadd, 1) := by decide +kernel
theorem dX2_cellsHigh_22 : decode cX2_cellsHigh 22 = .ok (.ireturn, 1) := by decide +kernel
theorem dX2_isShiftOf_0 : decode cX2_isShiftOf 0 = .ok (.aload_n 0, 1) := by decide +kernel
theorem dX2_isShiftOf_1 : decode cX2_isShiftOf 1 = .ok (.getfield 18, 3) := by decide +kernel
theorem dX2_isShiftOf_4 : decode cX2_isShiftOf 4 = .ok (.aload_n 1, 1) := by decide +kernel
theorem dX2_isShiftOf_5 : decode cX2_isShiftOf 5 = .ok (.getfield 18, 3) := by decide +kernel
theorem dX2_isShiftOf_8 : decode cX2_isShiftOf 8 = .ok (.if_icmp .eq 5, 3) := by decide +kernel
theorem dX2_isShiftOf_11 : decode cX2_isShiftOf 11 = .ok (.iconst 0, 1) := by decide +kernel
theorem dX2_isShiftOf_12 : decode cX2_isShiftOf 12 = .ok (.ireturn, 1) := by decide +kernel
theorem dX2_isShiftOf_13 : decode cX2_isShiftOf 13 = .ok (.aload_n 0, 1) := by decide +kernel
theorem dX2_isShiftOf_14 : decode cX2_isShiftOf 14 = .ok (.getfield 18, 3) := by decide +kernel
theorem dX2_isShiftOf_17 : decode cX2_isShiftOf 17 = .ok (.ifCond .ne 5, 3) := by decide +kernel
theorem dX2_isShiftOf_20 : decode cX2_isShiftOf 20 = .ok (.iconst 1, 1) := by decide +kernel
theorem dX2_isShiftOf_21 : decode cX2_isShiftOf 21 = .ok (.ireturn, 1) := by decide +kernel
theorem dX2_isShiftOf_22 : decode cX2_isShiftOf 22 = .ok (.iconst 0, 1) := by decide +kernel
theorem dX2_isShiftOf_23 : decode cX2_isShiftOf 23 = .ok (.istore_n 2, 1) := by decide +kernel
theorem dX2_isShiftOf_24 : decode cX2_isShiftOf 24 = .ok (.iload_n 2, 1) := by decide +kernel
theorem dX2_isShiftOf_25 : decode cX2_isShiftOf 25 = .ok (.bipush 16, 2) := by decide +kernel
theorem dX2_isShiftOf_27 : decode cX2_isShiftOf 27 = .ok (.if_icmp .ge 53, 3) := by decide +kernel
theorem dX2_isShiftOf_30 : decode cX2_isShiftOf 30 = .ok (.aload_n 0, 1) := by decide +kernel
theorem dX2_isShiftOf_31 : decode cX2_isShiftOf 31 = .ok (.aload_n 0, 1) := by decide +kernel
theorem dX2_isShiftOf_32 : decode cX2_isShiftOf 32 = .ok (.getfield 9, 3) := by decide +kernel
theorem dX2_isShiftOf_35 : decode cX2_isShiftOf 35 = .ok (.iload_n 2, 1) := by decide +kernel
theorem dX2_isShiftOf_36 : decode cX2_isShiftOf 36 = .ok (.invokevirtual 42, 3) := by decide +kernel
theorem dX2_isShiftOf_39 : decode cX2_isShiftOf 39 = .ok (.aload_n 1, 1) := by decide +kernel
theorem dX2_isShiftOf_40 : decode cX2_isShiftOf 40 = .ok (.aload_n 1, 1) := by decide +kernel
theorem dX2_isShiftOf_41 : decode cX2_isShiftOf 41 = .ok (.getfield 9, 3) := by decide +kernel
theorem dX2_isShiftOf_44 : decode cX2_isShiftOf 44 = .ok (.iload_n 2, 1) := by decide +kernel
theorem dX2_isShiftOf_45 : decode cX2_isShiftOf 45 = .ok (.invokevirtual 42, 3) := by decide +kernel
theorem dX2_isShiftOf_48 : decode cX2_isShiftOf 48 = .ok (.if_icmp .ne 24, 3) := by decide +kernel
theorem dX2_isShiftOf_51 : decode cX2_isShiftOf 51 = .ok (.aload_n 0, 1) := by decide +kernel
theorem dX2_isShiftOf_52 : decode cX2_isShiftOf 52 = .ok (.aload_n 0, 1) := by decide +kernel
theorem dX2_isShiftOf_53 : decode cX2_isShiftOf 53 = .ok (.getfield 15, 3) := by decide +kernel
theorem dX2_isShiftOf_56 : decode cX2_isShiftOf 56 = .ok (.iload_n 2, 1) := by decide +kernel
theorem dX2_isShiftOf_57 : decode cX2_isShiftOf 57 = .ok (.invokevirtual 42, 3) := by decide +kernel
theorem dX2_isShiftOf_60 : decode cX2_isShiftOf 60 = .ok (.aload_n 1, 1) := by decide +kernel
theorem dX2_isShiftOf_61 : decode cX2_isShiftOf 61 = .ok (.aload_n 1, 1) := by decide +kernel
theorem dX2_isShiftOf_62 : decode cX2_isShiftOf 62 = .ok (.getfield 15, 3) := by decide +kernel
theorem dX2_isShiftOf_65 : decode cX2_isShiftOf 65 = .ok (.iload_n 2, 1) := by decide +kernel
theorem dX2_isShiftOf_66 : decode cX2_isShiftOf 66 = .ok (.invokevirtual 42, 3) := by decide +kernel
theorem dX2_isShiftOf_69 : decode cX2_isShiftOf 69 = .ok (.if_icmp .eq 5, 3) := by decide +kernel
theorem dX2_isShiftOf_72 : decode cX2_isShiftOf 72 = .ok (.iconst 0, 1) := by decide +kernel
theorem dX2_isShiftOf_73 : decode cX2_isShiftOf 73 = .ok (.ireturn, 1) := by decide +kernel
theorem dX2_isShiftOf_74 : decode cX2_isShiftOf 74 = .ok (.iinc 2 1, 3) := by decide +kernel
theorem dX2_isShiftOf_77 : decode cX2_isShiftOf 77 = .ok (.goto (-53), 3) := by decide +kernel
theorem dX2_isShiftOf_80 : decode cX2_isShiftOf 80 = .ok (.iconst 1, 1) := by decide +kernel
theorem dX2_isShiftOf_81 : decode cX2_isShiftOf 81 = .ok (.ireturn, 1) := by decide +kernel
theorem dX2_rowInCorner_0 : decode cX2_rowInCorner 0 = .ok (.aload_n 0, 1) := by decide +kernel
theorem dX2_rowInCorner_1 : decode cX2_rowInCorner 1 = .ok (.getfield 33, 3) := by decide +kernel
theorem dX2_rowInCorner_4 : decode cX2_rowInCorner 4 = .ok (.iload_n 2, 1) := by decide +kernel
theorem dX2_rowInCorner_5 : decode cX2_rowInCorner 5 = .ok (.iadd, 1) := by decide +kernel
theorem dX2_rowInCorner_6 : decode cX2_rowInCorner 6 = .ok (.istore_n 3, 1) := by decide +kernel
theorem dX2_rowInCorner_7 : decode cX2_rowInCorner 7 = .ok (.aload_n 0, 1) := by decide +kernel
theorem dX2_rowInCorner_8 : decode cX2_rowInCorner 8 = .ok (.getfield 30, 3) := by decide +kernel
theorem dX2_rowInCorner_11 : decode cX2_rowInCorner 11 = .ok (.invokestatic 22, 3) := by decide +kernel
theorem dX2_rowInCorner_14 : decode cX2_rowInCorner 14 = .ok (.ifCond .eq 24, 3) := by decide +kernel
theorem dX2_rowInCorner_17 : decode cX2_rowInCorner 17 = .ok (.iload_n 3, 1) := by decide +kernel
theorem dX2_rowInCorner_18 : decode cX2_rowInCorner 18 = .ok (.ifCond .lt 20, 3) := by decide +kernel
theorem dX2_rowInCorner_21 : decode cX2_rowInCorner 21 = .ok (.iload_n 3, 1) := by decide +kernel
theorem dX2_rowInCorner_22 : decode cX2_rowInCorner 22 = .ok (.aload_n 1, 1) := by decide +kernel
theorem dX2_rowInCorner_23 : decode cX2_rowInCorner 23 = .ok (.arraylength, 1) := by decide +kernel
theorem dX2_rowInCorner_24 : decode cX2_rowInCorner 24 = .ok (.if_icmp .ge 14, 3) := by decide +kernel
theorem dX2_rowInCorner_27 : decode cX2_rowInCorner 27 = .ok (.aload_n 1, 1) := by decide +kernel
theorem dX2_rowInCorner_28 : decode cX2_rowInCorner 28 = .ok (.iload_n 3, 1) := by decide +kernel
theorem dX2_rowInCorner_29 : decode cX2_rowInCorner 29 = .ok (.iaload, 1) := by decide +kernel
theorem dX2_rowInCorner_30 : decode cX2_rowInCorner 30 = .ok (.aload_n 0, 1) := by decide +kernel
theorem dX2_rowInCorner_31 : decode cX2_rowInCorner 31 = .ok (.getfield 30, 3) := by decide +kernel
theorem dX2_rowInCorner_34 : decode cX2_rowInCorner 34 = .ok (.ishr, 1) := by decide +kernel
theorem dX2_rowInCorner_35 : decode cX2_rowInCorner 35 = .ok (.goto 4, 3) := by decide +kernel
theorem dX2_rowInCorner_38 : decode cX2_rowInCorner 38 = .ok (.iconst 0, 1) := by decide +kernel
theorem dX2_rowInCorner_39 : decode cX2_rowInCorner 39 = .ok (.ireturn, 1) := by decide +kernel
theorem dX3_init_0 : decode cX3_init 0 = .ok (.aload_n 0, 1) := by decide +kernel
theorem dX3_init_1 : decode cX3_init 1 = .ok (.invokespecial 3, 3) := by decide +kernel
theorem dX3_init_4 : decode cX3_init 4 = .ok (.aload_n 0, 1) := by decide +kernel
theorem dX3_init_5 : decode cX3_init 5 = .ok (.aload_n 1, 1) := by decide +kernel
theorem dX3_init_6 : decode cX3_init 6 = .ok (.putfield 9, 3) := by decide +kernel
theorem dX3_init_9 : decode cX3_init 9 = .ok (.aload_n 0, 1) := by decide +kernel
theorem dX3_init_10 : decode cX3_init 10 = .ok (.iload_n 2, 1) := by decide +kernel
theorem dX3_init_11 : decode cX3_init 11 = .ok (.putfield 15, 3) := by decide +kernel
theorem dX3_init_14 : decode cX3_init 14 = .ok (.aload_n 0, 1) := by decide +kernel
theorem dX3_init_15 : decode cX3_init 15 = .ok (.iload_n 3, 1) := by decide +kernel
theorem dX3_init_16 : decode cX3_init 16 = .ok (.putfield 19, 3) := by decide +kernel
theorem dX3_init_19 : decode cX3_init 19 = .ok (.return_, 1) := by decide +kernel
theorem dX3_allowAtMost_0 : decode cX3_allowAtMost 0 = .ok (.aload_n 0, 1) := by decide +kernel
theorem dX3_allowAtMost_1 : decode cX3_allowAtMost 1 = .ok (.iload_n 1, 1) := by decide +kernel
theorem dX3_allowAtMost_2 : decode cX3_allowAtMost 2 = .ok (.putfield 15, 3) := by decide +kernel
theorem dX3_allowAtMost_5 : decode cX3_allowAtMost 5 = .ok (.aload_n 0, 1) := by decide +kernel
theorem dX3_allowAtMost_6 : decode cX3_allowAtMost 6 = .ok (.iload_n 2, 1) := by decide +kernel
theorem dX3_allowAtMost_7 : decode cX3_allowAtMost 7 = .ok (.putfield 19, 3) := by decide +kernel
theorem dX3_allowAtMost_10 : decode cX3_allowAtMost 10 = .ok (.return_, 1) := by decide +kernel
theorem dX3_isMetBy_0 : decode cX3_isMetBy 0 = .ok (.aload_n 1, 1) := by decide +kernel
theorem dX3_isMetBy_1 : decode cX3_isMetBy 1 = .ok (.getfield 22, 3) := by decide +kernel
theorem dX3_isMetBy_4 : decode cX3_isMetBy 4 = .ok (.ifCond .ne 46, 3) := by decide +kernel
theorem dX3_isMetBy_7 : decode cX3_isMetBy 7 = .ok (.aload_n 1, 1) := by decide +kernel
theorem dX3_isMetBy_8 : decode cX3_isMetBy 8 = .ok (.invokevirtual 27, 3) := by decide +kernel
theorem dX3_isMetBy_11 : decode cX3_isMetBy 11 = .ok (.aload_n 0, 1) := by decide +kernel
theorem dX3_isMetBy_12 : decode cX3_isMetBy 12 = .ok (.getfield 15, 3) := by decide +kernel
theorem dX3_isMetBy_15 : decode cX3_isMetBy 15 = .ok (.if_icmp .gt 35, 3) := by decide +kernel
theorem dX3_isMetBy_18 : decode cX3_isMetBy 18 = .ok (.aload_n 1, 1) := by decide +kernel
theorem dX3_isMetBy_19 : decode cX3_isMetBy 19 = .ok (.getfield 31, 3) := by decide +kernel
theorem dX3_isMetBy_22 : decode cX3_isMetBy 22 = .ok (.aload_n 0, 1) := by decide +kernel
theorem dX3_isMetBy_23 : decode cX3_isMetBy 23 = .ok (.getfield 19, 3) := by decide +kernel
theorem dX3_isMetBy_26 : decode cX3_isMetBy 26 = .ok (.if_icmp .gt 24, 3) := by decide +kernel
theorem dX3_isMetBy_29 : decode cX3_isMetBy 29 = .ok (.aload_n 1, 1) := by decide +kernel
theorem dX3_isMetBy_30 : decode cX3_isMetBy 30 = .ok (.getfield 34, 3) := by decide +kernel
theorem dX3_isMetBy_33 : decode cX3_isMetBy 33 = .ok (.aload_n 0, 1) := by decide +kernel
theorem dX3_isMetBy_34 : decode cX3_isMetBy 34 = .ok (.getfield 9, 3) := by decide +kernel
theorem dX3_isMetBy_37 : decode cX3_isMetBy 37 = .ok (.getfield 34, 3) := by decide +kernel
theorem dX3_isMetBy_40 : decode cX3_isMetBy 40 = .ok (.invokevirtual 38, 3) := by decide +kernel
theorem dX3_isMetBy_43 : decode cX3_isMetBy 43 = .ok (.ifCond .eq 7, 3) := by decide +kernel
theorem dX3_isMetBy_46 : decode cX3_isMetBy 46 = .ok (.iconst 1, 1) := by decide +kernel
theorem dX3_isMetBy_47 : decode cX3_isMetBy 47 = .ok (.goto 4, 3) := by decide +kernel
theorem dX3_isMetBy_50 : decode cX3_isMetBy 50 = .ok (.iconst 0, 1) := by decide +kernel
theorem dX3_isMetBy_51 : decode cX3_isMetBy 51 = .ok (.ireturn, 1) := by decide +kernel
theorem dX4_init_0 : decode cX4_init 0 = .ok (.aload_n 0, 1) := by decide +kernel
theorem dX4_init_1 : decode cX4_init 1 = .ok (.invokespecial 3, 3) := by decide +kernel
theorem dX4_init_4 : decode cX4_init 4 = .ok (.aload_n 0, 1) := by decide +kernel
theorem dX4_init_5 : decode cX4_init 5 = .ok (.iload_n 1, 1) := by decide +kernel
theorem dX4_init_6 : decode cX4_init 6 = .ok (.putfield 9, 3) := by decide +kernel
theorem dX4_init_9 : decode cX4_init 9 = .ok (.aload_n 0, 1) := by decide +kernel
theorem dX4_init_10 : decode cX4_init 10 = .ok (.iload_n 2, 1) := by decide +kernel
theorem dX4_init_11 : decode cX4_init 11 = .ok (.putfield 15, 3) := by decide +kernel
theorem dX4_init_14 : decode cX4_init 14 = .ok (.aload_n 0, 1) := by decide +kernel
theorem dX4_init_15 : decode cX4_init 15 = .ok (.iload_n 3, 1) := by decide +kernel
theorem dX4_init_16 : decode cX4_init 16 = .ok (.putfield 18, 3) := by decide +kernel
theorem dX4_init_19 : decode cX4_init 19 = .ok (.aload_n 0, 1) := by decide +kernel
theorem dX4_init_20 : decode cX4_init 20 = .ok (.iload 4, 2) := by decide +kernel
theorem dX4_init_22 : decode cX4_init 22 = .ok (.putfield 21, 3) := by decide +kernel
theorem dX4_init_25 : decode cX4_init 25 = .ok (.return_, 1) := by decide +kernel
theorem dX4_opensBlock_0 : decode cX4_opensBlock 0 = .ok (.aload_n 0, 1) := by decide +kernel
theorem dX4_opensBlock_1 : decode cX4_opensBlock 1 = .ok (.getfield 9, 3) := by decide +kernel
theorem dX4_opensBlock_4 : decode cX4_opensBlock 4 = .ok (.iconst 5, 1) := by decide +kernel
theorem dX4_opensBlock_5 : decode cX4_opensBlock 5 = .ok (.if_icmp .eq 12, 3) := by decide +kernel
theorem dX4_opensBlock_8 : decode cX4_opensBlock 8 = .ok (.aload_n 0, 1) := by decide +kernel
theorem dX4_opensBlock_9 : decode cX4_opensBlock 9 = .ok (.getfield 9, 3) := by decide +kernel
theorem dX4_opensBlock_12 : decode cX4_opensBlock 12 = .ok (.bipush 6, 2) := by decide +kernel
theorem dX4_opensBlock_14 : decode cX4_opensBlock 14 = .ok (.if_icmp .ne 7, 3) := by decide +kernel
theorem dX4_opensBlock_17 : decode cX4_opensBlock 17 = .ok (.iconst 1, 1) := by decide +kernel
theorem dX4_opensBlock_18 : decode cX4_opensBlock 18 = .ok (.goto 4, 3) := by decide +kernel
theorem dX4_opensBlock_21 : decode cX4_opensBlock 21 = .ok (.iconst 0, 1) := by decide +kernel
theorem dX4_opensBlock_22 : decode cX4_opensBlock 22 = .ok (.ireturn, 1) := by decide +kernel
theorem dX5_init_0 : decode cX5_init 0 = .ok (.aload_n 0, 1) := by decide +kernel
theorem dX5_init_1 : decode cX5_init 1 = .ok (.invokespecial 3, 3) := by decide +kernel
theorem dX5_init_4 : decode cX5_init 4 = .ok (.aload_n 2, 1) := by decide +kernel
theorem dX5_init_5 : decode cX5_init 5 = .ok (.invokevirtual 9, 3) := by decide +kernel
theorem dX5_init_8 : decode cX5_init 8 = .ok (.ifCond .le 10, 3) := by decide +kernel
theorem dX5_init_11 : decode cX5_init 11 = .ok (.aload_n 2, 1) := by decide +kernel
theorem dX5_init_12 : decode cX5_init 12 = .ok (.invokevirtual 9, 3) := by decide +kernel
theorem dX5_init_15 : decode cX5_init 15 = .ok (.goto 4, 3) := by decide +kernel
theorem dX5_init_18 : decode cX5_init 18 = .ok (.iconst 0, 1) := by decide +kernel
theorem dX5_init_19 : decode cX5_init 19 = .ok (.istore_n 3, 1) := by decide +kernel
theorem dX5_init_20 : decode cX5_init 20 = .ok (.aload_n 0, 1) := by decide +kernel
theorem dX5_init_21 : decode cX5_init 21 = .ok (.iload_n 1, 1) := by decide +kernel
theorem dX5_init_22 : decode cX5_init 22 = .ok (.putfield 15, 3) := by decide +kernel
theorem dX5_init_25 : decode cX5_init 25 = .ok (.aload_n 0, 1) := by decide +kernel
theorem dX5_init_26 : decode cX5_init 26 = .ok (.iload_n 3, 1) := by decide +kernel
theorem dX5_init_27 : decode cX5_init 27 = .ok (.anewarray 21, 3) := by decide +kernel
theorem dX5_init_30 : decode cX5_init 30 = .ok (.putfield 23, 3) := by decide +kernel
theorem dX5_init_33 : decode cX5_init 33 = .ok (.aload_n 0, 1) := by decide +kernel
theorem dX5_init_34 : decode cX5_init 34 = .ok (.iload_n 3, 1) := by decide +kernel
theorem dX5_init_35 : decode cX5_init 35 = .ok (.newarray .int, 2) := by decide +kernel
theorem dX5_init_37 : decode cX5_init 37 = .ok (.putfield 27, 3) := by decide +kernel
theorem dX5_init_40 : decode cX5_init 40 = .ok (.aload_n 0, 1) := by decide +kernel
theorem dX5_init_41 : decode cX5_init 41 = .ok (.iload_n 3, 1) := by decide +kernel
theorem dX5_init_42 : decode cX5_init 42 = .ok (.newarray .int, 2) := by decide +kernel
theorem dX5_init_44 : decode cX5_init 44 = .ok (.putfield 31, 3) := by decide +kernel
theorem dX5_init_47 : decode cX5_init 47 = .ok (.aload_n 0, 1) := by decide +kernel
theorem dX5_init_48 : decode cX5_init 48 = .ok (.iconst 4, 1) := by decide +kernel
theorem dX5_init_49 : decode cX5_init 49 = .ok (.newarray .int, 2) := by decide +kernel
theorem dX5_init_51 : decode cX5_init 51 = .ok (.putfield 34, 3) := by decide +kernel
theorem dX5_init_54 : decode cX5_init 54 = .ok (.aload_n 0, 1) := by decide +kernel
theorem dX5_init_55 : decode cX5_init 55 = .ok (.new 37, 3) := by decide +kernel
theorem dX5_init_58 : decode cX5_init 58 = .ok (.dup, 1) := by decide +kernel
theorem dX5_init_59 : decode cX5_init 59 = .ok (.invokespecial 39, 3) := by decide +kernel
theorem dX5_init_62 : decode cX5_init 62 = .ok (.putfield 40, 3) := by decide +kernel
theorem dX5_init_65 : decode cX5_init 65 = .ok (.iconst 0, 1) := by decide +kernel
theorem dX5_init_66 : decode cX5_init 66 = .ok (.istore 4, 2) := by decide +kernel
theorem dX5_init_68 : decode cX5_init 68 = .ok (.iload 4, 2) := by decide +kernel
theorem dX5_init_70 : decode cX5_init 70 = .ok (.aload_n 0, 1) := by decide +kernel
theorem dX5_init_71 : decode cX5_init 71 = .ok (.getfield 34, 3) := by decide +kernel
theorem dX5_init_74 : decode cX5_init 74 = .ok (.arraylength, 1) := by decide +kernel
theorem dX5_init_75 : decode cX5_init 75 = .ok (.if_icmp .ge 17, 3) := by decide +kernel
theorem dX5_init_78 : decode cX5_init 78 = .ok (.aload_n 0, 1) := by decide +kernel
theorem dX5_init_79 : decode cX5_init 79 = .ok (.getfield 34, 3) := by decide +kernel
theorem dX5_init_82 : decode cX5_init 82 = .ok (.iload 4, 2) := by decide +kernel
theorem dX5_init_84 : decode cX5_init 84 = .ok (.iconst (-1), 1) := by decide +kernel
theorem dX5_init_85 : decode cX5_init 85 = .ok (.iastore, 1) := by decide +kernel
theorem dX5_init_86 : decode cX5_init 86 = .ok (.iinc 4 1, 3) := by decide +kernel
theorem dX5_init_89 : decode cX5_init 89 = .ok (.goto (-21), 3) := by decide +kernel
theorem dX5_init_92 : decode cX5_init 92 = .ok (.iconst 0, 1) := by decide +kernel
theorem dX5_init_93 : decode cX5_init 93 = .ok (.istore 4, 2) := by decide +kernel
theorem dX5_init_95 : decode cX5_init 95 = .ok (.iload 4, 2) := by decide +kernel
theorem dX5_init_97 : decode cX5_init 97 = .ok (.aload_n 0, 1) := by decide +kernel
theorem dX5_init_98 : decode cX5_init 98 = .ok (.getfield 23, 3) := by decide +kernel
theorem dX5_init_101 : decode cX5_init 101 = .ok (.arraylength, 1) := by decide +kernel
theorem dX5_init_102 : decode cX5_init 102 = .ok (.if_icmp .ge 22, 3) := by decide +kernel
theorem dX5_init_105 : decode cX5_init 105 = .ok (.aload_n 0, 1) := by decide +kernel
theorem dX5_init_106 : decode cX5_init 106 = .ok (.getfield 23, 3) := by decide +kernel
theorem dX5_init_109 : decode cX5_init 109 = .ok (.iload 4, 2) := by decide +kernel
theorem dX5_init_111 : decode cX5_init 111 = .ok (.aload_n 2, 1) := by decide +kernel
theorem dX5_init_112 : decode cX5_init 112 = .ok (.iload 4, 2) := by decide +kernel
theorem dX5_init_114 : decode cX5_init 114 = .ok (.invokevirtual 44, 3) := by decide +kernel
theorem dX5_init_117 : decode cX5_init 117 = .ok (.aastore, 1) := by decide +kernel
theorem dX5_init_118 : decode cX5_init 118 = .ok (.iinc 4 1, 3) := by decide +kernel
theorem dX5_init_121 : decode cX5_init 121 = .ok (.goto (-26), 3) := by decide +kernel
theorem dX5_init_124 : decode cX5_init 124 = .ok (.aload_n 0, 1) := by decide +kernel
theorem dX5_init_125 : decode cX5_init 125 = .ok (.invokevirtual 48, 3) := by decide +kernel
theorem dX5_init_128 : decode cX5_init 128 = .ok (.aload_n 0, 1) := by decide +kernel
theorem dX5_init_129 : decode cX5_init 129 = .ok (.invokevirtual 51, 3) := by decide +kernel
theorem dX5_init_132 : decode cX5_init 132 = .ok (.aload_n 0, 1) := by decide +kernel
theorem dX5_init_133 : decode cX5_init 133 = .ok (.invokevirtual 54, 3) := by decide +kernel
theorem dX5_init_136 : decode cX5_init 136 = .ok (.return_, 1) := by decide +kernel
theorem dX5_length_0 : decode cX5_length 0 = .ok (.aload_n 0, 1) := by decide +kernel
theorem dX5_length_1 : decode cX5_length 1 = .ok (.getfield 23, 3) := by decide +kernel
theorem dX5_length_4 : decode cX5_length 4 = .ok (.arraylength, 1) := by decide +kernel
theorem dX5_length_5 : decode cX5_length 5 = .ok (.ireturn, 1) := by decide +kernel
theorem dX5_orderAt_0 : decode cX5_orderAt 0 = .ok (.iload_n 1, 1) := by decide +kernel
theorem dX5_orderAt_1 : decode cX5_orderAt 1 = .ok (.ifCond .lt 21, 3) := by decide +kernel
theorem dX5_orderAt_4 : decode cX5_orderAt 4 = .ok (.iload_n 1, 1) := by decide +kernel
theorem dX5_orderAt_5 : decode cX5_orderAt 5 = .ok (.aload_n 0, 1) := by decide +kernel
theorem dX5_orderAt_6 : decode cX5_orderAt 6 = .ok (.getfield 23, 3) := by decide +kernel
theorem dX5_orderAt_9 : decode cX5_orderAt 9 = .ok (.arraylength, 1) := by decide +kernel
theorem dX5_orderAt_10 : decode cX5_orderAt 10 = .ok (.if_icmp .ge 12, 3) := by decide +kernel
theorem dX5_orderAt_13 : decode cX5_orderAt 13 = .ok (.aload_n 0, 1) := by decide +kernel
theorem dX5_orderAt_14 : decode cX5_orderAt 14 = .ok (.getfield 23, 3) := by decide +kernel
theorem dX5_orderAt_17 : decode cX5_orderAt 17 = .ok (.iload_n 1, 1) := by decide +kernel
theorem dX5_orderAt_18 : decode cX5_orderAt 18 = .ok (.aaload, 1) := by decide +kernel
theorem dX5_orderAt_19 : decode cX5_orderAt 19 = .ok (.goto 4, 3) := by decide +kernel
theorem dX5_orderAt_22 : decode cX5_orderAt 22 = .ok (.aconst_null, 1) := by decide +kernel
theorem dX5_orderAt_23 : decode cX5_orderAt 23 = .ok (.areturn, 1) := by decide +kernel
theorem dX5_partnerOf_0 : decode cX5_partnerOf 0 = .ok (.iload_n 1, 1) := by decide +kernel
theorem dX5_partnerOf_1 : decode cX5_partnerOf 1 = .ok (.ifCond .lt 21, 3) := by decide +kernel
theorem dX5_partnerOf_4 : decode cX5_partnerOf 4 = .ok (.iload_n 1, 1) := by decide +kernel
theorem dX5_partnerOf_5 : decode cX5_partnerOf 5 = .ok (.aload_n 0, 1) := by decide +kernel
theorem dX5_partnerOf_6 : decode cX5_partnerOf 6 = .ok (.getfield 27, 3) := by decide +kernel
theorem dX5_partnerOf_9 : decode cX5_partnerOf 9 = .ok (.arraylength, 1) := by decide +kernel
theorem dX5_partnerOf_10 : decode cX5_partnerOf 10 = .ok (.if_icmp .ge 12, 3) := by decide +kernel
theorem dX5_partnerOf_13 : decode cX5_partnerOf 13 = .ok (.aload_n 0, 1) := by decide +kernel
theorem dX5_partnerOf_14 : decode cX5_partnerOf 14 = .ok (.getfield 27, 3) := by decide +kernel
theorem dX5_partnerOf_17 : decode cX5_partnerOf 17 = .ok (.iload_n 1, 1) := by decide +kernel
theorem dX5_partnerOf_18 : decode cX5_partnerOf 18 = .ok (.iaload, 1) := by decide +kernel
theorem dX5_partnerOf_19 : decode cX5_partnerOf 19 = .ok (.goto 4, 3) := by decide +kernel
theorem dX5_partnerOf_22 : decode cX5_partnerOf 22 = .ok (.iconst (-1), 1) := by decide +kernel
theorem dX5_partnerOf_23 : decode cX5_partnerOf 23 = .ok (.ireturn, 1) := by decide +kernel
theorem dX5_startOf_0 : decode cX5_startOf 0 = .ok (.iload_n 1, 1) := by decide +kernel
theorem dX5_startOf_1 : decode cX5_startOf 1 = .ok (.ifCond .lt 21, 3) := by decide +kernel
theorem dX5_startOf_4 : decode cX5_startOf 4 = .ok (.iload_n 1, 1) := by decide +kernel
theorem dX5_startOf_5 : decode cX5_startOf 5 = .ok (.aload_n 0, 1) := by decide +kernel
theorem dX5_startOf_6 : decode cX5_startOf 6 = .ok (.getfield 34, 3) := by decide +kernel
theorem dX5_startOf_9 : decode cX5_startOf 9 = .ok (.arraylength, 1) := by decide +kernel
theorem dX5_startOf_10 : decode cX5_startOf 10 = .ok (.if_icmp .ge 12, 3) := by decide +kernel
theorem dX5_startOf_13 : decode cX5_startOf 13 = .ok (.aload_n 0, 1) := by decide +kernel
theorem dX5_startOf_14 : decode cX5_startOf 14 = .ok (.getfield 34, 3) := by decide +kernel
theorem dX5_startOf_17 : decode cX5_startOf 17 = .ok (.iload_n 1, 1) := by decide +kernel
theorem dX5_startOf_18 : decode cX5_startOf 18 = .ok (.iaload, 1) := by decide +kernel
theorem dX5_startOf_19 : decode cX5_startOf 19 = .ok (.goto 4, 3) := by decide +kernel
theorem dX5_startOf_22 : decode cX5_startOf 22 = .ok (.iconst (-1), 1) := by decide +kernel
theorem dX5_startOf_23 : decode cX5_startOf 23 = .ok (.ireturn, 1) := by decide +kernel
theorem dX5_keepOutcome_0 : decode cX5_keepOutcome 0 = .ok (.aload_n 0, 1) := by decide +kernel
theorem dX5_keepOutcome_1 : decode cX5_keepOutcome 1 = .ok (.iload_n 1, 1) := by decide +kernel
theorem dX5_keepOutcome_2 : decode cX5_keepOutcome 2 = .ok (.putfield 57, 3) := by decide +kernel
theorem dX5_keepOutcome_5 : decode cX5_keepOutcome 5 = .ok (.aload_n 0, 1) := by decide +kernel
theorem dX5_keepOutcome_6 : decode cX5_keepOutcome 6 = .ok (.iload_n 2, 1) := by decide +kernel
theorem dX5_keepOutcome_7 : decode cX5_keepOutcome 7 = .ok (.putfield 60, 3) := by decide +kernel
theorem dX5_keepOutcome_10 : decode cX5_keepOutcome 10 = .ok (.return_, 1) := by decide +kernel
theorem dX5_hasFormOf_0 : decode cX5_hasFormOf 0 = .ok (.aload_n 0, 1) := by decide +kernel
theorem dX5_hasFormOf_1 : decode cX5_hasFormOf 1 = .ok (.getfield 31, 3) := by decide +kernel
theorem dX5_hasFormOf_4 : decode cX5_hasFormOf 4 = .ok (.arraylength, 1) := by decide +kernel
theorem dX5_hasFormOf_5 : decode cX5_hasFormOf 5 = .ok (.aload_n 1, 1) := by decide +kernel
theorem dX5_hasFormOf_6 : decode cX5_hasFormOf 6 = .ok (.getfield 31, 3) := by decide +kernel
theorem dX5_hasFormOf_9 : decode cX5_hasFormOf 9 = .ok (.arraylength, 1) := by decide +kernel
theorem dX5_hasFormOf_10 : decode cX5_hasFormOf 10 = .ok (.if_icmp .eq 5, 3) := by decide +kernel
theorem dX5_hasFormOf_13 : decode cX5_hasFormOf 13 = .ok (.iconst 0, 1) := by decide +kernel
theorem dX5_hasFormOf_14 : decode cX5_hasFormOf 14 = .ok (.ireturn, 1) := by decide +kernel
theorem dX5_hasFormOf_15 : decode cX5_hasFormOf 15 = .ok (.iconst 0, 1) := by decide +kernel
theorem dX5_hasFormOf_16 : decode cX5_hasFormOf 16 = .ok (.istore_n 2, 1) := by decide +kernel
theorem dX5_hasFormOf_17 : decode cX5_hasFormOf 17 = .ok (.iload_n 2, 1) := by decide +kernel
theorem dX5_hasFormOf_18 : decode cX5_hasFormOf 18 = .ok (.aload_n 0, 1) := by decide +kernel
theorem dX5_hasFormOf_19 : decode cX5_hasFormOf 19 = .ok (.getfield 31, 3) := by decide +kernel
theorem dX5_hasFormOf_22 : decode cX5_hasFormOf 22 = .ok (.arraylength, 1) := by decide +kernel
theorem dX5_hasFormOf_23 : decode cX5_hasFormOf 23 = .ok (.if_icmp .ge 35, 3) := by decide +kernel
theorem dX5_hasFormOf_26 : decode cX5_hasFormOf 26 = .ok (.iload_n 2, 1) := by decide +kernel
theorem dX5_hasFormOf_27 : decode cX5_hasFormOf 27 = .ok (.aload_n 1, 1) := by decide +kernel
theorem dX5_hasFormOf_28 : decode cX5_hasFormOf 28 = .ok (.getfield 31, 3) := by decide +kernel
theorem dX5_hasFormOf_31 : decode cX5_hasFormOf 31 = .ok (.arraylength, 1) := by decide +kernel
theorem dX5_hasFormOf_32 : decode cX5_hasFormOf 32 = .ok (.if_icmp .ge 26, 3) := by decide +kernel
theorem dX5_hasFormOf_35 : decode cX5_hasFormOf 35 = .ok (.aload_n 0, 1) := by decide +kernel
theorem dX5_hasFormOf_36 : decode cX5_hasFormOf 36 = .ok (.getfield 31, 3) := by decide +kernel
theorem dX5_hasFormOf_39 : decode cX5_hasFormOf 39 = .ok (.iload_n 2, 1) := by decide +kernel
theorem dX5_hasFormOf_40 : decode cX5_hasFormOf 40 = .ok (.iaload, 1) := by decide +kernel
theorem dX5_hasFormOf_41 : decode cX5_hasFormOf 41 = .ok (.aload_n 1, 1) := by decide +kernel
theorem dX5_hasFormOf_42 : decode cX5_hasFormOf 42 = .ok (.getfield 31, 3) := by decide +kernel
theorem dX5_hasFormOf_45 : decode cX5_hasFormOf 45 = .ok (.iload_n 2, 1) := by decide +kernel
theorem dX5_hasFormOf_46 : decode cX5_hasFormOf 46 = .ok (.iaload, 1) := by decide +kernel
theorem dX5_hasFormOf_47 : decode cX5_hasFormOf 47 = .ok (.if_icmp .eq 5, 3) := by decide +kernel
theorem dX5_hasFormOf_50 : decode cX5_hasFormOf 50 = .ok (.iconst 0, 1) := by decide +kernel
theorem dX5_hasFormOf_51 : decode cX5_hasFormOf 51 = .ok (.ireturn, 1) := by decide +kernel
theorem dX5_hasFormOf_52 : decode cX5_hasFormOf 52 = .ok (.iinc 2 1, 3) := by decide +kernel
theorem dX5_hasFormOf_55 : decode cX5_hasFormOf 55 = .ok (.goto (-38), 3) := by decide +kernel
theorem dX5_hasFormOf_58 : decode cX5_hasFormOf 58 = .ok (.iconst 1, 1) := by decide +kernel
theorem dX5_hasFormOf_59 : decode cX5_hasFormOf 59 = .ok (.ireturn, 1) := by decide +kernel
theorem dX5_pairBlocks_0 : decode cX5_pairBlocks 0 = .ok (.iconst 0, 1) := by decide +kernel
theorem dX5_pairBlocks_1 : decode cX5_pairBlocks 1 = .ok (.istore_n 1, 1) := by decide +kernel
theorem dX5_pairBlocks_2 : decode cX5_pairBlocks 2 = .ok (.iload_n 1, 1) := by decide +kernel
theorem dX5_pairBlocks_3 : decode cX5_pairBlocks 3 = .ok (.aload_n 0, 1) := by decide +kernel
theorem dX5_pairBlocks_4 : decode cX5_pairBlocks 4 = .ok (.getfield 23, 3) := by decide +kernel
theorem dX5_pairBlocks_7 : decode cX5_pairBlocks 7 = .ok (.arraylength, 1) := by decide +kernel
theorem dX5_pairBlocks_8 : decode cX5_pairBlocks 8 = .ok (.if_icmp .ge 78, 3) := by decide +kernel
theorem dX5_pairBlocks_11 : decode cX5_pairBlocks 11 = .ok (.iload_n 1, 1) := by decide +kernel
theorem dX5_pairBlocks_12 : decode cX5_pairBlocks 12 = .ok (.aload_n 0, 1) := by decide +kernel
theorem dX5_pairBlocks_13 : decode cX5_pairBlocks 13 = .ok (.getfield 27, 3) := by decide +kernel
theorem dX5_pairBlocks_16 : decode cX5_pairBlocks 16 = .ok (.arraylength, 1) := by decide +kernel
theorem dX5_pairBlocks_17 : decode cX5_pairBlocks 17 = .ok (.if_icmp .ge 69, 3) := by decide +kernel
theorem dX5_pairBlocks_20 : decode cX5_pairBlocks 20 = .ok (.aload_n 0, 1) := by decide +kernel
theorem dX5_pairBlocks_21 : decode cX5_pairBlocks 21 = .ok (.getfield 27, 3) := by decide +kernel
theorem dX5_pairBlocks_24 : decode cX5_pairBlocks 24 = .ok (.iload_n 1, 1) := by decide +kernel
theorem dX5_pairBlocks_25 : decode cX5_pairBlocks 25 = .ok (.iconst (-1), 1) := by decide +kernel
theorem dX5_pairBlocks_26 : decode cX5_pairBlocks 26 = .ok (.iastore, 1) := by decide +kernel
theorem dX5_pairBlocks_27 : decode cX5_pairBlocks 27 = .ok (.aload_n 0, 1) := by decide +kernel
theorem dX5_pairBlocks_28 : decode cX5_pairBlocks 28 = .ok (.getfield 23, 3) := by decide +kernel
theorem dX5_pairBlocks_31 : decode cX5_pairBlocks 31 = .ok (.iload_n 1, 1) := by decide +kernel
theorem dX5_pairBlocks_32 : decode cX5_pairBlocks 32 = .ok (.aaload, 1) := by decide +kernel
theorem dX5_pairBlocks_33 : decode cX5_pairBlocks 33 = .ok (.astore_n 2, 1) := by decide +kernel
theorem dX5_pairBlocks_34 : decode cX5_pairBlocks 34 = .ok (.aload_n 2, 1) := by decide +kernel
theorem dX5_pairBlocks_35 : decode cX5_pairBlocks 35 = .ok (.ifnull 45, 3) := by decide +kernel
theorem dX5_pairBlocks_38 : decode cX5_pairBlocks 38 = .ok (.aload_n 2, 1) := by decide +kernel
theorem dX5_pairBlocks_39 : decode cX5_pairBlocks 39 = .ok (.getfield 63, 3) := by decide +kernel
theorem dX5_pairBlocks_42 : decode cX5_pairBlocks 42 = .ok (.bipush 8, 2) := by decide +kernel
theorem dX5_pairBlocks_44 : decode cX5_pairBlocks 44 = .ok (.if_icmp .ne 36, 3) := by decide +kernel
theorem dX5_pairBlocks_47 : decode cX5_pairBlocks 47 = .ok (.aload_n 0, 1) := by decide +kernel
theorem dX5_pairBlocks_48 : decode cX5_pairBlocks 48 = .ok (.iload_n 1, 1) := by decide +kernel
theorem dX5_pairBlocks_49 : decode cX5_pairBlocks 49 = .ok (.invokevirtual 66, 3) := by decide +kernel
theorem dX5_pairBlocks_52 : decode cX5_pairBlocks 52 = .ok (.istore_n 3, 1) := by decide +kernel
theorem dX5_pairBlocks_53 : decode cX5_pairBlocks 53 = .ok (.iload_n 3, 1) := by decide +kernel
theorem dX5_pairBlocks_54 : decode cX5_pairBlocks 54 = .ok (.ifCond .lt 26, 3) := by decide +kernel
theorem dX5_pairBlocks_57 : decode cX5_pairBlocks 57 = .ok (.iload_n 3, 1) := by decide +kernel
theorem dX5_pairBlocks_58 : decode cX5_pairBlocks 58 = .ok (.aload_n 0, 1) := by decide +kernel
theorem dX5_pairBlocks_59 : decode cX5_pairBlocks 59 = .ok (.getfield 27, 3) := by decide +kernel
theorem dX5_pairBlocks_62 : decode cX5_pairBlocks 62 = .ok (.arraylength, 1) := by decide +kernel
theorem dX5_pairBlocks_63 : decode cX5_pairBlocks 63 = .ok (.if_icmp .ge 17, 3) := by decide +kernel
theorem dX5_pairBlocks_66 : decode cX5_pairBlocks 66 = .ok (.aload_n 0, 1) := by decide +kernel
theorem dX5_pairBlocks_67 : decode cX5_pairBlocks 67 = .ok (.getfield 27, 3) := by decide +kernel
theorem dX5_pairBlocks_70 : decode cX5_pairBlocks 70 = .ok (.iload_n 3, 1) := by decide +kernel
theorem dX5_pairBlocks_71 : decode cX5_pairBlocks 71 = .ok (.iload_n 1, 1) := by decide +kernel
theorem dX5_pairBlocks_72 : decode cX5_pairBlocks 72 = .ok (.iastore, 1) := by decide +kernel
theorem dX5_pairBlocks_73 : decode cX5_pairBlocks 73 = .ok (.aload_n 0, 1) := by decide +kernel
theorem dX5_pairBlocks_74 : decode cX5_pairBlocks 74 = .ok (.getfield 27, 3) := by decide +kernel
theorem dX5_pairBlocks_77 : decode cX5_pairBlocks 77 = .ok (.iload_n 1, 1) := by decide +kernel
theorem dX5_pairBlocks_78 : decode cX5_pairBlocks 78 = .ok (.iload_n 3, 1) := by decide +kernel
theorem dX5_pairBlocks_79 : decode cX5_pairBlocks 79 = .ok (.iastore, 1) := by decide +kernel
theorem dX5_pairBlocks_80 : decode cX5_pairBlocks 80 = .ok (.iinc 1 1, 3) := by decide +kernel
theorem dX5_pairBlocks_83 : decode cX5_pairBlocks 83 = .ok (.goto (-81), 3) := by decide +kernel
theorem dX5_pairBlocks_86 : decode cX5_pairBlocks 86 = .ok (.return_, 1) := by decide +kernel
theorem dX5_lastOpenAhead_0 : decode cX5_lastOpenAhead 0 = .ok (.iload_n 1, 1) := by decide +kernel
theorem dX5_lastOpenAhead_1 : decode cX5_lastOpenAhead 1 = .ok (.iconst 1, 1) := by decide +kernel
theorem dX5_lastOpenAhead_2 : decode cX5_lastOpenAhead 2 = .ok (.isub, 1) := by decide +kernel
theorem dX5_lastOpenAhead_3 : decode cX5_lastOpenAhead 3 = .ok (.istore_n 2, 1) := by decide +kernel
theorem dX5_lastOpenAhead_4 : decode cX5_lastOpenAhead 4 = .ok (.iload_n 2, 1) := by decide +kernel
theorem dX5_lastOpenAhead_5 : decode cX5_lastOpenAhead 5 = .ok (.ifCond .lt 37, 3) := by decide +kernel
theorem dX5_lastOpenAhead_8 : decode cX5_lastOpenAhead 8 = .ok (.aload_n 0, 1) := by decide +kernel
theorem dX5_lastOpenAhead_9 : decode cX5_lastOpenAhead 9 = .ok (.iload_n 2, 1) := by decide +kernel
theorem dX5_lastOpenAhead_10 : decode cX5_lastOpenAhead 10 = .ok (.invokevirtual 70, 3) := by decide +kernel
theorem dX5_lastOpenAhead_13 : decode cX5_lastOpenAhead 13 = .ok (.astore_n 3, 1) := by decide +kernel
theorem dX5_lastOpenAhead_14 : decode cX5_lastOpenAhead 14 = .ok (.aload_n 3, 1) := by decide +kernel
theorem dX5_lastOpenAhead_15 : decode cX5_lastOpenAhead 15 = .ok (.ifnull 21, 3) := by decide +kernel
theorem dX5_lastOpenAhead_18 : decode cX5_lastOpenAhead 18 = .ok (.aload_n 3, 1) := by decide +kernel
theorem dX5_lastOpenAhead_19 : decode cX5_lastOpenAhead 19 = .ok (.invokevirtual 71, 3) := by decide +kernel
theorem dX5_lastOpenAhead_22 : decode cX5_lastOpenAhead 22 = .ok (.ifCond .eq 14, 3) := by decide +kernel
theorem dX5_lastOpenAhead_25 : decode cX5_lastOpenAhead 25 = .ok (.aload_n 0, 1) := by decide +kernel
theorem dX5_lastOpenAhead_26 : decode cX5_lastOpenAhead 26 = .ok (.iload_n 2, 1) := by decide +kernel
theorem dX5_lastOpenAhead_27 : decode cX5_lastOpenAhead 27 = .ok (.invokevirtual 75, 3) := by decide +kernel
theorem dX5_lastOpenAhead_30 : decode cX5_lastOpenAhead 30 = .ok (.iconst (-1), 1) := by decide +kernel
theorem dX5_lastOpenAhead_31 : decode cX5_lastOpenAhead 31 = .ok (.if_icmp .ne 5, 3) := by decide +kernel
theorem dX5_lastOpenAhead_34 : decode cX5_lastOpenAhead 34 = .ok (.iload_n 2, 1) := by decide +kernel
theorem dX5_lastOpenAhead_35 : decode cX5_lastOpenAhead 35 = .ok (.ireturn, 1) := by decide +kernel
theorem dX5_lastOpenAhead_36 : decode cX5_lastOpenAhead 36 = .ok (.iinc 2 (-1), 3) := by decide +kernel
theorem dX5_lastOpenAhead_39 : decode cX5_lastOpenAhead 39 = .ok (.goto (-35), 3) := by decide +kernel
theorem dX5_lastOpenAhead_42 : decode cX5_lastOpenAhead 42 = .ok (.iconst (-1), 1) := by decide +kernel
theorem dX5_lastOpenAhead_43 : decode cX5_lastOpenAhead 43 = .ok (.ireturn, 1) := by decide +kernel
theorem dX5_findWords_0 : decode cX5_findWords 0 = .ok (.iconst 0, 1) := by decide +kernel
theorem dX5_findWords_1 : decode cX5_findWords 1 = .ok (.istore_n 1, 1) := by decide +kernel
theorem dX5_findWords_2 : decode cX5_findWords 2 = .ok (.iload_n 1, 1) := by decide +kernel
theorem dX5_findWords_3 : decode cX5_findWords 3 = .ok (.aload_n 0, 1) := by decide +kernel
theorem dX5_findWords_4 : decode cX5_findWords 4 = .ok (.getfield 23, 3) := by decide +kernel
theorem dX5_findWords_7 : decode cX5_findWords 7 = .ok (.arraylength, 1) := by decide +kernel
theorem dX5_findWords_8 : decode cX5_findWords 8 = .ok (.if_icmp .ge 58, 3) := by decide +kernel
theorem dX5_findWords_11 : decode cX5_findWords 11 = .ok (.aload_n 0, 1) := by decide +kernel
theorem dX5_findWords_12 : decode cX5_findWords 12 = .ok (.getfield 23, 3) := by decide +kernel
theorem dX5_findWords_15 : decode cX5_findWords 15 = .ok (.iload_n 1, 1) := by decide +kernel
theorem dX5_findWords_16 : decode cX5_findWords 16 = .ok (.aaload, 1) := by decide +kernel
theorem dX5_findWords_17 : decode cX5_findWords 17 = .ok (.astore_n 2, 1) := by decide +kernel
theorem dX5_findWords_18 : decode cX5_findWords 18 = .ok (.aload_n 2, 1) := by decide +kernel
theorem dX5_findWords_19 : decode cX5_findWords 19 = .ok (.ifnull 41, 3) := by decide +kernel
theorem dX5_findWords_22 : decode cX5_findWords 22 = .ok (.aload_n 2, 1) := by decide +kernel
theorem dX5_findWords_23 : decode cX5_findWords 23 = .ok (.getfield 63, 3) := by decide +kernel
theorem dX5_findWords_26 : decode cX5_findWords 26 = .ok (.bipush 6, 2) := by decide +kernel
theorem dX5_findWords_28 : decode cX5_findWords 28 = .ok (.if_icmp .ne 32, 3) := by decide +kernel
theorem dX5_findWords_31 : decode cX5_findWords 31 = .ok (.aload_n 2, 1) := by decide +kernel
theorem dX5_findWords_32 : decode cX5_findWords 32 = .ok (.getfield 78, 3) := by decide +kernel
theorem dX5_findWords_35 : decode cX5_findWords 35 = .ok (.ifCond .lt 25, 3) := by decide +kernel
theorem dX5_findWords_38 : decode cX5_findWords 38 = .ok (.aload_n 2, 1) := by decide +kernel
theorem dX5_findWords_39 : decode cX5_findWords 39 = .ok (.getfield 78, 3) := by decide +kernel
theorem dX5_findWords_42 : decode cX5_findWords 42 = .ok (.aload_n 0, 1) := by decide +kernel
theorem dX5_findWords_43 : decode cX5_findWords 43 = .ok (.getfield 34, 3) := by decide +kernel
theorem dX5_findWords_46 : decode cX5_findWords 46 = .ok (.arraylength, 1) := by decide +kernel
theorem dX5_findWords_47 : decode cX5_findWords 47 = .ok (.if_icmp .ge 13, 3) := by decide +kernel
theorem dX5_findWords_50 : decode cX5_findWords 50 = .ok (.aload_n 0, 1) := by decide +kernel
theorem dX5_findWords_51 : decode cX5_findWords 51 = .ok (.getfield 34, 3) := by decide +kernel
theorem dX5_findWords_54 : decode cX5_findWords 54 = .ok (.aload_n 2, 1) := by decide +kernel
theorem dX5_findWords_55 : decode cX5_findWords 55 = .ok (.getfield 78, 3) := by decide +kernel
theorem dX5_findWords_58 : decode cX5_findWords 58 = .ok (.iload_n 1, 1) := by decide +kernel
theorem dX5_findWords_59 : decode cX5_findWords 59 = .ok (.iastore, 1) := by decide +kernel
theorem dX5_findWords_60 : decode cX5_findWords 60 = .ok (.iinc 1 1, 3) := by decide +kernel
theorem dX5_findWords_63 : decode cX5_findWords 63 = .ok (.goto (-61), 3) := by decide +kernel
theorem dX5_findWords_66 : decode cX5_findWords 66 = .ok (.return_, 1) := by decide +kernel
theorem dX5_buildForm_0 : decode cX5_buildForm 0 = .ok (.new 81, 3) := by decide +kernel
theorem dX5_buildForm_3 : decode cX5_buildForm 3 = .ok (.dup, 1) := by decide +kernel
theorem dX5_buildForm_4 : decode cX5_buildForm 4 = .ok (.invokespecial 83, 3) := by decide +kernel
theorem dX5_buildForm_7 : decode cX5_buildForm 7 = .ok (.astore_n 1, 1) := by decide +kernel
theorem dX5_buildForm_8 : decode cX5_buildForm 8 = .ok (.new 81, 3) := by decide +kernel
theorem dX5_buildForm_11 : decode cX5_buildForm 11 = .ok (.dup, 1) := by decide +kernel
theorem dX5_buildForm_12 : decode cX5_buildForm 12 = .ok (.invokespecial 83, 3) := by decide +kernel
theorem dX5_buildForm_15 : decode cX5_buildForm 15 = .ok (.astore_n 2, 1) := by decide +kernel
theorem dX5_buildForm_16 : decode cX5_buildForm 16 = .ok (.iconst 0, 1) := by decide +kernel
theorem dX5_buildForm_17 : decode cX5_buildForm 17 = .ok (.istore_n 3, 1) := by decide +kernel
theorem dX5_buildForm_18 : decode cX5_buildForm 18 = .ok (.iload_n 3, 1) := by decide +kernel
theorem dX5_buildForm_19 : decode cX5_buildForm 19 = .ok (.aload_n 0, 1) := by decide +kernel
theorem dX5_buildForm_20 : decode cX5_buildForm 20 = .ok (.getfield 23, 3) := by decide +kernel
theorem dX5_buildForm_23 : decode cX5_buildForm 23 = .ok (.arraylength, 1) := by decide +kernel
theorem dX5_buildForm_24 : decode cX5_buildForm 24 = .ok (.if_icmp .ge 139, 3) := by decide +kernel
theorem dX5_buildForm_27 : decode cX5_buildForm 27 = .ok (.iload_n 3, 1) := by decide +kernel
theorem dX5_buildForm_28 : decode cX5_buildForm 28 = .ok (.aload_n 0, 1) := by decide +kernel
theorem dX5_buildForm_29 : decode cX5_buildForm 29 = .ok (.getfield 31, 3) := by decide +kernel
theorem dX5_buildForm_32 : decode cX5_buildForm 32 = .ok (.arraylength, 1) := by decide +kernel
theorem dX5_buildForm_33 : decode cX5_buildForm 33 = .ok (.if_icmp .ge 130, 3) := by decide +kernel
theorem dX5_buildForm_36 : decode cX5_buildForm 36 = .ok (.aload_n 0, 1) := by decide +kernel
theorem dX5_buildForm_37 : decode cX5_buildForm 37 = .ok (.getfield 23, 3) := by decide +kernel
theorem dX5_buildForm_40 : decode cX5_buildForm 40 = .ok (.iload_n 3, 1) := by decide +kernel
theorem dX5_buildForm_41 : decode cX5_buildForm 41 = .ok (.aaload, 1) := by decide +kernel
theorem dX5_buildForm_42 : decode cX5_buildForm 42 = .ok (.astore 4, 2) := by decide +kernel
theorem dX5_buildForm_44 : decode cX5_buildForm 44 = .ok (.aload 4, 2) := by decide +kernel
theorem dX5_buildForm_46 : decode cX5_buildForm 46 = .ok (.ifnull 111, 3) := by decide +kernel
theorem dX5_buildForm_49 : decode cX5_buildForm 49 = .ok (.iconst 0, 1) := by decide +kernel
theorem dX5_buildForm_50 : decode cX5_buildForm 50 = .ok (.istore 5, 2) := by decide +kernel
theorem dX5_buildForm_52 : decode cX5_buildForm 52 = .ok (.aload 4, 2) := by decide +kernel
theorem dX5_buildForm_54 : decode cX5_buildForm 54 = .ok (.getfield 63, 3) := by decide +kernel
theorem dX5_buildForm_57 : decode cX5_buildForm 57 = .ok (.iconst 3, 1) := by decide +kernel
theorem dX5_buildForm_58 : decode cX5_buildForm 58 = .ok (.if_icmp .eq 12, 3) := by decide +kernel
theorem dX5_buildForm_61 : decode cX5_buildForm 61 = .ok (.aload 4, 2) := by decide +kernel
theorem dX5_buildForm_63 : decode cX5_buildForm 63 = .ok (.getfield 63, 3) := by decide +kernel
theorem dX5_buildForm_66 : decode cX5_buildForm 66 = .ok (.iconst 4, 1) := by decide +kernel
theorem dX5_buildForm_67 : decode cX5_buildForm 67 = .ok (.if_icmp .ne 17, 3) := by decide +kernel
theorem dX5_buildForm_70 : decode cX5_buildForm 70 = .ok (.aload_n 1, 1) := by decide +kernel
theorem dX5_buildForm_71 : decode cX5_buildForm 71 = .ok (.aload 4, 2) := by decide +kernel
theorem dX5_buildForm_73 : decode cX5_buildForm 73 = .ok (.getfield 78, 3) := by decide +kernel
theorem dX5_buildForm_76 : decode cX5_buildForm 76 = .ok (.invokevirtual 84, 3) := by decide +kernel
theorem dX5_buildForm_79 : decode cX5_buildForm 79 = .ok (.istore 5, 2) := by decide +kernel
theorem dX5_buildForm_81 : decode cX5_buildForm 81 = .ok (.goto 34, 3) := by decide +kernel
theorem dX5_buildForm_84 : decode cX5_buildForm 84 = .ok (.aload 4, 2) := by decide +kernel
theorem dX5_buildForm_86 : decode cX5_buildForm 86 = .ok (.getfield 63, 3) := by decide +kernel
theorem dX5_buildForm_89 : decode cX5_buildForm 89 = .ok (.bipush 6, 2) := by decide +kernel
theorem dX5_buildForm_91 : decode cX5_buildForm 91 = .ok (.if_icmp .eq 13, 3) := by decide +kernel
theorem dX5_buildForm_94 : decode cX5_buildForm 94 = .ok (.aload 4, 2) := by decide +kernel
theorem dX5_buildForm_96 : decode cX5_buildForm 96 = .ok (.getfield 63, 3) := by decide +kernel
theorem dX5_buildForm_99 : decode cX5_buildForm 99 = .ok (.bipush 7, 2) := by decide +kernel
theorem dX5_buildForm_101 : decode cX5_buildForm 101 = .ok (.if_icmp .ne 14, 3) := by decide +kernel
theorem dX5_buildForm_104 : decode cX5_buildForm 104 = .ok (.aload_n 2, 1) := by decide +kernel
theorem dX5_buildForm_105 : decode cX5_buildForm 105 = .ok (.aload 4, 2) := by decide +kernel
theorem dX5_buildForm_107 : decode cX5_buildForm 107 = .ok (.getfield 78, 3) := by decide +kernel
theorem dX5_buildForm_110 : decode cX5_buildForm 110 = .ok (.invokevirtual 84, 3) := by decide +kernel
theorem dX5_buildForm_113 : decode cX5_buildForm 113 = .ok (.istore 5, 2) := by decide +kernel
theorem dX5_buildForm_115 : decode cX5_buildForm 115 = .ok (.aload 4, 2) := by decide +kernel
theorem dX5_buildForm_117 : decode cX5_buildForm 117 = .ok (.getfield 87, 3) := by decide +kernel
theorem dX5_buildForm_120 : decode cX5_buildForm 120 = .ok (.ifCond .eq 15, 3) := by decide +kernel
theorem dX5_buildForm_123 : decode cX5_buildForm 123 = .ok (.aload_n 1, 1) := by decide +kernel
theorem dX5_buildForm_124 : decode cX5_buildForm 124 = .ok (.aload 4, 2) := by decide +kernel
theorem dX5_buildForm_126 : decode cX5_buildForm 126 = .ok (.getfield 91, 3) := by decide +kernel
theorem dX5_buildForm_129 : decode cX5_buildForm 129 = .ok (.invokevirtual 84, 3) := by decide +kernel
theorem dX5_buildForm_132 : decode cX5_buildForm 132 = .ok (.goto 8, 3) := by decide +kernel
theorem dX5_buildForm_135 : decode cX5_buildForm 135 = .ok (.aload 4, 2) := by decide +kernel
theorem dX5_buildForm_137 : decode cX5_buildForm 137 = .ok (.getfield 91, 3) := by decide +kernel
theorem dX5_buildForm_140 : decode cX5_buildForm 140 = .ok (.istore 6, 2) := by decide +kernel
theorem dX5_buildForm_142 : decode cX5_buildForm 142 = .ok (.aload_n 0, 1) := by decide +kernel
theorem dX5_buildForm_143 : decode cX5_buildForm 143 = .ok (.getfield 31, 3) := by decide +kernel
theorem dX5_buildForm_146 : decode cX5_buildForm 146 = .ok (.iload_n 3, 1) := by decide +kernel
theorem dX5_buildForm_147 : decode cX5_buildForm 147 = .ok (.aload 4, 2) := by decide +kernel
theorem dX5_buildForm_149 : decode cX5_buildForm 149 = .ok (.iload 5, 2) := by decide +kernel
theorem dX5_buildForm_151 : decode cX5_buildForm 151 = .ok (.iload 6, 2) := by decide +kernel
theorem dX5_buildForm_153 : decode cX5_buildForm 153 = .ok (.invokestatic 94, 3) := by decide +kernel
theorem dX5_buildForm_156 : decode cX5_buildForm 156 = .ok (.iastore, 1) := by decide +kernel
theorem dX5_buildForm_157 : decode cX5_buildForm 157 = .ok (.iinc 3 1, 3) := by decide +kernel
theorem dX5_buildForm_160 : decode cX5_buildForm 160 = .ok (.goto (-142), 3) := by decide +kernel
theorem dX5_buildForm_163 : decode cX5_buildForm 163 = .ok (.return_, 1) := by decide +kernel
theorem dX5_codeOf_0 : decode cX5_codeOf 0 = .ok (.aload_n 0, 1) := by decide +kernel
theorem dX5_codeOf_1 : decode cX5_codeOf 1 = .ok (.getfield 63, 3) := by decide +kernel
theorem dX5_codeOf_4 : decode cX5_codeOf 4 = .ok (.iconst 4, 1) := by decide +kernel
theorem dX5_codeOf_5 : decode cX5_codeOf 5 = .ok (.ishl, 1) := by decide +kernel
theorem dX5_codeOf_6 : decode cX5_codeOf 6 = .ok (.iload_n 1, 1) := by decide +kernel
theorem dX5_codeOf_7 : decode cX5_codeOf 7 = .ok (.iconst 1, 1) := by decide +kernel
theorem dX5_codeOf_8 : decode cX5_codeOf 8 = .ok (.ishl, 1) := by decide +kernel
theorem dX5_codeOf_9 : decode cX5_codeOf 9 = .ok (.ior, 1) := by decide +kernel
theorem dX5_codeOf_10 : decode cX5_codeOf 10 = .ok (.aload_n 0, 1) := by decide +kernel
theorem dX5_codeOf_11 : decode cX5_codeOf 11 = .ok (.getfield 87, 3) := by decide +kernel
theorem dX5_codeOf_14 : decode cX5_codeOf 14 = .ok (.ifCond .eq 7, 3) := by decide +kernel
theorem dX5_codeOf_17 : decode cX5_codeOf 17 = .ok (.iconst 1, 1) := by decide +kernel
theorem dX5_codeOf_18 : decode cX5_codeOf 18 = .ok (.goto 4, 3) := by decide +kernel
theorem dX5_codeOf_21 : decode cX5_codeOf 21 = .ok (.iconst 0, 1) := by decide +kernel
theorem dX5_codeOf_22 : decode cX5_codeOf 22 = .ok (.ior, 1) := by decide +kernel
theorem dX5_codeOf_23 : decode cX5_codeOf 23 = .ok (.istore_n 3, 1) := by decide +kernel
theorem dX5_codeOf_24 : decode cX5_codeOf 24 = .ok (.iload_n 3, 1) := by decide +kernel
theorem dX5_codeOf_25 : decode cX5_codeOf 25 = .ok (.bipush 8, 2) := by decide +kernel
theorem dX5_codeOf_27 : decode cX5_codeOf 27 = .ok (.ishl, 1) := by decide +kernel
theorem dX5_codeOf_28 : decode cX5_codeOf 28 = .ok (.iload_n 2, 1) := by decide +kernel
theorem dX5_codeOf_29 : decode cX5_codeOf 29 = .ok (.bipush 99, 2) := by decide +kernel
theorem dX5_codeOf_31 : decode cX5_codeOf 31 = .ok (.iadd, 1) := by decide +kernel
theorem dX5_codeOf_32 : decode cX5_codeOf 32 = .ok (.ior, 1) := by decide +kernel
theorem dX5_codeOf_33 : decode cX5_codeOf 33 = .ok (.ireturn, 1) := by decide +kernel
theorem dX6_init_0 : decode cX6_init 0 = .ok (.aload_n 0, 1) := by decide +kernel
theorem dX6_init_1 : decode cX6_init 1 = .ok (.invokespecial 3, 3) := by decide +kernel
theorem dX6_init_4 : decode cX6_init 4 = .ok (.aload_n 0, 1) := by decide +kernel
theorem dX6_init_5 : decode cX6_init 5 = .ok (.iconst 4, 1) := by decide +kernel
theorem dX6_init_6 : decode cX6_init 6 = .ok (.newarray .int, 2) := by decide +kernel
theorem dX6_init_8 : decode cX6_init 8 = .ok (.putfield 9, 3) := by decide +kernel
theorem dX6_init_11 : decode cX6_init 11 = .ok (.iconst 0, 1) := by decide +kernel
theorem dX6_init_12 : decode cX6_init 12 = .ok (.istore_n 1, 1) := by decide +kernel
theorem dX6_init_13 : decode cX6_init 13 = .ok (.iload_n 1, 1) := by decide +kernel
theorem dX6_init_14 : decode cX6_init 14 = .ok (.aload_n 0, 1) := by decide +kernel
theorem dX6_init_15 : decode cX6_init 15 = .ok (.getfield 9, 3) := by decide +kernel
theorem dX6_init_18 : decode cX6_init 18 = .ok (.arraylength, 1) := by decide +kernel
theorem dX6_init_19 : decode cX6_init 19 = .ok (.if_icmp .ge 16, 3) := by decide +kernel
theorem dX6_init_22 : decode cX6_init 22 = .ok (.aload_n 0, 1) := by decide +kernel
theorem dX6_init_23 : decode cX6_init 23 = .ok (.getfield 9, 3) := by decide +kernel
theorem dX6_init_26 : decode cX6_init 26 = .ok (.iload_n 1, 1) := by decide +kernel
theorem dX6_init_27 : decode cX6_init 27 = .ok (.iconst (-1), 1) := by decide +kernel
theorem dX6_init_28 : decode cX6_init 28 = .ok (.iastore, 1) := by decide +kernel
theorem dX6_init_29 : decode cX6_init 29 = .ok (.iinc 1 1, 3) := by decide +kernel
theorem dX6_init_32 : decode cX6_init 32 = .ok (.goto (-19), 3) := by decide +kernel
theorem dX6_init_35 : decode cX6_init 35 = .ok (.return_, 1) := by decide +kernel
theorem dX6_numberOf_0 : decode cX6_numberOf 0 = .ok (.iload_n 1, 1) := by decide +kernel
theorem dX6_numberOf_1 : decode cX6_numberOf 1 = .ok (.ifCond .lt 12, 3) := by decide +kernel
theorem dX6_numberOf_4 : decode cX6_numberOf 4 = .ok (.iload_n 1, 1) := by decide +kernel
theorem dX6_numberOf_5 : decode cX6_numberOf 5 = .ok (.aload_n 0, 1) := by decide +kernel
theorem dX6_numberOf_6 : decode cX6_numberOf 6 = .ok (.getfield 9, 3) := by decide +kernel
theorem dX6_numberOf_9 : decode cX6_numberOf 9 = .ok (.arraylength, 1) := by decide +kernel
theorem dX6_numberOf_10 : decode cX6_numberOf 10 = .ok (.if_icmp .lt 5, 3) := by decide +kernel
theorem dX6_numberOf_13 : decode cX6_numberOf 13 = .ok (.iconst (-1), 1) := by decide +kernel
theorem dX6_numberOf_14 : decode cX6_numberOf 14 = .ok (.ireturn, 1) := by decide +kernel
theorem dX6_numberOf_15 : decode cX6_numberOf 15 = .ok (.aload_n 0, 1) := by decide +kernel
theorem dX6_numberOf_16 : decode cX6_numberOf 16 = .ok (.getfield 9, 3) := by decide +kernel
theorem dX6_numberOf_19 : decode cX6_numberOf 19 = .ok (.iload_n 1, 1) := by decide +kernel
theorem dX6_numberOf_20 : decode cX6_numberOf 20 = .ok (.iaload, 1) := by decide +kernel
theorem dX6_numberOf_21 : decode cX6_numberOf 21 = .ok (.iconst (-1), 1) := by decide +kernel
theorem dX6_numberOf_22 : decode cX6_numberOf 22 = .ok (.if_icmp .ne 23, 3) := by decide +kernel
theorem dX6_numberOf_25 : decode cX6_numberOf 25 = .ok (.aload_n 0, 1) := by decide +kernel
theorem dX6_numberOf_26 : decode cX6_numberOf 26 = .ok (.getfield 9, 3) := by decide +kernel
theorem dX6_numberOf_29 : decode cX6_numberOf 29 = .ok (.iload_n 1, 1) := by decide +kernel
theorem dX6_numberOf_30 : decode cX6_numberOf 30 = .ok (.aload_n 0, 1) := by decide +kernel
theorem dX6_numberOf_31 : decode cX6_numberOf 31 = .ok (.getfield 15, 3) := by decide +kernel
theorem dX6_numberOf_34 : decode cX6_numberOf 34 = .ok (.iastore, 1) := by decide +kernel
theorem dX6_numberOf_35 : decode cX6_numberOf 35 = .ok (.aload_n 0, 1) := by decide +kernel
theorem dX6_numberOf_36 : decode cX6_numberOf 36 = .ok (.dup, 1) := by decide +kernel
theorem dX6_numberOf_37 : decode cX6_numberOf 37 = .ok (.getfield 15, 3) := by decide +kernel
theorem dX6_numberOf_40 : decode cX6_numberOf 40 = .ok (.iconst 1, 1) := by decide +kernel
theorem dX6_numberOf_41 : decode cX6_numberOf 41 = .ok (.iadd, 1) := by decide +kernel
theorem dX6_numberOf_42 : decode cX6_numberOf 42 = .ok (.putfield 15, 3) := by decide +kernel
theorem dX6_numberOf_45 : decode cX6_numberOf 45 = .ok (.aload_n 0, 1) := by decide +kernel
theorem dX6_numberOf_46 : decode cX6_numberOf 46 = .ok (.getfield 9, 3) := by decide +kernel
theorem dX6_numberOf_49 : decode cX6_numberOf 49 = .ok (.iload_n 1, 1) := by decide +kernel
theorem dX6_numberOf_50 : decode cX6_numberOf 50 = .ok (.iaload, 1) := by decide +kernel
theorem dX6_numberOf_51 : decode cX6_numberOf 51 = .ok (.ireturn, 1) := by decide +kernel
theorem dX7_init_0 : decode cX7_init 0 = .ok (.aload_n 0, 1) := by decide +kernel
theorem dX7_init_1 : decode cX7_init 1 = .ok (.invokespecial 3, 3) := by decide +kernel
theorem dX7_init_4 : decode cX7_init 4 = .ok (.aload_n 0, 1) := by decide +kernel
theorem dX7_init_5 : decode cX7_init 5 = .ok (.new 9, 3) := by decide +kernel
theorem dX7_init_8 : decode cX7_init 8 = .ok (.dup, 1) := by decide +kernel
theorem dX7_init_9 : decode cX7_init 9 = .ok (.invokespecial 11, 3) := by decide +kernel
theorem dX7_init_12 : decode cX7_init 12 = .ok (.putfield 12, 3) := by decide +kernel
theorem dX7_init_15 : decode cX7_init 15 = .ok (.aload_n 0, 1) := by decide +kernel
theorem dX7_init_16 : decode cX7_init 16 = .ok (.iconst 4, 1) := by decide +kernel
theorem dX7_init_17 : decode cX7_init 17 = .ok (.newarray .int, 2) := by decide +kernel
theorem dX7_init_19 : decode cX7_init 19 = .ok (.putfield 18, 3) := by decide +kernel
theorem dX7_init_22 : decode cX7_init 22 = .ok (.aload_n 0, 1) := by decide +kernel
theorem dX7_init_23 : decode cX7_init 23 = .ok (.sipush 270, 3) := by decide +kernel
theorem dX7_init_26 : decode cX7_init 26 = .ok (.newarray .int, 2) := by decide +kernel
theorem dX7_init_28 : decode cX7_init 28 = .ok (.putfield 22, 3) := by decide +kernel
theorem dX7_init_31 : decode cX7_init 31 = .ok (.aload_n 0, 1) := by decide +kernel
theorem dX7_init_32 : decode cX7_init 32 = .ok (.bipush 8, 2) := by decide +kernel
theorem dX7_init_34 : decode cX7_init 34 = .ok (.newarray .int, 2) := by decide +kernel
theorem dX7_init_36 : decode cX7_init 36 = .ok (.putfield 25, 3) := by decide +kernel
theorem dX7_init_39 : decode cX7_init 39 = .ok (.aload_n 0, 1) := by decide +kernel
theorem dX7_init_40 : decode cX7_init 40 = .ok (.new 28, 3) := by decide +kernel
theorem dX7_init_43 : decode cX7_init 43 = .ok (.dup, 1) := by decide +kernel
theorem dX7_init_44 : decode cX7_init 44 = .ok (.invokespecial 30, 3) := by decide +kernel
theorem dX7_init_47 : decode cX7_init 47 = .ok (.putfield 31, 3) := by decide +kernel
theorem dX7_init_50 : decode cX7_init 50 = .ok (.return_, 1) := by decide +kernel
theorem dX7_brokenBy_0 : decode cX7_brokenBy 0 = .ok (.aload_n 0, 1) := by decide +kernel
theorem dX7_brokenBy_1 : decode cX7_brokenBy 1 = .ok (.getfield 35, 3) := by decide +kernel
theorem dX7_brokenBy_4 : decode cX7_brokenBy 4 = .ok (.ireturn, 1) := by decide +kernel
theorem dX7_counted_0 : decode cX7_counted 0 = .ok (.aload_n 0, 1) := by decide +kernel
theorem dX7_counted_1 : decode cX7_counted 1 = .ok (.getfield 39, 3) := by decide +kernel
theorem dX7_counted_4 : decode cX7_counted 4 = .ok (.ireturn, 1) := by decide +kernel
theorem dX7_perform_0 : decode cX7_perform 0 = .ok (.aload_n 0, 1) := by decide +kernel
theorem dX7_perform_1 : decode cX7_perform 1 = .ok (.aload_n 2, 1) := by decide +kernel
theorem dX7_perform_2 : decode cX7_perform 2 = .ok (.putfield 31, 3) := by decide +kernel
theorem dX7_perform_5 : decode cX7_perform 5 = .ok (.aload_n 0, 1) := by decide +kernel
theorem dX7_perform_6 : decode cX7_perform 6 = .ok (.iload_n 3, 1) := by decide +kernel
theorem dX7_perform_7 : decode cX7_perform 7 = .ok (.putfield 42, 3) := by decide +kernel
theorem dX7_perform_10 : decode cX7_perform 10 = .ok (.aload_n 0, 1) := by decide +kernel
theorem dX7_perform_11 : decode cX7_perform 11 = .ok (.iconst 0, 1) := by decide +kernel
theorem dX7_perform_12 : decode cX7_perform 12 = .ok (.putfield 39, 3) := by decide +kernel
theorem dX7_perform_15 : decode cX7_perform 15 = .ok (.aload_n 0, 1) := by decide +kernel
theorem dX7_perform_16 : decode cX7_perform 16 = .ok (.iconst 0, 1) := by decide +kernel
theorem dX7_perform_17 : decode cX7_perform 17 = .ok (.putfield 45, 3) := by decide +kernel
theorem dX7_perform_20 : decode cX7_perform 20 = .ok (.aload_n 0, 1) := by decide +kernel
theorem dX7_perform_21 : decode cX7_perform 21 = .ok (.iconst 0, 1) := by decide +kernel
theorem dX7_perform_22 : decode cX7_perform 22 = .ok (.putfield 35, 3) := by decide +kernel
theorem dX7_perform_25 : decode cX7_perform 25 = .ok (.aload_n 0, 1) := by decide +kernel
theorem dX7_perform_26 : decode cX7_perform 26 = .ok (.getfield 12, 3) := by decide +kernel
theorem dX7_perform_29 : decode cX7_perform 29 = .ok (.invokevirtual 48, 3) := by decide +kernel
theorem dX7_perform_32 : decode cX7_perform 32 = .ok (.iconst 0, 1) := by decide +kernel
theorem dX7_perform_33 : decode cX7_perform 33 = .ok (.istore 4, 2) := by decide +kernel
theorem dX7_perform_35 : decode cX7_perform 35 = .ok (.iload 4, 2) := by decide +kernel
theorem dX7_perform_37 : decode cX7_perform 37 = .ok (.aload_n 0, 1) := by decide +kernel
theorem dX7_perform_38 : decode cX7_perform 38 = .ok (.getfield 18, 3) := by decide +kernel
theorem dX7_perform_41 : decode cX7_perform 41 = .ok (.arraylength, 1) := by decide +kernel
theorem dX7_perform_42 : decode cX7_perform 42 = .ok (.if_icmp .ge 17, 3) := by decide +kernel
theorem dX7_perform_45 : decode cX7_perform 45 = .ok (.aload_n 0, 1) := by decide +kernel
theorem dX7_perform_46 : decode cX7_perform 46 = .ok (.getfield 18, 3) := by decide +kernel
theorem dX7_perform_49 : decode cX7_perform 49 = .ok (.iload 4, 2) := by decide +kernel
theorem dX7_perform_51 : decode cX7_perform 51 = .ok (.iconst 0, 1) := by decide +kernel
theorem dX7_perform_52 : decode cX7_perform 52 = .ok (.iastore, 1) := by decide +kernel
theorem dX7_perform_53 : decode cX7_perform 53 = .ok (.iinc 4 1, 3) := by decide +kernel
theorem dX7_perform_56 : decode cX7_perform 56 = .ok (.goto (-21), 3) := by decide +kernel
theorem dX7_perform_59 : decode cX7_perform 59 = .ok (.iconst 0, 1) := by decide +kernel
theorem dX7_perform_60 : decode cX7_perform 60 = .ok (.istore 4, 2) := by decide +kernel
theorem dX7_perform_62 : decode cX7_perform 62 = .ok (.iconst 0, 1) := by decide +kernel
theorem dX7_perform_63 : decode cX7_perform 63 = .ok (.istore 5, 2) := by decide +kernel
theorem dX7_perform_65 : decode cX7_perform 65 = .ok (.iload 5, 2) := by decide +kernel
theorem dX7_perform_67 : decode cX7_perform 67 = .ok (.ldc 51, 2) := by decide +kernel
theorem dX7_perform_69 : decode cX7_perform 69 = .ok (.if_icmp .ge 32, 3) := by decide +kernel
theorem dX7_perform_72 : decode cX7_perform 72 = .ok (.iload 4, 2) := by decide +kernel
theorem dX7_perform_74 : decode cX7_perform 74 = .ok (.ifCond .lt 27, 3) := by decide +kernel
theorem dX7_perform_77 : decode cX7_perform 77 = .ok (.iload 4, 2) := by decide +kernel
theorem dX7_perform_79 : decode cX7_perform 79 = .ok (.aload_n 1, 1) := by decide +kernel
theorem dX7_perform_80 : decode cX7_perform 80 = .ok (.invokevirtual 52, 3) := by decide +kernel
theorem dX7_perform_83 : decode cX7_perform 83 = .ok (.if_icmp .ge 18, 3) := by decide +kernel
theorem dX7_perform_86 : decode cX7_perform 86 = .ok (.aload_n 0, 1) := by decide +kernel
theorem dX7_perform_87 : decode cX7_perform 87 = .ok (.aload_n 1, 1) := by decide +kernel
theorem dX7_perform_88 : decode cX7_perform 88 = .ok (.iload 4, 2) := by decide +kernel
theorem dX7_perform_90 : decode cX7_perform 90 = .ok (.invokevirtual 58, 3) := by decide +kernel
theorem dX7_perform_93 : decode cX7_perform 93 = .ok (.istore 4, 2) := by decide +kernel
theorem dX7_perform_95 : decode cX7_perform 95 = .ok (.iinc 5 1, 3) := by decide +kernel
theorem dX7_perform_98 : decode cX7_perform 98 = .ok (.goto (-33), 3) := by decide +kernel
theorem dX7_perform_101 : decode cX7_perform 101 = .ok (.return_, 1) := by decide +kernel
theorem dX7_follow_0 : decode cX7_follow 0 = .ok (.aload_n 1, 1) := by decide +kernel
theorem dX7_follow_1 : decode cX7_follow 1 = .ok (.iload_n 2, 1) := by decide +kernel
theorem dX7_follow_2 : decode cX7_follow 2 = .ok (.invokevirtual 62, 3) := by decide +kernel
theorem dX7_follow_5 : decode cX7_follow 5 = .ok (.astore_n 3, 1) := by decide +kernel
theorem dX7_follow_6 : decode cX7_follow 6 = .ok (.aload_n 3, 1) := by decide +kernel
theorem dX7_follow_7 : decode cX7_follow 7 = .ok (.ifnonnull 5, 3) := by decide +kernel
theorem dX7_follow_10 : decode cX7_follow 10 = .ok (.iconst (-1), 1) := by decide +kernel
theorem dX7_follow_11 : decode cX7_follow 11 = .ok (.ireturn, 1) := by decide +kernel
theorem dX7_follow_12 : decode cX7_follow 12 = .ok (.aload_n 3, 1) := by decide +kernel
theorem dX7_follow_13 : decode cX7_follow 13 = .ok (.getfield 66, 3) := by decide +kernel
theorem dX7_follow_16 : decode cX7_follow 16 = .ok (.bipush 6, 2) := by decide +kernel
theorem dX7_follow_18 : decode cX7_follow 18 = .ok (.if_icmp .ne 11, 3) := by decide +kernel
theorem dX7_follow_21 : decode cX7_follow 21 = .ok (.aload_n 1, 1) := by decide +kernel
theorem dX7_follow_22 : decode cX7_follow 22 = .ok (.iload_n 2, 1) := by decide +kernel
theorem dX7_follow_23 : decode cX7_follow 23 = .ok (.invokevirtual 71, 3) := by decide +kernel
theorem dX7_follow_26 : decode cX7_follow 26 = .ok (.iconst 1, 1) := by decide +kernel
theorem dX7_follow_27 : decode cX7_follow 27 = .ok (.iadd, 1) := by decide +kernel
theorem dX7_follow_28 : decode cX7_follow 28 = .ok (.ireturn, 1) := by decide +kernel
theorem dX7_follow_29 : decode cX7_follow 29 = .ok (.aload_n 3, 1) := by decide +kernel
theorem dX7_follow_30 : decode cX7_follow 30 = .ok (.getfield 66, 3) := by decide +kernel
theorem dX7_follow_33 : decode cX7_follow 33 = .ok (.bipush 8, 2) := by decide +kernel
theorem dX7_follow_35 : decode cX7_follow 35 = .ok (.if_icmp .ne 10, 3) := by decide +kernel
theorem dX7_follow_38 : decode cX7_follow 38 = .ok (.aload_n 0, 1) := by decide +kernel
theorem dX7_follow_39 : decode cX7_follow 39 = .ok (.aload_n 1, 1) := by decide +kernel
theorem dX7_follow_40 : decode cX7_follow 40 = .ok (.iload_n 2, 1) := by decide +kernel
theorem dX7_follow_41 : decode cX7_follow 41 = .ok (.invokevirtual 75, 3) := by decide +kernel
theorem dX7_follow_44 : decode cX7_follow 44 = .ok (.ireturn, 1) := by decide +kernel
theorem dX7_follow_45 : decode cX7_follow 45 = .ok (.aload_n 0, 1) := by decide +kernel
