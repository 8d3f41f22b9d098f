theorem dX10_init_0 : decode cX10_init 0 = .ok (.aload_n 0, 1) := by decide +kernel
theorem dX10_init_1 : decode cX10_init 1 = .ok (.invokespecial 1, 3) := by decide +kernel
theorem dX10_init_4 : decode cX10_init 4 = .ok (.aload_n 0, 1) := by decide +kernel
theorem dX10_init_5 : decode cX10_init 5 = .ok (.sipush 8900, 3) := by decide +kernel
theorem dX10_init_8 : decode cX10_init 8 = .ok (.newarray .int, 2) := by decide +kernel
theorem dX10_init_10 : decode cX10_init 10 = .ok (.putfield 7, 3) := by decide +kernel
theorem dX10_init_13 : decode cX10_init 13 = .ok (.aload_n 0, 1) := by decide +kernel
theorem dX10_init_14 : decode cX10_init 14 = .ok (.sipush 8900, 3) := by decide +kernel
theorem dX10_init_17 : decode cX10_init 17 = .ok (.newarray .int, 2) := by decide +kernel
theorem dX10_init_19 : decode cX10_init 19 = .ok (.putfield 13, 3) := by decide +kernel
theorem dX10_init_22 : decode cX10_init 22 = .ok (.aload_n 0, 1) := by decide +kernel
theorem dX10_init_23 : decode cX10_init 23 = .ok (.bipush 42, 2) := by decide +kernel
theorem dX10_init_25 : decode cX10_init 25 = .ok (.newarray .int, 2) := by decide +kernel
theorem dX10_init_27 : decode cX10_init 27 = .ok (.putfield 16, 3) := by decide +kernel
theorem dX10_init_30 : decode cX10_init 30 = .ok (.aload_n 0, 1) := by decide +kernel
theorem dX10_init_31 : decode cX10_init 31 = .ok (.bipush 16, 2) := by decide +kernel
theorem dX10_init_33 : decode cX10_init 33 = .ok (.newarray .int, 2) := by decide +kernel
theorem dX10_init_35 : decode cX10_init 35 = .ok (.putfield 19, 3) := by decide +kernel
theorem dX10_init_38 : decode cX10_init 38 = .ok (.aload_n 0, 1) := by decide +kernel
theorem dX10_init_39 : decode cX10_init 39 = .ok (.bipush 42, 2) := by decide +kernel
theorem dX10_init_41 : decode cX10_init 41 = .ok (.newarray .int, 2) := by decide +kernel
theorem dX10_init_43 : decode cX10_init 43 = .ok (.putfield 22, 3) := by decide +kernel
theorem dX10_init_46 : decode cX10_init 46 = .ok (.aload_n 0, 1) := by decide +kernel
theorem dX10_init_47 : decode cX10_init 47 = .ok (.ldc 25, 2) := by decide +kernel
theorem dX10_init_49 : decode cX10_init 49 = .ok (.putfield 26, 3) := by decide +kernel
theorem dX10_init_52 : decode cX10_init 52 = .ok (.aload_n 0, 1) := by decide +kernel
theorem dX10_init_53 : decode cX10_init 53 = .ok (.bipush 10, 2) := by decide +kernel
theorem dX10_init_55 : decode cX10_init 55 = .ok (.newarray .int, 2) := by decide +kernel
theorem dX10_init_57 : decode cX10_init 57 = .ok (.putfield 30, 3) := by decide +kernel
theorem dX10_init_60 : decode cX10_init 60 = .ok (.aload_n 0, 1) := by decide +kernel
theorem dX10_init_61 : decode cX10_init 61 = .ok (.bipush 10, 2) := by decide +kernel
theorem dX10_init_63 : decode cX10_init 63 = .ok (.newarray .int, 2) := by decide +kernel
theorem dX10_init_65 : decode cX10_init 65 = .ok (.putfield 33, 3) := by decide +kernel
theorem dX10_init_68 : decode cX10_init 68 = .ok (.aload_n 0, 1) := by decide +kernel
theorem dX10_init_69 : decode cX10_init 69 = .ok (.getfield 7, 3) := by decide +kernel
theorem dX10_init_72 : decode cX10_init 72 = .ok (.iconst 1, 1) := by decide +kernel
theorem dX10_init_73 : decode cX10_init 73 = .ok (.bipush 50, 2) := by decide +kernel
theorem dX10_init_75 : decode cX10_init 75 = .ok (.iastore, 1) := by decide +kernel
theorem dX10_init_76 : decode cX10_init 76 = .ok (.aload_n 0, 1) := by decide +kernel
theorem dX10_init_77 : decode cX10_init 77 = .ok (.getfield 7, 3) := by decide +kernel
theorem dX10_init_80 : decode cX10_init 80 = .ok (.iconst 2, 1) := by decide +kernel
theorem dX10_init_81 : decode cX10_init 81 = .ok (.bipush 30, 2) := by decide +kernel
theorem dX10_init_83 : decode cX10_init 83 = .ok (.iastore, 1) := by decide +kernel
theorem dX10_init_84 : decode cX10_init 84 = .ok (.aload_n 0, 1) := by decide +kernel
theorem dX10_init_85 : decode cX10_init 85 = .ok (.getfield 7, 3) := by decide +kernel
theorem dX10_init_88 : decode cX10_init 88 = .ok (.iconst 3, 1) := by decide +kernel
theorem dX10_init_89 : decode cX10_init 89 = .ok (.iconst 1, 1) := by decide +kernel
theorem dX10_init_90 : decode cX10_init 90 = .ok (.iastore, 1) := by decide +kernel
theorem dX10_init_91 : decode cX10_init 91 = .ok (.aload_n 0, 1) := by decide +kernel
theorem dX10_init_92 : decode cX10_init 92 = .ok (.getfield 7, 3) := by decide +kernel
theorem dX10_init_95 : decode cX10_init 95 = .ok (.iconst 5, 1) := by decide +kernel
theorem dX10_init_96 : decode cX10_init 96 = .ok (.iconst 1, 1) := by decide +kernel
theorem dX10_init_97 : decode cX10_init 97 = .ok (.iastore, 1) := by decide +kernel
theorem dX10_init_98 : decode cX10_init 98 = .ok (.iconst 0, 1) := by decide +kernel
theorem dX10_init_99 : decode cX10_init 99 = .ok (.istore_n 1, 1) := by decide +kernel
theorem dX10_init_100 : decode cX10_init 100 = .ok (.iload_n 1, 1) := by decide +kernel
theorem dX10_init_101 : decode cX10_init 101 = .ok (.iconst 3, 1) := by decide +kernel
theorem dX10_init_102 : decode cX10_init 102 = .ok (.if_icmp .ge 32, 3) := by decide +kernel
theorem dX10_init_105 : decode cX10_init 105 = .ok (.aload_n 0, 1) := by decide +kernel
theorem dX10_init_106 : decode cX10_init 106 = .ok (.getfield 7, 3) := by decide +kernel
theorem dX10_init_109 : decode cX10_init 109 = .ok (.sipush 220, 3) := by decide +kernel
theorem dX10_init_112 : decode cX10_init 112 = .ok (.iload_n 1, 1) := by decide +kernel
theorem dX10_init_113 : decode cX10_init 113 = .ok (.iadd, 1) := by decide +kernel
theorem dX10_init_114 : decode cX10_init 114 = .ok (.ldc 25, 2) := by decide +kernel
theorem dX10_init_116 : decode cX10_init 116 = .ok (.iastore, 1) := by decide +kernel
theorem dX10_init_117 : decode cX10_init 117 = .ok (.aload_n 0, 1) := by decide +kernel
theorem dX10_init_118 : decode cX10_init 118 = .ok (.getfield 7, 3) := by decide +kernel
theorem dX10_init_121 : decode cX10_init 121 = .ok (.sipush 224, 3) := by decide +kernel
theorem dX10_init_124 : decode cX10_init 124 = .ok (.iload_n 1, 1) := by decide +kernel
theorem dX10_init_125 : decode cX10_init 125 = .ok (.iadd, 1) := by decide +kernel
theorem dX10_init_126 : decode cX10_init 126 = .ok (.iconst 5, 1) := by decide +kernel
theorem dX10_init_127 : decode cX10_init 127 = .ok (.iastore, 1) := by decide +kernel
theorem dX10_init_128 : decode cX10_init 128 = .ok (.iinc 1 1, 3) := by decide +kernel
theorem dX10_init_131 : decode cX10_init 131 = .ok (.goto (-31), 3) := by decide +kernel
theorem dX10_init_134 : decode cX10_init 134 = .ok (.return_, 1) := by decide +kernel
theorem dX10_thrown_0 : decode cX10_thrown 0 = .ok (.aload_n 0, 1) := by decide +kernel
theorem dX10_thrown_1 : decode cX10_thrown 1 = .ok (.getfield 36, 3) := by decide +kernel
theorem dX10_thrown_4 : decode cX10_thrown 4 = .ok (.ireturn, 1) := by decide +kernel
theorem dX10_in_0 : decode cX10_in 0 = .ok (.iload_n 0, 1) := by decide +kernel
theorem dX10_in_1 : decode cX10_in 1 = .ok (.iload_n 1, 1) := by decide +kernel
theorem dX10_in_2 : decode cX10_in 2 = .ok (.if_icmp .lt 12, 3) := by decide +kernel
theorem dX10_in_5 : decode cX10_in 5 = .ok (.iload_n 0, 1) := by decide +kernel
theorem dX10_in_6 : decode cX10_in 6 = .ok (.iload_n 2, 1) := by decide +kernel
theorem dX10_in_7 : decode cX10_in 7 = .ok (.if_icmp .gt 7, 3) := by decide +kernel
theorem dX10_in_10 : decode cX10_in 10 = .ok (.iconst 1, 1) := by decide +kernel
theorem dX10_in_11 : decode cX10_in 11 = .ok (.goto 4, 3) := by decide +kernel
theorem dX10_in_14 : decode cX10_in 14 = .ok (.iconst 0, 1) := by decide +kernel
theorem dX10_in_15 : decode cX10_in 15 = .ok (.ireturn, 1) := by decide +kernel
theorem dX10_fails_0 : decode cX10_fails 0 = .ok (.aload_n 0, 1) := by decide +kernel
theorem dX10_fails_1 : decode cX10_fails 1 = .ok (.iload_n 1, 1) := by decide +kernel
theorem dX10_fails_2 : decode cX10_fails 2 = .ok (.putfield 36, 3) := by decide +kernel
theorem dX10_fails_5 : decode cX10_fails 5 = .ok (.iconst 0, 1) := by decide +kernel
theorem dX10_fails_6 : decode cX10_fails 6 = .ok (.ireturn, 1) := by decide +kernel
theorem dX10_sets_0 : decode cX10_sets 0 = .ok (.aload_n 0, 1) := by decide +kernel
theorem dX10_sets_1 : decode cX10_sets 1 = .ok (.getfield 7, 3) := by decide +kernel
theorem dX10_sets_4 : decode cX10_sets 4 = .ok (.iload_n 1, 1) := by decide +kernel
theorem dX10_sets_5 : decode cX10_sets 5 = .ok (.iaload, 1) := by decide +kernel
theorem dX10_sets_6 : decode cX10_sets 6 = .ok (.istore_n 3, 1) := by decide +kernel
theorem dX10_sets_7 : decode cX10_sets 7 = .ok (.aload_n 0, 1) := by decide +kernel
theorem dX10_sets_8 : decode cX10_sets 8 = .ok (.getfield 7, 3) := by decide +kernel
theorem dX10_sets_11 : decode cX10_sets 11 = .ok (.iload_n 1, 1) := by decide +kernel
theorem dX10_sets_12 : decode cX10_sets 12 = .ok (.iload_n 2, 1) := by decide +kernel
theorem dX10_sets_13 : decode cX10_sets 13 = .ok (.iastore, 1) := by decide +kernel
theorem dX10_sets_14 : decode cX10_sets 14 = .ok (.iload_n 3, 1) := by decide +kernel
theorem dX10_sets_15 : decode cX10_sets 15 = .ok (.ireturn, 1) := by decide +kernel
theorem dX10_registerAt_0 : decode cX10_registerAt 0 = .ok (.bipush 32, 2) := by decide +kernel
theorem dX10_registerAt_2 : decode cX10_registerAt 2 = .ok (.iload_n 0, 1) := by decide +kernel
theorem dX10_registerAt_3 : decode cX10_registerAt 3 = .ok (.iconst 1, 1) := by decide +kernel
theorem dX10_registerAt_4 : decode cX10_registerAt 4 = .ok (.isub, 1) := by decide +kernel
theorem dX10_registerAt_5 : decode cX10_registerAt 5 = .ok (.imul, 1) := by decide +kernel
theorem dX10_registerAt_6 : decode cX10_registerAt 6 = .ok (.iload_n 1, 1) := by decide +kernel
theorem dX10_registerAt_7 : decode cX10_registerAt 7 = .ok (.iadd, 1) := by decide +kernel
theorem dX10_registerAt_8 : decode cX10_registerAt 8 = .ok (.ireturn, 1) := by decide +kernel
theorem dX10_isRegister_0 : decode cX10_isRegister 0 = .ok (.iload_n 0, 1) := by decide +kernel
theorem dX10_isRegister_1 : decode cX10_isRegister 1 = .ok (.iconst 1, 1) := by decide +kernel
theorem dX10_isRegister_2 : decode cX10_isRegister 2 = .ok (.iconst 3, 1) := by decide +kernel
theorem dX10_isRegister_3 : decode cX10_isRegister 3 = .ok (.invokestatic 39, 3) := by decide +kernel
theorem dX10_isRegister_6 : decode cX10_isRegister 6 = .ok (.ifCond .eq 17, 3) := by decide +kernel
theorem dX10_isRegister_9 : decode cX10_isRegister 9 = .ok (.iload_n 1, 1) := by decide +kernel
theorem dX10_isRegister_10 : decode cX10_isRegister 10 = .ok (.iconst 0, 1) := by decide +kernel
theorem dX10_isRegister_11 : decode cX10_isRegister 11 = .ok (.bipush 31, 2) := by decide +kernel
theorem dX10_isRegister_13 : decode cX10_isRegister 13 = .ok (.invokestatic 39, 3) := by decide +kernel
theorem dX10_isRegister_16 : decode cX10_isRegister 16 = .ok (.ifCond .eq 7, 3) := by decide +kernel
theorem dX10_isRegister_19 : decode cX10_isRegister 19 = .ok (.iconst 1, 1) := by decide +kernel
theorem dX10_isRegister_20 : decode cX10_isRegister 20 = .ok (.goto 4, 3) := by decide +kernel
theorem dX10_isRegister_23 : decode cX10_isRegister 23 = .ok (.iconst 0, 1) := by decide +kernel
theorem dX10_isRegister_24 : decode cX10_isRegister 24 = .ok (.ireturn, 1) := by decide +kernel
theorem dX10_set_0 : decode cX10_set 0 = .ok (.aload_n 0, 1) := by decide +kernel
theorem dX10_set_1 : decode cX10_set 1 = .ok (.iconst 0, 1) := by decide +kernel
theorem dX10_set_2 : decode cX10_set 2 = .ok (.putfield 36, 3) := by decide +kernel
theorem dX10_set_5 : decode cX10_set 5 = .ok (.iload_n 1, 1) := by decide +kernel
theorem dX10_set_6 : decode cX10_set 6 = .ok (.iconst 0, 1) := by decide +kernel
theorem dX10_set_7 : decode cX10_set 7 = .ok (.iconst 4, 1) := by decide +kernel
theorem dX10_set_8 : decode cX10_set 8 = .ok (.invokestatic 39, 3) := by decide +kernel
theorem dX10_set_11 : decode cX10_set 11 = .ok (.ifCond .ne 9, 3) := by decide +kernel
theorem dX10_set_14 : decode cX10_set 14 = .ok (.aload_n 0, 1) := by decide +kernel
theorem dX10_set_15 : decode cX10_set 15 = .ok (.iconst 1, 1) := by decide +kernel
theorem dX10_set_16 : decode cX10_set 16 = .ok (.invokevirtual 43, 3) := by decide +kernel
theorem dX10_set_19 : decode cX10_set 19 = .ok (.ireturn, 1) := by decide +kernel
theorem dX10_set_20 : decode cX10_set 20 = .ok (.iload_n 1, 1) := by decide +kernel
theorem dX10_set_21 : decode cX10_set 21 = .ok (.ifCond .ne 9, 3) := by decide +kernel
theorem dX10_set_24 : decode cX10_set 24 = .ok (.sipush 10000, 3) := by decide +kernel
theorem dX10_set_27 : decode cX10_set 27 = .ok (.goto 24, 3) := by decide +kernel
theorem dX10_set_30 : decode cX10_set 30 = .ok (.iload_n 1, 1) := by decide +kernel
theorem dX10_set_31 : decode cX10_set 31 = .ok (.iconst 2, 1) := by decide +kernel
theorem dX10_set_32 : decode cX10_set 32 = .ok (.if_icmp .ne 7, 3) := by decide +kernel
theorem dX10_set_35 : decode cX10_set 35 = .ok (.iconst 3, 1) := by decide +kernel
theorem dX10_set_36 : decode cX10_set 36 = .ok (.goto 15, 3) := by decide +kernel
theorem dX10_set_39 : decode cX10_set 39 = .ok (.iload_n 1, 1) := by decide +kernel
theorem dX10_set_40 : decode cX10_set 40 = .ok (.iconst 4, 1) := by decide +kernel
theorem dX10_set_41 : decode cX10_set 41 = .ok (.if_icmp .ne 7, 3) := by decide +kernel
theorem dX10_set_44 : decode cX10_set 44 = .ok (.iconst 1, 1) := by decide +kernel
theorem dX10_set_45 : decode cX10_set 45 = .ok (.goto 6, 3) := by decide +kernel
theorem dX10_set_48 : decode cX10_set 48 = .ok (.sipush 1000, 3) := by decide +kernel
theorem dX10_set_51 : decode cX10_set 51 = .ok (.istore_n 3, 1) := by decide +kernel
theorem dX10_set_52 : decode cX10_set 52 = .ok (.iload_n 2, 1) := by decide +kernel
theorem dX10_set_53 : decode cX10_set 53 = .ok (.iload_n 1, 1) := by decide +kernel
theorem dX10_set_54 : decode cX10_set 54 = .ok (.iconst 1, 1) := by decide +kernel
theorem dX10_set_55 : decode cX10_set 55 = .ok (.if_icmp .ne 7, 3) := by decide +kernel
theorem dX10_set_58 : decode cX10_set 58 = .ok (.iconst 1, 1) := by decide +kernel
theorem dX10_set_59 : decode cX10_set 59 = .ok (.goto 4, 3) := by decide +kernel
theorem dX10_set_62 : decode cX10_set 62 = .ok (.iconst 0, 1) := by decide +kernel
theorem dX10_set_63 : decode cX10_set 63 = .ok (.iload_n 3, 1) := by decide +kernel
theorem dX10_set_64 : decode cX10_set 64 = .ok (.invokestatic 39, 3) := by decide +kernel
theorem dX10_set_67 : decode cX10_set 67 = .ok (.ifCond .eq 14, 3) := by decide +kernel
theorem dX10_set_70 : decode cX10_set 70 = .ok (.aload_n 0, 1) := by decide +kernel
theorem dX10_set_71 : decode cX10_set 71 = .ok (.iconst 1, 1) := by decide +kernel
theorem dX10_set_72 : decode cX10_set 72 = .ok (.iload_n 1, 1) := by decide +kernel
theorem dX10_set_73 : decode cX10_set 73 = .ok (.iadd, 1) := by decide +kernel
theorem dX10_set_74 : decode cX10_set 74 = .ok (.iload_n 2, 1) := by decide +kernel
theorem dX10_set_75 : decode cX10_set 75 = .ok (.invokevirtual 47, 3) := by decide +kernel
theorem dX10_set_78 : decode cX10_set 78 = .ok (.goto 8, 3) := by decide +kernel
theorem dX10_set_81 : decode cX10_set 81 = .ok (.aload_n 0, 1) := by decide +kernel
theorem dX10_set_82 : decode cX10_set 82 = .ok (.iconst 2, 1) := by decide +kernel
theorem dX10_set_83 : decode cX10_set 83 = .ok (.invokevirtual 43, 3) := by decide +kernel
theorem dX10_set_86 : decode cX10_set 86 = .ok (.ireturn, 1) := by decide +kernel
theorem dX10_setDevice_0 : decode cX10_setDevice 0 = .ok (.aload_n 0, 1) := by decide +kernel
theorem dX10_setDevice_1 : decode cX10_setDevice 1 = .ok (.iconst 0, 1) := by decide +kernel
theorem dX10_setDevice_2 : decode cX10_setDevice 2 = .ok (.putfield 36, 3) := by decide +kernel
theorem dX10_setDevice_5 : decode cX10_setDevice 5 = .ok (.iload_n 1, 1) := by decide +kernel
theorem dX10_setDevice_6 : decode cX10_setDevice 6 = .ok (.iconst 1, 1) := by decide +kernel
theorem dX10_setDevice_7 : decode cX10_setDevice 7 = .ok (.iconst 3, 1) := by decide +kernel
theorem dX10_setDevice_8 : decode cX10_setDevice 8 = .ok (.invokestatic 39, 3) := by decide +kernel
theorem dX10_setDevice_11 : decode cX10_setDevice 11 = .ok (.ifCond .eq 12, 3) := by decide +kernel
theorem dX10_setDevice_14 : decode cX10_setDevice 14 = .ok (.iload_n 2, 1) := by decide +kernel
theorem dX10_setDevice_15 : decode cX10_setDevice 15 = .ok (.iconst 0, 1) := by decide +kernel
theorem dX10_setDevice_16 : decode cX10_setDevice 16 = .ok (.iconst 1, 1) := by decide +kernel
theorem dX10_setDevice_17 : decode cX10_setDevice 17 = .ok (.invokestatic 39, 3) := by decide +kernel
theorem dX10_setDevice_20 : decode cX10_setDevice 20 = .ok (.ifCond .ne 9, 3) := by decide +kernel
theorem dX10_setDevice_23 : decode cX10_setDevice 23 = .ok (.aload_n 0, 1) := by decide +kernel
theorem dX10_setDevice_24 : decode cX10_setDevice 24 = .ok (.iconst 1, 1) := by decide +kernel
theorem dX10_setDevice_25 : decode cX10_setDevice 25 = .ok (.invokevirtual 43, 3) := by decide +kernel
theorem dX10_setDevice_28 : decode cX10_setDevice 28 = .ok (.ireturn, 1) := by decide +kernel
theorem dX10_setDevice_29 : decode cX10_setDevice 29 = .ok (.iload_n 3, 1) := by decide +kernel
theorem dX10_setDevice_30 : decode cX10_setDevice 30 = .ok (.iconst 0, 1) := by decide +kernel
theorem dX10_setDevice_31 : decode cX10_setDevice 31 = .ok (.iload_n 2, 1) := by decide +kernel
theorem dX10_setDevice_32 : decode cX10_setDevice 32 = .ok (.ifCond .ne 9, 3) := by decide +kernel
theorem dX10_setDevice_35 : decode cX10_setDevice 35 = .ok (.sipush 1000, 3) := by decide +kernel
theorem dX10_setDevice_38 : decode cX10_setDevice 38 = .ok (.goto 5, 3) := by decide +kernel
theorem dX10_setDevice_41 : decode cX10_setDevice 41 = .ok (.ldc 25, 2) := by decide +kernel
theorem dX10_setDevice_43 : decode cX10_setDevice 43 = .ok (.invokestatic 39, 3) := by decide +kernel
theorem dX10_setDevice_46 : decode cX10_setDevice 46 = .ok (.ifCond .eq 28, 3) := by decide +kernel
theorem dX10_setDevice_49 : decode cX10_setDevice 49 = .ok (.aload_n 0, 1) := by decide +kernel
theorem dX10_setDevice_50 : decode cX10_setDevice 50 = .ok (.iload_n 2, 1) := by decide +kernel
theorem dX10_setDevice_51 : decode cX10_setDevice 51 = .ok (.ifCond .ne 9, 3) := by decide +kernel
theorem dX10_setDevice_54 : decode cX10_setDevice 54 = .ok (.sipush 224, 3) := by decide +kernel
theorem dX10_setDevice_57 : decode cX10_setDevice 57 = .ok (.goto 6, 3) := by decide +kernel
theorem dX10_setDevice_60 : decode cX10_setDevice 60 = .ok (.sipush 220, 3) := by decide +kernel
theorem dX10_setDevice_63 : decode cX10_setDevice 63 = .ok (.iload_n 1, 1) := by decide +kernel
theorem dX10_setDevice_64 : decode cX10_setDevice 64 = .ok (.iadd, 1) := by decide +kernel
theorem dX10_setDevice_65 : decode cX10_setDevice 65 = .ok (.iconst 1, 1) := by decide +kernel
theorem dX10_setDevice_66 : decode cX10_setDevice 66 = .ok (.isub, 1) := by decide +kernel
theorem dX10_setDevice_67 : decode cX10_setDevice 67 = .ok (.iload_n 3, 1) := by decide +kernel
theorem dX10_setDevice_68 : decode cX10_setDevice 68 = .ok (.invokevirtual 47, 3) := by decide +kernel
theorem dX10_setDevice_71 : decode cX10_setDevice 71 = .ok (.goto 8, 3) := by decide +kernel
theorem dX10_setDevice_74 : decode cX10_setDevice 74 = .ok (.aload_n 0, 1) := by decide +kernel
theorem dX10_setDevice_75 : decode cX10_setDevice 75 = .ok (.iconst 2, 1) := by decide +kernel
theorem dX10_setDevice_76 : decode cX10_setDevice 76 = .ok (.invokevirtual 43, 3) := by decide +kernel
theorem dX10_setDevice_79 : decode cX10_setDevice 79 = .ok (.ireturn, 1) := by decide +kernel
theorem dX10_poke_0 : decode cX10_poke 0 = .ok (.aload_n 0, 1) := by decide +kernel
theorem dX10_poke_1 : decode cX10_poke 1 = .ok (.iconst 0, 1) := by decide +kernel
theorem dX10_poke_2 : decode cX10_poke 2 = .ok (.putfield 36, 3) := by decide +kernel
theorem dX10_poke_5 : decode cX10_poke 5 = .ok (.iload_n 1, 1) := by decide +kernel
theorem dX10_poke_6 : decode cX10_poke 6 = .ok (.iload_n 2, 1) := by decide +kernel
theorem dX10_poke_7 : decode cX10_poke 7 = .ok (.invokestatic 51, 3) := by decide +kernel
theorem dX10_poke_10 : decode cX10_poke 10 = .ok (.ifCond .ne 9, 3) := by decide +kernel
theorem dX10_poke_13 : decode cX10_poke 13 = .ok (.aload_n 0, 1) := by decide +kernel
theorem dX10_poke_14 : decode cX10_poke 14 = .ok (.iconst 1, 1) := by decide +kernel
theorem dX10_poke_15 : decode cX10_poke 15 = .ok (.invokevirtual 43, 3) := by decide +kernel
theorem dX10_poke_18 : decode cX10_poke 18 = .ok (.ireturn, 1) := by decide +kernel
theorem dX10_poke_19 : decode cX10_poke 19 = .ok (.iload_n 3, 1) := by decide +kernel
theorem dX10_poke_20 : decode cX10_poke 20 = .ok (.iconst 0, 1) := by decide +kernel
theorem dX10_poke_21 : decode cX10_poke 21 = .ok (.ldc 25, 2) := by decide +kernel
theorem dX10_poke_23 : decode cX10_poke 23 = .ok (.invokestatic 39, 3) := by decide +kernel
theorem dX10_poke_26 : decode cX10_poke 26 = .ok (.ifCond .eq 19, 3) := by decide +kernel
theorem dX10_poke_29 : decode cX10_poke 29 = .ok (.aload_n 0, 1) := by decide +kernel
theorem dX10_poke_30 : decode cX10_poke 30 = .ok (.bipush 20, 2) := by decide +kernel
theorem dX10_poke_32 : decode cX10_poke 32 = .ok (.iload_n 1, 1) := by decide +kernel
theorem dX10_poke_33 : decode cX10_poke 33 = .ok (.iload_n 2, 1) := by decide +kernel
theorem dX10_poke_34 : decode cX10_poke 34 = .ok (.invokestatic 55, 3) := by decide +kernel
theorem dX10_poke_37 : decode cX10_poke 37 = .ok (.iadd, 1) := by decide +kernel
theorem dX10_poke_38 : decode cX10_poke 38 = .ok (.iload_n 3, 1) := by decide +kernel
theorem dX10_poke_39 : decode cX10_poke 39 = .ok (.invokevirtual 47, 3) := by decide +kernel
theorem dX10_poke_42 : decode cX10_poke 42 = .ok (.goto 8, 3) := by decide +kernel
theorem dX10_poke_45 : decode cX10_poke 45 = .ok (.aload_n 0, 1) := by decide +kernel
theorem dX10_poke_46 : decode cX10_poke 46 = .ok (.iconst 2, 1) := by decide +kernel
theorem dX10_poke_47 : decode cX10_poke 47 = .ok (.invokevirtual 43, 3) := by decide +kernel
theorem dX10_poke_50 : decode cX10_poke 50 = .ok (.ireturn, 1) := by decide +kernel
theorem dX10_peek_0 : decode cX10_peek 0 = .ok (.aload_n 0, 1) := by decide +kernel
theorem dX10_peek_1 : decode cX10_peek 1 = .ok (.iconst 0, 1) := by decide +kernel
theorem dX10_peek_2 : decode cX10_peek 2 = .ok (.putfield 36, 3) := by decide +kernel
theorem dX10_peek_5 : decode cX10_peek 5 = .ok (.iload_n 1, 1) := by decide +kernel
theorem dX10_peek_6 : decode cX10_peek 6 = .ok (.iload_n 2, 1) := by decide +kernel
theorem dX10_peek_7 : decode cX10_peek 7 = .ok (.invokestatic 51, 3) := by decide +kernel
theorem dX10_peek_10 : decode cX10_peek 10 = .ok (.ifCond .eq 19, 3) := by decide +kernel
theorem dX10_peek_13 : decode cX10_peek 13 = .ok (.aload_n 0, 1) := by decide +kernel
theorem dX10_peek_14 : decode cX10_peek 14 = .ok (.getfield 7, 3) := by decide +kernel
theorem dX10_peek_17 : decode cX10_peek 17 = .ok (.bipush 20, 2) := by decide +kernel
theorem dX10_peek_19 : decode cX10_peek 19 = .ok (.iload_n 1, 1) := by decide +kernel
theorem dX10_peek_20 : decode cX10_peek 20 = .ok (.iload_n 2, 1) := by decide +kernel
theorem dX10_peek_21 : decode cX10_peek 21 = .ok (.invokestatic 55, 3) := by decide +kernel
theorem dX10_peek_24 : decode cX10_peek 24 = .ok (.iadd, 1) := by decide +kernel
theorem dX10_peek_25 : decode cX10_peek 25 = .ok (.iaload, 1) := by decide +kernel
theorem dX10_peek_26 : decode cX10_peek 26 = .ok (.goto 8, 3) := by decide +kernel
theorem dX10_peek_29 : decode cX10_peek 29 = .ok (.aload_n 0, 1) := by decide +kernel
theorem dX10_peek_30 : decode cX10_peek 30 = .ok (.iconst 1, 1) := by decide +kernel
theorem dX10_peek_31 : decode cX10_peek 31 = .ok (.invokevirtual 43, 3) := by decide +kernel
theorem dX10_peek_34 : decode cX10_peek 34 = .ok (.ireturn, 1) := by decide +kernel
theorem dX10_protect_0 : decode cX10_protect 0 = .ok (.aload_n 0, 1) := by decide +kernel
theorem dX10_protect_1 : decode cX10_protect 1 = .ok (.iload_n 1, 1) := by decide +kernel
theorem dX10_protect_2 : decode cX10_protect 2 = .ok (.iload_n 2, 1) := by decide +kernel
theorem dX10_protect_3 : decode cX10_protect 3 = .ok (.invokestatic 51, 3) := by decide +kernel
theorem dX10_protect_6 : decode cX10_protect 6 = .ok (.ifCond .eq 7, 3) := by decide +kernel
theorem dX10_protect_9 : decode cX10_protect 9 = .ok (.iconst 0, 1) := by decide +kernel
theorem dX10_protect_10 : decode cX10_protect 10 = .ok (.goto 4, 3) := by decide +kernel
theorem dX10_protect_13 : decode cX10_protect 13 = .ok (.iconst 1, 1) := by decide +kernel
theorem dX10_protect_14 : decode cX10_protect 14 = .ok (.putfield 36, 3) := by decide +kernel
theorem dX10_protect_17 : decode cX10_protect 17 = .ok (.aload_n 0, 1) := by decide +kernel
theorem dX10_protect_18 : decode cX10_protect 18 = .ok (.getfield 36, 3) := by decide +kernel
theorem dX10_protect_21 : decode cX10_protect 21 = .ok (.ifCond .ne 32, 3) := by decide +kernel
theorem dX10_protect_24 : decode cX10_protect 24 = .ok (.aload_n 0, 1) := by decide +kernel
theorem dX10_protect_25 : decode cX10_protect 25 = .ok (.bipush 120, 2) := by decide +kernel
theorem dX10_protect_27 : decode cX10_protect 27 = .ok (.iload_n 1, 1) := by decide +kernel
theorem dX10_protect_28 : decode cX10_protect 28 = .ok (.iload_n 2, 1) := by decide +kernel
theorem dX10_protect_29 : decode cX10_protect 29 = .ok (.invokestatic 55, 3) := by decide +kernel
theorem dX10_protect_32 : decode cX10_protect 32 = .ok (.iadd, 1) := by decide +kernel
theorem dX10_protect_33 : decode cX10_protect 33 = .ok (.iload_n 3, 1) := by decide +kernel
theorem dX10_protect_34 : decode cX10_protect 34 = .ok (.ifCond .eq 7, 3) := by decide +kernel
theorem dX10_protect_37 : decode cX10_protect 37 = .ok (.iconst 1, 1) := by decide +kernel
theorem dX10_protect_38 : decode cX10_protect 38 = .ok (.goto 4, 3) := by decide +kernel
theorem dX10_protect_41 : decode cX10_protect 41 = .ok (.iconst 0, 1) := by decide +kernel
theorem dX10_protect_42 : decode cX10_protect 42 = .ok (.invokevirtual 47, 3) := by decide +kernel
theorem dX10_protect_45 : decode cX10_protect 45 = .ok (.iconst 1, 1) := by decide +kernel
theorem dX10_protect_46 : decode cX10_protect 46 = .ok (.if_icmp .ne 7, 3) := by decide +kernel
theorem dX10_protect_49 : decode cX10_protect 49 = .ok (.iconst 1, 1) := by decide +kernel
theorem dX10_protect_50 : decode cX10_protect 50 = .ok (.goto 4, 3) := by decide +kernel
theorem dX10_protect_53 : decode cX10_protect 53 = .ok (.iconst 0, 1) := by decide +kernel
theorem dX10_protect_54 : decode cX10_protect 54 = .ok (.ireturn, 1) := by decide +kernel
theorem dX10_faults_0 : decode cX10_faults 0 = .ok (.sipush 230, 3) := by decide +kernel
theorem dX10_faults_3 : decode cX10_faults 3 = .ok (.bipush 13, 2) := by decide +kernel
theorem dX10_faults_5 : decode cX10_faults 5 = .ok (.iload_n 0, 1) := by decide +kernel
theorem dX10_faults_6 : decode cX10_faults 6 = .ok (.iconst 1, 1) := by decide +kernel
theorem dX10_faults_7 : decode cX10_faults 7 = .ok (.isub, 1) := by decide +kernel
theorem dX10_faults_8 : decode cX10_faults 8 = .ok (.imul, 1) := by decide +kernel
theorem dX10_faults_9 : decode cX10_faults 9 = .ok (.iadd, 1) := by decide +kernel
theorem dX10_faults_10 : decode cX10_faults 10 = .ok (.ireturn, 1) := by decide +kernel
theorem dX10_fault_0 : decode cX10_fault 0 = .ok (.aload_n 0, 1) := by decide +kernel
theorem dX10_fault_1 : decode cX10_fault 1 = .ok (.iconst 0, 1) := by decide +kernel
theorem dX10_fault_2 : decode cX10_fault 2 = .ok (.putfield 36, 3) := by decide +kernel
theorem dX10_fault_5 : decode cX10_fault 5 = .ok (.iload_n 1, 1) := by decide +kernel
theorem dX10_fault_6 : decode cX10_fault 6 = .ok (.iconst 1, 1) := by decide +kernel
theorem dX10_fault_7 : decode cX10_fault 7 = .ok (.iconst 3, 1) := by decide +kernel
theorem dX10_fault_8 : decode cX10_fault 8 = .ok (.invokestatic 39, 3) := by decide +kernel
theorem dX10_fault_11 : decode cX10_fault 11 = .ok (.ifCond .ne 9, 3) := by decide +kernel
theorem dX10_fault_14 : decode cX10_fault 14 = .ok (.aload_n 0, 1) := by decide +kernel
theorem dX10_fault_15 : decode cX10_fault 15 = .ok (.iconst 1, 1) := by decide +kernel
theorem dX10_fault_16 : decode cX10_fault 16 = .ok (.invokevirtual 43, 3) := by decide +kernel
theorem dX10_fault_19 : decode cX10_fault 19 = .ok (.ireturn, 1) := by decide +kernel
theorem dX10_fault_20 : decode cX10_fault 20 = .ok (.iload_n 2, 1) := by decide +kernel
theorem dX10_fault_21 : decode cX10_fault 21 = .ok (.iconst 1, 1) := by decide +kernel
theorem dX10_fault_22 : decode cX10_fault 22 = .ok (.iconst 4, 1) := by decide +kernel
theorem dX10_fault_23 : decode cX10_fault 23 = .ok (.invokestatic 39, 3) := by decide +kernel
theorem dX10_fault_26 : decode cX10_fault 26 = .ok (.ifCond .eq 14, 3) := by decide +kernel
theorem dX10_fault_29 : decode cX10_fault 29 = .ok (.iload_n 3, 1) := by decide +kernel
theorem dX10_fault_30 : decode cX10_fault 30 = .ok (.iconst 0, 1) := by decide +kernel
theorem dX10_fault_31 : decode cX10_fault 31 = .ok (.sipush 2000, 3) := by decide +kernel
theorem dX10_fault_34 : decode cX10_fault 34 = .ok (.invokestatic 39, 3) := by decide +kernel
theorem dX10_fault_37 : decode cX10_fault 37 = .ok (.ifCond .ne 9, 3) := by decide +kernel
theorem dX10_fault_40 : decode cX10_fault 40 = .ok (.aload_n 0, 1) := by decide +kernel
theorem dX10_fault_41 : decode cX10_fault 41 = .ok (.iconst 2, 1) := by decide +kernel
theorem dX10_fault_42 : decode cX10_fault 42 = .ok (.invokevirtual 43, 3) := by decide +kernel
theorem dX10_fault_45 : decode cX10_fault 45 = .ok (.ireturn, 1) := by decide +kernel
theorem dX10_fault_46 : decode cX10_fault 46 = .ok (.iload_n 1, 1) := by decide +kernel
theorem dX10_fault_47 : decode cX10_fault 47 = .ok (.invokestatic 58, 3) := by decide +kernel
theorem dX10_fault_50 : decode cX10_fault 50 = .ok (.istore 4, 2) := by decide +kernel
theorem dX10_fault_52 : decode cX10_fault 52 = .ok (.aload_n 0, 1) := by decide +kernel
theorem dX10_fault_53 : decode cX10_fault 53 = .ok (.getfield 7, 3) := by decide +kernel
theorem dX10_fault_56 : decode cX10_fault 56 = .ok (.iload 4, 2) := by decide +kernel
theorem dX10_fault_58 : decode cX10_fault 58 = .ok (.iaload, 1) := by decide +kernel
theorem dX10_fault_59 : decode cX10_fault 59 = .ok (.bipush 6, 2) := by decide +kernel
theorem dX10_fault_61 : decode cX10_fault 61 = .ok (.if_icmp .ne 9, 3) := by decide +kernel
theorem dX10_fault_64 : decode cX10_fault 64 = .ok (.aload_n 0, 1) := by decide +kernel
theorem dX10_fault_65 : decode cX10_fault 65 = .ok (.iconst 3, 1) := by decide +kernel
theorem dX10_fault_66 : decode cX10_fault 66 = .ok (.invokevirtual 43, 3) := by decide +kernel
theorem dX10_fault_69 : decode cX10_fault 69 = .ok (.ireturn, 1) := by decide +kernel
theorem dX10_fault_70 : decode cX10_fault 70 = .ok (.aload_n 0, 1) := by decide +kernel
theorem dX10_fault_71 : decode cX10_fault 71 = .ok (.getfield 7, 3) := by decide +kernel
theorem dX10_fault_74 : decode cX10_fault 74 = .ok (.iload 4, 2) := by decide +kernel
theorem dX10_fault_76 : decode cX10_fault 76 = .ok (.iconst 1, 1) := by decide +kernel
theorem dX10_fault_77 : decode cX10_fault 77 = .ok (.iadd, 1) := by decide +kernel
theorem dX10_fault_78 : decode cX10_fault 78 = .ok (.iconst 2, 1) := by decide +kernel
theorem dX10_fault_79 : decode cX10_fault 79 = .ok (.aload_n 0, 1) := by decide +kernel
theorem dX10_fault_80 : decode cX10_fault 80 = .ok (.getfield 7, 3) := by decide +kernel
theorem dX10_fault_83 : decode cX10_fault 83 = .ok (.iload 4, 2) := by decide +kernel
theorem dX10_fault_85 : decode cX10_fault 85 = .ok (.iaload, 1) := by decide +kernel
theorem dX10_fault_86 : decode cX10_fault 86 = .ok (.imul, 1) := by decide +kernel
theorem dX10_fault_87 : decode cX10_fault 87 = .ok (.iadd, 1) := by decide +kernel
theorem dX10_fault_88 : decode cX10_fault 88 = .ok (.iload_n 2, 1) := by decide +kernel
theorem dX10_fault_89 : decode cX10_fault 89 = .ok (.iastore, 1) := by decide +kernel
theorem dX10_fault_90 : decode cX10_fault 90 = .ok (.aload_n 0, 1) := by decide +kernel
theorem dX10_fault_91 : decode cX10_fault 91 = .ok (.getfield 7, 3) := by decide +kernel
theorem dX10_fault_94 : decode cX10_fault 94 = .ok (.iload 4, 2) := by decide +kernel
theorem dX10_fault_96 : decode cX10_fault 96 = .ok (.iconst 2, 1) := by decide +kernel
theorem dX10_fault_97 : decode cX10_fault 97 = .ok (.iadd, 1) := by decide +kernel
theorem dX10_fault_98 : decode cX10_fault 98 = .ok (.iconst 2, 1) := by decide +kernel
theorem dX10_fault_99 : decode cX10_fault 99 = .ok (.aload_n 0, 1) := by decide +kernel
theorem dX10_fault_100 : decode cX10_fault 100 = .ok (.getfield 7, 3) := by decide +kernel
theorem dX10_fault_103 : decode cX10_fault 103 = .ok (.iload 4, 2) := by decide +kernel
theorem dX10_fault_105 : decode cX10_fault 105 = .ok (.iaload, 1) := by decide +kernel
theorem dX10_fault_106 : decode cX10_fault 106 = .ok (.imul, 1) := by decide +kernel
theorem dX10_fault_107 : decode cX10_fault 107 = .ok (.iadd, 1) := by decide +kernel
theorem dX10_fault_108 : decode cX10_fault 108 = .ok (.iload_n 3, 1) := by decide +kernel
theorem dX10_fault_109 : decode cX10_fault 109 = .ok (.iastore, 1) := by decide +kernel
theorem dX10_fault_110 : decode cX10_fault 110 = .ok (.aload_n 0, 1) := by decide +kernel
theorem dX10_fault_111 : decode cX10_fault 111 = .ok (.getfield 7, 3) := by decide +kernel
theorem dX10_fault_114 : decode cX10_fault 114 = .ok (.iload 4, 2) := by decide +kernel
theorem dX10_fault_116 : decode cX10_fault 116 = .ok (.dup2, 1) := by decide +kernel
theorem dX10_fault_117 : decode cX10_fault 117 = .ok (.iaload, 1) := by decide +kernel
theorem dX10_fault_118 : decode cX10_fault 118 = .ok (.iconst 1, 1) := by decide +kernel
theorem dX10_fault_119 : decode cX10_fault 119 = .ok (.iadd, 1) := by decide +kernel
theorem dX10_fault_120 : decode cX10_fault 120 = .ok (.iastore, 1) := by decide +kernel
theorem dX10_fault_121 : decode cX10_fault 121 = .ok (.aload_n 0, 1) := by decide +kernel
theorem dX10_fault_122 : decode cX10_fault 122 = .ok (.getfield 7, 3) := by decide +kernel
theorem dX10_fault_125 : decode cX10_fault 125 = .ok (.iload 4, 2) := by decide +kernel
theorem dX10_fault_127 : decode cX10_fault 127 = .ok (.iaload, 1) := by decide +kernel
theorem dX10_fault_128 : decode cX10_fault 128 = .ok (.ireturn, 1) := by decide +kernel
theorem dX10_requestAt_0 : decode cX10_requestAt 0 = .ok (.sipush 280, 3) := by decide +kernel
theorem dX10_requestAt_3 : decode cX10_requestAt 3 = .ok (.bipush 12, 2) := by decide +kernel
theorem dX10_requestAt_5 : decode cX10_requestAt 5 = .ok (.iload_n 0, 1) := by decide +kernel
theorem dX10_requestAt_6 : decode cX10_requestAt 6 = .ok (.imul, 1) := by decide +kernel
theorem dX10_requestAt_7 : decode cX10_requestAt 7 = .ok (.iadd, 1) := by decide +kernel
theorem dX10_requestAt_8 : decode cX10_requestAt 8 = .ok (.ireturn, 1) := by decide +kernel
theorem dX10_isRequest_0 : decode cX10_isRequest 0 = .ok (.iload_n 1, 1) := by decide +kernel
theorem dX10_isRequest_1 : decode cX10_isRequest 1 = .ok (.iconst 0, 1) := by decide +kernel
theorem dX10_isRequest_2 : decode cX10_isRequest 2 = .ok (.aload_n 0, 1) := by decide +kernel
theorem dX10_isRequest_3 : decode cX10_isRequest 3 = .ok (.getfield 7, 3) := by decide +kernel
theorem dX10_isRequest_6 : decode cX10_isRequest 6 = .ok (.bipush 6, 2) := by decide +kernel
theorem dX10_isRequest_8 : decode cX10_isRequest 8 = .ok (.iaload, 1) := by decide +kernel
theorem dX10_isRequest_9 : decode cX10_isRequest 9 = .ok (.iconst 1, 1) := by decide +kernel
theorem dX10_isRequest_10 : decode cX10_isRequest 10 = .ok (.isub, 1) := by decide +kernel
theorem dX10_isRequest_11 : decode cX10_isRequest 11 = .ok (.invokestatic 39, 3) := by decide +kernel
theorem dX10_isRequest_14 : decode cX10_isRequest 14 = .ok (.ireturn, 1) := by decide +kernel
theorem dX10_makes_0 : decode cX10_makes 0 = .ok (.aload_n 0, 1) := by decide +kernel
theorem dX10_makes_1 : decode cX10_makes 1 = .ok (.getfield 7, 3) := by decide +kernel
theorem dX10_makes_4 : decode cX10_makes 4 = .ok (.bipush 6, 2) := by decide +kernel
theorem dX10_makes_6 : decode cX10_makes 6 = .ok (.iaload, 1) := by decide +kernel
theorem dX10_makes_7 : decode cX10_makes 7 = .ok (.invokestatic 61, 3) := by decide +kernel
theorem dX10_makes_10 : decode cX10_makes 10 = .ok (.istore 7, 2) := by decide +kernel
theorem dX10_makes_12 : decode cX10_makes 12 = .ok (.aload_n 0, 1) := by decide +kernel
theorem dX10_makes_13 : decode cX10_makes 13 = .ok (.getfield 7, 3) := by decide +kernel
theorem dX10_makes_16 : decode cX10_makes 16 = .ok (.iload 7, 2) := by decide +kernel
theorem dX10_makes_18 : decode cX10_makes 18 = .ok (.iload_n 1, 1) := by decide +kernel
theorem dX10_makes_19 : decode cX10_makes 19 = .ok (.iastore, 1) := by decide +kernel
theorem dX10_makes_20 : decode cX10_makes 20 = .ok (.aload_n 0, 1) := by decide +kernel
theorem dX10_makes_21 : decode cX10_makes 21 = .ok (.getfield 7, 3) := by decide +kernel
theorem dX10_makes_24 : decode cX10_makes 24 = .ok (.iload 7, 2) := by decide +kernel
theorem dX10_makes_26 : decode cX10_makes 26 = .ok (.iconst 1, 1) := by decide +kernel
theorem dX10_makes_27 : decode cX10_makes 27 = .ok (.iadd, 1) := by decide +kernel
theorem dX10_makes_28 : decode cX10_makes 28 = .ok (.iload_n 2, 1) := by decide +kernel
theorem dX10_makes_29 : decode cX10_makes 29 = .ok (.iastore, 1) := by decide +kernel
theorem dX10_makes_30 : decode cX10_makes 30 = .ok (.aload_n 0, 1) := by decide +kernel
theorem dX10_makes_31 : decode cX10_makes 31 = .ok (.getfield 7, 3) := by decide +kernel
theorem dX10_makes_34 : decode cX10_makes 34 = .ok (.iload 7, 2) := by decide +kernel
theorem dX10_makes_36 : decode cX10_makes 36 = .ok (.iconst 2, 1) := by decide +kernel
theorem dX10_makes_37 : decode cX10_makes 37 = .ok (.iadd, 1) := by decide +kernel
theorem dX10_makes_38 : decode cX10_makes 38 = .ok (.iload_n 3, 1) := by decide +kernel
theorem dX10_makes_39 : decode cX10_makes 39 = .ok (.iastore, 1) := by decide +kernel
theorem dX10_makes_40 : decode cX10_makes 40 = .ok (.aload_n 0, 1) := by decide +kernel
theorem dX10_makes_41 : decode cX10_makes 41 = .ok (.getfield 7, 3) := by decide +kernel
theorem dX10_makes_44 : decode cX10_makes 44 = .ok (.iload 7, 2) := by decide +kernel
theorem dX10_makes_46 : decode cX10_makes 46 = .ok (.iconst 3, 1) := by decide +kernel
theorem dX10_makes_47 : decode cX10_makes 47 = .ok (.iadd, 1) := by decide +kernel
theorem dX10_makes_48 : decode cX10_makes 48 = .ok (.iload 4, 2) := by decide +kernel
theorem dX10_makes_50 : decode cX10_makes 50 = .ok (.iastore, 1) := by decide +kernel
theorem dX10_makes_51 : decode cX10_makes 51 = .ok (.aload_n 0, 1) := by decide +kernel
theorem dX10_makes_52 : decode cX10_makes 52 = .ok (.getfield 7, 3) := by decide +kernel
theorem dX10_makes_55 : decode cX10_makes 55 = .ok (.iload 7, 2) := by decide +kernel
theorem dX10_makes_57 : decode cX10_makes 57 = .ok (.iconst 4, 1) := by decide +kernel
theorem dX10_makes_58 : decode cX10_makes 58 = .ok (.iadd, 1) := by decide +kernel
theorem dX10_makes_59 : decode cX10_makes 59 = .ok (.iload 5, 2) := by decide +kernel
theorem dX10_makes_61 : decode cX10_makes 61 = .ok (.ifCond .eq 7, 3) := by decide +kernel
theorem dX10_makes_64 : decode cX10_makes 64 = .ok (.iconst 1, 1) := by decide +kernel
theorem dX10_makes_65 : decode cX10_makes 65 = .ok (.goto 4, 3) := by decide +kernel
theorem dX10_makes_68 : decode cX10_makes 68 = .ok (.iconst 0, 1) := by decide +kernel
theorem dX10_makes_69 : decode cX10_makes 69 = .ok (.iastore, 1) := by decide +kernel
theorem dX10_makes_70 : decode cX10_makes 70 = .ok (.aload_n 0, 1) := by decide +kernel
theorem dX10_makes_71 : decode cX10_makes 71 = .ok (.getfield 7, 3) := by decide +kernel
theorem dX10_makes_74 : decode cX10_makes 74 = .ok (.iload 7, 2) := by decide +kernel
theorem dX10_makes_76 : decode cX10_makes 76 = .ok (.bipush 7, 2) := by decide +kernel
theorem dX10_makes_78 : decode cX10_makes 78 = .ok (.iadd, 1) := by decide +kernel
theorem dX10_makes_79 : decode cX10_makes 79 = .ok (.iconst (-1), 1) := by decide +kernel
theorem dX10_makes_80 : decode cX10_makes 80 = .ok (.iastore, 1) := by decide +kernel
theorem dX10_makes_81 : decode cX10_makes 81 = .ok (.aload_n 0, 1) := by decide +kernel
theorem dX10_makes_82 : decode cX10_makes 82 = .ok (.getfield 7, 3) := by decide +kernel
theorem dX10_makes_85 : decode cX10_makes 85 = .ok (.iload 7, 2) := by decide +kernel
theorem dX10_makes_87 : decode cX10_makes 87 = .ok (.bipush 9, 2) := by decide +kernel
theorem dX10_makes_89 : decode cX10_makes 89 = .ok (.iadd, 1) := by decide +kernel
theorem dX10_makes_90 : decode cX10_makes 90 = .ok (.iload 6, 2) := by decide +kernel
theorem dX10_makes_92 : decode cX10_makes 92 = .ok (.iastore, 1) := by decide +kernel
theorem dX10_makes_93 : decode cX10_makes 93 = .ok (.aload_n 0, 1) := by decide +kernel
theorem dX10_makes_94 : decode cX10_makes 94 = .ok (.getfield 7, 3) := by decide +kernel
theorem dX10_makes_97 : decode cX10_makes 97 = .ok (.bipush 6, 2) := by decide +kernel
theorem dX10_makes_99 : decode cX10_makes 99 = .ok (.dup2, 1) := by decide +kernel
theorem dX10_makes_100 : decode cX10_makes 100 = .ok (.iaload, 1) := by decide +kernel
theorem dX10_makes_101 : decode cX10_makes 101 = .ok (.iconst 1, 1) := by decide +kernel
theorem dX10_makes_102 : decode cX10_makes 102 = .ok (.iadd, 1) := by decide +kernel
theorem dX10_makes_103 : decode cX10_makes 103 = .ok (.iastore, 1) := by decide +kernel
theorem dX10_makes_104 : decode cX10_makes 104 = .ok (.aload_n 0, 1) := by decide +kernel
theorem dX10_makes_105 : decode cX10_makes 105 = .ok (.getfield 7, 3) := by decide +kernel
theorem dX10_makes_108 : decode cX10_makes 108 = .ok (.bipush 6, 2) := by decide +kernel
theorem dX10_makes_110 : decode cX10_makes 110 = .ok (.iaload, 1) := by decide +kernel
theorem dX10_makes_111 : decode cX10_makes 111 = .ok (.iconst 1, 1) := by decide +kernel
theorem dX10_makes_112 : decode cX10_makes 112 = .ok (.isub, 1) := by decide +kernel
theorem dX10_makes_113 : decode cX10_makes 113 = .ok (.ireturn, 1) := by decide +kernel
theorem dX10_asks_0 : decode cX10_asks 0 = .ok (.iload_n 1, 1) := by decide +kernel
theorem dX10_asks_1 : decode cX10_asks 1 = .ok (.iconst 0, 1) := by decide +kernel
theorem dX10_asks_2 : decode cX10_asks 2 = .ok (.iconst 3, 1) := by decide +kernel
theorem dX10_asks_3 : decode cX10_asks 3 = .ok (.invokestatic 39, 3) := by decide +kernel
theorem dX10_asks_6 : decode cX10_asks 6 = .ok (.ifCond .eq 12, 3) := by decide +kernel
theorem dX10_asks_9 : decode cX10_asks 9 = .ok (.iload_n 2, 1) := by decide +kernel
theorem dX10_asks_10 : decode cX10_asks 10 = .ok (.iconst 1, 1) := by decide +kernel
theorem dX10_asks_11 : decode cX10_asks 11 = .ok (.iconst 3, 1) := by decide +kernel
theorem dX10_asks_12 : decode cX10_asks 12 = .ok (.invokestatic 39, 3) := by decide +kernel
theorem dX10_asks_15 : decode cX10_asks 15 = .ok (.ifCond .ne 7, 3) := by decide +kernel
theorem dX10_asks_18 : decode cX10_asks 18 = .ok (.iconst 1, 1) := by decide +kernel
theorem dX10_asks_19 : decode cX10_asks 19 = .ok (.goto 28, 3) := by decide +kernel
theorem dX10_asks_22 : decode cX10_asks 22 = .ok (.iload_n 3, 1) := by decide +kernel
theorem dX10_asks_23 : decode cX10_asks 23 = .ok (.ifCond .ne 7, 3) := by decide +kernel
theorem dX10_asks_26 : decode cX10_asks 26 = .ok (.iconst 2, 1) := by decide +kernel
theorem dX10_asks_27 : decode cX10_asks 27 = .ok (.goto 20, 3) := by decide +kernel
theorem dX10_asks_30 : decode cX10_asks 30 = .ok (.aload_n 0, 1) := by decide +kernel
theorem dX10_asks_31 : decode cX10_asks 31 = .ok (.getfield 7, 3) := by decide +kernel
theorem dX10_asks_34 : decode cX10_asks 34 = .ok (.bipush 6, 2) := by decide +kernel
theorem dX10_asks_36 : decode cX10_asks 36 = .ok (.iaload, 1) := by decide +kernel
theorem dX10_asks_37 : decode cX10_asks 37 = .ok (.bipush 40, 2) := by decide +kernel
theorem dX10_asks_39 : decode cX10_asks 39 = .ok (.if_icmp .ne 7, 3) := by decide +kernel
theorem dX10_asks_42 : decode cX10_asks 42 = .ok (.iconst 3, 1) := by decide +kernel
theorem dX10_asks_43 : decode cX10_asks 43 = .ok (.goto 4, 3) := by decide +kernel
theorem dX10_asks_46 : decode cX10_asks 46 = .ok (.iconst 0, 1) := by decide +kernel
theorem dX10_asks_47 : decode cX10_asks 47 = .ok (.ireturn, 1) := by decide +kernel
theorem dX10_read_0 : decode cX10_read 0 = .ok (.aload_n 0, 1) := by decide +kernel
theorem dX10_read_1 : decode cX10_read 1 = .ok (.aload_n 0, 1) := by decide +kernel
theorem dX10_read_2 : decode cX10_read 2 = .ok (.iload_n 1, 1) := by decide +kernel
theorem dX10_read_3 : decode cX10_read 3 = .ok (.iload_n 2, 1) := by decide +kernel
theorem dX10_read_4 : decode cX10_read 4 = .ok (.iload_n 3, 1) := by decide +kernel
theorem dX10_read_5 : decode cX10_read 5 = .ok (.iconst 0, 1) := by decide +kernel
theorem dX10_read_6 : decode cX10_read 6 = .ok (.sipush 1000, 3) := by decide +kernel
theorem dX10_read_9 : decode cX10_read 9 = .ok (.invokestatic 39, 3) := by decide +kernel
theorem dX10_read_12 : decode cX10_read 12 = .ok (.ifCond .eq 18, 3) := by decide +kernel
theorem dX10_read_15 : decode cX10_read 15 = .ok (.iload 4, 2) := by decide +kernel
theorem dX10_read_17 : decode cX10_read 17 = .ok (.iconst 1, 1) := by decide +kernel
theorem dX10_read_18 : decode cX10_read 18 = .ok (.bipush 16, 2) := by decide +kernel
theorem dX10_read_20 : decode cX10_read 20 = .ok (.invokestatic 39, 3) := by decide +kernel
theorem dX10_read_23 : decode cX10_read 23 = .ok (.ifCond .eq 7, 3) := by decide +kernel
theorem dX10_read_26 : decode cX10_read 26 = .ok (.iconst 1, 1) := by decide +kernel
theorem dX10_read_27 : decode cX10_read 27 = .ok (.goto 4, 3) := by decide +kernel
theorem dX10_read_30 : decode cX10_read 30 = .ok (.iconst 0, 1) := by decide +kernel
theorem dX10_read_31 : decode cX10_read 31 = .ok (.invokevirtual 64, 3) := by decide +kernel
theorem dX10_read_34 : decode cX10_read 34 = .ok (.putfield 36, 3) := by decide +kernel
theorem dX10_read_37 : decode cX10_read 37 = .ok (.aload_n 0, 1) := by decide +kernel
theorem dX10_read_38 : decode cX10_read 38 = .ok (.getfield 36, 3) := by decide +kernel
theorem dX10_read_41 : decode cX10_read 41 = .ok (.ifCond .ne 17, 3) := by decide +kernel
theorem dX10_read_44 : decode cX10_read 44 = .ok (.aload_n 0, 1) := by decide +kernel
theorem dX10_read_45 : decode cX10_read 45 = .ok (.iload_n 1, 1) := by decide +kernel
theorem dX10_read_46 : decode cX10_read 46 = .ok (.iload_n 2, 1) := by decide +kernel
theorem dX10_read_47 : decode cX10_read 47 = .ok (.iload_n 3, 1) := by decide +kernel
theorem dX10_read_48 : decode cX10_read 48 = .ok (.iload 4, 2) := by decide +kernel
theorem dX10_read_50 : decode cX10_read 50 = .ok (.iconst 0, 1) := by decide +kernel
theorem dX10_read_51 : decode cX10_read 51 = .ok (.iconst 0, 1) := by decide +kernel
theorem dX10_read_52 : decode cX10_read 52 = .ok (.invokevirtual 68, 3) := by decide +kernel
theorem dX10_read_55 : decode cX10_read 55 = .ok (.goto 4, 3) := by decide +kernel
theorem dX10_read_58 : decode cX10_read 58 = .ok (.iconst 0, 1) := by decide +kernel
theorem dX10_read_59 : decode cX10_read 59 = .ok (.ireturn, 1) := by decide +kernel
theorem dX10_write_0 : decode cX10_write 0 = .ok (.aload_n 0, 1) := by decide +kernel
theorem dX10_write_1 : decode cX10_write 1 = .ok (.aload_n 0, 1) := by decide +kernel
theorem dX10_write_2 : decode cX10_write 2 = .ok (.iload_n 1, 1) := by decide +kernel
theorem dX10_write_3 : decode cX10_write 3 = .ok (.iload_n 2, 1) := by decide +kernel
theorem dX10_write_4 : decode cX10_write 4 = .ok (.iload_n 3, 1) := by decide +kernel
theorem dX10_write_5 : decode cX10_write 5 = .ok (.iconst 0, 1) := by decide +kernel
theorem dX10_write_6 : decode cX10_write 6 = .ok (.sipush 1000, 3) := by decide +kernel
theorem dX10_write_9 : decode cX10_write 9 = .ok (.invokestatic 39, 3) := by decide +kernel
theorem dX10_write_12 : decode cX10_write 12 = .ok (.ifCond .eq 18, 3) := by decide +kernel
theorem dX10_write_15 : decode cX10_write 15 = .ok (.iload 4, 2) := by decide +kernel
theorem dX10_write_17 : decode cX10_write 17 = .ok (.iconst 0, 1) := by decide +kernel
theorem dX10_write_18 : decode cX10_write 18 = .ok (.ldc 25, 2) := by decide +kernel
theorem dX10_write_20 : decode cX10_write 20 = .ok (.invokestatic 39, 3) := by decide +kernel
theorem dX10_write_23 : decode cX10_write 23 = .ok (.ifCond .eq 7, 3) := by decide +kernel
theorem dX10_write_26 : decode cX10_write 26 = .ok (.iconst 1, 1) := by decide +kernel
theorem dX10_write_27 : decode cX10_write 27 = .ok (.goto 4, 3) := by decide +kernel
theorem dX10_write_30 : decode cX10_write 30 = .ok (.iconst 0, 1) := by decide +kernel
theorem dX10_write_31 : decode cX10_write 31 = .ok (.invokevirtual 64, 3) := by decide +kernel
theorem dX10_write_34 : decode cX10_write 34 = .ok (.putfield 36, 3) := by decide +kernel
theorem dX10_write_37 : decode cX10_write 37 = .ok (.aload_n 0, 1) := by decide +kernel
theorem dX10_write_38 : decode cX10_write 38 = .ok (.getfield 36, 3) := by decide +kernel
theorem dX10_write_41 : decode cX10_write 41 = .ok (.ifCond .ne 17, 3) := by decide +kernel
theorem dX10_write_44 : decode cX10_write 44 = .ok (.aload_n 0, 1) := by decide +kernel
theorem dX10_write_45 : decode cX10_write 45 = .ok (.iload_n 1, 1) := by decide +kernel
theorem dX10_write_46 : decode cX10_write 46 = .ok (.iload_n 2, 1) := by decide +kernel
theorem dX10_write_47 : decode cX10_write 47 = .ok (.iload_n 3, 1) := by decide +kernel
theorem dX10_write_48 : decode cX10_write 48 = .ok (.iconst 1, 1) := by decide +kernel
theorem dX10_write_49 : decode cX10_write 49 = .ok (.iconst 1, 1) := by decide +kernel
theorem dX10_write_50 : decode cX10_write 50 = .ok (.iload 4, 2) := by decide +kernel
theorem dX10_write_52 : decode cX10_write 52 = .ok (.invokevirtual 68, 3) := by decide +kernel
theorem dX10_write_55 : decode cX10_write 55 = .ok (.goto 4, 3) := by decide +kernel
theorem dX10_write_58 : decode cX10_write 58 = .ok (.iconst 0, 1) := by decide +kernel
theorem dX10_write_59 : decode cX10_write 59 = .ok (.ireturn, 1) := by decide +kernel
theorem dX10_request_0 : decode cX10_request 0 = .ok (.aload_n 0, 1) := by decide +kernel
theorem dX10_request_1 : decode cX10_request 1 = .ok (.aload_n 0, 1) := by decide +kernel
theorem dX10_request_2 : decode cX10_request 2 = .ok (.iload_n 1, 1) := by decide +kernel
theorem dX10_request_3 : decode cX10_request 3 = .ok (.invokevirtual 72, 3) := by decide +kernel
theorem dX10_request_6 : decode cX10_request 6 = .ok (.ifCond .eq 17, 3) := by decide +kernel
theorem dX10_request_9 : decode cX10_request 9 = .ok (.iload_n 2, 1) := by decide +kernel
theorem dX10_request_10 : decode cX10_request 10 = .ok (.iconst 0, 1) := by decide +kernel
theorem dX10_request_11 : decode cX10_request 11 = .ok (.bipush 8, 2) := by decide +kernel
theorem dX10_request_13 : decode cX10_request 13 = .ok (.invokestatic 39, 3) := by decide +kernel
theorem dX10_request_16 : decode cX10_request 16 = .ok (.ifCond .eq 7, 3) := by decide +kernel
theorem dX10_request_19 : decode cX10_request 19 = .ok (.iconst 0, 1) := by decide +kernel
theorem dX10_request_20 : decode cX10_request 20 = .ok (.goto 4, 3) := by decide +kernel
theorem dX10_request_23 : decode cX10_request 23 = .ok (.iconst 1, 1) := by decide +kernel
theorem dX10_request_24 : decode cX10_request 24 = .ok (.putfield 36, 3) := by decide +kernel
theorem dX10_request_27 : decode cX10_request 27 = .ok (.aload_n 0, 1) := by decide +kernel
theorem dX10_request_28 : decode cX10_request 28 = .ok (.getfield 36, 3) := by decide +kernel
theorem dX10_request_31 : decode cX10_request 31 = .ok (.ifCond .ne 17, 3) := by decide +kernel
theorem dX10_request_34 : decode cX10_request 34 = .ok (.aload_n 0, 1) := by decide +kernel
theorem dX10_request_35 : decode cX10_request 35 = .ok (.getfield 7, 3) := by decide +kernel
theorem dX10_request_38 : decode cX10_request 38 = .ok (.iload_n 1, 1) := by decide +kernel
theorem dX10_request_39 : decode cX10_request 39 = .ok (.invokestatic 61, 3) := by decide +kernel
theorem dX10_request_42 : decode cX10_request 42 = .ok (.iload_n 2, 1) := by decide +kernel
theorem dX10_request_43 : decode cX10_request 43 = .ok (.iadd, 1) := by decide +kernel
theorem dX10_request_44 : decode cX10_request 44 = .ok (.iaload, 1) := by decide +kernel
theorem dX10_request_45 : decode cX10_request 45 = .ok (.goto 4, 3) := by decide +kernel
theorem dX10_request_48 : decode cX10_request 48 = .ok (.iconst 0, 1) := by decide +kernel
theorem dX10_request_49 : decode cX10_request 49 = .ok (.ireturn, 1) := by decide +kernel
theorem dX10_value_0 : decode cX10_value 0 = .ok (.aload_n 0, 1) := by decide +kernel
theorem dX10_value_1 : decode cX10_value 1 = .ok (.iconst 0, 1) := by decide +kernel
theorem dX10_value_2 : decode cX10_value 2 = .ok (.putfield 36, 3) := by decide +kernel
theorem dX10_value_5 : decode cX10_value 5 = .ok (.aload_n 0, 1) := by decide +kernel
theorem dX10_value_6 : decode cX10_value 6 = .ok (.iload_n 1, 1) := by decide +kernel
theorem dX10_value_7 : decode cX10_value 7 = .ok (.invokevirtual 72, 3) := by decide +kernel
theorem dX10_value_10 : decode cX10_value 10 = .ok (.ifCond .eq 24, 3) := by decide +kernel
theorem dX10_value_13 : decode cX10_value 13 = .ok (.iload_n 2, 1) := by decide +kernel
theorem dX10_value_14 : decode cX10_value 14 = .ok (.iconst 0, 1) := by decide +kernel
theorem dX10_value_15 : decode cX10_value 15 = .ok (.aload_n 0, 1) := by decide +kernel
theorem dX10_value_16 : decode cX10_value 16 = .ok (.getfield 7, 3) := by decide +kernel
theorem dX10_value_19 : decode cX10_value 19 = .ok (.iload_n 1, 1) := by decide +kernel
theorem dX10_value_20 : decode cX10_value 20 = .ok (.invokestatic 61, 3) := by decide +kernel
theorem dX10_value_23 : decode cX10_value 23 = .ok (.iconst 3, 1) := by decide +kernel
theorem dX10_value_24 : decode cX10_value 24 = .ok (.iadd, 1) := by decide +kernel
theorem dX10_value_25 : decode cX10_value 25 = .ok (.iaload, 1) := by decide +kernel
theorem dX10_value_26 : decode cX10_value 26 = .ok (.iconst 1, 1) := by decide +kernel
theorem dX10_value_27 : decode cX10_value 27 = .ok (.isub, 1) := by decide +kernel
theorem dX10_value_28 : decode cX10_value 28 = .ok (.invokestatic 39, 3) := by decide +kernel
theorem dX10_value_31 : decode cX10_value 31 = .ok (.ifCond .ne 9, 3) := by decide +kernel
theorem dX10_value_34 : decode cX10_value 34 = .ok (.aload_n 0, 1) := by decide +kernel
theorem dX10_value_35 : decode cX10_value 35 = .ok (.iconst 1, 1) := by decide +kernel
theorem dX10_value_36 : decode cX10_value 36 = .ok (.invokevirtual 43, 3) := by decide +kernel
theorem dX10_value_39 : decode cX10_value 39 = .ok (.ireturn, 1) := by decide +kernel
theorem dX10_value_40 : decode cX10_value 40 = .ok (.iload_n 1, 1) := by decide +kernel
theorem dX10_value_41 : decode cX10_value 41 = .ok (.invokestatic 61, 3) := by decide +kernel
theorem dX10_value_44 : decode cX10_value 44 = .ok (.istore_n 3, 1) := by decide +kernel
theorem dX10_value_45 : decode cX10_value 45 = .ok (.aload_n 0, 1) := by decide +kernel
theorem dX10_value_46 : decode cX10_value 46 = .ok (.getfield 7, 3) := by decide +kernel
theorem dX10_value_49 : decode cX10_value 49 = .ok (.iload_n 3, 1) := by decide +kernel
theorem dX10_value_50 : decode cX10_value 50 = .ok (.iconst 4, 1) := by decide +kernel
theorem dX10_value_51 : decode cX10_value 51 = .ok (.iadd, 1) := by decide +kernel
theorem dX10_value_52 : decode cX10_value 52 = .ok (.iaload, 1) := by decide +kernel
theorem dX10_value_53 : decode cX10_value 53 = .ok (.ifCond .ne 33, 3) := by decide +kernel
theorem dX10_value_56 : decode cX10_value 56 = .ok (.aload_n 0, 1) := by decide +kernel
theorem dX10_value_57 : decode cX10_value 57 = .ok (.getfield 7, 3) := by decide +kernel
theorem dX10_value_60 : decode cX10_value 60 = .ok (.iload_n 3, 1) := by decide +kernel
theorem dX10_value_61 : decode cX10_value 61 = .ok (.iconst 5, 1) := by decide +kernel
theorem dX10_value_62 : decode cX10_value 62 = .ok (.iadd, 1) := by decide +kernel
theorem dX10_value_63 : decode cX10_value 63 = .ok (.iaload, 1) := by decide +kernel
theorem dX10_value_64 : decode cX10_value 64 = .ok (.iconst 1, 1) := by decide +kernel
theorem dX10_value_65 : decode cX10_value 65 = .ok (.if_icmp .ne 21, 3) := by decide +kernel
theorem dX10_value_68 : decode cX10_value 68 = .ok (.aload_n 0, 1) := by decide +kernel
theorem dX10_value_69 : decode cX10_value 69 = .ok (.getfield 7, 3) := by decide +kernel
theorem dX10_value_72 : decode cX10_value 72 = .ok (.sipush 760, 3) := by decide +kernel
theorem dX10_value_75 : decode cX10_value 75 = .ok (.bipush 16, 2) := by decide +kernel
theorem dX10_value_77 : decode cX10_value 77 = .ok (.iload_n 1, 1) := by decide +kernel
theorem dX10_value_78 : decode cX10_value 78 = .ok (.imul, 1) := by decide +kernel
theorem dX10_value_79 : decode cX10_value 79 = .ok (.iadd, 1) := by decide +kernel
theorem dX10_value_80 : decode cX10_value 80 = .ok (.iload_n 2, 1) := by decide +kernel
theorem dX10_value_81 : decode cX10_value 81 = .ok (.iadd, 1) := by decide +kernel
theorem dX10_value_82 : decode cX10_value 82 = .ok (.iaload, 1) := by decide +kernel
theorem dX10_value_83 : decode cX10_value 83 = .ok (.goto 8, 3) := by decide +kernel
theorem dX10_value_86 : decode cX10_value 86 = .ok (.aload_n 0, 1) := by decide +kernel
theorem dX10_value_87 : decode cX10_value 87 = .ok (.iconst 2, 1) := by decide +kernel
theorem dX10_value_88 : decode cX10_value 88 = .ok (.invokevirtual 43, 3) := by decide +kernel
theorem dX10_value_91 : decode cX10_value 91 = .ok (.ireturn, 1) := by decide +kernel
theorem dX10_countIn_0 : decode cX10_countIn 0 = .ok (.iconst 0, 1) := by decide +kernel
theorem dX10_countIn_1 : decode cX10_countIn 1 = .ok (.istore_n 3, 1) := by decide +kernel
theorem dX10_countIn_2 : decode cX10_countIn 2 = .ok (.iconst 0, 1) := by decide +kernel
theorem dX10_countIn_3 : decode cX10_countIn 3 = .ok (.istore 4, 2) := by decide +kernel
theorem dX10_countIn_5 : decode cX10_countIn 5 = .ok (.iload 4, 2) := by decide +kernel
theorem dX10_countIn_7 : decode cX10_countIn 7 = .ok (.aload_n 0, 1) := by decide +kernel
theorem dX10_countIn_8 : decode cX10_countIn 8 = .ok (.getfield 7, 3) := by decide +kernel
theorem dX10_countIn_11 : decode cX10_countIn 11 = .ok (.bipush 6, 2) := by decide +kernel
theorem dX10_countIn_13 : decode cX10_countIn 13 = .ok (.iaload, 1) := by decide +kernel
theorem dX10_countIn_14 : decode cX10_countIn 14 = .ok (.if_icmp .ge 51, 3) := by decide +kernel
theorem dX10_countIn_17 : decode cX10_countIn 17 = .ok (.iload_n 3, 1) := by decide +kernel
theorem dX10_countIn_18 : decode cX10_countIn 18 = .ok (.aload_n 0, 1) := by decide +kernel
theorem dX10_countIn_19 : decode cX10_countIn 19 = .ok (.getfield 7, 3) := by decide +kernel
theorem dX10_countIn_22 : decode cX10_countIn 22 = .ok (.iload 4, 2) := by decide +kernel
theorem dX10_countIn_24 : decode cX10_countIn 24 = .ok (.invokestatic 61, 3) := by decide +kernel
theorem dX10_countIn_27 : decode cX10_countIn 27 = .ok (.iconst 5, 1) := by decide +kernel
theorem dX10_countIn_28 : decode cX10_countIn 28 = .ok (.iadd, 1) := by decide +kernel
theorem dX10_countIn_29 : decode cX10_countIn 29 = .ok (.iaload, 1) := by decide +kernel
theorem dX10_countIn_30 : decode cX10_countIn 30 = .ok (.iload_n 2, 1) := by decide +kernel
theorem dX10_countIn_31 : decode cX10_countIn 31 = .ok (.if_icmp .ne 25, 3) := by decide +kernel
theorem dX10_countIn_34 : decode cX10_countIn 34 = .ok (.iload_n 1, 1) := by decide +kernel
theorem dX10_countIn_35 : decode cX10_countIn 35 = .ok (.ifCond .lt 17, 3) := by decide +kernel
theorem dX10_countIn_38 : decode cX10_countIn 38 = .ok (.aload_n 0, 1) := by decide +kernel
theorem dX10_countIn_39 : decode cX10_countIn 39 = .ok (.getfield 7, 3) := by decide +kernel
theorem dX10_countIn_42 : decode cX10_countIn 42 = .ok (.iload 4, 2) := by decide +kernel
theorem dX10_countIn_44 : decode cX10_countIn 44 = .ok (.invokestatic 61, 3) := by decide +kernel
theorem dX10_countIn_47 : decode cX10_countIn 47 = .ok (.iaload, 1) := by decide +kernel
theorem dX10_countIn_48 : decode cX10_countIn 48 = .ok (.iload_n 1, 1) := by decide +kernel
theorem dX10_countIn_49 : decode cX10_countIn 49 = .ok (.if_icmp .ne 7, 3) := by decide +kernel
theorem dX10_countIn_52 : decode cX10_countIn 52 = .ok (.iconst 1, 1) := by decide +kernel
theorem dX10_countIn_53 : decode cX10_countIn 53 = .ok (.goto 4, 3) := by decide +kernel
theorem dX10_countIn_56 : decode cX10_countIn 56 = .ok (.iconst 0, 1) := by decide +kernel
theorem dX10_countIn_57 : decode cX10_countIn 57 = .ok (.iadd, 1) := by decide +kernel
theorem dX10_countIn_58 : decode cX10_countIn 58 = .ok (.istore_n 3, 1) := by decide +kernel
theorem dX10_countIn_59 : decode cX10_countIn 59 = .ok (.iinc 4 1, 3) := by decide +kernel
theorem dX10_countIn_62 : decode cX10_countIn 62 = .ok (.goto (-57), 3) := by decide +kernel
theorem dX10_countIn_65 : decode cX10_countIn 65 = .ok (.iload_n 3, 1) := by decide +kernel
theorem dX10_countIn_66 : decode cX10_countIn 66 = .ok (.ireturn, 1) := by decide +kernel
theorem dX10_requests_0 : decode cX10_requests 0 = .ok (.aload_n 0, 1) := by decide +kernel
theorem dX10_requests_1 : decode cX10_requests 1 = .ok (.iload_n 1, 1) := by decide +kernel
theorem dX10_requests_2 : decode cX10_requests 2 = .ok (.iconst 0, 1) := by decide +kernel
theorem dX10_requests_3 : decode cX10_requests 3 = .ok (.iconst 2, 1) := by decide +kernel
theorem dX10_requests_4 : decode cX10_requests 4 = .ok (.invokestatic 39, 3) := by decide +kernel
theorem dX10_requests_7 : decode cX10_requests 7 = .ok (.ifCond .eq 7, 3) := by decide +kernel
theorem dX10_requests_10 : decode cX10_requests 10 = .ok (.iconst 0, 1) := by decide +kernel
theorem dX10_requests_11 : decode cX10_requests 11 = .ok (.goto 4, 3) := by decide +kernel
theorem dX10_requests_14 : decode cX10_requests 14 = .ok (.iconst 1, 1) := by decide +kernel
theorem dX10_requests_15 : decode cX10_requests 15 = .ok (.putfield 36, 3) := by decide +kernel
theorem dX10_requests_18 : decode cX10_requests 18 = .ok (.aload_n 0, 1) := by decide +kernel
theorem dX10_requests_19 : decode cX10_requests 19 = .ok (.getfield 36, 3) := by decide +kernel
theorem dX10_requests_22 : decode cX10_requests 22 = .ok (.ifCond .ne 12, 3) := by decide +kernel
theorem dX10_requests_25 : decode cX10_requests 25 = .ok (.aload_n 0, 1) := by decide +kernel
theorem dX10_requests_26 : decode cX10_requests 26 = .ok (.iconst (-1), 1) := by decide +kernel
theorem dX10_requests_27 : decode cX10_requests 27 = .ok (.iload_n 1, 1) := by decide +kernel
theorem dX10_requests_28 : decode cX10_requests 28 = .ok (.invokevirtual 76, 3) := by decide +kernel
theorem dX10_requests_31 : decode cX10_requests 31 = .ok (.goto 4, 3) := by decide +kernel
theorem dX10_requests_34 : decode cX10_requests 34 = .ok (.iconst 0, 1) := by decide +kernel
theorem dX10_requests_35 : decode cX10_requests 35 = .ok (.ireturn, 1) := by decide +kernel
theorem dX10_requestsOf_0 : decode cX10_requestsOf 0 = .ok (.aload_n 0, 1) := by decide +kernel
theorem dX10_requestsOf_1 : decode cX10_requestsOf 1 = .ok (.iload_n 1, 1) := by decide +kernel
theorem dX10_requestsOf_2 : decode cX10_requestsOf 2 = .ok (.iconst 0, 1) := by decide +kernel
theorem dX10_requestsOf_3 : decode cX10_requestsOf 3 = .ok (.iconst 3, 1) := by decide +kernel
theorem dX10_requestsOf_4 : decode cX10_requestsOf 4 = .ok (.invokestatic 39, 3) := by decide +kernel
theorem dX10_requestsOf_7 : decode cX10_requestsOf 7 = .ok (.ifCond .eq 16, 3) := by decide +kernel
theorem dX10_requestsOf_10 : decode cX10_requestsOf 10 = .ok (.iload_n 2, 1) := by decide +kernel
theorem dX10_requestsOf_11 : decode cX10_requestsOf 11 = .ok (.iconst 0, 1) := by decide +kernel
theorem dX10_requestsOf_12 : decode cX10_requestsOf 12 = .ok (.iconst 2, 1) := by decide +kernel
theorem dX10_requestsOf_13 : decode cX10_requestsOf 13 = .ok (.invokestatic 39, 3) := by decide +kernel
theorem dX10_requestsOf_16 : decode cX10_requestsOf 16 = .ok (.ifCond .eq 7, 3) := by decide +kernel
theorem dX10_requestsOf_19 : decode cX10_requestsOf 19 = .ok (.iconst 0, 1) := by decide +kernel
theorem dX10_requestsOf_20 : decode cX10_requestsOf 20 = .ok (.goto 4, 3) := by decide +kernel
theorem dX10_requestsOf_23 : decode cX10_requestsOf 23 = .ok (.iconst 1, 1) := by decide +kernel
theorem dX10_requestsOf_24 : decode cX10_requestsOf 24 = .ok (.putfield 36, 3) := by decide +kernel
theorem dX10_requestsOf_27 : decode cX10_requestsOf 27 = .ok (.aload_n 0, 1) := by decide +kernel
theorem dX10_requestsOf_28 : decode cX10_requestsOf 28 = .ok (.getfield 36, 3) := by decide +kernel
theorem dX10_requestsOf_31 : decode cX10_requestsOf 31 = .ok (.ifCond .ne 12, 3) := by decide +kernel
theorem dX10_requestsOf_34 : decode cX10_requestsOf 34 = .ok (.aload_n 0, 1) := by decide +kernel
theorem dX10_requestsOf_35 : decode cX10_requestsOf 35 = .ok (.iload_n 1, 1) := by decide +kernel
theorem dX10_requestsOf_36 : decode cX10_requestsOf 36 = .ok (.iload_n 2, 1) := by decide +kernel
theorem dX10_requestsOf_37 : decode cX10_requestsOf 37 = .ok (.invokevirtual 76, 3) := by decide +kernel
theorem dX10_requestsOf_40 : decode cX10_requestsOf 40 = .ok (.goto 4, 3) := by decide +kernel
theorem dX10_requestsOf_43 : decode cX10_requestsOf 43 = .ok (.iconst 0, 1) := by decide +kernel
theorem dX10_requestsOf_44 : decode cX10_requestsOf 44 = .ok (.ireturn, 1) := by decide +kernel
theorem dX10_cacheAt_0 : decode cX10_cacheAt 0 = .ok (.sipush 1400, 3) := by decide +kernel
theorem dX10_cacheAt_3 : decode cX10_cacheAt 3 = .ok (.iconst 3, 1) := by decide +kernel
theorem dX10_cacheAt_4 : decode cX10_cacheAt 4 = .ok (.iload_n 0, 1) := by decide +kernel
theorem dX10_cacheAt_5 : decode cX10_cacheAt 5 = .ok (.iload_n 1, 1) := by decide +kernel
theorem dX10_cacheAt_6 : decode cX10_cacheAt 6 = .ok (.invokestatic 55, 3) := by decide +kernel
theorem dX10_cacheAt_9 : decode cX10_cacheAt 9 = .ok (.imul, 1) := by decide +kernel
theorem dX10_cacheAt_10 : decode cX10_cacheAt 10 = .ok (.iadd, 1) := by decide +kernel
theorem dX10_cacheAt_11 : decode cX10_cacheAt 11 = .ok (.ireturn, 1) := by decide +kernel
theorem dX10_isFresh_0 : decode cX10_isFresh 0 = .ok (.iload_n 2, 1) := by decide +kernel
theorem dX10_isFresh_1 : decode cX10_isFresh 1 = .ok (.iconst 0, 1) := by decide +kernel
theorem dX10_isFresh_2 : decode cX10_isFresh 2 = .ok (.bipush 31, 2) := by decide +kernel
theorem dX10_isFresh_4 : decode cX10_isFresh 4 = .ok (.invokestatic 39, 3) := by decide +kernel
theorem dX10_isFresh_7 : decode cX10_isFresh 7 = .ok (.ifCond .ne 5, 3) := by decide +kernel
theorem dX10_isFresh_10 : decode cX10_isFresh 10 = .ok (.iconst 0, 1) := by decide +kernel
theorem dX10_isFresh_11 : decode cX10_isFresh 11 = .ok (.ireturn, 1) := by decide +kernel
theorem dX10_isFresh_12 : decode cX10_isFresh 12 = .ok (.iload_n 1, 1) := by decide +kernel
theorem dX10_isFresh_13 : decode cX10_isFresh 13 = .ok (.iload_n 2, 1) := by decide +kernel
theorem dX10_isFresh_14 : decode cX10_isFresh 14 = .ok (.invokestatic 79, 3) := by decide +kernel
theorem dX10_isFresh_17 : decode cX10_isFresh 17 = .ok (.istore_n 3, 1) := by decide +kernel
theorem dX10_isFresh_18 : decode cX10_isFresh 18 = .ok (.aload_n 0, 1) := by decide +kernel
theorem dX10_isFresh_19 : decode cX10_isFresh 19 = .ok (.getfield 7, 3) := by decide +kernel
theorem dX10_isFresh_22 : decode cX10_isFresh 22 = .ok (.iload_n 3, 1) := by decide +kernel
theorem dX10_isFresh_23 : decode cX10_isFresh 23 = .ok (.iaload, 1) := by decide +kernel
theorem dX10_isFresh_24 : decode cX10_isFresh 24 = .ok (.iconst 1, 1) := by decide +kernel
theorem dX10_isFresh_25 : decode cX10_isFresh 25 = .ok (.if_icmp .ne 31, 3) := by decide +kernel
theorem dX10_isFresh_28 : decode cX10_isFresh 28 = .ok (.aload_n 0, 1) := by decide +kernel
theorem dX10_isFresh_29 : decode cX10_isFresh 29 = .ok (.getfield 7, 3) := by decide +kernel
theorem dX10_isFresh_32 : decode cX10_isFresh 32 = .ok (.iconst 0, 1) := by decide +kernel
theorem dX10_isFresh_33 : decode cX10_isFresh 33 = .ok (.iaload, 1) := by decide +kernel
theorem dX10_isFresh_34 : decode cX10_isFresh 34 = .ok (.aload_n 0, 1) := by decide +kernel
theorem dX10_isFresh_35 : decode cX10_isFresh 35 = .ok (.getfield 7, 3) := by decide +kernel
theorem dX10_isFresh_38 : decode cX10_isFresh 38 = .ok (.iload_n 3, 1) := by decide +kernel
theorem dX10_isFresh_39 : decode cX10_isFresh 39 = .ok (.iconst 2, 1) := by decide +kernel
theorem dX10_isFresh_40 : decode cX10_isFresh 40 = .ok (.iadd, 1) := by decide +kernel
theorem dX10_isFresh_41 : decode cX10_isFresh 41 = .ok (.iaload, 1) := by decide +kernel
theorem dX10_isFresh_42 : decode cX10_isFresh 42 = .ok (.isub, 1) := by decide +kernel
theorem dX10_isFresh_43 : decode cX10_isFresh 43 = .ok (.aload_n 0, 1) := by decide +kernel
theorem dX10_isFresh_44 : decode cX10_isFresh 44 = .ok (.getfield 7, 3) := by decide +kernel
theorem dX10_isFresh_47 : decode cX10_isFresh 47 = .ok (.iconst 1, 1) := by decide +kernel
theorem dX10_isFresh_48 : decode cX10_isFresh 48 = .ok (.iaload, 1) := by decide +kernel
theorem dX10_isFresh_49 : decode cX10_isFresh 49 = .ok (.if_icmp .gt 7, 3) := by decide +kernel
theorem dX10_isFresh_52 : decode cX10_isFresh 52 = .ok (.iconst 1, 1) := by decide +kernel
theorem dX10_isFresh_53 : decode cX10_isFresh 53 = .ok (.goto 4, 3) := by decide +kernel
theorem dX10_isFresh_56 : decode cX10_isFresh 56 = .ok (.iconst 0, 1) := by decide +kernel
theorem dX10_isFresh_57 : decode cX10_isFresh 57 = .ok (.ireturn, 1) := by decide +kernel
theorem dX10_isWaiting_0 : decode cX10_isWaiting 0 = .ok (.aload_n 0, 1) := by decide +kernel
theorem dX10_isWaiting_1 : decode cX10_isWaiting 1 = .ok (.getfield 7, 3) := by decide +kernel
theorem dX10_isWaiting_4 : decode cX10_isWaiting 4 = .ok (.iload_n 1, 1) := by decide +kernel
theorem dX10_isWaiting_5 : decode cX10_isWaiting 5 = .ok (.invokestatic 61, 3) := by decide +kernel
theorem dX10_isWaiting_8 : decode cX10_isWaiting 8 = .ok (.iconst 5, 1) := by decide +kernel
theorem dX10_isWaiting_9 : decode cX10_isWaiting 9 = .ok (.iadd, 1) := by decide +kernel
theorem dX10_isWaiting_10 : decode cX10_isWaiting 10 = .ok (.iaload, 1) := by decide +kernel
theorem dX10_isWaiting_11 : decode cX10_isWaiting 11 = .ok (.ifCond .ne 7, 3) := by decide +kernel
theorem dX10_isWaiting_14 : decode cX10_isWaiting 14 = .ok (.iconst 1, 1) := by decide +kernel
theorem dX10_isWaiting_15 : decode cX10_isWaiting 15 = .ok (.goto 4, 3) := by decide +kernel
theorem dX10_isWaiting_18 : decode cX10_isWaiting 18 = .ok (.iconst 0, 1) := by decide +kernel
theorem dX10_isWaiting_19 : decode cX10_isWaiting 19 = .ok (.ireturn, 1) := by decide +kernel
theorem dX10_end_0 : decode cX10_end 0 = .ok (.aload_n 0, 1) := by decide +kernel
theorem dX10_end_1 : decode cX10_end 1 = .ok (.getfield 7, 3) := by decide +kernel
theorem dX10_end_4 : decode cX10_end 4 = .ok (.iload_n 1, 1) := by decide +kernel
theorem dX10_end_5 : decode cX10_end 5 = .ok (.invokestatic 61, 3) := by decide +kernel
theorem dX10_end_8 : decode cX10_end 8 = .ok (.iconst 2, 1) := by decide +kernel
theorem dX10_end_9 : decode cX10_end 9 = .ok (.iadd, 1) := by decide +kernel
theorem dX10_end_10 : decode cX10_end 10 = .ok (.iaload, 1) := by decide +kernel
theorem dX10_end_11 : decode cX10_end 11 = .ok (.aload_n 0, 1) := by decide +kernel
theorem dX10_end_12 : decode cX10_end 12 = .ok (.getfield 7, 3) := by decide +kernel
theorem dX10_end_15 : decode cX10_end 15 = .ok (.iload_n 1, 1) := by decide +kernel
theorem dX10_end_16 : decode cX10_end 16 = .ok (.invokestatic 61, 3) := by decide +kernel
theorem dX10_end_19 : decode cX10_end 19 = .ok (.iconst 3, 1) := by decide +kernel
theorem dX10_end_20 : decode cX10_end 20 = .ok (.iadd, 1) := by decide +kernel
theorem dX10_end_21 : decode cX10_end 21 = .ok (.iaload, 1) := by decide +kernel
theorem dX10_end_22 : decode cX10_end 22 = .ok (.iadd, 1) := by decide +kernel
theorem dX10_end_23 : decode cX10_end 23 = .ok (.ireturn, 1) := by decide +kernel
theorem dX10_overlap_0 : decode cX10_overlap 0 = .ok (.aload_n 0, 1) := by decide +kernel
theorem dX10_overlap_1 : decode cX10_overlap 1 = .ok (.getfield 7, 3) := by decide +kernel
theorem dX10_overlap_4 : decode cX10_overlap 4 = .ok (.iload_n 1, 1) := by decide +kernel
theorem dX10_overlap_5 : decode cX10_overlap 5 = .ok (.invokestatic 61, 3) := by decide +kernel
theorem dX10_overlap_8 : decode cX10_overlap 8 = .ok (.iconst 2, 1) := by decide +kernel
theorem dX10_overlap_9 : decode cX10_overlap 9 = .ok (.iadd, 1) := by decide +kernel
theorem dX10_overlap_10 : decode cX10_overlap 10 = .ok (.iaload, 1) := by decide +kernel
theorem dX10_overlap_11 : decode cX10_overlap 11 = .ok (.aload_n 0, 1) := by decide +kernel
theorem dX10_overlap_12 : decode cX10_overlap 12 = .ok (.iload_n 2, 1) := by decide +kernel
theorem dX10_overlap_13 : decode cX10_overlap 13 = .ok (.invokevirtual 82, 3) := by decide +kernel
theorem dX10_overlap_16 : decode cX10_overlap 16 = .ok (.if_icmp .ge 26, 3) := by decide +kernel
theorem dX10_overlap_19 : decode cX10_overlap 19 = .ok (.aload_n 0, 1) := by decide +kernel
theorem dX10_overlap_20 : decode cX10_overlap 20 = .ok (.getfield 7, 3) := by decide +kernel
theorem dX10_overlap_23 : decode cX10_overlap 23 = .ok (.iload_n 2, 1) := by decide +kernel
theorem dX10_overlap_24 : decode cX10_overlap 24 = .ok (.invokestatic 61, 3) := by decide +kernel
theorem dX10_overlap_27 : decode cX10_overlap 27 = .ok (.iconst 2, 1) := by decide +kernel
theorem dX10_overlap_28 : decode cX10_overlap 28 = .ok (.iadd, 1) := by decide +kernel
theorem dX10_overlap_29 : decode cX10_overlap 29 = .ok (.iaload, 1) := by decide +kernel
theorem dX10_overlap_30 : decode cX10_overlap 30 = .ok (.aload_n 0, 1) := by decide +kernel
theorem dX10_overlap_31 : decode cX10_overlap 31 = .ok (.iload_n 1, 1) := by decide +kernel
theorem dX10_overlap_32 : decode cX10_overlap 32 = .ok (.invokevirtual 82, 3) := by decide +kernel
theorem dX10_overlap_35 : decode cX10_overlap 35 = .ok (.if_icmp .ge 7, 3) := by decide +kernel
theorem dX10_overlap_38 : decode cX10_overlap 38 = .ok (.iconst 1, 1) := by decide +kernel
theorem dX10_overlap_39 : decode cX10_overlap 39 = .ok (.goto 4, 3) := by decide +kernel
theorem dX10_overlap_42 : decode cX10_overlap 42 = .ok (.iconst 0, 1) := by decide +kernel
theorem dX10_overlap_43 : decode cX10_overlap 43 = .ok (.ireturn, 1) := by decide +kernel
theorem dX10_firstWaiting_0 : decode cX10_firstWaiting 0 = .ok (.iconst 0, 1) := by decide +kernel
theorem dX10_firstWaiting_1 : decode cX10_firstWaiting 1 = .ok (.istore_n 1, 1) := by decide +kernel
theorem dX10_firstWaiting_2 : decode cX10_firstWaiting 2 = .ok (.iload_n 1, 1) := by decide +kernel
theorem dX10_firstWaiting_3 : decode cX10_firstWaiting 3 = .ok (.aload_n 0, 1) := by decide +kernel
theorem dX10_firstWaiting_4 : decode cX10_firstWaiting 4 = .ok (.getfield 7, 3) := by decide +kernel
theorem dX10_firstWaiting_7 : decode cX10_firstWaiting 7 = .ok (.bipush 6, 2) := by decide +kernel
theorem dX10_firstWaiting_9 : decode cX10_firstWaiting 9 = .ok (.iaload, 1) := by decide +kernel
theorem dX10_firstWaiting_10 : decode cX10_firstWaiting 10 = .ok (.if_icmp .ge 19, 3) := by decide +kernel
theorem dX10_firstWaiting_13 : decode cX10_firstWaiting 13 = .ok (.aload_n 0, 1) := by decide +kernel
theorem dX10_firstWaiting_14 : decode cX10_firstWaiting 14 = .ok (.iload_n 1, 1) := by decide +kernel
theorem dX10_firstWaiting_15 : decode cX10_firstWaiting 15 = .ok (.invokevirtual 85, 3) := by decide +kernel
theorem dX10_firstWaiting_18 : decode cX10_firstWaiting 18 = .ok (.ifCond .eq 5, 3) := by decide +kernel
theorem dX10_firstWaiting_21 : decode cX10_firstWaiting 21 = .ok (.iload_n 1, 1) := by decide +kernel
theorem dX10_firstWaiting_22 : decode cX10_firstWaiting 22 = .ok (.ireturn, 1) := by decide +kernel
theorem dX10_firstWaiting_23 : decode cX10_firstWaiting 23 = .ok (.iinc 1 1, 3) := by decide +kernel
theorem dX10_firstWaiting_26 : decode cX10_firstWaiting 26 = .ok (.goto (-24), 3) := by decide +kernel
theorem dX10_firstWaiting_29 : decode cX10_firstWaiting 29 = .ok (.iconst (-1), 1) := by decide +kernel
theorem dX10_firstWaiting_30 : decode cX10_firstWaiting 30 = .ok (.ireturn, 1) := by decide +kernel
theorem dX10_isCached_0 : decode cX10_isCached 0 = .ok (.iload_n 1, 1) := by decide +kernel
theorem dX10_isCached_1 : decode cX10_isCached 1 = .ok (.invokestatic 61, 3) := by decide +kernel
theorem dX10_isCached_4 : decode cX10_isCached 4 = .ok (.istore_n 2, 1) := by decide +kernel
theorem dX10_isCached_5 : decode cX10_isCached 5 = .ok (.aload_n 0, 1) := by decide +kernel
theorem dX10_isCached_6 : decode cX10_isCached 6 = .ok (.getfield 7, 3) := by decide +kernel
theorem dX10_isCached_9 : decode cX10_isCached 9 = .ok (.iload_n 2, 1) := by decide +kernel
theorem dX10_isCached_10 : decode cX10_isCached 10 = .ok (.iconst 4, 1) := by decide +kernel
theorem dX10_isCached_11 : decode cX10_isCached 11 = .ok (.iadd, 1) := by decide +kernel
theorem dX10_isCached_12 : decode cX10_isCached 12 = .ok (.iaload, 1) := by decide +kernel
theorem dX10_isCached_13 : decode cX10_isCached 13 = .ok (.ifCond .ne 7, 3) := by decide +kernel
theorem dX10_isCached_16 : decode cX10_isCached 16 = .ok (.iconst 1, 1) := by decide +kernel
theorem dX10_isCached_17 : decode cX10_isCached 17 = .ok (.goto 4, 3) := by decide +kernel
theorem dX10_isCached_20 : decode cX10_isCached 20 = .ok (.iconst 0, 1) := by decide +kernel
theorem dX10_isCached_21 : decode cX10_isCached 21 = .ok (.istore_n 3, 1) := by decide +kernel
theorem dX10_isCached_22 : decode cX10_isCached 22 = .ok (.iconst 0, 1) := by decide +kernel
theorem dX10_isCached_23 : decode cX10_isCached 23 = .ok (.istore 4, 2) := by decide +kernel
theorem dX10_isCached_25 : decode cX10_isCached 25 = .ok (.iload 4, 2) := by decide +kernel
theorem dX10_isCached_27 : decode cX10_isCached 27 = .ok (.aload_n 0, 1) := by decide +kernel
theorem dX10_isCached_28 : decode cX10_isCached 28 = .ok (.getfield 7, 3) := by decide +kernel
theorem dX10_isCached_31 : decode cX10_isCached 31 = .ok (.iload_n 2, 1) := by decide +kernel
theorem dX10_isCached_32 : decode cX10_isCached 32 = .ok (.iconst 3, 1) := by decide +kernel
theorem dX10_isCached_33 : decode cX10_isCached 33 = .ok (.iadd, 1) := by decide +kernel
theorem dX10_isCached_34 : decode cX10_isCached 34 = .ok (.iaload, 1) := by decide +kernel
theorem dX10_isCached_35 : decode cX10_isCached 35 = .ok (.if_icmp .ge 45, 3) := by decide +kernel
theorem dX10_isCached_38 : decode cX10_isCached 38 = .ok (.iload_n 3, 1) := by decide +kernel
theorem dX10_isCached_39 : decode cX10_isCached 39 = .ok (.ifCond .eq 33, 3) := by decide +kernel
theorem dX10_isCached_42 : decode cX10_isCached 42 = .ok (.aload_n 0, 1) := by decide +kernel
theorem dX10_isCached_43 : decode cX10_isCached 43 = .ok (.aload_n 0, 1) := by decide +kernel
theorem dX10_isCached_44 : decode cX10_isCached 44 = .ok (.getfield 7, 3) := by decide +kernel
theorem dX10_isCached_47 : decode cX10_isCached 47 = .ok (.iload_n 2, 1) := by decide +kernel
theorem dX10_isCached_48 : decode cX10_isCached 48 = .ok (.iconst 1, 1) := by decide +kernel
theorem dX10_isCached_49 : decode cX10_isCached 49 = .ok (.iadd, 1) := by decide +kernel
theorem dX10_isCached_50 : decode cX10_isCached 50 = .ok (.iaload, 1) := by decide +kernel
theorem dX10_isCached_51 : decode cX10_isCached 51 = .ok (.aload_n 0, 1) := by decide +kernel
theorem dX10_isCached_52 : decode cX10_isCached 52 = .ok (.getfield 7, 3) := by decide +kernel
theorem dX10_isCached_55 : decode cX10_isCached 55 = .ok (.iload_n 2, 1) := by decide +kernel
theorem dX10_isCached_56 : decode cX10_isCached 56 = .ok (.iconst 2, 1) := by decide +kernel
theorem dX10_isCached_57 : decode cX10_isCached 57 = .ok (.iadd, 1) := by decide +kernel
theorem dX10_isCached_58 : decode cX10_isCached 58 = .ok (.iaload, 1) := by decide +kernel
theorem dX10_isCached_59 : decode cX10_isCached 59 = .ok (.iload 4, 2) := by decide +kernel
theorem dX10_isCached_61 : decode cX10_isCached 61 = .ok (.iadd, 1) := by decide +kernel
theorem dX10_isCached_62 : decode cX10_isCached 62 = .ok (.invokevirtual 88, 3) := by decide +kernel
theorem dX10_isCached_65 : decode cX10_isCached 65 = .ok (.ifCond .eq 7, 3) := by decide +kernel
theorem dX10_isCached_68 : decode cX10_isCached 68 = .ok (.iconst 1, 1) := by decide +kernel
theorem dX10_isCached_69 : decode cX10_isCached 69 = .ok (.goto 4, 3) := by decide +kernel
theorem dX10_isCached_72 : decode cX10_isCached 72 = .ok (.iconst 0, 1) := by decide +kernel
theorem dX10_isCached_73 : decode cX10_isCached 73 = .ok (.istore_n 3, 1) := by decide +kernel
theorem dX10_isCached_74 : decode cX10_isCached 74 = .ok (.iinc 4 1, 3) := by decide +kernel
theorem dX10_isCached_77 : decode cX10_isCached 77 = .ok (.goto (-52), 3) := by decide +kernel
theorem dX10_isCached_80 : decode cX10_isCached 80 = .ok (.iload_n 3, 1) := by decide +kernel
theorem dX10_isCached_81 : decode cX10_isCached 81 = .ok (.ireturn, 1) := by decide +kernel
theorem dX10_isHeldBack_0 : decode cX10_isHeldBack 0 = .ok (.iconst 0, 1) := by decide +kernel
theorem dX10_isHeldBack_1 : decode cX10_isHeldBack 1 = .ok (.istore_n 2, 1) := by decide +kernel
theorem dX10_isHeldBack_2 : decode cX10_isHeldBack 2 = .ok (.iconst 0, 1) := by decide +kernel
theorem dX10_isHeldBack_3 : decode cX10_isHeldBack 3 = .ok (.istore_n 3, 1) := by decide +kernel
theorem dX10_isHeldBack_4 : decode cX10_isHeldBack 4 = .ok (.iload_n 3, 1) := by decide +kernel
theorem dX10_isHeldBack_5 : decode cX10_isHeldBack 5 = .ok (.iload_n 1, 1) := by decide +kernel
theorem dX10_isHeldBack_6 : decode cX10_isHeldBack 6 = .ok (.if_icmp .ge 101, 3) := by decide +kernel
theorem dX10_isHeldBack_9 : decode cX10_isHeldBack 9 = .ok (.aload_n 0, 1) := by decide +kernel
theorem dX10_isHeldBack_10 : decode cX10_isHeldBack 10 = .ok (.iload_n 3, 1) := by decide +kernel
theorem dX10_isHeldBack_11 : decode cX10_isHeldBack 11 = .ok (.invokevirtual 85, 3) := by decide +kernel
theorem dX10_isHeldBack_14 : decode cX10_isHeldBack 14 = .ok (.ifCond .eq 47, 3) := by decide +kernel
theorem dX10_isHeldBack_17 : decode cX10_isHeldBack 17 = .ok (.aload_n 0, 1) := by decide +kernel
theorem dX10_isHeldBack_18 : decode cX10_isHeldBack 18 = .ok (.getfield 7, 3) := by decide +kernel
theorem dX10_isHeldBack_21 : decode cX10_isHeldBack 21 = .ok (.iload_n 3, 1) := by decide +kernel
theorem dX10_isHeldBack_22 : decode cX10_isHeldBack 22 = .ok (.invokestatic 61, 3) := by decide +kernel
theorem dX10_isHeldBack_25 : decode cX10_isHeldBack 25 = .ok (.iconst 1, 1) := by decide +kernel
theorem dX10_isHeldBack_26 : decode cX10_isHeldBack 26 = .ok (.iadd, 1) := by decide +kernel
theorem dX10_isHeldBack_27 : decode cX10_isHeldBack 27 = .ok (.iaload, 1) := by decide +kernel
theorem dX10_isHeldBack_28 : decode cX10_isHeldBack 28 = .ok (.aload_n 0, 1) := by decide +kernel
theorem dX10_isHeldBack_29 : decode cX10_isHeldBack 29 = .ok (.getfield 91, 3) := by decide +kernel
theorem dX10_isHeldBack_32 : decode cX10_isHeldBack 32 = .ok (.if_icmp .ne 29, 3) := by decide +kernel
theorem dX10_isHeldBack_35 : decode cX10_isHeldBack 35 = .ok (.aload_n 0, 1) := by decide +kernel
theorem dX10_isHeldBack_36 : decode cX10_isHeldBack 36 = .ok (.getfield 94, 3) := by decide +kernel
theorem dX10_isHeldBack_39 : decode cX10_isHeldBack 39 = .ok (.iload_n 3, 1) := by decide +kernel
theorem dX10_isHeldBack_40 : decode cX10_isHeldBack 40 = .ok (.lshr, 1) := by decide +kernel
theorem dX10_isHeldBack_41 : decode cX10_isHeldBack 41 = .ok (.lconst 1, 1) := by decide +kernel
theorem dX10_isHeldBack_42 : decode cX10_isHeldBack 42 = .ok (.land, 1) := by decide +kernel
theorem dX10_isHeldBack_43 : decode cX10_isHeldBack 43 = .ok (.lconst 0, 1) := by decide +kernel
theorem dX10_isHeldBack_44 : decode cX10_isHeldBack 44 = .ok (.lcmp, 1) := by decide +kernel
theorem dX10_isHeldBack_45 : decode cX10_isHeldBack 45 = .ok (.ifCond .ne 16, 3) := by decide +kernel
theorem dX10_isHeldBack_48 : decode cX10_isHeldBack 48 = .ok (.aload_n 0, 1) := by decide +kernel
theorem dX10_isHeldBack_49 : decode cX10_isHeldBack 49 = .ok (.iload_n 3, 1) := by decide +kernel
theorem dX10_isHeldBack_50 : decode cX10_isHeldBack 50 = .ok (.iload_n 1, 1) := by decide +kernel
theorem dX10_isHeldBack_51 : decode cX10_isHeldBack 51 = .ok (.invokevirtual 98, 3) := by decide +kernel
theorem dX10_isHeldBack_54 : decode cX10_isHeldBack 54 = .ok (.ifCond .eq 7, 3) := by decide +kernel
theorem dX10_isHeldBack_57 : decode cX10_isHeldBack 57 = .ok (.iconst 1, 1) := by decide +kernel
theorem dX10_isHeldBack_58 : decode cX10_isHeldBack 58 = .ok (.goto 4, 3) := by decide +kernel
theorem dX10_isHeldBack_61 : decode cX10_isHeldBack 61 = .ok (.iconst 0, 1) := by decide +kernel
theorem dX10_isHeldBack_62 : decode cX10_isHeldBack 62 = .ok (.istore 4, 2) := by decide +kernel
theorem dX10_isHeldBack_64 : decode cX10_isHeldBack 64 = .ok (.iload_n 2, 1) := by decide +kernel
theorem dX10_isHeldBack_65 : decode cX10_isHeldBack 65 = .ok (.ifCond .ne 30, 3) := by decide +kernel
theorem dX10_isHeldBack_68 : decode cX10_isHeldBack 68 = .ok (.iload 4, 2) := by decide +kernel
theorem dX10_isHeldBack_70 : decode cX10_isHeldBack 70 = .ok (.ifCond .eq 29, 3) := by decide +kernel
theorem dX10_isHeldBack_73 : decode cX10_isHeldBack 73 = .ok (.aload_n 0, 1) := by decide +kernel
theorem dX10_isHeldBack_74 : decode cX10_isHeldBack 74 = .ok (.getfield 7, 3) := by decide +kernel
theorem dX10_isHeldBack_77 : decode cX10_isHeldBack 77 = .ok (.iload_n 3, 1) := by decide +kernel
theorem dX10_isHeldBack_78 : decode cX10_isHeldBack 78 = .ok (.invokestatic 61, 3) := by decide +kernel
theorem dX10_isHeldBack_81 : decode cX10_isHeldBack 81 = .ok (.iconst 4, 1) := by decide +kernel
theorem dX10_isHeldBack_82 : decode cX10_isHeldBack 82 = .ok (.iadd, 1) := by decide +kernel
theorem dX10_isHeldBack_83 : decode cX10_isHeldBack 83 = .ok (.iaload, 1) := by decide +kernel
theorem dX10_isHeldBack_84 : decode cX10_isHeldBack 84 = .ok (.iconst 1, 1) := by decide +kernel
theorem dX10_isHeldBack_85 : decode cX10_isHeldBack 85 = .ok (.if_icmp .eq 10, 3) := by decide +kernel
theorem dX10_isHeldBack_88 : decode cX10_isHeldBack 88 = .ok (.aload_n 0, 1) := by decide +kernel
theorem dX10_isHeldBack_89 : decode cX10_isHeldBack 89 = .ok (.getfield 101, 3) := by decide +kernel
theorem dX10_isHeldBack_92 : decode cX10_isHeldBack 92 = .ok (.ifCond .eq 7, 3) := by decide +kernel
theorem dX10_isHeldBack_95 : decode cX10_isHeldBack 95 = .ok (.iconst 1, 1) := by decide +kernel
theorem dX10_isHeldBack_96 : decode cX10_isHeldBack 96 = .ok (.goto 4, 3) := by decide +kernel
theorem dX10_isHeldBack_99 : decode cX10_isHeldBack 99 = .ok (.iconst 0, 1) := by decide +kernel
theorem dX10_isHeldBack_100 : decode cX10_isHeldBack 100 = .ok (.istore_n 2, 1) := by decide +kernel
theorem dX10_isHeldBack_101 : decode cX10_isHeldBack 101 = .ok (.iinc 3 1, 3) := by decide +kernel
theorem dX10_isHeldBack_104 : decode cX10_isHeldBack 104 = .ok (.goto (-100), 3) := by decide +kernel
theorem dX10_isHeldBack_107 : decode cX10_isHeldBack 107 = .ok (.iload_n 2, 1) := by decide +kernel
theorem dX10_isHeldBack_108 : decode cX10_isHeldBack 108 = .ok (.ireturn, 1) := by decide +kernel
theorem dX10_gathers_0 : decode cX10_gathers 0 = .ok (.iload_n 1, 1) := by decide +kernel
theorem dX10_gathers_1 : decode cX10_gathers 1 = .ok (.invokestatic 61, 3) := by decide +kernel
theorem dX10_gathers_4 : decode cX10_gathers 4 = .ok (.istore_n 2, 1) := by decide +kernel
theorem dX10_gathers_5 : decode cX10_gathers 5 = .ok (.aload_n 0, 1) := by decide +kernel
theorem dX10_gathers_6 : decode cX10_gathers 6 = .ok (.iload_n 1, 1) := by decide +kernel
theorem dX10_gathers_7 : decode cX10_gathers 7 = .ok (.putfield 105, 3) := by decide +kernel
theorem dX10_gathers_10 : decode cX10_gathers 10 = .ok (.aload_n 0, 1) := by decide +kernel
theorem dX10_gathers_11 : decode cX10_gathers 11 = .ok (.lconst 1, 1) := by decide +kernel
theorem dX10_gathers_12 : decode cX10_gathers 12 = .ok (.iload_n 1, 1) := by decide +kernel
theorem dX10_gathers_13 : decode cX10_gathers 13 = .ok (.lshl, 1) := by decide +kernel
theorem dX10_gathers_14 : decode cX10_gathers 14 = .ok (.putfield 94, 3) := by decide +kernel
theorem dX10_gathers_17 : decode cX10_gathers 17 = .ok (.aload_n 0, 1) := by decide +kernel
theorem dX10_gathers_18 : decode cX10_gathers 18 = .ok (.aload_n 0, 1) := by decide +kernel
theorem dX10_gathers_19 : decode cX10_gathers 19 = .ok (.getfield 7, 3) := by decide +kernel
theorem dX10_gathers_22 : decode cX10_gathers 22 = .ok (.iload_n 2, 1) := by decide +kernel
theorem dX10_gathers_23 : decode cX10_gathers 23 = .ok (.iconst 1, 1) := by decide +kernel
theorem dX10_gathers_24 : decode cX10_gathers 24 = .ok (.iadd, 1) := by decide +kernel
theorem dX10_gathers_25 : decode cX10_gathers 25 = .ok (.iaload, 1) := by decide +kernel
theorem dX10_gathers_26 : decode cX10_gathers 26 = .ok (.putfield 91, 3) := by decide +kernel
theorem dX10_gathers_29 : decode cX10_gathers 29 = .ok (.aload_n 0, 1) := by decide +kernel
theorem dX10_gathers_30 : decode cX10_gathers 30 = .ok (.aload_n 0, 1) := by decide +kernel
theorem dX10_gathers_31 : decode cX10_gathers 31 = .ok (.getfield 7, 3) := by decide +kernel
theorem dX10_gathers_34 : decode cX10_gathers 34 = .ok (.iload_n 2, 1) := by decide +kernel
theorem dX10_gathers_35 : decode cX10_gathers 35 = .ok (.iconst 2, 1) := by decide +kernel
theorem dX10_gathers_36 : decode cX10_gathers 36 = .ok (.iadd, 1) := by decide +kernel
theorem dX10_gathers_37 : decode cX10_gathers 37 = .ok (.iaload, 1) := by decide +kernel
theorem dX10_gathers_38 : decode cX10_gathers 38 = .ok (.putfield 108, 3) := by decide +kernel
theorem dX10_gathers_41 : decode cX10_gathers 41 = .ok (.aload_n 0, 1) := by decide +kernel
theorem dX10_gathers_42 : decode cX10_gathers 42 = .ok (.aload_n 0, 1) := by decide +kernel
theorem dX10_gathers_43 : decode cX10_gathers 43 = .ok (.iload_n 1, 1) := by decide +kernel
theorem dX10_gathers_44 : decode cX10_gathers 44 = .ok (.invokevirtual 82, 3) := by decide +kernel
theorem dX10_gathers_47 : decode cX10_gathers 47 = .ok (.putfield 111, 3) := by decide +kernel
theorem dX10_gathers_50 : decode cX10_gathers 50 = .ok (.aload_n 0, 1) := by decide +kernel
theorem dX10_gathers_51 : decode cX10_gathers 51 = .ok (.aload_n 0, 1) := by decide +kernel
theorem dX10_gathers_52 : decode cX10_gathers 52 = .ok (.getfield 7, 3) := by decide +kernel
theorem dX10_gathers_55 : decode cX10_gathers 55 = .ok (.iload_n 2, 1) := by decide +kernel
theorem dX10_gathers_56 : decode cX10_gathers 56 = .ok (.iconst 4, 1) := by decide +kernel
theorem dX10_gathers_57 : decode cX10_gathers 57 = .ok (.iadd, 1) := by decide +kernel
theorem dX10_gathers_58 : decode cX10_gathers 58 = .ok (.iaload, 1) := by decide +kernel
theorem dX10_gathers_59 : decode cX10_gathers 59 = .ok (.iconst 1, 1) := by decide +kernel
theorem dX10_gathers_60 : decode cX10_gathers 60 = .ok (.if_icmp .ne 7, 3) := by decide +kernel
theorem dX10_gathers_63 : decode cX10_gathers 63 = .ok (.iconst 1, 1) := by decide +kernel
theorem dX10_gathers_64 : decode cX10_gathers 64 = .ok (.goto 4, 3) := by decide +kernel
theorem dX10_gathers_67 : decode cX10_gathers 67 = .ok (.iconst 0, 1) := by decide +kernel
theorem dX10_gathers_68 : decode cX10_gathers 68 = .ok (.putfield 101, 3) := by decide +kernel
theorem dX10_gathers_71 : decode cX10_gathers 71 = .ok (.iload_n 1, 1) := by decide +kernel
theorem dX10_gathers_72 : decode cX10_gathers 72 = .ok (.iconst 1, 1) := by decide +kernel
theorem dX10_gathers_73 : decode cX10_gathers 73 = .ok (.iadd, 1) := by decide +kernel
theorem dX10_gathers_74 : decode cX10_gathers 74 = .ok (.istore_n 3, 1) := by decide +kernel
theorem dX10_gathers_75 : decode cX10_gathers 75 = .ok (.iload_n 3, 1) := by decide +kernel
theorem dX10_gathers_76 : decode cX10_gathers 76 = .ok (.aload_n 0, 1) := by decide +kernel
theorem dX10_gathers_77 : decode cX10_gathers 77 = .ok (.getfield 7, 3) := by decide +kernel
theorem dX10_gathers_80 : decode cX10_gathers 80 = .ok (.bipush 6, 2) := by decide +kernel
theorem dX10_gathers_82 : decode cX10_gathers 82 = .ok (.iaload, 1) := by decide +kernel
theorem dX10_gathers_83 : decode cX10_gathers 83 = .ok (.if_icmp .ge 227, 3) := by decide +kernel
theorem dX10_gathers_86 : decode cX10_gathers 86 = .ok (.aload_n 0, 1) := by decide +kernel
theorem dX10_gathers_87 : decode cX10_gathers 87 = .ok (.getfield 7, 3) := by decide +kernel
theorem dX10_gathers_90 : decode cX10_gathers 90 = .ok (.iconst 5, 1) := by decide +kernel
theorem dX10_gathers_91 : decode cX10_gathers 91 = .ok (.iaload, 1) := by decide +kernel
theorem dX10_gathers_92 : decode cX10_gathers 92 = .ok (.iconst 1, 1) := by decide +kernel
theorem dX10_gathers_93 : decode cX10_gathers 93 = .ok (.if_icmp .ne 217, 3) := by decide +kernel
theorem dX10_gathers_96 : decode cX10_gathers 96 = .ok (.iload_n 3, 1) := by decide +kernel
theorem dX10_gathers_97 : decode cX10_gathers 97 = .ok (.invokestatic 61, 3) := by decide +kernel
theorem dX10_gathers_100 : decode cX10_gathers 100 = .ok (.istore 4, 2) := by decide +kernel
theorem dX10_gathers_102 : decode cX10_gathers 102 = .ok (.aload_n 0, 1) := by decide +kernel
theorem dX10_gathers_103 : decode cX10_gathers 103 = .ok (.iload_n 3, 1) := by decide +kernel
theorem dX10_gathers_104 : decode cX10_gathers 104 = .ok (.invokevirtual 85, 3) := by decide +kernel
theorem dX10_gathers_107 : decode cX10_gathers 107 = .ok (.ifCond .eq 75, 3) := by decide +kernel
theorem dX10_gathers_110 : decode cX10_gathers 110 = .ok (.aload_n 0, 1) := by decide +kernel
theorem dX10_gathers_111 : decode cX10_gathers 111 = .ok (.getfield 7, 3) := by decide +kernel
theorem dX10_gathers_114 : decode cX10_gathers 114 = .ok (.iload 4, 2) := by decide +kernel
theorem dX10_gathers_116 : decode cX10_gathers 116 = .ok (.iconst 1, 1) := by decide +kernel
theorem dX10_gathers_117 : decode cX10_gathers 117 = .ok (.iadd, 1) := by decide +kernel
theorem dX10_gathers_118 : decode cX10_gathers 118 = .ok (.iaload, 1) := by decide +kernel
theorem dX10_gathers_119 : decode cX10_gathers 119 = .ok (.aload_n 0, 1) := by decide +kernel
theorem dX10_gathers_120 : decode cX10_gathers 120 = .ok (.getfield 91, 3) := by decide +kernel
theorem dX10_gathers_123 : decode cX10_gathers 123 = .ok (.if_icmp .ne 59, 3) := by decide +kernel
theorem dX10_gathers_126 : decode cX10_gathers 126 = .ok (.aload_n 0, 1) := by decide +kernel
theorem dX10_gathers_127 : decode cX10_gathers 127 = .ok (.getfield 7, 3) := by decide +kernel
theorem dX10_gathers_130 : decode cX10_gathers 130 = .ok (.iload 4, 2) := by decide +kernel
theorem dX10_gathers_132 : decode cX10_gathers 132 = .ok (.iconst 4, 1) := by decide +kernel
theorem dX10_gathers_133 : decode cX10_gathers 133 = .ok (.iadd, 1) := by decide +kernel
theorem dX10_gathers_134 : decode cX10_gathers 134 = .ok (.iaload, 1) := by decide +kernel
theorem dX10_gathers_135 : decode cX10_gathers 135 = .ok (.aload_n 0, 1) := by decide +kernel
theorem dX10_gathers_136 : decode cX10_gathers 136 = .ok (.getfield 101, 3) := by decide +kernel
theorem dX10_gathers_139 : decode cX10_gathers 139 = .ok (.ifCond .eq 7, 3) := by decide +kernel
theorem dX10_gathers_142 : decode cX10_gathers 142 = .ok (.iconst 1, 1) := by decide +kernel
theorem dX10_gathers_143 : decode cX10_gathers 143 = .ok (.goto 4, 3) := by decide +kernel
theorem dX10_gathers_146 : decode cX10_gathers 146 = .ok (.iconst 0, 1) := by decide +kernel
theorem dX10_gathers_147 : decode cX10_gathers 147 = .ok (.if_icmp .ne 35, 3) := by decide +kernel
theorem dX10_gathers_150 : decode cX10_gathers 150 = .ok (.aload_n 0, 1) := by decide +kernel
theorem dX10_gathers_151 : decode cX10_gathers 151 = .ok (.getfield 7, 3) := by decide +kernel
theorem dX10_gathers_154 : decode cX10_gathers 154 = .ok (.iload 4, 2) := by decide +kernel
theorem dX10_gathers_156 : decode cX10_gathers 156 = .ok (.iconst 2, 1) := by decide +kernel
theorem dX10_gathers_157 : decode cX10_gathers 157 = .ok (.iadd, 1) := by decide +kernel
theorem dX10_gathers_158 : decode cX10_gathers 158 = .ok (.iaload, 1) := by decide +kernel
theorem dX10_gathers_159 : decode cX10_gathers 159 = .ok (.aload_n 0, 1) := by decide +kernel
theorem dX10_gathers_160 : decode cX10_gathers 160 = .ok (.getfield 111, 3) := by decide +kernel
theorem dX10_gathers_163 : decode cX10_gathers 163 = .ok (.if_icmp .gt 19, 3) := by decide +kernel
theorem dX10_gathers_166 : decode cX10_gathers 166 = .ok (.aload_n 0, 1) := by decide +kernel
theorem dX10_gathers_167 : decode cX10_gathers 167 = .ok (.iload_n 3, 1) := by decide +kernel
theorem dX10_gathers_168 : decode cX10_gathers 168 = .ok (.invokevirtual 82, 3) := by decide +kernel
theorem dX10_gathers_171 : decode cX10_gathers 171 = .ok (.aload_n 0, 1) := by decide +kernel
theorem dX10_gathers_172 : decode cX10_gathers 172 = .ok (.getfield 108, 3) := by decide +kernel
theorem dX10_gathers_175 : decode cX10_gathers 175 = .ok (.if_icmp .lt 7, 3) := by decide +kernel
theorem dX10_gathers_178 : decode cX10_gathers 178 = .ok (.iconst 1, 1) := by decide +kernel
theorem dX10_gathers_179 : decode cX10_gathers 179 = .ok (.goto 4, 3) := by decide +kernel
theorem dX10_gathers_182 : decode cX10_gathers 182 = .ok (.iconst 0, 1) := by decide +kernel
theorem dX10_gathers_183 : decode cX10_gathers 183 = .ok (.istore 5, 2) := by decide +kernel
theorem dX10_gathers_185 : decode cX10_gathers 185 = .ok (.aload_n 0, 1) := by decide +kernel
theorem dX10_gathers_186 : decode cX10_gathers 186 = .ok (.getfield 7, 3) := by decide +kernel
theorem dX10_gathers_189 : decode cX10_gathers 189 = .ok (.iload 4, 2) := by decide +kernel
theorem dX10_gathers_191 : decode cX10_gathers 191 = .ok (.iconst 2, 1) := by decide +kernel
theorem dX10_gathers_192 : decode cX10_gathers 192 = .ok (.iadd, 1) := by decide +kernel
theorem dX10_gathers_193 : decode cX10_gathers 193 = .ok (.iaload, 1) := by decide +kernel
theorem dX10_gathers_194 : decode cX10_gathers 194 = .ok (.aload_n 0, 1) := by decide +kernel
theorem dX10_gathers_195 : decode cX10_gathers 195 = .ok (.getfield 108, 3) := by decide +kernel
theorem dX10_gathers_198 : decode cX10_gathers 198 = .ok (.if_icmp .ge 15, 3) := by decide +kernel
theorem dX10_gathers_201 : decode cX10_gathers 201 = .ok (.aload_n 0, 1) := by decide +kernel
theorem dX10_gathers_202 : decode cX10_gathers 202 = .ok (.getfield 7, 3) := by decide +kernel
theorem dX10_gathers_205 : decode cX10_gathers 205 = .ok (.iload 4, 2) := by decide +kernel
theorem dX10_gathers_207 : decode cX10_gathers 207 = .ok (.iconst 2, 1) := by decide +kernel
theorem dX10_gathers_208 : decode cX10_gathers 208 = .ok (.iadd, 1) := by decide +kernel
theorem dX10_gathers_209 : decode cX10_gathers 209 = .ok (.iaload, 1) := by decide +kernel
theorem dX10_gathers_210 : decode cX10_gathers 210 = .ok (.goto 7, 3) := by decide +kernel
theorem dX10_gathers_213 : decode cX10_gathers 213 = .ok (.aload_n 0, 1) := by decide +kernel
theorem dX10_gathers_214 : decode cX10_gathers 214 = .ok (.getfield 108, 3) := by decide +kernel
theorem dX10_gathers_217 : decode cX10_gathers 217 = .ok (.istore 6, 2) := by decide +kernel
theorem dX10_gathers_219 : decode cX10_gathers 219 = .ok (.aload_n 0, 1) := by decide +kernel
theorem dX10_gathers_220 : decode cX10_gathers 220 = .ok (.iload_n 3, 1) := by decide +kernel
theorem dX10_gathers_221 : decode cX10_gathers 221 = .ok (.invokevirtual 82, 3) := by decide +kernel
theorem dX10_gathers_224 : decode cX10_gathers 224 = .ok (.aload_n 0, 1) := by decide +kernel
theorem dX10_gathers_225 : decode cX10_gathers 225 = .ok (.getfield 111, 3) := by decide +kernel
theorem dX10_gathers_228 : decode cX10_gathers 228 = .ok (.if_icmp .le 11, 3) := by decide +kernel
theorem dX10_gathers_231 : decode cX10_gathers 231 = .ok (.aload_n 0, 1) := by decide +kernel
theorem dX10_gathers_232 : decode cX10_gathers 232 = .ok (.iload_n 3, 1) := by decide +kernel
theorem dX10_gathers_233 : decode cX10_gathers 233 = .ok (.invokevirtual 82, 3) := by decide +kernel
theorem dX10_gathers_236 : decode cX10_gathers 236 = .ok (.goto 7, 3) := by decide +kernel
theorem dX10_gathers_239 : decode cX10_gathers 239 = .ok (.aload_n 0, 1) := by decide +kernel
theorem dX10_gathers_240 : decode cX10_gathers 240 = .ok (.getfield 111, 3) := by decide +kernel
theorem dX10_gathers_243 : decode cX10_gathers 243 = .ok (.istore 7, 2) := by decide +kernel
theorem dX10_gathers_245 : decode cX10_gathers 245 = .ok (.iload 5, 2) := by decide +kernel
theorem dX10_gathers_247 : decode cX10_gathers 247 = .ok (.ifCond .eq 57, 3) := by decide +kernel
theorem dX10_gathers_250 : decode cX10_gathers 250 = .ok (.iload 7, 2) := by decide +kernel
theorem dX10_gathers_252 : decode cX10_gathers 252 = .ok (.iload 6, 2) := by decide +kernel
theorem dX10_gathers_254 : decode cX10_gathers 254 = .ok (.isub, 1) := by decide +kernel
theorem dX10_gathers_255 : decode cX10_gathers 255 = .ok (.aload_n 0, 1) := by decide +kernel
theorem dX10_gathers_256 : decode cX10_gathers 256 = .ok (.getfield 101, 3) := by decide +kernel
theorem dX10_gathers_259 : decode cX10_gathers 259 = .ok (.ifCond .eq 8, 3) := by decide +kernel
theorem dX10_gathers_262 : decode cX10_gathers 262 = .ok (.bipush 8, 2) := by decide +kernel
theorem dX10_gathers_264 : decode cX10_gathers 264 = .ok (.goto 5, 3) := by decide +kernel
theorem dX10_gathers_267 : decode cX10_gathers 267 = .ok (.bipush 16, 2) := by decide +kernel
theorem dX10_gathers_269 : decode cX10_gathers 269 = .ok (.if_icmp .gt 35, 3) := by decide +kernel
theorem dX10_gathers_272 : decode cX10_gathers 272 = .ok (.aload_n 0, 1) := by decide +kernel
theorem dX10_gathers_273 : decode cX10_gathers 273 = .ok (.iload_n 3, 1) := by decide +kernel
theorem dX10_gathers_274 : decode cX10_gathers 274 = .ok (.invokevirtual 114, 3) := by decide +kernel
theorem dX10_gathers_277 : decode cX10_gathers 277 = .ok (.ifCond .ne 27, 3) := by decide +kernel
theorem dX10_gathers_280 : decode cX10_gathers 280 = .ok (.aload_n 0, 1) := by decide +kernel
theorem dX10_gathers_281 : decode cX10_gathers 281 = .ok (.dup, 1) := by decide +kernel
theorem dX10_gathers_282 : decode cX10_gathers 282 = .ok (.getfield 94, 3) := by decide +kernel
theorem dX10_gathers_285 : decode cX10_gathers 285 = .ok (.lconst 1, 1) := by decide +kernel
theorem dX10_gathers_286 : decode cX10_gathers 286 = .ok (.iload_n 3, 1) := by decide +kernel
theorem dX10_gathers_287 : decode cX10_gathers 287 = .ok (.lshl, 1) := by decide +kernel
theorem dX10_gathers_288 : decode cX10_gathers 288 = .ok (.lor, 1) := by decide +kernel
theorem dX10_gathers_289 : decode cX10_gathers 289 = .ok (.putfield 94, 3) := by decide +kernel
theorem dX10_gathers_292 : decode cX10_gathers 292 = .ok (.aload_n 0, 1) := by decide +kernel
theorem dX10_gathers_293 : decode cX10_gathers 293 = .ok (.iload 6, 2) := by decide +kernel
theorem dX10_gathers_295 : decode cX10_gathers 295 = .ok (.putfield 108, 3) := by decide +kernel
theorem dX10_gathers_298 : decode cX10_gathers 298 = .ok (.aload_n 0, 1) := by decide +kernel
theorem dX10_gathers_299 : decode cX10_gathers 299 = .ok (.iload 7, 2) := by decide +kernel
theorem dX10_gathers_301 : decode cX10_gathers 301 = .ok (.putfield 111, 3) := by decide +kernel
theorem dX10_gathers_304 : decode cX10_gathers 304 = .ok (.iinc 3 1, 3) := by decide +kernel
theorem dX10_gathers_307 : decode cX10_gathers 307 = .ok (.goto (-232), 3) := by decide +kernel
theorem dX10_gathers_310 : decode cX10_gathers 310 = .ok (.return_, 1) := by decide +kernel
theorem dX10_stirred_0 : decode cX10_stirred 0 = .ok (.iload_n 0, 1) := by decide +kernel
theorem dX10_stirred_1 : decode cX10_stirred 1 = .ok (.iload_n 1, 1) := by decide +kernel
theorem dX10_stirred_2 : decode cX10_stirred 2 = .ok (.ixor, 1) := by decide +kernel
theorem dX10_stirred_3 : decode cX10_stirred 3 = .ok (.istore_n 2, 1) := by decide +kernel
theorem dX10_stirred_4 : decode cX10_stirred 4 = .ok (.iconst 0, 1) := by decide +kernel
theorem dX10_stirred_5 : decode cX10_stirred 5 = .ok (.istore_n 3, 1) := by decide +kernel
theorem dX10_stirred_6 : decode cX10_stirred 6 = .ok (.iload_n 3, 1) := by decide +kernel
theorem dX10_stirred_7 : decode cX10_stirred 7 = .ok (.bipush 8, 2) := by decide +kernel
theorem dX10_stirred_9 : decode cX10_stirred 9 = .ok (.if_icmp .ge 29, 3) := by decide +kernel
theorem dX10_stirred_12 : decode cX10_stirred 12 = .ok (.iload_n 2, 1) := by decide +kernel
theorem dX10_stirred_13 : decode cX10_stirred 13 = .ok (.iconst 1, 1) := by decide +kernel
theorem dX10_stirred_14 : decode cX10_stirred 14 = .ok (.iand, 1) := by decide +kernel
theorem dX10_stirred_15 : decode cX10_stirred 15 = .ok (.iconst 1, 1) := by decide +kernel
theorem dX10_stirred_16 : decode cX10_stirred 16 = .ok (.if_icmp .ne 12, 3) := by decide +kernel
theorem dX10_stirred_19 : decode cX10_stirred 19 = .ok (.iload_n 2, 1) := by decide +kernel
theorem dX10_stirred_20 : decode cX10_stirred 20 = .ok (.iconst 1, 1) := by decide +kernel
theorem dX10_stirred_21 : decode cX10_stirred 21 = .ok (.ishr, 1) := by decide +kernel
theorem dX10_stirred_22 : decode cX10_stirred 22 = .ok (.ldc 117, 2) := by decide +kernel
theorem dX10_stirred_24 : decode cX10_stirred 24 = .ok (.ixor, 1) := by decide +kernel
theorem dX10_stirred_25 : decode cX10_stirred 25 = .ok (.goto 6, 3) := by decide +kernel
theorem dX10_stirred_28 : decode cX10_stirred 28 = .ok (.iload_n 2, 1) := by decide +kernel
theorem dX10_stirred_29 : decode cX10_stirred 29 = .ok (.iconst 1, 1) := by decide +kernel
theorem dX10_stirred_30 : decode cX10_stirred 30 = .ok (.ishr, 1) := by decide +kernel
theorem dX10_stirred_31 : decode cX10_stirred 31 = .ok (.istore_n 2, 1) := by decide +kernel
theorem dX10_stirred_32 : decode cX10_stirred 32 = .ok (.iinc 3 1, 3) := by decide +kernel
theorem dX10_stirred_35 : decode cX10_stirred 35 = .ok (.goto (-29), 3) := by decide +kernel
theorem dX10_stirred_38 : decode cX10_stirred 38 = .ok (.iload_n 2, 1) := by decide +kernel
theorem dX10_stirred_39 : decode cX10_stirred 39 = .ok (.ireturn, 1) := by decide +kernel
theorem dX10_puts_0 : decode cX10_puts 0 = .ok (.aload_n 0, 1) := by decide +kernel
theorem dX10_puts_1 : decode cX10_puts 1 = .ok (.getfield 16, 3) := by decide +kernel
theorem dX10_puts_4 : decode cX10_puts 4 = .ok (.aload_n 0, 1) := by decide +kernel
theorem dX10_puts_5 : decode cX10_puts 5 = .ok (.getfield 118, 3) := by decide +kernel
theorem dX10_puts_8 : decode cX10_puts 8 = .ok (.iload_n 1, 1) := by decide +kernel
theorem dX10_puts_9 : decode cX10_puts 9 = .ok (.iastore, 1) := by decide +kernel
theorem dX10_puts_10 : decode cX10_puts 10 = .ok (.aload_n 0, 1) := by decide +kernel
theorem dX10_puts_11 : decode cX10_puts 11 = .ok (.dup, 1) := by decide +kernel
theorem dX10_puts_12 : decode cX10_puts 12 = .ok (.getfield 118, 3) := by decide +kernel
theorem dX10_puts_15 : decode cX10_puts 15 = .ok (.iconst 1, 1) := by decide +kernel
theorem dX10_puts_16 : decode cX10_puts 16 = .ok (.iadd, 1) := by decide +kernel
theorem dX10_puts_17 : decode cX10_puts 17 = .ok (.putfield 118, 3) := by decide +kernel
theorem dX10_puts_20 : decode cX10_puts 20 = .ok (.return_, 1) := by decide +kernel
theorem dX10_putsWord_0 : decode cX10_putsWord 0 = .ok (.aload_n 0, 1) := by decide +kernel
theorem dX10_putsWord_1 : decode cX10_putsWord 1 = .ok (.iload_n 1, 1) := by decide +kernel
theorem dX10_putsWord_2 : decode cX10_putsWord 2 = .ok (.bipush 8, 2) := by decide +kernel
theorem dX10_putsWord_4 : decode cX10_putsWord 4 = .ok (.ishr, 1) := by decide +kernel
theorem dX10_putsWord_5 : decode cX10_putsWord 5 = .ok (.invokevirtual 121, 3) := by decide +kernel
theorem dX10_putsWord_8 : decode cX10_putsWord 8 = .ok (.aload_n 0, 1) := by decide +kernel
theorem dX10_putsWord_9 : decode cX10_putsWord 9 = .ok (.iload_n 1, 1) := by decide +kernel
theorem dX10_putsWord_10 : decode cX10_putsWord 10 = .ok (.sipush 255, 3) := by decide +kernel
theorem dX10_putsWord_13 : decode cX10_putsWord 13 = .ok (.iand, 1) := by decide +kernel
theorem dX10_putsWord_14 : decode cX10_putsWord 14 = .ok (.invokevirtual 121, 3) := by decide +kernel
theorem dX10_putsWord_17 : decode cX10_putsWord 17 = .ok (.return_, 1) := by decide +kernel
theorem dX10_seals_0 : decode cX10_seals 0 = .ok (.ldc 25, 2) := by decide +kernel
theorem dX10_seals_2 : decode cX10_seals 2 = .ok (.istore_n 1, 1) := by decide +kernel
theorem dX10_seals_3 : decode cX10_seals 3 = .ok (.iconst 0, 1) := by decide +kernel
theorem dX10_seals_4 : decode cX10_seals 4 = .ok (.istore_n 2, 1) := by decide +kernel
theorem dX10_seals_5 : decode cX10_seals 5 = .ok (.iload_n 2, 1) := by decide +kernel
theorem dX10_seals_6 : decode cX10_seals 6 = .ok (.aload_n 0, 1) := by decide +kernel
theorem dX10_seals_7 : decode cX10_seals 7 = .ok (.getfield 118, 3) := by decide +kernel
theorem dX10_seals_10 : decode cX10_seals 10 = .ok (.if_icmp .ge 20, 3) := by decide +kernel
theorem dX10_seals_13 : decode cX10_seals 13 = .ok (.iload_n 1, 1) := by decide +kernel
theorem dX10_seals_14 : decode cX10_seals 14 = .ok (.aload_n 0, 1) := by decide +kernel
theorem dX10_seals_15 : decode cX10_seals 15 = .ok (.getfield 16, 3) := by decide +kernel
theorem dX10_seals_18 : decode cX10_seals 18 = .ok (.iload_n 2, 1) := by decide +kernel
theorem dX10_seals_19 : decode cX10_seals 19 = .ok (.iaload, 1) := by decide +kernel
theorem dX10_seals_20 : decode cX10_seals 20 = .ok (.invokestatic 125, 3) := by decide +kernel
theorem dX10_seals_23 : decode cX10_seals 23 = .ok (.istore_n 1, 1) := by decide +kernel
theorem dX10_seals_24 : decode cX10_seals 24 = .ok (.iinc 2 1, 3) := by decide +kernel
theorem dX10_seals_27 : decode cX10_seals 27 = .ok (.goto (-22), 3) := by decide +kernel
theorem dX10_seals_30 : decode cX10_seals 30 = .ok (.aload_n 0, 1) := by decide +kernel
theorem dX10_seals_31 : decode cX10_seals 31 = .ok (.iload_n 1, 1) := by decide +kernel
theorem dX10_seals_32 : decode cX10_seals 32 = .ok (.sipush 255, 3) := by decide +kernel
theorem dX10_seals_35 : decode cX10_seals 35 = .ok (.iand, 1) := by decide +kernel
theorem dX10_seals_36 : decode cX10_seals 36 = .ok (.invokevirtual 121, 3) := by decide +kernel
theorem dX10_seals_39 : decode cX10_seals 39 = .ok (.aload_n 0, 1) := by decide +kernel
theorem dX10_seals_40 : decode cX10_seals 40 = .ok (.iload_n 1, 1) := by decide +kernel
theorem dX10_seals_41 : decode cX10_seals 41 = .ok (.bipush 8, 2) := by decide +kernel
theorem dX10_seals_43 : decode cX10_seals 43 = .ok (.ishr, 1) := by decide +kernel
theorem dX10_seals_44 : decode cX10_seals 44 = .ok (.invokevirtual 121, 3) := by decide +kernel
theorem dX10_seals_47 : decode cX10_seals 47 = .ok (.return_, 1) := by decide +kernel
theorem dX10_function_0 : decode cX10_function 0 = .ok (.aload_n 0, 1) := by decide +kernel
theorem dX10_function_1 : decode cX10_function 1 = .ok (.getfield 101, 3) := by decide +kernel
theorem dX10_function_4 : decode cX10_function 4 = .ok (.ifCond .ne 7, 3) := by decide +kernel
theorem dX10_function_7 : decode cX10_function 7 = .ok (.iconst 3, 1) := by decide +kernel
theorem dX10_function_8 : decode cX10_function 8 = .ok (.goto 23, 3) := by decide +kernel
theorem dX10_function_11 : decode cX10_function 11 = .ok (.aload_n 0, 1) := by decide +kernel
theorem dX10_function_12 : decode cX10_function 12 = .ok (.getfield 111, 3) := by decide +kernel
theorem dX10_function_15 : decode cX10_function 15 = .ok (.aload_n 0, 1) := by decide +kernel
theorem dX10_function_16 : decode cX10_function 16 = .ok (.getfield 108, 3) := by decide +kernel
theorem dX10_function_19 : decode cX10_function 19 = .ok (.isub, 1) := by decide +kernel
theorem dX10_function_20 : decode cX10_function 20 = .ok (.iconst 1, 1) := by decide +kernel
theorem dX10_function_21 : decode cX10_function 21 = .ok (.if_icmp .ne 8, 3) := by decide +kernel
theorem dX10_function_24 : decode cX10_function 24 = .ok (.bipush 6, 2) := by decide +kernel
theorem dX10_function_26 : decode cX10_function 26 = .ok (.goto 5, 3) := by decide +kernel
theorem dX10_function_29 : decode cX10_function 29 = .ok (.bipush 16, 2) := by decide +kernel
theorem dX10_function_31 : decode cX10_function 31 = .ok (.ireturn, 1) := by decide +kernel
theorem dX10_frames_0 : decode cX10_frames 0 = .ok (.aload_n 0, 1) := by decide +kernel
theorem dX10_frames_1 : decode cX10_frames 1 = .ok (.getfield 108, 3) := by decide +kernel
theorem dX10_frames_4 : decode cX10_frames 4 = .ok (.istore_n 1, 1) := by decide +kernel
theorem dX10_frames_5 : decode cX10_frames 5 = .ok (.iload_n 1, 1) := by decide +kernel
theorem dX10_frames_6 : decode cX10_frames 6 = .ok (.aload_n 0, 1) := by decide +kernel
theorem dX10_frames_7 : decode cX10_frames 7 = .ok (.getfield 111, 3) := by decide +kernel
theorem dX10_frames_10 : decode cX10_frames 10 = .ok (.if_icmp .ge 103, 3) := by decide +kernel
theorem dX10_frames_13 : decode cX10_frames 13 = .ok (.aload_n 0, 1) := by decide +kernel
theorem dX10_frames_14 : decode cX10_frames 14 = .ok (.getfield 101, 3) := by decide +kernel
theorem dX10_frames_17 : decode cX10_frames 17 = .ok (.ifCond .eq 96, 3) := by decide +kernel
theorem dX10_frames_20 : decode cX10_frames 20 = .ok (.aload_n 0, 1) := by decide +kernel
theorem dX10_frames_21 : decode cX10_frames 21 = .ok (.getfield 105, 3) := by decide +kernel
theorem dX10_frames_24 : decode cX10_frames 24 = .ok (.istore_n 2, 1) := by decide +kernel
theorem dX10_frames_25 : decode cX10_frames 25 = .ok (.iload_n 2, 1) := by decide +kernel
theorem dX10_frames_26 : decode cX10_frames 26 = .ok (.aload_n 0, 1) := by decide +kernel
theorem dX10_frames_27 : decode cX10_frames 27 = .ok (.getfield 7, 3) := by decide +kernel
theorem dX10_frames_30 : decode cX10_frames 30 = .ok (.bipush 6, 2) := by decide +kernel
theorem dX10_frames_32 : decode cX10_frames 32 = .ok (.iaload, 1) := by decide +kernel
theorem dX10_frames_33 : decode cX10_frames 33 = .ok (.if_icmp .ge 74, 3) := by decide +kernel
theorem dX10_frames_36 : decode cX10_frames 36 = .ok (.aload_n 0, 1) := by decide +kernel
theorem dX10_frames_37 : decode cX10_frames 37 = .ok (.getfield 19, 3) := by decide +kernel
theorem dX10_frames_40 : decode cX10_frames 40 = .ok (.iload_n 1, 1) := by decide +kernel
theorem dX10_frames_41 : decode cX10_frames 41 = .ok (.aload_n 0, 1) := by decide +kernel
theorem dX10_frames_42 : decode cX10_frames 42 = .ok (.getfield 108, 3) := by decide +kernel
theorem dX10_frames_45 : decode cX10_frames 45 = .ok (.isub, 1) := by decide +kernel
theorem dX10_frames_46 : decode cX10_frames 46 = .ok (.aload_n 0, 1) := by decide +kernel
theorem dX10_frames_47 : decode cX10_frames 47 = .ok (.getfield 94, 3) := by decide +kernel
theorem dX10_frames_50 : decode cX10_frames 50 = .ok (.iload_n 2, 1) := by decide +kernel
theorem dX10_frames_51 : decode cX10_frames 51 = .ok (.lshr, 1) := by decide +kernel
theorem dX10_frames_52 : decode cX10_frames 52 = .ok (.lconst 1, 1) := by decide +kernel
theorem dX10_frames_53 : decode cX10_frames 53 = .ok (.land, 1) := by decide +kernel
theorem dX10_frames_54 : decode cX10_frames 54 = .ok (.lconst 1, 1) := by decide +kernel
theorem dX10_frames_55 : decode cX10_frames 55 = .ok (.lcmp, 1) := by decide +kernel
theorem dX10_frames_56 : decode cX10_frames 56 = .ok (.ifCond .ne 33, 3) := by decide +kernel
theorem dX10_frames_59 : decode cX10_frames 59 = .ok (.aload_n 0, 1) := by decide +kernel
theorem dX10_frames_60 : decode cX10_frames 60 = .ok (.getfield 7, 3) := by decide +kernel
theorem dX10_frames_63 : decode cX10_frames 63 = .ok (.iload_n 2, 1) := by decide +kernel
theorem dX10_frames_64 : decode cX10_frames 64 = .ok (.invokestatic 61, 3) := by decide +kernel
theorem dX10_frames_67 : decode cX10_frames 67 = .ok (.iconst 2, 1) := by decide +kernel
theorem dX10_frames_68 : decode cX10_frames 68 = .ok (.iadd, 1) := by decide +kernel
theorem dX10_frames_69 : decode cX10_frames 69 = .ok (.iaload, 1) := by decide +kernel
theorem dX10_frames_70 : decode cX10_frames 70 = .ok (.iload_n 1, 1) := by decide +kernel
theorem dX10_frames_71 : decode cX10_frames 71 = .ok (.if_icmp .ne 18, 3) := by decide +kernel
theorem dX10_frames_74 : decode cX10_frames 74 = .ok (.aload_n 0, 1) := by decide +kernel
theorem dX10_frames_75 : decode cX10_frames 75 = .ok (.getfield 7, 3) := by decide +kernel
theorem dX10_frames_78 : decode cX10_frames 78 = .ok (.iload_n 2, 1) := by decide +kernel
theorem dX10_frames_79 : decode cX10_frames 79 = .ok (.invokestatic 61, 3) := by decide +kernel
theorem dX10_frames_82 : decode cX10_frames 82 = .ok (.bipush 9, 2) := by decide +kernel
theorem dX10_frames_84 : decode cX10_frames 84 = .ok (.iadd, 1) := by decide +kernel
theorem dX10_frames_85 : decode cX10_frames 85 = .ok (.iaload, 1) := by decide +kernel
theorem dX10_frames_86 : decode cX10_frames 86 = .ok (.goto 14, 3) := by decide +kernel
theorem dX10_frames_89 : decode cX10_frames 89 = .ok (.aload_n 0, 1) := by decide +kernel
theorem dX10_frames_90 : decode cX10_frames 90 = .ok (.getfield 19, 3) := by decide +kernel
theorem dX10_frames_93 : decode cX10_frames 93 = .ok (.iload_n 1, 1) := by decide +kernel
theorem dX10_frames_94 : decode cX10_frames 94 = .ok (.aload_n 0, 1) := by decide +kernel
theorem dX10_frames_95 : decode cX10_frames 95 = .ok (.getfield 108, 3) := by decide +kernel
theorem dX10_frames_98 : decode cX10_frames 98 = .ok (.isub, 1) := by decide +kernel
theorem dX10_frames_99 : decode cX10_frames 99 = .ok (.iaload, 1) := by decide +kernel
theorem dX10_frames_100 : decode cX10_frames 100 = .ok (.iastore, 1) := by decide +kernel
theorem dX10_frames_101 : decode cX10_frames 101 = .ok (.iinc 2 1, 3) := by decide +kernel
theorem dX10_frames_104 : decode cX10_frames 104 = .ok (.goto (-79), 3) := by decide +kernel
theorem dX10_frames_107 : decode cX10_frames 107 = .ok (.iinc 1 1, 3) := by decide +kernel
theorem dX10_frames_110 : decode cX10_frames 110 = .ok (.goto (-105), 3) := by decide +kernel
theorem dX10_frames_113 : decode cX10_frames 113 = .ok (.aload_n 0, 1) := by decide +kernel
theorem dX10_frames_114 : decode cX10_frames 114 = .ok (.iconst 0, 1) := by decide +kernel
theorem dX10_frames_115 : decode cX10_frames 115 = .ok (.putfield 118, 3) := by decide +kernel
theorem dX10_frames_118 : decode cX10_frames 118 = .ok (.aload_n 0, 1) := by decide +kernel
theorem dX10_frames_119 : decode cX10_frames 119 = .ok (.aload_n 0, 1) := by decide +kernel
theorem dX10_frames_120 : decode cX10_frames 120 = .ok (.getfield 91, 3) := by decide +kernel
theorem dX10_frames_123 : decode cX10_frames 123 = .ok (.invokevirtual 121, 3) := by decide +kernel
theorem dX10_frames_126 : decode cX10_frames 126 = .ok (.aload_n 0, 1) := by decide +kernel
theorem dX10_frames_127 : decode cX10_frames 127 = .ok (.aload_n 0, 1) := by decide +kernel
theorem dX10_frames_128 : decode cX10_frames 128 = .ok (.invokevirtual 128, 3) := by decide +kernel
theorem dX10_frames_131 : decode cX10_frames 131 = .ok (.invokevirtual 121, 3) := by decide +kernel
theorem dX10_frames_134 : decode cX10_frames 134 = .ok (.aload_n 0, 1) := by decide +kernel
theorem dX10_frames_135 : decode cX10_frames 135 = .ok (.aload_n 0, 1) := by decide +kernel
theorem dX10_frames_136 : decode cX10_frames 136 = .ok (.getfield 108, 3) := by decide +kernel
theorem dX10_frames_139 : decode cX10_frames 139 = .ok (.invokevirtual 132, 3) := by decide +kernel
theorem dX10_frames_142 : decode cX10_frames 142 = .ok (.aload_n 0, 1) := by decide +kernel
theorem dX10_frames_143 : decode cX10_frames 143 = .ok (.invokevirtual 128, 3) := by decide +kernel
theorem dX10_frames_146 : decode cX10_frames 146 = .ok (.bipush 6, 2) := by decide +kernel
theorem dX10_frames_148 : decode cX10_frames 148 = .ok (.if_icmp .ne 16, 3) := by decide +kernel
theorem dX10_frames_151 : decode cX10_frames 151 = .ok (.aload_n 0, 1) := by decide +kernel
theorem dX10_frames_152 : decode cX10_frames 152 = .ok (.aload_n 0, 1) := by decide +kernel
theorem dX10_frames_153 : decode cX10_frames 153 = .ok (.getfield 19, 3) := by decide +kernel
theorem dX10_frames_156 : decode cX10_frames 156 = .ok (.iconst 0, 1) := by decide +kernel
theorem dX10_frames_157 : decode cX10_frames 157 = .ok (.iaload, 1) := by decide +kernel
theorem dX10_frames_158 : decode cX10_frames 158 = .ok (.invokevirtual 132, 3) := by decide +kernel
theorem dX10_frames_161 : decode cX10_frames 161 = .ok (.goto 16, 3) := by decide +kernel
theorem dX10_frames_164 : decode cX10_frames 164 = .ok (.aload_n 0, 1) := by decide +kernel
theorem dX10_frames_165 : decode cX10_frames 165 = .ok (.aload_n 0, 1) := by decide +kernel
theorem dX10_frames_166 : decode cX10_frames 166 = .ok (.getfield 111, 3) := by decide +kernel
theorem dX10_frames_169 : decode cX10_frames 169 = .ok (.aload_n 0, 1) := by decide +kernel
theorem dX10_frames_170 : decode cX10_frames 170 = .ok (.getfield 108, 3) := by decide +kernel
theorem dX10_frames_173 : decode cX10_frames 173 = .ok (.isub, 1) := by decide +kernel
theorem dX10_frames_174 : decode cX10_frames 174 = .ok (.invokevirtual 132, 3) := by decide +kernel
theorem dX10_frames_177 : decode cX10_frames 177 = .ok (.aload_n 0, 1) := by decide +kernel
theorem dX10_frames_178 : decode cX10_frames 178 = .ok (.invokevirtual 128, 3) := by decide +kernel
theorem dX10_frames_181 : decode cX10_frames 181 = .ok (.bipush 16, 2) := by decide +kernel
theorem dX10_frames_183 : decode cX10_frames 183 = .ok (.if_icmp .ne 52, 3) := by decide +kernel
theorem dX10_frames_186 : decode cX10_frames 186 = .ok (.aload_n 0, 1) := by decide +kernel
theorem dX10_frames_187 : decode cX10_frames 187 = .ok (.iconst 2, 1) := by decide +kernel
theorem dX10_frames_188 : decode cX10_frames 188 = .ok (.aload_n 0, 1) := by decide +kernel
theorem dX10_frames_189 : decode cX10_frames 189 = .ok (.getfield 111, 3) := by decide +kernel
theorem dX10_frames_192 : decode cX10_frames 192 = .ok (.aload_n 0, 1) := by decide +kernel
theorem dX10_frames_193 : decode cX10_frames 193 = .ok (.getfield 108, 3) := by decide +kernel
theorem dX10_frames_196 : decode cX10_frames 196 = .ok (.isub, 1) := by decide +kernel
theorem dX10_frames_197 : decode cX10_frames 197 = .ok (.imul, 1) := by decide +kernel
theorem dX10_frames_198 : decode cX10_frames 198 = .ok (.invokevirtual 121, 3) := by decide +kernel
theorem dX10_frames_201 : decode cX10_frames 201 = .ok (.aload_n 0, 1) := by decide +kernel
theorem dX10_frames_202 : decode cX10_frames 202 = .ok (.getfield 108, 3) := by decide +kernel
theorem dX10_frames_205 : decode cX10_frames 205 = .ok (.istore_n 1, 1) := by decide +kernel
theorem dX10_frames_206 : decode cX10_frames 206 = .ok (.iload_n 1, 1) := by decide +kernel
theorem dX10_frames_207 : decode cX10_frames 207 = .ok (.aload_n 0, 1) := by decide +kernel
theorem dX10_frames_208 : decode cX10_frames 208 = .ok (.getfield 111, 3) := by decide +kernel
theorem dX10_frames_211 : decode cX10_frames 211 = .ok (.if_icmp .ge 24, 3) := by decide +kernel
theorem dX10_frames_214 : decode cX10_frames 214 = .ok (.aload_n 0, 1) := by decide +kernel
theorem dX10_frames_215 : decode cX10_frames 215 = .ok (.aload_n 0, 1) := by decide +kernel
theorem dX10_frames_216 : decode cX10_frames 216 = .ok (.getfield 19, 3) := by decide +kernel
theorem dX10_frames_219 : decode cX10_frames 219 = .ok (.iload_n 1, 1) := by decide +kernel
theorem dX10_frames_220 : decode cX10_frames 220 = .ok (.aload_n 0, 1) := by decide +kernel
theorem dX10_frames_221 : decode cX10_frames 221 = .ok (.getfield 108, 3) := by decide +kernel
theorem dX10_frames_224 : decode cX10_frames 224 = .ok (.isub, 1) := by decide +kernel
theorem dX10_frames_225 : decode cX10_frames 225 = .ok (.iaload, 1) := by decide +kernel
theorem dX10_frames_226 : decode cX10_frames 226 = .ok (.invokevirtual 132, 3) := by decide +kernel
theorem dX10_frames_229 : decode cX10_frames 229 = .ok (.iinc 1 1, 3) := by decide +kernel
theorem dX10_frames_232 : decode cX10_frames 232 = .ok (.goto (-26), 3) := by decide +kernel
theorem dX10_frames_235 : decode cX10_frames 235 = .ok (.aload_n 0, 1) := by decide +kernel
theorem dX10_frames_236 : decode cX10_frames 236 = .ok (.invokevirtual 135, 3) := by decide +kernel
theorem dX10_frames_239 : decode cX10_frames 239 = .ok (.return_, 1) := by decide +kernel
theorem dX10_code_0 : decode cX10_code 0 = .ok (.aload_n 0, 1) := by decide +kernel
theorem dX10_code_1 : decode cX10_code 1 = .ok (.getfield 111, 3) := by decide +kernel
theorem dX10_code_4 : decode cX10_code 4 = .ok (.bipush 32, 2) := by decide +kernel
theorem dX10_code_6 : decode cX10_code 6 = .ok (.if_icmp .le 7, 3) := by decide +kernel
theorem dX10_code_9 : decode cX10_code 9 = .ok (.iconst 1, 1) := by decide +kernel
theorem dX10_code_10 : decode cX10_code 10 = .ok (.goto 4, 3) := by decide +kernel
theorem dX10_code_13 : decode cX10_code 13 = .ok (.iconst 0, 1) := by decide +kernel
theorem dX10_code_14 : decode cX10_code 14 = .ok (.istore_n 1, 1) := by decide +kernel
theorem dX10_code_15 : decode cX10_code 15 = .ok (.iconst 0, 1) := by decide +kernel
theorem dX10_code_16 : decode cX10_code 16 = .ok (.istore_n 2, 1) := by decide +kernel
theorem dX10_code_17 : decode cX10_code 17 = .ok (.aload_n 0, 1) := by decide +kernel
theorem dX10_code_18 : decode cX10_code 18 = .ok (.getfield 108, 3) := by decide +kernel
theorem dX10_code_21 : decode cX10_code 21 = .ok (.istore_n 3, 1) := by decide +kernel
theorem dX10_code_22 : decode cX10_code 22 = .ok (.iload_n 3, 1) := by decide +kernel
theorem dX10_code_23 : decode cX10_code 23 = .ok (.aload_n 0, 1) := by decide +kernel
theorem dX10_code_24 : decode cX10_code 24 = .ok (.getfield 111, 3) := by decide +kernel
theorem dX10_code_27 : decode cX10_code 27 = .ok (.if_icmp .ge 85, 3) := by decide +kernel
theorem dX10_code_30 : decode cX10_code 30 = .ok (.iload_n 1, 1) := by decide +kernel
theorem dX10_code_31 : decode cX10_code 31 = .ok (.ifCond .ne 81, 3) := by decide +kernel
theorem dX10_code_34 : decode cX10_code 34 = .ok (.aload_n 0, 1) := by decide +kernel
theorem dX10_code_35 : decode cX10_code 35 = .ok (.getfield 101, 3) := by decide +kernel
theorem dX10_code_38 : decode cX10_code 38 = .ok (.ifCond .eq 74, 3) := by decide +kernel
theorem dX10_code_41 : decode cX10_code 41 = .ok (.aload_n 0, 1) := by decide +kernel
theorem dX10_code_42 : decode cX10_code 42 = .ok (.getfield 7, 3) := by decide +kernel
theorem dX10_code_45 : decode cX10_code 45 = .ok (.bipush 120, 2) := by decide +kernel
theorem dX10_code_47 : decode cX10_code 47 = .ok (.aload_n 0, 1) := by decide +kernel
theorem dX10_code_48 : decode cX10_code 48 = .ok (.getfield 91, 3) := by decide +kernel
theorem dX10_code_51 : decode cX10_code 51 = .ok (.iload_n 3, 1) := by decide +kernel
theorem dX10_code_52 : decode cX10_code 52 = .ok (.invokestatic 55, 3) := by decide +kernel
theorem dX10_code_55 : decode cX10_code 55 = .ok (.iadd, 1) := by decide +kernel
theorem dX10_code_56 : decode cX10_code 56 = .ok (.iaload, 1) := by decide +kernel
theorem dX10_code_57 : decode cX10_code 57 = .ok (.iconst 1, 1) := by decide +kernel
theorem dX10_code_58 : decode cX10_code 58 = .ok (.if_icmp .ne 7, 3) := by decide +kernel
theorem dX10_code_61 : decode cX10_code 61 = .ok (.iconst 1, 1) := by decide +kernel
theorem dX10_code_62 : decode cX10_code 62 = .ok (.goto 4, 3) := by decide +kernel
theorem dX10_code_65 : decode cX10_code 65 = .ok (.iconst 0, 1) := by decide +kernel
theorem dX10_code_66 : decode cX10_code 66 = .ok (.istore_n 1, 1) := by decide +kernel
theorem dX10_code_67 : decode cX10_code 67 = .ok (.iload_n 2, 1) := by decide +kernel
theorem dX10_code_68 : decode cX10_code 68 = .ok (.ifCond .ne 32, 3) := by decide +kernel
theorem dX10_code_71 : decode cX10_code 71 = .ok (.aload_n 0, 1) := by decide +kernel
theorem dX10_code_72 : decode cX10_code 72 = .ok (.getfield 19, 3) := by decide +kernel
theorem dX10_code_75 : decode cX10_code 75 = .ok (.iload_n 3, 1) := by decide +kernel
theorem dX10_code_76 : decode cX10_code 76 = .ok (.aload_n 0, 1) := by decide +kernel
theorem dX10_code_77 : decode cX10_code 77 = .ok (.getfield 108, 3) := by decide +kernel
theorem dX10_code_80 : decode cX10_code 80 = .ok (.isub, 1) := by decide +kernel
theorem dX10_code_81 : decode cX10_code 81 = .ok (.iaload, 1) := by decide +kernel
theorem dX10_code_82 : decode cX10_code 82 = .ok (.aload_n 0, 1) := by decide +kernel
theorem dX10_code_83 : decode cX10_code 83 = .ok (.getfield 7, 3) := by decide +kernel
theorem dX10_code_86 : decode cX10_code 86 = .ok (.sipush 220, 3) := by decide +kernel
theorem dX10_code_89 : decode cX10_code 89 = .ok (.aload_n 0, 1) := by decide +kernel
theorem dX10_code_90 : decode cX10_code 90 = .ok (.getfield 91, 3) := by decide +kernel
theorem dX10_code_93 : decode cX10_code 93 = .ok (.iadd, 1) := by decide +kernel
theorem dX10_code_94 : decode cX10_code 94 = .ok (.iconst 1, 1) := by decide +kernel
theorem dX10_code_95 : decode cX10_code 95 = .ok (.isub, 1) := by decide +kernel
theorem dX10_code_96 : decode cX10_code 96 = .ok (.iaload, 1) := by decide +kernel
theorem dX10_code_97 : decode cX10_code 97 = .ok (.if_icmp .le 7, 3) := by decide +kernel
theorem dX10_code_100 : decode cX10_code 100 = .ok (.iconst 1, 1) := by decide +kernel
theorem dX10_code_101 : decode cX10_code 101 = .ok (.goto 4, 3) := by decide +kernel
theorem dX10_code_104 : decode cX10_code 104 = .ok (.iconst 0, 1) := by decide +kernel
theorem dX10_code_105 : decode cX10_code 105 = .ok (.istore_n 2, 1) := by decide +kernel
theorem dX10_code_106 : decode cX10_code 106 = .ok (.iinc 3 1, 3) := by decide +kernel
theorem dX10_code_109 : decode cX10_code 109 = .ok (.goto (-87), 3) := by decide +kernel
theorem dX10_code_112 : decode cX10_code 112 = .ok (.iload_n 1, 1) := by decide +kernel
theorem dX10_code_113 : decode cX10_code 113 = .ok (.ifCond .eq 7, 3) := by decide +kernel
theorem dX10_code_116 : decode cX10_code 116 = .ok (.iconst 2, 1) := by decide +kernel
theorem dX10_code_117 : decode cX10_code 117 = .ok (.goto 12, 3) := by decide +kernel
theorem dX10_code_120 : decode cX10_code 120 = .ok (.iload_n 2, 1) := by decide +kernel
theorem dX10_code_121 : decode cX10_code 121 = .ok (.ifCond .eq 7, 3) := by decide +kernel
theorem dX10_code_124 : decode cX10_code 124 = .ok (.iconst 3, 1) := by decide +kernel
theorem dX10_code_125 : decode cX10_code 125 = .ok (.goto 4, 3) := by decide +kernel
theorem dX10_code_128 : decode cX10_code 128 = .ok (.iconst 0, 1) := by decide +kernel
theorem dX10_code_129 : decode cX10_code 129 = .ok (.ireturn, 1) := by decide +kernel
theorem dX10_repliesWith_0 : decode cX10_repliesWith 0 = .ok (.aload_n 0, 1) := by decide +kernel
theorem dX10_repliesWith_1 : decode cX10_repliesWith 1 = .ok (.iconst 0, 1) := by decide +kernel
theorem dX10_repliesWith_2 : decode cX10_repliesWith 2 = .ok (.putfield 118, 3) := by decide +kernel
theorem dX10_repliesWith_5 : decode cX10_repliesWith 5 = .ok (.aload_n 0, 1) := by decide +kernel
theorem dX10_repliesWith_6 : decode cX10_repliesWith 6 = .ok (.aload_n 0, 1) := by decide +kernel
theorem dX10_repliesWith_7 : decode cX10_repliesWith 7 = .ok (.getfield 91, 3) := by decide +kernel
theorem dX10_repliesWith_10 : decode cX10_repliesWith 10 = .ok (.invokevirtual 121, 3) := by decide +kernel
theorem dX10_repliesWith_13 : decode cX10_repliesWith 13 = .ok (.iload_n 1, 1) := by decide +kernel
theorem dX10_repliesWith_14 : decode cX10_repliesWith 14 = .ok (.ifCond .le 25, 3) := by decide +kernel
theorem dX10_repliesWith_17 : decode cX10_repliesWith 17 = .ok (.aload_n 0, 1) := by decide +kernel
theorem dX10_repliesWith_18 : decode cX10_repliesWith 18 = .ok (.aload_n 0, 1) := by decide +kernel
theorem dX10_repliesWith_19 : decode cX10_repliesWith 19 = .ok (.invokevirtual 128, 3) := by decide +kernel
theorem dX10_repliesWith_22 : decode cX10_repliesWith 22 = .ok (.sipush 128, 3) := by decide +kernel
theorem dX10_repliesWith_25 : decode cX10_repliesWith 25 = .ok (.iadd, 1) := by decide +kernel
theorem dX10_repliesWith_26 : decode cX10_repliesWith 26 = .ok (.invokevirtual 121, 3) := by decide +kernel
theorem dX10_repliesWith_29 : decode cX10_repliesWith 29 = .ok (.aload_n 0, 1) := by decide +kernel
theorem dX10_repliesWith_30 : decode cX10_repliesWith 30 = .ok (.iload_n 1, 1) := by decide +kernel
theorem dX10_repliesWith_31 : decode cX10_repliesWith 31 = .ok (.invokevirtual 121, 3) := by decide +kernel
theorem dX10_repliesWith_34 : decode cX10_repliesWith 34 = .ok (.aload_n 0, 1) := by decide +kernel
theorem dX10_repliesWith_35 : decode cX10_repliesWith 35 = .ok (.invokevirtual 135, 3) := by decide +kernel
theorem dX10_repliesWith_38 : decode cX10_repliesWith 38 = .ok (.return_, 1) := by decide +kernel
theorem dX10_repliesWith_39 : decode cX10_repliesWith 39 = .ok (.aload_n 0, 1) := by decide +kernel
theorem dX10_repliesWith_40 : decode cX10_repliesWith 40 = .ok (.aload_n 0, 1) := by decide +kernel
theorem dX10_repliesWith_41 : decode cX10_repliesWith 41 = .ok (.invokevirtual 128, 3) := by decide +kernel
theorem dX10_repliesWith_44 : decode cX10_repliesWith 44 = .ok (.invokevirtual 121, 3) := by decide +kernel
theorem dX10_repliesWith_47 : decode cX10_repliesWith 47 = .ok (.aload_n 0, 1) := by decide +kernel
theorem dX10_repliesWith_48 : decode cX10_repliesWith 48 = .ok (.getfield 101, 3) := by decide +kernel
theorem dX10_repliesWith_51 : decode cX10_repliesWith 51 = .ok (.ifCond .ne 60, 3) := by decide +kernel
theorem dX10_repliesWith_54 : decode cX10_repliesWith 54 = .ok (.aload_n 0, 1) := by decide +kernel
theorem dX10_repliesWith_55 : decode cX10_repliesWith 55 = .ok (.iconst 2, 1) := by decide +kernel
theorem dX10_repliesWith_56 : decode cX10_repliesWith 56 = .ok (.aload_n 0, 1) := by decide +kernel
theorem dX10_repliesWith_57 : decode cX10_repliesWith 57 = .ok (.getfield 111, 3) := by decide +kernel
theorem dX10_repliesWith_60 : decode cX10_repliesWith 60 = .ok (.aload_n 0, 1) := by decide +kernel
theorem dX10_repliesWith_61 : decode cX10_repliesWith 61 = .ok (.getfield 108, 3) := by decide +kernel
theorem dX10_repliesWith_64 : decode cX10_repliesWith 64 = .ok (.isub, 1) := by decide +kernel
theorem dX10_repliesWith_65 : decode cX10_repliesWith 65 = .ok (.imul, 1) := by decide +kernel
theorem dX10_repliesWith_66 : decode cX10_repliesWith 66 = .ok (.invokevirtual 121, 3) := by decide +kernel
theorem dX10_repliesWith_69 : decode cX10_repliesWith 69 = .ok (.aload_n 0, 1) := by decide +kernel
theorem dX10_repliesWith_70 : decode cX10_repliesWith 70 = .ok (.getfield 108, 3) := by decide +kernel
theorem dX10_repliesWith_73 : decode cX10_repliesWith 73 = .ok (.istore_n 2, 1) := by decide +kernel
theorem dX10_repliesWith_74 : decode cX10_repliesWith 74 = .ok (.iload_n 2, 1) := by decide +kernel
theorem dX10_repliesWith_75 : decode cX10_repliesWith 75 = .ok (.aload_n 0, 1) := by decide +kernel
theorem dX10_repliesWith_76 : decode cX10_repliesWith 76 = .ok (.getfield 111, 3) := by decide +kernel
theorem dX10_repliesWith_79 : decode cX10_repliesWith 79 = .ok (.if_icmp .ge 29, 3) := by decide +kernel
theorem dX10_repliesWith_82 : decode cX10_repliesWith 82 = .ok (.aload_n 0, 1) := by decide +kernel
theorem dX10_repliesWith_83 : decode cX10_repliesWith 83 = .ok (.aload_n 0, 1) := by decide +kernel
theorem dX10_repliesWith_84 : decode cX10_repliesWith 84 = .ok (.getfield 7, 3) := by decide +kernel
theorem dX10_repliesWith_87 : decode cX10_repliesWith 87 = .ok (.bipush 20, 2) := by decide +kernel
theorem dX10_repliesWith_89 : decode cX10_repliesWith 89 = .ok (.aload_n 0, 1) := by decide +kernel
theorem dX10_repliesWith_90 : decode cX10_repliesWith 90 = .ok (.getfield 91, 3) := by decide +kernel
theorem dX10_repliesWith_93 : decode cX10_repliesWith 93 = .ok (.iload_n 2, 1) := by decide +kernel
theorem dX10_repliesWith_94 : decode cX10_repliesWith 94 = .ok (.invokestatic 55, 3) := by decide +kernel
theorem dX10_repliesWith_97 : decode cX10_repliesWith 97 = .ok (.iadd, 1) := by decide +kernel
theorem dX10_repliesWith_98 : decode cX10_repliesWith 98 = .ok (.iaload, 1) := by decide +kernel
theorem dX10_repliesWith_99 : decode cX10_repliesWith 99 = .ok (.invokevirtual 132, 3) := by decide +kernel
theorem dX10_repliesWith_102 : decode cX10_repliesWith 102 = .ok (.iinc 2 1, 3) := by decide +kernel
theorem dX10_repliesWith_105 : decode cX10_repliesWith 105 = .ok (.goto (-31), 3) := by decide +kernel
theorem dX10_repliesWith_108 : decode cX10_repliesWith 108 = .ok (.goto 42, 3) := by decide +kernel
theorem dX10_repliesWith_111 : decode cX10_repliesWith 111 = .ok (.aload_n 0, 1) := by decide +kernel
theorem dX10_repliesWith_112 : decode cX10_repliesWith 112 = .ok (.aload_n 0, 1) := by decide +kernel
theorem dX10_repliesWith_113 : decode cX10_repliesWith 113 = .ok (.getfield 108, 3) := by decide +kernel
theorem dX10_repliesWith_116 : decode cX10_repliesWith 116 = .ok (.invokevirtual 132, 3) := by decide +kernel
theorem dX10_repliesWith_119 : decode cX10_repliesWith 119 = .ok (.aload_n 0, 1) := by decide +kernel
theorem dX10_repliesWith_120 : decode cX10_repliesWith 120 = .ok (.aload_n 0, 1) := by decide +kernel
theorem dX10_repliesWith_121 : decode cX10_repliesWith 121 = .ok (.invokevirtual 128, 3) := by decide +kernel
theorem dX10_repliesWith_124 : decode cX10_repliesWith 124 = .ok (.bipush 6, 2) := by decide +kernel
theorem dX10_repliesWith_126 : decode cX10_repliesWith 126 = .ok (.if_icmp .ne 12, 3) := by decide +kernel
theorem dX10_repliesWith_129 : decode cX10_repliesWith 129 = .ok (.aload_n 0, 1) := by decide +kernel
theorem dX10_repliesWith_130 : decode cX10_repliesWith 130 = .ok (.getfield 19, 3) := by decide +kernel
theorem dX10_repliesWith_133 : decode cX10_repliesWith 133 = .ok (.iconst 0, 1) := by decide +kernel
theorem dX10_repliesWith_134 : decode cX10_repliesWith 134 = .ok (.iaload, 1) := by decide +kernel
theorem dX10_repliesWith_135 : decode cX10_repliesWith 135 = .ok (.goto 12, 3) := by decide +kernel
theorem dX10_repliesWith_138 : decode cX10_repliesWith 138 = .ok (.aload_n 0, 1) := by decide +kernel
theorem dX10_repliesWith_139 : decode cX10_repliesWith 139 = .ok (.getfield 111, 3) := by decide +kernel
theorem dX10_repliesWith_142 : decode cX10_repliesWith 142 = .ok (.aload_n 0, 1) := by decide +kernel
theorem dX10_repliesWith_143 : decode cX10_repliesWith 143 = .ok (.getfield 108, 3) := by decide +kernel
theorem dX10_repliesWith_146 : decode cX10_repliesWith 146 = .ok (.isub, 1) := by decide +kernel
theorem dX10_repliesWith_147 : decode cX10_repliesWith 147 = .ok (.invokevirtual 132, 3) := by decide +kernel
theorem dX10_repliesWith_150 : decode cX10_repliesWith 150 = .ok (.aload_n 0, 1) := by decide +kernel
theorem dX10_repliesWith_151 : decode cX10_repliesWith 151 = .ok (.invokevirtual 135, 3) := by decide +kernel
theorem dX10_repliesWith_154 : decode cX10_repliesWith 154 = .ok (.return_, 1) := by decide +kernel
theorem dX10_does_0 : decode cX10_does 0 = .ok (.aload_n 0, 1) := by decide +kernel
theorem dX10_does_1 : decode cX10_does 1 = .ok (.getfield 108, 3) := by decide +kernel
theorem dX10_does_4 : decode cX10_does 4 = .ok (.istore_n 1, 1) := by decide +kernel
theorem dX10_does_5 : decode cX10_does 5 = .ok (.iload_n 1, 1) := by decide +kernel
theorem dX10_does_6 : decode cX10_does 6 = .ok (.aload_n 0, 1) := by decide +kernel
theorem dX10_does_7 : decode cX10_does 7 = .ok (.getfield 111, 3) := by decide +kernel
theorem dX10_does_10 : decode cX10_does 10 = .ok (.if_icmp .ge 43, 3) := by decide +kernel
theorem dX10_does_13 : decode cX10_does 13 = .ok (.aload_n 0, 1) := by decide +kernel
theorem dX10_does_14 : decode cX10_does 14 = .ok (.getfield 101, 3) := by decide +kernel
theorem dX10_does_17 : decode cX10_does 17 = .ok (.ifCond .eq 36, 3) := by decide +kernel
theorem dX10_does_20 : decode cX10_does 20 = .ok (.aload_n 0, 1) := by decide +kernel
theorem dX10_does_21 : decode cX10_does 21 = .ok (.getfield 7, 3) := by decide +kernel
theorem dX10_does_24 : decode cX10_does 24 = .ok (.bipush 20, 2) := by decide +kernel
theorem dX10_does_26 : decode cX10_does 26 = .ok (.aload_n 0, 1) := by decide +kernel
theorem dX10_does_27 : decode cX10_does 27 = .ok (.getfield 91, 3) := by decide +kernel
theorem dX10_does_30 : decode cX10_does 30 = .ok (.iload_n 1, 1) := by decide +kernel
theorem dX10_does_31 : decode cX10_does 31 = .ok (.invokestatic 55, 3) := by decide +kernel
theorem dX10_does_34 : decode cX10_does 34 = .ok (.iadd, 1) := by decide +kernel
theorem dX10_does_35 : decode cX10_does 35 = .ok (.aload_n 0, 1) := by decide +kernel
theorem dX10_does_36 : decode cX10_does 36 = .ok (.getfield 19, 3) := by decide +kernel
theorem dX10_does_39 : decode cX10_does 39 = .ok (.iload_n 1, 1) := by decide +kernel
theorem dX10_does_40 : decode cX10_does 40 = .ok (.aload_n 0, 1) := by decide +kernel
theorem dX10_does_41 : decode cX10_does 41 = .ok (.getfield 108, 3) := by decide +kernel
theorem dX10_does_44 : decode cX10_does 44 = .ok (.isub, 1) := by decide +kernel
theorem dX10_does_45 : decode cX10_does 45 = .ok (.iaload, 1) := by decide +kernel
theorem dX10_does_46 : decode cX10_does 46 = .ok (.iastore, 1) := by decide +kernel
theorem dX10_does_47 : decode cX10_does 47 = .ok (.iinc 1 1, 3) := by decide +kernel
theorem dX10_does_50 : decode cX10_does 50 = .ok (.goto (-45), 3) := by decide +kernel
theorem dX10_does_53 : decode cX10_does 53 = .ok (.return_, 1) := by decide +kernel
theorem dX10_gets_0 : decode cX10_gets 0 = .ok (.aload_n 0, 1) := by decide +kernel
theorem dX10_gets_1 : decode cX10_gets 1 = .ok (.getfield 91, 3) := by decide +kernel
theorem dX10_gets_4 : decode cX10_gets 4 = .ok (.invokestatic 58, 3) := by decide +kernel
theorem dX10_gets_7 : decode cX10_gets 7 = .ok (.istore_n 1, 1) := by decide +kernel
theorem dX10_gets_8 : decode cX10_gets 8 = .ok (.aload_n 0, 1) := by decide +kernel
theorem dX10_gets_9 : decode cX10_gets 9 = .ok (.getfield 7, 3) := by decide +kernel
theorem dX10_gets_12 : decode cX10_gets 12 = .ok (.iload_n 1, 1) := by decide +kernel
theorem dX10_gets_13 : decode cX10_gets 13 = .ok (.iaload, 1) := by decide +kernel
theorem dX10_gets_14 : decode cX10_gets 14 = .ok (.ifCond .le 14, 3) := by decide +kernel
theorem dX10_gets_17 : decode cX10_gets 17 = .ok (.aload_n 0, 1) := by decide +kernel
theorem dX10_gets_18 : decode cX10_gets 18 = .ok (.getfield 7, 3) := by decide +kernel
theorem dX10_gets_21 : decode cX10_gets 21 = .ok (.iload_n 1, 1) := by decide +kernel
theorem dX10_gets_22 : decode cX10_gets 22 = .ok (.iconst 1, 1) := by decide +kernel
theorem dX10_gets_23 : decode cX10_gets 23 = .ok (.iadd, 1) := by decide +kernel
theorem dX10_gets_24 : decode cX10_gets 24 = .ok (.iaload, 1) := by decide +kernel
theorem dX10_gets_25 : decode cX10_gets 25 = .ok (.goto 4, 3) := by decide +kernel
theorem dX10_gets_28 : decode cX10_gets 28 = .ok (.iconst 0, 1) := by decide +kernel
theorem dX10_gets_29 : decode cX10_gets 29 = .ok (.istore_n 2, 1) := by decide +kernel
theorem dX10_gets_30 : decode cX10_gets 30 = .ok (.aload_n 0, 1) := by decide +kernel
theorem dX10_gets_31 : decode cX10_gets 31 = .ok (.getfield 7, 3) := by decide +kernel
theorem dX10_gets_34 : decode cX10_gets 34 = .ok (.iload_n 1, 1) := by decide +kernel
theorem dX10_gets_35 : decode cX10_gets 35 = .ok (.iaload, 1) := by decide +kernel
theorem dX10_gets_36 : decode cX10_gets 36 = .ok (.ifCond .le 14, 3) := by decide +kernel
theorem dX10_gets_39 : decode cX10_gets 39 = .ok (.aload_n 0, 1) := by decide +kernel
theorem dX10_gets_40 : decode cX10_gets 40 = .ok (.getfield 7, 3) := by decide +kernel
theorem dX10_gets_43 : decode cX10_gets 43 = .ok (.iload_n 1, 1) := by decide +kernel
theorem dX10_gets_44 : decode cX10_gets 44 = .ok (.iconst 2, 1) := by decide +kernel
theorem dX10_gets_45 : decode cX10_gets 45 = .ok (.iadd, 1) := by decide +kernel
theorem dX10_gets_46 : decode cX10_gets 46 = .ok (.iaload, 1) := by decide +kernel
theorem dX10_gets_47 : decode cX10_gets 47 = .ok (.goto 4, 3) := by decide +kernel
theorem dX10_gets_50 : decode cX10_gets 50 = .ok (.iconst 0, 1) := by decide +kernel
theorem dX10_gets_51 : decode cX10_gets 51 = .ok (.istore_n 3, 1) := by decide +kernel
theorem dX10_gets_52 : decode cX10_gets 52 = .ok (.aload_n 0, 1) := by decide +kernel
theorem dX10_gets_53 : decode cX10_gets 53 = .ok (.getfield 7, 3) := by decide +kernel
theorem dX10_gets_56 : decode cX10_gets 56 = .ok (.iload_n 1, 1) := by decide +kernel
theorem dX10_gets_57 : decode cX10_gets 57 = .ok (.iaload, 1) := by decide +kernel
theorem dX10_gets_58 : decode cX10_gets 58 = .ok (.ifCond .le 49, 3) := by decide +kernel
theorem dX10_gets_61 : decode cX10_gets 61 = .ok (.aload_n 0, 1) := by decide +kernel
theorem dX10_gets_62 : decode cX10_gets 62 = .ok (.getfield 7, 3) := by decide +kernel
theorem dX10_gets_65 : decode cX10_gets 65 = .ok (.iload_n 1, 1) := by decide +kernel
theorem dX10_gets_66 : decode cX10_gets 66 = .ok (.dup2, 1) := by decide +kernel
theorem dX10_gets_67 : decode cX10_gets 67 = .ok (.iaload, 1) := by decide +kernel
theorem dX10_gets_68 : decode cX10_gets 68 = .ok (.iconst 1, 1) := by decide +kernel
theorem dX10_gets_69 : decode cX10_gets 69 = .ok (.isub, 1) := by decide +kernel
theorem dX10_gets_70 : decode cX10_gets 70 = .ok (.iastore, 1) := by decide +kernel
theorem dX10_gets_71 : decode cX10_gets 71 = .ok (.iconst 1, 1) := by decide +kernel
theorem dX10_gets_72 : decode cX10_gets 72 = .ok (.istore 4, 2) := by decide +kernel
theorem dX10_gets_74 : decode cX10_gets 74 = .ok (.iload 4, 2) := by decide +kernel
theorem dX10_gets_76 : decode cX10_gets 76 = .ok (.bipush 10, 2) := by decide +kernel
theorem dX10_gets_78 : decode cX10_gets 78 = .ok (.if_icmp .gt 29, 3) := by decide +kernel
theorem dX10_gets_81 : decode cX10_gets 81 = .ok (.aload_n 0, 1) := by decide +kernel
theorem dX10_gets_82 : decode cX10_gets 82 = .ok (.getfield 7, 3) := by decide +kernel
theorem dX10_gets_85 : decode cX10_gets 85 = .ok (.iload_n 1, 1) := by decide +kernel
theorem dX10_gets_86 : decode cX10_gets 86 = .ok (.iload 4, 2) := by decide +kernel
theorem dX10_gets_88 : decode cX10_gets 88 = .ok (.iadd, 1) := by decide +kernel
theorem dX10_gets_89 : decode cX10_gets 89 = .ok (.aload_n 0, 1) := by decide +kernel
theorem dX10_gets_90 : decode cX10_gets 90 = .ok (.getfield 7, 3) := by decide +kernel
theorem dX10_gets_93 : decode cX10_gets 93 = .ok (.iload_n 1, 1) := by decide +kernel
theorem dX10_gets_94 : decode cX10_gets 94 = .ok (.iload 4, 2) := by decide +kernel
theorem dX10_gets_96 : decode cX10_gets 96 = .ok (.iadd, 1) := by decide +kernel
theorem dX10_gets_97 : decode cX10_gets 97 = .ok (.iconst 2, 1) := by decide +kernel
theorem dX10_gets_98 : decode cX10_gets 98 = .ok (.iadd, 1) := by decide +kernel
theorem dX10_gets_99 : decode cX10_gets 99 = .ok (.iaload, 1) := by decide +kernel
theorem dX10_gets_100 : decode cX10_gets 100 = .ok (.iastore, 1) := by decide +kernel
theorem dX10_gets_101 : decode cX10_gets 101 = .ok (.iinc 4 1, 3) := by decide +kernel
theorem dX10_gets_104 : decode cX10_gets 104 = .ok (.goto (-30), 3) := by decide +kernel
theorem dX10_gets_107 : decode cX10_gets 107 = .ok (.iload_n 2, 1) := by decide +kernel
theorem dX10_gets_108 : decode cX10_gets 108 = .ok (.iconst 4, 1) := by decide +kernel
theorem dX10_gets_109 : decode cX10_gets 109 = .ok (.if_icmp .ne 8, 3) := by decide +kernel
theorem dX10_gets_112 : decode cX10_gets 112 = .ok (.bipush 6, 2) := by decide +kernel
theorem dX10_gets_114 : decode cX10_gets 114 = .ok (.goto 7, 3) := by decide +kernel
theorem dX10_gets_117 : decode cX10_gets 117 = .ok (.aload_n 0, 1) := by decide +kernel
theorem dX10_gets_118 : decode cX10_gets 118 = .ok (.invokevirtual 138, 3) := by decide +kernel
theorem dX10_gets_121 : decode cX10_gets 121 = .ok (.istore 4, 2) := by decide +kernel
theorem dX10_gets_123 : decode cX10_gets 123 = .ok (.iload 4, 2) := by decide +kernel
theorem dX10_gets_125 : decode cX10_gets 125 = .ok (.ifCond .ne 7, 3) := by decide +kernel
theorem dX10_gets_128 : decode cX10_gets 128 = .ok (.aload_n 0, 1) := by decide +kernel
theorem dX10_gets_129 : decode cX10_gets 129 = .ok (.invokevirtual 141, 3) := by decide +kernel
theorem dX10_gets_132 : decode cX10_gets 132 = .ok (.aload_n 0, 1) := by decide +kernel
theorem dX10_gets_133 : decode cX10_gets 133 = .ok (.iload 4, 2) := by decide +kernel
theorem dX10_gets_135 : decode cX10_gets 135 = .ok (.invokevirtual 144, 3) := by decide +kernel
theorem dX10_gets_138 : decode cX10_gets 138 = .ok (.iload_n 2, 1) := by decide +kernel
theorem dX10_gets_139 : decode cX10_gets 139 = .ok (.iconst 2, 1) := by decide +kernel
theorem dX10_gets_140 : decode cX10_gets 140 = .ok (.if_icmp .ne 18, 3) := by decide +kernel
theorem dX10_gets_143 : decode cX10_gets 143 = .ok (.aload_n 0, 1) := by decide +kernel
theorem dX10_gets_144 : decode cX10_gets 144 = .ok (.getfield 16, 3) := by decide +kernel
theorem dX10_gets_147 : decode cX10_gets 147 = .ok (.iload_n 3, 1) := by decide +kernel
theorem dX10_gets_148 : decode cX10_gets 148 = .ok (.aload_n 0, 1) := by decide +kernel
theorem dX10_gets_149 : decode cX10_gets 149 = .ok (.getfield 118, 3) := by decide +kernel
theorem dX10_gets_152 : decode cX10_gets 152 = .ok (.irem, 1) := by decide +kernel
theorem dX10_gets_153 : decode cX10_gets 153 = .ok (.dup2, 1) := by decide +kernel
theorem dX10_gets_154 : decode cX10_gets 154 = .ok (.iaload, 1) := by decide +kernel
theorem dX10_gets_155 : decode cX10_gets 155 = .ok (.iconst 1, 1) := by decide +kernel
theorem dX10_gets_156 : decode cX10_gets 156 = .ok (.ixor, 1) := by decide +kernel
theorem dX10_gets_157 : decode cX10_gets 157 = .ok (.iastore, 1) := by decide +kernel
theorem dX10_gets_158 : decode cX10_gets 158 = .ok (.iload_n 2, 1) := by decide +kernel
theorem dX10_gets_159 : decode cX10_gets 159 = .ok (.iconst 1, 1) := by decide +kernel
theorem dX10_gets_160 : decode cX10_gets 160 = .ok (.if_icmp .eq 136, 3) := by decide +kernel
theorem dX10_gets_163 : decode cX10_gets 163 = .ok (.sipush 1700, 3) := by decide +kernel
theorem dX10_gets_166 : decode cX10_gets 166 = .ok (.bipush 42, 2) := by decide +kernel
theorem dX10_gets_168 : decode cX10_gets 168 = .ok (.aload_n 0, 1) := by decide +kernel
theorem dX10_gets_169 : decode cX10_gets 169 = .ok (.getfield 7, 3) := by decide +kernel
theorem dX10_gets_172 : decode cX10_gets 172 = .ok (.bipush 9, 2) := by decide +kernel
theorem dX10_gets_174 : decode cX10_gets 174 = .ok (.iaload, 1) := by decide +kernel
theorem dX10_gets_175 : decode cX10_gets 175 = .ok (.imul, 1) := by decide +kernel
theorem dX10_gets_176 : decode cX10_gets 176 = .ok (.iadd, 1) := by decide +kernel
theorem dX10_gets_177 : decode cX10_gets 177 = .ok (.istore 5, 2) := by decide +kernel
theorem dX10_gets_179 : decode cX10_gets 179 = .ok (.aload_n 0, 1) := by decide +kernel
theorem dX10_gets_180 : decode cX10_gets 180 = .ok (.getfield 7, 3) := by decide +kernel
theorem dX10_gets_183 : decode cX10_gets 183 = .ok (.iload 5, 2) := by decide +kernel
theorem dX10_gets_185 : decode cX10_gets 185 = .ok (.aload_n 0, 1) := by decide +kernel
theorem dX10_gets_186 : decode cX10_gets 186 = .ok (.getfield 7, 3) := by decide +kernel
theorem dX10_gets_189 : decode cX10_gets 189 = .ok (.iconst 0, 1) := by decide +kernel
theorem dX10_gets_190 : decode cX10_gets 190 = .ok (.iaload, 1) := by decide +kernel
theorem dX10_gets_191 : decode cX10_gets 191 = .ok (.aload_n 0, 1) := by decide +kernel
theorem dX10_gets_192 : decode cX10_gets 192 = .ok (.getfield 7, 3) := by decide +kernel
theorem dX10_gets_195 : decode cX10_gets 195 = .ok (.sipush 224, 3) := by decide +kernel
theorem dX10_gets_198 : decode cX10_gets 198 = .ok (.aload_n 0, 1) := by decide +kernel
theorem dX10_gets_199 : decode cX10_gets 199 = .ok (.getfield 91, 3) := by decide +kernel
theorem dX10_gets_202 : decode cX10_gets 202 = .ok (.iadd, 1) := by decide +kernel
theorem dX10_gets_203 : decode cX10_gets 203 = .ok (.iconst 1, 1) := by decide +kernel
theorem dX10_gets_204 : decode cX10_gets 204 = .ok (.isub, 1) := by decide +kernel
theorem dX10_gets_205 : decode cX10_gets 205 = .ok (.iaload, 1) := by decide +kernel
theorem dX10_gets_206 : decode cX10_gets 206 = .ok (.iadd, 1) := by decide +kernel
theorem dX10_gets_207 : decode cX10_gets 207 = .ok (.iload_n 2, 1) := by decide +kernel
theorem dX10_gets_208 : decode cX10_gets 208 = .ok (.iconst 3, 1) := by decide +kernel
theorem dX10_gets_209 : decode cX10_gets 209 = .ok (.if_icmp .ne 7, 3) := by decide +kernel
theorem dX10_gets_212 : decode cX10_gets 212 = .ok (.iload_n 3, 1) := by decide +kernel
theorem dX10_gets_213 : decode cX10_gets 213 = .ok (.goto 4, 3) := by decide +kernel
theorem dX10_gets_216 : decode cX10_gets 216 = .ok (.iconst 0, 1) := by decide +kernel
theorem dX10_gets_217 : decode cX10_gets 217 = .ok (.iadd, 1) := by decide +kernel
theorem dX10_gets_218 : decode cX10_gets 218 = .ok (.iastore, 1) := by decide +kernel
theorem dX10_gets_219 : decode cX10_gets 219 = .ok (.aload_n 0, 1) := by decide +kernel
theorem dX10_gets_220 : decode cX10_gets 220 = .ok (.getfield 7, 3) := by decide +kernel
theorem dX10_gets_223 : decode cX10_gets 223 = .ok (.iload 5, 2) := by decide +kernel
theorem dX10_gets_225 : decode cX10_gets 225 = .ok (.iconst 1, 1) := by decide +kernel
theorem dX10_gets_226 : decode cX10_gets 226 = .ok (.iadd, 1) := by decide +kernel
theorem dX10_gets_227 : decode cX10_gets 227 = .ok (.aload_n 0, 1) := by decide +kernel
theorem dX10_gets_228 : decode cX10_gets 228 = .ok (.getfield 118, 3) := by decide +kernel
theorem dX10_gets_231 : decode cX10_gets 231 = .ok (.iastore, 1) := by decide +kernel
theorem dX10_gets_232 : decode cX10_gets 232 = .ok (.aload_n 0, 1) := by decide +kernel
theorem dX10_gets_233 : decode cX10_gets 233 = .ok (.getfield 7, 3) := by decide +kernel
theorem dX10_gets_236 : decode cX10_gets 236 = .ok (.iload 5, 2) := by decide +kernel
theorem dX10_gets_238 : decode cX10_gets 238 = .ok (.iconst 2, 1) := by decide +kernel
theorem dX10_gets_239 : decode cX10_gets 239 = .ok (.iadd, 1) := by decide +kernel
theorem dX10_gets_240 : decode cX10_gets 240 = .ok (.aload_n 0, 1) := by decide +kernel
theorem dX10_gets_241 : decode cX10_gets 241 = .ok (.getfield 7, 3) := by decide +kernel
theorem dX10_gets_244 : decode cX10_gets 244 = .ok (.bipush 7, 2) := by decide +kernel
theorem dX10_gets_246 : decode cX10_gets 246 = .ok (.iaload, 1) := by decide +kernel
theorem dX10_gets_247 : decode cX10_gets 247 = .ok (.iastore, 1) := by decide +kernel
theorem dX10_gets_248 : decode cX10_gets 248 = .ok (.iconst 0, 1) := by decide +kernel
theorem dX10_gets_249 : decode cX10_gets 249 = .ok (.istore 6, 2) := by decide +kernel
theorem dX10_gets_251 : decode cX10_gets 251 = .ok (.iload 6, 2) := by decide +kernel
theorem dX10_gets_253 : decode cX10_gets 253 = .ok (.aload_n 0, 1) := by decide +kernel
theorem dX10_gets_254 : decode cX10_gets 254 = .ok (.getfield 118, 3) := by decide +kernel
theorem dX10_gets_257 : decode cX10_gets 257 = .ok (.if_icmp .ge 28, 3) := by decide +kernel
theorem dX10_gets_260 : decode cX10_gets 260 = .ok (.aload_n 0, 1) := by decide +kernel
theorem dX10_gets_261 : decode cX10_gets 261 = .ok (.getfield 7, 3) := by decide +kernel
theorem dX10_gets_264 : decode cX10_gets 264 = .ok (.iload 5, 2) := by decide +kernel
theorem dX10_gets_266 : decode cX10_gets 266 = .ok (.iconst 3, 1) := by decide +kernel
theorem dX10_gets_267 : decode cX10_gets 267 = .ok (.iadd, 1) := by decide +kernel
theorem dX10_gets_268 : decode cX10_gets 268 = .ok (.iload 6, 2) := by decide +kernel
theorem dX10_gets_270 : decode cX10_gets 270 = .ok (.iadd, 1) := by decide +kernel
theorem dX10_gets_271 : decode cX10_gets 271 = .ok (.aload_n 0, 1) := by decide +kernel
theorem dX10_gets_272 : decode cX10_gets 272 = .ok (.getfield 16, 3) := by decide +kernel
theorem dX10_gets_275 : decode cX10_gets 275 = .ok (.iload 6, 2) := by decide +kernel
theorem dX10_gets_277 : decode cX10_gets 277 = .ok (.iaload, 1) := by decide +kernel
theorem dX10_gets_278 : decode cX10_gets 278 = .ok (.iastore, 1) := by decide +kernel
theorem dX10_gets_279 : decode cX10_gets 279 = .ok (.iinc 6 1, 3) := by decide +kernel
theorem dX10_gets_282 : decode cX10_gets 282 = .ok (.goto (-31), 3) := by decide +kernel
theorem dX10_gets_285 : decode cX10_gets 285 = .ok (.aload_n 0, 1) := by decide +kernel
theorem dX10_gets_286 : decode cX10_gets 286 = .ok (.getfield 7, 3) := by decide +kernel
theorem dX10_gets_289 : decode cX10_gets 289 = .ok (.bipush 9, 2) := by decide +kernel
theorem dX10_gets_291 : decode cX10_gets 291 = .ok (.dup2, 1) := by decide +kernel
theorem dX10_gets_292 : decode cX10_gets 292 = .ok (.iaload, 1) := by decide +kernel
theorem dX10_gets_293 : decode cX10_gets 293 = .ok (.iconst 1, 1) := by decide +kernel
theorem dX10_gets_294 : decode cX10_gets 294 = .ok (.iadd, 1) := by decide +kernel
theorem dX10_gets_295 : decode cX10_gets 295 = .ok (.iastore, 1) := by decide +kernel
theorem dX10_gets_296 : decode cX10_gets 296 = .ok (.return_, 1) := by decide +kernel
theorem dX10_goes_0 : decode cX10_goes 0 = .ok (.aload_n 0, 1) := by decide +kernel
theorem dX10_goes_1 : decode cX10_goes 1 = .ok (.getfield 7, 3) := by decide +kernel
theorem dX10_goes_4 : decode cX10_goes 4 = .ok (.bipush 9, 2) := by decide +kernel
theorem dX10_goes_6 : decode cX10_goes 6 = .ok (.dup2, 1) := by decide +kernel
theorem dX10_goes_7 : decode cX10_goes 7 = .ok (.iaload, 1) := by decide +kernel
theorem dX10_goes_8 : decode cX10_goes 8 = .ok (.iconst 1, 1) := by decide +kernel
theorem dX10_goes_9 : decode cX10_goes 9 = .ok (.isub, 1) := by decide +kernel
theorem dX10_goes_10 : decode cX10_goes 10 = .ok (.iastore, 1) := by decide +kernel
theorem dX10_goes_11 : decode cX10_goes 11 = .ok (.sipush 1700, 3) := by decide +kernel
theorem dX10_goes_14 : decode cX10_goes 14 = .ok (.bipush 42, 2) := by decide +kernel
theorem dX10_goes_16 : decode cX10_goes 16 = .ok (.iload_n 1, 1) := by decide +kernel
theorem dX10_goes_17 : decode cX10_goes 17 = .ok (.imul, 1) := by decide +kernel
theorem dX10_goes_18 : decode cX10_goes 18 = .ok (.iadd, 1) := by decide +kernel
theorem dX10_goes_19 : decode cX10_goes 19 = .ok (.istore_n 2, 1) := by decide +kernel
theorem dX10_goes_20 : decode cX10_goes 20 = .ok (.iload_n 2, 1) := by decide +kernel
theorem dX10_goes_21 : decode cX10_goes 21 = .ok (.sipush 1700, 3) := by decide +kernel
theorem dX10_goes_24 : decode cX10_goes 24 = .ok (.bipush 42, 2) := by decide +kernel
theorem dX10_goes_26 : decode cX10_goes 26 = .ok (.aload_n 0, 1) := by decide +kernel
theorem dX10_goes_27 : decode cX10_goes 27 = .ok (.getfield 7, 3) := by decide +kernel
theorem dX10_goes_30 : decode cX10_goes 30 = .ok (.bipush 9, 2) := by decide +kernel
theorem dX10_goes_32 : decode cX10_goes 32 = .ok (.iaload, 1) := by decide +kernel
theorem dX10_goes_33 : decode cX10_goes 33 = .ok (.imul, 1) := by decide +kernel
theorem dX10_goes_34 : decode cX10_goes 34 = .ok (.iadd, 1) := by decide +kernel
theorem dX10_goes_35 : decode cX10_goes 35 = .ok (.if_icmp .ge 24, 3) := by decide +kernel
theorem dX10_goes_38 : decode cX10_goes 38 = .ok (.aload_n 0, 1) := by decide +kernel
theorem dX10_goes_39 : decode cX10_goes 39 = .ok (.getfield 7, 3) := by decide +kernel
theorem dX10_goes_42 : decode cX10_goes 42 = .ok (.iload_n 2, 1) := by decide +kernel
theorem dX10_goes_43 : decode cX10_goes 43 = .ok (.aload_n 0, 1) := by decide +kernel
theorem dX10_goes_44 : decode cX10_goes 44 = .ok (.getfield 7, 3) := by decide +kernel
theorem dX10_goes_47 : decode cX10_goes 47 = .ok (.iload_n 2, 1) := by decide +kernel
theorem dX10_goes_48 : decode cX10_goes 48 = .ok (.bipush 42, 2) := by decide +kernel
theorem dX10_goes_50 : decode cX10_goes 50 = .ok (.iadd, 1) := by decide +kernel
theorem dX10_goes_51 : decode cX10_goes 51 = .ok (.iaload, 1) := by decide +kernel
theorem dX10_goes_52 : decode cX10_goes 52 = .ok (.iastore, 1) := by decide +kernel
theorem dX10_goes_53 : decode cX10_goes 53 = .ok (.iinc 2 1, 3) := by decide +kernel
theorem dX10_goes_56 : decode cX10_goes 56 = .ok (.goto (-36), 3) := by decide +kernel
theorem dX10_goes_59 : decode cX10_goes 59 = .ok (.return_, 1) := by decide +kernel
theorem dX10_earliest_0 : decode cX10_earliest 0 = .ok (.iconst (-1), 1) := by decide +kernel
theorem dX10_earliest_1 : decode cX10_earliest 1 = .ok (.istore_n 3, 1) := by decide +kernel
theorem dX10_earliest_2 : decode cX10_earliest 2 = .ok (.iconst 0, 1) := by decide +kernel
theorem dX10_earliest_3 : decode cX10_earliest 3 = .ok (.istore 4, 2) := by decide +kernel
theorem dX10_earliest_5 : decode cX10_earliest 5 = .ok (.iload 4, 2) := by decide +kernel
theorem dX10_earliest_7 : decode cX10_earliest 7 = .ok (.aload_n 0, 1) := by decide +kernel
theorem dX10_earliest_8 : decode cX10_earliest 8 = .ok (.getfield 7, 3) := by decide +kernel
theorem dX10_earliest_11 : decode cX10_earliest 11 = .ok (.bipush 9, 2) := by decide +kernel
theorem dX10_earliest_13 : decode cX10_earliest 13 = .ok (.iaload, 1) := by decide +kernel
theorem dX10_earliest_14 : decode cX10_earliest 14 = .ok (.if_icmp .ge 64, 3) := by decide +kernel
theorem dX10_earliest_17 : decode cX10_earliest 17 = .ok (.aload_n 0, 1) := by decide +kernel
theorem dX10_earliest_18 : decode cX10_earliest 18 = .ok (.getfield 7, 3) := by decide +kernel
theorem dX10_earliest_21 : decode cX10_earliest 21 = .ok (.sipush 1700, 3) := by decide +kernel
theorem dX10_earliest_24 : decode cX10_earliest 24 = .ok (.bipush 42, 2) := by decide +kernel
theorem dX10_earliest_26 : decode cX10_earliest 26 = .ok (.iload 4, 2) := by decide +kernel
theorem dX10_earliest_28 : decode cX10_earliest 28 = .ok (.imul, 1) := by decide +kernel
theorem dX10_earliest_29 : decode cX10_earliest 29 = .ok (.iadd, 1) := by decide +kernel
theorem dX10_earliest_30 : decode cX10_earliest 30 = .ok (.iaload, 1) := by decide +kernel
theorem dX10_earliest_31 : decode cX10_earliest 31 = .ok (.istore 5, 2) := by decide +kernel
theorem dX10_earliest_33 : decode cX10_earliest 33 = .ok (.iload 5, 2) := by decide +kernel
theorem dX10_earliest_35 : decode cX10_earliest 35 = .ok (.iload_n 1, 1) := by decide +kernel
theorem dX10_earliest_36 : decode cX10_earliest 36 = .ok (.iload_n 2, 1) := by decide +kernel
theorem dX10_earliest_37 : decode cX10_earliest 37 = .ok (.invokestatic 39, 3) := by decide +kernel
theorem dX10_earliest_40 : decode cX10_earliest 40 = .ok (.ifCond .eq 30, 3) := by decide +kernel
theorem dX10_earliest_43 : decode cX10_earliest 43 = .ok (.iload_n 3, 1) := by decide +kernel
theorem dX10_earliest_44 : decode cX10_earliest 44 = .ok (.ifCond .lt 21, 3) := by decide +kernel
theorem dX10_earliest_47 : decode cX10_earliest 47 = .ok (.iload 5, 2) := by decide +kernel
theorem dX10_earliest_49 : decode cX10_earliest 49 = .ok (.aload_n 0, 1) := by decide +kernel
theorem dX10_earliest_50 : decode cX10_earliest 50 = .ok (.getfield 7, 3) := by decide +kernel
theorem dX10_earliest_53 : decode cX10_earliest 53 = .ok (.sipush 1700, 3) := by decide +kernel
theorem dX10_earliest_56 : decode cX10_earliest 56 = .ok (.bipush 42, 2) := by decide +kernel
theorem dX10_earliest_58 : decode cX10_earliest 58 = .ok (.iload_n 3, 1) := by decide +kernel
theorem dX10_earliest_59 : decode cX10_earliest 59 = .ok (.imul, 1) := by decide +kernel
theorem dX10_earliest_60 : decode cX10_earliest 60 = .ok (.iadd, 1) := by decide +kernel
theorem dX10_earliest_61 : decode cX10_earliest 61 = .ok (.iaload, 1) := by decide +kernel
theorem dX10_earliest_62 : decode cX10_earliest 62 = .ok (.if_icmp .ge 8, 3) := by decide +kernel
theorem dX10_earliest_65 : decode cX10_earliest 65 = .ok (.iload 4, 2) := by decide +kernel
theorem dX10_earliest_67 : decode cX10_earliest 67 = .ok (.goto 4, 3) := by decide +kernel
theorem dX10_earliest_70 : decode cX10_earliest 70 = .ok (.iload_n 3, 1) := by decide +kernel
theorem dX10_earliest_71 : decode cX10_earliest 71 = .ok (.istore_n 3, 1) := by decide +kernel
theorem dX10_earliest_72 : decode cX10_earliest 72 = .ok (.iinc 4 1, 3) := by decide +kernel
theorem dX10_earliest_75 : decode cX10_earliest 75 = .ok (.goto (-70), 3) := by decide +kernel
theorem dX10_earliest_78 : decode cX10_earliest 78 = .ok (.iload_n 3, 1) := by decide +kernel
theorem dX10_earliest_79 : decode cX10_earliest 79 = .ok (.ireturn, 1) := by decide +kernel
theorem dX10_fits_0 : decode cX10_fits 0 = .ok (.sipush 1700, 3) := by decide +kernel
theorem dX10_fits_3 : decode cX10_fits 3 = .ok (.bipush 42, 2) := by decide +kernel
theorem dX10_fits_5 : decode cX10_fits 5 = .ok (.iload_n 1, 1) := by decide +kernel
theorem dX10_fits_6 : decode cX10_fits 6 = .ok (.imul, 1) := by decide +kernel
theorem dX10_fits_7 : decode cX10_fits 7 = .ok (.iadd, 1) := by decide +kernel
theorem dX10_fits_8 : decode cX10_fits 8 = .ok (.iconst 3, 1) := by decide +kernel
theorem dX10_fits_9 : decode cX10_fits 9 = .ok (.iadd, 1) := by decide +kernel
theorem dX10_fits_10 : decode cX10_fits 10 = .ok (.istore_n 2, 1) := by decide +kernel
theorem dX10_fits_11 : decode cX10_fits 11 = .ok (.aload_n 0, 1) := by decide +kernel
theorem dX10_fits_12 : decode cX10_fits 12 = .ok (.getfield 7, 3) := by decide +kernel
theorem dX10_fits_15 : decode cX10_fits 15 = .ok (.iload_n 2, 1) := by decide +kernel
theorem dX10_fits_16 : decode cX10_fits 16 = .ok (.iconst 2, 1) := by decide +kernel
theorem dX10_fits_17 : decode cX10_fits 17 = .ok (.isub, 1) := by decide +kernel
theorem dX10_fits_18 : decode cX10_fits 18 = .ok (.iaload, 1) := by decide +kernel
theorem dX10_fits_19 : decode cX10_fits 19 = .ok (.istore_n 3, 1) := by decide +kernel
theorem dX10_fits_20 : decode cX10_fits 20 = .ok (.ldc 25, 2) := by decide +kernel
theorem dX10_fits_22 : decode cX10_fits 22 = .ok (.istore 4, 2) := by decide +kernel
theorem dX10_fits_24 : decode cX10_fits 24 = .ok (.iconst 0, 1) := by decide +kernel
theorem dX10_fits_25 : decode cX10_fits 25 = .ok (.istore 5, 2) := by decide +kernel
theorem dX10_fits_27 : decode cX10_fits 27 = .ok (.iload 5, 2) := by decide +kernel
theorem dX10_fits_29 : decode cX10_fits 29 = .ok (.iload_n 3, 1) := by decide +kernel
theorem dX10_fits_30 : decode cX10_fits 30 = .ok (.if_icmp .ge 25, 3) := by decide +kernel
theorem dX10_fits_33 : decode cX10_fits 33 = .ok (.iload 4, 2) := by decide +kernel
theorem dX10_fits_35 : decode cX10_fits 35 = .ok (.aload_n 0, 1) := by decide +kernel
theorem dX10_fits_36 : decode cX10_fits 36 = .ok (.getfield 7, 3) := by decide +kernel
theorem dX10_fits_39 : decode cX10_fits 39 = .ok (.iload_n 2, 1) := by decide +kernel
theorem dX10_fits_40 : decode cX10_fits 40 = .ok (.iload 5, 2) := by decide +kernel
theorem dX10_fits_42 : decode cX10_fits 42 = .ok (.iadd, 1) := by decide +kernel
theorem dX10_fits_43 : decode cX10_fits 43 = .ok (.iaload, 1) := by decide +kernel
theorem dX10_fits_44 : decode cX10_fits 44 = .ok (.invokestatic 125, 3) := by decide +kernel
theorem dX10_fits_47 : decode cX10_fits 47 = .ok (.istore 4, 2) := by decide +kernel
theorem dX10_fits_49 : decode cX10_fits 49 = .ok (.iinc 5 1, 3) := by decide +kernel
theorem dX10_fits_52 : decode cX10_fits 52 = .ok (.goto (-25), 3) := by decide +kernel
theorem dX10_fits_55 : decode cX10_fits 55 = .ok (.iload 4, 2) := by decide +kernel
theorem dX10_fits_57 : decode cX10_fits 57 = .ok (.ifCond .ne 16, 3) := by decide +kernel
theorem dX10_fits_60 : decode cX10_fits 60 = .ok (.aload_n 0, 1) := by decide +kernel
theorem dX10_fits_61 : decode cX10_fits 61 = .ok (.getfield 7, 3) := by decide +kernel
theorem dX10_fits_64 : decode cX10_fits 64 = .ok (.iload_n 2, 1) := by decide +kernel
theorem dX10_fits_65 : decode cX10_fits 65 = .ok (.iaload, 1) := by decide +kernel
theorem dX10_fits_66 : decode cX10_fits 66 = .ok (.aload_n 0, 1) := by decide +kernel
theorem dX10_fits_67 : decode cX10_fits 67 = .ok (.getfield 91, 3) := by decide +kernel
theorem dX10_fits_70 : decode cX10_fits 70 = .ok (.if_icmp .eq 5, 3) := by decide +kernel
theorem dX10_fits_73 : decode cX10_fits 73 = .ok (.iconst 0, 1) := by decide +kernel
theorem dX10_fits_74 : decode cX10_fits 74 = .ok (.ireturn, 1) := by decide +kernel
theorem dX10_fits_75 : decode cX10_fits 75 = .ok (.aload_n 0, 1) := by decide +kernel
theorem dX10_fits_76 : decode cX10_fits 76 = .ok (.getfield 7, 3) := by decide +kernel
theorem dX10_fits_79 : decode cX10_fits 79 = .ok (.iload_n 2, 1) := by decide +kernel
theorem dX10_fits_80 : decode cX10_fits 80 = .ok (.iconst 1, 1) := by decide +kernel
theorem dX10_fits_81 : decode cX10_fits 81 = .ok (.iadd, 1) := by decide +kernel
theorem dX10_fits_82 : decode cX10_fits 82 = .ok (.iaload, 1) := by decide +kernel
theorem dX10_fits_83 : decode cX10_fits 83 = .ok (.aload_n 0, 1) := by decide +kernel
theorem dX10_fits_84 : decode cX10_fits 84 = .ok (.invokevirtual 128, 3) := by decide +kernel
theorem dX10_fits_87 : decode cX10_fits 87 = .ok (.sipush 128, 3) := by decide +kernel
theorem dX10_fits_90 : decode cX10_fits 90 = .ok (.iadd, 1) := by decide +kernel
theorem dX10_fits_91 : decode cX10_fits 91 = .ok (.if_icmp .ne 5, 3) := by decide +kernel
theorem dX10_fits_94 : decode cX10_fits 94 = .ok (.iconst 1, 1) := by decide +kernel
theorem dX10_fits_95 : decode cX10_fits 95 = .ok (.ireturn, 1) := by decide +kernel
theorem dX10_fits_96 : decode cX10_fits 96 = .ok (.aload_n 0, 1) := by decide +kernel
theorem dX10_fits_97 : decode cX10_fits 97 = .ok (.getfield 7, 3) := by decide +kernel
theorem dX10_fits_100 : decode cX10_fits 100 = .ok (.iload_n 2, 1) := by decide +kernel
theorem dX10_fits_101 : decode cX10_fits 101 = .ok (.iconst 1, 1) := by decide +kernel
theorem dX10_fits_102 : decode cX10_fits 102 = .ok (.iadd, 1) := by decide +kernel
theorem dX10_fits_103 : decode cX10_fits 103 = .ok (.iaload, 1) := by decide +kernel
theorem dX10_fits_104 : decode cX10_fits 104 = .ok (.aload_n 0, 1) := by decide +kernel
theorem dX10_fits_105 : decode cX10_fits 105 = .ok (.invokevirtual 128, 3) := by decide +kernel
theorem dX10_fits_108 : decode cX10_fits 108 = .ok (.if_icmp .eq 5, 3) := by decide +kernel
theorem dX10_fits_111 : decode cX10_fits 111 = .ok (.iconst 0, 1) := by decide +kernel
theorem dX10_fits_112 : decode cX10_fits 112 = .ok (.ireturn, 1) := by decide +kernel
theorem dX10_fits_113 : decode cX10_fits 113 = .ok (.aload_n 0, 1) := by decide +kernel
theorem dX10_fits_114 : decode cX10_fits 114 = .ok (.getfield 101, 3) := by decide +kernel
theorem dX10_fits_117 : decode cX10_fits 117 = .ok (.ifCond .ne 31, 3) := by decide +kernel
theorem dX10_fits_120 : decode cX10_fits 120 = .ok (.aload_n 0, 1) := by decide +kernel
theorem dX10_fits_121 : decode cX10_fits 121 = .ok (.getfield 7, 3) := by decide +kernel
theorem dX10_fits_124 : decode cX10_fits 124 = .ok (.iload_n 2, 1) := by decide +kernel
theorem dX10_fits_125 : decode cX10_fits 125 = .ok (.iconst 2, 1) := by decide +kernel
theorem dX10_fits_126 : decode cX10_fits 126 = .ok (.iadd, 1) := by decide +kernel
theorem dX10_fits_127 : decode cX10_fits 127 = .ok (.iaload, 1) := by decide +kernel
theorem dX10_fits_128 : decode cX10_fits 128 = .ok (.iconst 2, 1) := by decide +kernel
theorem dX10_fits_129 : decode cX10_fits 129 = .ok (.aload_n 0, 1) := by decide +kernel
theorem dX10_fits_130 : decode cX10_fits 130 = .ok (.getfield 111, 3) := by decide +kernel
theorem dX10_fits_133 : decode cX10_fits 133 = .ok (.aload_n 0, 1) := by decide +kernel
theorem dX10_fits_134 : decode cX10_fits 134 = .ok (.getfield 108, 3) := by decide +kernel
theorem dX10_fits_137 : decode cX10_fits 137 = .ok (.isub, 1) := by decide +kernel
theorem dX10_fits_138 : decode cX10_fits 138 = .ok (.imul, 1) := by decide +kernel
theorem dX10_fits_139 : decode cX10_fits 139 = .ok (.if_icmp .ne 7, 3) := by decide +kernel
theorem dX10_fits_142 : decode cX10_fits 142 = .ok (.iconst 1, 1) := by decide +kernel
theorem dX10_fits_143 : decode cX10_fits 143 = .ok (.goto 4, 3) := by decide +kernel
theorem dX10_fits_146 : decode cX10_fits 146 = .ok (.iconst 0, 1) := by decide +kernel
theorem dX10_fits_147 : decode cX10_fits 147 = .ok (.ireturn, 1) := by decide +kernel
theorem dX10_fits_148 : decode cX10_fits 148 = .ok (.aload_n 0, 1) := by decide +kernel
theorem dX10_fits_149 : decode cX10_fits 149 = .ok (.invokevirtual 128, 3) := by decide +kernel
theorem dX10_fits_152 : decode cX10_fits 152 = .ok (.bipush 6, 2) := by decide +kernel
theorem dX10_fits_154 : decode cX10_fits 154 = .ok (.if_icmp .ne 12, 3) := by decide +kernel
theorem dX10_fits_157 : decode cX10_fits 157 = .ok (.aload_n 0, 1) := by decide +kernel
theorem dX10_fits_158 : decode cX10_fits 158 = .ok (.getfield 19, 3) := by decide +kernel
theorem dX10_fits_161 : decode cX10_fits 161 = .ok (.iconst 0, 1) := by decide +kernel
theorem dX10_fits_162 : decode cX10_fits 162 = .ok (.iaload, 1) := by decide +kernel
theorem dX10_fits_163 : decode cX10_fits 163 = .ok (.goto 12, 3) := by decide +kernel
theorem dX10_fits_166 : decode cX10_fits 166 = .ok (.aload_n 0, 1) := by decide +kernel
theorem dX10_fits_167 : decode cX10_fits 167 = .ok (.getfield 111, 3) := by decide +kernel
theorem dX10_fits_170 : decode cX10_fits 170 = .ok (.aload_n 0, 1) := by decide +kernel
theorem dX10_fits_171 : decode cX10_fits 171 = .ok (.getfield 108, 3) := by decide +kernel
theorem dX10_fits_174 : decode cX10_fits 174 = .ok (.isub, 1) := by decide +kernel
theorem dX10_fits_175 : decode cX10_fits 175 = .ok (.istore 5, 2) := by decide +kernel
theorem dX10_fits_177 : decode cX10_fits 177 = .ok (.sipush 256, 3) := by decide +kernel
theorem dX10_fits_180 : decode cX10_fits 180 = .ok (.aload_n 0, 1) := by decide +kernel
theorem dX10_fits_181 : decode cX10_fits 181 = .ok (.getfield 7, 3) := by decide +kernel
theorem dX10_fits_184 : decode cX10_fits 184 = .ok (.iload_n 2, 1) := by decide +kernel
theorem dX10_fits_185 : decode cX10_fits 185 = .ok (.iconst 2, 1) := by decide +kernel
theorem dX10_fits_186 : decode cX10_fits 186 = .ok (.iadd, 1) := by decide +kernel
theorem dX10_fits_187 : decode cX10_fits 187 = .ok (.iaload, 1) := by decide +kernel
theorem dX10_fits_188 : decode cX10_fits 188 = .ok (.imul, 1) := by decide +kernel
theorem dX10_fits_189 : decode cX10_fits 189 = .ok (.aload_n 0, 1) := by decide +kernel
theorem dX10_fits_190 : decode cX10_fits 190 = .ok (.getfield 7, 3) := by decide +kernel
theorem dX10_fits_193 : decode cX10_fits 193 = .ok (.iload_n 2, 1) := by decide +kernel
theorem dX10_fits_194 : decode cX10_fits 194 = .ok (.iconst 3, 1) := by decide +kernel
theorem dX10_fits_195 : decode cX10_fits 195 = .ok (.iadd, 1) := by decide +kernel
theorem dX10_fits_196 : decode cX10_fits 196 = .ok (.iaload, 1) := by decide +kernel
theorem dX10_fits_197 : decode cX10_fits 197 = .ok (.iadd, 1) := by decide +kernel
theorem dX10_fits_198 : decode cX10_fits 198 = .ok (.aload_n 0, 1) := by decide +kernel
theorem dX10_fits_199 : decode cX10_fits 199 = .ok (.getfield 108, 3) := by decide +kernel
theorem dX10_fits_202 : decode cX10_fits 202 = .ok (.if_icmp .ne 33, 3) := by decide +kernel
theorem dX10_fits_205 : decode cX10_fits 205 = .ok (.sipush 256, 3) := by decide +kernel
theorem dX10_fits_208 : decode cX10_fits 208 = .ok (.aload_n 0, 1) := by decide +kernel
theorem dX10_fits_209 : decode cX10_fits 209 = .ok (.getfield 7, 3) := by decide +kernel
theorem dX10_fits_212 : decode cX10_fits 212 = .ok (.iload_n 2, 1) := by decide +kernel
theorem dX10_fits_213 : decode cX10_fits 213 = .ok (.iconst 4, 1) := by decide +kernel
theorem dX10_fits_214 : decode cX10_fits 214 = .ok (.iadd, 1) := by decide +kernel
theorem dX10_fits_215 : decode cX10_fits 215 = .ok (.iaload, 1) := by decide +kernel
theorem dX10_fits_216 : decode cX10_fits 216 = .ok (.imul, 1) := by decide +kernel
theorem dX10_fits_217 : decode cX10_fits 217 = .ok (.aload_n 0, 1) := by decide +kernel
theorem dX10_fits_218 : decode cX10_fits 218 = .ok (.getfield 7, 3) := by decide +kernel
theorem dX10_fits_221 : decode cX10_fits 221 = .ok (.iload_n 2, 1) := by decide +kernel
theorem dX10_fits_222 : decode cX10_fits 222 = .ok (.iconst 5, 1) := by decide +kernel
theorem dX10_fits_223 : decode cX10_fits 223 = .ok (.iadd, 1) := by decide +kernel
theorem dX10_fits_224 : decode cX10_fits 224 = .ok (.iaload, 1) := by decide +kernel
theorem dX10_fits_225 : decode cX10_fits 225 = .ok (.iadd, 1) := by decide +kernel
theorem dX10_fits_226 : decode cX10_fits 226 = .ok (.iload 5, 2) := by decide +kernel
theorem dX10_fits_228 : decode cX10_fits 228 = .ok (.if_icmp .ne 7, 3) := by decide +kernel
theorem dX10_fits_231 : decode cX10_fits 231 = .ok (.iconst 1, 1) := by decide +kernel
theorem dX10_fits_232 : decode cX10_fits 232 = .ok (.goto 4, 3) := by decide +kernel
theorem dX10_fits_235 : decode cX10_fits 235 = .ok (.iconst 0, 1) := by decide +kernel
theorem dX10_fits_236 : decode cX10_fits 236 = .ok (.ireturn, 1) := by decide +kernel
theorem dX10_attempts_0 : decode cX10_attempts 0 = .ok (.aload_n 0, 1) := by decide +kernel
theorem dX10_attempts_1 : decode cX10_attempts 1 = .ok (.invokevirtual 147, 3) := by decide +kernel
theorem dX10_attempts_4 : decode cX10_attempts 4 = .ok (.aload_n 0, 1) := by decide +kernel
theorem dX10_attempts_5 : decode cX10_attempts 5 = .ok (.getfield 7, 3) := by decide +kernel
theorem dX10_attempts_8 : decode cX10_attempts 8 = .ok (.bipush 10, 2) := by decide +kernel
theorem dX10_attempts_10 : decode cX10_attempts 10 = .ok (.dup2, 1) := by decide +kernel
theorem dX10_attempts_11 : decode cX10_attempts 11 = .ok (.iaload, 1) := by decide +kernel
theorem dX10_attempts_12 : decode cX10_attempts 12 = .ok (.iconst 1, 1) := by decide +kernel
theorem dX10_attempts_13 : decode cX10_attempts 13 = .ok (.iadd, 1) := by decide +kernel
theorem dX10_attempts_14 : decode cX10_attempts 14 = .ok (.iastore, 1) := by decide +kernel
theorem dX10_attempts_15 : decode cX10_attempts 15 = .ok (.aload_n 0, 1) := by decide +kernel
theorem dX10_attempts_16 : decode cX10_attempts 16 = .ok (.getfield 7, 3) := by decide +kernel
theorem dX10_attempts_19 : decode cX10_attempts 19 = .ok (.iconst 0, 1) := by decide +kernel
theorem dX10_attempts_20 : decode cX10_attempts 20 = .ok (.dup2, 1) := by decide +kernel
theorem dX10_attempts_21 : decode cX10_attempts 21 = .ok (.iaload, 1) := by decide +kernel
theorem dX10_attempts_22 : decode cX10_attempts 22 = .ok (.iconst 4, 1) := by decide +kernel
theorem dX10_attempts_23 : decode cX10_attempts 23 = .ok (.aload_n 0, 1) := by decide +kernel
theorem dX10_attempts_24 : decode cX10_attempts 24 = .ok (.getfield 118, 3) := by decide +kernel
theorem dX10_attempts_27 : decode cX10_attempts 27 = .ok (.iadd, 1) := by decide +kernel
theorem dX10_attempts_28 : decode cX10_attempts 28 = .ok (.iadd, 1) := by decide +kernel
theorem dX10_attempts_29 : decode cX10_attempts 29 = .ok (.iastore, 1) := by decide +kernel
theorem dX10_attempts_30 : decode cX10_attempts 30 = .ok (.aload_n 0, 1) := by decide +kernel
theorem dX10_attempts_31 : decode cX10_attempts 31 = .ok (.getfield 7, 3) := by decide +kernel
theorem dX10_attempts_34 : decode cX10_attempts 34 = .ok (.iconst 0, 1) := by decide +kernel
theorem dX10_attempts_35 : decode cX10_attempts 35 = .ok (.iaload, 1) := by decide +kernel
theorem dX10_attempts_36 : decode cX10_attempts 36 = .ok (.istore_n 1, 1) := by decide +kernel
theorem dX10_attempts_37 : decode cX10_attempts 37 = .ok (.aload_n 0, 1) := by decide +kernel
theorem dX10_attempts_38 : decode cX10_attempts 38 = .ok (.invokevirtual 150, 3) := by decide +kernel
theorem dX10_attempts_41 : decode cX10_attempts 41 = .ok (.aload_n 0, 1) := by decide +kernel
theorem dX10_attempts_42 : decode cX10_attempts 42 = .ok (.getfield 7, 3) := by decide +kernel
theorem dX10_attempts_45 : decode cX10_attempts 45 = .ok (.bipush 9, 2) := by decide +kernel
theorem dX10_attempts_47 : decode cX10_attempts 47 = .ok (.iaload, 1) := by decide +kernel
theorem dX10_attempts_48 : decode cX10_attempts 48 = .ok (.iconst 1, 1) := by decide +kernel
theorem dX10_attempts_49 : decode cX10_attempts 49 = .ok (.isub, 1) := by decide +kernel
theorem dX10_attempts_50 : decode cX10_attempts 50 = .ok (.istore_n 2, 1) := by decide +kernel
theorem dX10_attempts_51 : decode cX10_attempts 51 = .ok (.iload_n 2, 1) := by decide +kernel
theorem dX10_attempts_52 : decode cX10_attempts 52 = .ok (.ifCond .lt 31, 3) := by decide +kernel
theorem dX10_attempts_55 : decode cX10_attempts 55 = .ok (.aload_n 0, 1) := by decide +kernel
theorem dX10_attempts_56 : decode cX10_attempts 56 = .ok (.getfield 7, 3) := by decide +kernel
theorem dX10_attempts_59 : decode cX10_attempts 59 = .ok (.sipush 1700, 3) := by decide +kernel
theorem dX10_attempts_62 : decode cX10_attempts 62 = .ok (.bipush 42, 2) := by decide +kernel
theorem dX10_attempts_64 : decode cX10_attempts 64 = .ok (.iload_n 2, 1) := by decide +kernel
theorem dX10_attempts_65 : decode cX10_attempts 65 = .ok (.imul, 1) := by decide +kernel
theorem dX10_attempts_66 : decode cX10_attempts 66 = .ok (.iadd, 1) := by decide +kernel
theorem dX10_attempts_67 : decode cX10_attempts 67 = .ok (.iaload, 1) := by decide +kernel
theorem dX10_attempts_68 : decode cX10_attempts 68 = .ok (.iload_n 1, 1) := by decide +kernel
theorem dX10_attempts_69 : decode cX10_attempts 69 = .ok (.if_icmp .ge 8, 3) := by decide +kernel
theorem dX10_attempts_72 : decode cX10_attempts 72 = .ok (.aload_n 0, 1) := by decide +kernel
theorem dX10_attempts_73 : decode cX10_attempts 73 = .ok (.iload_n 2, 1) := by decide +kernel
theorem dX10_attempts_74 : decode cX10_attempts 74 = .ok (.invokevirtual 153, 3) := by decide +kernel
theorem dX10_attempts_77 : decode cX10_attempts 77 = .ok (.iinc 2 (-1), 3) := by decide +kernel
theorem dX10_attempts_80 : decode cX10_attempts 80 = .ok (.goto (-29), 3) := by decide +kernel
theorem dX10_attempts_83 : decode cX10_attempts 83 = .ok (.aload_n 0, 1) := by decide +kernel
theorem dX10_attempts_84 : decode cX10_attempts 84 = .ok (.iload_n 1, 1) := by decide +kernel
theorem dX10_attempts_85 : decode cX10_attempts 85 = .ok (.iload_n 1, 1) := by decide +kernel
theorem dX10_attempts_86 : decode cX10_attempts 86 = .ok (.aload_n 0, 1) := by decide +kernel
theorem dX10_attempts_87 : decode cX10_attempts 87 = .ok (.getfield 7, 3) := by decide +kernel
theorem dX10_attempts_90 : decode cX10_attempts 90 = .ok (.iconst 2, 1) := by decide +kernel
theorem dX10_attempts_91 : decode cX10_attempts 91 = .ok (.iaload, 1) := by decide +kernel
theorem dX10_attempts_92 : decode cX10_attempts 92 = .ok (.iadd, 1) := by decide +kernel
theorem dX10_attempts_93 : decode cX10_attempts 93 = .ok (.invokevirtual 156, 3) := by decide +kernel
theorem dX10_attempts_96 : decode cX10_attempts 96 = .ok (.istore_n 2, 1) := by decide +kernel
theorem dX10_attempts_97 : decode cX10_attempts 97 = .ok (.iload_n 2, 1) := by decide +kernel
theorem dX10_attempts_98 : decode cX10_attempts 98 = .ok (.ifCond .lt 145, 3) := by decide +kernel
theorem dX10_attempts_101 : decode cX10_attempts 101 = .ok (.aload_n 0, 1) := by decide +kernel
theorem dX10_attempts_102 : decode cX10_attempts 102 = .ok (.iload_n 2, 1) := by decide +kernel
theorem dX10_attempts_103 : decode cX10_attempts 103 = .ok (.invokevirtual 159, 3) := by decide +kernel
theorem dX10_attempts_106 : decode cX10_attempts 106 = .ok (.istore_n 3, 1) := by decide +kernel
theorem dX10_attempts_107 : decode cX10_attempts 107 = .ok (.iconst 0, 1) := by decide +kernel
theorem dX10_attempts_108 : decode cX10_attempts 108 = .ok (.istore 4, 2) := by decide +kernel
theorem dX10_attempts_110 : decode cX10_attempts 110 = .ok (.iload 4, 2) := by decide +kernel
theorem dX10_attempts_112 : decode cX10_attempts 112 = .ok (.bipush 42, 2) := by decide +kernel
theorem dX10_attempts_114 : decode cX10_attempts 114 = .ok (.if_icmp .ge 32, 3) := by decide +kernel
theorem dX10_attempts_117 : decode cX10_attempts 117 = .ok (.aload_n 0, 1) := by decide +kernel
theorem dX10_attempts_118 : decode cX10_attempts 118 = .ok (.getfield 22, 3) := by decide +kernel
theorem dX10_attempts_121 : decode cX10_attempts 121 = .ok (.iload 4, 2) := by decide +kernel
theorem dX10_attempts_123 : decode cX10_attempts 123 = .ok (.aload_n 0, 1) := by decide +kernel
theorem dX10_attempts_124 : decode cX10_attempts 124 = .ok (.getfield 7, 3) := by decide +kernel
theorem dX10_attempts_127 : decode cX10_attempts 127 = .ok (.sipush 1700, 3) := by decide +kernel
theorem dX10_attempts_130 : decode cX10_attempts 130 = .ok (.bipush 42, 2) := by decide +kernel
theorem dX10_attempts_132 : decode cX10_attempts 132 = .ok (.iload_n 2, 1) := by decide +kernel
theorem dX10_attempts_133 : decode cX10_attempts 133 = .ok (.imul, 1) := by decide +kernel
theorem dX10_attempts_134 : decode cX10_attempts 134 = .ok (.iadd, 1) := by decide +kernel
theorem dX10_attempts_135 : decode cX10_attempts 135 = .ok (.iload 4, 2) := by decide +kernel
theorem dX10_attempts_137 : decode cX10_attempts 137 = .ok (.iadd, 1) := by decide +kernel
theorem dX10_attempts_138 : decode cX10_attempts 138 = .ok (.iaload, 1) := by decide +kernel
theorem dX10_attempts_139 : decode cX10_attempts 139 = .ok (.iastore, 1) := by decide +kernel
theorem dX10_attempts_140 : decode cX10_attempts 140 = .ok (.iinc 4 1, 3) := by decide +kernel
theorem dX10_attempts_143 : decode cX10_attempts 143 = .ok (.goto (-33), 3) := by decide +kernel
theorem dX10_attempts_146 : decode cX10_attempts 146 = .ok (.aload_n 0, 1) := by decide +kernel
theorem dX10_attempts_147 : decode cX10_attempts 147 = .ok (.iload_n 2, 1) := by decide +kernel
theorem dX10_attempts_148 : decode cX10_attempts 148 = .ok (.invokevirtual 153, 3) := by decide +kernel
theorem dX10_attempts_151 : decode cX10_attempts 151 = .ok (.iload_n 3, 1) := by decide +kernel
theorem dX10_attempts_152 : decode cX10_attempts 152 = .ok (.ifCond .eq 74, 3) := by decide +kernel
theorem dX10_attempts_155 : decode cX10_attempts 155 = .ok (.aload_n 0, 1) := by decide +kernel
theorem dX10_attempts_156 : decode cX10_attempts 156 = .ok (.getfield 7, 3) := by decide +kernel
theorem dX10_attempts_159 : decode cX10_attempts 159 = .ok (.iconst 0, 1) := by decide +kernel
theorem dX10_attempts_160 : decode cX10_attempts 160 = .ok (.aload_n 0, 1) := by decide +kernel
theorem dX10_attempts_161 : decode cX10_attempts 161 = .ok (.getfield 22, 3) := by decide +kernel
theorem dX10_attempts_164 : decode cX10_attempts 164 = .ok (.iconst 0, 1) := by decide +kernel
theorem dX10_attempts_165 : decode cX10_attempts 165 = .ok (.iaload, 1) := by decide +kernel
theorem dX10_attempts_166 : decode cX10_attempts 166 = .ok (.aload_n 0, 1) := by decide +kernel
theorem dX10_attempts_167 : decode cX10_attempts 167 = .ok (.getfield 22, 3) := by decide +kernel
theorem dX10_attempts_170 : decode cX10_attempts 170 = .ok (.iconst 1, 1) := by decide +kernel
theorem dX10_attempts_171 : decode cX10_attempts 171 = .ok (.iaload, 1) := by decide +kernel
theorem dX10_attempts_172 : decode cX10_attempts 172 = .ok (.iadd, 1) := by decide +kernel
theorem dX10_attempts_173 : decode cX10_attempts 173 = .ok (.iastore, 1) := by decide +kernel
theorem dX10_attempts_174 : decode cX10_attempts 174 = .ok (.aload_n 0, 1) := by decide +kernel
theorem dX10_attempts_175 : decode cX10_attempts 175 = .ok (.getfield 7, 3) := by decide +kernel
theorem dX10_attempts_178 : decode cX10_attempts 178 = .ok (.bipush 11, 2) := by decide +kernel
theorem dX10_attempts_180 : decode cX10_attempts 180 = .ok (.dup2, 1) := by decide +kernel
theorem dX10_attempts_181 : decode cX10_attempts 181 = .ok (.iaload, 1) := by decide +kernel
theorem dX10_attempts_182 : decode cX10_attempts 182 = .ok (.iconst 1, 1) := by decide +kernel
theorem dX10_attempts_183 : decode cX10_attempts 183 = .ok (.iadd, 1) := by decide +kernel
theorem dX10_attempts_184 : decode cX10_attempts 184 = .ok (.iastore, 1) := by decide +kernel
theorem dX10_attempts_185 : decode cX10_attempts 185 = .ok (.aload_n 0, 1) := by decide +kernel
theorem dX10_attempts_186 : decode cX10_attempts 186 = .ok (.getfield 7, 3) := by decide +kernel
theorem dX10_attempts_189 : decode cX10_attempts 189 = .ok (.bipush 12, 2) := by decide +kernel
theorem dX10_attempts_191 : decode cX10_attempts 191 = .ok (.dup2, 1) := by decide +kernel
theorem dX10_attempts_192 : decode cX10_attempts 192 = .ok (.iaload, 1) := by decide +kernel
theorem dX10_attempts_193 : decode cX10_attempts 193 = .ok (.aload_n 0, 1) := by decide +kernel
theorem dX10_attempts_194 : decode cX10_attempts 194 = .ok (.getfield 22, 3) := by decide +kernel
theorem dX10_attempts_197 : decode cX10_attempts 197 = .ok (.iconst 2, 1) := by decide +kernel
theorem dX10_attempts_198 : decode cX10_attempts 198 = .ok (.iaload, 1) := by decide +kernel
theorem dX10_attempts_199 : decode cX10_attempts 199 = .ok (.aload_n 0, 1) := by decide +kernel
theorem dX10_attempts_200 : decode cX10_attempts 200 = .ok (.getfield 7, 3) := by decide +kernel
theorem dX10_attempts_203 : decode cX10_attempts 203 = .ok (.bipush 7, 2) := by decide +kernel
theorem dX10_attempts_205 : decode cX10_attempts 205 = .ok (.iaload, 1) := by decide +kernel
theorem dX10_attempts_206 : decode cX10_attempts 206 = .ok (.if_icmp .eq 7, 3) := by decide +kernel
theorem dX10_attempts_209 : decode cX10_attempts 209 = .ok (.iconst 1, 1) := by decide +kernel
theorem dX10_attempts_210 : decode cX10_attempts 210 = .ok (.goto 4, 3) := by decide +kernel
theorem dX10_attempts_213 : decode cX10_attempts 213 = .ok (.iconst 0, 1) := by decide +kernel
theorem dX10_attempts_214 : decode cX10_attempts 214 = .ok (.iadd, 1) := by decide +kernel
theorem dX10_attempts_215 : decode cX10_attempts 215 = .ok (.iastore, 1) := by decide +kernel
theorem dX10_attempts_216 : decode cX10_attempts 216 = .ok (.aload_n 0, 1) := by decide +kernel
theorem dX10_attempts_217 : decode cX10_attempts 217 = .ok (.getfield 7, 3) := by decide +kernel
theorem dX10_attempts_220 : decode cX10_attempts 220 = .ok (.bipush 8, 2) := by decide +kernel
theorem dX10_attempts_222 : decode cX10_attempts 222 = .ok (.iconst 0, 1) := by decide +kernel
theorem dX10_attempts_223 : decode cX10_attempts 223 = .ok (.iastore, 1) := by decide +kernel
theorem dX10_attempts_224 : decode cX10_attempts 224 = .ok (.iconst 1, 1) := by decide +kernel
theorem dX10_attempts_225 : decode cX10_attempts 225 = .ok (.ireturn, 1) := by decide +kernel
theorem dX10_attempts_226 : decode cX10_attempts 226 = .ok (.aload_n 0, 1) := by decide +kernel
theorem dX10_attempts_227 : decode cX10_attempts 227 = .ok (.iload_n 1, 1) := by decide +kernel
theorem dX10_attempts_228 : decode cX10_attempts 228 = .ok (.iload_n 1, 1) := by decide +kernel
theorem dX10_attempts_229 : decode cX10_attempts 229 = .ok (.aload_n 0, 1) := by decide +kernel
theorem dX10_attempts_230 : decode cX10_attempts 230 = .ok (.getfield 7, 3) := by decide +kernel
theorem dX10_attempts_233 : decode cX10_attempts 233 = .ok (.iconst 2, 1) := by decide +kernel
theorem dX10_attempts_234 : decode cX10_attempts 234 = .ok (.iaload, 1) := by decide +kernel
theorem dX10_attempts_235 : decode cX10_attempts 235 = .ok (.iadd, 1) := by decide +kernel
theorem dX10_attempts_236 : decode cX10_attempts 236 = .ok (.invokevirtual 156, 3) := by decide +kernel
theorem dX10_attempts_239 : decode cX10_attempts 239 = .ok (.istore_n 2, 1) := by decide +kernel
theorem dX10_attempts_240 : decode cX10_attempts 240 = .ok (.goto (-143), 3) := by decide +kernel
theorem dX10_attempts_243 : decode cX10_attempts 243 = .ok (.aload_n 0, 1) := by decide +kernel
theorem dX10_attempts_244 : decode cX10_attempts 244 = .ok (.getfield 7, 3) := by decide +kernel
theorem dX10_attempts_247 : decode cX10_attempts 247 = .ok (.iconst 0, 1) := by decide +kernel
theorem dX10_attempts_248 : decode cX10_attempts 248 = .ok (.iload_n 1, 1) := by decide +kernel
theorem dX10_attempts_249 : decode cX10_attempts 249 = .ok (.aload_n 0, 1) := by decide +kernel
theorem dX10_attempts_250 : decode cX10_attempts 250 = .ok (.getfield 7, 3) := by decide +kernel
theorem dX10_attempts_253 : decode cX10_attempts 253 = .ok (.iconst 2, 1) := by decide +kernel
theorem dX10_attempts_254 : decode cX10_attempts 254 = .ok (.iaload, 1) := by decide +kernel
theorem dX10_attempts_255 : decode cX10_attempts 255 = .ok (.iadd, 1) := by decide +kernel
theorem dX10_attempts_256 : decode cX10_attempts 256 = .ok (.iastore, 1) := by decide +kernel
theorem dX10_attempts_257 : decode cX10_attempts 257 = .ok (.aload_n 0, 1) := by decide +kernel
theorem dX10_attempts_258 : decode cX10_attempts 258 = .ok (.getfield 7, 3) := by decide +kernel
theorem dX10_attempts_261 : decode cX10_attempts 261 = .ok (.bipush 13, 2) := by decide +kernel
theorem dX10_attempts_263 : decode cX10_attempts 263 = .ok (.dup2, 1) := by decide +kernel
theorem dX10_attempts_264 : decode cX10_attempts 264 = .ok (.iaload, 1) := by decide +kernel
theorem dX10_attempts_265 : decode cX10_attempts 265 = .ok (.iconst 1, 1) := by decide +kernel
theorem dX10_attempts_266 : decode cX10_attempts 266 = .ok (.iadd, 1) := by decide +kernel
theorem dX10_attempts_267 : decode cX10_attempts 267 = .ok (.iastore, 1) := by decide +kernel
theorem dX10_attempts_268 : decode cX10_attempts 268 = .ok (.aload_n 0, 1) := by decide +kernel
theorem dX10_attempts_269 : decode cX10_attempts 269 = .ok (.getfield 7, 3) := by decide +kernel
theorem dX10_attempts_272 : decode cX10_attempts 272 = .ok (.bipush 8, 2) := by decide +kernel
theorem dX10_attempts_274 : decode cX10_attempts 274 = .ok (.iconst 1, 1) := by decide +kernel
theorem dX10_attempts_275 : decode cX10_attempts 275 = .ok (.iastore, 1) := by decide +kernel
theorem dX10_attempts_276 : decode cX10_attempts 276 = .ok (.iconst 0, 1) := by decide +kernel
theorem dX10_attempts_277 : decode cX10_attempts 277 = .ok (.ireturn, 1) := by decide +kernel
theorem dX10_tries_0 : decode cX10_tries 0 = .ok (.aload_n 0, 1) := by decide +kernel
theorem dX10_tries_1 : decode cX10_tries 1 = .ok (.getfield 7, 3) := by decide +kernel
theorem dX10_tries_4 : decode cX10_tries 4 = .ok (.bipush 7, 2) := by decide +kernel
theorem dX10_tries_6 : decode cX10_tries 6 = .ok (.dup2, 1) := by decide +kernel
theorem dX10_tries_7 : decode cX10_tries 7 = .ok (.iaload, 1) := by decide +kernel
theorem dX10_tries_8 : decode cX10_tries 8 = .ok (.iconst 1, 1) := by decide +kernel
theorem dX10_tries_9 : decode cX10_tries 9 = .ok (.iadd, 1) := by decide +kernel
theorem dX10_tries_10 : decode cX10_tries 10 = .ok (.iastore, 1) := by decide +kernel
theorem dX10_tries_11 : decode cX10_tries 11 = .ok (.aload_n 0, 1) := by decide +kernel
theorem dX10_tries_12 : decode cX10_tries 12 = .ok (.getfield 7, 3) := by decide +kernel
theorem dX10_tries_15 : decode cX10_tries 15 = .ok (.iconst 0, 1) := by decide +kernel
theorem dX10_tries_16 : decode cX10_tries 16 = .ok (.dup2, 1) := by decide +kernel
theorem dX10_tries_17 : decode cX10_tries 17 = .ok (.iaload, 1) := by decide +kernel
theorem dX10_tries_18 : decode cX10_tries 18 = .ok (.aload_n 0, 1) := by decide +kernel
theorem dX10_tries_19 : decode cX10_tries 19 = .ok (.getfield 7, 3) := by decide +kernel
theorem dX10_tries_22 : decode cX10_tries 22 = .ok (.bipush 8, 2) := by decide +kernel
theorem dX10_tries_24 : decode cX10_tries 24 = .ok (.iaload, 1) := by decide +kernel
theorem dX10_tries_25 : decode cX10_tries 25 = .ok (.iconst 1, 1) := by decide +kernel
theorem dX10_tries_26 : decode cX10_tries 26 = .ok (.if_icmp .ne 12, 3) := by decide +kernel
theorem dX10_tries_29 : decode cX10_tries 29 = .ok (.aload_n 0, 1) := by decide +kernel
theorem dX10_tries_30 : decode cX10_tries 30 = .ok (.getfield 7, 3) := by decide +kernel
theorem dX10_tries_33 : decode cX10_tries 33 = .ok (.iconst 4, 1) := by decide +kernel
theorem dX10_tries_34 : decode cX10_tries 34 = .ok (.iaload, 1) := by decide +kernel
theorem dX10_tries_35 : decode cX10_tries 35 = .ok (.goto 4, 3) := by decide +kernel
theorem dX10_tries_38 : decode cX10_tries 38 = .ok (.iconst 0, 1) := by decide +kernel
theorem dX10_tries_39 : decode cX10_tries 39 = .ok (.iadd, 1) := by decide +kernel
theorem dX10_tries_40 : decode cX10_tries 40 = .ok (.iastore, 1) := by decide +kernel
theorem dX10_tries_41 : decode cX10_tries 41 = .ok (.iconst 0, 1) := by decide +kernel
theorem dX10_tries_42 : decode cX10_tries 42 = .ok (.istore_n 1, 1) := by decide +kernel
theorem dX10_tries_43 : decode cX10_tries 43 = .ok (.iconst 0, 1) := by decide +kernel
theorem dX10_tries_44 : decode cX10_tries 44 = .ok (.istore_n 2, 1) := by decide +kernel
theorem dX10_tries_45 : decode cX10_tries 45 = .ok (.iload_n 2, 1) := by decide +kernel
theorem dX10_tries_46 : decode cX10_tries 46 = .ok (.aload_n 0, 1) := by decide +kernel
theorem dX10_tries_47 : decode cX10_tries 47 = .ok (.getfield 7, 3) := by decide +kernel
theorem dX10_tries_50 : decode cX10_tries 50 = .ok (.iconst 3, 1) := by decide +kernel
theorem dX10_tries_51 : decode cX10_tries 51 = .ok (.iaload, 1) := by decide +kernel
theorem dX10_tries_52 : decode cX10_tries 52 = .ok (.if_icmp .gt 18, 3) := by decide +kernel
theorem dX10_tries_55 : decode cX10_tries 55 = .ok (.iload_n 1, 1) := by decide +kernel
theorem dX10_tries_56 : decode cX10_tries 56 = .ok (.ifCond .ne 14, 3) := by decide +kernel
theorem dX10_tries_59 : decode cX10_tries 59 = .ok (.aload_n 0, 1) := by decide +kernel
theorem dX10_tries_60 : decode cX10_tries 60 = .ok (.invokevirtual 162, 3) := by decide +kernel
theorem dX10_tries_63 : decode cX10_tries 63 = .ok (.istore_n 1, 1) := by decide +kernel
theorem dX10_tries_64 : decode cX10_tries 64 = .ok (.iinc 2 1, 3) := by decide +kernel
theorem dX10_tries_67 : decode cX10_tries 67 = .ok (.goto (-22), 3) := by decide +kernel
theorem dX10_tries_70 : decode cX10_tries 70 = .ok (.iload_n 1, 1) := by decide +kernel
theorem dX10_tries_71 : decode cX10_tries 71 = .ok (.ireturn, 1) := by decide +kernel
theorem dX10_caches_0 : decode cX10_caches 0 = .ok (.iload_n 1, 1) := by decide +kernel
theorem dX10_caches_1 : decode cX10_caches 1 = .ok (.iconst 0, 1) := by decide +kernel
theorem dX10_caches_2 : decode cX10_caches 2 = .ok (.bipush 31, 2) := by decide +kernel
theorem dX10_caches_4 : decode cX10_caches 4 = .ok (.invokestatic 39, 3) := by decide +kernel
theorem dX10_caches_7 : decode cX10_caches 7 = .ok (.ifCond .eq 54, 3) := by decide +kernel
theorem dX10_caches_10 : decode cX10_caches 10 = .ok (.aload_n 0, 1) := by decide +kernel
theorem dX10_caches_11 : decode cX10_caches 11 = .ok (.getfield 7, 3) := by decide +kernel
theorem dX10_caches_14 : decode cX10_caches 14 = .ok (.aload_n 0, 1) := by decide +kernel
theorem dX10_caches_15 : decode cX10_caches 15 = .ok (.getfield 91, 3) := by decide +kernel
theorem dX10_caches_18 : decode cX10_caches 18 = .ok (.iload_n 1, 1) := by decide +kernel
theorem dX10_caches_19 : decode cX10_caches 19 = .ok (.invokestatic 79, 3) := by decide +kernel
theorem dX10_caches_22 : decode cX10_caches 22 = .ok (.iconst 1, 1) := by decide +kernel
theorem dX10_caches_23 : decode cX10_caches 23 = .ok (.iastore, 1) := by decide +kernel
theorem dX10_caches_24 : decode cX10_caches 24 = .ok (.aload_n 0, 1) := by decide +kernel
theorem dX10_caches_25 : decode cX10_caches 25 = .ok (.getfield 7, 3) := by decide +kernel
theorem dX10_caches_28 : decode cX10_caches 28 = .ok (.aload_n 0, 1) := by decide +kernel
theorem dX10_caches_29 : decode cX10_caches 29 = .ok (.getfield 91, 3) := by decide +kernel
theorem dX10_caches_32 : decode cX10_caches 32 = .ok (.iload_n 1, 1) := by decide +kernel
theorem dX10_caches_33 : decode cX10_caches 33 = .ok (.invokestatic 79, 3) := by decide +kernel
theorem dX10_caches_36 : decode cX10_caches 36 = .ok (.iconst 1, 1) := by decide +kernel
theorem dX10_caches_37 : decode cX10_caches 37 = .ok (.iadd, 1) := by decide +kernel
theorem dX10_caches_38 : decode cX10_caches 38 = .ok (.iload_n 2, 1) := by decide +kernel
theorem dX10_caches_39 : decode cX10_caches 39 = .ok (.iastore, 1) := by decide +kernel
theorem dX10_caches_40 : decode cX10_caches 40 = .ok (.aload_n 0, 1) := by decide +kernel
theorem dX10_caches_41 : decode cX10_caches 41 = .ok (.getfield 7, 3) := by decide +kernel
theorem dX10_caches_44 : decode cX10_caches 44 = .ok (.aload_n 0, 1) := by decide +kernel
theorem dX10_caches_45 : decode cX10_caches 45 = .ok (.getfield 91, 3) := by decide +kernel
theorem dX10_caches_48 : decode cX10_caches 48 = .ok (.iload_n 1, 1) := by decide +kernel
theorem dX10_caches_49 : decode cX10_caches 49 = .ok (.invokestatic 79, 3) := by decide +kernel
theorem dX10_caches_52 : decode cX10_caches 52 = .ok (.iconst 2, 1) := by decide +kernel
theorem dX10_caches_53 : decode cX10_caches 53 = .ok (.iadd, 1) := by decide +kernel
theorem dX10_caches_54 : decode cX10_caches 54 = .ok (.aload_n 0, 1) := by decide +kernel
theorem dX10_caches_55 : decode cX10_caches 55 = .ok (.getfield 7, 3) := by decide +kernel
theorem dX10_caches_58 : decode cX10_caches 58 = .ok (.iconst 0, 1) := by decide +kernel
theorem dX10_caches_59 : decode cX10_caches 59 = .ok (.iaload, 1) := by decide +kernel
theorem dX10_caches_60 : decode cX10_caches 60 = .ok (.iastore, 1) := by decide +kernel
theorem dX10_caches_61 : decode cX10_caches 61 = .ok (.return_, 1) := by decide +kernel
theorem dX10_ends_0 : decode cX10_ends 0 = .ok (.aload_n 0, 1) := by decide +kernel
theorem dX10_ends_1 : decode cX10_ends 1 = .ok (.getfield 7, 3) := by decide +kernel
theorem dX10_ends_4 : decode cX10_ends 4 = .ok (.iload_n 1, 1) := by decide +kernel
theorem dX10_ends_5 : decode cX10_ends 5 = .ok (.invokestatic 61, 3) := by decide +kernel
theorem dX10_ends_8 : decode cX10_ends 8 = .ok (.iconst 5, 1) := by decide +kernel
theorem dX10_ends_9 : decode cX10_ends 9 = .ok (.iadd, 1) := by decide +kernel
theorem dX10_ends_10 : decode cX10_ends 10 = .ok (.iload_n 2, 1) := by decide +kernel
theorem dX10_ends_11 : decode cX10_ends 11 = .ok (.iastore, 1) := by decide +kernel
theorem dX10_ends_12 : decode cX10_ends 12 = .ok (.aload_n 0, 1) := by decide +kernel
theorem dX10_ends_13 : decode cX10_ends 13 = .ok (.getfield 7, 3) := by decide +kernel
theorem dX10_ends_16 : decode cX10_ends 16 = .ok (.iload_n 1, 1) := by decide +kernel
theorem dX10_ends_17 : decode cX10_ends 17 = .ok (.invokestatic 61, 3) := by decide +kernel
theorem dX10_ends_20 : decode cX10_ends 20 = .ok (.bipush 6, 2) := by decide +kernel
theorem dX10_ends_22 : decode cX10_ends 22 = .ok (.iadd, 1) := by decide +kernel
theorem dX10_ends_23 : decode cX10_ends 23 = .ok (.iload_n 3, 1) := by decide +kernel
theorem dX10_ends_24 : decode cX10_ends 24 = .ok (.iastore, 1) := by decide +kernel
theorem dX10_ends_25 : decode cX10_ends 25 = .ok (.aload_n 0, 1) := by decide +kernel
theorem dX10_ends_26 : decode cX10_ends 26 = .ok (.getfield 7, 3) := by decide +kernel
theorem dX10_ends_29 : decode cX10_ends 29 = .ok (.iload_n 1, 1) := by decide +kernel
theorem dX10_ends_30 : decode cX10_ends 30 = .ok (.invokestatic 61, 3) := by decide +kernel
theorem dX10_ends_33 : decode cX10_ends 33 = .ok (.bipush 7, 2) := by decide +kernel
theorem dX10_ends_35 : decode cX10_ends 35 = .ok (.iadd, 1) := by decide +kernel
theorem dX10_ends_36 : decode cX10_ends 36 = .ok (.aload_n 0, 1) := by decide +kernel
theorem dX10_ends_37 : decode cX10_ends 37 = .ok (.getfield 7, 3) := by decide +kernel
theorem dX10_ends_40 : decode cX10_ends 40 = .ok (.iconst 0, 1) := by decide +kernel
theorem dX10_ends_41 : decode cX10_ends 41 = .ok (.iaload, 1) := by decide +kernel
theorem dX10_ends_42 : decode cX10_ends 42 = .ok (.iastore, 1) := by decide +kernel
theorem dX10_ends_43 : decode cX10_ends 43 = .ok (.return_, 1) := by decide +kernel
theorem dX10_byCache_0 : decode cX10_byCache 0 = .ok (.iload_n 1, 1) := by decide +kernel
theorem dX10_byCache_1 : decode cX10_byCache 1 = .ok (.invokestatic 61, 3) := by decide +kernel
theorem dX10_byCache_4 : decode cX10_byCache 4 = .ok (.istore_n 2, 1) := by decide +kernel
theorem dX10_byCache_5 : decode cX10_byCache 5 = .ok (.iconst 0, 1) := by decide +kernel
theorem dX10_byCache_6 : decode cX10_byCache 6 = .ok (.istore_n 3, 1) := by decide +kernel
theorem dX10_byCache_7 : decode cX10_byCache 7 = .ok (.iload_n 3, 1) := by decide +kernel
theorem dX10_byCache_8 : decode cX10_byCache 8 = .ok (.aload_n 0, 1) := by decide +kernel
theorem dX10_byCache_9 : decode cX10_byCache 9 = .ok (.getfield 7, 3) := by decide +kernel
theorem dX10_byCache_12 : decode cX10_byCache 12 = .ok (.iload_n 2, 1) := by decide +kernel
theorem dX10_byCache_13 : decode cX10_byCache 13 = .ok (.iconst 3, 1) := by decide +kernel
theorem dX10_byCache_14 : decode cX10_byCache 14 = .ok (.iadd, 1) := by decide +kernel
theorem dX10_byCache_15 : decode cX10_byCache 15 = .ok (.iaload, 1) := by decide +kernel
theorem dX10_byCache_16 : decode cX10_byCache 16 = .ok (.if_icmp .ge 52, 3) := by decide +kernel
theorem dX10_byCache_19 : decode cX10_byCache 19 = .ok (.aload_n 0, 1) := by decide +kernel
theorem dX10_byCache_20 : decode cX10_byCache 20 = .ok (.getfield 7, 3) := by decide +kernel
theorem dX10_byCache_23 : decode cX10_byCache 23 = .ok (.sipush 760, 3) := by decide +kernel
theorem dX10_byCache_26 : decode cX10_byCache 26 = .ok (.bipush 16, 2) := by decide +kernel
theorem dX10_byCache_28 : decode cX10_byCache 28 = .ok (.iload_n 1, 1) := by decide +kernel
theorem dX10_byCache_29 : decode cX10_byCache 29 = .ok (.imul, 1) := by decide +kernel
theorem dX10_byCache_30 : decode cX10_byCache 30 = .ok (.iadd, 1) := by decide +kernel
theorem dX10_byCache_31 : decode cX10_byCache 31 = .ok (.iload_n 3, 1) := by decide +kernel
theorem dX10_byCache_32 : decode cX10_byCache 32 = .ok (.iadd, 1) := by decide +kernel
theorem dX10_byCache_33 : decode cX10_byCache 33 = .ok (.aload_n 0, 1) := by decide +kernel
theorem dX10_byCache_34 : decode cX10_byCache 34 = .ok (.getfield 7, 3) := by decide +kernel
theorem dX10_byCache_37 : decode cX10_byCache 37 = .ok (.aload_n 0, 1) := by decide +kernel
theorem dX10_byCache_38 : decode cX10_byCache 38 = .ok (.getfield 7, 3) := by decide +kernel
theorem dX10_byCache_41 : decode cX10_byCache 41 = .ok (.iload_n 2, 1) := by decide +kernel
theorem dX10_byCache_42 : decode cX10_byCache 42 = .ok (.iconst 1, 1) := by decide +kernel
theorem dX10_byCache_43 : decode cX10_byCache 43 = .ok (.iadd, 1) := by decide +kernel
theorem dX10_byCache_44 : decode cX10_byCache 44 = .ok (.iaload, 1) := by decide +kernel
theorem dX10_byCache_45 : decode cX10_byCache 45 = .ok (.aload_n 0, 1) := by decide +kernel
theorem dX10_byCache_46 : decode cX10_byCache 46 = .ok (.getfield 7, 3) := by decide +kernel
theorem dX10_byCache_49 : decode cX10_byCache 49 = .ok (.iload_n 2, 1) := by decide +kernel
theorem dX10_byCache_50 : decode cX10_byCache 50 = .ok (.iconst 2, 1) := by decide +kernel
theorem dX10_byCache_51 : decode cX10_byCache 51 = .ok (.iadd, 1) := by decide +kernel
theorem dX10_byCache_52 : decode cX10_byCache 52 = .ok (.iaload, 1) := by decide +kernel
theorem dX10_byCache_53 : decode cX10_byCache 53 = .ok (.iload_n 3, 1) := by decide +kernel
theorem dX10_byCache_54 : decode cX10_byCache 54 = .ok (.iadd, 1) := by decide +kernel
theorem dX10_byCache_55 : decode cX10_byCache 55 = .ok (.invokestatic 79, 3) := by decide +kernel
theorem dX10_byCache_58 : decode cX10_byCache 58 = .ok (.iconst 1, 1) := by decide +kernel
theorem dX10_byCache_59 : decode cX10_byCache 59 = .ok (.iadd, 1) := by decide +kernel
theorem dX10_byCache_60 : decode cX10_byCache 60 = .ok (.iaload, 1) := by decide +kernel
theorem dX10_byCache_61 : decode cX10_byCache 61 = .ok (.iastore, 1) := by decide +kernel
theorem dX10_byCache_62 : decode cX10_byCache 62 = .ok (.iinc 3 1, 3) := by decide +kernel
theorem dX10_byCache_65 : decode cX10_byCache 65 = .ok (.goto (-58), 3) := by decide +kernel
theorem dX10_byCache_68 : decode cX10_byCache 68 = .ok (.aload_n 0, 1) := by decide +kernel
theorem dX10_byCache_69 : decode cX10_byCache 69 = .ok (.iload_n 1, 1) := by decide +kernel
theorem dX10_byCache_70 : decode cX10_byCache 70 = .ok (.iconst 1, 1) := by decide +kernel
theorem dX10_byCache_71 : decode cX10_byCache 71 = .ok (.iconst 0, 1) := by decide +kernel
theorem dX10_byCache_72 : decode cX10_byCache 72 = .ok (.invokevirtual 166, 3) := by decide +kernel
theorem dX10_byCache_75 : decode cX10_byCache 75 = .ok (.aload_n 0, 1) := by decide +kernel
theorem dX10_byCache_76 : decode cX10_byCache 76 = .ok (.getfield 7, 3) := by decide +kernel
theorem dX10_byCache_79 : decode cX10_byCache 79 = .ok (.iload_n 2, 1) := by decide +kernel
theorem dX10_byCache_80 : decode cX10_byCache 80 = .ok (.bipush 8, 2) := by decide +kernel
theorem dX10_byCache_82 : decode cX10_byCache 82 = .ok (.iadd, 1) := by decide +kernel
theorem dX10_byCache_83 : decode cX10_byCache 83 = .ok (.iconst 1, 1) := by decide +kernel
theorem dX10_byCache_84 : decode cX10_byCache 84 = .ok (.iastore, 1) := by decide +kernel
theorem dX10_byCache_85 : decode cX10_byCache 85 = .ok (.aload_n 0, 1) := by decide +kernel
theorem dX10_byCache_86 : decode cX10_byCache 86 = .ok (.getfield 7, 3) := by decide +kernel
theorem dX10_byCache_89 : decode cX10_byCache 89 = .ok (.bipush 14, 2) := by decide +kernel
theorem dX10_byCache_91 : decode cX10_byCache 91 = .ok (.dup2, 1) := by decide +kernel
theorem dX10_byCache_92 : decode cX10_byCache 92 = .ok (.iaload, 1) := by decide +kernel
theorem dX10_byCache_93 : decode cX10_byCache 93 = .ok (.iconst 1, 1) := by decide +kernel
theorem dX10_byCache_94 : decode cX10_byCache 94 = .ok (.iadd, 1) := by decide +kernel
theorem dX10_byCache_95 : decode cX10_byCache 95 = .ok (.iastore, 1) := by decide +kernel
theorem dX10_byCache_96 : decode cX10_byCache 96 = .ok (.iconst 1, 1) := by decide +kernel
theorem dX10_byCache_97 : decode cX10_byCache 97 = .ok (.ireturn, 1) := by decide +kernel
theorem dX10_word_0 : decode cX10_word 0 = .ok (.sipush 256, 3) := by decide +kernel
theorem dX10_word_3 : decode cX10_word 3 = .ok (.aload_n 0, 1) := by decide +kernel
theorem dX10_word_4 : decode cX10_word 4 = .ok (.getfield 22, 3) := by decide +kernel
theorem dX10_word_7 : decode cX10_word 7 = .ok (.bipush 6, 2) := by decide +kernel
theorem dX10_word_9 : decode cX10_word 9 = .ok (.iconst 2, 1) := by decide +kernel
theorem dX10_word_10 : decode cX10_word 10 = .ok (.iload_n 1, 1) := by decide +kernel
theorem dX10_word_11 : decode cX10_word 11 = .ok (.imul, 1) := by decide +kernel
theorem dX10_word_12 : decode cX10_word 12 = .ok (.iadd, 1) := by decide +kernel
theorem dX10_word_13 : decode cX10_word 13 = .ok (.iaload, 1) := by decide +kernel
theorem dX10_word_14 : decode cX10_word 14 = .ok (.imul, 1) := by decide +kernel
theorem dX10_word_15 : decode cX10_word 15 = .ok (.aload_n 0, 1) := by decide +kernel
theorem dX10_word_16 : decode cX10_word 16 = .ok (.getfield 22, 3) := by decide +kernel
theorem dX10_word_19 : decode cX10_word 19 = .ok (.bipush 7, 2) := by decide +kernel
theorem dX10_word_21 : decode cX10_word 21 = .ok (.iconst 2, 1) := by decide +kernel
theorem dX10_word_22 : decode cX10_word 22 = .ok (.iload_n 1, 1) := by decide +kernel
theorem dX10_word_23 : decode cX10_word 23 = .ok (.imul, 1) := by decide +kernel
theorem dX10_word_24 : decode cX10_word 24 = .ok (.iadd, 1) := by decide +kernel
theorem dX10_word_25 : decode cX10_word 25 = .ok (.iaload, 1) := by decide +kernel
theorem dX10_word_26 : decode cX10_word 26 = .ok (.iadd, 1) := by decide +kernel
theorem dX10_word_27 : decode cX10_word 27 = .ok (.ireturn, 1) := by decide +kernel
theorem dX10_settles_0 : decode cX10_settles 0 = .ok (.aload_n 0, 1) := by decide +kernel
theorem dX10_settles_1 : decode cX10_settles 1 = .ok (.getfield 108, 3) := by decide +kernel
theorem dX10_settles_4 : decode cX10_settles 4 = .ok (.istore_n 2, 1) := by decide +kernel
theorem dX10_settles_5 : decode cX10_settles 5 = .ok (.iload_n 2, 1) := by decide +kernel
theorem dX10_settles_6 : decode cX10_settles 6 = .ok (.aload_n 0, 1) := by decide +kernel
theorem dX10_settles_7 : decode cX10_settles 7 = .ok (.getfield 111, 3) := by decide +kernel
theorem dX10_settles_10 : decode cX10_settles 10 = .ok (.if_icmp .ge 49, 3) := by decide +kernel
theorem dX10_settles_13 : decode cX10_settles 13 = .ok (.iload_n 1, 1) := by decide +kernel
theorem dX10_settles_14 : decode cX10_settles 14 = .ok (.ifCond .ne 39, 3) := by decide +kernel
theorem dX10_settles_17 : decode cX10_settles 17 = .ok (.aload_n 0, 1) := by decide +kernel
theorem dX10_settles_18 : decode cX10_settles 18 = .ok (.iload_n 2, 1) := by decide +kernel
theorem dX10_settles_19 : decode cX10_settles 19 = .ok (.aload_n 0, 1) := by decide +kernel
theorem dX10_settles_20 : decode cX10_settles 20 = .ok (.getfield 101, 3) := by decide +kernel
theorem dX10_settles_23 : decode cX10_settles 23 = .ok (.ifCond .eq 17, 3) := by decide +kernel
theorem dX10_settles_26 : decode cX10_settles 26 = .ok (.aload_n 0, 1) := by decide +kernel
theorem dX10_settles_27 : decode cX10_settles 27 = .ok (.getfield 19, 3) := by decide +kernel
theorem dX10_settles_30 : decode cX10_settles 30 = .ok (.iload_n 2, 1) := by decide +kernel
theorem dX10_settles_31 : decode cX10_settles 31 = .ok (.aload_n 0, 1) := by decide +kernel
theorem dX10_settles_32 : decode cX10_settles 32 = .ok (.getfield 108, 3) := by decide +kernel
theorem dX10_settles_35 : decode cX10_settles 35 = .ok (.isub, 1) := by decide +kernel
theorem dX10_settles_36 : decode cX10_settles 36 = .ok (.iaload, 1) := by decide +kernel
theorem dX10_settles_37 : decode cX10_settles 37 = .ok (.goto 13, 3) := by decide +kernel
theorem dX10_settles_40 : decode cX10_settles 40 = .ok (.aload_n 0, 1) := by decide +kernel
theorem dX10_settles_41 : decode cX10_settles 41 = .ok (.iload_n 2, 1) := by decide +kernel
theorem dX10_settles_42 : decode cX10_settles 42 = .ok (.aload_n 0, 1) := by decide +kernel
theorem dX10_settles_43 : decode cX10_settles 43 = .ok (.getfield 108, 3) := by decide +kernel
theorem dX10_settles_46 : decode cX10_settles 46 = .ok (.isub, 1) := by decide +kernel
theorem dX10_settles_47 : decode cX10_settles 47 = .ok (.invokevirtual 170, 3) := by decide +kernel
theorem dX10_settles_50 : decode cX10_settles 50 = .ok (.invokevirtual 173, 3) := by decide +kernel
theorem dX10_settles_53 : decode cX10_settles 53 = .ok (.iinc 2 1, 3) := by decide +kernel
theorem dX10_settles_56 : decode cX10_settles 56 = .ok (.goto (-51), 3) := by decide +kernel
theorem dX10_settles_59 : decode cX10_settles 59 = .ok (.iconst 0, 1) := by decide +kernel
theorem dX10_settles_60 : decode cX10_settles 60 = .ok (.istore_n 2, 1) := by decide +kernel
theorem dX10_settles_61 : decode cX10_settles 61 = .ok (.aload_n 0, 1) := by decide +kernel
theorem dX10_settles_62 : decode cX10_settles 62 = .ok (.getfield 105, 3) := by decide +kernel
theorem dX10_settles_65 : decode cX10_settles 65 = .ok (.istore_n 3, 1) := by decide +kernel
theorem dX10_settles_66 : decode cX10_settles 66 = .ok (.iload_n 3, 1) := by decide +kernel
theorem dX10_settles_67 : decode cX10_settles 67 = .ok (.aload_n 0, 1) := by decide +kernel
theorem dX10_settles_68 : decode cX10_settles 68 = .ok (.getfield 7, 3) := by decide +kernel
theorem dX10_settles_71 : decode cX10_settles 71 = .ok (.bipush 6, 2) := by decide +kernel
theorem dX10_settles_73 : decode cX10_settles 73 = .ok (.iaload, 1) := by decide +kernel
theorem dX10_settles_74 : decode cX10_settles 74 = .ok (.if_icmp .ge 156, 3) := by decide +kernel
theorem dX10_settles_77 : decode cX10_settles 77 = .ok (.aload_n 0, 1) := by decide +kernel
theorem dX10_settles_78 : decode cX10_settles 78 = .ok (.getfield 94, 3) := by decide +kernel
theorem dX10_settles_81 : decode cX10_settles 81 = .ok (.iload_n 3, 1) := by decide +kernel
theorem dX10_settles_82 : decode cX10_settles 82 = .ok (.lshr, 1) := by decide +kernel
theorem dX10_settles_83 : decode cX10_settles 83 = .ok (.lconst 1, 1) := by decide +kernel
theorem dX10_settles_84 : decode cX10_settles 84 = .ok (.land, 1) := by decide +kernel
theorem dX10_settles_85 : decode cX10_settles 85 = .ok (.lconst 1, 1) := by decide +kernel
theorem dX10_settles_86 : decode cX10_settles 86 = .ok (.lcmp, 1) := by decide +kernel
theorem dX10_settles_87 : decode cX10_settles 87 = .ok (.ifCond .ne 137, 3) := by decide +kernel
theorem dX10_settles_90 : decode cX10_settles 90 = .ok (.aload_n 0, 1) := by decide +kernel
theorem dX10_settles_91 : decode cX10_settles 91 = .ok (.getfield 7, 3) := by decide +kernel
theorem dX10_settles_94 : decode cX10_settles 94 = .ok (.iload_n 3, 1) := by decide +kernel
theorem dX10_settles_95 : decode cX10_settles 95 = .ok (.invokestatic 61, 3) := by decide +kernel
theorem dX10_settles_98 : decode cX10_settles 98 = .ok (.iconst 2, 1) := by decide +kernel
theorem dX10_settles_99 : decode cX10_settles 99 = .ok (.iadd, 1) := by decide +kernel
theorem dX10_settles_100 : decode cX10_settles 100 = .ok (.iaload, 1) := by decide +kernel
theorem dX10_settles_101 : decode cX10_settles 101 = .ok (.istore 4, 2) := by decide +kernel
theorem dX10_settles_103 : decode cX10_settles 103 = .ok (.iconst 0, 1) := by decide +kernel
theorem dX10_settles_104 : decode cX10_settles 104 = .ok (.istore 5, 2) := by decide +kernel
theorem dX10_settles_106 : decode cX10_settles 106 = .ok (.iload 5, 2) := by decide +kernel
theorem dX10_settles_108 : decode cX10_settles 108 = .ok (.aload_n 0, 1) := by decide +kernel
theorem dX10_settles_109 : decode cX10_settles 109 = .ok (.getfield 7, 3) := by decide +kernel
theorem dX10_settles_112 : decode cX10_settles 112 = .ok (.iload_n 3, 1) := by decide +kernel
theorem dX10_settles_113 : decode cX10_settles 113 = .ok (.invokestatic 61, 3) := by decide +kernel
theorem dX10_settles_116 : decode cX10_settles 116 = .ok (.iconst 3, 1) := by decide +kernel
theorem dX10_settles_117 : decode cX10_settles 117 = .ok (.iadd, 1) := by decide +kernel
theorem dX10_settles_118 : decode cX10_settles 118 = .ok (.iaload, 1) := by decide +kernel
theorem dX10_settles_119 : decode cX10_settles 119 = .ok (.if_icmp .ge 87, 3) := by decide +kernel
theorem dX10_settles_122 : decode cX10_settles 122 = .ok (.aload_n 0, 1) := by decide +kernel
theorem dX10_settles_123 : decode cX10_settles 123 = .ok (.getfield 7, 3) := by decide +kernel
theorem dX10_settles_126 : decode cX10_settles 126 = .ok (.sipush 760, 3) := by decide +kernel
theorem dX10_settles_129 : decode cX10_settles 129 = .ok (.bipush 16, 2) := by decide +kernel
theorem dX10_settles_131 : decode cX10_settles 131 = .ok (.iload_n 3, 1) := by decide +kernel
theorem dX10_settles_132 : decode cX10_settles 132 = .ok (.imul, 1) := by decide +kernel
theorem dX10_settles_133 : decode cX10_settles 133 = .ok (.iadd, 1) := by decide +kernel
theorem dX10_settles_134 : decode cX10_settles 134 = .ok (.iload 5, 2) := by decide +kernel
theorem dX10_settles_136 : decode cX10_settles 136 = .ok (.iadd, 1) := by decide +kernel
theorem dX10_settles_137 : decode cX10_settles 137 = .ok (.iload_n 1, 1) := by decide +kernel
theorem dX10_settles_138 : decode cX10_settles 138 = .ok (.ifCond .ne 27, 3) := by decide +kernel
theorem dX10_settles_141 : decode cX10_settles 141 = .ok (.aload_n 0, 1) := by decide +kernel
theorem dX10_settles_142 : decode cX10_settles 142 = .ok (.getfield 101, 3) := by decide +kernel
theorem dX10_settles_145 : decode cX10_settles 145 = .ok (.ifCond .ne 20, 3) := by decide +kernel
theorem dX10_settles_148 : decode cX10_settles 148 = .ok (.aload_n 0, 1) := by decide +kernel
theorem dX10_settles_149 : decode cX10_settles 149 = .ok (.iload 4, 2) := by decide +kernel
theorem dX10_settles_151 : decode cX10_settles 151 = .ok (.aload_n 0, 1) := by decide +kernel
theorem dX10_settles_152 : decode cX10_settles 152 = .ok (.getfield 108, 3) := by decide +kernel
theorem dX10_settles_155 : decode cX10_settles 155 = .ok (.isub, 1) := by decide +kernel
theorem dX10_settles_156 : decode cX10_settles 156 = .ok (.iload 5, 2) := by decide +kernel
theorem dX10_settles_158 : decode cX10_settles 158 = .ok (.iadd, 1) := by decide +kernel
theorem dX10_settles_159 : decode cX10_settles 159 = .ok (.invokevirtual 170, 3) := by decide +kernel
theorem dX10_settles_162 : decode cX10_settles 162 = .ok (.goto 4, 3) := by decide +kernel
theorem dX10_settles_165 : decode cX10_settles 165 = .ok (.iconst 0, 1) := by decide +kernel
theorem dX10_settles_166 : decode cX10_settles 166 = .ok (.iastore, 1) := by decide +kernel
theorem dX10_settles_167 : decode cX10_settles 167 = .ok (.iload_n 1, 1) := by decide +kernel
theorem dX10_settles_168 : decode cX10_settles 168 = .ok (.ifCond .le 32, 3) := by decide +kernel
theorem dX10_settles_171 : decode cX10_settles 171 = .ok (.aload_n 0, 1) := by decide +kernel
theorem dX10_settles_172 : decode cX10_settles 172 = .ok (.getfield 101, 3) := by decide +kernel
theorem dX10_settles_175 : decode cX10_settles 175 = .ok (.ifCond .eq 25, 3) := by decide +kernel
theorem dX10_settles_178 : decode cX10_settles 178 = .ok (.iload 4, 2) := by decide +kernel
theorem dX10_settles_180 : decode cX10_settles 180 = .ok (.bipush 32, 2) := by decide +kernel
theorem dX10_settles_182 : decode cX10_settles 182 = .ok (.if_icmp .ge 18, 3) := by decide +kernel
theorem dX10_settles_185 : decode cX10_settles 185 = .ok (.aload_n 0, 1) := by decide +kernel
theorem dX10_settles_186 : decode cX10_settles 186 = .ok (.getfield 7, 3) := by decide +kernel
theorem dX10_settles_189 : decode cX10_settles 189 = .ok (.aload_n 0, 1) := by decide +kernel
theorem dX10_settles_190 : decode cX10_settles 190 = .ok (.getfield 91, 3) := by decide +kernel
theorem dX10_settles_193 : decode cX10_settles 193 = .ok (.iload 4, 2) := by decide +kernel
theorem dX10_settles_195 : decode cX10_settles 195 = .ok (.invokestatic 79, 3) := by decide +kernel
theorem dX10_settles_198 : decode cX10_settles 198 = .ok (.iconst 0, 1) := by decide +kernel
theorem dX10_settles_199 : decode cX10_settles 199 = .ok (.iastore, 1) := by decide +kernel
theorem dX10_settles_200 : decode cX10_settles 200 = .ok (.iinc 5 1, 3) := by decide +kernel
theorem dX10_settles_203 : decode cX10_settles 203 = .ok (.goto (-97), 3) := by decide +kernel
theorem dX10_settles_206 : decode cX10_settles 206 = .ok (.aload_n 0, 1) := by decide +kernel
theorem dX10_settles_207 : decode cX10_settles 207 = .ok (.iload_n 3, 1) := by decide +kernel
theorem dX10_settles_208 : decode cX10_settles 208 = .ok (.iload_n 1, 1) := by decide +kernel
theorem dX10_settles_209 : decode cX10_settles 209 = .ok (.ifCond .ne 7, 3) := by decide +kernel
theorem dX10_settles_212 : decode cX10_settles 212 = .ok (.iconst 1, 1) := by decide +kernel
theorem dX10_settles_213 : decode cX10_settles 213 = .ok (.goto 4, 3) := by decide +kernel
theorem dX10_settles_216 : decode cX10_settles 216 = .ok (.iconst 2, 1) := by decide +kernel
theorem dX10_settles_217 : decode cX10_settles 217 = .ok (.iload_n 1, 1) := by decide +kernel
theorem dX10_settles_218 : decode cX10_settles 218 = .ok (.invokevirtual 166, 3) := by decide +kernel
theorem dX10_settles_221 : decode cX10_settles 221 = .ok (.iinc 2 1, 3) := by decide +kernel
theorem dX10_settles_224 : decode cX10_settles 224 = .ok (.iinc 3 1, 3) := by decide +kernel
theorem dX10_settles_227 : decode cX10_settles 227 = .ok (.goto (-161), 3) := by decide +kernel
theorem dX10_settles_230 : decode cX10_settles 230 = .ok (.aload_n 0, 1) := by decide +kernel
theorem dX10_settles_231 : decode cX10_settles 231 = .ok (.getfield 7, 3) := by decide +kernel
theorem dX10_settles_234 : decode cX10_settles 234 = .ok (.bipush 15, 2) := by decide +kernel
theorem dX10_settles_236 : decode cX10_settles 236 = .ok (.dup2, 1) := by decide +kernel
theorem dX10_settles_237 : decode cX10_settles 237 = .ok (.iaload, 1) := by decide +kernel
theorem dX10_settles_238 : decode cX10_settles 238 = .ok (.iload_n 2, 1) := by decide +kernel
theorem dX10_settles_239 : decode cX10_settles 239 = .ok (.iconst 1, 1) := by decide +kernel
theorem dX10_settles_240 : decode cX10_settles 240 = .ok (.isub, 1) := by decide +kernel
theorem dX10_settles_241 : decode cX10_settles 241 = .ok (.iadd, 1) := by decide +kernel
theorem dX10_settles_242 : decode cX10_settles 242 = .ok (.iastore, 1) := by decide +kernel
theorem dX10_settles_243 : decode cX10_settles 243 = .ok (.iload_n 2, 1) := by decide +kernel
theorem dX10_settles_244 : decode cX10_settles 244 = .ok (.ireturn, 1) := by decide +kernel
theorem dX10_steps_0 : decode cX10_steps 0 = .ok (.aload_n 0, 1) := by decide +kernel
theorem dX10_steps_1 : decode cX10_steps 1 = .ok (.invokevirtual 177, 3) := by decide +kernel
theorem dX10_steps_4 : decode cX10_steps 4 = .ok (.istore_n 1, 1) := by decide +kernel
theorem dX10_steps_5 : decode cX10_steps 5 = .ok (.iload_n 1, 1) := by decide +kernel
theorem dX10_steps_6 : decode cX10_steps 6 = .ok (.ifCond .ge 5, 3) := by decide +kernel
theorem dX10_steps_9 : decode cX10_steps 9 = .ok (.iconst 0, 1) := by decide +kernel
theorem dX10_steps_10 : decode cX10_steps 10 = .ok (.ireturn, 1) := by decide +kernel
theorem dX10_steps_11 : decode cX10_steps 11 = .ok (.aload_n 0, 1) := by decide +kernel
theorem dX10_steps_12 : decode cX10_steps 12 = .ok (.iload_n 1, 1) := by decide +kernel
theorem dX10_steps_13 : decode cX10_steps 13 = .ok (.invokevirtual 180, 3) := by decide +kernel
theorem dX10_steps_16 : decode cX10_steps 16 = .ok (.ifCond .eq 9, 3) := by decide +kernel
theorem dX10_steps_19 : decode cX10_steps 19 = .ok (.aload_n 0, 1) := by decide +kernel
theorem dX10_steps_20 : decode cX10_steps 20 = .ok (.iload_n 1, 1) := by decide +kernel
theorem dX10_steps_21 : decode cX10_steps 21 = .ok (.invokevirtual 183, 3) := by decide +kernel
theorem dX10_steps_24 : decode cX10_steps 24 = .ok (.ireturn, 1) := by decide +kernel
theorem dX10_steps_25 : decode cX10_steps 25 = .ok (.aload_n 0, 1) := by decide +kernel
theorem dX10_steps_26 : decode cX10_steps 26 = .ok (.iload_n 1, 1) := by decide +kernel
theorem dX10_steps_27 : decode cX10_steps 27 = .ok (.invokevirtual 186, 3) := by decide +kernel
theorem dX10_steps_30 : decode cX10_steps 30 = .ok (.aload_n 0, 1) := by decide +kernel
theorem dX10_steps_31 : decode cX10_steps 31 = .ok (.invokevirtual 189, 3) := by decide +kernel
theorem dX10_steps_34 : decode cX10_steps 34 = .ok (.istore_n 2, 1) := by decide +kernel
theorem dX10_steps_35 : decode cX10_steps 35 = .ok (.aload_n 0, 1) := by decide +kernel
theorem dX10_steps_36 : decode cX10_steps 36 = .ok (.iload_n 2, 1) := by decide +kernel
theorem dX10_steps_37 : decode cX10_steps 37 = .ok (.ifCond .ne 8, 3) := by decide +kernel
theorem dX10_steps_40 : decode cX10_steps 40 = .ok (.bipush 11, 2) := by decide +kernel
theorem dX10_steps_42 : decode cX10_steps 42 = .ok (.goto 25, 3) := by decide +kernel
theorem dX10_steps_45 : decode cX10_steps 45 = .ok (.aload_n 0, 1) := by decide +kernel
theorem dX10_steps_46 : decode cX10_steps 46 = .ok (.getfield 22, 3) := by decide +kernel
theorem dX10_steps_49 : decode cX10_steps 49 = .ok (.iconst 4, 1) := by decide +kernel
theorem dX10_steps_50 : decode cX10_steps 50 = .ok (.iaload, 1) := by decide +kernel
theorem dX10_steps_51 : decode cX10_steps 51 = .ok (.sipush 128, 3) := by decide +kernel
theorem dX10_steps_54 : decode cX10_steps 54 = .ok (.if_icmp .le 12, 3) := by decide +kernel
theorem dX10_steps_57 : decode cX10_steps 57 = .ok (.aload_n 0, 1) := by decide +kernel
theorem dX10_steps_58 : decode cX10_steps 58 = .ok (.getfield 22, 3) := by decide +kernel
theorem dX10_steps_61 : decode cX10_steps 61 = .ok (.iconst 5, 1) := by decide +kernel
theorem dX10_steps_62 : decode cX10_steps 62 = .ok (.iaload, 1) := by decide +kernel
theorem dX10_steps_63 : decode cX10_steps 63 = .ok (.goto 4, 3) := by decide +kernel
theorem dX10_steps_66 : decode cX10_steps 66 = .ok (.iconst 0, 1) := by decide +kernel
theorem dX10_steps_67 : decode cX10_steps 67 = .ok (.invokevirtual 192, 3) := by decide +kernel
theorem dX10_steps_70 : decode cX10_steps 70 = .ok (.ireturn, 1) := by decide +kernel
theorem dX10_step_0 : decode cX10_step 0 = .ok (.aload_n 0, 1) := by decide +kernel
theorem dX10_step_1 : decode cX10_step 1 = .ok (.iconst 0, 1) := by decide +kernel
theorem dX10_step_2 : decode cX10_step 2 = .ok (.putfield 36, 3) := by decide +kernel
theorem dX10_step_5 : decode cX10_step 5 = .ok (.aload_n 0, 1) := by decide +kernel
theorem dX10_step_6 : decode cX10_step 6 = .ok (.invokevirtual 195, 3) := by decide +kernel
theorem dX10_step_9 : decode cX10_step 9 = .ok (.ireturn, 1) := by decide +kernel
theorem dX10_stepsAll_0 : decode cX10_stepsAll 0 = .ok (.iconst 1, 1) := by decide +kernel
theorem dX10_stepsAll_1 : decode cX10_stepsAll 1 = .ok (.istore_n 1, 1) := by decide +kernel
theorem dX10_stepsAll_2 : decode cX10_stepsAll 2 = .ok (.iload_n 1, 1) := by decide +kernel
theorem dX10_stepsAll_3 : decode cX10_stepsAll 3 = .ok (.ifCond .le 11, 3) := by decide +kernel
theorem dX10_stepsAll_6 : decode cX10_stepsAll 6 = .ok (.aload_n 0, 1) := by decide +kernel
theorem dX10_stepsAll_7 : decode cX10_stepsAll 7 = .ok (.invokevirtual 195, 3) := by decide +kernel
theorem dX10_stepsAll_10 : decode cX10_stepsAll 10 = .ok (.istore_n 1, 1) := by decide +kernel
theorem dX10_stepsAll_11 : decode cX10_stepsAll 11 = .ok (.goto (-9), 3) := by decide +kernel
theorem dX10_stepsAll_14 : decode cX10_stepsAll 14 = .ok (.return_, 1) := by decide +kernel
theorem dX10_finish_0 : decode cX10_finish 0 = .ok (.aload_n 0, 1) := by decide +kernel
theorem dX10_finish_1 : decode cX10_finish 1 = .ok (.iconst 0, 1) := by decide +kernel
theorem dX10_finish_2 : decode cX10_finish 2 = .ok (.putfield 36, 3) := by decide +kernel
theorem dX10_finish_5 : decode cX10_finish 5 = .ok (.aload_n 0, 1) := by decide +kernel
theorem dX10_finish_6 : decode cX10_finish 6 = .ok (.invokevirtual 198, 3) := by decide +kernel
theorem dX10_finish_9 : decode cX10_finish 9 = .ok (.aload_n 0, 1) := by decide +kernel
theorem dX10_finish_10 : decode cX10_finish 10 = .ok (.getfield 7, 3) := by decide +kernel
theorem dX10_finish_13 : decode cX10_finish 13 = .ok (.iconst 0, 1) := by decide +kernel
theorem dX10_finish_14 : decode cX10_finish 14 = .ok (.iaload, 1) := by decide +kernel
theorem dX10_finish_15 : decode cX10_finish 15 = .ok (.ireturn, 1) := by decide +kernel
theorem dX10_pass_0 : decode cX10_pass 0 = .ok (.aload_n 0, 1) := by decide +kernel
theorem dX10_pass_1 : decode cX10_pass 1 = .ok (.iload_n 1, 1) := by decide +kernel
theorem dX10_pass_2 : decode cX10_pass 2 = .ok (.iconst 0, 1) := by decide +kernel
theorem dX10_pass_3 : decode cX10_pass 3 = .ok (.sipush 10000, 3) := by decide +kernel
theorem dX10_pass_6 : decode cX10_pass 6 = .ok (.invokestatic 39, 3) := by decide +kernel
theorem dX10_pass_9 : decode cX10_pass 9 = .ok (.ifCond .ne 7, 3) := by decide +kernel
theorem dX10_pass_12 : decode cX10_pass 12 = .ok (.iconst 1, 1) := by decide +kernel
theorem dX10_pass_13 : decode cX10_pass 13 = .ok (.goto 21, 3) := by decide +kernel
theorem dX10_pass_16 : decode cX10_pass 16 = .ok (.aload_n 0, 1) := by decide +kernel
theorem dX10_pass_17 : decode cX10_pass 17 = .ok (.getfield 7, 3) := by decide +kernel
theorem dX10_pass_20 : decode cX10_pass 20 = .ok (.iconst 0, 1) := by decide +kernel
theorem dX10_pass_21 : decode cX10_pass 21 = .ok (.iaload, 1) := by decide +kernel
theorem dX10_pass_22 : decode cX10_pass 22 = .ok (.iload_n 1, 1) := by decide +kernel
theorem dX10_pass_23 : decode cX10_pass 23 = .ok (.iadd, 1) := by decide +kernel
theorem dX10_pass_24 : decode cX10_pass 24 = .ok (.ldc 201, 2) := by decide +kernel
theorem dX10_pass_26 : decode cX10_pass 26 = .ok (.if_icmp .le 7, 3) := by decide +kernel
theorem dX10_pass_29 : decode cX10_pass 29 = .ok (.iconst 2, 1) := by decide +kernel
theorem dX10_pass_30 : decode cX10_pass 30 = .ok (.goto 4, 3) := by decide +kernel
theorem dX10_pass_33 : decode cX10_pass 33 = .ok (.iconst 0, 1) := by decide +kernel
theorem dX10_pass_34 : decode cX10_pass 34 = .ok (.putfield 36, 3) := by decide +kernel
theorem dX10_pass_37 : decode cX10_pass 37 = .ok (.aload_n 0, 1) := by decide +kernel
theorem dX10_pass_38 : decode cX10_pass 38 = .ok (.getfield 7, 3) := by decide +kernel
theorem dX10_pass_41 : decode cX10_pass 41 = .ok (.iconst 0, 1) := by decide +kernel
theorem dX10_pass_42 : decode cX10_pass 42 = .ok (.dup2, 1) := by decide +kernel
theorem dX10_pass_43 : decode cX10_pass 43 = .ok (.iaload, 1) := by decide +kernel
theorem dX10_pass_44 : decode cX10_pass 44 = .ok (.aload_n 0, 1) := by decide +kernel
theorem dX10_pass_45 : decode cX10_pass 45 = .ok (.getfield 36, 3) := by decide +kernel
theorem dX10_pass_48 : decode cX10_pass 48 = .ok (.ifCond .ne 7, 3) := by decide +kernel
theorem dX10_pass_51 : decode cX10_pass 51 = .ok (.iload_n 1, 1) := by decide +kernel
theorem dX10_pass_52 : decode cX10_pass 52 = .ok (.goto 4, 3) := by decide +kernel
theorem dX10_pass_55 : decode cX10_pass 55 = .ok (.iconst 0, 1) := by decide +kernel
theorem dX10_pass_56 : decode cX10_pass 56 = .ok (.iadd, 1) := by decide +kernel
theorem dX10_pass_57 : decode cX10_pass 57 = .ok (.iastore, 1) := by decide +kernel
theorem dX10_pass_58 : decode cX10_pass 58 = .ok (.aload_n 0, 1) := by decide +kernel
theorem dX10_pass_59 : decode cX10_pass 59 = .ok (.getfield 36, 3) := by decide +kernel
theorem dX10_pass_62 : decode cX10_pass 62 = .ok (.ifCond .ne 12, 3) := by decide +kernel
theorem dX10_pass_65 : decode cX10_pass 65 = .ok (.aload_n 0, 1) := by decide +kernel
theorem dX10_pass_66 : decode cX10_pass 66 = .ok (.getfield 7, 3) := by decide +kernel
theorem dX10_pass_69 : decode cX10_pass 69 = .ok (.iconst 0, 1) := by decide +kernel
theorem dX10_pass_70 : decode cX10_pass 70 = .ok (.iaload, 1) := by decide +kernel
theorem dX10_pass_71 : decode cX10_pass 71 = .ok (.goto 4, 3) := by decide +kernel
theorem dX10_pass_74 : decode cX10_pass 74 = .ok (.iconst 0, 1) := by decide +kernel
theorem dX10_pass_75 : decode cX10_pass 75 = .ok (.ireturn, 1) := by decide +kernel
theorem dX10_time_0 : decode cX10_time 0 = .ok (.aload_n 0, 1) := by decide +kernel
theorem dX10_time_1 : decode cX10_time 1 = .ok (.iconst 0, 1) := by decide +kernel
theorem dX10_time_2 : decode cX10_time 2 = .ok (.putfield 36, 3) := by decide +kernel
theorem dX10_time_5 : decode cX10_time 5 = .ok (.aload_n 0, 1) := by decide +kernel
theorem dX10_time_6 : decode cX10_time 6 = .ok (.getfield 7, 3) := by decide +kernel
theorem dX10_time_9 : decode cX10_time 9 = .ok (.iconst 0, 1) := by decide +kernel
theorem dX10_time_10 : decode cX10_time 10 = .ok (.iaload, 1) := by decide +kernel
theorem dX10_time_11 : decode cX10_time 11 = .ok (.ireturn, 1) := by decide +kernel
theorem dX10_group_0 : decode cX10_group 0 = .ok (.aload_n 0, 1) := by decide +kernel
theorem dX10_group_1 : decode cX10_group 1 = .ok (.iconst 0, 1) := by decide +kernel
theorem dX10_group_2 : decode cX10_group 2 = .ok (.putfield 36, 3) := by decide +kernel
theorem dX10_group_5 : decode cX10_group 5 = .ok (.aload_n 0, 1) := by decide +kernel
theorem dX10_group_6 : decode cX10_group 6 = .ok (.invokevirtual 177, 3) := by decide +kernel
theorem dX10_group_9 : decode cX10_group 9 = .ok (.istore_n 1, 1) := by decide +kernel
theorem dX10_group_10 : decode cX10_group 10 = .ok (.iload_n 1, 1) := by decide +kernel
theorem dX10_group_11 : decode cX10_group 11 = .ok (.ifCond .ge 5, 3) := by decide +kernel
theorem dX10_group_14 : decode cX10_group 14 = .ok (.lconst 0, 1) := by decide +kernel
theorem dX10_group_15 : decode cX10_group 15 = .ok (.lreturn, 1) := by decide +kernel
theorem dX10_group_16 : decode cX10_group 16 = .ok (.aload_n 0, 1) := by decide +kernel
theorem dX10_group_17 : decode cX10_group 17 = .ok (.iload_n 1, 1) := by decide +kernel
theorem dX10_group_18 : decode cX10_group 18 = .ok (.invokevirtual 180, 3) := by decide +kernel
theorem dX10_group_21 : decode cX10_group 21 = .ok (.ifCond .eq 7, 3) := by decide +kernel
theorem dX10_group_24 : decode cX10_group 24 = .ok (.lconst 1, 1) := by decide +kernel
theorem dX10_group_25 : decode cX10_group 25 = .ok (.iload_n 1, 1) := by decide +kernel
theorem dX10_group_26 : decode cX10_group 26 = .ok (.lshl, 1) := by decide +kernel
theorem dX10_group_27 : decode cX10_group 27 = .ok (.lreturn, 1) := by decide +kernel
theorem dX10_group_28 : decode cX10_group 28 = .ok (.aload_n 0, 1) := by decide +kernel
theorem dX10_group_29 : decode cX10_group 29 = .ok (.iload_n 1, 1) := by decide +kernel
theorem dX10_group_30 : decode cX10_group 30 = .ok (.invokevirtual 186, 3) := by decide +kernel
theorem dX10_group_33 : decode cX10_group 33 = .ok (.aload_n 0, 1) := by decide +kernel
theorem dX10_group_34 : decode cX10_group 34 = .ok (.getfield 94, 3) := by decide +kernel
theorem dX10_group_37 : decode cX10_group 37 = .ok (.lreturn, 1) := by decide +kernel
theorem dX10_frameByte_0 : decode cX10_frameByte 0 = .ok (.aload_n 0, 1) := by decide +kernel
theorem dX10_frameByte_1 : decode cX10_frameByte 1 = .ok (.iconst 0, 1) := by decide +kernel
theorem dX10_frameByte_2 : decode cX10_frameByte 2 = .ok (.putfield 36, 3) := by decide +kernel
theorem dX10_frameByte_5 : decode cX10_frameByte 5 = .ok (.iload_n 1, 1) := by decide +kernel
theorem dX10_frameByte_6 : decode cX10_frameByte 6 = .ok (.ifCond .ge 9, 3) := by decide +kernel
theorem dX10_frameByte_9 : decode cX10_frameByte 9 = .ok (.aload_n 0, 1) := by decide +kernel
theorem dX10_frameByte_10 : decode cX10_frameByte 10 = .ok (.iconst 1, 1) := by decide +kernel
theorem dX10_frameByte_11 : decode cX10_frameByte 11 = .ok (.invokevirtual 43, 3) := by decide +kernel
theorem dX10_frameByte_14 : decode cX10_frameByte 14 = .ok (.ireturn, 1) := by decide +kernel
theorem dX10_frameByte_15 : decode cX10_frameByte 15 = .ok (.aload_n 0, 1) := by decide +kernel
theorem dX10_frameByte_16 : decode cX10_frameByte 16 = .ok (.invokevirtual 177, 3) := by decide +kernel
theorem dX10_frameByte_19 : decode cX10_frameByte 19 = .ok (.istore_n 2, 1) := by decide +kernel
theorem dX10_frameByte_20 : decode cX10_frameByte 20 = .ok (.iload_n 2, 1) := by decide +kernel
theorem dX10_frameByte_21 : decode cX10_frameByte 21 = .ok (.ifCond .lt 11, 3) := by decide +kernel
theorem dX10_frameByte_24 : decode cX10_frameByte 24 = .ok (.aload_n 0, 1) := by decide +kernel
theorem dX10_frameByte_25 : decode cX10_frameByte 25 = .ok (.iload_n 2, 1) := by decide +kernel
theorem dX10_frameByte_26 : decode cX10_frameByte 26 = .ok (.invokevirtual 180, 3) := by decide +kernel
theorem dX10_frameByte_29 : decode cX10_frameByte 29 = .ok (.ifCond .eq 5, 3) := by decide +kernel
theorem dX10_frameByte_32 : decode cX10_frameByte 32 = .ok (.iconst (-1), 1) := by decide +kernel
theorem dX10_frameByte_33 : decode cX10_frameByte 33 = .ok (.ireturn, 1) := by decide +kernel
theorem dX10_frameByte_34 : decode cX10_frameByte 34 = .ok (.aload_n 0, 1) := by decide +kernel
theorem dX10_frameByte_35 : decode cX10_frameByte 35 = .ok (.iload_n 2, 1) := by decide +kernel
theorem dX10_frameByte_36 : decode cX10_frameByte 36 = .ok (.invokevirtual 186, 3) := by decide +kernel
theorem dX10_frameByte_39 : decode cX10_frameByte 39 = .ok (.aload_n 0, 1) := by decide +kernel
theorem dX10_frameByte_40 : decode cX10_frameByte 40 = .ok (.invokevirtual 147, 3) := by decide +kernel
theorem dX10_frameByte_43 : decode cX10_frameByte 43 = .ok (.iload_n 1, 1) := by decide +kernel
theorem dX10_frameByte_44 : decode cX10_frameByte 44 = .ok (.aload_n 0, 1) := by decide +kernel
theorem dX10_frameByte_45 : decode cX10_frameByte 45 = .ok (.getfield 118, 3) := by decide +kernel
theorem dX10_frameByte_48 : decode cX10_frameByte 48 = .ok (.if_icmp .ge 12, 3) := by decide +kernel
theorem dX10_frameByte_51 : decode cX10_frameByte 51 = .ok (.aload_n 0, 1) := by decide +kernel
theorem dX10_frameByte_52 : decode cX10_frameByte 52 = .ok (.getfield 16, 3) := by decide +kernel
theorem dX10_frameByte_55 : decode cX10_frameByte 55 = .ok (.iload_n 1, 1) := by decide +kernel
theorem dX10_frameByte_56 : decode cX10_frameByte 56 = .ok (.iaload, 1) := by decide +kernel
theorem dX10_frameByte_57 : decode cX10_frameByte 57 = .ok (.goto 4, 3) := by decide +kernel
theorem dX10_frameByte_60 : decode cX10_frameByte 60 = .ok (.iconst (-1), 1) := by decide +kernel
theorem dX10_frameByte_61 : decode cX10_frameByte 61 = .ok (.ireturn, 1) := by decide +kernel
theorem dX10_cacheAge_0 : decode cX10_cacheAge 0 = .ok (.aload_n 0, 1) := by decide +kernel
theorem dX10_cacheAge_1 : decode cX10_cacheAge 1 = .ok (.iconst 0, 1) := by decide +kernel
theorem dX10_cacheAge_2 : decode cX10_cacheAge 2 = .ok (.putfield 36, 3) := by decide +kernel
theorem dX10_cacheAge_5 : decode cX10_cacheAge 5 = .ok (.iload_n 1, 1) := by decide +kernel
theorem dX10_cacheAge_6 : decode cX10_cacheAge 6 = .ok (.iload_n 2, 1) := by decide +kernel
theorem dX10_cacheAge_7 : decode cX10_cacheAge 7 = .ok (.invokestatic 51, 3) := by decide +kernel
theorem dX10_cacheAge_10 : decode cX10_cacheAge 10 = .ok (.ifCond .ne 9, 3) := by decide +kernel
theorem dX10_cacheAge_13 : decode cX10_cacheAge 13 = .ok (.aload_n 0, 1) := by decide +kernel
theorem dX10_cacheAge_14 : decode cX10_cacheAge 14 = .ok (.iconst 1, 1) := by decide +kernel
theorem dX10_cacheAge_15 : decode cX10_cacheAge 15 = .ok (.invokevirtual 43, 3) := by decide +kernel
theorem dX10_cacheAge_18 : decode cX10_cacheAge 18 = .ok (.ireturn, 1) := by decide +kernel
theorem dX10_cacheAge_19 : decode cX10_cacheAge 19 = .ok (.iload_n 1, 1) := by decide +kernel
theorem dX10_cacheAge_20 : decode cX10_cacheAge 20 = .ok (.iload_n 2, 1) := by decide +kernel
theorem dX10_cacheAge_21 : decode cX10_cacheAge 21 = .ok (.invokestatic 79, 3) := by decide +kernel
theorem dX10_cacheAge_24 : decode cX10_cacheAge 24 = .ok (.istore_n 3, 1) := by decide +kernel
theorem dX10_cacheAge_25 : decode cX10_cacheAge 25 = .ok (.aload_n 0, 1) := by decide +kernel
theorem dX10_cacheAge_26 : decode cX10_cacheAge 26 = .ok (.getfield 7, 3) := by decide +kernel
theorem dX10_cacheAge_29 : decode cX10_cacheAge 29 = .ok (.iload_n 3, 1) := by decide +kernel
theorem dX10_cacheAge_30 : decode cX10_cacheAge 30 = .ok (.iaload, 1) := by decide +kernel
theorem dX10_cacheAge_31 : decode cX10_cacheAge 31 = .ok (.iconst 1, 1) := by decide +kernel
theorem dX10_cacheAge_32 : decode cX10_cacheAge 32 = .ok (.if_icmp .ne 21, 3) := by decide +kernel
theorem dX10_cacheAge_35 : decode cX10_cacheAge 35 = .ok (.aload_n 0, 1) := by decide +kernel
theorem dX10_cacheAge_36 : decode cX10_cacheAge 36 = .ok (.getfield 7, 3) := by decide +kernel
theorem dX10_cacheAge_39 : decode cX10_cacheAge 39 = .ok (.iconst 0, 1) := by decide +kernel
theorem dX10_cacheAge_40 : decode cX10_cacheAge 40 = .ok (.iaload, 1) := by decide +kernel
theorem dX10_cacheAge_41 : decode cX10_cacheAge 41 = .ok (.aload_n 0, 1) := by decide +kernel
theorem dX10_cacheAge_42 : decode cX10_cacheAge 42 = .ok (.getfield 7, 3) := by decide +kernel
theorem dX10_cacheAge_45 : decode cX10_cacheAge 45 = .ok (.iload_n 3, 1) := by decide +kernel
theorem dX10_cacheAge_46 : decode cX10_cacheAge 46 = .ok (.iconst 2, 1) := by decide +kernel
theorem dX10_cacheAge_47 : decode cX10_cacheAge 47 = .ok (.iadd, 1) := by decide +kernel
theorem dX10_cacheAge_48 : decode cX10_cacheAge 48 = .ok (.iaload, 1) := by decide +kernel
theorem dX10_cacheAge_49 : decode cX10_cacheAge 49 = .ok (.isub, 1) := by decide +kernel
theorem dX10_cacheAge_50 : decode cX10_cacheAge 50 = .ok (.goto 4, 3) := by decide +kernel
theorem dX10_cacheAge_53 : decode cX10_cacheAge 53 = .ok (.iconst (-1), 1) := by decide +kernel
theorem dX10_cacheAge_54 : decode cX10_cacheAge 54 = .ok (.ireturn, 1) := by decide +kernel
theorem dX10_cachedAt_0 : decode cX10_cachedAt 0 = .ok (.iload_n 1, 1) := by decide +kernel
theorem dX10_cachedAt_1 : decode cX10_cachedAt 1 = .ok (.iload_n 2, 1) := by decide +kernel
theorem dX10_cachedAt_2 : decode cX10_cachedAt 2 = .ok (.invokestatic 79, 3) := by decide +kernel
theorem dX10_cachedAt_5 : decode cX10_cachedAt 5 = .ok (.istore_n 3, 1) := by decide +kernel
theorem dX10_cachedAt_6 : decode cX10_cachedAt 6 = .ok (.aload_n 0, 1) := by decide +kernel
theorem dX10_cachedAt_7 : decode cX10_cachedAt 7 = .ok (.getfield 7, 3) := by decide +kernel
theorem dX10_cachedAt_10 : decode cX10_cachedAt 10 = .ok (.iload_n 3, 1) := by decide +kernel
theorem dX10_cachedAt_11 : decode cX10_cachedAt 11 = .ok (.iaload, 1) := by decide +kernel
theorem dX10_cachedAt_12 : decode cX10_cachedAt 12 = .ok (.iconst 1, 1) := by decide +kernel
theorem dX10_cachedAt_13 : decode cX10_cachedAt 13 = .ok (.if_icmp .ne 14, 3) := by decide +kernel
theorem dX10_cachedAt_16 : decode cX10_cachedAt 16 = .ok (.aload_n 0, 1) := by decide +kernel
theorem dX10_cachedAt_17 : decode cX10_cachedAt 17 = .ok (.getfield 7, 3) := by decide +kernel
theorem dX10_cachedAt_20 : decode cX10_cachedAt 20 = .ok (.iload_n 3, 1) := by decide +kernel
theorem dX10_cachedAt_21 : decode cX10_cachedAt 21 = .ok (.iconst 1, 1) := by decide +kernel
theorem dX10_cachedAt_22 : decode cX10_cachedAt 22 = .ok (.iadd, 1) := by decide +kernel
theorem dX10_cachedAt_23 : decode cX10_cachedAt 23 = .ok (.iaload, 1) := by decide +kernel
theorem dX10_cachedAt_24 : decode cX10_cachedAt 24 = .ok (.goto 4, 3) := by decide +kernel
theorem dX10_cachedAt_27 : decode cX10_cachedAt 27 = .ok (.iconst (-1), 1) := by decide +kernel
theorem dX10_cachedAt_28 : decode cX10_cachedAt 28 = .ok (.ireturn, 1) := by decide +kernel
theorem dX10_cached_0 : decode cX10_cached 0 = .ok (.aload_n 0, 1) := by decide +kernel
theorem dX10_cached_1 : decode cX10_cached 1 = .ok (.iconst 0, 1) := by decide +kernel
theorem dX10_cached_2 : decode cX10_cached 2 = .ok (.putfield 36, 3) := by decide +kernel
theorem dX10_cached_5 : decode cX10_cached 5 = .ok (.iload_n 1, 1) := by decide +kernel
theorem dX10_cached_6 : decode cX10_cached 6 = .ok (.iload_n 2, 1) := by decide +kernel
theorem dX10_cached_7 : decode cX10_cached 7 = .ok (.invokestatic 51, 3) := by decide +kernel
theorem dX10_cached_10 : decode cX10_cached 10 = .ok (.ifCond .eq 12, 3) := by decide +kernel
theorem dX10_cached_13 : decode cX10_cached 13 = .ok (.aload_n 0, 1) := by decide +kernel
theorem dX10_cached_14 : decode cX10_cached 14 = .ok (.iload_n 1, 1) := by decide +kernel
theorem dX10_cached_15 : decode cX10_cached 15 = .ok (.iload_n 2, 1) := by decide +kernel
theorem dX10_cached_16 : decode cX10_cached 16 = .ok (.invokevirtual 202, 3) := by decide +kernel
theorem dX10_cached_19 : decode cX10_cached 19 = .ok (.goto 8, 3) := by decide +kernel
theorem dX10_cached_22 : decode cX10_cached 22 = .ok (.aload_n 0, 1) := by decide +kernel
theorem dX10_cached_23 : decode cX10_cached 23 = .ok (.iconst 1, 1) := by decide +kernel
theorem dX10_cached_24 : decode cX10_cached 24 = .ok (.invokevirtual 43, 3) := by decide +kernel
theorem dX10_cached_27 : decode cX10_cached 27 = .ok (.ireturn, 1) := by decide +kernel
theorem dX10_clearCache_0 : decode cX10_clearCache 0 = .ok (.aload_n 0, 1) := by decide +kernel
theorem dX10_clearCache_1 : decode cX10_clearCache 1 = .ok (.iconst 0, 1) := by decide +kernel
theorem dX10_clearCache_2 : decode cX10_clearCache 2 = .ok (.putfield 36, 3) := by decide +kernel
theorem dX10_clearCache_5 : decode cX10_clearCache 5 = .ok (.iconst 0, 1) := by decide +kernel
theorem dX10_clearCache_6 : decode cX10_clearCache 6 = .ok (.istore_n 1, 1) := by decide +kernel
theorem dX10_clearCache_7 : decode cX10_clearCache 7 = .ok (.iconst 0, 1) := by decide +kernel
theorem dX10_clearCache_8 : decode cX10_clearCache 8 = .ok (.istore_n 2, 1) := by decide +kernel
theorem dX10_clearCache_9 : decode cX10_clearCache 9 = .ok (.iload_n 2, 1) := by decide +kernel
theorem dX10_clearCache_10 : decode cX10_clearCache 10 = .ok (.bipush 96, 2) := by decide +kernel
theorem dX10_clearCache_12 : decode cX10_clearCache 12 = .ok (.if_icmp .ge 37, 3) := by decide +kernel
theorem dX10_clearCache_15 : decode cX10_clearCache 15 = .ok (.iload_n 1, 1) := by decide +kernel
theorem dX10_clearCache_16 : decode cX10_clearCache 16 = .ok (.aload_n 0, 1) := by decide +kernel
theorem dX10_clearCache_17 : decode cX10_clearCache 17 = .ok (.getfield 7, 3) := by decide +kernel
theorem dX10_clearCache_20 : decode cX10_clearCache 20 = .ok (.sipush 1400, 3) := by decide +kernel
theorem dX10_clearCache_23 : decode cX10_clearCache 23 = .ok (.iconst 3, 1) := by decide +kernel
theorem dX10_clearCache_24 : decode cX10_clearCache 24 = .ok (.iload_n 2, 1) := by decide +kernel
theorem dX10_clearCache_25 : decode cX10_clearCache 25 = .ok (.imul, 1) := by decide +kernel
theorem dX10_clearCache_26 : decode cX10_clearCache 26 = .ok (.iadd, 1) := by decide +kernel
theorem dX10_clearCache_27 : decode cX10_clearCache 27 = .ok (.iaload, 1) := by decide +kernel
theorem dX10_clearCache_28 : decode cX10_clearCache 28 = .ok (.iadd, 1) := by decide +kernel
theorem dX10_clearCache_29 : decode cX10_clearCache 29 = .ok (.istore_n 1, 1) := by decide +kernel
theorem dX10_clearCache_30 : decode cX10_clearCache 30 = .ok (.aload_n 0, 1) := by decide +kernel
theorem dX10_clearCache_31 : decode cX10_clearCache 31 = .ok (.getfield 7, 3) := by decide +kernel
theorem dX10_clearCache_34 : decode cX10_clearCache 34 = .ok (.sipush 1400, 3) := by decide +kernel
theorem dX10_clearCache_37 : decode cX10_clearCache 37 = .ok (.iconst 3, 1) := by decide +kernel
theorem dX10_clearCache_38 : decode cX10_clearCache 38 = .ok (.iload_n 2, 1) := by decide +kernel
theorem dX10_clearCache_39 : decode cX10_clearCache 39 = .ok (.imul, 1) := by decide +kernel
theorem dX10_clearCache_40 : decode cX10_clearCache 40 = .ok (.iadd, 1) := by decide +kernel
theorem dX10_clearCache_41 : decode cX10_clearCache 41 = .ok (.iconst 0, 1) := by decide +kernel
theorem dX10_clearCache_42 : decode cX10_clearCache 42 = .ok (.iastore, 1) := by decide +kernel
theorem dX10_clearCache_43 : decode cX10_clearCache 43 = .ok (.iinc 2 1, 3) := by decide +kernel
theorem dX10_clearCache_46 : decode cX10_clearCache 46 = .ok (.goto (-37), 3) := by decide +kernel
theorem dX10_clearCache_49 : decode cX10_clearCache 49 = .ok (.iload_n 1, 1) := by decide +kernel
theorem dX10_clearCache_50 : decode cX10_clearCache 50 = .ok (.ireturn, 1) := by decide +kernel
theorem dX10_count_0 : decode cX10_count 0 = .ok (.aload_n 0, 1) := by decide +kernel
theorem dX10_count_1 : decode cX10_count 1 = .ok (.iload_n 1, 1) := by decide +kernel
theorem dX10_count_2 : decode cX10_count 2 = .ok (.iconst 0, 1) := by decide +kernel
theorem dX10_count_3 : decode cX10_count 3 = .ok (.iconst 5, 1) := by decide +kernel
theorem dX10_count_4 : decode cX10_count 4 = .ok (.invokestatic 39, 3) := by decide +kernel
theorem dX10_count_7 : decode cX10_count 7 = .ok (.ifCond .eq 7, 3) := by decide +kernel
theorem dX10_count_10 : decode cX10_count 10 = .ok (.iconst 0, 1) := by decide +kernel
theorem dX10_count_11 : decode cX10_count 11 = .ok (.goto 4, 3) := by decide +kernel
theorem dX10_count_14 : decode cX10_count 14 = .ok (.iconst 1, 1) := by decide +kernel
theorem dX10_count_15 : decode cX10_count 15 = .ok (.putfield 36, 3) := by decide +kernel
theorem dX10_count_18 : decode cX10_count 18 = .ok (.aload_n 0, 1) := by decide +kernel
theorem dX10_count_19 : decode cX10_count 19 = .ok (.getfield 36, 3) := by decide +kernel
theorem dX10_count_22 : decode cX10_count 22 = .ok (.ifCond .ne 15, 3) := by decide +kernel
theorem dX10_count_25 : decode cX10_count 25 = .ok (.aload_n 0, 1) := by decide +kernel
theorem dX10_count_26 : decode cX10_count 26 = .ok (.getfield 7, 3) := by decide +kernel
theorem dX10_count_29 : decode cX10_count 29 = .ok (.bipush 10, 2) := by decide +kernel
theorem dX10_count_31 : decode cX10_count 31 = .ok (.iload_n 1, 1) := by decide +kernel
theorem dX10_count_32 : decode cX10_count 32 = .ok (.iadd, 1) := by decide +kernel
theorem dX10_count_33 : decode cX10_count 33 = .ok (.iaload, 1) := by decide +kernel
theorem dX10_count_34 : decode cX10_count 34 = .ok (.goto 4, 3) := by decide +kernel
theorem dX10_count_37 : decode cX10_count 37 = .ok (.iconst 0, 1) := by decide +kernel
theorem dX10_count_38 : decode cX10_count 38 = .ok (.ireturn, 1) := by decide +kernel
theorem dX10_copies_0 : decode cX10_copies 0 = .ok (.iconst 0, 1) := by decide +kernel
theorem dX10_copies_1 : decode cX10_copies 1 = .ok (.istore_n 2, 1) := by decide +kernel
theorem dX10_copies_2 : decode cX10_copies 2 = .ok (.iload_n 2, 1) := by decide +kernel
theorem dX10_copies_3 : decode cX10_copies 3 = .ok (.sipush 8900, 3) := by decide +kernel
theorem dX10_copies_6 : decode cX10_copies 6 = .ok (.if_icmp .ge 15, 3) := by decide +kernel
theorem dX10_copies_9 : decode cX10_copies 9 = .ok (.aload_n 1, 1) := by decide +kernel
theorem dX10_copies_10 : decode cX10_copies 10 = .ok (.iload_n 2, 1) := by decide +kernel
theorem dX10_copies_11 : decode cX10_copies 11 = .ok (.aload_n 0, 1) := by decide +kernel
theorem dX10_copies_12 : decode cX10_copies 12 = .ok (.iload_n 2, 1) := by decide +kernel
theorem dX10_copies_13 : decode cX10_copies 13 = .ok (.iaload, 1) := by decide +kernel
theorem dX10_copies_14 : decode cX10_copies 14 = .ok (.iastore, 1) := by decide +kernel
theorem dX10_copies_15 : decode cX10_copies 15 = .ok (.iinc 2 1, 3) := by decide +kernel
theorem dX10_copies_18 : decode cX10_copies 18 = .ok (.goto (-16), 3) := by decide +kernel
theorem dX10_copies_21 : decode cX10_copies 21 = .ok (.return_, 1) := by decide +kernel
theorem dX10_leastDrain_0 : decode cX10_leastDrain 0 = .ok (.aload_n 0, 1) := by decide +kernel
theorem dX10_leastDrain_1 : decode cX10_leastDrain 1 = .ok (.iconst 0, 1) := by decide +kernel
theorem dX10_leastDrain_2 : decode cX10_leastDrain 2 = .ok (.putfield 36, 3) := by decide +kernel
theorem dX10_leastDrain_5 : decode cX10_leastDrain 5 = .ok (.iload_n 1, 1) := by decide +kernel
theorem dX10_leastDrain_6 : decode cX10_leastDrain 6 = .ok (.iconst 0, 1) := by decide +kernel
theorem dX10_leastDrain_7 : decode cX10_leastDrain 7 = .ok (.bipush 40, 2) := by decide +kernel
theorem dX10_leastDrain_9 : decode cX10_leastDrain 9 = .ok (.invokestatic 39, 3) := by decide +kernel
theorem dX10_leastDrain_12 : decode cX10_leastDrain 12 = .ok (.ifCond .ne 9, 3) := by decide +kernel
theorem dX10_leastDrain_15 : decode cX10_leastDrain 15 = .ok (.aload_n 0, 1) := by decide +kernel
theorem dX10_leastDrain_16 : decode cX10_leastDrain 16 = .ok (.iconst 1, 1) := by decide +kernel
theorem dX10_leastDrain_17 : decode cX10_leastDrain 17 = .ok (.invokevirtual 43, 3) := by decide +kernel
theorem dX10_leastDrain_20 : decode cX10_leastDrain 20 = .ok (.ireturn, 1) := by decide +kernel
theorem dX10_leastDrain_21 : decode cX10_leastDrain 21 = .ok (.aload_n 0, 1) := by decide +kernel
theorem dX10_leastDrain_22 : decode cX10_leastDrain 22 = .ok (.getfield 7, 3) := by decide +kernel
theorem dX10_leastDrain_25 : decode cX10_leastDrain 25 = .ok (.aload_n 0, 1) := by decide +kernel
theorem dX10_leastDrain_26 : decode cX10_leastDrain 26 = .ok (.getfield 13, 3) := by decide +kernel
theorem dX10_leastDrain_29 : decode cX10_leastDrain 29 = .ok (.invokestatic 205, 3) := by decide +kernel
theorem dX10_leastDrain_32 : decode cX10_leastDrain 32 = .ok (.iconst (-1), 1) := by decide +kernel
theorem dX10_leastDrain_33 : decode cX10_leastDrain 33 = .ok (.istore_n 2, 1) := by decide +kernel
theorem dX10_leastDrain_34 : decode cX10_leastDrain 34 = .ok (.iconst 0, 1) := by decide +kernel
theorem dX10_leastDrain_35 : decode cX10_leastDrain 35 = .ok (.istore_n 3, 1) := by decide +kernel
theorem dX10_leastDrain_36 : decode cX10_leastDrain 36 = .ok (.iload_n 3, 1) := by decide +kernel
theorem dX10_leastDrain_37 : decode cX10_leastDrain 37 = .ok (.iload_n 1, 1) := by decide +kernel
theorem dX10_leastDrain_38 : decode cX10_leastDrain 38 = .ok (.if_icmp .gt 62, 3) := by decide +kernel
theorem dX10_leastDrain_41 : decode cX10_leastDrain 41 = .ok (.iload_n 2, 1) := by decide +kernel
theorem dX10_leastDrain_42 : decode cX10_leastDrain 42 = .ok (.ifCond .ge 58, 3) := by decide +kernel
theorem dX10_leastDrain_45 : decode cX10_leastDrain 45 = .ok (.aload_n 0, 1) := by decide +kernel
theorem dX10_leastDrain_46 : decode cX10_leastDrain 46 = .ok (.getfield 7, 3) := by decide +kernel
theorem dX10_leastDrain_49 : decode cX10_leastDrain 49 = .ok (.bipush 12, 2) := by decide +kernel
theorem dX10_leastDrain_51 : decode cX10_leastDrain 51 = .ok (.iaload, 1) := by decide +kernel
theorem dX10_leastDrain_52 : decode cX10_leastDrain 52 = .ok (.istore 4, 2) := by decide +kernel
theorem dX10_leastDrain_54 : decode cX10_leastDrain 54 = .ok (.aload_n 0, 1) := by decide +kernel
theorem dX10_leastDrain_55 : decode cX10_leastDrain 55 = .ok (.getfield 7, 3) := by decide +kernel
theorem dX10_leastDrain_58 : decode cX10_leastDrain 58 = .ok (.iconst 4, 1) := by decide +kernel
theorem dX10_leastDrain_59 : decode cX10_leastDrain 59 = .ok (.iload_n 3, 1) := by decide +kernel
theorem dX10_leastDrain_60 : decode cX10_leastDrain 60 = .ok (.iastore, 1) := by decide +kernel
theorem dX10_leastDrain_61 : decode cX10_leastDrain 61 = .ok (.aload_n 0, 1) := by decide +kernel
theorem dX10_leastDrain_62 : decode cX10_leastDrain 62 = .ok (.invokevirtual 198, 3) := by decide +kernel
theorem dX10_leastDrain_65 : decode cX10_leastDrain 65 = .ok (.aload_n 0, 1) := by decide +kernel
theorem dX10_leastDrain_66 : decode cX10_leastDrain 66 = .ok (.getfield 7, 3) := by decide +kernel
theorem dX10_leastDrain_69 : decode cX10_leastDrain 69 = .ok (.bipush 12, 2) := by decide +kernel
theorem dX10_leastDrain_71 : decode cX10_leastDrain 71 = .ok (.iaload, 1) := by decide +kernel
theorem dX10_leastDrain_72 : decode cX10_leastDrain 72 = .ok (.iload 4, 2) := by decide +kernel
theorem dX10_leastDrain_74 : decode cX10_leastDrain 74 = .ok (.if_icmp .ne 7, 3) := by decide +kernel
theorem dX10_leastDrain_77 : decode cX10_leastDrain 77 = .ok (.iload_n 3, 1) := by decide +kernel
theorem dX10_leastDrain_78 : decode cX10_leastDrain 78 = .ok (.goto 4, 3) := by decide +kernel
theorem dX10_leastDrain_81 : decode cX10_leastDrain 81 = .ok (.iconst (-1), 1) := by decide +kernel
theorem dX10_leastDrain_82 : decode cX10_leastDrain 82 = .ok (.istore_n 2, 1) := by decide +kernel
theorem dX10_leastDrain_83 : decode cX10_leastDrain 83 = .ok (.aload_n 0, 1) := by decide +kernel
theorem dX10_leastDrain_84 : decode cX10_leastDrain 84 = .ok (.getfield 13, 3) := by decide +kernel
theorem dX10_leastDrain_87 : decode cX10_leastDrain 87 = .ok (.aload_n 0, 1) := by decide +kernel
theorem dX10_leastDrain_88 : decode cX10_leastDrain 88 = .ok (.getfield 7, 3) := by decide +kernel
theorem dX10_leastDrain_91 : decode cX10_leastDrain 91 = .ok (.invokestatic 205, 3) := by decide +kernel
theorem dX10_leastDrain_94 : decode cX10_leastDrain 94 = .ok (.iinc 3 1, 3) := by decide +kernel
theorem dX10_leastDrain_97 : decode cX10_leastDrain 97 = .ok (.goto (-61), 3) := by decide +kernel
theorem dX10_leastDrain_100 : decode cX10_leastDrain 100 = .ok (.iload_n 2, 1) := by decide +kernel
theorem dX10_leastDrain_101 : decode cX10_leastDrain 101 = .ok (.ireturn, 1) := by decide +kernel
theorem dX10_endsFrame_0 : decode cX10_endsFrame 0 = .ok (.aload_n 0, 1) := by decide +kernel
theorem dX10_endsFrame_1 : decode cX10_endsFrame 1 = .ok (.getfield 209, 3) := by decide +kernel
theorem dX10_endsFrame_4 : decode cX10_endsFrame 4 = .ok (.ifCond .ne 4, 3) := by decide +kernel
theorem dX10_endsFrame_7 : decode cX10_endsFrame 7 = .ok (.return_, 1) := by decide +kernel
theorem dX10_endsFrame_8 : decode cX10_endsFrame 8 = .ok (.aload_n 0, 1) := by decide +kernel
theorem dX10_endsFrame_9 : decode cX10_endsFrame 9 = .ok (.getfield 209, 3) := by decide +kernel
theorem dX10_endsFrame_12 : decode cX10_endsFrame 12 = .ok (.iconst 4, 1) := by decide +kernel
theorem dX10_endsFrame_13 : decode cX10_endsFrame 13 = .ok (.if_icmp .ge 7, 3) := by decide +kernel
theorem dX10_endsFrame_16 : decode cX10_endsFrame 16 = .ok (.iconst 1, 1) := by decide +kernel
theorem dX10_endsFrame_17 : decode cX10_endsFrame 17 = .ok (.goto 39, 3) := by decide +kernel
theorem dX10_endsFrame_20 : decode cX10_endsFrame 20 = .ok (.aload_n 0, 1) := by decide +kernel
theorem dX10_endsFrame_21 : decode cX10_endsFrame 21 = .ok (.getfield 209, 3) := by decide +kernel
theorem dX10_endsFrame_24 : decode cX10_endsFrame 24 = .ok (.bipush 30, 2) := by decide +kernel
theorem dX10_endsFrame_26 : decode cX10_endsFrame 26 = .ok (.if_icmp .le 7, 3) := by decide +kernel
theorem dX10_endsFrame_29 : decode cX10_endsFrame 29 = .ok (.iconst 2, 1) := by decide +kernel
theorem dX10_endsFrame_30 : decode cX10_endsFrame 30 = .ok (.goto 26, 3) := by decide +kernel
theorem dX10_endsFrame_33 : decode cX10_endsFrame 33 = .ok (.aload_n 0, 1) := by decide +kernel
theorem dX10_endsFrame_34 : decode cX10_endsFrame 34 = .ok (.getfield 212, 3) := by decide +kernel
theorem dX10_endsFrame_37 : decode cX10_endsFrame 37 = .ok (.ifCond .eq 7, 3) := by decide +kernel
theorem dX10_endsFrame_40 : decode cX10_endsFrame 40 = .ok (.iconst 3, 1) := by decide +kernel
theorem dX10_endsFrame_41 : decode cX10_endsFrame 41 = .ok (.goto 15, 3) := by decide +kernel
theorem dX10_endsFrame_44 : decode cX10_endsFrame 44 = .ok (.aload_n 0, 1) := by decide +kernel
theorem dX10_endsFrame_45 : decode cX10_endsFrame 45 = .ok (.getfield 26, 3) := by decide +kernel
theorem dX10_endsFrame_48 : decode cX10_endsFrame 48 = .ok (.ifCond .eq 7, 3) := by decide +kernel
theorem dX10_endsFrame_51 : decode cX10_endsFrame 51 = .ok (.iconst 4, 1) := by decide +kernel
theorem dX10_endsFrame_52 : decode cX10_endsFrame 52 = .ok (.goto 4, 3) := by decide +kernel
theorem dX10_endsFrame_55 : decode cX10_endsFrame 55 = .ok (.iconst 0, 1) := by decide +kernel
theorem dX10_endsFrame_56 : decode cX10_endsFrame 56 = .ok (.istore_n 1, 1) := by decide +kernel
theorem dX10_endsFrame_57 : decode cX10_endsFrame 57 = .ok (.aload_n 0, 1) := by decide +kernel
theorem dX10_endsFrame_58 : decode cX10_endsFrame 58 = .ok (.getfield 30, 3) := by decide +kernel
theorem dX10_endsFrame_61 : decode cX10_endsFrame 61 = .ok (.aload_n 0, 1) := by decide +kernel
theorem dX10_endsFrame_62 : decode cX10_endsFrame 62 = .ok (.getfield 215, 3) := by decide +kernel
theorem dX10_endsFrame_65 : decode cX10_endsFrame 65 = .ok (.bipush 10, 2) := by decide +kernel
theorem dX10_endsFrame_67 : decode cX10_endsFrame 67 = .ok (.irem, 1) := by decide +kernel
theorem dX10_endsFrame_68 : decode cX10_endsFrame 68 = .ok (.iload_n 1, 1) := by decide +kernel
theorem dX10_endsFrame_69 : decode cX10_endsFrame 69 = .ok (.iastore, 1) := by decide +kernel
theorem dX10_endsFrame_70 : decode cX10_endsFrame 70 = .ok (.aload_n 0, 1) := by decide +kernel
theorem dX10_endsFrame_71 : decode cX10_endsFrame 71 = .ok (.getfield 33, 3) := by decide +kernel
theorem dX10_endsFrame_74 : decode cX10_endsFrame 74 = .ok (.aload_n 0, 1) := by decide +kernel
theorem dX10_endsFrame_75 : decode cX10_endsFrame 75 = .ok (.getfield 215, 3) := by decide +kernel
theorem dX10_endsFrame_78 : decode cX10_endsFrame 78 = .ok (.bipush 10, 2) := by decide +kernel
theorem dX10_endsFrame_80 : decode cX10_endsFrame 80 = .ok (.irem, 1) := by decide +kernel
theorem dX10_endsFrame_81 : decode cX10_endsFrame 81 = .ok (.aload_n 0, 1) := by decide +kernel
theorem dX10_endsFrame_82 : decode cX10_endsFrame 82 = .ok (.getfield 209, 3) := by decide +kernel
theorem dX10_endsFrame_85 : decode cX10_endsFrame 85 = .ok (.iastore, 1) := by decide +kernel
theorem dX10_endsFrame_86 : decode cX10_endsFrame 86 = .ok (.aload_n 0, 1) := by decide +kernel
theorem dX10_endsFrame_87 : decode cX10_endsFrame 87 = .ok (.dup, 1) := by decide +kernel
theorem dX10_endsFrame_88 : decode cX10_endsFrame 88 = .ok (.getfield 215, 3) := by decide +kernel
theorem dX10_endsFrame_91 : decode cX10_endsFrame 91 = .ok (.iconst 1, 1) := by decide +kernel
theorem dX10_endsFrame_92 : decode cX10_endsFrame 92 = .ok (.iadd, 1) := by decide +kernel
theorem dX10_endsFrame_93 : decode cX10_endsFrame 93 = .ok (.putfield 215, 3) := by decide +kernel
theorem dX10_endsFrame_96 : decode cX10_endsFrame 96 = .ok (.aload_n 0, 1) := by decide +kernel
theorem dX10_endsFrame_97 : decode cX10_endsFrame 97 = .ok (.iconst 0, 1) := by decide +kernel
theorem dX10_endsFrame_98 : decode cX10_endsFrame 98 = .ok (.putfield 209, 3) := by decide +kernel
theorem dX10_endsFrame_101 : decode cX10_endsFrame 101 = .ok (.aload_n 0, 1) := by decide +kernel
theorem dX10_endsFrame_102 : decode cX10_endsFrame 102 = .ok (.iconst 0, 1) := by decide +kernel
theorem dX10_endsFrame_103 : decode cX10_endsFrame 103 = .ok (.putfield 212, 3) := by decide +kernel
theorem dX10_endsFrame_106 : decode cX10_endsFrame 106 = .ok (.aload_n 0, 1) := by decide +kernel
theorem dX10_endsFrame_107 : decode cX10_endsFrame 107 = .ok (.ldc 25, 2) := by decide +kernel
theorem dX10_endsFrame_109 : decode cX10_endsFrame 109 = .ok (.putfield 26, 3) := by decide +kernel
theorem dX10_endsFrame_112 : decode cX10_endsFrame 112 = .ok (.return_, 1) := by decide +kernel
theorem dX10_feed_0 : decode cX10_feed 0 = .ok (.aload_n 0, 1) := by decide +kernel
theorem dX10_feed_1 : decode cX10_feed 1 = .ok (.iconst 0, 1) := by decide +kernel
theorem dX10_feed_2 : decode cX10_feed 2 = .ok (.putfield 36, 3) := by decide +kernel
theorem dX10_feed_5 : decode cX10_feed 5 = .ok (.iload_n 1, 1) := by decide +kernel
theorem dX10_feed_6 : decode cX10_feed 6 = .ok (.iconst 0, 1) := by decide +kernel
theorem dX10_feed_7 : decode cX10_feed 7 = .ok (.sipush 255, 3) := by decide +kernel
theorem dX10_feed_10 : decode cX10_feed 10 = .ok (.invokestatic 39, 3) := by decide +kernel
theorem dX10_feed_13 : decode cX10_feed 13 = .ok (.ifCond .eq 14, 3) := by decide +kernel
theorem dX10_feed_16 : decode cX10_feed 16 = .ok (.iload_n 2, 1) := by decide +kernel
theorem dX10_feed_17 : decode cX10_feed 17 = .ok (.iconst 0, 1) := by decide +kernel
theorem dX10_feed_18 : decode cX10_feed 18 = .ok (.sipush 1000, 3) := by decide +kernel
theorem dX10_feed_21 : decode cX10_feed 21 = .ok (.invokestatic 39, 3) := by decide +kernel
theorem dX10_feed_24 : decode cX10_feed 24 = .ok (.ifCond .ne 9, 3) := by decide +kernel
theorem dX10_feed_27 : decode cX10_feed 27 = .ok (.aload_n 0, 1) := by decide +kernel
theorem dX10_feed_28 : decode cX10_feed 28 = .ok (.iconst 1, 1) := by decide +kernel
theorem dX10_feed_29 : decode cX10_feed 29 = .ok (.invokevirtual 43, 3) := by decide +kernel
theorem dX10_feed_32 : decode cX10_feed 32 = .ok (.ireturn, 1) := by decide +kernel
theorem dX10_feed_33 : decode cX10_feed 33 = .ok (.iload_n 2, 1) := by decide +kernel
theorem dX10_feed_34 : decode cX10_feed 34 = .ok (.iconst 4, 1) := by decide +kernel
theorem dX10_feed_35 : decode cX10_feed 35 = .ok (.if_icmp .lt 7, 3) := by decide +kernel
theorem dX10_feed_38 : decode cX10_feed 38 = .ok (.aload_n 0, 1) := by decide +kernel
theorem dX10_feed_39 : decode cX10_feed 39 = .ok (.invokevirtual 218, 3) := by decide +kernel
theorem dX10_feed_42 : decode cX10_feed 42 = .ok (.aload_n 0, 1) := by decide +kernel
theorem dX10_feed_43 : decode cX10_feed 43 = .ok (.aload_n 0, 1) := by decide +kernel
theorem dX10_feed_44 : decode cX10_feed 44 = .ok (.getfield 212, 3) := by decide +kernel
theorem dX10_feed_47 : decode cX10_feed 47 = .ok (.ifCond .ne 15, 3) := by decide +kernel
theorem dX10_feed_50 : decode cX10_feed 50 = .ok (.aload_n 0, 1) := by decide +kernel
theorem dX10_feed_51 : decode cX10_feed 51 = .ok (.getfield 209, 3) := by decide +kernel
theorem dX10_feed_54 : decode cX10_feed 54 = .ok (.ifCond .le 12, 3) := by decide +kernel
theorem dX10_feed_57 : decode cX10_feed 57 = .ok (.iload_n 2, 1) := by decide +kernel
theorem dX10_feed_58 : decode cX10_feed 58 = .ok (.iconst 2, 1) := by decide +kernel
theorem dX10_feed_59 : decode cX10_feed 59 = .ok (.if_icmp .lt 7, 3) := by decide +kernel
theorem dX10_feed_62 : decode cX10_feed 62 = .ok (.iconst 1, 1) := by decide +kernel
theorem dX10_feed_63 : decode cX10_feed 63 = .ok (.goto 4, 3) := by decide +kernel
theorem dX10_feed_66 : decode cX10_feed 66 = .ok (.iconst 0, 1) := by decide +kernel
theorem dX10_feed_67 : decode cX10_feed 67 = .ok (.putfield 212, 3) := by decide +kernel
theorem dX10_feed_70 : decode cX10_feed 70 = .ok (.aload_n 0, 1) := by decide +kernel
theorem dX10_feed_71 : decode cX10_feed 71 = .ok (.aload_n 0, 1) := by decide +kernel
theorem dX10_feed_72 : decode cX10_feed 72 = .ok (.getfield 26, 3) := by decide +kernel
theorem dX10_feed_75 : decode cX10_feed 75 = .ok (.iload_n 1, 1) := by decide +kernel
theorem dX10_feed_76 : decode cX10_feed 76 = .ok (.invokestatic 125, 3) := by decide +kernel
theorem dX10_feed_79 : decode cX10_feed 79 = .ok (.putfield 26, 3) := by decide +kernel
theorem dX10_feed_82 : decode cX10_feed 82 = .ok (.aload_n 0, 1) := by decide +kernel
theorem dX10_feed_83 : decode cX10_feed 83 = .ok (.dup, 1) := by decide +kernel
theorem dX10_feed_84 : decode cX10_feed 84 = .ok (.getfield 209, 3) := by decide +kernel
theorem dX10_feed_87 : decode cX10_feed 87 = .ok (.iconst 1, 1) := by decide +kernel
theorem dX10_feed_88 : decode cX10_feed 88 = .ok (.iadd, 1) := by decide +kernel
theorem dX10_feed_89 : decode cX10_feed 89 = .ok (.putfield 209, 3) := by decide +kernel
theorem dX10_feed_92 : decode cX10_feed 92 = .ok (.aload_n 0, 1) := by decide +kernel
theorem dX10_feed_93 : decode cX10_feed 93 = .ok (.getfield 209, 3) := by decide +kernel
theorem dX10_feed_96 : decode cX10_feed 96 = .ok (.ireturn, 1) := by decide +kernel
theorem dX10_endFrame_0 : decode cX10_endFrame 0 = .ok (.aload_n 0, 1) := by decide +kernel
theorem dX10_endFrame_1 : decode cX10_endFrame 1 = .ok (.iconst 0, 1) := by decide +kernel
theorem dX10_endFrame_2 : decode cX10_endFrame 2 = .ok (.putfield 36, 3) := by decide +kernel
theorem dX10_endFrame_5 : decode cX10_endFrame 5 = .ok (.aload_n 0, 1) := by decide +kernel
theorem dX10_endFrame_6 : decode cX10_endFrame 6 = .ok (.invokevirtual 218, 3) := by decide +kernel
theorem dX10_endFrame_9 : decode cX10_endFrame 9 = .ok (.aload_n 0, 1) := by decide +kernel
theorem dX10_endFrame_10 : decode cX10_endFrame 10 = .ok (.getfield 215, 3) := by decide +kernel
theorem dX10_endFrame_13 : decode cX10_endFrame 13 = .ok (.ireturn, 1) := by decide +kernel
theorem dX10_isKept_0 : decode cX10_isKept 0 = .ok (.iload_n 1, 1) := by decide +kernel
theorem dX10_isKept_1 : decode cX10_isKept 1 = .ok (.bipush 10, 2) := by decide +kernel
theorem dX10_isKept_3 : decode cX10_isKept 3 = .ok (.if_icmp .ge 15, 3) := by decide +kernel
theorem dX10_isKept_6 : decode cX10_isKept 6 = .ok (.iload_n 1, 1) := by decide +kernel
theorem dX10_isKept_7 : decode cX10_isKept 7 = .ok (.aload_n 0, 1) := by decide +kernel
theorem dX10_isKept_8 : decode cX10_isKept 8 = .ok (.getfield 215, 3) := by decide +kernel
theorem dX10_isKept_11 : decode cX10_isKept 11 = .ok (.if_icmp .ge 7, 3) := by decide +kernel
theorem dX10_isKept_14 : decode cX10_isKept 14 = .ok (.iconst 1, 1) := by decide +kernel
theorem dX10_isKept_15 : decode cX10_isKept 15 = .ok (.goto 4, 3) := by decide +kernel
theorem dX10_isKept_18 : decode cX10_isKept 18 = .ok (.iconst 0, 1) := by decide +kernel
theorem dX10_isKept_19 : decode cX10_isKept 19 = .ok (.ireturn, 1) := by decide +kernel
theorem dX10_verdict_0 : decode cX10_verdict 0 = .ok (.aload_n 0, 1) := by decide +kernel
theorem dX10_verdict_1 : decode cX10_verdict 1 = .ok (.iload_n 1, 1) := by decide +kernel
theorem dX10_verdict_2 : decode cX10_verdict 2 = .ok (.ifCond .ge 7, 3) := by decide +kernel
theorem dX10_verdict_5 : decode cX10_verdict 5 = .ok (.iconst 1, 1) := by decide +kernel
theorem dX10_verdict_6 : decode cX10_verdict 6 = .ok (.goto 4, 3) := by decide +kernel
theorem dX10_verdict_9 : decode cX10_verdict 9 = .ok (.iconst 0, 1) := by decide +kernel
theorem dX10_verdict_10 : decode cX10_verdict 10 = .ok (.putfield 36, 3) := by decide +kernel
theorem dX10_verdict_13 : decode cX10_verdict 13 = .ok (.iload_n 1, 1) := by decide +kernel
theorem dX10_verdict_14 : decode cX10_verdict 14 = .ok (.ifCond .ge 7, 3) := by decide +kernel
theorem dX10_verdict_17 : decode cX10_verdict 17 = .ok (.iconst 0, 1) := by decide +kernel
theorem dX10_verdict_18 : decode cX10_verdict 18 = .ok (.goto 31, 3) := by decide +kernel
theorem dX10_verdict_21 : decode cX10_verdict 21 = .ok (.aload_n 0, 1) := by decide +kernel
theorem dX10_verdict_22 : decode cX10_verdict 22 = .ok (.iload_n 1, 1) := by decide +kernel
theorem dX10_verdict_23 : decode cX10_verdict 23 = .ok (.invokevirtual 221, 3) := by decide +kernel
theorem dX10_verdict_26 : decode cX10_verdict 26 = .ok (.ifCond .eq 22, 3) := by decide +kernel
theorem dX10_verdict_29 : decode cX10_verdict 29 = .ok (.aload_n 0, 1) := by decide +kernel
theorem dX10_verdict_30 : decode cX10_verdict 30 = .ok (.getfield 30, 3) := by decide +kernel
theorem dX10_verdict_33 : decode cX10_verdict 33 = .ok (.aload_n 0, 1) := by decide +kernel
theorem dX10_verdict_34 : decode cX10_verdict 34 = .ok (.getfield 215, 3) := by decide +kernel
theorem dX10_verdict_37 : decode cX10_verdict 37 = .ok (.iconst 1, 1) := by decide +kernel
theorem dX10_verdict_38 : decode cX10_verdict 38 = .ok (.isub, 1) := by decide +kernel
theorem dX10_verdict_39 : decode cX10_verdict 39 = .ok (.iload_n 1, 1) := by decide +kernel
theorem dX10_verdict_40 : decode cX10_verdict 40 = .ok (.isub, 1) := by decide +kernel
theorem dX10_verdict_41 : decode cX10_verdict 41 = .ok (.bipush 10, 2) := by decide +kernel
theorem dX10_verdict_43 : decode cX10_verdict 43 = .ok (.irem, 1) := by decide +kernel
theorem dX10_verdict_44 : decode cX10_verdict 44 = .ok (.iaload, 1) := by decide +kernel
theorem dX10_verdict_45 : decode cX10_verdict 45 = .ok (.goto 4, 3) := by decide +kernel
theorem dX10_verdict_48 : decode cX10_verdict 48 = .ok (.iconst (-1), 1) := by decide +kernel
theorem dX10_verdict_49 : decode cX10_verdict 49 = .ok (.ireturn, 1) := by decide +kernel
theorem dX10_length_0 : decode cX10_length 0 = .ok (.aload_n 0, 1) := by decide +kernel
theorem dX10_length_1 : decode cX10_length 1 = .ok (.iload_n 1, 1) := by decide +kernel
theorem dX10_length_2 : decode cX10_length 2 = .ok (.ifCond .ge 7, 3) := by decide +kernel
theorem dX10_length_5 : decode cX10_length 5 = .ok (.iconst 1, 1) := by decide +kernel
theorem dX10_length_6 : decode cX10_length 6 = .ok (.goto 4, 3) := by decide +kernel
theorem dX10_length_9 : decode cX10_length 9 = .ok (.iconst 0, 1) := by decide +kernel
theorem dX10_length_10 : decode cX10_length 10 = .ok (.putfield 36, 3) := by decide +kernel
theorem dX10_length_13 : decode cX10_length 13 = .ok (.iload_n 1, 1) := by decide +kernel
theorem dX10_length_14 : decode cX10_length 14 = .ok (.ifCond .ge 7, 3) := by decide +kernel
theorem dX10_length_17 : decode cX10_length 17 = .ok (.iconst 0, 1) := by decide +kernel
theorem dX10_length_18 : decode cX10_length 18 = .ok (.goto 31, 3) := by decide +kernel
theorem dX10_length_21 : decode cX10_length 21 = .ok (.aload_n 0, 1) := by decide +kernel
theorem dX10_length_22 : decode cX10_length 22 = .ok (.iload_n 1, 1) := by decide +kernel
theorem dX10_length_23 : decode cX10_length 23 = .ok (.invokevirtual 221, 3) := by decide +kernel
theorem dX10_length_26 : decode cX10_length 26 = .ok (.ifCond .eq 22, 3) := by decide +kernel
theorem dX10_length_29 : decode cX10_length 29 = .ok (.aload_n 0, 1) := by decide +kernel
theorem dX10_length_30 : decode cX10_length 30 = .ok (.getfield 33, 3) := by decide +kernel
theorem dX10_length_33 : decode cX10_length 33 = .ok (.aload_n 0, 1) := by decide +kernel
theorem dX10_length_34 : decode cX10_length 34 = .ok (.getfield 215, 3) := by decide +kernel
theorem dX10_length_37 : decode cX10_length 37 = .ok (.iconst 1, 1) := by decide +kernel
theorem dX10_length_38 : decode cX10_length 38 = .ok (.isub, 1) := by decide +kernel
theorem dX10_length_39 : decode cX10_length 39 = .ok (.iload_n 1, 1) := by decide +kernel
theorem dX10_length_40 : decode cX10_length 40 = .ok (.isub, 1) := by decide +kernel
theorem dX10_length_41 : decode cX10_length 41 = .ok (.bipush 10, 2) := by decide +kernel
theorem dX10_length_43 : decode cX10_length 43 = .ok (.irem, 1) := by decide +kernel
theorem dX10_length_44 : decode cX10_length 44 = .ok (.iaload, 1) := by decide +kernel
theorem dX10_length_45 : decode cX10_length 45 = .ok (.goto 4, 3) := by decide +kernel
theorem dX10_length_48 : decode cX10_length 48 = .ok (.iconst (-1), 1) := by decide +kernel
theorem dX10_length_49 : decode cX10_length 49 = .ok (.ireturn, 1) := by decide +kernel
theorem dX10_checksum_0 : decode cX10_checksum 0 = .ok (.aload_n 0, 1) := by decide +kernel
theorem dX10_checksum_1 : decode cX10_checksum 1 = .ok (.iconst 0, 1) := by decide +kernel
theorem dX10_checksum_2 : decode cX10_checksum 2 = .ok (.putfield 36, 3) := by decide +kernel
theorem dX10_checksum_5 : decode cX10_checksum 5 = .ok (.aload_n 0, 1) := by decide +kernel
theorem dX10_checksum_6 : decode cX10_checksum 6 = .ok (.getfield 26, 3) := by decide +kernel
theorem dX10_checksum_9 : decode cX10_checksum 9 = .ok (.ireturn, 1) := by decide +kernel
theorem dX10_fingerprint_0 : decode cX10_fingerprint 0 = .ok (.aload_n 0, 1) := by decide +kernel
theorem dX10_fingerprint_1 : decode cX10_fingerprint 1 = .ok (.iconst 0, 1) := by decide +kernel
theorem dX10_fingerprint_2 : decode cX10_fingerprint 2 = .ok (.putfield 36, 3) := by decide +kernel
theorem dX10_fingerprint_5 : decode cX10_fingerprint 5 = .ok (.ldc2_w 224, 3) := by decide +kernel
theorem dX10_fingerprint_8 : decode cX10_fingerprint 8 = .ok (.aload_n 0, 1) := by decide +kernel
theorem dX10_fingerprint_9 : decode cX10_fingerprint 9 = .ok (.getfield 7, 3) := by decide +kernel
theorem dX10_fingerprint_12 : decode cX10_fingerprint 12 = .ok (.iconst 0, 1) := by decide +kernel
theorem dX10_fingerprint_13 : decode cX10_fingerprint 13 = .ok (.iaload, 1) := by decide +kernel
theorem dX10_fingerprint_14 : decode cX10_fingerprint 14 = .ok (.i2l, 1) := by decide +kernel
theorem dX10_fingerprint_15 : decode cX10_fingerprint 15 = .ok (.ladd, 1) := by decide +kernel
theorem dX10_fingerprint_16 : decode cX10_fingerprint 16 = .ok (.lstore_n 1, 1) := by decide +kernel
theorem dX10_fingerprint_17 : decode cX10_fingerprint 17 = .ok (.iconst 0, 1) := by decide +kernel
theorem dX10_fingerprint_18 : decode cX10_fingerprint 18 = .ok (.istore_n 3, 1) := by decide +kernel
theorem dX10_fingerprint_19 : decode cX10_fingerprint 19 = .ok (.iload_n 3, 1) := by decide +kernel
theorem dX10_fingerprint_20 : decode cX10_fingerprint 20 = .ok (.bipush 6, 2) := by decide +kernel
theorem dX10_fingerprint_22 : decode cX10_fingerprint 22 = .ok (.if_icmp .ge 26, 3) := by decide +kernel
theorem dX10_fingerprint_25 : decode cX10_fingerprint 25 = .ok (.ldc2_w 226, 3) := by decide +kernel
theorem dX10_fingerprint_28 : decode cX10_fingerprint 28 = .ok (.lload_n 1, 1) := by decide +kernel
theorem dX10_fingerprint_29 : decode cX10_fingerprint 29 = .ok (.lmul, 1) := by decide +kernel
theorem dX10_fingerprint_30 : decode cX10_fingerprint 30 = .ok (.aload_n 0, 1) := by decide +kernel
theorem dX10_fingerprint_31 : decode cX10_fingerprint 31 = .ok (.getfield 7, 3) := by decide +kernel
theorem dX10_fingerprint_34 : decode cX10_fingerprint 34 = .ok (.bipush 10, 2) := by decide +kernel
theorem dX10_fingerprint_36 : decode cX10_fingerprint 36 = .ok (.iload_n 3, 1) := by decide +kernel
theorem dX10_fingerprint_37 : decode cX10_fingerprint 37 = .ok (.iadd, 1) := by decide +kernel
theorem dX10_fingerprint_38 : decode cX10_fingerprint 38 = .ok (.iaload, 1) := by decide +kernel
theorem dX10_fingerprint_39 : decode cX10_fingerprint 39 = .ok (.i2l, 1) := by decide +kernel
theorem dX10_fingerprint_40 : decode cX10_fingerprint 40 = .ok (.ladd, 1) := by decide +kernel
theorem dX10_fingerprint_41 : decode cX10_fingerprint 41 = .ok (.lstore_n 1, 1) := by decide +kernel
theorem dX10_fingerprint_42 : decode cX10_fingerprint 42 = .ok (.iinc 3 1, 3) := by decide +kernel
theorem dX10_fingerprint_45 : decode cX10_fingerprint 45 = .ok (.goto (-26), 3) := by decide +kernel
theorem dX10_fingerprint_48 : decode cX10_fingerprint 48 = .ok (.iconst 0, 1) := by decide +kernel
theorem dX10_fingerprint_49 : decode cX10_fingerprint 49 = .ok (.istore_n 3, 1) := by decide +kernel
theorem dX10_fingerprint_50 : decode cX10_fingerprint 50 = .ok (.iload_n 3, 1) := by decide +kernel
theorem dX10_fingerprint_51 : decode cX10_fingerprint 51 = .ok (.iconst 3, 1) := by decide +kernel
theorem dX10_fingerprint_52 : decode cX10_fingerprint 52 = .ok (.if_icmp .ge 23, 3) := by decide +kernel
theorem dX10_fingerprint_55 : decode cX10_fingerprint 55 = .ok (.ldc2_w 226, 3) := by decide +kernel
theorem dX10_fingerprint_58 : decode cX10_fingerprint 58 = .ok (.lload_n 1, 1) := by decide +kernel
theorem dX10_fingerprint_59 : decode cX10_fingerprint 59 = .ok (.lmul, 1) := by decide +kernel
theorem dX10_fingerprint_60 : decode cX10_fingerprint 60 = .ok (.aload_n 0, 1) := by decide +kernel
theorem dX10_fingerprint_61 : decode cX10_fingerprint 61 = .ok (.iconst (-1), 1) := by decide +kernel
theorem dX10_fingerprint_62 : decode cX10_fingerprint 62 = .ok (.iload_n 3, 1) := by decide +kernel
theorem dX10_fingerprint_63 : decode cX10_fingerprint 63 = .ok (.invokevirtual 76, 3) := by decide +kernel
theorem dX10_fingerprint_66 : decode cX10_fingerprint 66 = .ok (.i2l, 1) := by decide +kernel
theorem dX10_fingerprint_67 : decode cX10_fingerprint 67 = .ok (.ladd, 1) := by decide +kernel
theorem dX10_fingerprint_68 : decode cX10_fingerprint 68 = .ok (.lstore_n 1, 1) := by decide +kernel
theorem dX10_fingerprint_69 : decode cX10_fingerprint 69 = .ok (.iinc 3 1, 3) := by decide +kernel
theorem dX10_fingerprint_72 : decode cX10_fingerprint 72 = .ok (.goto (-22), 3) := by decide +kernel
theorem dX10_fingerprint_75 : decode cX10_fingerprint 75 = .ok (.iconst 0, 1) := by decide +kernel
theorem dX10_fingerprint_76 : decode cX10_fingerprint 76 = .ok (.istore_n 3, 1) := by decide +kernel
theorem dX10_fingerprint_77 : decode cX10_fingerprint 77 = .ok (.iload_n 3, 1) := by decide +kernel
theorem dX10_fingerprint_78 : decode cX10_fingerprint 78 = .ok (.aload_n 0, 1) := by decide +kernel
theorem dX10_fingerprint_79 : decode cX10_fingerprint 79 = .ok (.getfield 7, 3) := by decide +kernel
theorem dX10_fingerprint_82 : decode cX10_fingerprint 82 = .ok (.bipush 6, 2) := by decide +kernel
theorem dX10_fingerprint_84 : decode cX10_fingerprint 84 = .ok (.iaload, 1) := by decide +kernel
theorem dX10_fingerprint_85 : decode cX10_fingerprint 85 = .ok (.if_icmp .ge 121, 3) := by decide +kernel
theorem dX10_fingerprint_88 : decode cX10_fingerprint 88 = .ok (.iload_n 3, 1) := by decide +kernel
theorem dX10_fingerprint_89 : decode cX10_fingerprint 89 = .ok (.invokestatic 61, 3) := by decide +kernel
theorem dX10_fingerprint_92 : decode cX10_fingerprint 92 = .ok (.istore 4, 2) := by decide +kernel
theorem dX10_fingerprint_94 : decode cX10_fingerprint 94 = .ok (.iconst 5, 1) := by decide +kernel
theorem dX10_fingerprint_95 : decode cX10_fingerprint 95 = .ok (.istore 5, 2) := by decide +kernel
theorem dX10_fingerprint_97 : decode cX10_fingerprint 97 = .ok (.iload 5, 2) := by decide +kernel
theorem dX10_fingerprint_99 : decode cX10_fingerprint 99 = .ok (.bipush 7, 2) := by decide +kernel
theorem dX10_fingerprint_101 : decode cX10_fingerprint 101 = .ok (.if_icmp .gt 27, 3) := by decide +kernel
theorem dX10_fingerprint_104 : decode cX10_fingerprint 104 = .ok (.ldc2_w 226, 3) := by decide +kernel
theorem dX10_fingerprint_107 : decode cX10_fingerprint 107 = .ok (.lload_n 1, 1) := by decide +kernel
theorem dX10_fingerprint_108 : decode cX10_fingerprint 108 = .ok (.lmul, 1) := by decide +kernel
theorem dX10_fingerprint_109 : decode cX10_fingerprint 109 = .ok (.aload_n 0, 1) := by decide +kernel
theorem dX10_fingerprint_110 : decode cX10_fingerprint 110 = .ok (.getfield 7, 3) := by decide +kernel
theorem dX10_fingerprint_113 : decode cX10_fingerprint 113 = .ok (.iload 4, 2) := by decide +kernel
theorem dX10_fingerprint_115 : decode cX10_fingerprint 115 = .ok (.iload 5, 2) := by decide +kernel
theorem dX10_fingerprint_117 : decode cX10_fingerprint 117 = .ok (.iadd, 1) := by decide +kernel
theorem dX10_fingerprint_118 : decode cX10_fingerprint 118 = .ok (.iaload, 1) := by decide +kernel
theorem dX10_fingerprint_119 : decode cX10_fingerprint 119 = .ok (.i2l, 1) := by decide +kernel
theorem dX10_fingerprint_120 : decode cX10_fingerprint 120 = .ok (.ladd, 1) := by decide +kernel
theorem dX10_fingerprint_121 : decode cX10_fingerprint 121 = .ok (.lstore_n 1, 1) := by decide +kernel
theorem dX10_fingerprint_122 : decode cX10_fingerprint 122 = .ok (.iinc 5 1, 3) := by decide +kernel
theorem dX10_fingerprint_125 : decode cX10_fingerprint 125 = .ok (.goto (-28), 3) := by decide +kernel
theorem dX10_fingerprint_128 : decode cX10_fingerprint 128 = .ok (.iconst 0, 1) := by decide +kernel
theorem dX10_fingerprint_129 : decode cX10_fingerprint 129 = .ok (.istore 5, 2) := by decide +kernel
theorem dX10_fingerprint_131 : decode cX10_fingerprint 131 = .ok (.iload 5, 2) := by decide +kernel
theorem dX10_fingerprint_133 : decode cX10_fingerprint 133 = .ok (.aload_n 0, 1) := by decide +kernel
theorem dX10_fingerprint_134 : decode cX10_fingerprint 134 = .ok (.getfield 7, 3) := by decide +kernel
theorem dX10_fingerprint_137 : decode cX10_fingerprint 137 = .ok (.iload 4, 2) := by decide +kernel
theorem dX10_fingerprint_139 : decode cX10_fingerprint 139 = .ok (.iconst 3, 1) := by decide +kernel
theorem dX10_fingerprint_140 : decode cX10_fingerprint 140 = .ok (.iadd, 1) := by decide +kernel
theorem dX10_fingerprint_141 : decode cX10_fingerprint 141 = .ok (.iaload, 1) := by decide +kernel
theorem dX10_fingerprint_142 : decode cX10_fingerprint 142 = .ok (.if_icmp .ge 58, 3) := by decide +kernel
theorem dX10_fingerprint_145 : decode cX10_fingerprint 145 = .ok (.aload_n 0, 1) := by decide +kernel
theorem dX10_fingerprint_146 : decode cX10_fingerprint 146 = .ok (.getfield 7, 3) := by decide +kernel
theorem dX10_fingerprint_149 : decode cX10_fingerprint 149 = .ok (.iload 4, 2) := by decide +kernel
theorem dX10_fingerprint_151 : decode cX10_fingerprint 151 = .ok (.iconst 4, 1) := by decide +kernel
theorem dX10_fingerprint_152 : decode cX10_fingerprint 152 = .ok (.iadd, 1) := by decide +kernel
theorem dX10_fingerprint_153 : decode cX10_fingerprint 153 = .ok (.iaload, 1) := by decide +kernel
theorem dX10_fingerprint_154 : decode cX10_fingerprint 154 = .ok (.ifCond .ne 46, 3) := by decide +kernel
theorem dX10_fingerprint_157 : decode cX10_fingerprint 157 = .ok (.aload_n 0, 1) := by decide +kernel
theorem dX10_fingerprint_158 : decode cX10_fingerprint 158 = .ok (.getfield 7, 3) := by decide +kernel
theorem dX10_fingerprint_161 : decode cX10_fingerprint 161 = .ok (.iload 4, 2) := by decide +kernel
theorem dX10_fingerprint_163 : decode cX10_fingerprint 163 = .ok (.iconst 5, 1) := by decide +kernel
theorem dX10_fingerprint_164 : decode cX10_fingerprint 164 = .ok (.iadd, 1) := by decide +kernel
theorem dX10_fingerprint_165 : decode cX10_fingerprint 165 = .ok (.iaload, 1) := by decide +kernel
theorem dX10_fingerprint_166 : decode cX10_fingerprint 166 = .ok (.iconst 1, 1) := by decide +kernel
theorem dX10_fingerprint_167 : decode cX10_fingerprint 167 = .ok (.if_icmp .ne 33, 3) := by decide +kernel
theorem dX10_fingerprint_170 : decode cX10_fingerprint 170 = .ok (.ldc2_w 226, 3) := by decide +kernel
theorem dX10_fingerprint_173 : decode cX10_fingerprint 173 = .ok (.lload_n 1, 1) := by decide +kernel
theorem dX10_fingerprint_174 : decode cX10_fingerprint 174 = .ok (.lmul, 1) := by decide +kernel
theorem dX10_fingerprint_175 : decode cX10_fingerprint 175 = .ok (.aload_n 0, 1) := by decide +kernel
theorem dX10_fingerprint_176 : decode cX10_fingerprint 176 = .ok (.getfield 7, 3) := by decide +kernel
theorem dX10_fingerprint_179 : decode cX10_fingerprint 179 = .ok (.sipush 760, 3) := by decide +kernel
theorem dX10_fingerprint_182 : decode cX10_fingerprint 182 = .ok (.bipush 16, 2) := by decide +kernel
theorem dX10_fingerprint_184 : decode cX10_fingerprint 184 = .ok (.iload_n 3, 1) := by decide +kernel
theorem dX10_fingerprint_185 : decode cX10_fingerprint 185 = .ok (.imul, 1) := by decide +kernel
theorem dX10_fingerprint_186 : decode cX10_fingerprint 186 = .ok (.iadd, 1) := by decide +kernel
theorem dX10_fingerprint_187 : decode cX10_fingerprint 187 = .ok (.iload 5, 2) := by decide +kernel
theorem dX10_fingerprint_189 : decode cX10_fingerprint 189 = .ok (.iadd, 1) := by decide +kernel
theorem dX10_fingerprint_190 : decode cX10_fingerprint 190 = .ok (.iaload, 1) := by decide +kernel
theorem dX10_fingerprint_191 : decode cX10_fingerprint 191 = .ok (.i2l, 1) := by decide +kernel
theorem dX10_fingerprint_192 : decode cX10_fingerprint 192 = .ok (.ladd, 1) := by decide +kernel
theorem dX10_fingerprint_193 : decode cX10_fingerprint 193 = .ok (.lstore_n 1, 1) := by decide +kernel
theorem dX10_fingerprint_194 : decode cX10_fingerprint 194 = .ok (.iinc 5 1, 3) := by decide +kernel
theorem dX10_fingerprint_197 : decode cX10_fingerprint 197 = .ok (.goto (-66), 3) := by decide +kernel
theorem dX10_fingerprint_200 : decode cX10_fingerprint 200 = .ok (.iinc 3 1, 3) := by decide +kernel
theorem dX10_fingerprint_203 : decode cX10_fingerprint 203 = .ok (.goto (-126), 3) := by decide +kernel
theorem dX10_fingerprint_206 : decode cX10_fingerprint 206 = .ok (.iconst 0, 1) := by decide +kernel
theorem dX10_fingerprint_207 : decode cX10_fingerprint 207 = .ok (.istore_n 3, 1) := by decide +kernel
theorem dX10_fingerprint_208 : decode cX10_fingerprint 208 = .ok (.iload_n 3, 1) := by decide +kernel
theorem dX10_fingerprint_209 : decode cX10_fingerprint 209 = .ok (.bipush 96, 2) := by decide +kernel
theorem dX10_fingerprint_211 : decode cX10_fingerprint 211 = .ok (.if_icmp .ge 48, 3) := by decide +kernel
theorem dX10_fingerprint_214 : decode cX10_fingerprint 214 = .ok (.ldc2_w 226, 3) := by decide +kernel
theorem dX10_fingerprint_217 : decode cX10_fingerprint 217 = .ok (.lload_n 1, 1) := by decide +kernel
theorem dX10_fingerprint_218 : decode cX10_fingerprint 218 = .ok (.lmul, 1) := by decide +kernel
theorem dX10_fingerprint_219 : decode cX10_fingerprint 219 = .ok (.aload_n 0, 1) := by decide +kernel
theorem dX10_fingerprint_220 : decode cX10_fingerprint 220 = .ok (.getfield 7, 3) := by decide +kernel
theorem dX10_fingerprint_223 : decode cX10_fingerprint 223 = .ok (.bipush 20, 2) := by decide +kernel
theorem dX10_fingerprint_225 : decode cX10_fingerprint 225 = .ok (.iload_n 3, 1) := by decide +kernel
theorem dX10_fingerprint_226 : decode cX10_fingerprint 226 = .ok (.iadd, 1) := by decide +kernel
theorem dX10_fingerprint_227 : decode cX10_fingerprint 227 = .ok (.iaload, 1) := by decide +kernel
theorem dX10_fingerprint_228 : decode cX10_fingerprint 228 = .ok (.i2l, 1) := by decide +kernel
theorem dX10_fingerprint_229 : decode cX10_fingerprint 229 = .ok (.ladd, 1) := by decide +kernel
theorem dX10_fingerprint_230 : decode cX10_fingerprint 230 = .ok (.lstore_n 1, 1) := by decide +kernel
theorem dX10_fingerprint_231 : decode cX10_fingerprint 231 = .ok (.ldc2_w 226, 3) := by decide +kernel
theorem dX10_fingerprint_234 : decode cX10_fingerprint 234 = .ok (.lload_n 1, 1) := by decide +kernel
theorem dX10_fingerprint_235 : decode cX10_fingerprint 235 = .ok (.lmul, 1) := by decide +kernel
theorem dX10_fingerprint_236 : decode cX10_fingerprint 236 = .ok (.aload_n 0, 1) := by decide +kernel
theorem dX10_fingerprint_237 : decode cX10_fingerprint 237 = .ok (.iconst 1, 1) := by decide +kernel
theorem dX10_fingerprint_238 : decode cX10_fingerprint 238 = .ok (.iload_n 3, 1) := by decide +kernel
theorem dX10_fingerprint_239 : decode cX10_fingerprint 239 = .ok (.bipush 32, 2) := by decide +kernel
theorem dX10_fingerprint_241 : decode cX10_fingerprint 241 = .ok (.idiv, 1) := by decide +kernel
theorem dX10_fingerprint_242 : decode cX10_fingerprint 242 = .ok (.iadd, 1) := by decide +kernel
theorem dX10_fingerprint_243 : decode cX10_fingerprint 243 = .ok (.iload_n 3, 1) := by decide +kernel
theorem dX10_fingerprint_244 : decode cX10_fingerprint 244 = .ok (.bipush 32, 2) := by decide +kernel
theorem dX10_fingerprint_246 : decode cX10_fingerprint 246 = .ok (.irem, 1) := by decide +kernel
theorem dX10_fingerprint_247 : decode cX10_fingerprint 247 = .ok (.invokevirtual 202, 3) := by decide +kernel
theorem dX10_fingerprint_250 : decode cX10_fingerprint 250 = .ok (.i2l, 1) := by decide +kernel
theorem dX10_fingerprint_251 : decode cX10_fingerprint 251 = .ok (.ladd, 1) := by decide +kernel
theorem dX10_fingerprint_252 : decode cX10_fingerprint 252 = .ok (.lstore_n 1, 1) := by decide +kernel
theorem dX10_fingerprint_253 : decode cX10_fingerprint 253 = .ok (.iinc 3 1, 3) := by decide +kernel
theorem dX10_fingerprint_256 : decode cX10_fingerprint 256 = .ok (.goto (-48), 3) := by decide +kernel
theorem dX10_fingerprint_259 : decode cX10_fingerprint 259 = .ok (.lload_n 1, 1) := by decide +kernel
theorem dX10_fingerprint_260 : decode cX10_fingerprint 260 = .ok (.lreturn, 1) := by decide +kernel
