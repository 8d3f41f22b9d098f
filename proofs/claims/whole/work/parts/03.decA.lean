theorem dX0_init_0 : decode cX0_init 0 = .ok (.aload_n 0, 1) := by decide +kernel
theorem dX0_init_1 : decode cX0_init 1 = .ok (.invokespecial 3, 3) := by decide +kernel
theorem dX0_init_4 : decode cX0_init 4 = .ok (.aload_n 0, 1) := by decide +kernel
theorem dX0_init_5 : decode cX0_init 5 = .ok (.bipush 96, 2) := by decide +kernel
theorem dX0_init_7 : decode cX0_init 7 = .ok (.newarray .int, 2) := by decide +kernel
theorem dX0_init_9 : decode cX0_init 9 = .ok (.putfield 9, 3) := by decide +kernel
theorem dX0_init_12 : decode cX0_init 12 = .ok (.aload_n 0, 1) := by decide +kernel
theorem dX0_init_13 : decode cX0_init 13 = .ok (.bipush 96, 2) := by decide +kernel
theorem dX0_init_15 : decode cX0_init 15 = .ok (.newarray .int, 2) := by decide +kernel
theorem dX0_init_17 : decode cX0_init 17 = .ok (.putfield 15, 3) := by decide +kernel
theorem dX0_init_20 : decode cX0_init 20 = .ok (.aload_n 0, 1) := by decide +kernel
theorem dX0_init_21 : decode cX0_init 21 = .ok (.getfield 9, 3) := by decide +kernel
theorem dX0_init_24 : decode cX0_init 24 = .ok (.iconst (-1), 1) := by decide +kernel
theorem dX0_init_25 : decode cX0_init 25 = .ok (.invokestatic 18, 3) := by decide +kernel
theorem dX0_init_28 : decode cX0_init 28 = .ok (.return_, 1) := by decide +kernel
theorem dX0_copyFrom_0 : decode cX0_copyFrom 0 = .ok (.aload_n 1, 1) := by decide +kernel
theorem dX0_copyFrom_1 : decode cX0_copyFrom 1 = .ok (.getfield 9, 3) := by decide +kernel
theorem dX0_copyFrom_4 : decode cX0_copyFrom 4 = .ok (.iconst 0, 1) := by decide +kernel
theorem dX0_copyFrom_5 : decode cX0_copyFrom 5 = .ok (.aload_n 0, 1) := by decide +kernel
theorem dX0_copyFrom_6 : decode cX0_copyFrom 6 = .ok (.getfield 9, 3) := by decide +kernel
theorem dX0_copyFrom_9 : decode cX0_copyFrom 9 = .ok (.iconst 0, 1) := by decide +kernel
theorem dX0_copyFrom_10 : decode cX0_copyFrom 10 = .ok (.bipush 96, 2) := by decide +kernel
theorem dX0_copyFrom_12 : decode cX0_copyFrom 12 = .ok (.invokestatic 24, 3) := by decide +kernel
theorem dX0_copyFrom_15 : decode cX0_copyFrom 15 = .ok (.aload_n 1, 1) := by decide +kernel
theorem dX0_copyFrom_16 : decode cX0_copyFrom 16 = .ok (.getfield 15, 3) := by decide +kernel
theorem dX0_copyFrom_19 : decode cX0_copyFrom 19 = .ok (.iconst 0, 1) := by decide +kernel
theorem dX0_copyFrom_20 : decode cX0_copyFrom 20 = .ok (.aload_n 0, 1) := by decide +kernel
theorem dX0_copyFrom_21 : decode cX0_copyFrom 21 = .ok (.getfield 15, 3) := by decide +kernel
theorem dX0_copyFrom_24 : decode cX0_copyFrom 24 = .ok (.iconst 0, 1) := by decide +kernel
theorem dX0_copyFrom_25 : decode cX0_copyFrom 25 = .ok (.bipush 96, 2) := by decide +kernel
theorem dX0_copyFrom_27 : decode cX0_copyFrom 27 = .ok (.invokestatic 24, 3) := by decide +kernel
theorem dX0_copyFrom_30 : decode cX0_copyFrom 30 = .ok (.return_, 1) := by decide +kernel
theorem dX0_placeOf_0 : decode cX0_placeOf 0 = .ok (.iload_n 0, 1) := by decide +kernel
theorem dX0_placeOf_1 : decode cX0_placeOf 1 = .ok (.iconst 1, 1) := by decide +kernel
theorem dX0_placeOf_2 : decode cX0_placeOf 2 = .ok (.if_icmp .lt 18, 3) := by decide +kernel
theorem dX0_placeOf_5 : decode cX0_placeOf 5 = .ok (.iload_n 0, 1) := by decide +kernel
theorem dX0_placeOf_6 : decode cX0_placeOf 6 = .ok (.iconst 3, 1) := by decide +kernel
theorem dX0_placeOf_7 : decode cX0_placeOf 7 = .ok (.if_icmp .gt 13, 3) := by decide +kernel
theorem dX0_placeOf_10 : decode cX0_placeOf 10 = .ok (.iload_n 1, 1) := by decide +kernel
theorem dX0_placeOf_11 : decode cX0_placeOf 11 = .ok (.ifCond .lt 9, 3) := by decide +kernel
theorem dX0_placeOf_14 : decode cX0_placeOf 14 = .ok (.iload_n 1, 1) := by decide +kernel
theorem dX0_placeOf_15 : decode cX0_placeOf 15 = .ok (.bipush 32, 2) := by decide +kernel
theorem dX0_placeOf_17 : decode cX0_placeOf 17 = .ok (.if_icmp .lt 5, 3) := by decide +kernel
theorem dX0_placeOf_20 : decode cX0_placeOf 20 = .ok (.iconst (-1), 1) := by decide +kernel
theorem dX0_placeOf_21 : decode cX0_placeOf 21 = .ok (.ireturn, 1) := by decide +kernel
theorem dX0_placeOf_22 : decode cX0_placeOf 22 = .ok (.iload_n 0, 1) := by decide +kernel
theorem dX0_placeOf_23 : decode cX0_placeOf 23 = .ok (.iconst 1, 1) := by decide +kernel
theorem dX0_placeOf_24 : decode cX0_placeOf 24 = .ok (.isub, 1) := by decide +kernel
theorem dX0_placeOf_25 : decode cX0_placeOf 25 = .ok (.bipush 32, 2) := by decide +kernel
theorem dX0_placeOf_27 : decode cX0_placeOf 27 = .ok (.imul, 1) := by decide +kernel
theorem dX0_placeOf_28 : decode cX0_placeOf 28 = .ok (.iload_n 1, 1) := by decide +kernel
theorem dX0_placeOf_29 : decode cX0_placeOf 29 = .ok (.iadd, 1) := by decide +kernel
theorem dX0_placeOf_30 : decode cX0_placeOf 30 = .ok (.ireturn, 1) := by decide +kernel
theorem dX0_valueOf_0 : decode cX0_valueOf 0 = .ok (.iload_n 1, 1) := by decide +kernel
theorem dX0_valueOf_1 : decode cX0_valueOf 1 = .ok (.iload_n 2, 1) := by decide +kernel
theorem dX0_valueOf_2 : decode cX0_valueOf 2 = .ok (.invokestatic 30, 3) := by decide +kernel
theorem dX0_valueOf_5 : decode cX0_valueOf 5 = .ok (.istore_n 3, 1) := by decide +kernel
theorem dX0_valueOf_6 : decode cX0_valueOf 6 = .ok (.iload_n 3, 1) := by decide +kernel
theorem dX0_valueOf_7 : decode cX0_valueOf 7 = .ok (.ifCond .ge 7, 3) := by decide +kernel
theorem dX0_valueOf_10 : decode cX0_valueOf 10 = .ok (.iconst (-1), 1) := by decide +kernel
theorem dX0_valueOf_11 : decode cX0_valueOf 11 = .ok (.goto 9, 3) := by decide +kernel
theorem dX0_valueOf_14 : decode cX0_valueOf 14 = .ok (.aload_n 0, 1) := by decide +kernel
theorem dX0_valueOf_15 : decode cX0_valueOf 15 = .ok (.getfield 9, 3) := by decide +kernel
theorem dX0_valueOf_18 : decode cX0_valueOf 18 = .ok (.iload_n 3, 1) := by decide +kernel
theorem dX0_valueOf_19 : decode cX0_valueOf 19 = .ok (.iaload, 1) := by decide +kernel
theorem dX0_valueOf_20 : decode cX0_valueOf 20 = .ok (.ireturn, 1) := by decide +kernel
theorem dX0_ageOf_0 : decode cX0_ageOf 0 = .ok (.iload_n 1, 1) := by decide +kernel
theorem dX0_ageOf_1 : decode cX0_ageOf 1 = .ok (.iload_n 2, 1) := by decide +kernel
theorem dX0_ageOf_2 : decode cX0_ageOf 2 = .ok (.invokestatic 30, 3) := by decide +kernel
theorem dX0_ageOf_5 : decode cX0_ageOf 5 = .ok (.istore 4, 2) := by decide +kernel
theorem dX0_ageOf_7 : decode cX0_ageOf 7 = .ok (.iload 4, 2) := by decide +kernel
theorem dX0_ageOf_9 : decode cX0_ageOf 9 = .ok (.ifCond .lt 13, 3) := by decide +kernel
theorem dX0_ageOf_12 : decode cX0_ageOf 12 = .ok (.aload_n 0, 1) := by decide +kernel
theorem dX0_ageOf_13 : decode cX0_ageOf 13 = .ok (.getfield 9, 3) := by decide +kernel
theorem dX0_ageOf_16 : decode cX0_ageOf 16 = .ok (.iload 4, 2) := by decide +kernel
theorem dX0_ageOf_18 : decode cX0_ageOf 18 = .ok (.iaload, 1) := by decide +kernel
theorem dX0_ageOf_19 : decode cX0_ageOf 19 = .ok (.ifCond .ge 7, 3) := by decide +kernel
theorem dX0_ageOf_22 : decode cX0_ageOf 22 = .ok (.iconst (-1), 1) := by decide +kernel
theorem dX0_ageOf_23 : decode cX0_ageOf 23 = .ok (.goto 12, 3) := by decide +kernel
theorem dX0_ageOf_26 : decode cX0_ageOf 26 = .ok (.iload_n 3, 1) := by decide +kernel
theorem dX0_ageOf_27 : decode cX0_ageOf 27 = .ok (.aload_n 0, 1) := by decide +kernel
theorem dX0_ageOf_28 : decode cX0_ageOf 28 = .ok (.getfield 15, 3) := by decide +kernel
theorem dX0_ageOf_31 : decode cX0_ageOf 31 = .ok (.iload 4, 2) := by decide +kernel
theorem dX0_ageOf_33 : decode cX0_ageOf 33 = .ok (.iaload, 1) := by decide +kernel
theorem dX0_ageOf_34 : decode cX0_ageOf 34 = .ok (.isub, 1) := by decide +kernel
theorem dX0_ageOf_35 : decode cX0_ageOf 35 = .ok (.ireturn, 1) := by decide +kernel
theorem dX0_isFresh_0 : decode cX0_isFresh 0 = .ok (.aload_n 0, 1) := by decide +kernel
theorem dX0_isFresh_1 : decode cX0_isFresh 1 = .ok (.iload_n 1, 1) := by decide +kernel
theorem dX0_isFresh_2 : decode cX0_isFresh 2 = .ok (.iload_n 2, 1) := by decide +kernel
theorem dX0_isFresh_3 : decode cX0_isFresh 3 = .ok (.iload_n 3, 1) := by decide +kernel
theorem dX0_isFresh_4 : decode cX0_isFresh 4 = .ok (.invokevirtual 34, 3) := by decide +kernel
theorem dX0_isFresh_7 : decode cX0_isFresh 7 = .ok (.istore 5, 2) := by decide +kernel
theorem dX0_isFresh_9 : decode cX0_isFresh 9 = .ok (.iload 5, 2) := by decide +kernel
theorem dX0_isFresh_11 : decode cX0_isFresh 11 = .ok (.ifCond .lt 14, 3) := by decide +kernel
theorem dX0_isFresh_14 : decode cX0_isFresh 14 = .ok (.iload 5, 2) := by decide +kernel
theorem dX0_isFresh_16 : decode cX0_isFresh 16 = .ok (.iload 4, 2) := by decide +kernel
theorem dX0_isFresh_18 : decode cX0_isFresh 18 = .ok (.if_icmp .gt 7, 3) := by decide +kernel
theorem dX0_isFresh_21 : decode cX0_isFresh 21 = .ok (.iconst 1, 1) := by decide +kernel
theorem dX0_isFresh_22 : decode cX0_isFresh 22 = .ok (.goto 4, 3) := by decide +kernel
theorem dX0_isFresh_25 : decode cX0_isFresh 25 = .ok (.iconst 0, 1) := by decide +kernel
theorem dX0_isFresh_26 : decode cX0_isFresh 26 = .ok (.ireturn, 1) := by decide +kernel
theorem dX0_put_0 : decode cX0_put 0 = .ok (.iload_n 1, 1) := by decide +kernel
theorem dX0_put_1 : decode cX0_put 1 = .ok (.iload_n 2, 1) := by decide +kernel
theorem dX0_put_2 : decode cX0_put 2 = .ok (.invokestatic 30, 3) := by decide +kernel
theorem dX0_put_5 : decode cX0_put 5 = .ok (.istore 5, 2) := by decide +kernel
theorem dX0_put_7 : decode cX0_put 7 = .ok (.iload 5, 2) := by decide +kernel
theorem dX0_put_9 : decode cX0_put 9 = .ok (.ifCond .lt 20, 3) := by decide +kernel
theorem dX0_put_12 : decode cX0_put 12 = .ok (.aload_n 0, 1) := by decide +kernel
theorem dX0_put_13 : decode cX0_put 13 = .ok (.getfield 9, 3) := by decide +kernel
theorem dX0_put_16 : decode cX0_put 16 = .ok (.iload 5, 2) := by decide +kernel
theorem dX0_put_18 : decode cX0_put 18 = .ok (.iload_n 3, 1) := by decide +kernel
theorem dX0_put_19 : decode cX0_put 19 = .ok (.iastore, 1) := by decide +kernel
theorem dX0_put_20 : decode cX0_put 20 = .ok (.aload_n 0, 1) := by decide +kernel
theorem dX0_put_21 : decode cX0_put 21 = .ok (.getfield 15, 3) := by decide +kernel
theorem dX0_put_24 : decode cX0_put 24 = .ok (.iload 5, 2) := by decide +kernel
theorem dX0_put_26 : decode cX0_put 26 = .ok (.iload 4, 2) := by decide +kernel
theorem dX0_put_28 : decode cX0_put 28 = .ok (.iastore, 1) := by decide +kernel
theorem dX0_put_29 : decode cX0_put 29 = .ok (.return_, 1) := by decide +kernel
theorem dX0_forget_0 : decode cX0_forget 0 = .ok (.aload_n 0, 1) := by decide +kernel
theorem dX0_forget_1 : decode cX0_forget 1 = .ok (.iload_n 1, 1) := by decide +kernel
theorem dX0_forget_2 : decode cX0_forget 2 = .ok (.iload_n 2, 1) := by decide +kernel
theorem dX0_forget_3 : decode cX0_forget 3 = .ok (.iconst (-1), 1) := by decide +kernel
theorem dX0_forget_4 : decode cX0_forget 4 = .ok (.iconst 0, 1) := by decide +kernel
theorem dX0_forget_5 : decode cX0_forget 5 = .ok (.invokevirtual 38, 3) := by decide +kernel
theorem dX0_forget_8 : decode cX0_forget 8 = .ok (.return_, 1) := by decide +kernel
theorem dX0_empty_0 : decode cX0_empty 0 = .ok (.iconst 0, 1) := by decide +kernel
theorem dX0_empty_1 : decode cX0_empty 1 = .ok (.istore_n 1, 1) := by decide +kernel
theorem dX0_empty_2 : decode cX0_empty 2 = .ok (.iconst 0, 1) := by decide +kernel
theorem dX0_empty_3 : decode cX0_empty 3 = .ok (.istore_n 2, 1) := by decide +kernel
theorem dX0_empty_4 : decode cX0_empty 4 = .ok (.iload_n 2, 1) := by decide +kernel
theorem dX0_empty_5 : decode cX0_empty 5 = .ok (.aload_n 0, 1) := by decide +kernel
theorem dX0_empty_6 : decode cX0_empty 6 = .ok (.getfield 9, 3) := by decide +kernel
theorem dX0_empty_9 : decode cX0_empty 9 = .ok (.arraylength, 1) := by decide +kernel
theorem dX0_empty_10 : decode cX0_empty 10 = .ok (.if_icmp .ge 28, 3) := by decide +kernel
theorem dX0_empty_13 : decode cX0_empty 13 = .ok (.aload_n 0, 1) := by decide +kernel
theorem dX0_empty_14 : decode cX0_empty 14 = .ok (.getfield 9, 3) := by decide +kernel
theorem dX0_empty_17 : decode cX0_empty 17 = .ok (.iload_n 2, 1) := by decide +kernel
theorem dX0_empty_18 : decode cX0_empty 18 = .ok (.iaload, 1) := by decide +kernel
theorem dX0_empty_19 : decode cX0_empty 19 = .ok (.ifCond .lt 6, 3) := by decide +kernel
theorem dX0_empty_22 : decode cX0_empty 22 = .ok (.iinc 1 1, 3) := by decide +kernel
theorem dX0_empty_25 : decode cX0_empty 25 = .ok (.aload_n 0, 1) := by decide +kernel
theorem dX0_empty_26 : decode cX0_empty 26 = .ok (.getfield 9, 3) := by decide +kernel
theorem dX0_empty_29 : decode cX0_empty 29 = .ok (.iload_n 2, 1) := by decide +kernel
theorem dX0_empty_30 : decode cX0_empty 30 = .ok (.iconst (-1), 1) := by decide +kernel
theorem dX0_empty_31 : decode cX0_empty 31 = .ok (.iastore, 1) := by decide +kernel
theorem dX0_empty_32 : decode cX0_empty 32 = .ok (.iinc 2 1, 3) := by decide +kernel
theorem dX0_empty_35 : decode cX0_empty 35 = .ok (.goto (-31), 3) := by decide +kernel
theorem dX0_empty_38 : decode cX0_empty 38 = .ok (.iload_n 1, 1) := by decide +kernel
theorem dX0_empty_39 : decode cX0_empty 39 = .ok (.ireturn, 1) := by decide +kernel
theorem dX1_init_0 : decode cX1_init 0 = .ok (.aload_n 0, 1) := by decide +kernel
theorem dX1_init_1 : decode cX1_init 1 = .ok (.invokespecial 3, 3) := by decide +kernel
theorem dX1_init_4 : decode cX1_init 4 = .ok (.aload_n 0, 1) := by decide +kernel
theorem dX1_init_5 : decode cX1_init 5 = .ok (.iconst 5, 1) := by decide +kernel
theorem dX1_init_6 : decode cX1_init 6 = .ok (.newarray .int, 2) := by decide +kernel
theorem dX1_init_8 : decode cX1_init 8 = .ok (.dup, 1) := by decide +kernel
theorem dX1_init_9 : decode cX1_init 9 = .ok (.iconst 0, 1) := by decide +kernel
theorem dX1_init_10 : decode cX1_init 10 = .ok (.bipush 50, 2) := by decide +kernel
theorem dX1_init_12 : decode cX1_init 12 = .ok (.iastore, 1) := by decide +kernel
theorem dX1_init_13 : decode cX1_init 13 = .ok (.dup, 1) := by decide +kernel
theorem dX1_init_14 : decode cX1_init 14 = .ok (.iconst 1, 1) := by decide +kernel
theorem dX1_init_15 : decode cX1_init 15 = .ok (.bipush 30, 2) := by decide +kernel
theorem dX1_init_17 : decode cX1_init 17 = .ok (.iastore, 1) := by decide +kernel
theorem dX1_init_18 : decode cX1_init 18 = .ok (.dup, 1) := by decide +kernel
theorem dX1_init_19 : decode cX1_init 19 = .ok (.iconst 2, 1) := by decide +kernel
theorem dX1_init_20 : decode cX1_init 20 = .ok (.iconst 1, 1) := by decide +kernel
theorem dX1_init_21 : decode cX1_init 21 = .ok (.iastore, 1) := by decide +kernel
theorem dX1_init_22 : decode cX1_init 22 = .ok (.dup, 1) := by decide +kernel
theorem dX1_init_23 : decode cX1_init 23 = .ok (.iconst 3, 1) := by decide +kernel
theorem dX1_init_24 : decode cX1_init 24 = .ok (.iconst 0, 1) := by decide +kernel
theorem dX1_init_25 : decode cX1_init 25 = .ok (.iastore, 1) := by decide +kernel
theorem dX1_init_26 : decode cX1_init 26 = .ok (.dup, 1) := by decide +kernel
theorem dX1_init_27 : decode cX1_init 27 = .ok (.iconst 4, 1) := by decide +kernel
theorem dX1_init_28 : decode cX1_init 28 = .ok (.iconst 1, 1) := by decide +kernel
theorem dX1_init_29 : decode cX1_init 29 = .ok (.iastore, 1) := by decide +kernel
theorem dX1_init_30 : decode cX1_init 30 = .ok (.putfield 9, 3) := by decide +kernel
theorem dX1_init_33 : decode cX1_init 33 = .ok (.aload_n 0, 1) := by decide +kernel
theorem dX1_init_34 : decode cX1_init 34 = .ok (.bipush 6, 2) := by decide +kernel
theorem dX1_init_36 : decode cX1_init 36 = .ok (.newarray .int, 2) := by decide +kernel
theorem dX1_init_38 : decode cX1_init 38 = .ok (.putfield 15, 3) := by decide +kernel
theorem dX1_init_41 : decode cX1_init 41 = .ok (.aload_n 0, 1) := by decide +kernel
theorem dX1_init_42 : decode cX1_init 42 = .ok (.iconst 3, 1) := by decide +kernel
theorem dX1_init_43 : decode cX1_init 43 = .ok (.anewarray 18, 3) := by decide +kernel
theorem dX1_init_46 : decode cX1_init 46 = .ok (.dup, 1) := by decide +kernel
theorem dX1_init_47 : decode cX1_init 47 = .ok (.iconst 0, 1) := by decide +kernel
theorem dX1_init_48 : decode cX1_init 48 = .ok (.new 18, 3) := by decide +kernel
theorem dX1_init_51 : decode cX1_init 51 = .ok (.dup, 1) := by decide +kernel
theorem dX1_init_52 : decode cX1_init 52 = .ok (.invokespecial 20, 3) := by decide +kernel
theorem dX1_init_55 : decode cX1_init 55 = .ok (.aastore, 1) := by decide +kernel
theorem dX1_init_56 : decode cX1_init 56 = .ok (.dup, 1) := by decide +kernel
theorem dX1_init_57 : decode cX1_init 57 = .ok (.iconst 1, 1) := by decide +kernel
theorem dX1_init_58 : decode cX1_init 58 = .ok (.new 18, 3) := by decide +kernel
theorem dX1_init_61 : decode cX1_init 61 = .ok (.dup, 1) := by decide +kernel
theorem dX1_init_62 : decode cX1_init 62 = .ok (.invokespecial 20, 3) := by decide +kernel
theorem dX1_init_65 : decode cX1_init 65 = .ok (.aastore, 1) := by decide +kernel
theorem dX1_init_66 : decode cX1_init 66 = .ok (.dup, 1) := by decide +kernel
theorem dX1_init_67 : decode cX1_init 67 = .ok (.iconst 2, 1) := by decide +kernel
theorem dX1_init_68 : decode cX1_init 68 = .ok (.new 18, 3) := by decide +kernel
theorem dX1_init_71 : decode cX1_init 71 = .ok (.dup, 1) := by decide +kernel
theorem dX1_init_72 : decode cX1_init 72 = .ok (.invokespecial 20, 3) := by decide +kernel
theorem dX1_init_75 : decode cX1_init 75 = .ok (.aastore, 1) := by decide +kernel
theorem dX1_init_76 : decode cX1_init 76 = .ok (.putfield 21, 3) := by decide +kernel
theorem dX1_init_79 : decode cX1_init 79 = .ok (.aload_n 0, 1) := by decide +kernel
theorem dX1_init_80 : decode cX1_init 80 = .ok (.new 25, 3) := by decide +kernel
theorem dX1_init_83 : decode cX1_init 83 = .ok (.dup, 1) := by decide +kernel
theorem dX1_init_84 : decode cX1_init 84 = .ok (.invokespecial 27, 3) := by decide +kernel
theorem dX1_init_87 : decode cX1_init 87 = .ok (.putfield 28, 3) := by decide +kernel
theorem dX1_init_90 : decode cX1_init 90 = .ok (.aload_n 0, 1) := by decide +kernel
theorem dX1_init_91 : decode cX1_init 91 = .ok (.new 32, 3) := by decide +kernel
theorem dX1_init_94 : decode cX1_init 94 = .ok (.dup, 1) := by decide +kernel
theorem dX1_init_95 : decode cX1_init 95 = .ok (.invokespecial 34, 3) := by decide +kernel
theorem dX1_init_98 : decode cX1_init 98 = .ok (.putfield 35, 3) := by decide +kernel
theorem dX1_init_101 : decode cX1_init 101 = .ok (.aload_n 0, 1) := by decide +kernel
theorem dX1_init_102 : decode cX1_init 102 = .ok (.new 39, 3) := by decide +kernel
theorem dX1_init_105 : decode cX1_init 105 = .ok (.dup, 1) := by decide +kernel
theorem dX1_init_106 : decode cX1_init 106 = .ok (.invokespecial 41, 3) := by decide +kernel
theorem dX1_init_109 : decode cX1_init 109 = .ok (.putfield 42, 3) := by decide +kernel
theorem dX1_init_112 : decode cX1_init 112 = .ok (.aload_n 0, 1) := by decide +kernel
theorem dX1_init_113 : decode cX1_init 113 = .ok (.new 46, 3) := by decide +kernel
theorem dX1_init_116 : decode cX1_init 116 = .ok (.dup, 1) := by decide +kernel
theorem dX1_init_117 : decode cX1_init 117 = .ok (.invokespecial 48, 3) := by decide +kernel
theorem dX1_init_120 : decode cX1_init 120 = .ok (.putfield 49, 3) := by decide +kernel
theorem dX1_init_123 : decode cX1_init 123 = .ok (.aload_n 0, 1) := by decide +kernel
theorem dX1_init_124 : decode cX1_init 124 = .ok (.iconst 0, 1) := by decide +kernel
theorem dX1_init_125 : decode cX1_init 125 = .ok (.putfield 53, 3) := by decide +kernel
theorem dX1_init_128 : decode cX1_init 128 = .ok (.aload_n 0, 1) := by decide +kernel
theorem dX1_init_129 : decode cX1_init 129 = .ok (.iconst 0, 1) := by decide +kernel
theorem dX1_init_130 : decode cX1_init 130 = .ok (.putfield 57, 3) := by decide +kernel
theorem dX1_init_133 : decode cX1_init 133 = .ok (.aload_n 0, 1) := by decide +kernel
theorem dX1_init_134 : decode cX1_init 134 = .ok (.iconst 0, 1) := by decide +kernel
theorem dX1_init_135 : decode cX1_init 135 = .ok (.putfield 60, 3) := by decide +kernel
theorem dX1_init_138 : decode cX1_init 138 = .ok (.aload_n 0, 1) := by decide +kernel
theorem dX1_init_139 : decode cX1_init 139 = .ok (.iconst 0, 1) := by decide +kernel
theorem dX1_init_140 : decode cX1_init 140 = .ok (.putfield 64, 3) := by decide +kernel
theorem dX1_init_143 : decode cX1_init 143 = .ok (.return_, 1) := by decide +kernel
theorem dX1_copyFrom_0 : decode cX1_copyFrom 0 = .ok (.aload_n 1, 1) := by decide +kernel
theorem dX1_copyFrom_1 : decode cX1_copyFrom 1 = .ok (.getfield 9, 3) := by decide +kernel
theorem dX1_copyFrom_4 : decode cX1_copyFrom 4 = .ok (.iconst 0, 1) := by decide +kernel
theorem dX1_copyFrom_5 : decode cX1_copyFrom 5 = .ok (.aload_n 0, 1) := by decide +kernel
theorem dX1_copyFrom_6 : decode cX1_copyFrom 6 = .ok (.getfield 9, 3) := by decide +kernel
theorem dX1_copyFrom_9 : decode cX1_copyFrom 9 = .ok (.iconst 0, 1) := by decide +kernel
theorem dX1_copyFrom_10 : decode cX1_copyFrom 10 = .ok (.iconst 5, 1) := by decide +kernel
theorem dX1_copyFrom_11 : decode cX1_copyFrom 11 = .ok (.invokestatic 67, 3) := by decide +kernel
theorem dX1_copyFrom_14 : decode cX1_copyFrom 14 = .ok (.aload_n 1, 1) := by decide +kernel
theorem dX1_copyFrom_15 : decode cX1_copyFrom 15 = .ok (.getfield 15, 3) := by decide +kernel
theorem dX1_copyFrom_18 : decode cX1_copyFrom 18 = .ok (.iconst 0, 1) := by decide +kernel
theorem dX1_copyFrom_19 : decode cX1_copyFrom 19 = .ok (.aload_n 0, 1) := by decide +kernel
theorem dX1_copyFrom_20 : decode cX1_copyFrom 20 = .ok (.getfield 15, 3) := by decide +kernel
theorem dX1_copyFrom_23 : decode cX1_copyFrom 23 = .ok (.iconst 0, 1) := by decide +kernel
theorem dX1_copyFrom_24 : decode cX1_copyFrom 24 = .ok (.bipush 6, 2) := by decide +kernel
theorem dX1_copyFrom_26 : decode cX1_copyFrom 26 = .ok (.invokestatic 67, 3) := by decide +kernel
theorem dX1_copyFrom_29 : decode cX1_copyFrom 29 = .ok (.iconst 0, 1) := by decide +kernel
theorem dX1_copyFrom_30 : decode cX1_copyFrom 30 = .ok (.istore_n 2, 1) := by decide +kernel
theorem dX1_copyFrom_31 : decode cX1_copyFrom 31 = .ok (.iload_n 2, 1) := by decide +kernel
theorem dX1_copyFrom_32 : decode cX1_copyFrom 32 = .ok (.iconst 3, 1) := by decide +kernel
theorem dX1_copyFrom_33 : decode cX1_copyFrom 33 = .ok (.if_icmp .ge 24, 3) := by decide +kernel
theorem dX1_copyFrom_36 : decode cX1_copyFrom 36 = .ok (.aload_n 0, 1) := by decide +kernel
theorem dX1_copyFrom_37 : decode cX1_copyFrom 37 = .ok (.getfield 21, 3) := by decide +kernel
theorem dX1_copyFrom_40 : decode cX1_copyFrom 40 = .ok (.iload_n 2, 1) := by decide +kernel
theorem dX1_copyFrom_41 : decode cX1_copyFrom 41 = .ok (.aaload, 1) := by decide +kernel
theorem dX1_copyFrom_42 : decode cX1_copyFrom 42 = .ok (.aload_n 1, 1) := by decide +kernel
theorem dX1_copyFrom_43 : decode cX1_copyFrom 43 = .ok (.getfield 21, 3) := by decide +kernel
theorem dX1_copyFrom_46 : decode cX1_copyFrom 46 = .ok (.iload_n 2, 1) := by decide +kernel
theorem dX1_copyFrom_47 : decode cX1_copyFrom 47 = .ok (.aaload, 1) := by decide +kernel
theorem dX1_copyFrom_48 : decode cX1_copyFrom 48 = .ok (.invokevirtual 73, 3) := by decide +kernel
theorem dX1_copyFrom_51 : decode cX1_copyFrom 51 = .ok (.iinc 2 1, 3) := by decide +kernel
theorem dX1_copyFrom_54 : decode cX1_copyFrom 54 = .ok (.goto (-23), 3) := by decide +kernel
theorem dX1_copyFrom_57 : decode cX1_copyFrom 57 = .ok (.aload_n 0, 1) := by decide +kernel
theorem dX1_copyFrom_58 : decode cX1_copyFrom 58 = .ok (.getfield 28, 3) := by decide +kernel
theorem dX1_copyFrom_61 : decode cX1_copyFrom 61 = .ok (.aload_n 1, 1) := by decide +kernel
theorem dX1_copyFrom_62 : decode cX1_copyFrom 62 = .ok (.getfield 28, 3) := by decide +kernel
theorem dX1_copyFrom_65 : decode cX1_copyFrom 65 = .ok (.invokevirtual 77, 3) := by decide +kernel
theorem dX1_copyFrom_68 : decode cX1_copyFrom 68 = .ok (.aload_n 0, 1) := by decide +kernel
theorem dX1_copyFrom_69 : decode cX1_copyFrom 69 = .ok (.getfield 35, 3) := by decide +kernel
theorem dX1_copyFrom_72 : decode cX1_copyFrom 72 = .ok (.aload_n 1, 1) := by decide +kernel
theorem dX1_copyFrom_73 : decode cX1_copyFrom 73 = .ok (.getfield 35, 3) := by decide +kernel
theorem dX1_copyFrom_76 : decode cX1_copyFrom 76 = .ok (.invokevirtual 80, 3) := by decide +kernel
theorem dX1_copyFrom_79 : decode cX1_copyFrom 79 = .ok (.aload_n 0, 1) := by decide +kernel
theorem dX1_copyFrom_80 : decode cX1_copyFrom 80 = .ok (.getfield 42, 3) := by decide +kernel
theorem dX1_copyFrom_83 : decode cX1_copyFrom 83 = .ok (.aload_n 1, 1) := by decide +kernel
theorem dX1_copyFrom_84 : decode cX1_copyFrom 84 = .ok (.getfield 42, 3) := by decide +kernel
theorem dX1_copyFrom_87 : decode cX1_copyFrom 87 = .ok (.invokevirtual 83, 3) := by decide +kernel
theorem dX1_copyFrom_90 : decode cX1_copyFrom 90 = .ok (.aload_n 0, 1) := by decide +kernel
theorem dX1_copyFrom_91 : decode cX1_copyFrom 91 = .ok (.aload_n 1, 1) := by decide +kernel
theorem dX1_copyFrom_92 : decode cX1_copyFrom 92 = .ok (.getfield 53, 3) := by decide +kernel
theorem dX1_copyFrom_95 : decode cX1_copyFrom 95 = .ok (.putfield 53, 3) := by decide +kernel
theorem dX1_copyFrom_98 : decode cX1_copyFrom 98 = .ok (.aload_n 0, 1) := by decide +kernel
theorem dX1_copyFrom_99 : decode cX1_copyFrom 99 = .ok (.aload_n 1, 1) := by decide +kernel
theorem dX1_copyFrom_100 : decode cX1_copyFrom 100 = .ok (.getfield 57, 3) := by decide +kernel
theorem dX1_copyFrom_103 : decode cX1_copyFrom 103 = .ok (.putfield 57, 3) := by decide +kernel
theorem dX1_copyFrom_106 : decode cX1_copyFrom 106 = .ok (.aload_n 0, 1) := by decide +kernel
theorem dX1_copyFrom_107 : decode cX1_copyFrom 107 = .ok (.aload_n 1, 1) := by decide +kernel
theorem dX1_copyFrom_108 : decode cX1_copyFrom 108 = .ok (.getfield 60, 3) := by decide +kernel
theorem dX1_copyFrom_111 : decode cX1_copyFrom 111 = .ok (.putfield 60, 3) := by decide +kernel
theorem dX1_copyFrom_114 : decode cX1_copyFrom 114 = .ok (.aload_n 0, 1) := by decide +kernel
theorem dX1_copyFrom_115 : decode cX1_copyFrom 115 = .ok (.iconst 0, 1) := by decide +kernel
theorem dX1_copyFrom_116 : decode cX1_copyFrom 116 = .ok (.putfield 64, 3) := by decide +kernel
theorem dX1_copyFrom_119 : decode cX1_copyFrom 119 = .ok (.return_, 1) := by decide +kernel
theorem dX1_plan_0 : decode cX1_plan 0 = .ok (.aload_n 0, 1) := by decide +kernel
theorem dX1_plan_1 : decode cX1_plan 1 = .ok (.getfield 49, 3) := by decide +kernel
theorem dX1_plan_4 : decode cX1_plan 4 = .ok (.iconst 0, 1) := by decide +kernel
theorem dX1_plan_5 : decode cX1_plan 5 = .ok (.putfield 86, 3) := by decide +kernel
theorem dX1_plan_8 : decode cX1_plan 8 = .ok (.aload_n 0, 1) := by decide +kernel
theorem dX1_plan_9 : decode cX1_plan 9 = .ok (.getfield 35, 3) := by decide +kernel
theorem dX1_plan_12 : decode cX1_plan 12 = .ok (.invokevirtual 89, 3) := by decide +kernel
theorem dX1_plan_15 : decode cX1_plan 15 = .ok (.astore_n 1, 1) := by decide +kernel
theorem dX1_plan_16 : decode cX1_plan 16 = .ok (.aload_n 1, 1) := by decide +kernel
theorem dX1_plan_17 : decode cX1_plan 17 = .ok (.ifnull 11, 3) := by decide +kernel
theorem dX1_plan_20 : decode cX1_plan 20 = .ok (.aload_n 0, 1) := by decide +kernel
theorem dX1_plan_21 : decode cX1_plan 21 = .ok (.aload_n 1, 1) := by decide +kernel
theorem dX1_plan_22 : decode cX1_plan 22 = .ok (.invokevirtual 93, 3) := by decide +kernel
theorem dX1_plan_25 : decode cX1_plan 25 = .ok (.ifCond .eq 4, 3) := by decide +kernel
theorem dX1_plan_28 : decode cX1_plan 28 = .ok (.return_, 1) := by decide +kernel
theorem dX1_plan_29 : decode cX1_plan 29 = .ok (.aload_n 0, 1) := by decide +kernel
theorem dX1_plan_30 : decode cX1_plan 30 = .ok (.getfield 9, 3) := by decide +kernel
theorem dX1_plan_33 : decode cX1_plan 33 = .ok (.iconst 4, 1) := by decide +kernel
theorem dX1_plan_34 : decode cX1_plan 34 = .ok (.iaload, 1) := by decide +kernel
theorem dX1_plan_35 : decode cX1_plan 35 = .ok (.iconst 1, 1) := by decide +kernel
theorem dX1_plan_36 : decode cX1_plan 36 = .ok (.if_icmp .ne 10, 3) := by decide +kernel
theorem dX1_plan_39 : decode cX1_plan 39 = .ok (.aload_n 0, 1) := by decide +kernel
theorem dX1_plan_40 : decode cX1_plan 40 = .ok (.getfield 35, 3) := by decide +kernel
theorem dX1_plan_43 : decode cX1_plan 43 = .ok (.invokevirtual 97, 3) := by decide +kernel
theorem dX1_plan_46 : decode cX1_plan 46 = .ok (.aload_n 0, 1) := by decide +kernel
theorem dX1_plan_47 : decode cX1_plan 47 = .ok (.getfield 35, 3) := by decide +kernel
theorem dX1_plan_50 : decode cX1_plan 50 = .ok (.getfield 100, 3) := by decide +kernel
theorem dX1_plan_53 : decode cX1_plan 53 = .ok (.ifCond .eq 10, 3) := by decide +kernel
theorem dX1_plan_56 : decode cX1_plan 56 = .ok (.aload_n 0, 1) := by decide +kernel
theorem dX1_plan_57 : decode cX1_plan 57 = .ok (.invokevirtual 103, 3) := by decide +kernel
theorem dX1_plan_60 : decode cX1_plan 60 = .ok (.goto 46, 3) := by decide +kernel
theorem dX1_plan_63 : decode cX1_plan 63 = .ok (.aload_n 0, 1) := by decide +kernel
theorem dX1_plan_64 : decode cX1_plan 64 = .ok (.getfield 49, 3) := by decide +kernel
theorem dX1_plan_67 : decode cX1_plan 67 = .ok (.aload_n 0, 1) := by decide +kernel
theorem dX1_plan_68 : decode cX1_plan 68 = .ok (.getfield 35, 3) := by decide +kernel
theorem dX1_plan_71 : decode cX1_plan 71 = .ok (.getfield 106, 3) := by decide +kernel
theorem dX1_plan_74 : decode cX1_plan 74 = .ok (.iconst 3, 1) := by decide +kernel
theorem dX1_plan_75 : decode cX1_plan 75 = .ok (.invokevirtual 109, 3) := by decide +kernel
theorem dX1_plan_78 : decode cX1_plan 78 = .ok (.aload_n 0, 1) := by decide +kernel
theorem dX1_plan_79 : decode cX1_plan 79 = .ok (.getfield 49, 3) := by decide +kernel
theorem dX1_plan_82 : decode cX1_plan 82 = .ok (.aload_n 0, 1) := by decide +kernel
theorem dX1_plan_83 : decode cX1_plan 83 = .ok (.getfield 35, 3) := by decide +kernel
theorem dX1_plan_86 : decode cX1_plan 86 = .ok (.getfield 113, 3) := by decide +kernel
theorem dX1_plan_89 : decode cX1_plan 89 = .ok (.invokevirtual 116, 3) := by decide +kernel
theorem dX1_plan_92 : decode cX1_plan 92 = .ok (.aload_n 0, 1) := by decide +kernel
theorem dX1_plan_93 : decode cX1_plan 93 = .ok (.getfield 49, 3) := by decide +kernel
theorem dX1_plan_96 : decode cX1_plan 96 = .ok (.aload_n 0, 1) := by decide +kernel
theorem dX1_plan_97 : decode cX1_plan 97 = .ok (.getfield 35, 3) := by decide +kernel
theorem dX1_plan_100 : decode cX1_plan 100 = .ok (.invokevirtual 120, 3) := by decide +kernel
theorem dX1_plan_103 : decode cX1_plan 103 = .ok (.invokevirtual 116, 3) := by decide +kernel
theorem dX1_plan_106 : decode cX1_plan 106 = .ok (.aload_n 0, 1) := by decide +kernel
theorem dX1_plan_107 : decode cX1_plan 107 = .ok (.getfield 49, 3) := by decide +kernel
theorem dX1_plan_110 : decode cX1_plan 110 = .ok (.invokevirtual 124, 3) := by decide +kernel
theorem dX1_plan_113 : decode cX1_plan 113 = .ok (.return_, 1) := by decide +kernel
theorem dX1_cacheAnswers_0 : decode cX1_cacheAnswers 0 = .ok (.aload_n 1, 1) := by decide +kernel
theorem dX1_cacheAnswers_1 : decode cX1_cacheAnswers 1 = .ok (.getfield 127, 3) := by decide +kernel
theorem dX1_cacheAnswers_4 : decode cX1_cacheAnswers 4 = .ok (.ifCond .eq 5, 3) := by decide +kernel
theorem dX1_cacheAnswers_7 : decode cX1_cacheAnswers 7 = .ok (.iconst 0, 1) := by decide +kernel
theorem dX1_cacheAnswers_8 : decode cX1_cacheAnswers 8 = .ok (.ireturn, 1) := by decide +kernel
theorem dX1_cacheAnswers_9 : decode cX1_cacheAnswers 9 = .ok (.aload_n 1, 1) := by decide +kernel
theorem dX1_cacheAnswers_10 : decode cX1_cacheAnswers 10 = .ok (.getfield 130, 3) := by decide +kernel
theorem dX1_cacheAnswers_13 : decode cX1_cacheAnswers 13 = .ok (.istore_n 2, 1) := by decide +kernel
theorem dX1_cacheAnswers_14 : decode cX1_cacheAnswers 14 = .ok (.iload_n 2, 1) := by decide +kernel
theorem dX1_cacheAnswers_15 : decode cX1_cacheAnswers 15 = .ok (.aload_n 1, 1) := by decide +kernel
theorem dX1_cacheAnswers_16 : decode cX1_cacheAnswers 16 = .ok (.getfield 131, 3) := by decide +kernel
theorem dX1_cacheAnswers_19 : decode cX1_cacheAnswers 19 = .ok (.if_icmp .ge 36, 3) := by decide +kernel
theorem dX1_cacheAnswers_22 : decode cX1_cacheAnswers 22 = .ok (.aload_n 0, 1) := by decide +kernel
theorem dX1_cacheAnswers_23 : decode cX1_cacheAnswers 23 = .ok (.getfield 28, 3) := by decide +kernel
theorem dX1_cacheAnswers_26 : decode cX1_cacheAnswers 26 = .ok (.aload_n 1, 1) := by decide +kernel
theorem dX1_cacheAnswers_27 : decode cX1_cacheAnswers 27 = .ok (.getfield 134, 3) := by decide +kernel
theorem dX1_cacheAnswers_30 : decode cX1_cacheAnswers 30 = .ok (.iload_n 2, 1) := by decide +kernel
theorem dX1_cacheAnswers_31 : decode cX1_cacheAnswers 31 = .ok (.aload_n 0, 1) := by decide +kernel
theorem dX1_cacheAnswers_32 : decode cX1_cacheAnswers 32 = .ok (.getfield 53, 3) := by decide +kernel
theorem dX1_cacheAnswers_35 : decode cX1_cacheAnswers 35 = .ok (.aload_n 0, 1) := by decide +kernel
theorem dX1_cacheAnswers_36 : decode cX1_cacheAnswers 36 = .ok (.getfield 9, 3) := by decide +kernel
theorem dX1_cacheAnswers_39 : decode cX1_cacheAnswers 39 = .ok (.iconst 0, 1) := by decide +kernel
theorem dX1_cacheAnswers_40 : decode cX1_cacheAnswers 40 = .ok (.iaload, 1) := by decide +kernel
theorem dX1_cacheAnswers_41 : decode cX1_cacheAnswers 41 = .ok (.invokevirtual 135, 3) := by decide +kernel
theorem dX1_cacheAnswers_44 : decode cX1_cacheAnswers 44 = .ok (.ifCond .ne 5, 3) := by decide +kernel
theorem dX1_cacheAnswers_47 : decode cX1_cacheAnswers 47 = .ok (.iconst 0, 1) := by decide +kernel
theorem dX1_cacheAnswers_48 : decode cX1_cacheAnswers 48 = .ok (.ireturn, 1) := by decide +kernel
theorem dX1_cacheAnswers_49 : decode cX1_cacheAnswers 49 = .ok (.iinc 2 1, 3) := by decide +kernel
theorem dX1_cacheAnswers_52 : decode cX1_cacheAnswers 52 = .ok (.goto (-38), 3) := by decide +kernel
theorem dX1_cacheAnswers_55 : decode cX1_cacheAnswers 55 = .ok (.iconst 1, 1) := by decide +kernel
theorem dX1_cacheAnswers_56 : decode cX1_cacheAnswers 56 = .ok (.ireturn, 1) := by decide +kernel
theorem dX1_buildWriteFrame_0 : decode cX1_buildWriteFrame 0 = .ok (.aload_n 0, 1) := by decide +kernel
theorem dX1_buildWriteFrame_1 : decode cX1_buildWriteFrame 1 = .ok (.getfield 35, 3) := by decide +kernel
theorem dX1_buildWriteFrame_4 : decode cX1_buildWriteFrame 4 = .ok (.invokevirtual 120, 3) := by decide +kernel
theorem dX1_buildWriteFrame_7 : decode cX1_buildWriteFrame 7 = .ok (.istore_n 1, 1) := by decide +kernel
theorem dX1_buildWriteFrame_8 : decode cX1_buildWriteFrame 8 = .ok (.aload_n 0, 1) := by decide +kernel
theorem dX1_buildWriteFrame_9 : decode cX1_buildWriteFrame 9 = .ok (.getfield 49, 3) := by decide +kernel
theorem dX1_buildWriteFrame_12 : decode cX1_buildWriteFrame 12 = .ok (.aload_n 0, 1) := by decide +kernel
theorem dX1_buildWriteFrame_13 : decode cX1_buildWriteFrame 13 = .ok (.getfield 35, 3) := by decide +kernel
theorem dX1_buildWriteFrame_16 : decode cX1_buildWriteFrame 16 = .ok (.getfield 106, 3) := by decide +kernel
theorem dX1_buildWriteFrame_19 : decode cX1_buildWriteFrame 19 = .ok (.iload_n 1, 1) := by decide +kernel
theorem dX1_buildWriteFrame_20 : decode cX1_buildWriteFrame 20 = .ok (.iconst 1, 1) := by decide +kernel
theorem dX1_buildWriteFrame_21 : decode cX1_buildWriteFrame 21 = .ok (.if_icmp .ne 8, 3) := by decide +kernel
theorem dX1_buildWriteFrame_24 : decode cX1_buildWriteFrame 24 = .ok (.bipush 6, 2) := by decide +kernel
theorem dX1_buildWriteFrame_26 : decode cX1_buildWriteFrame 26 = .ok (.goto 5, 3) := by decide +kernel
theorem dX1_buildWriteFrame_29 : decode cX1_buildWriteFrame 29 = .ok (.bipush 16, 2) := by decide +kernel
theorem dX1_buildWriteFrame_31 : decode cX1_buildWriteFrame 31 = .ok (.invokevirtual 109, 3) := by decide +kernel
theorem dX1_buildWriteFrame_34 : decode cX1_buildWriteFrame 34 = .ok (.aload_n 0, 1) := by decide +kernel
theorem dX1_buildWriteFrame_35 : decode cX1_buildWriteFrame 35 = .ok (.getfield 49, 3) := by decide +kernel
theorem dX1_buildWriteFrame_38 : decode cX1_buildWriteFrame 38 = .ok (.aload_n 0, 1) := by decide +kernel
theorem dX1_buildWriteFrame_39 : decode cX1_buildWriteFrame 39 = .ok (.getfield 35, 3) := by decide +kernel
theorem dX1_buildWriteFrame_42 : decode cX1_buildWriteFrame 42 = .ok (.getfield 113, 3) := by decide +kernel
theorem dX1_buildWriteFrame_45 : decode cX1_buildWriteFrame 45 = .ok (.invokevirtual 116, 3) := by decide +kernel
theorem dX1_buildWriteFrame_48 : decode cX1_buildWriteFrame 48 = .ok (.iload_n 1, 1) := by decide +kernel
theorem dX1_buildWriteFrame_49 : decode cX1_buildWriteFrame 49 = .ok (.iconst 1, 1) := by decide +kernel
theorem dX1_buildWriteFrame_50 : decode cX1_buildWriteFrame 50 = .ok (.if_icmp .le 21, 3) := by decide +kernel
theorem dX1_buildWriteFrame_53 : decode cX1_buildWriteFrame 53 = .ok (.aload_n 0, 1) := by decide +kernel
theorem dX1_buildWriteFrame_54 : decode cX1_buildWriteFrame 54 = .ok (.getfield 49, 3) := by decide +kernel
theorem dX1_buildWriteFrame_57 : decode cX1_buildWriteFrame 57 = .ok (.iload_n 1, 1) := by decide +kernel
theorem dX1_buildWriteFrame_58 : decode cX1_buildWriteFrame 58 = .ok (.invokevirtual 116, 3) := by decide +kernel
theorem dX1_buildWriteFrame_61 : decode cX1_buildWriteFrame 61 = .ok (.aload_n 0, 1) := by decide +kernel
theorem dX1_buildWriteFrame_62 : decode cX1_buildWriteFrame 62 = .ok (.getfield 49, 3) := by decide +kernel
theorem dX1_buildWriteFrame_65 : decode cX1_buildWriteFrame 65 = .ok (.iconst 2, 1) := by decide +kernel
theorem dX1_buildWriteFrame_66 : decode cX1_buildWriteFrame 66 = .ok (.iload_n 1, 1) := by decide +kernel
theorem dX1_buildWriteFrame_67 : decode cX1_buildWriteFrame 67 = .ok (.imul, 1) := by decide +kernel
theorem dX1_buildWriteFrame_68 : decode cX1_buildWriteFrame 68 = .ok (.invokevirtual 139, 3) := by decide +kernel
theorem dX1_buildWriteFrame_71 : decode cX1_buildWriteFrame 71 = .ok (.aload_n 0, 1) := by decide +kernel
theorem dX1_buildWriteFrame_72 : decode cX1_buildWriteFrame 72 = .ok (.getfield 35, 3) := by decide +kernel
theorem dX1_buildWriteFrame_75 : decode cX1_buildWriteFrame 75 = .ok (.getfield 113, 3) := by decide +kernel
theorem dX1_buildWriteFrame_78 : decode cX1_buildWriteFrame 78 = .ok (.istore_n 2, 1) := by decide +kernel
theorem dX1_buildWriteFrame_79 : decode cX1_buildWriteFrame 79 = .ok (.iload_n 2, 1) := by decide +kernel
theorem dX1_buildWriteFrame_80 : decode cX1_buildWriteFrame 80 = .ok (.aload_n 0, 1) := by decide +kernel
theorem dX1_buildWriteFrame_81 : decode cX1_buildWriteFrame 81 = .ok (.getfield 35, 3) := by decide +kernel
theorem dX1_buildWriteFrame_84 : decode cX1_buildWriteFrame 84 = .ok (.getfield 142, 3) := by decide +kernel
theorem dX1_buildWriteFrame_87 : decode cX1_buildWriteFrame 87 = .ok (.if_icmp .ge 24, 3) := by decide +kernel
theorem dX1_buildWriteFrame_90 : decode cX1_buildWriteFrame 90 = .ok (.aload_n 0, 1) := by decide +kernel
theorem dX1_buildWriteFrame_91 : decode cX1_buildWriteFrame 91 = .ok (.getfield 49, 3) := by decide +kernel
theorem dX1_buildWriteFrame_94 : decode cX1_buildWriteFrame 94 = .ok (.aload_n 0, 1) := by decide +kernel
theorem dX1_buildWriteFrame_95 : decode cX1_buildWriteFrame 95 = .ok (.getfield 35, 3) := by decide +kernel
theorem dX1_buildWriteFrame_98 : decode cX1_buildWriteFrame 98 = .ok (.iload_n 2, 1) := by decide +kernel
theorem dX1_buildWriteFrame_99 : decode cX1_buildWriteFrame 99 = .ok (.invokevirtual 143, 3) := by decide +kernel
theorem dX1_buildWriteFrame_102 : decode cX1_buildWriteFrame 102 = .ok (.invokevirtual 116, 3) := by decide +kernel
theorem dX1_buildWriteFrame_105 : decode cX1_buildWriteFrame 105 = .ok (.iinc 2 1, 3) := by decide +kernel
theorem dX1_buildWriteFrame_108 : decode cX1_buildWriteFrame 108 = .ok (.goto (-29), 3) := by decide +kernel
theorem dX1_buildWriteFrame_111 : decode cX1_buildWriteFrame 111 = .ok (.return_, 1) := by decide +kernel
theorem dX1_takeStep_0 : decode cX1_takeStep 0 = .ok (.aload_n 0, 1) := by decide +kernel
theorem dX1_takeStep_1 : decode cX1_takeStep 1 = .ok (.invokevirtual 147, 3) := by decide +kernel
theorem dX1_takeStep_4 : decode cX1_takeStep 4 = .ok (.aload_n 0, 1) := by decide +kernel
theorem dX1_takeStep_5 : decode cX1_takeStep 5 = .ok (.getfield 35, 3) := by decide +kernel
theorem dX1_takeStep_8 : decode cX1_takeStep 8 = .ok (.getfield 150, 3) := by decide +kernel
theorem dX1_takeStep_11 : decode cX1_takeStep 11 = .ok (.invokestatic 154, 3) := by decide +kernel
theorem dX1_takeStep_14 : decode cX1_takeStep 14 = .ok (.istore_n 1, 1) := by decide +kernel
theorem dX1_takeStep_15 : decode cX1_takeStep 15 = .ok (.iload_n 1, 1) := by decide +kernel
theorem dX1_takeStep_16 : decode cX1_takeStep 16 = .ok (.ifCond .ne 5, 3) := by decide +kernel
theorem dX1_takeStep_19 : decode cX1_takeStep 19 = .ok (.iconst 0, 1) := by decide +kernel
theorem dX1_takeStep_20 : decode cX1_takeStep 20 = .ok (.ireturn, 1) := by decide +kernel
theorem dX1_takeStep_21 : decode cX1_takeStep 21 = .ok (.aload_n 0, 1) := by decide +kernel
theorem dX1_takeStep_22 : decode cX1_takeStep 22 = .ok (.getfield 49, 3) := by decide +kernel
theorem dX1_takeStep_25 : decode cX1_takeStep 25 = .ok (.getfield 86, 3) := by decide +kernel
theorem dX1_takeStep_28 : decode cX1_takeStep 28 = .ok (.ifCond .ne 39, 3) := by decide +kernel
theorem dX1_takeStep_31 : decode cX1_takeStep 31 = .ok (.aload_n 0, 1) := by decide +kernel
theorem dX1_takeStep_32 : decode cX1_takeStep 32 = .ok (.getfield 15, 3) := by decide +kernel
theorem dX1_takeStep_35 : decode cX1_takeStep 35 = .ok (.iconst 4, 1) := by decide +kernel
theorem dX1_takeStep_36 : decode cX1_takeStep 36 = .ok (.dup2, 1) := by decide +kernel
theorem dX1_takeStep_37 : decode cX1_takeStep 37 = .ok (.iaload, 1) := by decide +kernel
theorem dX1_takeStep_38 : decode cX1_takeStep 38 = .ok (.iconst 1, 1) := by decide +kernel
theorem dX1_takeStep_39 : decode cX1_takeStep 39 = .ok (.iadd, 1) := by decide +kernel
theorem dX1_takeStep_40 : decode cX1_takeStep 40 = .ok (.iastore, 1) := by decide +kernel
theorem dX1_takeStep_41 : decode cX1_takeStep 41 = .ok (.aload_n 0, 1) := by decide +kernel
theorem dX1_takeStep_42 : decode cX1_takeStep 42 = .ok (.aload_n 0, 1) := by decide +kernel
theorem dX1_takeStep_43 : decode cX1_takeStep 43 = .ok (.getfield 35, 3) := by decide +kernel
theorem dX1_takeStep_46 : decode cX1_takeStep 46 = .ok (.getfield 160, 3) := by decide +kernel
theorem dX1_takeStep_49 : decode cX1_takeStep 49 = .ok (.aload_n 0, 1) := by decide +kernel
theorem dX1_takeStep_50 : decode cX1_takeStep 50 = .ok (.getfield 35, 3) := by decide +kernel
theorem dX1_takeStep_53 : decode cX1_takeStep 53 = .ok (.getfield 164, 3) := by decide +kernel
theorem dX1_takeStep_56 : decode cX1_takeStep 56 = .ok (.invokevirtual 167, 3) := by decide +kernel
theorem dX1_takeStep_59 : decode cX1_takeStep 59 = .ok (.checkcast 128, 3) := by decide +kernel
theorem dX1_takeStep_62 : decode cX1_takeStep 62 = .ok (.invokevirtual 173, 3) := by decide +kernel
theorem dX1_takeStep_65 : decode cX1_takeStep 65 = .ok (.iload_n 1, 1) := by decide +kernel
theorem dX1_takeStep_66 : decode cX1_takeStep 66 = .ok (.ireturn, 1) := by decide +kernel
theorem dX1_takeStep_67 : decode cX1_takeStep 67 = .ok (.aload_n 0, 1) := by decide +kernel
theorem dX1_takeStep_68 : decode cX1_takeStep 68 = .ok (.getfield 15, 3) := by decide +kernel
theorem dX1_takeStep_71 : decode cX1_takeStep 71 = .ok (.iconst 5, 1) := by decide +kernel
theorem dX1_takeStep_72 : decode cX1_takeStep 72 = .ok (.dup2, 1) := by decide +kernel
theorem dX1_takeStep_73 : decode cX1_takeStep 73 = .ok (.iaload, 1) := by decide +kernel
theorem dX1_takeStep_74 : decode cX1_takeStep 74 = .ok (.iload_n 1, 1) := by decide +kernel
theorem dX1_takeStep_75 : decode cX1_takeStep 75 = .ok (.iconst 1, 1) := by decide +kernel
theorem dX1_takeStep_76 : decode cX1_takeStep 76 = .ok (.isub, 1) := by decide +kernel
theorem dX1_takeStep_77 : decode cX1_takeStep 77 = .ok (.iadd, 1) := by decide +kernel
theorem dX1_takeStep_78 : decode cX1_takeStep 78 = .ok (.iastore, 1) := by decide +kernel
theorem dX1_takeStep_79 : decode cX1_takeStep 79 = .ok (.aload_n 0, 1) := by decide +kernel
theorem dX1_takeStep_80 : decode cX1_takeStep 80 = .ok (.aload_n 0, 1) := by decide +kernel
theorem dX1_takeStep_81 : decode cX1_takeStep 81 = .ok (.getfield 21, 3) := by decide +kernel
theorem dX1_takeStep_84 : decode cX1_takeStep 84 = .ok (.aload_n 0, 1) := by decide +kernel
theorem dX1_takeStep_85 : decode cX1_takeStep 85 = .ok (.getfield 35, 3) := by decide +kernel
theorem dX1_takeStep_88 : decode cX1_takeStep 88 = .ok (.getfield 106, 3) := by decide +kernel
theorem dX1_takeStep_91 : decode cX1_takeStep 91 = .ok (.iconst 1, 1) := by decide +kernel
theorem dX1_takeStep_92 : decode cX1_takeStep 92 = .ok (.isub, 1) := by decide +kernel
theorem dX1_takeStep_93 : decode cX1_takeStep 93 = .ok (.aaload, 1) := by decide +kernel
theorem dX1_takeStep_94 : decode cX1_takeStep 94 = .ok (.invokevirtual 177, 3) := by decide +kernel
theorem dX1_takeStep_97 : decode cX1_takeStep 97 = .ok (.astore_n 2, 1) := by decide +kernel
theorem dX1_takeStep_98 : decode cX1_takeStep 98 = .ok (.aload_n 2, 1) := by decide +kernel
theorem dX1_takeStep_99 : decode cX1_takeStep 99 = .ok (.ifnonnull 11, 3) := by decide +kernel
theorem dX1_takeStep_102 : decode cX1_takeStep 102 = .ok (.aload_n 0, 1) := by decide +kernel
theorem dX1_takeStep_103 : decode cX1_takeStep 103 = .ok (.bipush 11, 2) := by decide +kernel
theorem dX1_takeStep_105 : decode cX1_takeStep 105 = .ok (.invokevirtual 181, 3) := by decide +kernel
theorem dX1_takeStep_108 : decode cX1_takeStep 108 = .ok (.iload_n 1, 1) := by decide +kernel
theorem dX1_takeStep_109 : decode cX1_takeStep 109 = .ok (.ireturn, 1) := by decide +kernel
theorem dX1_takeStep_110 : decode cX1_takeStep 110 = .ok (.aload_n 2, 1) := by decide +kernel
theorem dX1_takeStep_111 : decode cX1_takeStep 111 = .ok (.getfield 184, 3) := by decide +kernel
theorem dX1_takeStep_114 : decode cX1_takeStep 114 = .ok (.invokevirtual 187, 3) := by decide +kernel
theorem dX1_takeStep_117 : decode cX1_takeStep 117 = .ok (.ifCond .eq 18, 3) := by decide +kernel
theorem dX1_takeStep_120 : decode cX1_takeStep 120 = .ok (.aload_n 0, 1) := by decide +kernel
theorem dX1_takeStep_121 : decode cX1_takeStep 121 = .ok (.aload_n 2, 1) := by decide +kernel
theorem dX1_takeStep_122 : decode cX1_takeStep 122 = .ok (.getfield 184, 3) := by decide +kernel
theorem dX1_takeStep_125 : decode cX1_takeStep 125 = .ok (.iconst 2, 1) := by decide +kernel
theorem dX1_takeStep_126 : decode cX1_takeStep 126 = .ok (.invokevirtual 191, 3) := by decide +kernel
theorem dX1_takeStep_129 : decode cX1_takeStep 129 = .ok (.invokevirtual 181, 3) := by decide +kernel
theorem dX1_takeStep_132 : decode cX1_takeStep 132 = .ok (.goto 11, 3) := by decide +kernel
theorem dX1_takeStep_135 : decode cX1_takeStep 135 = .ok (.aload_n 0, 1) := by decide +kernel
theorem dX1_takeStep_136 : decode cX1_takeStep 136 = .ok (.aload_n 2, 1) := by decide +kernel
theorem dX1_takeStep_137 : decode cX1_takeStep 137 = .ok (.getfield 184, 3) := by decide +kernel
theorem dX1_takeStep_140 : decode cX1_takeStep 140 = .ok (.invokevirtual 194, 3) := by decide +kernel
theorem dX1_takeStep_143 : decode cX1_takeStep 143 = .ok (.aload_n 0, 1) := by decide +kernel
theorem dX1_takeStep_144 : decode cX1_takeStep 144 = .ok (.getfield 42, 3) := by decide +kernel
theorem dX1_takeStep_147 : decode cX1_takeStep 147 = .ok (.aload_n 2, 1) := by decide +kernel
theorem dX1_takeStep_148 : decode cX1_takeStep 148 = .ok (.invokevirtual 198, 3) := by decide +kernel
theorem dX1_takeStep_151 : decode cX1_takeStep 151 = .ok (.iload_n 1, 1) := by decide +kernel
theorem dX1_takeStep_152 : decode cX1_takeStep 152 = .ok (.ireturn, 1) := by decide +kernel
theorem dX1_endFromCache_0 : decode cX1_endFromCache 0 = .ok (.iconst 0, 1) := by decide +kernel
theorem dX1_endFromCache_1 : decode cX1_endFromCache 1 = .ok (.istore_n 2, 1) := by decide +kernel
theorem dX1_endFromCache_2 : decode cX1_endFromCache 2 = .ok (.iload_n 2, 1) := by decide +kernel
theorem dX1_endFromCache_3 : decode cX1_endFromCache 3 = .ok (.aload_n 1, 1) := by decide +kernel
theorem dX1_endFromCache_4 : decode cX1_endFromCache 4 = .ok (.getfield 202, 3) := by decide +kernel
theorem dX1_endFromCache_7 : decode cX1_endFromCache 7 = .ok (.if_icmp .ge 32, 3) := by decide +kernel
theorem dX1_endFromCache_10 : decode cX1_endFromCache 10 = .ok (.aload_n 1, 1) := by decide +kernel
theorem dX1_endFromCache_11 : decode cX1_endFromCache 11 = .ok (.getfield 205, 3) := by decide +kernel
theorem dX1_endFromCache_14 : decode cX1_endFromCache 14 = .ok (.iload_n 2, 1) := by decide +kernel
theorem dX1_endFromCache_15 : decode cX1_endFromCache 15 = .ok (.aload_n 0, 1) := by decide +kernel
theorem dX1_endFromCache_16 : decode cX1_endFromCache 16 = .ok (.getfield 28, 3) := by decide +kernel
theorem dX1_endFromCache_19 : decode cX1_endFromCache 19 = .ok (.aload_n 1, 1) := by decide +kernel
theorem dX1_endFromCache_20 : decode cX1_endFromCache 20 = .ok (.getfield 134, 3) := by decide +kernel
theorem dX1_endFromCache_23 : decode cX1_endFromCache 23 = .ok (.aload_n 1, 1) := by decide +kernel
theorem dX1_endFromCache_24 : decode cX1_endFromCache 24 = .ok (.getfield 130, 3) := by decide +kernel
theorem dX1_endFromCache_27 : decode cX1_endFromCache 27 = .ok (.iload_n 2, 1) := by decide +kernel
theorem dX1_endFromCache_28 : decode cX1_endFromCache 28 = .ok (.iadd, 1) := by decide +kernel
theorem dX1_endFromCache_29 : decode cX1_endFromCache 29 = .ok (.invokevirtual 208, 3) := by decide +kernel
theorem dX1_endFromCache_32 : decode cX1_endFromCache 32 = .ok (.iastore, 1) := by decide +kernel
theorem dX1_endFromCache_33 : decode cX1_endFromCache 33 = .ok (.iinc 2 1, 3) := by decide +kernel
theorem dX1_endFromCache_36 : decode cX1_endFromCache 36 = .ok (.goto (-34), 3) := by decide +kernel
theorem dX1_endFromCache_39 : decode cX1_endFromCache 39 = .ok (.aload_n 1, 1) := by decide +kernel
theorem dX1_endFromCache_40 : decode cX1_endFromCache 40 = .ok (.iconst 1, 1) := by decide +kernel
theorem dX1_endFromCache_41 : decode cX1_endFromCache 41 = .ok (.putfield 212, 3) := by decide +kernel
theorem dX1_endFromCache_44 : decode cX1_endFromCache 44 = .ok (.aload_n 1, 1) := by decide +kernel
theorem dX1_endFromCache_45 : decode cX1_endFromCache 45 = .ok (.iconst 1, 1) := by decide +kernel
theorem dX1_endFromCache_46 : decode cX1_endFromCache 46 = .ok (.iconst 0, 1) := by decide +kernel
theorem dX1_endFromCache_47 : decode cX1_endFromCache 47 = .ok (.aload_n 0, 1) := by decide +kernel
theorem dX1_endFromCache_48 : decode cX1_endFromCache 48 = .ok (.getfield 53, 3) := by decide +kernel
theorem dX1_endFromCache_51 : decode cX1_endFromCache 51 = .ok (.invokevirtual 215, 3) := by decide +kernel
theorem dX1_endFromCache_54 : decode cX1_endFromCache 54 = .ok (.return_, 1) := by decide +kernel
theorem dX1_tryFrame_0 : decode cX1_tryFrame 0 = .ok (.aload_n 0, 1) := by decide +kernel
theorem dX1_tryFrame_1 : decode cX1_tryFrame 1 = .ok (.getfield 60, 3) := by decide +kernel
theorem dX1_tryFrame_4 : decode cX1_tryFrame 4 = .ok (.ifCond .eq 18, 3) := by decide +kernel
theorem dX1_tryFrame_7 : decode cX1_tryFrame 7 = .ok (.aload_n 0, 1) := by decide +kernel
theorem dX1_tryFrame_8 : decode cX1_tryFrame 8 = .ok (.dup, 1) := by decide +kernel
theorem dX1_tryFrame_9 : decode cX1_tryFrame 9 = .ok (.getfield 53, 3) := by decide +kernel
theorem dX1_tryFrame_12 : decode cX1_tryFrame 12 = .ok (.aload_n 0, 1) := by decide +kernel
theorem dX1_tryFrame_13 : decode cX1_tryFrame 13 = .ok (.getfield 9, 3) := by decide +kernel
theorem dX1_tryFrame_16 : decode cX1_tryFrame 16 = .ok (.iconst 3, 1) := by decide +kernel
theorem dX1_tryFrame_17 : decode cX1_tryFrame 17 = .ok (.iaload, 1) := by decide +kernel
theorem dX1_tryFrame_18 : decode cX1_tryFrame 18 = .ok (.iadd, 1) := by decide +kernel
theorem dX1_tryFrame_19 : decode cX1_tryFrame 19 = .ok (.putfield 53, 3) := by decide +kernel
theorem dX1_tryFrame_22 : decode cX1_tryFrame 22 = .ok (.aload_n 0, 1) := by decide +kernel
theorem dX1_tryFrame_23 : decode cX1_tryFrame 23 = .ok (.dup, 1) := by decide +kernel
theorem dX1_tryFrame_24 : decode cX1_tryFrame 24 = .ok (.getfield 57, 3) := by decide +kernel
theorem dX1_tryFrame_27 : decode cX1_tryFrame 27 = .ok (.iconst 1, 1) := by decide +kernel
theorem dX1_tryFrame_28 : decode cX1_tryFrame 28 = .ok (.iadd, 1) := by decide +kernel
theorem dX1_tryFrame_29 : decode cX1_tryFrame 29 = .ok (.putfield 57, 3) := by decide +kernel
theorem dX1_tryFrame_32 : decode cX1_tryFrame 32 = .ok (.iconst 0, 1) := by decide +kernel
theorem dX1_tryFrame_33 : decode cX1_tryFrame 33 = .ok (.istore_n 2, 1) := by decide +kernel
theorem dX1_tryFrame_34 : decode cX1_tryFrame 34 = .ok (.iload_n 2, 1) := by decide +kernel
theorem dX1_tryFrame_35 : decode cX1_tryFrame 35 = .ok (.aload_n 0, 1) := by decide +kernel
theorem dX1_tryFrame_36 : decode cX1_tryFrame 36 = .ok (.getfield 9, 3) := by decide +kernel
theorem dX1_tryFrame_39 : decode cX1_tryFrame 39 = .ok (.iconst 2, 1) := by decide +kernel
theorem dX1_tryFrame_40 : decode cX1_tryFrame 40 = .ok (.iaload, 1) := by decide +kernel
theorem dX1_tryFrame_41 : decode cX1_tryFrame 41 = .ok (.if_icmp .gt 180, 3) := by decide +kernel
theorem dX1_tryFrame_44 : decode cX1_tryFrame 44 = .ok (.aload_n 0, 1) := by decide +kernel
theorem dX1_tryFrame_45 : decode cX1_tryFrame 45 = .ok (.dup, 1) := by decide +kernel
theorem dX1_tryFrame_46 : decode cX1_tryFrame 46 = .ok (.getfield 53, 3) := by decide +kernel
theorem dX1_tryFrame_49 : decode cX1_tryFrame 49 = .ok (.iconst 4, 1) := by decide +kernel
theorem dX1_tryFrame_50 : decode cX1_tryFrame 50 = .ok (.aload_n 0, 1) := by decide +kernel
theorem dX1_tryFrame_51 : decode cX1_tryFrame 51 = .ok (.getfield 49, 3) := by decide +kernel
theorem dX1_tryFrame_54 : decode cX1_tryFrame 54 = .ok (.getfield 86, 3) := by decide +kernel
theorem dX1_tryFrame_57 : decode cX1_tryFrame 57 = .ok (.iadd, 1) := by decide +kernel
theorem dX1_tryFrame_58 : decode cX1_tryFrame 58 = .ok (.iadd, 1) := by decide +kernel
theorem dX1_tryFrame_59 : decode cX1_tryFrame 59 = .ok (.putfield 53, 3) := by decide +kernel
theorem dX1_tryFrame_62 : decode cX1_tryFrame 62 = .ok (.aload_n 0, 1) := by decide +kernel
theorem dX1_tryFrame_63 : decode cX1_tryFrame 63 = .ok (.getfield 15, 3) := by decide +kernel
theorem dX1_tryFrame_66 : decode cX1_tryFrame 66 = .ok (.iconst 0, 1) := by decide +kernel
theorem dX1_tryFrame_67 : decode cX1_tryFrame 67 = .ok (.dup2, 1) := by decide +kernel
theorem dX1_tryFrame_68 : decode cX1_tryFrame 68 = .ok (.iaload, 1) := by decide +kernel
theorem dX1_tryFrame_69 : decode cX1_tryFrame 69 = .ok (.iconst 1, 1) := by decide +kernel
theorem dX1_tryFrame_70 : decode cX1_tryFrame 70 = .ok (.iadd, 1) := by decide +kernel
theorem dX1_tryFrame_71 : decode cX1_tryFrame 71 = .ok (.iastore, 1) := by decide +kernel
theorem dX1_tryFrame_72 : decode cX1_tryFrame 72 = .ok (.aload_n 0, 1) := by decide +kernel
theorem dX1_tryFrame_73 : decode cX1_tryFrame 73 = .ok (.getfield 42, 3) := by decide +kernel
theorem dX1_tryFrame_76 : decode cX1_tryFrame 76 = .ok (.aload_n 0, 1) := by decide +kernel
theorem dX1_tryFrame_77 : decode cX1_tryFrame 77 = .ok (.getfield 53, 3) := by decide +kernel
theorem dX1_tryFrame_80 : decode cX1_tryFrame 80 = .ok (.invokevirtual 219, 3) := by decide +kernel
theorem dX1_tryFrame_83 : decode cX1_tryFrame 83 = .ok (.aload_n 0, 1) := by decide +kernel
theorem dX1_tryFrame_84 : decode cX1_tryFrame 84 = .ok (.getfield 42, 3) := by decide +kernel
theorem dX1_tryFrame_87 : decode cX1_tryFrame 87 = .ok (.invokevirtual 222, 3) := by decide +kernel
theorem dX1_tryFrame_90 : decode cX1_tryFrame 90 = .ok (.astore_n 3, 1) := by decide +kernel
theorem dX1_tryFrame_91 : decode cX1_tryFrame 91 = .ok (.aload_n 3, 1) := by decide +kernel
theorem dX1_tryFrame_92 : decode cX1_tryFrame 92 = .ok (.aload_n 0, 1) := by decide +kernel
theorem dX1_tryFrame_93 : decode cX1_tryFrame 93 = .ok (.getfield 57, 3) := by decide +kernel
theorem dX1_tryFrame_96 : decode cX1_tryFrame 96 = .ok (.putfield 226, 3) := by decide +kernel
theorem dX1_tryFrame_99 : decode cX1_tryFrame 99 = .ok (.aload_n 1, 1) := by decide +kernel
theorem dX1_tryFrame_100 : decode cX1_tryFrame 100 = .ok (.aload_n 0, 1) := by decide +kernel
theorem dX1_tryFrame_101 : decode cX1_tryFrame 101 = .ok (.getfield 49, 3) := by decide +kernel
theorem dX1_tryFrame_104 : decode cX1_tryFrame 104 = .ok (.aload_n 0, 1) := by decide +kernel
theorem dX1_tryFrame_105 : decode cX1_tryFrame 105 = .ok (.getfield 53, 3) := by decide +kernel
theorem dX1_tryFrame_108 : decode cX1_tryFrame 108 = .ok (.aload_n 3, 1) := by decide +kernel
theorem dX1_tryFrame_109 : decode cX1_tryFrame 109 = .ok (.invokevirtual 229, 3) := by decide +kernel
theorem dX1_tryFrame_112 : decode cX1_tryFrame 112 = .ok (.ifCond .eq 18, 3) := by decide +kernel
theorem dX1_tryFrame_115 : decode cX1_tryFrame 115 = .ok (.aload_n 0, 1) := by decide +kernel
theorem dX1_tryFrame_116 : decode cX1_tryFrame 116 = .ok (.getfield 42, 3) := by decide +kernel
theorem dX1_tryFrame_119 : decode cX1_tryFrame 119 = .ok (.getfield 233, 3) := by decide +kernel
theorem dX1_tryFrame_122 : decode cX1_tryFrame 122 = .ok (.aload_n 3, 1) := by decide +kernel
theorem dX1_tryFrame_123 : decode cX1_tryFrame 123 = .ok (.invokevirtual 236, 3) := by decide +kernel
theorem dX1_tryFrame_126 : decode cX1_tryFrame 126 = .ok (.pop, 1) := by decide +kernel
theorem dX1_tryFrame_127 : decode cX1_tryFrame 127 = .ok (.goto 11, 3) := by decide +kernel
theorem dX1_tryFrame_130 : decode cX1_tryFrame 130 = .ok (.aload_n 0, 1) := by decide +kernel
theorem dX1_tryFrame_131 : decode cX1_tryFrame 131 = .ok (.getfield 42, 3) := by decide +kernel
theorem dX1_tryFrame_134 : decode cX1_tryFrame 134 = .ok (.aload_n 3, 1) := by decide +kernel
theorem dX1_tryFrame_135 : decode cX1_tryFrame 135 = .ok (.invokevirtual 198, 3) := by decide +kernel
theorem dX1_tryFrame_138 : decode cX1_tryFrame 138 = .ok (.aload_n 0, 1) := by decide +kernel
theorem dX1_tryFrame_139 : decode cX1_tryFrame 139 = .ok (.getfield 42, 3) := by decide +kernel
theorem dX1_tryFrame_142 : decode cX1_tryFrame 142 = .ok (.aload_n 0, 1) := by decide +kernel
theorem dX1_tryFrame_143 : decode cX1_tryFrame 143 = .ok (.getfield 49, 3) := by decide +kernel
theorem dX1_tryFrame_146 : decode cX1_tryFrame 146 = .ok (.aload_n 0, 1) := by decide +kernel
theorem dX1_tryFrame_147 : decode cX1_tryFrame 147 = .ok (.getfield 53, 3) := by decide +kernel
theorem dX1_tryFrame_150 : decode cX1_tryFrame 150 = .ok (.aload_n 0, 1) := by decide +kernel
theorem dX1_tryFrame_151 : decode cX1_tryFrame 151 = .ok (.getfield 9, 3) := by decide +kernel
theorem dX1_tryFrame_154 : decode cX1_tryFrame 154 = .ok (.iconst 1, 1) := by decide +kernel
theorem dX1_tryFrame_155 : decode cX1_tryFrame 155 = .ok (.iaload, 1) := by decide +kernel
theorem dX1_tryFrame_156 : decode cX1_tryFrame 156 = .ok (.iadd, 1) := by decide +kernel
theorem dX1_tryFrame_157 : decode cX1_tryFrame 157 = .ok (.invokevirtual 240, 3) := by decide +kernel
theorem dX1_tryFrame_160 : decode cX1_tryFrame 160 = .ok (.astore 4, 2) := by decide +kernel
theorem dX1_tryFrame_162 : decode cX1_tryFrame 162 = .ok (.aload_n 0, 1) := by decide +kernel
theorem dX1_tryFrame_163 : decode cX1_tryFrame 163 = .ok (.aload 4, 2) := by decide +kernel
theorem dX1_tryFrame_165 : decode cX1_tryFrame 165 = .ok (.ifnonnull 7, 3) := by decide +kernel
theorem dX1_tryFrame_168 : decode cX1_tryFrame 168 = .ok (.iconst 1, 1) := by decide +kernel
theorem dX1_tryFrame_169 : decode cX1_tryFrame 169 = .ok (.goto 4, 3) := by decide +kernel
theorem dX1_tryFrame_172 : decode cX1_tryFrame 172 = .ok (.iconst 0, 1) := by decide +kernel
theorem dX1_tryFrame_173 : decode cX1_tryFrame 173 = .ok (.putfield 60, 3) := by decide +kernel
theorem dX1_tryFrame_176 : decode cX1_tryFrame 176 = .ok (.aload 4, 2) := by decide +kernel
theorem dX1_tryFrame_178 : decode cX1_tryFrame 178 = .ok (.ifnull 12, 3) := by decide +kernel
theorem dX1_tryFrame_181 : decode cX1_tryFrame 181 = .ok (.aload_n 0, 1) := by decide +kernel
theorem dX1_tryFrame_182 : decode cX1_tryFrame 182 = .ok (.aload 4, 2) := by decide +kernel
theorem dX1_tryFrame_184 : decode cX1_tryFrame 184 = .ok (.invokevirtual 244, 3) := by decide +kernel
theorem dX1_tryFrame_187 : decode cX1_tryFrame 187 = .ok (.aload 4, 2) := by decide +kernel
theorem dX1_tryFrame_189 : decode cX1_tryFrame 189 = .ok (.areturn, 1) := by decide +kernel
theorem dX1_tryFrame_190 : decode cX1_tryFrame 190 = .ok (.aload_n 0, 1) := by decide +kernel
theorem dX1_tryFrame_191 : decode cX1_tryFrame 191 = .ok (.dup, 1) := by decide +kernel
theorem dX1_tryFrame_192 : decode cX1_tryFrame 192 = .ok (.getfield 53, 3) := by decide +kernel
theorem dX1_tryFrame_195 : decode cX1_tryFrame 195 = .ok (.aload_n 0, 1) := by decide +kernel
theorem dX1_tryFrame_196 : decode cX1_tryFrame 196 = .ok (.getfield 9, 3) := by decide +kernel
theorem dX1_tryFrame_199 : decode cX1_tryFrame 199 = .ok (.iconst 1, 1) := by decide +kernel
theorem dX1_tryFrame_200 : decode cX1_tryFrame 200 = .ok (.iaload, 1) := by decide +kernel
theorem dX1_tryFrame_201 : decode cX1_tryFrame 201 = .ok (.iadd, 1) := by decide +kernel
theorem dX1_tryFrame_202 : decode cX1_tryFrame 202 = .ok (.putfield 53, 3) := by decide +kernel
theorem dX1_tryFrame_205 : decode cX1_tryFrame 205 = .ok (.aload_n 0, 1) := by decide +kernel
theorem dX1_tryFrame_206 : decode cX1_tryFrame 206 = .ok (.getfield 15, 3) := by decide +kernel
theorem dX1_tryFrame_209 : decode cX1_tryFrame 209 = .ok (.iconst 3, 1) := by decide +kernel
theorem dX1_tryFrame_210 : decode cX1_tryFrame 210 = .ok (.dup2, 1) := by decide +kernel
theorem dX1_tryFrame_211 : decode cX1_tryFrame 211 = .ok (.iaload, 1) := by decide +kernel
theorem dX1_tryFrame_212 : decode cX1_tryFrame 212 = .ok (.iconst 1, 1) := by decide +kernel
theorem dX1_tryFrame_213 : decode cX1_tryFrame 213 = .ok (.iadd, 1) := by decide +kernel
theorem dX1_tryFrame_214 : decode cX1_tryFrame 214 = .ok (.iastore, 1) := by decide +kernel
theorem dX1_tryFrame_215 : decode cX1_tryFrame 215 = .ok (.iinc 2 1, 3) := by decide +kernel
theorem dX1_tryFrame_218 : decode cX1_tryFrame 218 = .ok (.goto (-184), 3) := by decide +kernel
theorem dX1_tryFrame_221 : decode cX1_tryFrame 221 = .ok (.aconst_null, 1) := by decide +kernel
theorem dX1_tryFrame_222 : decode cX1_tryFrame 222 = .ok (.areturn, 1) := by decide +kernel
theorem dX1_noteTaken_0 : decode cX1_noteTaken 0 = .ok (.aload_n 0, 1) := by decide +kernel
theorem dX1_noteTaken_1 : decode cX1_noteTaken 1 = .ok (.aload_n 1, 1) := by decide +kernel
theorem dX1_noteTaken_2 : decode cX1_noteTaken 2 = .ok (.getfield 247, 3) := by decide +kernel
theorem dX1_noteTaken_5 : decode cX1_noteTaken 5 = .ok (.aload_n 1, 1) := by decide +kernel
theorem dX1_noteTaken_6 : decode cX1_noteTaken 6 = .ok (.getfield 184, 3) := by decide +kernel
theorem dX1_noteTaken_9 : decode cX1_noteTaken 9 = .ok (.getfield 86, 3) := by decide +kernel
theorem dX1_noteTaken_12 : decode cX1_noteTaken 12 = .ok (.iadd, 1) := by decide +kernel
theorem dX1_noteTaken_13 : decode cX1_noteTaken 13 = .ok (.putfield 53, 3) := by decide +kernel
theorem dX1_noteTaken_16 : decode cX1_noteTaken 16 = .ok (.aload_n 0, 1) := by decide +kernel
theorem dX1_noteTaken_17 : decode cX1_noteTaken 17 = .ok (.getfield 15, 3) := by decide +kernel
theorem dX1_noteTaken_20 : decode cX1_noteTaken 20 = .ok (.iconst 1, 1) := by decide +kernel
theorem dX1_noteTaken_21 : decode cX1_noteTaken 21 = .ok (.dup2, 1) := by decide +kernel
theorem dX1_noteTaken_22 : decode cX1_noteTaken 22 = .ok (.iaload, 1) := by decide +kernel
theorem dX1_noteTaken_23 : decode cX1_noteTaken 23 = .ok (.iconst 1, 1) := by decide +kernel
theorem dX1_noteTaken_24 : decode cX1_noteTaken 24 = .ok (.iadd, 1) := by decide +kernel
theorem dX1_noteTaken_25 : decode cX1_noteTaken 25 = .ok (.iastore, 1) := by decide +kernel
theorem dX1_noteTaken_26 : decode cX1_noteTaken 26 = .ok (.aload_n 1, 1) := by decide +kernel
theorem dX1_noteTaken_27 : decode cX1_noteTaken 27 = .ok (.getfield 226, 3) := by decide +kernel
theorem dX1_noteTaken_30 : decode cX1_noteTaken 30 = .ok (.aload_n 0, 1) := by decide +kernel
theorem dX1_noteTaken_31 : decode cX1_noteTaken 31 = .ok (.getfield 57, 3) := by decide +kernel
theorem dX1_noteTaken_34 : decode cX1_noteTaken 34 = .ok (.if_icmp .eq 18, 3) := by decide +kernel
theorem dX1_noteTaken_37 : decode cX1_noteTaken 37 = .ok (.aload_n 0, 1) := by decide +kernel
theorem dX1_noteTaken_38 : decode cX1_noteTaken 38 = .ok (.getfield 15, 3) := by decide +kernel
theorem dX1_noteTaken_41 : decode cX1_noteTaken 41 = .ok (.iconst 2, 1) := by decide +kernel
theorem dX1_noteTaken_42 : decode cX1_noteTaken 42 = .ok (.dup2, 1) := by decide +kernel
theorem dX1_noteTaken_43 : decode cX1_noteTaken 43 = .ok (.iaload, 1) := by decide +kernel
theorem dX1_noteTaken_44 : decode cX1_noteTaken 44 = .ok (.iconst 1, 1) := by decide +kernel
theorem dX1_noteTaken_45 : decode cX1_noteTaken 45 = .ok (.iadd, 1) := by decide +kernel
theorem dX1_noteTaken_46 : decode cX1_noteTaken 46 = .ok (.iastore, 1) := by decide +kernel
theorem dX1_noteTaken_47 : decode cX1_noteTaken 47 = .ok (.aload_n 0, 1) := by decide +kernel
theorem dX1_noteTaken_48 : decode cX1_noteTaken 48 = .ok (.iconst 1, 1) := by decide +kernel
theorem dX1_noteTaken_49 : decode cX1_noteTaken 49 = .ok (.putfield 64, 3) := by decide +kernel
theorem dX1_noteTaken_52 : decode cX1_noteTaken 52 = .ok (.return_, 1) := by decide +kernel
theorem dX1_failGroup_0 : decode cX1_failGroup 0 = .ok (.aload_n 0, 1) := by decide +kernel
theorem dX1_failGroup_1 : decode cX1_failGroup 1 = .ok (.getfield 35, 3) := by decide +kernel
theorem dX1_failGroup_4 : decode cX1_failGroup 4 = .ok (.getfield 164, 3) := by decide +kernel
theorem dX1_failGroup_7 : decode cX1_failGroup 7 = .ok (.istore_n 2, 1) := by decide +kernel
theorem dX1_failGroup_8 : decode cX1_failGroup 8 = .ok (.iload_n 2, 1) := by decide +kernel
theorem dX1_failGroup_9 : decode cX1_failGroup 9 = .ok (.aload_n 0, 1) := by decide +kernel
theorem dX1_failGroup_10 : decode cX1_failGroup 10 = .ok (.getfield 35, 3) := by decide +kernel
theorem dX1_failGroup_13 : decode cX1_failGroup 13 = .ok (.getfield 160, 3) := by decide +kernel
theorem dX1_failGroup_16 : decode cX1_failGroup 16 = .ok (.invokevirtual 250, 3) := by decide +kernel
theorem dX1_failGroup_19 : decode cX1_failGroup 19 = .ok (.if_icmp .ge 43, 3) := by decide +kernel
theorem dX1_failGroup_22 : decode cX1_failGroup 22 = .ok (.aload_n 0, 1) := by decide +kernel
theorem dX1_failGroup_23 : decode cX1_failGroup 23 = .ok (.getfield 35, 3) := by decide +kernel
theorem dX1_failGroup_26 : decode cX1_failGroup 26 = .ok (.iload_n 2, 1) := by decide +kernel
theorem dX1_failGroup_27 : decode cX1_failGroup 27 = .ok (.invokevirtual 252, 3) := by decide +kernel
theorem dX1_failGroup_30 : decode cX1_failGroup 30 = .ok (.ifCond .eq 26, 3) := by decide +kernel
theorem dX1_failGroup_33 : decode cX1_failGroup 33 = .ok (.aload_n 0, 1) := by decide +kernel
theorem dX1_failGroup_34 : decode cX1_failGroup 34 = .ok (.getfield 35, 3) := by decide +kernel
theorem dX1_failGroup_37 : decode cX1_failGroup 37 = .ok (.getfield 160, 3) := by decide +kernel
theorem dX1_failGroup_40 : decode cX1_failGroup 40 = .ok (.iload_n 2, 1) := by decide +kernel
theorem dX1_failGroup_41 : decode cX1_failGroup 41 = .ok (.invokevirtual 167, 3) := by decide +kernel
theorem dX1_failGroup_44 : decode cX1_failGroup 44 = .ok (.checkcast 128, 3) := by decide +kernel
theorem dX1_failGroup_47 : decode cX1_failGroup 47 = .ok (.iconst 2, 1) := by decide +kernel
theorem dX1_failGroup_48 : decode cX1_failGroup 48 = .ok (.iload_n 1, 1) := by decide +kernel
theorem dX1_failGroup_49 : decode cX1_failGroup 49 = .ok (.aload_n 0, 1) := by decide +kernel
theorem dX1_failGroup_50 : decode cX1_failGroup 50 = .ok (.getfield 53, 3) := by decide +kernel
theorem dX1_failGroup_53 : decode cX1_failGroup 53 = .ok (.invokevirtual 215, 3) := by decide +kernel
theorem dX1_failGroup_56 : decode cX1_failGroup 56 = .ok (.iinc 2 1, 3) := by decide +kernel
theorem dX1_failGroup_59 : decode cX1_failGroup 59 = .ok (.goto (-51), 3) := by decide +kernel
theorem dX1_failGroup_62 : decode cX1_failGroup 62 = .ok (.aload_n 0, 1) := by decide +kernel
theorem dX1_failGroup_63 : decode cX1_failGroup 63 = .ok (.getfield 35, 3) := by decide +kernel
theorem dX1_failGroup_66 : decode cX1_failGroup 66 = .ok (.getfield 100, 3) := by decide +kernel
theorem dX1_failGroup_69 : decode cX1_failGroup 69 = .ok (.ifCond .eq 43, 3) := by decide +kernel
theorem dX1_failGroup_72 : decode cX1_failGroup 72 = .ok (.aload_n 0, 1) := by decide +kernel
theorem dX1_failGroup_73 : decode cX1_failGroup 73 = .ok (.getfield 35, 3) := by decide +kernel
theorem dX1_failGroup_76 : decode cX1_failGroup 76 = .ok (.getfield 113, 3) := by decide +kernel
theorem dX1_failGroup_79 : decode cX1_failGroup 79 = .ok (.istore_n 2, 1) := by decide +kernel
theorem dX1_failGroup_80 : decode cX1_failGroup 80 = .ok (.iload_n 2, 1) := by decide +kernel
theorem dX1_failGroup_81 : decode cX1_failGroup 81 = .ok (.aload_n 0, 1) := by decide +kernel
theorem dX1_failGroup_82 : decode cX1_failGroup 82 = .ok (.getfield 35, 3) := by decide +kernel
theorem dX1_failGroup_85 : decode cX1_failGroup 85 = .ok (.getfield 142, 3) := by decide +kernel
theorem dX1_failGroup_88 : decode cX1_failGroup 88 = .ok (.if_icmp .ge 24, 3) := by decide +kernel
theorem dX1_failGroup_91 : decode cX1_failGroup 91 = .ok (.aload_n 0, 1) := by decide +kernel
theorem dX1_failGroup_92 : decode cX1_failGroup 92 = .ok (.getfield 28, 3) := by decide +kernel
theorem dX1_failGroup_95 : decode cX1_failGroup 95 = .ok (.aload_n 0, 1) := by decide +kernel
theorem dX1_failGroup_96 : decode cX1_failGroup 96 = .ok (.getfield 35, 3) := by decide +kernel
theorem dX1_failGroup_99 : decode cX1_failGroup 99 = .ok (.getfield 106, 3) := by decide +kernel
theorem dX1_failGroup_102 : decode cX1_failGroup 102 = .ok (.iload_n 2, 1) := by decide +kernel
theorem dX1_failGroup_103 : decode cX1_failGroup 103 = .ok (.invokevirtual 256, 3) := by decide +kernel
theorem dX1_failGroup_106 : decode cX1_failGroup 106 = .ok (.iinc 2 1, 3) := by decide +kernel
theorem dX1_failGroup_109 : decode cX1_failGroup 109 = .ok (.goto (-29), 3) := by decide +kernel
theorem dX1_failGroup_112 : decode cX1_failGroup 112 = .ok (.return_, 1) := by decide +kernel
theorem dX1_finishGroup_0 : decode cX1_finishGroup 0 = .ok (.aload_n 0, 1) := by decide +kernel
theorem dX1_finishGroup_1 : decode cX1_finishGroup 1 = .ok (.getfield 35, 3) := by decide +kernel
theorem dX1_finishGroup_4 : decode cX1_finishGroup 4 = .ok (.getfield 113, 3) := by decide +kernel
theorem dX1_finishGroup_7 : decode cX1_finishGroup 7 = .ok (.istore_n 2, 1) := by decide +kernel
theorem dX1_finishGroup_8 : decode cX1_finishGroup 8 = .ok (.iload_n 2, 1) := by decide +kernel
theorem dX1_finishGroup_9 : decode cX1_finishGroup 9 = .ok (.aload_n 0, 1) := by decide +kernel
theorem dX1_finishGroup_10 : decode cX1_finishGroup 10 = .ok (.getfield 35, 3) := by decide +kernel
theorem dX1_finishGroup_13 : decode cX1_finishGroup 13 = .ok (.getfield 142, 3) := by decide +kernel
theorem dX1_finishGroup_16 : decode cX1_finishGroup 16 = .ok (.if_icmp .ge 64, 3) := by decide +kernel
theorem dX1_finishGroup_19 : decode cX1_finishGroup 19 = .ok (.aload_n 0, 1) := by decide +kernel
theorem dX1_finishGroup_20 : decode cX1_finishGroup 20 = .ok (.getfield 35, 3) := by decide +kernel
theorem dX1_finishGroup_23 : decode cX1_finishGroup 23 = .ok (.getfield 100, 3) := by decide +kernel
theorem dX1_finishGroup_26 : decode cX1_finishGroup 26 = .ok (.ifCond .eq 14, 3) := by decide +kernel
theorem dX1_finishGroup_29 : decode cX1_finishGroup 29 = .ok (.aload_n 0, 1) := by decide +kernel
theorem dX1_finishGroup_30 : decode cX1_finishGroup 30 = .ok (.getfield 35, 3) := by decide +kernel
theorem dX1_finishGroup_33 : decode cX1_finishGroup 33 = .ok (.iload_n 2, 1) := by decide +kernel
theorem dX1_finishGroup_34 : decode cX1_finishGroup 34 = .ok (.invokevirtual 143, 3) := by decide +kernel
theorem dX1_finishGroup_37 : decode cX1_finishGroup 37 = .ok (.goto 16, 3) := by decide +kernel
theorem dX1_finishGroup_40 : decode cX1_finishGroup 40 = .ok (.aload_n 1, 1) := by decide +kernel
theorem dX1_finishGroup_41 : decode cX1_finishGroup 41 = .ok (.iload_n 2, 1) := by decide +kernel
theorem dX1_finishGroup_42 : decode cX1_finishGroup 42 = .ok (.aload_n 0, 1) := by decide +kernel
theorem dX1_finishGroup_43 : decode cX1_finishGroup 43 = .ok (.getfield 35, 3) := by decide +kernel
theorem dX1_finishGroup_46 : decode cX1_finishGroup 46 = .ok (.getfield 113, 3) := by decide +kernel
theorem dX1_finishGroup_49 : decode cX1_finishGroup 49 = .ok (.isub, 1) := by decide +kernel
theorem dX1_finishGroup_50 : decode cX1_finishGroup 50 = .ok (.invokevirtual 259, 3) := by decide +kernel
theorem dX1_finishGroup_53 : decode cX1_finishGroup 53 = .ok (.istore_n 3, 1) := by decide +kernel
theorem dX1_finishGroup_54 : decode cX1_finishGroup 54 = .ok (.aload_n 0, 1) := by decide +kernel
theorem dX1_finishGroup_55 : decode cX1_finishGroup 55 = .ok (.getfield 28, 3) := by decide +kernel
theorem dX1_finishGroup_58 : decode cX1_finishGroup 58 = .ok (.aload_n 0, 1) := by decide +kernel
theorem dX1_finishGroup_59 : decode cX1_finishGroup 59 = .ok (.getfield 35, 3) := by decide +kernel
theorem dX1_finishGroup_62 : decode cX1_finishGroup 62 = .ok (.getfield 106, 3) := by decide +kernel
theorem dX1_finishGroup_65 : decode cX1_finishGroup 65 = .ok (.iload_n 2, 1) := by decide +kernel
theorem dX1_finishGroup_66 : decode cX1_finishGroup 66 = .ok (.iload_n 3, 1) := by decide +kernel
theorem dX1_finishGroup_67 : decode cX1_finishGroup 67 = .ok (.aload_n 0, 1) := by decide +kernel
theorem dX1_finishGroup_68 : decode cX1_finishGroup 68 = .ok (.getfield 53, 3) := by decide +kernel
theorem dX1_finishGroup_71 : decode cX1_finishGroup 71 = .ok (.invokevirtual 262, 3) := by decide +kernel
theorem dX1_finishGroup_74 : decode cX1_finishGroup 74 = .ok (.iinc 2 1, 3) := by decide +kernel
theorem dX1_finishGroup_77 : decode cX1_finishGroup 77 = .ok (.goto (-69), 3) := by decide +kernel
theorem dX1_finishGroup_80 : decode cX1_finishGroup 80 = .ok (.aload_n 0, 1) := by decide +kernel
theorem dX1_finishGroup_81 : decode cX1_finishGroup 81 = .ok (.getfield 35, 3) := by decide +kernel
theorem dX1_finishGroup_84 : decode cX1_finishGroup 84 = .ok (.getfield 164, 3) := by decide +kernel
theorem dX1_finishGroup_87 : decode cX1_finishGroup 87 = .ok (.istore_n 2, 1) := by decide +kernel
theorem dX1_finishGroup_88 : decode cX1_finishGroup 88 = .ok (.iload_n 2, 1) := by decide +kernel
theorem dX1_finishGroup_89 : decode cX1_finishGroup 89 = .ok (.aload_n 0, 1) := by decide +kernel
theorem dX1_finishGroup_90 : decode cX1_finishGroup 90 = .ok (.getfield 35, 3) := by decide +kernel
theorem dX1_finishGroup_93 : decode cX1_finishGroup 93 = .ok (.getfield 160, 3) := by decide +kernel
theorem dX1_finishGroup_96 : decode cX1_finishGroup 96 = .ok (.invokevirtual 250, 3) := by decide +kernel
theorem dX1_finishGroup_99 : decode cX1_finishGroup 99 = .ok (.if_icmp .ge 69, 3) := by decide +kernel
theorem dX1_finishGroup_102 : decode cX1_finishGroup 102 = .ok (.aload_n 0, 1) := by decide +kernel
theorem dX1_finishGroup_103 : decode cX1_finishGroup 103 = .ok (.getfield 35, 3) := by decide +kernel
theorem dX1_finishGroup_106 : decode cX1_finishGroup 106 = .ok (.iload_n 2, 1) := by decide +kernel
theorem dX1_finishGroup_107 : decode cX1_finishGroup 107 = .ok (.invokevirtual 252, 3) := by decide +kernel
theorem dX1_finishGroup_110 : decode cX1_finishGroup 110 = .ok (.ifCond .eq 52, 3) := by decide +kernel
theorem dX1_finishGroup_113 : decode cX1_finishGroup 113 = .ok (.aload_n 0, 1) := by decide +kernel
theorem dX1_finishGroup_114 : decode cX1_finishGroup 114 = .ok (.getfield 35, 3) := by decide +kernel
theorem dX1_finishGroup_117 : decode cX1_finishGroup 117 = .ok (.getfield 160, 3) := by decide +kernel
theorem dX1_finishGroup_120 : decode cX1_finishGroup 120 = .ok (.iload_n 2, 1) := by decide +kernel
theorem dX1_finishGroup_121 : decode cX1_finishGroup 121 = .ok (.invokevirtual 167, 3) := by decide +kernel
theorem dX1_finishGroup_124 : decode cX1_finishGroup 124 = .ok (.checkcast 128, 3) := by decide +kernel
theorem dX1_finishGroup_127 : decode cX1_finishGroup 127 = .ok (.astore_n 3, 1) := by decide +kernel
theorem dX1_finishGroup_128 : decode cX1_finishGroup 128 = .ok (.aload_n 3, 1) := by decide +kernel
theorem dX1_finishGroup_129 : decode cX1_finishGroup 129 = .ok (.getfield 127, 3) := by decide +kernel
theorem dX1_finishGroup_132 : decode cX1_finishGroup 132 = .ok (.ifCond .ne 20, 3) := by decide +kernel
theorem dX1_finishGroup_135 : decode cX1_finishGroup 135 = .ok (.aload_n 3, 1) := by decide +kernel
theorem dX1_finishGroup_136 : decode cX1_finishGroup 136 = .ok (.aload_n 1, 1) := by decide +kernel
theorem dX1_finishGroup_137 : decode cX1_finishGroup 137 = .ok (.aload_n 3, 1) := by decide +kernel
theorem dX1_finishGroup_138 : decode cX1_finishGroup 138 = .ok (.getfield 130, 3) := by decide +kernel
theorem dX1_finishGroup_141 : decode cX1_finishGroup 141 = .ok (.aload_n 0, 1) := by decide +kernel
theorem dX1_finishGroup_142 : decode cX1_finishGroup 142 = .ok (.getfield 35, 3) := by decide +kernel
theorem dX1_finishGroup_145 : decode cX1_finishGroup 145 = .ok (.getfield 113, 3) := by decide +kernel
theorem dX1_finishGroup_148 : decode cX1_finishGroup 148 = .ok (.isub, 1) := by decide +kernel
theorem dX1_finishGroup_149 : decode cX1_finishGroup 149 = .ok (.invokevirtual 266, 3) := by decide +kernel
theorem dX1_finishGroup_152 : decode cX1_finishGroup 152 = .ok (.aload_n 3, 1) := by decide +kernel
theorem dX1_finishGroup_153 : decode cX1_finishGroup 153 = .ok (.iconst 1, 1) := by decide +kernel
theorem dX1_finishGroup_154 : decode cX1_finishGroup 154 = .ok (.iconst 0, 1) := by decide +kernel
theorem dX1_finishGroup_155 : decode cX1_finishGroup 155 = .ok (.aload_n 0, 1) := by decide +kernel
theorem dX1_finishGroup_156 : decode cX1_finishGroup 156 = .ok (.getfield 53, 3) := by decide +kernel
theorem dX1_finishGroup_159 : decode cX1_finishGroup 159 = .ok (.invokevirtual 215, 3) := by decide +kernel
theorem dX1_finishGroup_162 : decode cX1_finishGroup 162 = .ok (.iinc 2 1, 3) := by decide +kernel
theorem dX1_finishGroup_165 : decode cX1_finishGroup 165 = .ok (.goto (-77), 3) := by decide +kernel
theorem dX1_finishGroup_168 : decode cX1_finishGroup 168 = .ok (.return_, 1) := by decide +kernel
theorem dX2_init_0 : decode cX2_init 0 = .ok (.aload_n 0, 1) := by decide +kernel
theorem dX2_init_1 : decode cX2_init 1 = .ok (.invokespecial 3, 3) := by decide +kernel
theorem dX2_init_4 : decode cX2_init 4 = .ok (.aload_n 0, 1) := by decide +kernel
theorem dX2_init_5 : decode cX2_init 5 = .ok (.bipush 32, 2) := by decide +kernel
theorem dX2_init_7 : decode cX2_init 7 = .ok (.newarray .int, 2) := by decide +kernel
theorem dX2_init_9 : decode cX2_init 9 = .ok (.putfield 9, 3) := by decide +kernel
theorem dX2_init_12 : decode cX2_init 12 = .ok (.aload_n 0, 1) := by decide +kernel
theorem dX2_init_13 : decode cX2_init 13 = .ok (.bipush 6, 2) := by decide +kernel
theorem dX2_init_15 : decode cX2_init 15 = .ok (.newarray .int, 2) := by decide +kernel
theorem dX2_init_17 : decode cX2_init 17 = .ok (.putfield 15, 3) := by decide +kernel
theorem dX2_init_20 : decode cX2_init 20 = .ok (.aload_n 0, 1) := by decide +kernel
theorem dX2_init_21 : decode cX2_init 21 = .ok (.bipush 6, 2) := by decide +kernel
theorem dX2_init_23 : decode cX2_init 23 = .ok (.newarray .int, 2) := by decide +kernel
theorem dX2_init_25 : decode cX2_init 25 = .ok (.putfield 18, 3) := by decide +kernel
theorem dX2_init_28 : decode cX2_init 28 = .ok (.aload_n 0, 1) := by decide +kernel
theorem dX2_init_29 : decode cX2_init 29 = .ok (.iconst 0, 1) := by decide +kernel
theorem dX2_init_30 : decode cX2_init 30 = .ok (.putfield 21, 3) := by decide +kernel
theorem dX2_init_33 : decode cX2_init 33 = .ok (.aload_n 0, 1) := by decide +kernel
theorem dX2_init_34 : decode cX2_init 34 = .ok (.iconst 0, 1) := by decide +kernel
theorem dX2_init_35 : decode cX2_init 35 = .ok (.putfield 25, 3) := by decide +kernel
theorem dX2_init_38 : decode cX2_init 38 = .ok (.aload_n 0, 1) := by decide +kernel
theorem dX2_init_39 : decode cX2_init 39 = .ok (.ldc 28, 2) := by decide +kernel
theorem dX2_init_41 : decode cX2_init 41 = .ok (.putfield 29, 3) := by decide +kernel
theorem dX2_init_44 : decode cX2_init 44 = .ok (.aload_n 0, 1) := by decide +kernel
theorem dX2_init_45 : decode cX2_init 45 = .ok (.iconst 5, 1) := by decide +kernel
theorem dX2_init_46 : decode cX2_init 46 = .ok (.putfield 32, 3) := by decide +kernel
theorem dX2_init_49 : decode cX2_init 49 = .ok (.return_, 1) := by decide +kernel
theorem dX2_copyFrom_0 : decode cX2_copyFrom 0 = .ok (.aload_n 1, 1) := by decide +kernel
theorem dX2_copyFrom_1 : decode cX2_copyFrom 1 = .ok (.getfield 9, 3) := by decide +kernel
theorem dX2_copyFrom_4 : decode cX2_copyFrom 4 = .ok (.iconst 0, 1) := by decide +kernel
theorem dX2_copyFrom_5 : decode cX2_copyFrom 5 = .ok (.aload_n 0, 1) := by decide +kernel
theorem dX2_copyFrom_6 : decode cX2_copyFrom 6 = .ok (.getfield 9, 3) := by decide +kernel
theorem dX2_copyFrom_9 : decode cX2_copyFrom 9 = .ok (.iconst 0, 1) := by decide +kernel
theorem dX2_copyFrom_10 : decode cX2_copyFrom 10 = .ok (.bipush 32, 2) := by decide +kernel
theorem dX2_copyFrom_12 : decode cX2_copyFrom 12 = .ok (.invokestatic 35, 3) := by decide +kernel
theorem dX2_copyFrom_15 : decode cX2_copyFrom 15 = .ok (.aload_n 1, 1) := by decide +kernel
theorem dX2_copyFrom_16 : decode cX2_copyFrom 16 = .ok (.getfield 15, 3) := by decide +kernel
theorem dX2_copyFrom_19 : decode cX2_copyFrom 19 = .ok (.iconst 0, 1) := by decide +kernel
theorem dX2_copyFrom_20 : decode cX2_copyFrom 20 = .ok (.aload_n 0, 1) := by decide +kernel
theorem dX2_copyFrom_21 : decode cX2_copyFrom 21 = .ok (.getfield 15, 3) := by decide +kernel
theorem dX2_copyFrom_24 : decode cX2_copyFrom 24 = .ok (.iconst 0, 1) := by decide +kernel
theorem dX2_copyFrom_25 : decode cX2_copyFrom 25 = .ok (.bipush 6, 2) := by decide +kernel
theorem dX2_copyFrom_27 : decode cX2_copyFrom 27 = .ok (.invokestatic 35, 3) := by decide +kernel
theorem dX2_copyFrom_30 : decode cX2_copyFrom 30 = .ok (.aload_n 1, 1) := by decide +kernel
theorem dX2_copyFrom_31 : decode cX2_copyFrom 31 = .ok (.getfield 18, 3) := by decide +kernel
theorem dX2_copyFrom_34 : decode cX2_copyFrom 34 = .ok (.iconst 0, 1) := by decide +kernel
theorem dX2_copyFrom_35 : decode cX2_copyFrom 35 = .ok (.aload_n 0, 1) := by decide +kernel
theorem dX2_copyFrom_36 : decode cX2_copyFrom 36 = .ok (.getfield 18, 3) := by decide +kernel
theorem dX2_copyFrom_39 : decode cX2_copyFrom 39 = .ok (.iconst 0, 1) := by decide +kernel
theorem dX2_copyFrom_40 : decode cX2_copyFrom 40 = .ok (.bipush 6, 2) := by decide +kernel
theorem dX2_copyFrom_42 : decode cX2_copyFrom 42 = .ok (.invokestatic 35, 3) := by decide +kernel
theorem dX2_copyFrom_45 : decode cX2_copyFrom 45 = .ok (.aload_n 0, 1) := by decide +kernel
theorem dX2_copyFrom_46 : decode cX2_copyFrom 46 = .ok (.aload_n 1, 1) := by decide +kernel
theorem dX2_copyFrom_47 : decode cX2_copyFrom 47 = .ok (.getfield 21, 3) := by decide +kernel
theorem dX2_copyFrom_50 : decode cX2_copyFrom 50 = .ok (.putfield 21, 3) := by decide +kernel
theorem dX2_copyFrom_53 : decode cX2_copyFrom 53 = .ok (.aload_n 0, 1) := by decide +kernel
theorem dX2_copyFrom_54 : decode cX2_copyFrom 54 = .ok (.aload_n 1, 1) := by decide +kernel
theorem dX2_copyFrom_55 : decode cX2_copyFrom 55 = .ok (.getfield 25, 3) := by decide +kernel
theorem dX2_copyFrom_58 : decode cX2_copyFrom 58 = .ok (.putfield 25, 3) := by decide +kernel
theorem dX2_copyFrom_61 : decode cX2_copyFrom 61 = .ok (.aload_n 0, 1) := by decide +kernel
theorem dX2_copyFrom_62 : decode cX2_copyFrom 62 = .ok (.aload_n 1, 1) := by decide +kernel
theorem dX2_copyFrom_63 : decode cX2_copyFrom 63 = .ok (.getfield 29, 3) := by decide +kernel
theorem dX2_copyFrom_66 : decode cX2_copyFrom 66 = .ok (.putfield 29, 3) := by decide +kernel
theorem dX2_copyFrom_69 : decode cX2_copyFrom 69 = .ok (.aload_n 0, 1) := by decide +kernel
theorem dX2_copyFrom_70 : decode cX2_copyFrom 70 = .ok (.aload_n 1, 1) := by decide +kernel
theorem dX2_copyFrom_71 : decode cX2_copyFrom 71 = .ok (.getfield 32, 3) := by decide +kernel
theorem dX2_copyFrom_74 : decode cX2_copyFrom 74 = .ok (.putfield 32, 3) := by decide +kernel
theorem dX2_copyFrom_77 : decode cX2_copyFrom 77 = .ok (.return_, 1) := by decide +kernel
theorem dX2_isReadOnly_0 : decode cX2_isReadOnly 0 = .ok (.aload_n 0, 1) := by decide +kernel
theorem dX2_isReadOnly_1 : decode cX2_isReadOnly 1 = .ok (.getfield 25, 3) := by decide +kernel
theorem dX2_isReadOnly_4 : decode cX2_isReadOnly 4 = .ok (.iload_n 1, 1) := by decide +kernel
theorem dX2_isReadOnly_5 : decode cX2_isReadOnly 5 = .ok (.iushr, 1) := by decide +kernel
theorem dX2_isReadOnly_6 : decode cX2_isReadOnly 6 = .ok (.iconst 1, 1) := by decide +kernel
theorem dX2_isReadOnly_7 : decode cX2_isReadOnly 7 = .ok (.iand, 1) := by decide +kernel
theorem dX2_isReadOnly_8 : decode cX2_isReadOnly 8 = .ok (.iconst 1, 1) := by decide +kernel
theorem dX2_isReadOnly_9 : decode cX2_isReadOnly 9 = .ok (.if_icmp .ne 7, 3) := by decide +kernel
theorem dX2_isReadOnly_12 : decode cX2_isReadOnly 12 = .ok (.iconst 1, 1) := by decide +kernel
theorem dX2_isReadOnly_13 : decode cX2_isReadOnly 13 = .ok (.goto 4, 3) := by decide +kernel
theorem dX2_isReadOnly_16 : decode cX2_isReadOnly 16 = .ok (.iconst 0, 1) := by decide +kernel
theorem dX2_isReadOnly_17 : decode cX2_isReadOnly 17 = .ok (.ireturn, 1) := by decide +kernel
theorem dX2_appendFault_0 : decode cX2_appendFault 0 = .ok (.aload_n 0, 1) := by decide +kernel
theorem dX2_appendFault_1 : decode cX2_appendFault 1 = .ok (.getfield 21, 3) := by decide +kernel
theorem dX2_appendFault_4 : decode cX2_appendFault 4 = .ok (.bipush 6, 2) := by decide +kernel
theorem dX2_appendFault_6 : decode cX2_appendFault 6 = .ok (.if_icmp .ge 33, 3) := by decide +kernel
theorem dX2_appendFault_9 : decode cX2_appendFault 9 = .ok (.aload_n 0, 1) := by decide +kernel
theorem dX2_appendFault_10 : decode cX2_appendFault 10 = .ok (.getfield 15, 3) := by decide +kernel
theorem dX2_appendFault_13 : decode cX2_appendFault 13 = .ok (.aload_n 0, 1) := by decide +kernel
theorem dX2_appendFault_14 : decode cX2_appendFault 14 = .ok (.getfield 21, 3) := by decide +kernel
theorem dX2_appendFault_17 : decode cX2_appendFault 17 = .ok (.iload_n 1, 1) := by decide +kernel
theorem dX2_appendFault_18 : decode cX2_appendFault 18 = .ok (.iastore, 1) := by decide +kernel
theorem dX2_appendFault_19 : decode cX2_appendFault 19 = .ok (.aload_n 0, 1) := by decide +kernel
theorem dX2_appendFault_20 : decode cX2_appendFault 20 = .ok (.getfield 18, 3) := by decide +kernel
theorem dX2_appendFault_23 : decode cX2_appendFault 23 = .ok (.aload_n 0, 1) := by decide +kernel
theorem dX2_appendFault_24 : decode cX2_appendFault 24 = .ok (.getfield 21, 3) := by decide +kernel
theorem dX2_appendFault_27 : decode cX2_appendFault 27 = .ok (.iload_n 2, 1) := by decide +kernel
theorem dX2_appendFault_28 : decode cX2_appendFault 28 = .ok (.iastore, 1) := by decide +kernel
theorem dX2_appendFault_29 : decode cX2_appendFault 29 = .ok (.aload_n 0, 1) := by decide +kernel
theorem dX2_appendFault_30 : decode cX2_appendFault 30 = .ok (.dup, 1) := by decide +kernel
theorem dX2_appendFault_31 : decode cX2_appendFault 31 = .ok (.getfield 21, 3) := by decide +kernel
theorem dX2_appendFault_34 : decode cX2_appendFault 34 = .ok (.iconst 1, 1) := by decide +kernel
theorem dX2_appendFault_35 : decode cX2_appendFault 35 = .ok (.iadd, 1) := by decide +kernel
theorem dX2_appendFault_36 : decode cX2_appendFault 36 = .ok (.putfield 21, 3) := by decide +kernel
theorem dX2_appendFault_39 : decode cX2_appendFault 39 = .ok (.return_, 1) := by decide +kernel
theorem dX2_dropFirstFault_0 : decode cX2_dropFirstFault 0 = .ok (.iconst 1, 1) := by decide +kernel
theorem dX2_dropFirstFault_1 : decode cX2_dropFirstFault 1 = .ok (.istore_n 1, 1) := by decide +kernel
theorem dX2_dropFirstFault_2 : decode cX2_dropFirstFault 2 = .ok (.iload_n 1, 1) := by decide +kernel
theorem dX2_dropFirstFault_3 : decode cX2_dropFirstFault 3 = .ok (.aload_n 0, 1) := by decide +kernel
theorem dX2_dropFirstFault_4 : decode cX2_dropFirstFault 4 = .ok (.getfield 21, 3) := by decide +kernel
theorem dX2_dropFirstFault_7 : decode cX2_dropFirstFault 7 = .ok (.if_icmp .ge 37, 3) := by decide +kernel
theorem dX2_dropFirstFault_10 : decode cX2_dropFirstFault 10 = .ok (.aload_n 0, 1) := by decide +kernel
theorem dX2_dropFirstFault_11 : decode cX2_dropFirstFault 11 = .ok (.getfield 15, 3) := by decide +kernel
theorem dX2_dropFirstFault_14 : decode cX2_dropFirstFault 14 = .ok (.iload_n 1, 1) := by decide +kernel
theorem dX2_dropFirstFault_15 : decode cX2_dropFirstFault 15 = .ok (.iconst 1, 1) := by decide +kernel
theorem dX2_dropFirstFault_16 : decode cX2_dropFirstFault 16 = .ok (.isub, 1) := by decide +kernel
theorem dX2_dropFirstFault_17 : decode cX2_dropFirstFault 17 = .ok (.aload_n 0, 1) := by decide +kernel
theorem dX2_dropFirstFault_18 : decode cX2_dropFirstFault 18 = .ok (.getfield 15, 3) := by decide +kernel
theorem dX2_dropFirstFault_21 : decode cX2_dropFirstFault 21 = .ok (.iload_n 1, 1) := by decide +kernel
theorem dX2_dropFirstFault_22 : decode cX2_dropFirstFault 22 = .ok (.iaload, 1) := by decide +kernel
theorem dX2_dropFirstFault_23 : decode cX2_dropFirstFault 23 = .ok (.iastore, 1) := by decide +kernel
theorem dX2_dropFirstFault_24 : decode cX2_dropFirstFault 24 = .ok (.aload_n 0, 1) := by decide +kernel
theorem dX2_dropFirstFault_25 : decode cX2_dropFirstFault 25 = .ok (.getfield 18, 3) := by decide +kernel
theorem dX2_dropFirstFault_28 : decode cX2_dropFirstFault 28 = .ok (.iload_n 1, 1) := by decide +kernel
theorem dX2_dropFirstFault_29 : decode cX2_dropFirstFault 29 = .ok (.iconst 1, 1) := by decide +kernel
theorem dX2_dropFirstFault_30 : decode cX2_dropFirstFault 30 = .ok (.isub, 1) := by decide +kernel
theorem dX2_dropFirstFault_31 : decode cX2_dropFirstFault 31 = .ok (.aload_n 0, 1) := by decide +kernel
theorem dX2_dropFirstFault_32 : decode cX2_dropFirstFault 32 = .ok (.getfield 18, 3) := by decide +kernel
theorem dX2_dropFirstFault_35 : decode cX2_dropFirstFault 35 = .ok (.iload_n 1, 1) := by decide +kernel
theorem dX2_dropFirstFault_36 : decode cX2_dropFirstFault 36 = .ok (.iaload, 1) := by decide +kernel
theorem dX2_dropFirstFault_37 : decode cX2_dropFirstFault 37 = .ok (.iastore, 1) := by decide +kernel
theorem dX2_dropFirstFault_38 : decode cX2_dropFirstFault 38 = .ok (.iinc 1 1, 3) := by decide +kernel
theorem dX2_dropFirstFault_41 : decode cX2_dropFirstFault 41 = .ok (.goto (-39), 3) := by decide +kernel
theorem dX2_dropFirstFault_44 : decode cX2_dropFirstFault 44 = .ok (.aload_n 0, 1) := by decide +kernel
theorem dX2_dropFirstFault_45 : decode cX2_dropFirstFault 45 = .ok (.dup, 1) := by decide +kernel
theorem dX2_dropFirstFault_46 : decode cX2_dropFirstFault 46 = .ok (.getfield 21, 3) := by decide +kernel
theorem dX2_dropFirstFault_49 : decode cX2_dropFirstFault 49 = .ok (.iconst 1, 1) := by decide +kernel
theorem dX2_dropFirstFault_50 : decode cX2_dropFirstFault 50 = .ok (.isub, 1) := by decide +kernel
theorem dX2_dropFirstFault_51 : decode cX2_dropFirstFault 51 = .ok (.putfield 21, 3) := by decide +kernel
theorem dX2_dropFirstFault_54 : decode cX2_dropFirstFault 54 = .ok (.return_, 1) := by decide +kernel
theorem dX2_answer_0 : decode cX2_answer 0 = .ok (.iconst 0, 1) := by decide +kernel
theorem dX2_answer_1 : decode cX2_answer 1 = .ok (.istore 4, 2) := by decide +kernel
theorem dX2_answer_3 : decode cX2_answer 3 = .ok (.iconst 0, 1) := by decide +kernel
theorem dX2_answer_4 : decode cX2_answer 4 = .ok (.istore 5, 2) := by decide +kernel
theorem dX2_answer_6 : decode cX2_answer 6 = .ok (.aload_n 0, 1) := by decide +kernel
theorem dX2_answer_7 : decode cX2_answer 7 = .ok (.getfield 21, 3) := by decide +kernel
theorem dX2_answer_10 : decode cX2_answer 10 = .ok (.ifCond .le 23, 3) := by decide +kernel
theorem dX2_answer_13 : decode cX2_answer 13 = .ok (.aload_n 0, 1) := by decide +kernel
theorem dX2_answer_14 : decode cX2_answer 14 = .ok (.getfield 15, 3) := by decide +kernel
theorem dX2_answer_17 : decode cX2_answer 17 = .ok (.iconst 0, 1) := by decide +kernel
theorem dX2_answer_18 : decode cX2_answer 18 = .ok (.iaload, 1) := by decide +kernel
theorem dX2_answer_19 : decode cX2_answer 19 = .ok (.istore 4, 2) := by decide +kernel
theorem dX2_answer_21 : decode cX2_answer 21 = .ok (.aload_n 0, 1) := by decide +kernel
theorem dX2_answer_22 : decode cX2_answer 22 = .ok (.getfield 18, 3) := by decide +kernel
theorem dX2_answer_25 : decode cX2_answer 25 = .ok (.iconst 0, 1) := by decide +kernel
theorem dX2_answer_26 : decode cX2_answer 26 = .ok (.iaload, 1) := by decide +kernel
theorem dX2_answer_27 : decode cX2_answer 27 = .ok (.istore 5, 2) := by decide +kernel
theorem dX2_answer_29 : decode cX2_answer 29 = .ok (.aload_n 0, 1) := by decide +kernel
theorem dX2_answer_30 : decode cX2_answer 30 = .ok (.invokevirtual 41, 3) := by decide +kernel
theorem dX2_answer_33 : decode cX2_answer 33 = .ok (.iload 4, 2) := by decide +kernel
theorem dX2_answer_35 : decode cX2_answer 35 = .ok (.iconst 4, 1) := by decide +kernel
theorem dX2_answer_36 : decode cX2_answer 36 = .ok (.if_icmp .ne 8, 3) := by decide +kernel
theorem dX2_answer_39 : decode cX2_answer 39 = .ok (.bipush 6, 2) := by decide +kernel
theorem dX2_answer_41 : decode cX2_answer 41 = .ok (.goto 8, 3) := by decide +kernel
theorem dX2_answer_44 : decode cX2_answer 44 = .ok (.aload_n 0, 1) := by decide +kernel
theorem dX2_answer_45 : decode cX2_answer 45 = .ok (.aload_n 1, 1) := by decide +kernel
theorem dX2_answer_46 : decode cX2_answer 46 = .ok (.invokevirtual 44, 3) := by decide +kernel
theorem dX2_answer_49 : decode cX2_answer 49 = .ok (.istore 6, 2) := by decide +kernel
theorem dX2_answer_51 : decode cX2_answer 51 = .ok (.iload 6, 2) := by decide +kernel
theorem dX2_answer_53 : decode cX2_answer 53 = .ok (.ifCond .ne 15, 3) := by decide +kernel
theorem dX2_answer_56 : decode cX2_answer 56 = .ok (.aload_n 0, 1) := by decide +kernel
theorem dX2_answer_57 : decode cX2_answer 57 = .ok (.aload_n 1, 1) := by decide +kernel
theorem dX2_answer_58 : decode cX2_answer 58 = .ok (.aload_n 3, 1) := by decide +kernel
theorem dX2_answer_59 : decode cX2_answer 59 = .ok (.getfield 48, 3) := by decide +kernel
theorem dX2_answer_62 : decode cX2_answer 62 = .ok (.invokevirtual 54, 3) := by decide +kernel
theorem dX2_answer_65 : decode cX2_answer 65 = .ok (.goto 33, 3) := by decide +kernel
theorem dX2_answer_68 : decode cX2_answer 68 = .ok (.aload_n 3, 1) := by decide +kernel
theorem dX2_answer_69 : decode cX2_answer 69 = .ok (.getfield 48, 3) := by decide +kernel
theorem dX2_answer_72 : decode cX2_answer 72 = .ok (.aload_n 1, 1) := by decide +kernel
theorem dX2_answer_73 : decode cX2_answer 73 = .ok (.iconst 0, 1) := by decide +kernel
theorem dX2_answer_74 : decode cX2_answer 74 = .ok (.invokevirtual 58, 3) := by decide +kernel
theorem dX2_answer_77 : decode cX2_answer 77 = .ok (.aload_n 1, 1) := by decide +kernel
theorem dX2_answer_78 : decode cX2_answer 78 = .ok (.iconst 1, 1) := by decide +kernel
theorem dX2_answer_79 : decode cX2_answer 79 = .ok (.invokevirtual 58, 3) := by decide +kernel
theorem dX2_answer_82 : decode cX2_answer 82 = .ok (.sipush 128, 3) := by decide +kernel
theorem dX2_answer_85 : decode cX2_answer 85 = .ok (.iadd, 1) := by decide +kernel
theorem dX2_answer_86 : decode cX2_answer 86 = .ok (.invokevirtual 64, 3) := by decide +kernel
theorem dX2_answer_89 : decode cX2_answer 89 = .ok (.aload_n 3, 1) := by decide +kernel
theorem dX2_answer_90 : decode cX2_answer 90 = .ok (.getfield 48, 3) := by decide +kernel
theorem dX2_answer_93 : decode cX2_answer 93 = .ok (.iload 6, 2) := by decide +kernel
theorem dX2_answer_95 : decode cX2_answer 95 = .ok (.invokevirtual 68, 3) := by decide +kernel
theorem dX2_answer_98 : decode cX2_answer 98 = .ok (.aload_n 3, 1) := by decide +kernel
theorem dX2_answer_99 : decode cX2_answer 99 = .ok (.getfield 48, 3) := by decide +kernel
theorem dX2_answer_102 : decode cX2_answer 102 = .ok (.invokevirtual 72, 3) := by decide +kernel
theorem dX2_answer_105 : decode cX2_answer 105 = .ok (.iload 4, 2) := by decide +kernel
theorem dX2_answer_107 : decode cX2_answer 107 = .ok (.iconst 2, 1) := by decide +kernel
theorem dX2_answer_108 : decode cX2_answer 108 = .ok (.if_icmp .ne 12, 3) := by decide +kernel
theorem dX2_answer_111 : decode cX2_answer 111 = .ok (.aload_n 3, 1) := by decide +kernel
theorem dX2_answer_112 : decode cX2_answer 112 = .ok (.getfield 48, 3) := by decide +kernel
theorem dX2_answer_115 : decode cX2_answer 115 = .ok (.iload 5, 2) := by decide +kernel
theorem dX2_answer_117 : decode cX2_answer 117 = .ok (.invokevirtual 75, 3) := by decide +kernel
theorem dX2_answer_120 : decode cX2_answer 120 = .ok (.aload_n 3, 1) := by decide +kernel
theorem dX2_answer_121 : decode cX2_answer 121 = .ok (.iload_n 2, 1) := by decide +kernel
theorem dX2_answer_122 : decode cX2_answer 122 = .ok (.aload_n 0, 1) := by decide +kernel
theorem dX2_answer_123 : decode cX2_answer 123 = .ok (.getfield 32, 3) := by decide +kernel
theorem dX2_answer_126 : decode cX2_answer 126 = .ok (.iadd, 1) := by decide +kernel
theorem dX2_answer_127 : decode cX2_answer 127 = .ok (.iload 4, 2) := by decide +kernel
theorem dX2_answer_129 : decode cX2_answer 129 = .ok (.iconst 3, 1) := by decide +kernel
theorem dX2_answer_130 : decode cX2_answer 130 = .ok (.if_icmp .ne 8, 3) := by decide +kernel
theorem dX2_answer_133 : decode cX2_answer 133 = .ok (.iload 5, 2) := by decide +kernel
theorem dX2_answer_135 : decode cX2_answer 135 = .ok (.goto 4, 3) := by decide +kernel
theorem dX2_answer_138 : decode cX2_answer 138 = .ok (.iconst 0, 1) := by decide +kernel
theorem dX2_answer_139 : decode cX2_answer 139 = .ok (.iadd, 1) := by decide +kernel
theorem dX2_answer_140 : decode cX2_answer 140 = .ok (.putfield 78, 3) := by decide +kernel
theorem dX2_answer_143 : decode cX2_answer 143 = .ok (.iload 4, 2) := by decide +kernel
theorem dX2_answer_145 : decode cX2_answer 145 = .ok (.iconst 1, 1) := by decide +kernel
theorem dX2_answer_146 : decode cX2_answer 146 = .ok (.if_icmp .eq 7, 3) := by decide +kernel
theorem dX2_answer_149 : decode cX2_answer 149 = .ok (.iconst 1, 1) := by decide +kernel
theorem dX2_answer_150 : decode cX2_answer 150 = .ok (.goto 4, 3) := by decide +kernel
theorem dX2_answer_153 : decode cX2_answer 153 = .ok (.iconst 0, 1) := by decide +kernel
theorem dX2_answer_154 : decode cX2_answer 154 = .ok (.ireturn, 1) := by decide +kernel
theorem dX2_refusalOf_0 : decode cX2_refusalOf 0 = .ok (.aload_n 1, 1) := by decide +kernel
theorem dX2_refusalOf_1 : decode cX2_refusalOf 1 = .ok (.invokevirtual 81, 3) := by decide +kernel
theorem dX2_refusalOf_4 : decode cX2_refusalOf 4 = .ok (.istore_n 2, 1) := by decide +kernel
theorem dX2_refusalOf_5 : decode cX2_refusalOf 5 = .ok (.aload_n 1, 1) := by decide +kernel
theorem dX2_refusalOf_6 : decode cX2_refusalOf 6 = .ok (.invokevirtual 85, 3) := by decide +kernel
theorem dX2_refusalOf_9 : decode cX2_refusalOf 9 = .ok (.istore_n 3, 1) := by decide +kernel
theorem dX2_refusalOf_10 : decode cX2_refusalOf 10 = .ok (.iload_n 2, 1) := by decide +kernel
theorem dX2_refusalOf_11 : decode cX2_refusalOf 11 = .ok (.ifCond .lt 11, 3) := by decide +kernel
theorem dX2_refusalOf_14 : decode cX2_refusalOf 14 = .ok (.iload_n 2, 1) := by decide +kernel
theorem dX2_refusalOf_15 : decode cX2_refusalOf 15 = .ok (.iload_n 3, 1) := by decide +kernel
theorem dX2_refusalOf_16 : decode cX2_refusalOf 16 = .ok (.iadd, 1) := by decide +kernel
theorem dX2_refusalOf_17 : decode cX2_refusalOf 17 = .ok (.bipush 32, 2) := by decide +kernel
theorem dX2_refusalOf_19 : decode cX2_refusalOf 19 = .ok (.if_icmp .le 5, 3) := by decide +kernel
theorem dX2_refusalOf_22 : decode cX2_refusalOf 22 = .ok (.iconst 2, 1) := by decide +kernel
theorem dX2_refusalOf_23 : decode cX2_refusalOf 23 = .ok (.ireturn, 1) := by decide +kernel
theorem dX2_refusalOf_24 : decode cX2_refusalOf 24 = .ok (.aload_n 1, 1) := by decide +kernel
theorem dX2_refusalOf_25 : decode cX2_refusalOf 25 = .ok (.iconst 1, 1) := by decide +kernel
theorem dX2_refusalOf_26 : decode cX2_refusalOf 26 = .ok (.invokevirtual 58, 3) := by decide +kernel
theorem dX2_refusalOf_29 : decode cX2_refusalOf 29 = .ok (.iconst 3, 1) := by decide +kernel
theorem dX2_refusalOf_30 : decode cX2_refusalOf 30 = .ok (.if_icmp .ne 5, 3) := by decide +kernel
theorem dX2_refusalOf_33 : decode cX2_refusalOf 33 = .ok (.iconst 0, 1) := by decide +kernel
theorem dX2_refusalOf_34 : decode cX2_refusalOf 34 = .ok (.ireturn, 1) := by decide +kernel
theorem dX2_refusalOf_35 : decode cX2_refusalOf 35 = .ok (.iconst 0, 1) := by decide +kernel
theorem dX2_refusalOf_36 : decode cX2_refusalOf 36 = .ok (.istore 4, 2) := by decide +kernel
theorem dX2_refusalOf_38 : decode cX2_refusalOf 38 = .ok (.iconst 0, 1) := by decide +kernel
theorem dX2_refusalOf_39 : decode cX2_refusalOf 39 = .ok (.istore 5, 2) := by decide +kernel
theorem dX2_refusalOf_41 : decode cX2_refusalOf 41 = .ok (.iload 5, 2) := by decide +kernel
theorem dX2_refusalOf_43 : decode cX2_refusalOf 43 = .ok (.iload_n 3, 1) := by decide +kernel
theorem dX2_refusalOf_44 : decode cX2_refusalOf 44 = .ok (.if_icmp .ge 47, 3) := by decide +kernel
theorem dX2_refusalOf_47 : decode cX2_refusalOf 47 = .ok (.aload_n 0, 1) := by decide +kernel
theorem dX2_refusalOf_48 : decode cX2_refusalOf 48 = .ok (.iload_n 2, 1) := by decide +kernel
theorem dX2_refusalOf_49 : decode cX2_refusalOf 49 = .ok (.iload 5, 2) := by decide +kernel
theorem dX2_refusalOf_51 : decode cX2_refusalOf 51 = .ok (.iadd, 1) := by decide +kernel
theorem dX2_refusalOf_52 : decode cX2_refusalOf 52 = .ok (.invokevirtual 88, 3) := by decide +kernel
theorem dX2_refusalOf_55 : decode cX2_refusalOf 55 = .ok (.ifCond .eq 5, 3) := by decide +kernel
theorem dX2_refusalOf_58 : decode cX2_refusalOf 58 = .ok (.iconst 2, 1) := by decide +kernel
theorem dX2_refusalOf_59 : decode cX2_refusalOf 59 = .ok (.ireturn, 1) := by decide +kernel
theorem dX2_refusalOf_60 : decode cX2_refusalOf 60 = .ok (.iload 4, 2) := by decide +kernel
theorem dX2_refusalOf_62 : decode cX2_refusalOf 62 = .ok (.ifCond .ne 16, 3) := by decide +kernel
theorem dX2_refusalOf_65 : decode cX2_refusalOf 65 = .ok (.aload_n 1, 1) := by decide +kernel
theorem dX2_refusalOf_66 : decode cX2_refusalOf 66 = .ok (.iload 5, 2) := by decide +kernel
theorem dX2_refusalOf_68 : decode cX2_refusalOf 68 = .ok (.invokevirtual 92, 3) := by decide +kernel
theorem dX2_refusalOf_71 : decode cX2_refusalOf 71 = .ok (.aload_n 0, 1) := by decide +kernel
theorem dX2_refusalOf_72 : decode cX2_refusalOf 72 = .ok (.getfield 29, 3) := by decide +kernel
theorem dX2_refusalOf_75 : decode cX2_refusalOf 75 = .ok (.if_icmp .le 7, 3) := by decide +kernel
theorem dX2_refusalOf_78 : decode cX2_refusalOf 78 = .ok (.iconst 1, 1) := by decide +kernel
theorem dX2_refusalOf_79 : decode cX2_refusalOf 79 = .ok (.goto 4, 3) := by decide +kernel
theorem dX2_refusalOf_82 : decode cX2_refusalOf 82 = .ok (.iconst 0, 1) := by decide +kernel
theorem dX2_refusalOf_83 : decode cX2_refusalOf 83 = .ok (.istore 4, 2) := by decide +kernel
theorem dX2_refusalOf_85 : decode cX2_refusalOf 85 = .ok (.iinc 5 1, 3) := by decide +kernel
theorem dX2_refusalOf_88 : decode cX2_refusalOf 88 = .ok (.goto (-47), 3) := by decide +kernel
theorem dX2_refusalOf_91 : decode cX2_refusalOf 91 = .ok (.iload 4, 2) := by decide +kernel
theorem dX2_refusalOf_93 : decode cX2_refusalOf 93 = .ok (.ifCond .eq 7, 3) := by decide +kernel
theorem dX2_refusalOf_96 : decode cX2_refusalOf 96 = .ok (.iconst 3, 1) := by decide +kernel
theorem dX2_refusalOf_97 : decode cX2_refusalOf 97 = .ok (.goto 4, 3) := by decide +kernel
theorem dX2_refusalOf_100 : decode cX2_refusalOf 100 = .ok (.iconst 0, 1) := by decide +kernel
theorem dX2_refusalOf_101 : decode cX2_refusalOf 101 = .ok (.ireturn, 1) := by decide +kernel
theorem dX2_obey_0 : decode cX2_obey 0 = .ok (.aload_n 1, 1) := by decide +kernel
theorem dX2_obey_1 : decode cX2_obey 1 = .ok (.iconst 1, 1) := by decide +kernel
theorem dX2_obey_2 : decode cX2_obey 2 = .ok (.invokevirtual 58, 3) := by decide +kernel
theorem dX2_obey_5 : decode cX2_obey 5 = .ok (.istore_n 3, 1) := by decide +kernel
theorem dX2_obey_6 : decode cX2_obey 6 = .ok (.aload_n 1, 1) := by decide +kernel
theorem dX2_obey_7 : decode cX2_obey 7 = .ok (.invokevirtual 81, 3) := by decide +kernel
theorem dX2_obey_10 : decode cX2_obey 10 = .ok (.istore 4, 2) := by decide +kernel
theorem dX2_obey_12 : decode cX2_obey 12 = .ok (.aload_n 1, 1) := by decide +kernel
theorem dX2_obey_13 : decode cX2_obey 13 = .ok (.invokevirtual 85, 3) := by decide +kernel
theorem dX2_obey_16 : decode cX2_obey 16 = .ok (.istore 5, 2) := by decide +kernel
theorem dX2_obey_18 : decode cX2_obey 18 = .ok (.aload_n 2, 1) := by decide +kernel
theorem dX2_obey_19 : decode cX2_obey 19 = .ok (.aload_n 1, 1) := by decide +kernel
theorem dX2_obey_20 : decode cX2_obey 20 = .ok (.iconst 0, 1) := by decide +kernel
theorem dX2_obey_21 : decode cX2_obey 21 = .ok (.invokevirtual 58, 3) := by decide +kernel
theorem dX2_obey_24 : decode cX2_obey 24 = .ok (.iload_n 3, 1) := by decide +kernel
theorem dX2_obey_25 : decode cX2_obey 25 = .ok (.invokevirtual 64, 3) := by decide +kernel
theorem dX2_obey_28 : decode cX2_obey 28 = .ok (.iload_n 3, 1) := by decide +kernel
theorem dX2_obey_29 : decode cX2_obey 29 = .ok (.iconst 3, 1) := by decide +kernel
theorem dX2_obey_30 : decode cX2_obey 30 = .ok (.if_icmp .ne 14, 3) := by decide +kernel
theorem dX2_obey_33 : decode cX2_obey 33 = .ok (.aload_n 2, 1) := by decide +kernel
theorem dX2_obey_34 : decode cX2_obey 34 = .ok (.iconst 2, 1) := by decide +kernel
theorem dX2_obey_35 : decode cX2_obey 35 = .ok (.iload 5, 2) := by decide +kernel
theorem dX2_obey_37 : decode cX2_obey 37 = .ok (.imul, 1) := by decide +kernel
theorem dX2_obey_38 : decode cX2_obey 38 = .ok (.invokevirtual 68, 3) := by decide +kernel
theorem dX2_obey_41 : decode cX2_obey 41 = .ok (.goto 18, 3) := by decide +kernel
theorem dX2_obey_44 : decode cX2_obey 44 = .ok (.aload_n 2, 1) := by decide +kernel
theorem dX2_obey_45 : decode cX2_obey 45 = .ok (.iload 4, 2) := by decide +kernel
theorem dX2_obey_47 : decode cX2_obey 47 = .ok (.invokevirtual 95, 3) := by decide +kernel
theorem dX2_obey_50 : decode cX2_obey 50 = .ok (.aload_n 2, 1) := by decide +kernel
theorem dX2_obey_51 : decode cX2_obey 51 = .ok (.aload_n 1, 1) := by decide +kernel
theorem dX2_obey_52 : decode cX2_obey 52 = .ok (.iconst 4, 1) := by decide +kernel
theorem dX2_obey_53 : decode cX2_obey 53 = .ok (.invokevirtual 98, 3) := by decide +kernel
theorem dX2_obey_56 : decode cX2_obey 56 = .ok (.invokevirtual 95, 3) := by decide +kernel
theorem dX2_obey_59 : decode cX2_obey 59 = .ok (.iconst 0, 1) := by decide +kernel
theorem dX2_obey_60 : decode cX2_obey 60 = .ok (.istore 6, 2) := by decide +kernel
theorem dX2_obey_62 : decode cX2_obey 62 = .ok (.iload 6, 2) := by decide +kernel
theorem dX2_obey_64 : decode cX2_obey 64 = .ok (.iload 5, 2) := by decide +kernel
theorem dX2_obey_66 : decode cX2_obey 66 = .ok (.if_icmp .ge 57, 3) := by decide +kernel
theorem dX2_obey_69 : decode cX2_obey 69 = .ok (.iload 4, 2) := by decide +kernel
theorem dX2_obey_71 : decode cX2_obey 71 = .ok (.iload 6, 2) := by decide +kernel
theorem dX2_obey_73 : decode cX2_obey 73 = .ok (.iadd, 1) := by decide +kernel
theorem dX2_obey_74 : decode cX2_obey 74 = .ok (.bipush 32, 2) := by decide +kernel
theorem dX2_obey_76 : decode cX2_obey 76 = .ok (.if_icmp .ge 47, 3) := by decide +kernel
theorem dX2_obey_79 : decode cX2_obey 79 = .ok (.iload_n 3, 1) := by decide +kernel
theorem dX2_obey_80 : decode cX2_obey 80 = .ok (.iconst 3, 1) := by decide +kernel
theorem dX2_obey_81 : decode cX2_obey 81 = .ok (.if_icmp .ne 20, 3) := by decide +kernel
theorem dX2_obey_84 : decode cX2_obey 84 = .ok (.aload_n 2, 1) := by decide +kernel
theorem dX2_obey_85 : decode cX2_obey 85 = .ok (.aload_n 0, 1) := by decide +kernel
theorem dX2_obey_86 : decode cX2_obey 86 = .ok (.getfield 9, 3) := by decide +kernel
theorem dX2_obey_89 : decode cX2_obey 89 = .ok (.iload 4, 2) := by decide +kernel
theorem dX2_obey_91 : decode cX2_obey 91 = .ok (.iload 6, 2) := by decide +kernel
theorem dX2_obey_93 : decode cX2_obey 93 = .ok (.iadd, 1) := by decide +kernel
theorem dX2_obey_94 : decode cX2_obey 94 = .ok (.iaload, 1) := by decide +kernel
theorem dX2_obey_95 : decode cX2_obey 95 = .ok (.invokevirtual 95, 3) := by decide +kernel
theorem dX2_obey_98 : decode cX2_obey 98 = .ok (.goto 19, 3) := by decide +kernel
theorem dX2_obey_101 : decode cX2_obey 101 = .ok (.aload_n 0, 1) := by decide +kernel
theorem dX2_obey_102 : decode cX2_obey 102 = .ok (.getfield 9, 3) := by decide +kernel
theorem dX2_obey_105 : decode cX2_obey 105 = .ok (.iload 4, 2) := by decide +kernel
theorem dX2_obey_107 : decode cX2_obey 107 = .ok (.iload 6, 2) := by decide +kernel
theorem dX2_obey_109 : decode cX2_obey 109 = .ok (.iadd, 1) := by decide +kernel
theorem dX2_obey_110 : decode cX2_obey 110 = .ok (.aload_n 1, 1) := by decide +kernel
theorem dX2_obey_111 : decode cX2_obey 111 = .ok (.iload 6, 2) := by decide +kernel
theorem dX2_obey_113 : decode cX2_obey 113 = .ok (.invokevirtual 92, 3) := by decide +kernel
theorem dX2_obey_116 : decode cX2_obey 116 = .ok (.iastore, 1) := by decide +kernel
theorem dX2_obey_117 : decode cX2_obey 117 = .ok (.iinc 6 1, 3) := by decide +kernel
theorem dX2_obey_120 : decode cX2_obey 120 = .ok (.goto (-58), 3) := by decide +kernel
theorem dX2_obey_123 : decode cX2_obey 123 = .ok (.return_, 1) := by decide +kernel
theorem dX3_init_0 : decode cX3_init 0 = .ok (.aload_n 0, 1) := by decide +kernel
theorem dX3_init_1 : decode cX3_init 1 = .ok (.invokespecial 3, 3) := by decide +kernel
theorem dX3_init_4 : decode cX3_init 4 = .ok (.aload_n 0, 1) := by decide +kernel
theorem dX3_init_5 : decode cX3_init 5 = .ok (.bipush 37, 2) := by decide +kernel
theorem dX3_init_7 : decode cX3_init 7 = .ok (.newarray .int, 2) := by decide +kernel
theorem dX3_init_9 : decode cX3_init 9 = .ok (.putfield 9, 3) := by decide +kernel
theorem dX3_init_12 : decode cX3_init 12 = .ok (.aload_n 0, 1) := by decide +kernel
theorem dX3_init_13 : decode cX3_init 13 = .ok (.iconst 0, 1) := by decide +kernel
theorem dX3_init_14 : decode cX3_init 14 = .ok (.putfield 15, 3) := by decide +kernel
theorem dX3_init_17 : decode cX3_init 17 = .ok (.return_, 1) := by decide +kernel
theorem dX3_copyFrom_0 : decode cX3_copyFrom 0 = .ok (.aload_n 1, 1) := by decide +kernel
theorem dX3_copyFrom_1 : decode cX3_copyFrom 1 = .ok (.getfield 9, 3) := by decide +kernel
theorem dX3_copyFrom_4 : decode cX3_copyFrom 4 = .ok (.iconst 0, 1) := by decide +kernel
theorem dX3_copyFrom_5 : decode cX3_copyFrom 5 = .ok (.aload_n 0, 1) := by decide +kernel
theorem dX3_copyFrom_6 : decode cX3_copyFrom 6 = .ok (.getfield 9, 3) := by decide +kernel
theorem dX3_copyFrom_9 : decode cX3_copyFrom 9 = .ok (.iconst 0, 1) := by decide +kernel
theorem dX3_copyFrom_10 : decode cX3_copyFrom 10 = .ok (.bipush 37, 2) := by decide +kernel
theorem dX3_copyFrom_12 : decode cX3_copyFrom 12 = .ok (.invokestatic 19, 3) := by decide +kernel
theorem dX3_copyFrom_15 : decode cX3_copyFrom 15 = .ok (.aload_n 0, 1) := by decide +kernel
theorem dX3_copyFrom_16 : decode cX3_copyFrom 16 = .ok (.aload_n 1, 1) := by decide +kernel
theorem dX3_copyFrom_17 : decode cX3_copyFrom 17 = .ok (.getfield 15, 3) := by decide +kernel
theorem dX3_copyFrom_20 : decode cX3_copyFrom 20 = .ok (.putfield 15, 3) := by decide +kernel
theorem dX3_copyFrom_23 : decode cX3_copyFrom 23 = .ok (.return_, 1) := by decide +kernel
theorem dX3_open_0 : decode cX3_open 0 = .ok (.aload_n 0, 1) := by decide +kernel
theorem dX3_open_1 : decode cX3_open 1 = .ok (.iconst 0, 1) := by decide +kernel
theorem dX3_open_2 : decode cX3_open 2 = .ok (.putfield 15, 3) := by decide +kernel
theorem dX3_open_5 : decode cX3_open 5 = .ok (.aload_n 0, 1) := by decide +kernel
theorem dX3_open_6 : decode cX3_open 6 = .ok (.iload_n 1, 1) := by decide +kernel
theorem dX3_open_7 : decode cX3_open 7 = .ok (.invokevirtual 25, 3) := by decide +kernel
theorem dX3_open_10 : decode cX3_open 10 = .ok (.aload_n 0, 1) := by decide +kernel
theorem dX3_open_11 : decode cX3_open 11 = .ok (.iload_n 2, 1) := by decide +kernel
theorem dX3_open_12 : decode cX3_open 12 = .ok (.invokevirtual 25, 3) := by decide +kernel
theorem dX3_open_15 : decode cX3_open 15 = .ok (.return_, 1) := by decide +kernel
theorem dX3_putByte_0 : decode cX3_putByte 0 = .ok (.aload_n 0, 1) := by decide +kernel
theorem dX3_putByte_1 : decode cX3_putByte 1 = .ok (.getfield 15, 3) := by decide +kernel
theorem dX3_putByte_4 : decode cX3_putByte 4 = .ok (.bipush 37, 2) := by decide +kernel
theorem dX3_putByte_6 : decode cX3_putByte 6 = .ok (.if_icmp .ge 27, 3) := by decide +kernel
theorem dX3_putByte_9 : decode cX3_putByte 9 = .ok (.aload_n 0, 1) := by decide +kernel
theorem dX3_putByte_10 : decode cX3_putByte 10 = .ok (.getfield 9, 3) := by decide +kernel
theorem dX3_putByte_13 : decode cX3_putByte 13 = .ok (.aload_n 0, 1) := by decide +kernel
theorem dX3_putByte_14 : decode cX3_putByte 14 = .ok (.getfield 15, 3) := by decide +kernel
theorem dX3_putByte_17 : decode cX3_putByte 17 = .ok (.iload_n 1, 1) := by decide +kernel
theorem dX3_putByte_18 : decode cX3_putByte 18 = .ok (.sipush 255, 3) := by decide +kernel
theorem dX3_putByte_21 : decode cX3_putByte 21 = .ok (.iand, 1) := by decide +kernel
theorem dX3_putByte_22 : decode cX3_putByte 22 = .ok (.iastore, 1) := by decide +kernel
theorem dX3_putByte_23 : decode cX3_putByte 23 = .ok (.aload_n 0, 1) := by decide +kernel
theorem dX3_putByte_24 : decode cX3_putByte 24 = .ok (.dup, 1) := by decide +kernel
theorem dX3_putByte_25 : decode cX3_putByte 25 = .ok (.getfield 15, 3) := by decide +kernel
theorem dX3_putByte_28 : decode cX3_putByte 28 = .ok (.iconst 1, 1) := by decide +kernel
theorem dX3_putByte_29 : decode cX3_putByte 29 = .ok (.iadd, 1) := by decide +kernel
theorem dX3_putByte_30 : decode cX3_putByte 30 = .ok (.putfield 15, 3) := by decide +kernel
theorem dX3_putByte_33 : decode cX3_putByte 33 = .ok (.return_, 1) := by decide +kernel
theorem dX3_putWord_0 : decode cX3_putWord 0 = .ok (.aload_n 0, 1) := by decide +kernel
theorem dX3_putWord_1 : decode cX3_putWord 1 = .ok (.iload_n 1, 1) := by decide +kernel
theorem dX3_putWord_2 : decode cX3_putWord 2 = .ok (.bipush 8, 2) := by decide +kernel
theorem dX3_putWord_4 : decode cX3_putWord 4 = .ok (.ishr, 1) := by decide +kernel
theorem dX3_putWord_5 : decode cX3_putWord 5 = .ok (.invokevirtual 25, 3) := by decide +kernel
theorem dX3_putWord_8 : decode cX3_putWord 8 = .ok (.aload_n 0, 1) := by decide +kernel
theorem dX3_putWord_9 : decode cX3_putWord 9 = .ok (.iload_n 1, 1) := by decide +kernel
theorem dX3_putWord_10 : decode cX3_putWord 10 = .ok (.invokevirtual 25, 3) := by decide +kernel
theorem dX3_putWord_13 : decode cX3_putWord 13 = .ok (.return_, 1) := by decide +kernel
theorem dX3_seal_0 : decode cX3_seal 0 = .ok (.aload_n 0, 1) := by decide +kernel
theorem dX3_seal_1 : decode cX3_seal 1 = .ok (.aload_n 0, 1) := by decide +kernel
theorem dX3_seal_2 : decode cX3_seal 2 = .ok (.getfield 15, 3) := by decide +kernel
theorem dX3_seal_5 : decode cX3_seal 5 = .ok (.invokevirtual 29, 3) := by decide +kernel
theorem dX3_seal_8 : decode cX3_seal 8 = .ok (.istore_n 1, 1) := by decide +kernel
theorem dX3_seal_9 : decode cX3_seal 9 = .ok (.aload_n 0, 1) := by decide +kernel
theorem dX3_seal_10 : decode cX3_seal 10 = .ok (.iload_n 1, 1) := by decide +kernel
theorem dX3_seal_11 : decode cX3_seal 11 = .ok (.invokevirtual 25, 3) := by decide +kernel
theorem dX3_seal_14 : decode cX3_seal 14 = .ok (.aload_n 0, 1) := by decide +kernel
theorem dX3_seal_15 : decode cX3_seal 15 = .ok (.iload_n 1, 1) := by decide +kernel
theorem dX3_seal_16 : decode cX3_seal 16 = .ok (.bipush 8, 2) := by decide +kernel
theorem dX3_seal_18 : decode cX3_seal 18 = .ok (.ishr, 1) := by decide +kernel
theorem dX3_seal_19 : decode cX3_seal 19 = .ok (.invokevirtual 25, 3) := by decide +kernel
theorem dX3_seal_22 : decode cX3_seal 22 = .ok (.return_, 1) := by decide +kernel
theorem dX3_sumOf_0 : decode cX3_sumOf 0 = .ok (.ldc 33, 2) := by decide +kernel
theorem dX3_sumOf_2 : decode cX3_sumOf 2 = .ok (.istore_n 2, 1) := by decide +kernel
theorem dX3_sumOf_3 : decode cX3_sumOf 3 = .ok (.iconst 0, 1) := by decide +kernel
theorem dX3_sumOf_4 : decode cX3_sumOf 4 = .ok (.istore_n 3, 1) := by decide +kernel
theorem dX3_sumOf_5 : decode cX3_sumOf 5 = .ok (.iload_n 3, 1) := by decide +kernel
theorem dX3_sumOf_6 : decode cX3_sumOf 6 = .ok (.iload_n 1, 1) := by decide +kernel
theorem dX3_sumOf_7 : decode cX3_sumOf 7 = .ok (.if_icmp .ge 26, 3) := by decide +kernel
theorem dX3_sumOf_10 : decode cX3_sumOf 10 = .ok (.iload_n 3, 1) := by decide +kernel
theorem dX3_sumOf_11 : decode cX3_sumOf 11 = .ok (.bipush 37, 2) := by decide +kernel
theorem dX3_sumOf_13 : decode cX3_sumOf 13 = .ok (.if_icmp .ge 20, 3) := by decide +kernel
theorem dX3_sumOf_16 : decode cX3_sumOf 16 = .ok (.iload_n 2, 1) := by decide +kernel
theorem dX3_sumOf_17 : decode cX3_sumOf 17 = .ok (.aload_n 0, 1) := by decide +kernel
theorem dX3_sumOf_18 : decode cX3_sumOf 18 = .ok (.getfield 9, 3) := by decide +kernel
theorem dX3_sumOf_21 : decode cX3_sumOf 21 = .ok (.iload_n 3, 1) := by decide +kernel
theorem dX3_sumOf_22 : decode cX3_sumOf 22 = .ok (.iaload, 1) := by decide +kernel
theorem dX3_sumOf_23 : decode cX3_sumOf 23 = .ok (.invokestatic 34, 3) := by decide +kernel
theorem dX3_sumOf_26 : decode cX3_sumOf 26 = .ok (.istore_n 2, 1) := by decide +kernel
theorem dX3_sumOf_27 : decode cX3_sumOf 27 = .ok (.iinc 3 1, 3) := by decide +kernel
theorem dX3_sumOf_30 : decode cX3_sumOf 30 = .ok (.goto (-25), 3) := by decide +kernel
theorem dX3_sumOf_33 : decode cX3_sumOf 33 = .ok (.iload_n 2, 1) := by decide +kernel
theorem dX3_sumOf_34 : decode cX3_sumOf 34 = .ok (.ireturn, 1) := by decide +kernel
theorem dX3_invertLowestBit_0 : decode cX3_invertLowestBit 0 = .ok (.aload_n 0, 1) := by decide +kernel
theorem dX3_invertLowestBit_1 : decode cX3_invertLowestBit 1 = .ok (.getfield 15, 3) := by decide +kernel
theorem dX3_invertLowestBit_4 : decode cX3_invertLowestBit 4 = .ok (.ifCond .le 20, 3) := by decide +kernel
theorem dX3_invertLowestBit_7 : decode cX3_invertLowestBit 7 = .ok (.aload_n 0, 1) := by decide +kernel
theorem dX3_invertLowestBit_8 : decode cX3_invertLowestBit 8 = .ok (.getfield 9, 3) := by decide +kernel
theorem dX3_invertLowestBit_11 : decode cX3_invertLowestBit 11 = .ok (.iload_n 1, 1) := by decide +kernel
theorem dX3_invertLowestBit_12 : decode cX3_invertLowestBit 12 = .ok (.aload_n 0, 1) := by decide +kernel
theorem dX3_invertLowestBit_13 : decode cX3_invertLowestBit 13 = .ok (.getfield 15, 3) := by decide +kernel
theorem dX3_invertLowestBit_16 : decode cX3_invertLowestBit 16 = .ok (.invokestatic 38, 3) := by decide +kernel
theorem dX3_invertLowestBit_19 : decode cX3_invertLowestBit 19 = .ok (.dup2, 1) := by decide +kernel
theorem dX3_invertLowestBit_20 : decode cX3_invertLowestBit 20 = .ok (.iaload, 1) := by decide +kernel
theorem dX3_invertLowestBit_21 : decode cX3_invertLowestBit 21 = .ok (.iconst 1, 1) := by decide +kernel
theorem dX3_invertLowestBit_22 : decode cX3_invertLowestBit 22 = .ok (.ixor, 1) := by decide +kernel
theorem dX3_invertLowestBit_23 : decode cX3_invertLowestBit 23 = .ok (.iastore, 1) := by decide +kernel
theorem dX3_invertLowestBit_24 : decode cX3_invertLowestBit 24 = .ok (.return_, 1) := by decide +kernel
theorem dX3_byteAt_0 : decode cX3_byteAt 0 = .ok (.iload_n 1, 1) := by decide +kernel
theorem dX3_byteAt_1 : decode cX3_byteAt 1 = .ok (.ifCond .lt 20, 3) := by decide +kernel
theorem dX3_byteAt_4 : decode cX3_byteAt 4 = .ok (.iload_n 1, 1) := by decide +kernel
theorem dX3_byteAt_5 : decode cX3_byteAt 5 = .ok (.aload_n 0, 1) := by decide +kernel
theorem dX3_byteAt_6 : decode cX3_byteAt 6 = .ok (.getfield 15, 3) := by decide +kernel
theorem dX3_byteAt_9 : decode cX3_byteAt 9 = .ok (.if_icmp .ge 12, 3) := by decide +kernel
theorem dX3_byteAt_12 : decode cX3_byteAt 12 = .ok (.aload_n 0, 1) := by decide +kernel
theorem dX3_byteAt_13 : decode cX3_byteAt 13 = .ok (.getfield 9, 3) := by decide +kernel
theorem dX3_byteAt_16 : decode cX3_byteAt 16 = .ok (.iload_n 1, 1) := by decide +kernel
theorem dX3_byteAt_17 : decode cX3_byteAt 17 = .ok (.iaload, 1) := by decide +kernel
theorem dX3_byteAt_18 : decode cX3_byteAt 18 = .ok (.goto 4, 3) := by decide +kernel
theorem dX3_byteAt_21 : decode cX3_byteAt 21 = .ok (.iconst 0, 1) := by decide +kernel
theorem dX3_byteAt_22 : decode cX3_byteAt 22 = .ok (.ireturn, 1) := by decide +kernel
theorem dX3_wordAt_0 : decode cX3_wordAt 0 = .ok (.iload_n 1, 1) := by decide +kernel
theorem dX3_wordAt_1 : decode cX3_wordAt 1 = .ok (.ifCond .lt 34, 3) := by decide +kernel
theorem dX3_wordAt_4 : decode cX3_wordAt 4 = .ok (.iload_n 1, 1) := by decide +kernel
theorem dX3_wordAt_5 : decode cX3_wordAt 5 = .ok (.aload_n 0, 1) := by decide +kernel
theorem dX3_wordAt_6 : decode cX3_wordAt 6 = .ok (.getfield 15, 3) := by decide +kernel
theorem dX3_wordAt_9 : decode cX3_wordAt 9 = .ok (.iconst 1, 1) := by decide +kernel
theorem dX3_wordAt_10 : decode cX3_wordAt 10 = .ok (.isub, 1) := by decide +kernel
theorem dX3_wordAt_11 : decode cX3_wordAt 11 = .ok (.if_icmp .ge 24, 3) := by decide +kernel
theorem dX3_wordAt_14 : decode cX3_wordAt 14 = .ok (.aload_n 0, 1) := by decide +kernel
theorem dX3_wordAt_15 : decode cX3_wordAt 15 = .ok (.getfield 9, 3) := by decide +kernel
theorem dX3_wordAt_18 : decode cX3_wordAt 18 = .ok (.iload_n 1, 1) := by decide +kernel
theorem dX3_wordAt_19 : decode cX3_wordAt 19 = .ok (.iaload, 1) := by decide +kernel
theorem dX3_wordAt_20 : decode cX3_wordAt 20 = .ok (.bipush 8, 2) := by decide +kernel
theorem dX3_wordAt_22 : decode cX3_wordAt 22 = .ok (.ishl, 1) := by decide +kernel
theorem dX3_wordAt_23 : decode cX3_wordAt 23 = .ok (.aload_n 0, 1) := by decide +kernel
theorem dX3_wordAt_24 : decode cX3_wordAt 24 = .ok (.getfield 9, 3) := by decide +kernel
theorem dX3_wordAt_27 : decode cX3_wordAt 27 = .ok (.iload_n 1, 1) := by decide +kernel
theorem dX3_wordAt_28 : decode cX3_wordAt 28 = .ok (.iconst 1, 1) := by decide +kernel
theorem dX3_wordAt_29 : decode cX3_wordAt 29 = .ok (.iadd, 1) := by decide +kernel
theorem dX3_wordAt_30 : decode cX3_wordAt 30 = .ok (.iaload, 1) := by decide +kernel
theorem dX3_wordAt_31 : decode cX3_wordAt 31 = .ok (.ior, 1) := by decide +kernel
theorem dX3_wordAt_32 : decode cX3_wordAt 32 = .ok (.goto 4, 3) := by decide +kernel
theorem dX3_wordAt_35 : decode cX3_wordAt 35 = .ok (.iconst 0, 1) := by decide +kernel
theorem dX3_wordAt_36 : decode cX3_wordAt 36 = .ok (.ireturn, 1) := by decide +kernel
theorem dX3_startRegister_0 : decode cX3_startRegister 0 = .ok (.aload_n 0, 1) := by decide +kernel
theorem dX3_startRegister_1 : decode cX3_startRegister 1 = .ok (.iconst 2, 1) := by decide +kernel
theorem dX3_startRegister_2 : decode cX3_startRegister 2 = .ok (.invokevirtual 43, 3) := by decide +kernel
theorem dX3_startRegister_5 : decode cX3_startRegister 5 = .ok (.ireturn, 1) := by decide +kernel
theorem dX3_registerCount_0 : decode cX3_registerCount 0 = .ok (.aload_n 0, 1) := by decide +kernel
theorem dX3_registerCount_1 : decode cX3_registerCount 1 = .ok (.iconst 1, 1) := by decide +kernel
theorem dX3_registerCount_2 : decode cX3_registerCount 2 = .ok (.invokevirtual 46, 3) := by decide +kernel
theorem dX3_registerCount_5 : decode cX3_registerCount 5 = .ok (.bipush 6, 2) := by decide +kernel
theorem dX3_registerCount_7 : decode cX3_registerCount 7 = .ok (.if_icmp .ne 7, 3) := by decide +kernel
theorem dX3_registerCount_10 : decode cX3_registerCount 10 = .ok (.iconst 1, 1) := by decide +kernel
theorem dX3_registerCount_11 : decode cX3_registerCount 11 = .ok (.goto 8, 3) := by decide +kernel
theorem dX3_registerCount_14 : decode cX3_registerCount 14 = .ok (.aload_n 0, 1) := by decide +kernel
theorem dX3_registerCount_15 : decode cX3_registerCount 15 = .ok (.iconst 4, 1) := by decide +kernel
theorem dX3_registerCount_16 : decode cX3_registerCount 16 = .ok (.invokevirtual 43, 3) := by decide +kernel
theorem dX3_registerCount_19 : decode cX3_registerCount 19 = .ok (.ireturn, 1) := by decide +kernel
theorem dX3_writtenValue_0 : decode cX3_writtenValue 0 = .ok (.aload_n 0, 1) := by decide +kernel
theorem dX3_writtenValue_1 : decode cX3_writtenValue 1 = .ok (.iconst 1, 1) := by decide +kernel
theorem dX3_writtenValue_2 : decode cX3_writtenValue 2 = .ok (.invokevirtual 46, 3) := by decide +kernel
theorem dX3_writtenValue_5 : decode cX3_writtenValue 5 = .ok (.bipush 6, 2) := by decide +kernel
theorem dX3_writtenValue_7 : decode cX3_writtenValue 7 = .ok (.if_icmp .ne 11, 3) := by decide +kernel
theorem dX3_writtenValue_10 : decode cX3_writtenValue 10 = .ok (.aload_n 0, 1) := by decide +kernel
theorem dX3_writtenValue_11 : decode cX3_writtenValue 11 = .ok (.iconst 4, 1) := by decide +kernel
theorem dX3_writtenValue_12 : decode cX3_writtenValue 12 = .ok (.invokevirtual 43, 3) := by decide +kernel
theorem dX3_writtenValue_15 : decode cX3_writtenValue 15 = .ok (.goto 13, 3) := by decide +kernel
theorem dX3_writtenValue_18 : decode cX3_writtenValue 18 = .ok (.aload_n 0, 1) := by decide +kernel
theorem dX3_writtenValue_19 : decode cX3_writtenValue 19 = .ok (.bipush 7, 2) := by decide +kernel
theorem dX3_writtenValue_21 : decode cX3_writtenValue 21 = .ok (.iconst 2, 1) := by decide +kernel
theorem dX3_writtenValue_22 : decode cX3_writtenValue 22 = .ok (.iload_n 1, 1) := by decide +kernel
theorem dX3_writtenValue_23 : decode cX3_writtenValue 23 = .ok (.imul, 1) := by decide +kernel
theorem dX3_writtenValue_24 : decode cX3_writtenValue 24 = .ok (.iadd, 1) := by decide +kernel
theorem dX3_writtenValue_25 : decode cX3_writtenValue 25 = .ok (.invokevirtual 43, 3) := by decide +kernel
theorem dX3_writtenValue_28 : decode cX3_writtenValue 28 = .ok (.ireturn, 1) := by decide +kernel
theorem dX3_readValue_0 : decode cX3_readValue 0 = .ok (.aload_n 0, 1) := by decide +kernel
theorem dX3_readValue_1 : decode cX3_readValue 1 = .ok (.iconst 3, 1) := by decide +kernel
theorem dX3_readValue_2 : decode cX3_readValue 2 = .ok (.iconst 2, 1) := by decide +kernel
theorem dX3_readValue_3 : decode cX3_readValue 3 = .ok (.iload_n 1, 1) := by decide +kernel
theorem dX3_readValue_4 : decode cX3_readValue 4 = .ok (.imul, 1) := by decide +kernel
theorem dX3_readValue_5 : decode cX3_readValue 5 = .ok (.iadd, 1) := by decide +kernel
theorem dX3_readValue_6 : decode cX3_readValue 6 = .ok (.invokevirtual 43, 3) := by decide +kernel
theorem dX3_readValue_9 : decode cX3_readValue 9 = .ok (.ireturn, 1) := by decide +kernel
theorem dX3_isException_0 : decode cX3_isException 0 = .ok (.aload_n 0, 1) := by decide +kernel
theorem dX3_isException_1 : decode cX3_isException 1 = .ok (.iconst 1, 1) := by decide +kernel
theorem dX3_isException_2 : decode cX3_isException 2 = .ok (.invokevirtual 46, 3) := by decide +kernel
theorem dX3_isException_5 : decode cX3_isException 5 = .ok (.sipush 128, 3) := by decide +kernel
theorem dX3_isException_8 : decode cX3_isException 8 = .ok (.if_icmp .lt 7, 3) := by decide +kernel
theorem dX3_isException_11 : decode cX3_isException 11 = .ok (.iconst 1, 1) := by decide +kernel
theorem dX3_isException_12 : decode cX3_isException 12 = .ok (.goto 4, 3) := by decide +kernel
theorem dX3_isException_15 : decode cX3_isException 15 = .ok (.iconst 0, 1) := by decide +kernel
theorem dX3_isException_16 : decode cX3_isException 16 = .ok (.ireturn, 1) := by decide +kernel
theorem dX3_isReplyTo_0 : decode cX3_isReplyTo 0 = .ok (.aload_n 0, 1) := by decide +kernel
theorem dX3_isReplyTo_1 : decode cX3_isReplyTo 1 = .ok (.iconst 0, 1) := by decide +kernel
theorem dX3_isReplyTo_2 : decode cX3_isReplyTo 2 = .ok (.invokevirtual 46, 3) := by decide +kernel
theorem dX3_isReplyTo_5 : decode cX3_isReplyTo 5 = .ok (.aload_n 1, 1) := by decide +kernel
theorem dX3_isReplyTo_6 : decode cX3_isReplyTo 6 = .ok (.iconst 0, 1) := by decide +kernel
theorem dX3_isReplyTo_7 : decode cX3_isReplyTo 7 = .ok (.invokevirtual 46, 3) := by decide +kernel
theorem dX3_isReplyTo_10 : decode cX3_isReplyTo 10 = .ok (.if_icmp .eq 5, 3) := by decide +kernel
theorem dX3_isReplyTo_13 : decode cX3_isReplyTo 13 = .ok (.iconst 0, 1) := by decide +kernel
theorem dX3_isReplyTo_14 : decode cX3_isReplyTo 14 = .ok (.ireturn, 1) := by decide +kernel
theorem dX3_isReplyTo_15 : decode cX3_isReplyTo 15 = .ok (.aload_n 1, 1) := by decide +kernel
theorem dX3_isReplyTo_16 : decode cX3_isReplyTo 16 = .ok (.iconst 1, 1) := by decide +kernel
theorem dX3_isReplyTo_17 : decode cX3_isReplyTo 17 = .ok (.invokevirtual 46, 3) := by decide +kernel
theorem dX3_isReplyTo_20 : decode cX3_isReplyTo 20 = .ok (.istore_n 2, 1) := by decide +kernel
theorem dX3_isReplyTo_21 : decode cX3_isReplyTo 21 = .ok (.aload_n 0, 1) := by decide +kernel
theorem dX3_isReplyTo_22 : decode cX3_isReplyTo 22 = .ok (.iconst 1, 1) := by decide +kernel
theorem dX3_isReplyTo_23 : decode cX3_isReplyTo 23 = .ok (.invokevirtual 46, 3) := by decide +kernel
theorem dX3_isReplyTo_26 : decode cX3_isReplyTo 26 = .ok (.iload_n 2, 1) := by decide +kernel
theorem dX3_isReplyTo_27 : decode cX3_isReplyTo 27 = .ok (.sipush 128, 3) := by decide +kernel
theorem dX3_isReplyTo_30 : decode cX3_isReplyTo 30 = .ok (.iadd, 1) := by decide +kernel
theorem dX3_isReplyTo_31 : decode cX3_isReplyTo 31 = .ok (.if_icmp .eq 78, 3) := by decide +kernel
theorem dX3_isReplyTo_34 : decode cX3_isReplyTo 34 = .ok (.iload_n 2, 1) := by decide +kernel
theorem dX3_isReplyTo_35 : decode cX3_isReplyTo 35 = .ok (.iconst 3, 1) := by decide +kernel
theorem dX3_isReplyTo_36 : decode cX3_isReplyTo 36 = .ok (.if_icmp .ne 26, 3) := by decide +kernel
theorem dX3_isReplyTo_39 : decode cX3_isReplyTo 39 = .ok (.aload_n 0, 1) := by decide +kernel
theorem dX3_isReplyTo_40 : decode cX3_isReplyTo 40 = .ok (.iconst 2, 1) := by decide +kernel
theorem dX3_isReplyTo_41 : decode cX3_isReplyTo 41 = .ok (.invokevirtual 46, 3) := by decide +kernel
theorem dX3_isReplyTo_44 : decode cX3_isReplyTo 44 = .ok (.iconst 2, 1) := by decide +kernel
theorem dX3_isReplyTo_45 : decode cX3_isReplyTo 45 = .ok (.aload_n 1, 1) := by decide +kernel
theorem dX3_isReplyTo_46 : decode cX3_isReplyTo 46 = .ok (.iconst 4, 1) := by decide +kernel
theorem dX3_isReplyTo_47 : decode cX3_isReplyTo 47 = .ok (.invokevirtual 43, 3) := by decide +kernel
theorem dX3_isReplyTo_50 : decode cX3_isReplyTo 50 = .ok (.imul, 1) := by decide +kernel
theorem dX3_isReplyTo_51 : decode cX3_isReplyTo 51 = .ok (.if_icmp .ne 7, 3) := by decide +kernel
theorem dX3_isReplyTo_54 : decode cX3_isReplyTo 54 = .ok (.iconst 1, 1) := by decide +kernel
theorem dX3_isReplyTo_55 : decode cX3_isReplyTo 55 = .ok (.goto 38, 3) := by decide +kernel
theorem dX3_isReplyTo_58 : decode cX3_isReplyTo 58 = .ok (.iconst 0, 1) := by decide +kernel
theorem dX3_isReplyTo_59 : decode cX3_isReplyTo 59 = .ok (.goto 34, 3) := by decide +kernel
theorem dX3_isReplyTo_62 : decode cX3_isReplyTo 62 = .ok (.aload_n 0, 1) := by decide +kernel
theorem dX3_isReplyTo_63 : decode cX3_isReplyTo 63 = .ok (.iconst 2, 1) := by decide +kernel
theorem dX3_isReplyTo_64 : decode cX3_isReplyTo 64 = .ok (.invokevirtual 43, 3) := by decide +kernel
theorem dX3_isReplyTo_67 : decode cX3_isReplyTo 67 = .ok (.aload_n 1, 1) := by decide +kernel
theorem dX3_isReplyTo_68 : decode cX3_isReplyTo 68 = .ok (.iconst 2, 1) := by decide +kernel
theorem dX3_isReplyTo_69 : decode cX3_isReplyTo 69 = .ok (.invokevirtual 43, 3) := by decide +kernel
theorem dX3_isReplyTo_72 : decode cX3_isReplyTo 72 = .ok (.if_icmp .ne 20, 3) := by decide +kernel
theorem dX3_isReplyTo_75 : decode cX3_isReplyTo 75 = .ok (.aload_n 0, 1) := by decide +kernel
theorem dX3_isReplyTo_76 : decode cX3_isReplyTo 76 = .ok (.iconst 4, 1) := by decide +kernel
theorem dX3_isReplyTo_77 : decode cX3_isReplyTo 77 = .ok (.invokevirtual 43, 3) := by decide +kernel
theorem dX3_isReplyTo_80 : decode cX3_isReplyTo 80 = .ok (.aload_n 1, 1) := by decide +kernel
theorem dX3_isReplyTo_81 : decode cX3_isReplyTo 81 = .ok (.iconst 4, 1) := by decide +kernel
theorem dX3_isReplyTo_82 : decode cX3_isReplyTo 82 = .ok (.invokevirtual 43, 3) := by decide +kernel
theorem dX3_isReplyTo_85 : decode cX3_isReplyTo 85 = .ok (.if_icmp .ne 7, 3) := by decide +kernel
theorem dX3_isReplyTo_88 : decode cX3_isReplyTo 88 = .ok (.iconst 1, 1) := by decide +kernel
theorem dX3_isReplyTo_89 : decode cX3_isReplyTo 89 = .ok (.goto 4, 3) := by decide +kernel
theorem dX3_isReplyTo_92 : decode cX3_isReplyTo 92 = .ok (.iconst 0, 1) := by decide +kernel
theorem dX3_isReplyTo_93 : decode cX3_isReplyTo 93 = .ok (.istore_n 3, 1) := by decide +kernel
theorem dX3_isReplyTo_94 : decode cX3_isReplyTo 94 = .ok (.aload_n 0, 1) := by decide +kernel
theorem dX3_isReplyTo_95 : decode cX3_isReplyTo 95 = .ok (.iconst 1, 1) := by decide +kernel
theorem dX3_isReplyTo_96 : decode cX3_isReplyTo 96 = .ok (.invokevirtual 46, 3) := by decide +kernel
theorem dX3_isReplyTo_99 : decode cX3_isReplyTo 99 = .ok (.iload_n 2, 1) := by decide +kernel
theorem dX3_isReplyTo_100 : decode cX3_isReplyTo 100 = .ok (.if_icmp .ne 7, 3) := by decide +kernel
theorem dX3_isReplyTo_103 : decode cX3_isReplyTo 103 = .ok (.iload_n 3, 1) := by decide +kernel
theorem dX3_isReplyTo_104 : decode cX3_isReplyTo 104 = .ok (.ifCond .ne 5, 3) := by decide +kernel
theorem dX3_isReplyTo_107 : decode cX3_isReplyTo 107 = .ok (.iconst 0, 1) := by decide +kernel
theorem dX3_isReplyTo_108 : decode cX3_isReplyTo 108 = .ok (.ireturn, 1) := by decide +kernel
theorem dX3_isReplyTo_109 : decode cX3_isReplyTo 109 = .ok (.aload_n 0, 1) := by decide +kernel
theorem dX3_isReplyTo_110 : decode cX3_isReplyTo 110 = .ok (.getfield 15, 3) := by decide +kernel
theorem dX3_isReplyTo_113 : decode cX3_isReplyTo 113 = .ok (.iconst 2, 1) := by decide +kernel
theorem dX3_isReplyTo_114 : decode cX3_isReplyTo 114 = .ok (.isub, 1) := by decide +kernel
theorem dX3_isReplyTo_115 : decode cX3_isReplyTo 115 = .ok (.istore_n 3, 1) := by decide +kernel
theorem dX3_isReplyTo_116 : decode cX3_isReplyTo 116 = .ok (.aload_n 0, 1) := by decide +kernel
theorem dX3_isReplyTo_117 : decode cX3_isReplyTo 117 = .ok (.iload_n 3, 1) := by decide +kernel
theorem dX3_isReplyTo_118 : decode cX3_isReplyTo 118 = .ok (.invokevirtual 29, 3) := by decide +kernel
theorem dX3_isReplyTo_121 : decode cX3_isReplyTo 121 = .ok (.aload_n 0, 1) := by decide +kernel
theorem dX3_isReplyTo_122 : decode cX3_isReplyTo 122 = .ok (.iload_n 3, 1) := by decide +kernel
theorem dX3_isReplyTo_123 : decode cX3_isReplyTo 123 = .ok (.invokevirtual 46, 3) := by decide +kernel
theorem dX3_isReplyTo_126 : decode cX3_isReplyTo 126 = .ok (.aload_n 0, 1) := by decide +kernel
theorem dX3_isReplyTo_127 : decode cX3_isReplyTo 127 = .ok (.iload_n 3, 1) := by decide +kernel
theorem dX3_isReplyTo_128 : decode cX3_isReplyTo 128 = .ok (.iconst 1, 1) := by decide +kernel
theorem dX3_isReplyTo_129 : decode cX3_isReplyTo 129 = .ok (.iadd, 1) := by decide +kernel
theorem dX3_isReplyTo_130 : decode cX3_isReplyTo 130 = .ok (.invokevirtual 46, 3) := by decide +kernel
theorem dX3_isReplyTo_133 : decode cX3_isReplyTo 133 = .ok (.bipush 8, 2) := by decide +kernel
theorem dX3_isReplyTo_135 : decode cX3_isReplyTo 135 = .ok (.ishl, 1) := by decide +kernel
theorem dX3_isReplyTo_136 : decode cX3_isReplyTo 136 = .ok (.ior, 1) := by decide +kernel
theorem dX3_isReplyTo_137 : decode cX3_isReplyTo 137 = .ok (.if_icmp .ne 7, 3) := by decide +kernel
theorem dX3_isReplyTo_140 : decode cX3_isReplyTo 140 = .ok (.iconst 1, 1) := by decide +kernel
theorem dX3_isReplyTo_141 : decode cX3_isReplyTo 141 = .ok (.goto 4, 3) := by decide +kernel
theorem dX3_isReplyTo_144 : decode cX3_isReplyTo 144 = .ok (.iconst 0, 1) := by decide +kernel
theorem dX3_isReplyTo_145 : decode cX3_isReplyTo 145 = .ok (.ireturn, 1) := by decide +kernel
theorem dX4_init_0 : decode cX4_init 0 = .ok (.aload_n 0, 1) := by decide +kernel
theorem dX4_init_1 : decode cX4_init 1 = .ok (.invokespecial 1, 3) := by decide +kernel
theorem dX4_init_4 : decode cX4_init 4 = .ok (.aload_n 0, 1) := by decide +kernel
theorem dX4_init_5 : decode cX4_init 5 = .ok (.new 7, 3) := by decide +kernel
theorem dX4_init_8 : decode cX4_init 8 = .ok (.dup, 1) := by decide +kernel
theorem dX4_init_9 : decode cX4_init 9 = .ok (.invokespecial 9, 3) := by decide +kernel
theorem dX4_init_12 : decode cX4_init 12 = .ok (.putfield 10, 3) := by decide +kernel
theorem dX4_init_15 : decode cX4_init 15 = .ok (.aload_n 0, 1) := by decide +kernel
theorem dX4_init_16 : decode cX4_init 16 = .ok (.new 7, 3) := by decide +kernel
theorem dX4_init_19 : decode cX4_init 19 = .ok (.dup, 1) := by decide +kernel
theorem dX4_init_20 : decode cX4_init 20 = .ok (.invokespecial 9, 3) := by decide +kernel
theorem dX4_init_23 : decode cX4_init 23 = .ok (.putfield 16, 3) := by decide +kernel
theorem dX4_init_26 : decode cX4_init 26 = .ok (.return_, 1) := by decide +kernel
theorem dX4_copyFrom_0 : decode cX4_copyFrom 0 = .ok (.aload_n 0, 1) := by decide +kernel
theorem dX4_copyFrom_1 : decode cX4_copyFrom 1 = .ok (.getfield 10, 3) := by decide +kernel
theorem dX4_copyFrom_4 : decode cX4_copyFrom 4 = .ok (.invokevirtual 19, 3) := by decide +kernel
theorem dX4_copyFrom_7 : decode cX4_copyFrom 7 = .ok (.iconst 1, 1) := by decide +kernel
theorem dX4_copyFrom_8 : decode cX4_copyFrom 8 = .ok (.isub, 1) := by decide +kernel
theorem dX4_copyFrom_9 : decode cX4_copyFrom 9 = .ok (.istore_n 2, 1) := by decide +kernel
theorem dX4_copyFrom_10 : decode cX4_copyFrom 10 = .ok (.iload_n 2, 1) := by decide +kernel
theorem dX4_copyFrom_11 : decode cX4_copyFrom 11 = .ok (.ifCond .lt 24, 3) := by decide +kernel
theorem dX4_copyFrom_14 : decode cX4_copyFrom 14 = .ok (.aload_n 0, 1) := by decide +kernel
theorem dX4_copyFrom_15 : decode cX4_copyFrom 15 = .ok (.aload_n 0, 1) := by decide +kernel
theorem dX4_copyFrom_16 : decode cX4_copyFrom 16 = .ok (.getfield 10, 3) := by decide +kernel
theorem dX4_copyFrom_19 : decode cX4_copyFrom 19 = .ok (.iload_n 2, 1) := by decide +kernel
theorem dX4_copyFrom_20 : decode cX4_copyFrom 20 = .ok (.invokevirtual 23, 3) := by decide +kernel
theorem dX4_copyFrom_23 : decode cX4_copyFrom 23 = .ok (.checkcast 27, 3) := by decide +kernel
theorem dX4_copyFrom_26 : decode cX4_copyFrom 26 = .ok (.invokevirtual 29, 3) := by decide +kernel
theorem dX4_copyFrom_29 : decode cX4_copyFrom 29 = .ok (.iinc 2 (-1), 3) := by decide +kernel
theorem dX4_copyFrom_32 : decode cX4_copyFrom 32 = .ok (.goto (-22), 3) := by decide +kernel
theorem dX4_copyFrom_35 : decode cX4_copyFrom 35 = .ok (.iconst 0, 1) := by decide +kernel
theorem dX4_copyFrom_36 : decode cX4_copyFrom 36 = .ok (.istore_n 2, 1) := by decide +kernel
theorem dX4_copyFrom_37 : decode cX4_copyFrom 37 = .ok (.iload_n 2, 1) := by decide +kernel
theorem dX4_copyFrom_38 : decode cX4_copyFrom 38 = .ok (.aload_n 1, 1) := by decide +kernel
theorem dX4_copyFrom_39 : decode cX4_copyFrom 39 = .ok (.getfield 10, 3) := by decide +kernel
theorem dX4_copyFrom_42 : decode cX4_copyFrom 42 = .ok (.invokevirtual 19, 3) := by decide +kernel
theorem dX4_copyFrom_45 : decode cX4_copyFrom 45 = .ok (.if_icmp .ge 38, 3) := by decide +kernel
theorem dX4_copyFrom_48 : decode cX4_copyFrom 48 = .ok (.aload_n 0, 1) := by decide +kernel
theorem dX4_copyFrom_49 : decode cX4_copyFrom 49 = .ok (.invokevirtual 33, 3) := by decide +kernel
theorem dX4_copyFrom_52 : decode cX4_copyFrom 52 = .ok (.astore_n 3, 1) := by decide +kernel
theorem dX4_copyFrom_53 : decode cX4_copyFrom 53 = .ok (.aload_n 3, 1) := by decide +kernel
theorem dX4_copyFrom_54 : decode cX4_copyFrom 54 = .ok (.aload_n 1, 1) := by decide +kernel
theorem dX4_copyFrom_55 : decode cX4_copyFrom 55 = .ok (.getfield 10, 3) := by decide +kernel
theorem dX4_copyFrom_58 : decode cX4_copyFrom 58 = .ok (.iload_n 2, 1) := by decide +kernel
theorem dX4_copyFrom_59 : decode cX4_copyFrom 59 = .ok (.invokevirtual 37, 3) := by decide +kernel
theorem dX4_copyFrom_62 : decode cX4_copyFrom 62 = .ok (.checkcast 27, 3) := by decide +kernel
theorem dX4_copyFrom_65 : decode cX4_copyFrom 65 = .ok (.invokevirtual 40, 3) := by decide +kernel
theorem dX4_copyFrom_68 : decode cX4_copyFrom 68 = .ok (.aload_n 0, 1) := by decide +kernel
theorem dX4_copyFrom_69 : decode cX4_copyFrom 69 = .ok (.getfield 10, 3) := by decide +kernel
theorem dX4_copyFrom_72 : decode cX4_copyFrom 72 = .ok (.aload_n 3, 1) := by decide +kernel
theorem dX4_copyFrom_73 : decode cX4_copyFrom 73 = .ok (.invokevirtual 43, 3) := by decide +kernel
theorem dX4_copyFrom_76 : decode cX4_copyFrom 76 = .ok (.pop, 1) := by decide +kernel
theorem dX4_copyFrom_77 : decode cX4_copyFrom 77 = .ok (.iinc 2 1, 3) := by decide +kernel
theorem dX4_copyFrom_80 : decode cX4_copyFrom 80 = .ok (.goto (-43), 3) := by decide +kernel
theorem dX4_copyFrom_83 : decode cX4_copyFrom 83 = .ok (.return_, 1) := by decide +kernel
theorem dX4_recycle_0 : decode cX4_recycle 0 = .ok (.aload_n 0, 1) := by decide +kernel
theorem dX4_recycle_1 : decode cX4_recycle 1 = .ok (.getfield 16, 3) := by decide +kernel
theorem dX4_recycle_4 : decode cX4_recycle 4 = .ok (.aload_n 1, 1) := by decide +kernel
theorem dX4_recycle_5 : decode cX4_recycle 5 = .ok (.invokevirtual 43, 3) := by decide +kernel
theorem dX4_recycle_8 : decode cX4_recycle 8 = .ok (.pop, 1) := by decide +kernel
theorem dX4_recycle_9 : decode cX4_recycle 9 = .ok (.return_, 1) := by decide +kernel
theorem dX4_freeReply_0 : decode cX4_freeReply 0 = .ok (.aload_n 0, 1) := by decide +kernel
theorem dX4_freeReply_1 : decode cX4_freeReply 1 = .ok (.getfield 16, 3) := by decide +kernel
theorem dX4_freeReply_4 : decode cX4_freeReply 4 = .ok (.invokevirtual 47, 3) := by decide +kernel
theorem dX4_freeReply_7 : decode cX4_freeReply 7 = .ok (.ifCond .eq 13, 3) := by decide +kernel
theorem dX4_freeReply_10 : decode cX4_freeReply 10 = .ok (.new 27, 3) := by decide +kernel
theorem dX4_freeReply_13 : decode cX4_freeReply 13 = .ok (.dup, 1) := by decide +kernel
theorem dX4_freeReply_14 : decode cX4_freeReply 14 = .ok (.invokespecial 51, 3) := by decide +kernel
theorem dX4_freeReply_17 : decode cX4_freeReply 17 = .ok (.goto 22, 3) := by decide +kernel
theorem dX4_freeReply_20 : decode cX4_freeReply 20 = .ok (.aload_n 0, 1) := by decide +kernel
theorem dX4_freeReply_21 : decode cX4_freeReply 21 = .ok (.getfield 16, 3) := by decide +kernel
theorem dX4_freeReply_24 : decode cX4_freeReply 24 = .ok (.aload_n 0, 1) := by decide +kernel
theorem dX4_freeReply_25 : decode cX4_freeReply 25 = .ok (.getfield 16, 3) := by decide +kernel
theorem dX4_freeReply_28 : decode cX4_freeReply 28 = .ok (.invokevirtual 19, 3) := by decide +kernel
theorem dX4_freeReply_31 : decode cX4_freeReply 31 = .ok (.iconst 1, 1) := by decide +kernel
theorem dX4_freeReply_32 : decode cX4_freeReply 32 = .ok (.isub, 1) := by decide +kernel
theorem dX4_freeReply_33 : decode cX4_freeReply 33 = .ok (.invokevirtual 23, 3) := by decide +kernel
theorem dX4_freeReply_36 : decode cX4_freeReply 36 = .ok (.checkcast 27, 3) := by decide +kernel
theorem dX4_freeReply_39 : decode cX4_freeReply 39 = .ok (.areturn, 1) := by decide +kernel
theorem dX4_dropBefore_0 : decode cX4_dropBefore 0 = .ok (.aload_n 0, 1) := by decide +kernel
theorem dX4_dropBefore_1 : decode cX4_dropBefore 1 = .ok (.getfield 10, 3) := by decide +kernel
theorem dX4_dropBefore_4 : decode cX4_dropBefore 4 = .ok (.invokevirtual 19, 3) := by decide +kernel
theorem dX4_dropBefore_7 : decode cX4_dropBefore 7 = .ok (.iconst 1, 1) := by decide +kernel
theorem dX4_dropBefore_8 : decode cX4_dropBefore 8 = .ok (.isub, 1) := by decide +kernel
theorem dX4_dropBefore_9 : decode cX4_dropBefore 9 = .ok (.istore_n 2, 1) := by decide +kernel
theorem dX4_dropBefore_10 : decode cX4_dropBefore 10 = .ok (.iload_n 2, 1) := by decide +kernel
theorem dX4_dropBefore_11 : decode cX4_dropBefore 11 = .ok (.ifCond .lt 42, 3) := by decide +kernel
theorem dX4_dropBefore_14 : decode cX4_dropBefore 14 = .ok (.aload_n 0, 1) := by decide +kernel
theorem dX4_dropBefore_15 : decode cX4_dropBefore 15 = .ok (.getfield 10, 3) := by decide +kernel
theorem dX4_dropBefore_18 : decode cX4_dropBefore 18 = .ok (.iload_n 2, 1) := by decide +kernel
theorem dX4_dropBefore_19 : decode cX4_dropBefore 19 = .ok (.invokevirtual 37, 3) := by decide +kernel
theorem dX4_dropBefore_22 : decode cX4_dropBefore 22 = .ok (.checkcast 27, 3) := by decide +kernel
theorem dX4_dropBefore_25 : decode cX4_dropBefore 25 = .ok (.getfield 52, 3) := by decide +kernel
theorem dX4_dropBefore_28 : decode cX4_dropBefore 28 = .ok (.iload_n 1, 1) := by decide +kernel
theorem dX4_dropBefore_29 : decode cX4_dropBefore 29 = .ok (.if_icmp .ge 18, 3) := by decide +kernel
theorem dX4_dropBefore_32 : decode cX4_dropBefore 32 = .ok (.aload_n 0, 1) := by decide +kernel
theorem dX4_dropBefore_33 : decode cX4_dropBefore 33 = .ok (.aload_n 0, 1) := by decide +kernel
theorem dX4_dropBefore_34 : decode cX4_dropBefore 34 = .ok (.getfield 10, 3) := by decide +kernel
theorem dX4_dropBefore_37 : decode cX4_dropBefore 37 = .ok (.iload_n 2, 1) := by decide +kernel
theorem dX4_dropBefore_38 : decode cX4_dropBefore 38 = .ok (.invokevirtual 23, 3) := by decide +kernel
theorem dX4_dropBefore_41 : decode cX4_dropBefore 41 = .ok (.checkcast 27, 3) := by decide +kernel
theorem dX4_dropBefore_44 : decode cX4_dropBefore 44 = .ok (.invokevirtual 29, 3) := by decide +kernel
theorem dX4_dropBefore_47 : decode cX4_dropBefore 47 = .ok (.iinc 2 (-1), 3) := by decide +kernel
theorem dX4_dropBefore_50 : decode cX4_dropBefore 50 = .ok (.goto (-40), 3) := by decide +kernel
theorem dX4_dropBefore_53 : decode cX4_dropBefore 53 = .ok (.return_, 1) := by decide +kernel
theorem dX4_take_0 : decode cX4_take 0 = .ok (.aload_n 0, 1) := by decide +kernel
theorem dX4_take_1 : decode cX4_take 1 = .ok (.getfield 10, 3) := by decide +kernel
theorem dX4_take_4 : decode cX4_take 4 = .ok (.invokevirtual 19, 3) := by decide +kernel
theorem dX4_take_7 : decode cX4_take 7 = .ok (.istore_n 3, 1) := by decide +kernel
theorem dX4_take_8 : decode cX4_take 8 = .ok (.iconst 0, 1) := by decide +kernel
theorem dX4_take_9 : decode cX4_take 9 = .ok (.istore 4, 2) := by decide +kernel
theorem dX4_take_11 : decode cX4_take 11 = .ok (.iload 4, 2) := by decide +kernel
theorem dX4_take_13 : decode cX4_take 13 = .ok (.iload_n 3, 1) := by decide +kernel
theorem dX4_take_14 : decode cX4_take 14 = .ok (.if_icmp .ge 58, 3) := by decide +kernel
theorem dX4_take_17 : decode cX4_take 17 = .ok (.aload_n 0, 1) := by decide +kernel
theorem dX4_take_18 : decode cX4_take 18 = .ok (.iload_n 2, 1) := by decide +kernel
theorem dX4_take_19 : decode cX4_take 19 = .ok (.invokevirtual 56, 3) := by decide +kernel
theorem dX4_take_22 : decode cX4_take 22 = .ok (.istore 5, 2) := by decide +kernel
theorem dX4_take_24 : decode cX4_take 24 = .ok (.iload 5, 2) := by decide +kernel
theorem dX4_take_26 : decode cX4_take 26 = .ok (.ifCond .ge 5, 3) := by decide +kernel
theorem dX4_take_29 : decode cX4_take 29 = .ok (.aconst_null, 1) := by decide +kernel
theorem dX4_take_30 : decode cX4_take 30 = .ok (.areturn, 1) := by decide +kernel
theorem dX4_take_31 : decode cX4_take 31 = .ok (.aload_n 0, 1) := by decide +kernel
theorem dX4_take_32 : decode cX4_take 32 = .ok (.getfield 10, 3) := by decide +kernel
theorem dX4_take_35 : decode cX4_take 35 = .ok (.iload 5, 2) := by decide +kernel
theorem dX4_take_37 : decode cX4_take 37 = .ok (.invokevirtual 23, 3) := by decide +kernel
theorem dX4_take_40 : decode cX4_take 40 = .ok (.checkcast 27, 3) := by decide +kernel
theorem dX4_take_43 : decode cX4_take 43 = .ok (.astore 6, 2) := by decide +kernel
theorem dX4_take_45 : decode cX4_take 45 = .ok (.aload 6, 2) := by decide +kernel
theorem dX4_take_47 : decode cX4_take 47 = .ok (.getfield 60, 3) := by decide +kernel
theorem dX4_take_50 : decode cX4_take 50 = .ok (.aload_n 1, 1) := by decide +kernel
theorem dX4_take_51 : decode cX4_take 51 = .ok (.invokevirtual 64, 3) := by decide +kernel
theorem dX4_take_54 : decode cX4_take 54 = .ok (.ifCond .eq 6, 3) := by decide +kernel
theorem dX4_take_57 : decode cX4_take 57 = .ok (.aload 6, 2) := by decide +kernel
theorem dX4_take_59 : decode cX4_take 59 = .ok (.areturn, 1) := by decide +kernel
theorem dX4_take_60 : decode cX4_take 60 = .ok (.aload_n 0, 1) := by decide +kernel
theorem dX4_take_61 : decode cX4_take 61 = .ok (.aload 6, 2) := by decide +kernel
theorem dX4_take_63 : decode cX4_take 63 = .ok (.invokevirtual 29, 3) := by decide +kernel
theorem dX4_take_66 : decode cX4_take 66 = .ok (.iinc 4 1, 3) := by decide +kernel
theorem dX4_take_69 : decode cX4_take 69 = .ok (.goto (-58), 3) := by decide +kernel
theorem dX4_take_72 : decode cX4_take 72 = .ok (.aconst_null, 1) := by decide +kernel
theorem dX4_take_73 : decode cX4_take 73 = .ok (.areturn, 1) := by decide +kernel
theorem dX4_earliest_0 : decode cX4_earliest 0 = .ok (.iconst (-1), 1) := by decide +kernel
theorem dX4_earliest_1 : decode cX4_earliest 1 = .ok (.istore_n 2, 1) := by decide +kernel
theorem dX4_earliest_2 : decode cX4_earliest 2 = .ok (.iload_n 1, 1) := by decide +kernel
theorem dX4_earliest_3 : decode cX4_earliest 3 = .ok (.iconst 1, 1) := by decide +kernel
theorem dX4_earliest_4 : decode cX4_earliest 4 = .ok (.iadd, 1) := by decide +kernel
theorem dX4_earliest_5 : decode cX4_earliest 5 = .ok (.istore_n 3, 1) := by decide +kernel
theorem dX4_earliest_6 : decode cX4_earliest 6 = .ok (.iconst 0, 1) := by decide +kernel
theorem dX4_earliest_7 : decode cX4_earliest 7 = .ok (.istore 4, 2) := by decide +kernel
theorem dX4_earliest_9 : decode cX4_earliest 9 = .ok (.iload 4, 2) := by decide +kernel
theorem dX4_earliest_11 : decode cX4_earliest 11 = .ok (.aload_n 0, 1) := by decide +kernel
theorem dX4_earliest_12 : decode cX4_earliest 12 = .ok (.getfield 10, 3) := by decide +kernel
theorem dX4_earliest_15 : decode cX4_earliest 15 = .ok (.invokevirtual 19, 3) := by decide +kernel
theorem dX4_earliest_18 : decode cX4_earliest 18 = .ok (.if_icmp .ge 47, 3) := by decide +kernel
theorem dX4_earliest_21 : decode cX4_earliest 21 = .ok (.aload_n 0, 1) := by decide +kernel
theorem dX4_earliest_22 : decode cX4_earliest 22 = .ok (.getfield 10, 3) := by decide +kernel
theorem dX4_earliest_25 : decode cX4_earliest 25 = .ok (.iload 4, 2) := by decide +kernel
theorem dX4_earliest_27 : decode cX4_earliest 27 = .ok (.invokevirtual 37, 3) := by decide +kernel
theorem dX4_earliest_30 : decode cX4_earliest 30 = .ok (.checkcast 27, 3) := by decide +kernel
theorem dX4_earliest_33 : decode cX4_earliest 33 = .ok (.getfield 52, 3) := by decide +kernel
theorem dX4_earliest_36 : decode cX4_earliest 36 = .ok (.iload_n 3, 1) := by decide +kernel
theorem dX4_earliest_37 : decode cX4_earliest 37 = .ok (.if_icmp .ge 22, 3) := by decide +kernel
theorem dX4_earliest_40 : decode cX4_earliest 40 = .ok (.iload 4, 2) := by decide +kernel
theorem dX4_earliest_42 : decode cX4_earliest 42 = .ok (.istore_n 2, 1) := by decide +kernel
theorem dX4_earliest_43 : decode cX4_earliest 43 = .ok (.aload_n 0, 1) := by decide +kernel
theorem dX4_earliest_44 : decode cX4_earliest 44 = .ok (.getfield 10, 3) := by decide +kernel
theorem dX4_earliest_47 : decode cX4_earliest 47 = .ok (.iload 4, 2) := by decide +kernel
theorem dX4_earliest_49 : decode cX4_earliest 49 = .ok (.invokevirtual 37, 3) := by decide +kernel
theorem dX4_earliest_52 : decode cX4_earliest 52 = .ok (.checkcast 27, 3) := by decide +kernel
theorem dX4_earliest_55 : decode cX4_earliest 55 = .ok (.getfield 52, 3) := by decide +kernel
theorem dX4_earliest_58 : decode cX4_earliest 58 = .ok (.istore_n 3, 1) := by decide +kernel
theorem dX4_earliest_59 : decode cX4_earliest 59 = .ok (.iinc 4 1, 3) := by decide +kernel
theorem dX4_earliest_62 : decode cX4_earliest 62 = .ok (.goto (-53), 3) := by decide +kernel
theorem dX4_earliest_65 : decode cX4_earliest 65 = .ok (.iload_n 2, 1) := by decide +kernel
theorem dX4_earliest_66 : decode cX4_earliest 66 = .ok (.ireturn, 1) := by decide +kernel
theorem dX5_init_0 : decode cX5_init 0 = .ok (.aload_n 0, 1) := by decide +kernel
theorem dX5_init_1 : decode cX5_init 1 = .ok (.invokespecial 3, 3) := by decide +kernel
theorem dX5_init_4 : decode cX5_init 4 = .ok (.aload_n 0, 1) := by decide +kernel
theorem dX5_init_5 : decode cX5_init 5 = .ok (.bipush 10, 2) := by decide +kernel
theorem dX5_init_7 : decode cX5_init 7 = .ok (.newarray .int, 2) := by decide +kernel
theorem dX5_init_9 : decode cX5_init 9 = .ok (.putfield 9, 3) := by decide +kernel
theorem dX5_init_12 : decode cX5_init 12 = .ok (.aload_n 0, 1) := by decide +kernel
theorem dX5_init_13 : decode cX5_init 13 = .ok (.bipush 10, 2) := by decide +kernel
theorem dX5_init_15 : decode cX5_init 15 = .ok (.newarray .int, 2) := by decide +kernel
theorem dX5_init_17 : decode cX5_init 17 = .ok (.putfield 15, 3) := by decide +kernel
theorem dX5_init_20 : decode cX5_init 20 = .ok (.aload_n 0, 1) := by decide +kernel
theorem dX5_init_21 : decode cX5_init 21 = .ok (.iconst 0, 1) := by decide +kernel
theorem dX5_init_22 : decode cX5_init 22 = .ok (.putfield 18, 3) := by decide +kernel
theorem dX5_init_25 : decode cX5_init 25 = .ok (.aload_n 0, 1) := by decide +kernel
theorem dX5_init_26 : decode cX5_init 26 = .ok (.iconst 0, 1) := by decide +kernel
theorem dX5_init_27 : decode cX5_init 27 = .ok (.putfield 22, 3) := by decide +kernel
theorem dX5_init_30 : decode cX5_init 30 = .ok (.aload_n 0, 1) := by decide +kernel
theorem dX5_init_31 : decode cX5_init 31 = .ok (.ldc 25, 2) := by decide +kernel
theorem dX5_init_33 : decode cX5_init 33 = .ok (.putfield 26, 3) := by decide +kernel
theorem dX5_init_36 : decode cX5_init 36 = .ok (.aload_n 0, 1) := by decide +kernel
theorem dX5_init_37 : decode cX5_init 37 = .ok (.iconst 0, 1) := by decide +kernel
theorem dX5_init_38 : decode cX5_init 38 = .ok (.putfield 29, 3) := by decide +kernel
theorem dX5_init_41 : decode cX5_init 41 = .ok (.return_, 1) := by decide +kernel
theorem dX5_hear_0 : decode cX5_hear 0 = .ok (.iload_n 2, 1) := by decide +kernel
theorem dX5_hear_1 : decode cX5_hear 1 = .ok (.iconst 4, 1) := by decide +kernel
theorem dX5_hear_2 : decode cX5_hear 2 = .ok (.if_icmp .lt 10, 3) := by decide +kernel
theorem dX5_hear_5 : decode cX5_hear 5 = .ok (.aload_n 0, 1) := by decide +kernel
theorem dX5_hear_6 : decode cX5_hear 6 = .ok (.invokevirtual 33, 3) := by decide +kernel
theorem dX5_hear_9 : decode cX5_hear 9 = .ok (.goto 20, 3) := by decide +kernel
theorem dX5_hear_12 : decode cX5_hear 12 = .ok (.iload_n 2, 1) := by decide +kernel
theorem dX5_hear_13 : decode cX5_hear 13 = .ok (.iconst 2, 1) := by decide +kernel
theorem dX5_hear_14 : decode cX5_hear 14 = .ok (.if_icmp .lt 15, 3) := by decide +kernel
theorem dX5_hear_17 : decode cX5_hear 17 = .ok (.aload_n 0, 1) := by decide +kernel
theorem dX5_hear_18 : decode cX5_hear 18 = .ok (.getfield 22, 3) := by decide +kernel
theorem dX5_hear_21 : decode cX5_hear 21 = .ok (.ifCond .le 8, 3) := by decide +kernel
theorem dX5_hear_24 : decode cX5_hear 24 = .ok (.aload_n 0, 1) := by decide +kernel
theorem dX5_hear_25 : decode cX5_hear 25 = .ok (.iconst 1, 1) := by decide +kernel
theorem dX5_hear_26 : decode cX5_hear 26 = .ok (.putfield 29, 3) := by decide +kernel
theorem dX5_hear_29 : decode cX5_hear 29 = .ok (.aload_n 0, 1) := by decide +kernel
theorem dX5_hear_30 : decode cX5_hear 30 = .ok (.aload_n 0, 1) := by decide +kernel
theorem dX5_hear_31 : decode cX5_hear 31 = .ok (.getfield 26, 3) := by decide +kernel
theorem dX5_hear_34 : decode cX5_hear 34 = .ok (.iload_n 1, 1) := by decide +kernel
theorem dX5_hear_35 : decode cX5_hear 35 = .ok (.invokestatic 36, 3) := by decide +kernel
theorem dX5_hear_38 : decode cX5_hear 38 = .ok (.putfield 26, 3) := by decide +kernel
theorem dX5_hear_41 : decode cX5_hear 41 = .ok (.aload_n 0, 1) := by decide +kernel
theorem dX5_hear_42 : decode cX5_hear 42 = .ok (.dup, 1) := by decide +kernel
theorem dX5_hear_43 : decode cX5_hear 43 = .ok (.getfield 22, 3) := by decide +kernel
theorem dX5_hear_46 : decode cX5_hear 46 = .ok (.iconst 1, 1) := by decide +kernel
theorem dX5_hear_47 : decode cX5_hear 47 = .ok (.iadd, 1) := by decide +kernel
theorem dX5_hear_48 : decode cX5_hear 48 = .ok (.putfield 22, 3) := by decide +kernel
theorem dX5_hear_51 : decode cX5_hear 51 = .ok (.return_, 1) := by decide +kernel
theorem dX5_close_0 : decode cX5_close 0 = .ok (.aload_n 0, 1) := by decide +kernel
theorem dX5_close_1 : decode cX5_close 1 = .ok (.getfield 22, 3) := by decide +kernel
theorem dX5_close_4 : decode cX5_close 4 = .ok (.ifCond .ne 4, 3) := by decide +kernel
theorem dX5_close_7 : decode cX5_close 7 = .ok (.return_, 1) := by decide +kernel
theorem dX5_close_8 : decode cX5_close 8 = .ok (.aload_n 0, 1) := by decide +kernel
theorem dX5_close_9 : decode cX5_close 9 = .ok (.getfield 18, 3) := by decide +kernel
theorem dX5_close_12 : decode cX5_close 12 = .ok (.bipush 10, 2) := by decide +kernel
theorem dX5_close_14 : decode cX5_close 14 = .ok (.invokestatic 40, 3) := by decide +kernel
theorem dX5_close_17 : decode cX5_close 17 = .ok (.istore_n 1, 1) := by decide +kernel
theorem dX5_close_18 : decode cX5_close 18 = .ok (.aload_n 0, 1) := by decide +kernel
theorem dX5_close_19 : decode cX5_close 19 = .ok (.getfield 9, 3) := by decide +kernel
theorem dX5_close_22 : decode cX5_close 22 = .ok (.iload_n 1, 1) := by decide +kernel
theorem dX5_close_23 : decode cX5_close 23 = .ok (.aload_n 0, 1) := by decide +kernel
theorem dX5_close_24 : decode cX5_close 24 = .ok (.invokevirtual 45, 3) := by decide +kernel
theorem dX5_close_27 : decode cX5_close 27 = .ok (.iastore, 1) := by decide +kernel
theorem dX5_close_28 : decode cX5_close 28 = .ok (.aload_n 0, 1) := by decide +kernel
theorem dX5_close_29 : decode cX5_close 29 = .ok (.getfield 15, 3) := by decide +kernel
theorem dX5_close_32 : decode cX5_close 32 = .ok (.iload_n 1, 1) := by decide +kernel
theorem dX5_close_33 : decode cX5_close 33 = .ok (.aload_n 0, 1) := by decide +kernel
theorem dX5_close_34 : decode cX5_close 34 = .ok (.getfield 22, 3) := by decide +kernel
theorem dX5_close_37 : decode cX5_close 37 = .ok (.iastore, 1) := by decide +kernel
theorem dX5_close_38 : decode cX5_close 38 = .ok (.aload_n 0, 1) := by decide +kernel
theorem dX5_close_39 : decode cX5_close 39 = .ok (.dup, 1) := by decide +kernel
theorem dX5_close_40 : decode cX5_close 40 = .ok (.getfield 18, 3) := by decide +kernel
theorem dX5_close_43 : decode cX5_close 43 = .ok (.iconst 1, 1) := by decide +kernel
theorem dX5_close_44 : decode cX5_close 44 = .ok (.iadd, 1) := by decide +kernel
theorem dX5_close_45 : decode cX5_close 45 = .ok (.putfield 18, 3) := by decide +kernel
theorem dX5_close_48 : decode cX5_close 48 = .ok (.aload_n 0, 1) := by decide +kernel
theorem dX5_close_49 : decode cX5_close 49 = .ok (.iconst 0, 1) := by decide +kernel
theorem dX5_close_50 : decode cX5_close 50 = .ok (.putfield 22, 3) := by decide +kernel
theorem dX5_close_53 : decode cX5_close 53 = .ok (.aload_n 0, 1) := by decide +kernel
theorem dX5_close_54 : decode cX5_close 54 = .ok (.ldc 25, 2) := by decide +kernel
theorem dX5_close_56 : decode cX5_close 56 = .ok (.putfield 26, 3) := by decide +kernel
theorem dX5_close_59 : decode cX5_close 59 = .ok (.aload_n 0, 1) := by decide +kernel
theorem dX5_close_60 : decode cX5_close 60 = .ok (.iconst 0, 1) := by decide +kernel
theorem dX5_close_61 : decode cX5_close 61 = .ok (.putfield 29, 3) := by decide +kernel
theorem dX5_close_64 : decode cX5_close 64 = .ok (.return_, 1) := by decide +kernel
theorem dX5_judge_0 : decode cX5_judge 0 = .ok (.aload_n 0, 1) := by decide +kernel
theorem dX5_judge_1 : decode cX5_judge 1 = .ok (.getfield 22, 3) := by decide +kernel
theorem dX5_judge_4 : decode cX5_judge 4 = .ok (.iconst 4, 1) := by decide +kernel
theorem dX5_judge_5 : decode cX5_judge 5 = .ok (.if_icmp .ge 5, 3) := by decide +kernel
theorem dX5_judge_8 : decode cX5_judge 8 = .ok (.iconst 1, 1) := by decide +kernel
theorem dX5_judge_9 : decode cX5_judge 9 = .ok (.ireturn, 1) := by decide +kernel
theorem dX5_judge_10 : decode cX5_judge 10 = .ok (.aload_n 0, 1) := by decide +kernel
theorem dX5_judge_11 : decode cX5_judge 11 = .ok (.getfield 22, 3) := by decide +kernel
theorem dX5_judge_14 : decode cX5_judge 14 = .ok (.bipush 30, 2) := by decide +kernel
theorem dX5_judge_16 : decode cX5_judge 16 = .ok (.if_icmp .le 5, 3) := by decide +kernel
theorem dX5_judge_19 : decode cX5_judge 19 = .ok (.iconst 2, 1) := by decide +kernel
theorem dX5_judge_20 : decode cX5_judge 20 = .ok (.ireturn, 1) := by decide +kernel
theorem dX5_judge_21 : decode cX5_judge 21 = .ok (.aload_n 0, 1) := by decide +kernel
theorem dX5_judge_22 : decode cX5_judge 22 = .ok (.getfield 29, 3) := by decide +kernel
theorem dX5_judge_25 : decode cX5_judge 25 = .ok (.ifCond .eq 5, 3) := by decide +kernel
theorem dX5_judge_28 : decode cX5_judge 28 = .ok (.iconst 3, 1) := by decide +kernel
theorem dX5_judge_29 : decode cX5_judge 29 = .ok (.ireturn, 1) := by decide +kernel
theorem dX5_judge_30 : decode cX5_judge 30 = .ok (.aload_n 0, 1) := by decide +kernel
theorem dX5_judge_31 : decode cX5_judge 31 = .ok (.getfield 26, 3) := by decide +kernel
theorem dX5_judge_34 : decode cX5_judge 34 = .ok (.ifCond .ne 7, 3) := by decide +kernel
theorem dX5_judge_37 : decode cX5_judge 37 = .ok (.iconst 0, 1) := by decide +kernel
theorem dX5_judge_38 : decode cX5_judge 38 = .ok (.goto 4, 3) := by decide +kernel
theorem dX5_judge_41 : decode cX5_judge 41 = .ok (.iconst 4, 1) := by decide +kernel
theorem dX5_judge_42 : decode cX5_judge 42 = .ok (.ireturn, 1) := by decide +kernel
theorem dX5_isKept_0 : decode cX5_isKept 0 = .ok (.iload_n 1, 1) := by decide +kernel
theorem dX5_isKept_1 : decode cX5_isKept 1 = .ok (.ifCond .lt 21, 3) := by decide +kernel
theorem dX5_isKept_4 : decode cX5_isKept 4 = .ok (.iload_n 1, 1) := by decide +kernel
theorem dX5_isKept_5 : decode cX5_isKept 5 = .ok (.bipush 10, 2) := by decide +kernel
theorem dX5_isKept_7 : decode cX5_isKept 7 = .ok (.if_icmp .ge 15, 3) := by decide +kernel
theorem dX5_isKept_10 : decode cX5_isKept 10 = .ok (.iload_n 1, 1) := by decide +kernel
theorem dX5_isKept_11 : decode cX5_isKept 11 = .ok (.aload_n 0, 1) := by decide +kernel
theorem dX5_isKept_12 : decode cX5_isKept 12 = .ok (.getfield 18, 3) := by decide +kernel
theorem dX5_isKept_15 : decode cX5_isKept 15 = .ok (.if_icmp .ge 7, 3) := by decide +kernel
theorem dX5_isKept_18 : decode cX5_isKept 18 = .ok (.iconst 1, 1) := by decide +kernel
theorem dX5_isKept_19 : decode cX5_isKept 19 = .ok (.goto 4, 3) := by decide +kernel
theorem dX5_isKept_22 : decode cX5_isKept 22 = .ok (.iconst 0, 1) := by decide +kernel
theorem dX5_isKept_23 : decode cX5_isKept 23 = .ok (.ireturn, 1) := by decide +kernel
theorem dX5_placeOf_0 : decode cX5_placeOf 0 = .ok (.aload_n 0, 1) := by decide +kernel
theorem dX5_placeOf_1 : decode cX5_placeOf 1 = .ok (.getfield 18, 3) := by decide +kernel
theorem dX5_placeOf_4 : decode cX5_placeOf 4 = .ok (.iconst 1, 1) := by decide +kernel
theorem dX5_placeOf_5 : decode cX5_placeOf 5 = .ok (.isub, 1) := by decide +kernel
theorem dX5_placeOf_6 : decode cX5_placeOf 6 = .ok (.iload_n 1, 1) := by decide +kernel
theorem dX5_placeOf_7 : decode cX5_placeOf 7 = .ok (.isub, 1) := by decide +kernel
theorem dX5_placeOf_8 : decode cX5_placeOf 8 = .ok (.bipush 10, 2) := by decide +kernel
theorem dX5_placeOf_10 : decode cX5_placeOf 10 = .ok (.invokestatic 40, 3) := by decide +kernel
theorem dX5_placeOf_13 : decode cX5_placeOf 13 = .ok (.ireturn, 1) := by decide +kernel
theorem dX6_init_0 : decode cX6_init 0 = .ok (.aload_n 0, 1) := by decide +kernel
theorem dX6_init_1 : decode cX6_init 1 = .ok (.invokespecial 3, 3) := by decide +kernel
theorem dX6_init_4 : decode cX6_init 4 = .ok (.aload_n 0, 1) := by decide +kernel
theorem dX6_init_5 : decode cX6_init 5 = .ok (.new 9, 3) := by decide +kernel
theorem dX6_init_8 : decode cX6_init 8 = .ok (.dup, 1) := by decide +kernel
theorem dX6_init_9 : decode cX6_init 9 = .ok (.invokespecial 11, 3) := by decide +kernel
theorem dX6_init_12 : decode cX6_init 12 = .ok (.putfield 12, 3) := by decide +kernel
theorem dX6_init_15 : decode cX6_init 15 = .ok (.aload_n 0, 1) := by decide +kernel
theorem dX6_init_16 : decode cX6_init 16 = .ok (.lconst 0, 1) := by decide +kernel
theorem dX6_init_17 : decode cX6_init 17 = .ok (.putfield 18, 3) := by decide +kernel
theorem dX6_init_20 : decode cX6_init 20 = .ok (.aload_n 0, 1) := by decide +kernel
theorem dX6_init_21 : decode cX6_init 21 = .ok (.iconst 0, 1) := by decide +kernel
theorem dX6_init_22 : decode cX6_init 22 = .ok (.putfield 22, 3) := by decide +kernel
theorem dX6_init_25 : decode cX6_init 25 = .ok (.aload_n 0, 1) := by decide +kernel
theorem dX6_init_26 : decode cX6_init 26 = .ok (.iconst 1, 1) := by decide +kernel
theorem dX6_init_27 : decode cX6_init 27 = .ok (.putfield 26, 3) := by decide +kernel
theorem dX6_init_30 : decode cX6_init 30 = .ok (.aload_n 0, 1) := by decide +kernel
theorem dX6_init_31 : decode cX6_init 31 = .ok (.iconst 0, 1) := by decide +kernel
theorem dX6_init_32 : decode cX6_init 32 = .ok (.putfield 29, 3) := by decide +kernel
theorem dX6_init_35 : decode cX6_init 35 = .ok (.aload_n 0, 1) := by decide +kernel
theorem dX6_init_36 : decode cX6_init 36 = .ok (.iconst 0, 1) := by decide +kernel
theorem dX6_init_37 : decode cX6_init 37 = .ok (.putfield 33, 3) := by decide +kernel
theorem dX6_init_40 : decode cX6_init 40 = .ok (.aload_n 0, 1) := by decide +kernel
theorem dX6_init_41 : decode cX6_init 41 = .ok (.iconst 0, 1) := by decide +kernel
theorem dX6_init_42 : decode cX6_init 42 = .ok (.putfield 36, 3) := by decide +kernel
theorem dX6_init_45 : decode cX6_init 45 = .ok (.return_, 1) := by decide +kernel
theorem dX6_copyFrom_0 : decode cX6_copyFrom 0 = .ok (.iconst 0, 1) := by decide +kernel
theorem dX6_copyFrom_1 : decode cX6_copyFrom 1 = .ok (.istore_n 2, 1) := by decide +kernel
theorem dX6_copyFrom_2 : decode cX6_copyFrom 2 = .ok (.iload_n 2, 1) := by decide +kernel
theorem dX6_copyFrom_3 : decode cX6_copyFrom 3 = .ok (.aload_n 1, 1) := by decide +kernel
theorem dX6_copyFrom_4 : decode cX6_copyFrom 4 = .ok (.getfield 12, 3) := by decide +kernel
theorem dX6_copyFrom_7 : decode cX6_copyFrom 7 = .ok (.invokevirtual 39, 3) := by decide +kernel
theorem dX6_copyFrom_10 : decode cX6_copyFrom 10 = .ok (.if_icmp .ge 117, 3) := by decide +kernel
theorem dX6_copyFrom_13 : decode cX6_copyFrom 13 = .ok (.aload_n 1, 1) := by decide +kernel
theorem dX6_copyFrom_14 : decode cX6_copyFrom 14 = .ok (.getfield 12, 3) := by decide +kernel
theorem dX6_copyFrom_17 : decode cX6_copyFrom 17 = .ok (.iload_n 2, 1) := by decide +kernel
theorem dX6_copyFrom_18 : decode cX6_copyFrom 18 = .ok (.invokevirtual 43, 3) := by decide +kernel
theorem dX6_copyFrom_21 : decode cX6_copyFrom 21 = .ok (.checkcast 47, 3) := by decide +kernel
theorem dX6_copyFrom_24 : decode cX6_copyFrom 24 = .ok (.astore_n 3, 1) := by decide +kernel
theorem dX6_copyFrom_25 : decode cX6_copyFrom 25 = .ok (.iload_n 2, 1) := by decide +kernel
theorem dX6_copyFrom_26 : decode cX6_copyFrom 26 = .ok (.aload_n 0, 1) := by decide +kernel
theorem dX6_copyFrom_27 : decode cX6_copyFrom 27 = .ok (.getfield 12, 3) := by decide +kernel
theorem dX6_copyFrom_30 : decode cX6_copyFrom 30 = .ok (.invokevirtual 39, 3) := by decide +kernel
theorem dX6_copyFrom_33 : decode cX6_copyFrom 33 = .ok (.if_icmp .lt 38, 3) := by decide +kernel
theorem dX6_copyFrom_36 : decode cX6_copyFrom 36 = .ok (.aload_n 0, 1) := by decide +kernel
theorem dX6_copyFrom_37 : decode cX6_copyFrom 37 = .ok (.getfield 12, 3) := by decide +kernel
theorem dX6_copyFrom_40 : decode cX6_copyFrom 40 = .ok (.new 47, 3) := by decide +kernel
theorem dX6_copyFrom_43 : decode cX6_copyFrom 43 = .ok (.dup, 1) := by decide +kernel
theorem dX6_copyFrom_44 : decode cX6_copyFrom 44 = .ok (.aload_n 3, 1) := by decide +kernel
theorem dX6_copyFrom_45 : decode cX6_copyFrom 45 = .ok (.getfield 49, 3) := by decide +kernel
theorem dX6_copyFrom_48 : decode cX6_copyFrom 48 = .ok (.aload_n 3, 1) := by decide +kernel
theorem dX6_copyFrom_49 : decode cX6_copyFrom 49 = .ok (.getfield 52, 3) := by decide +kernel
theorem dX6_copyFrom_52 : decode cX6_copyFrom 52 = .ok (.aload_n 3, 1) := by decide +kernel
theorem dX6_copyFrom_53 : decode cX6_copyFrom 53 = .ok (.getfield 53, 3) := by decide +kernel
theorem dX6_copyFrom_56 : decode cX6_copyFrom 56 = .ok (.aload_n 3, 1) := by decide +kernel
theorem dX6_copyFrom_57 : decode cX6_copyFrom 57 = .ok (.getfield 54, 3) := by decide +kernel
theorem dX6_copyFrom_60 : decode cX6_copyFrom 60 = .ok (.aload_n 3, 1) := by decide +kernel
theorem dX6_copyFrom_61 : decode cX6_copyFrom 61 = .ok (.getfield 57, 3) := by decide +kernel
theorem dX6_copyFrom_64 : decode cX6_copyFrom 64 = .ok (.invokespecial 58, 3) := by decide +kernel
theorem dX6_copyFrom_67 : decode cX6_copyFrom 67 = .ok (.invokevirtual 61, 3) := by decide +kernel
theorem dX6_copyFrom_70 : decode cX6_copyFrom 70 = .ok (.pop, 1) := by decide +kernel
theorem dX6_copyFrom_71 : decode cX6_copyFrom 71 = .ok (.aload_n 0, 1) := by decide +kernel
theorem dX6_copyFrom_72 : decode cX6_copyFrom 72 = .ok (.getfield 12, 3) := by decide +kernel
theorem dX6_copyFrom_75 : decode cX6_copyFrom 75 = .ok (.iload_n 2, 1) := by decide +kernel
theorem dX6_copyFrom_76 : decode cX6_copyFrom 76 = .ok (.invokevirtual 43, 3) := by decide +kernel
theorem dX6_copyFrom_79 : decode cX6_copyFrom 79 = .ok (.checkcast 47, 3) := by decide +kernel
theorem dX6_copyFrom_82 : decode cX6_copyFrom 82 = .ok (.astore 4, 2) := by decide +kernel
theorem dX6_copyFrom_84 : decode cX6_copyFrom 84 = .ok (.aload 4, 2) := by decide +kernel
theorem dX6_copyFrom_86 : decode cX6_copyFrom 86 = .ok (.aload_n 3, 1) := by decide +kernel
theorem dX6_copyFrom_87 : decode cX6_copyFrom 87 = .ok (.getfield 65, 3) := by decide +kernel
theorem dX6_copyFrom_90 : decode cX6_copyFrom 90 = .ok (.aload_n 3, 1) := by decide +kernel
theorem dX6_copyFrom_91 : decode cX6_copyFrom 91 = .ok (.getfield 68, 3) := by decide +kernel
theorem dX6_copyFrom_94 : decode cX6_copyFrom 94 = .ok (.aload_n 3, 1) := by decide +kernel
theorem dX6_copyFrom_95 : decode cX6_copyFrom 95 = .ok (.getfield 71, 3) := by decide +kernel
theorem dX6_copyFrom_98 : decode cX6_copyFrom 98 = .ok (.invokevirtual 74, 3) := by decide +kernel
theorem dX6_copyFrom_101 : decode cX6_copyFrom 101 = .ok (.aload_n 3, 1) := by decide +kernel
theorem dX6_copyFrom_102 : decode cX6_copyFrom 102 = .ok (.getfield 57, 3) := by decide +kernel
theorem dX6_copyFrom_105 : decode cX6_copyFrom 105 = .ok (.ifCond .eq 16, 3) := by decide +kernel
theorem dX6_copyFrom_108 : decode cX6_copyFrom 108 = .ok (.aload 4, 2) := by decide +kernel
theorem dX6_copyFrom_110 : decode cX6_copyFrom 110 = .ok (.getfield 78, 3) := by decide +kernel
theorem dX6_copyFrom_113 : decode cX6_copyFrom 113 = .ok (.iconst 0, 1) := by decide +kernel
theorem dX6_copyFrom_114 : decode cX6_copyFrom 114 = .ok (.aload_n 3, 1) := by decide +kernel
theorem dX6_copyFrom_115 : decode cX6_copyFrom 115 = .ok (.getfield 78, 3) := by decide +kernel
theorem dX6_copyFrom_118 : decode cX6_copyFrom 118 = .ok (.iconst 0, 1) := by decide +kernel
theorem dX6_copyFrom_119 : decode cX6_copyFrom 119 = .ok (.iaload, 1) := by decide +kernel
theorem dX6_copyFrom_120 : decode cX6_copyFrom 120 = .ok (.iastore, 1) := by decide +kernel
theorem dX6_copyFrom_121 : decode cX6_copyFrom 121 = .ok (.iinc 2 1, 3) := by decide +kernel
theorem dX6_copyFrom_124 : decode cX6_copyFrom 124 = .ok (.goto (-122), 3) := by decide +kernel
theorem dX6_copyFrom_127 : decode cX6_copyFrom 127 = .ok (.return_, 1) := by decide +kernel
theorem dX6_append_0 : decode cX6_append 0 = .ok (.aload_n 0, 1) := by decide +kernel
theorem dX6_append_1 : decode cX6_append 1 = .ok (.getfield 12, 3) := by decide +kernel
theorem dX6_append_4 : decode cX6_append 4 = .ok (.aload_n 1, 1) := by decide +kernel
theorem dX6_append_5 : decode cX6_append 5 = .ok (.invokevirtual 61, 3) := by decide +kernel
theorem dX6_append_8 : decode cX6_append 8 = .ok (.pop, 1) := by decide +kernel
theorem dX6_append_9 : decode cX6_append 9 = .ok (.aload_n 0, 1) := by decide +kernel
theorem dX6_append_10 : decode cX6_append 10 = .ok (.getfield 12, 3) := by decide +kernel
theorem dX6_append_13 : decode cX6_append 13 = .ok (.invokevirtual 39, 3) := by decide +kernel
theorem dX6_append_16 : decode cX6_append 16 = .ok (.iconst 1, 1) := by decide +kernel
theorem dX6_append_17 : decode cX6_append 17 = .ok (.isub, 1) := by decide +kernel
theorem dX6_append_18 : decode cX6_append 18 = .ok (.ireturn, 1) := by decide +kernel
theorem dX6_countOf_0 : decode cX6_countOf 0 = .ok (.iconst 0, 1) := by decide +kernel
theorem dX6_countOf_1 : decode cX6_countOf 1 = .ok (.istore_n 3, 1) := by decide +kernel
theorem dX6_countOf_2 : decode cX6_countOf 2 = .ok (.iconst 0, 1) := by decide +kernel
theorem dX6_countOf_3 : decode cX6_countOf 3 = .ok (.istore 4, 2) := by decide +kernel
theorem dX6_countOf_5 : decode cX6_countOf 5 = .ok (.iload 4, 2) := by decide +kernel
theorem dX6_countOf_7 : decode cX6_countOf 7 = .ok (.aload_n 0, 1) := by decide +kernel
theorem dX6_countOf_8 : decode cX6_countOf 8 = .ok (.getfield 12, 3) := by decide +kernel
theorem dX6_countOf_11 : decode cX6_countOf 11 = .ok (.invokevirtual 39, 3) := by decide +kernel
theorem dX6_countOf_14 : decode cX6_countOf 14 = .ok (.if_icmp .ge 44, 3) := by decide +kernel
theorem dX6_countOf_17 : decode cX6_countOf 17 = .ok (.aload_n 0, 1) := by decide +kernel
theorem dX6_countOf_18 : decode cX6_countOf 18 = .ok (.getfield 12, 3) := by decide +kernel
theorem dX6_countOf_21 : decode cX6_countOf 21 = .ok (.iload 4, 2) := by decide +kernel
theorem dX6_countOf_23 : decode cX6_countOf 23 = .ok (.invokevirtual 43, 3) := by decide +kernel
theorem dX6_countOf_26 : decode cX6_countOf 26 = .ok (.checkcast 47, 3) := by decide +kernel
theorem dX6_countOf_29 : decode cX6_countOf 29 = .ok (.astore 5, 2) := by decide +kernel
theorem dX6_countOf_31 : decode cX6_countOf 31 = .ok (.aload 5, 2) := by decide +kernel
theorem dX6_countOf_33 : decode cX6_countOf 33 = .ok (.getfield 49, 3) := by decide +kernel
theorem dX6_countOf_36 : decode cX6_countOf 36 = .ok (.iload_n 1, 1) := by decide +kernel
theorem dX6_countOf_37 : decode cX6_countOf 37 = .ok (.if_icmp .ne 15, 3) := by decide +kernel
theorem dX6_countOf_40 : decode cX6_countOf 40 = .ok (.aload 5, 2) := by decide +kernel
theorem dX6_countOf_42 : decode cX6_countOf 42 = .ok (.getfield 65, 3) := by decide +kernel
theorem dX6_countOf_45 : decode cX6_countOf 45 = .ok (.iload_n 2, 1) := by decide +kernel
theorem dX6_countOf_46 : decode cX6_countOf 46 = .ok (.if_icmp .ne 6, 3) := by decide +kernel
theorem dX6_countOf_49 : decode cX6_countOf 49 = .ok (.iinc 3 1, 3) := by decide +kernel
theorem dX6_countOf_52 : decode cX6_countOf 52 = .ok (.iinc 4 1, 3) := by decide +kernel
theorem dX6_countOf_55 : decode cX6_countOf 55 = .ok (.goto (-50), 3) := by decide +kernel
theorem dX6_countOf_58 : decode cX6_countOf 58 = .ok (.iload_n 3, 1) := by decide +kernel
theorem dX6_countOf_59 : decode cX6_countOf 59 = .ok (.ireturn, 1) := by decide +kernel
theorem dX6_isMember_0 : decode cX6_isMember 0 = .ok (.aload_n 0, 1) := by decide +kernel
theorem dX6_isMember_1 : decode cX6_isMember 1 = .ok (.getfield 18, 3) := by decide +kernel
theorem dX6_isMember_4 : decode cX6_isMember 4 = .ok (.iload_n 1, 1) := by decide +kernel
theorem dX6_isMember_5 : decode cX6_isMember 5 = .ok (.lushr, 1) := by decide +kernel
theorem dX6_isMember_6 : decode cX6_isMember 6 = .ok (.lconst 1, 1) := by decide +kernel
theorem dX6_isMember_7 : decode cX6_isMember 7 = .ok (.land, 1) := by decide +kernel
theorem dX6_isMember_8 : decode cX6_isMember 8 = .ok (.lconst 1, 1) := by decide +kernel
theorem dX6_isMember_9 : decode cX6_isMember 9 = .ok (.lcmp, 1) := by decide +kernel
theorem dX6_isMember_10 : decode cX6_isMember 10 = .ok (.ifCond .ne 7, 3) := by decide +kernel
theorem dX6_isMember_13 : decode cX6_isMember 13 = .ok (.iconst 1, 1) := by decide +kernel
theorem dX6_isMember_14 : decode cX6_isMember 14 = .ok (.goto 4, 3) := by decide +kernel
theorem dX6_isMember_17 : decode cX6_isMember 17 = .ok (.iconst 0, 1) := by decide +kernel
theorem dX6_isMember_18 : decode cX6_isMember 18 = .ok (.ireturn, 1) := by decide +kernel
theorem dX6_width_0 : decode cX6_width 0 = .ok (.aload_n 0, 1) := by decide +kernel
theorem dX6_width_1 : decode cX6_width 1 = .ok (.getfield 36, 3) := by decide +kernel
theorem dX6_width_4 : decode cX6_width 4 = .ok (.aload_n 0, 1) := by decide +kernel
theorem dX6_width_5 : decode cX6_width 5 = .ok (.getfield 33, 3) := by decide +kernel
theorem dX6_width_8 : decode cX6_width 8 = .ok (.isub, 1) := by decide +kernel
theorem dX6_width_9 : decode cX6_width 9 = .ok (.ireturn, 1) := by decide +kernel
theorem dX6_openGroup_0 : decode cX6_openGroup 0 = .ok (.aload_n 0, 1) := by decide +kernel
theorem dX6_openGroup_1 : decode cX6_openGroup 1 = .ok (.lconst 0, 1) := by decide +kernel
theorem dX6_openGroup_2 : decode cX6_openGroup 2 = .ok (.putfield 18, 3) := by decide +kernel
theorem dX6_openGroup_5 : decode cX6_openGroup 5 = .ok (.iconst 0, 1) := by decide +kernel
theorem dX6_openGroup_6 : decode cX6_openGroup 6 = .ok (.istore_n 1, 1) := by decide +kernel
theorem dX6_openGroup_7 : decode cX6_openGroup 7 = .ok (.iload_n 1, 1) := by decide +kernel
theorem dX6_openGroup_8 : decode cX6_openGroup 8 = .ok (.aload_n 0, 1) := by decide +kernel
theorem dX6_openGroup_9 : decode cX6_openGroup 9 = .ok (.getfield 12, 3) := by decide +kernel
theorem dX6_openGroup_12 : decode cX6_openGroup 12 = .ok (.invokevirtual 39, 3) := by decide +kernel
theorem dX6_openGroup_15 : decode cX6_openGroup 15 = .ok (.if_icmp .ge 74, 3) := by decide +kernel
theorem dX6_openGroup_18 : decode cX6_openGroup 18 = .ok (.aload_n 0, 1) := by decide +kernel
theorem dX6_openGroup_19 : decode cX6_openGroup 19 = .ok (.getfield 12, 3) := by decide +kernel
theorem dX6_openGroup_22 : decode cX6_openGroup 22 = .ok (.iload_n 1, 1) := by decide +kernel
theorem dX6_openGroup_23 : decode cX6_openGroup 23 = .ok (.invokevirtual 43, 3) := by decide +kernel
theorem dX6_openGroup_26 : decode cX6_openGroup 26 = .ok (.checkcast 47, 3) := by decide +kernel
theorem dX6_openGroup_29 : decode cX6_openGroup 29 = .ok (.astore_n 2, 1) := by decide +kernel
theorem dX6_openGroup_30 : decode cX6_openGroup 30 = .ok (.aload_n 2, 1) := by decide +kernel
theorem dX6_openGroup_31 : decode cX6_openGroup 31 = .ok (.getfield 65, 3) := by decide +kernel
theorem dX6_openGroup_34 : decode cX6_openGroup 34 = .ok (.ifCond .ne 49, 3) := by decide +kernel
theorem dX6_openGroup_37 : decode cX6_openGroup 37 = .ok (.aload_n 0, 1) := by decide +kernel
theorem dX6_openGroup_38 : decode cX6_openGroup 38 = .ok (.lconst 1, 1) := by decide +kernel
theorem dX6_openGroup_39 : decode cX6_openGroup 39 = .ok (.iload_n 1, 1) := by decide +kernel
theorem dX6_openGroup_40 : decode cX6_openGroup 40 = .ok (.lshl, 1) := by decide +kernel
theorem dX6_openGroup_41 : decode cX6_openGroup 41 = .ok (.putfield 18, 3) := by decide +kernel
theorem dX6_openGroup_44 : decode cX6_openGroup 44 = .ok (.aload_n 0, 1) := by decide +kernel
theorem dX6_openGroup_45 : decode cX6_openGroup 45 = .ok (.iload_n 1, 1) := by decide +kernel
theorem dX6_openGroup_46 : decode cX6_openGroup 46 = .ok (.putfield 22, 3) := by decide +kernel
theorem dX6_openGroup_49 : decode cX6_openGroup 49 = .ok (.aload_n 0, 1) := by decide +kernel
theorem dX6_openGroup_50 : decode cX6_openGroup 50 = .ok (.aload_n 2, 1) := by decide +kernel
theorem dX6_openGroup_51 : decode cX6_openGroup 51 = .ok (.getfield 52, 3) := by decide +kernel
theorem dX6_openGroup_54 : decode cX6_openGroup 54 = .ok (.putfield 26, 3) := by decide +kernel
theorem dX6_openGroup_57 : decode cX6_openGroup 57 = .ok (.aload_n 0, 1) := by decide +kernel
theorem dX6_openGroup_58 : decode cX6_openGroup 58 = .ok (.aload_n 2, 1) := by decide +kernel
theorem dX6_openGroup_59 : decode cX6_openGroup 59 = .ok (.getfield 57, 3) := by decide +kernel
theorem dX6_openGroup_62 : decode cX6_openGroup 62 = .ok (.putfield 29, 3) := by decide +kernel
theorem dX6_openGroup_65 : decode cX6_openGroup 65 = .ok (.aload_n 0, 1) := by decide +kernel
theorem dX6_openGroup_66 : decode cX6_openGroup 66 = .ok (.aload_n 2, 1) := by decide +kernel
theorem dX6_openGroup_67 : decode cX6_openGroup 67 = .ok (.getfield 53, 3) := by decide +kernel
theorem dX6_openGroup_70 : decode cX6_openGroup 70 = .ok (.putfield 33, 3) := by decide +kernel
theorem dX6_openGroup_73 : decode cX6_openGroup 73 = .ok (.aload_n 0, 1) := by decide +kernel
theorem dX6_openGroup_74 : decode cX6_openGroup 74 = .ok (.aload_n 2, 1) := by decide +kernel
theorem dX6_openGroup_75 : decode cX6_openGroup 75 = .ok (.getfield 82, 3) := by decide +kernel
theorem dX6_openGroup_78 : decode cX6_openGroup 78 = .ok (.putfield 36, 3) := by decide +kernel
theorem dX6_openGroup_81 : decode cX6_openGroup 81 = .ok (.aload_n 2, 1) := by decide +kernel
theorem dX6_openGroup_82 : decode cX6_openGroup 82 = .ok (.areturn, 1) := by decide +kernel
theorem dX6_openGroup_83 : decode cX6_openGroup 83 = .ok (.iinc 1 1, 3) := by decide +kernel
theorem dX6_openGroup_86 : decode cX6_openGroup 86 = .ok (.goto (-79), 3) := by decide +kernel
theorem dX6_openGroup_89 : decode cX6_openGroup 89 = .ok (.aconst_null, 1) := by decide +kernel
theorem dX6_openGroup_90 : decode cX6_openGroup 90 = .ok (.areturn, 1) := by decide +kernel
theorem dX6_gather_0 : decode cX6_gather 0 = .ok (.aload_n 0, 1) := by decide +kernel
theorem dX6_gather_1 : decode cX6_gather 1 = .ok (.getfield 22, 3) := by decide +kernel
theorem dX6_gather_4 : decode cX6_gather 4 = .ok (.iconst 1, 1) := by decide +kernel
theorem dX6_gather_5 : decode cX6_gather 5 = .ok (.iadd, 1) := by decide +kernel
theorem dX6_gather_6 : decode cX6_gather 6 = .ok (.istore_n 1, 1) := by decide +kernel
theorem dX6_gather_7 : decode cX6_gather 7 = .ok (.iload_n 1, 1) := by decide +kernel
theorem dX6_gather_8 : decode cX6_gather 8 = .ok (.aload_n 0, 1) := by decide +kernel
theorem dX6_gather_9 : decode cX6_gather 9 = .ok (.getfield 12, 3) := by decide +kernel
theorem dX6_gather_12 : decode cX6_gather 12 = .ok (.invokevirtual 39, 3) := by decide +kernel
theorem dX6_gather_15 : decode cX6_gather 15 = .ok (.if_icmp .ge 80, 3) := by decide +kernel
theorem dX6_gather_18 : decode cX6_gather 18 = .ok (.aload_n 0, 1) := by decide +kernel
theorem dX6_gather_19 : decode cX6_gather 19 = .ok (.getfield 12, 3) := by decide +kernel
theorem dX6_gather_22 : decode cX6_gather 22 = .ok (.iload_n 1, 1) := by decide +kernel
theorem dX6_gather_23 : decode cX6_gather 23 = .ok (.invokevirtual 43, 3) := by decide +kernel
theorem dX6_gather_26 : decode cX6_gather 26 = .ok (.checkcast 47, 3) := by decide +kernel
theorem dX6_gather_29 : decode cX6_gather 29 = .ok (.astore_n 2, 1) := by decide +kernel
theorem dX6_gather_30 : decode cX6_gather 30 = .ok (.aload_n 0, 1) := by decide +kernel
theorem dX6_gather_31 : decode cX6_gather 31 = .ok (.aload_n 2, 1) := by decide +kernel
theorem dX6_gather_32 : decode cX6_gather 32 = .ok (.invokevirtual 83, 3) := by decide +kernel
theorem dX6_gather_35 : decode cX6_gather 35 = .ok (.ifCond .eq 54, 3) := by decide +kernel
theorem dX6_gather_38 : decode cX6_gather 38 = .ok (.aload_n 0, 1) := by decide +kernel
theorem dX6_gather_39 : decode cX6_gather 39 = .ok (.iload_n 1, 1) := by decide +kernel
theorem dX6_gather_40 : decode cX6_gather 40 = .ok (.aload_n 2, 1) := by decide +kernel
theorem dX6_gather_41 : decode cX6_gather 41 = .ok (.invokevirtual 87, 3) := by decide +kernel
theorem dX6_gather_44 : decode cX6_gather 44 = .ok (.ifCond .ne 45, 3) := by decide +kernel
theorem dX6_gather_47 : decode cX6_gather 47 = .ok (.aload_n 0, 1) := by decide +kernel
theorem dX6_gather_48 : decode cX6_gather 48 = .ok (.dup, 1) := by decide +kernel
theorem dX6_gather_49 : decode cX6_gather 49 = .ok (.getfield 18, 3) := by decide +kernel
theorem dX6_gather_52 : decode cX6_gather 52 = .ok (.lconst 1, 1) := by decide +kernel
theorem dX6_gather_53 : decode cX6_gather 53 = .ok (.iload_n 1, 1) := by decide +kernel
theorem dX6_gather_54 : decode cX6_gather 54 = .ok (.lshl, 1) := by decide +kernel
theorem dX6_gather_55 : decode cX6_gather 55 = .ok (.lor, 1) := by decide +kernel
theorem dX6_gather_56 : decode cX6_gather 56 = .ok (.putfield 18, 3) := by decide +kernel
theorem dX6_gather_59 : decode cX6_gather 59 = .ok (.aload_n 0, 1) := by decide +kernel
theorem dX6_gather_60 : decode cX6_gather 60 = .ok (.aload_n 0, 1) := by decide +kernel
theorem dX6_gather_61 : decode cX6_gather 61 = .ok (.getfield 33, 3) := by decide +kernel
theorem dX6_gather_64 : decode cX6_gather 64 = .ok (.aload_n 2, 1) := by decide +kernel
theorem dX6_gather_65 : decode cX6_gather 65 = .ok (.getfield 53, 3) := by decide +kernel
theorem dX6_gather_68 : decode cX6_gather 68 = .ok (.invokestatic 91, 3) := by decide +kernel
theorem dX6_gather_71 : decode cX6_gather 71 = .ok (.putfield 33, 3) := by decide +kernel
theorem dX6_gather_74 : decode cX6_gather 74 = .ok (.aload_n 0, 1) := by decide +kernel
theorem dX6_gather_75 : decode cX6_gather 75 = .ok (.aload_n 0, 1) := by decide +kernel
theorem dX6_gather_76 : decode cX6_gather 76 = .ok (.getfield 36, 3) := by decide +kernel
theorem dX6_gather_79 : decode cX6_gather 79 = .ok (.aload_n 2, 1) := by decide +kernel
theorem dX6_gather_80 : decode cX6_gather 80 = .ok (.getfield 82, 3) := by decide +kernel
theorem dX6_gather_83 : decode cX6_gather 83 = .ok (.invokestatic 97, 3) := by decide +kernel
theorem dX6_gather_86 : decode cX6_gather 86 = .ok (.putfield 36, 3) := by decide +kernel
theorem dX6_gather_89 : decode cX6_gather 89 = .ok (.iinc 1 1, 3) := by decide +kernel
theorem dX6_gather_92 : decode cX6_gather 92 = .ok (.goto (-85), 3) := by decide +kernel
theorem dX6_gather_95 : decode cX6_gather 95 = .ok (.return_, 1) := by decide +kernel
theorem dX6_fitsBeside_0 : decode cX6_fitsBeside 0 = .ok (.aload_n 1, 1) := by decide +kernel
theorem dX6_fitsBeside_1 : decode cX6_fitsBeside 1 = .ok (.getfield 65, 3) := by decide +kernel
theorem dX6_fitsBeside_4 : decode cX6_fitsBeside 4 = .ok (.ifCond .ne 25, 3) := by decide +kernel
theorem dX6_fitsBeside_7 : decode cX6_fitsBeside 7 = .ok (.aload_n 1, 1) := by decide +kernel
theorem dX6_fitsBeside_8 : decode cX6_fitsBeside 8 = .ok (.getfield 52, 3) := by decide +kernel
theorem dX6_fitsBeside_11 : decode cX6_fitsBeside 11 = .ok (.aload_n 0, 1) := by decide +kernel
theorem dX6_fitsBeside_12 : decode cX6_fitsBeside 12 = .ok (.getfield 26, 3) := by decide +kernel
theorem dX6_fitsBeside_15 : decode cX6_fitsBeside 15 = .ok (.if_icmp .ne 14, 3) := by decide +kernel
theorem dX6_fitsBeside_18 : decode cX6_fitsBeside 18 = .ok (.aload_n 1, 1) := by decide +kernel
theorem dX6_fitsBeside_19 : decode cX6_fitsBeside 19 = .ok (.getfield 57, 3) := by decide +kernel
theorem dX6_fitsBeside_22 : decode cX6_fitsBeside 22 = .ok (.aload_n 0, 1) := by decide +kernel
theorem dX6_fitsBeside_23 : decode cX6_fitsBeside 23 = .ok (.getfield 29, 3) := by decide +kernel
theorem dX6_fitsBeside_26 : decode cX6_fitsBeside 26 = .ok (.if_icmp .eq 5, 3) := by decide +kernel
theorem dX6_fitsBeside_29 : decode cX6_fitsBeside 29 = .ok (.iconst 0, 1) := by decide +kernel
theorem dX6_fitsBeside_30 : decode cX6_fitsBeside 30 = .ok (.ireturn, 1) := by decide +kernel
theorem dX6_fitsBeside_31 : decode cX6_fitsBeside 31 = .ok (.aload_n 1, 1) := by decide +kernel
theorem dX6_fitsBeside_32 : decode cX6_fitsBeside 32 = .ok (.getfield 53, 3) := by decide +kernel
theorem dX6_fitsBeside_35 : decode cX6_fitsBeside 35 = .ok (.aload_n 0, 1) := by decide +kernel
theorem dX6_fitsBeside_36 : decode cX6_fitsBeside 36 = .ok (.getfield 36, 3) := by decide +kernel
theorem dX6_fitsBeside_39 : decode cX6_fitsBeside 39 = .ok (.if_icmp .gt 14, 3) := by decide +kernel
theorem dX6_fitsBeside_42 : decode cX6_fitsBeside 42 = .ok (.aload_n 1, 1) := by decide +kernel
theorem dX6_fitsBeside_43 : decode cX6_fitsBeside 43 = .ok (.getfield 82, 3) := by decide +kernel
theorem dX6_fitsBeside_46 : decode cX6_fitsBeside 46 = .ok (.aload_n 0, 1) := by decide +kernel
theorem dX6_fitsBeside_47 : decode cX6_fitsBeside 47 = .ok (.getfield 33, 3) := by decide +kernel
theorem dX6_fitsBeside_50 : decode cX6_fitsBeside 50 = .ok (.if_icmp .ge 5, 3) := by decide +kernel
theorem dX6_fitsBeside_53 : decode cX6_fitsBeside 53 = .ok (.iconst 0, 1) := by decide +kernel
theorem dX6_fitsBeside_54 : decode cX6_fitsBeside 54 = .ok (.ireturn, 1) := by decide +kernel
theorem dX6_fitsBeside_55 : decode cX6_fitsBeside 55 = .ok (.aload_n 0, 1) := by decide +kernel
theorem dX6_fitsBeside_56 : decode cX6_fitsBeside 56 = .ok (.getfield 36, 3) := by decide +kernel
theorem dX6_fitsBeside_59 : decode cX6_fitsBeside 59 = .ok (.aload_n 1, 1) := by decide +kernel
theorem dX6_fitsBeside_60 : decode cX6_fitsBeside 60 = .ok (.getfield 82, 3) := by decide +kernel
theorem dX6_fitsBeside_63 : decode cX6_fitsBeside 63 = .ok (.invokestatic 97, 3) := by decide +kernel
theorem dX6_fitsBeside_66 : decode cX6_fitsBeside 66 = .ok (.aload_n 0, 1) := by decide +kernel
theorem dX6_fitsBeside_67 : decode cX6_fitsBeside 67 = .ok (.getfield 33, 3) := by decide +kernel
theorem dX6_fitsBeside_70 : decode cX6_fitsBeside 70 = .ok (.aload_n 1, 1) := by decide +kernel
theorem dX6_fitsBeside_71 : decode cX6_fitsBeside 71 = .ok (.getfield 53, 3) := by decide +kernel
theorem dX6_fitsBeside_74 : decode cX6_fitsBeside 74 = .ok (.invokestatic 91, 3) := by decide +kernel
theorem dX6_fitsBeside_77 : decode cX6_fitsBeside 77 = .ok (.isub, 1) := by decide +kernel
theorem dX6_fitsBeside_78 : decode cX6_fitsBeside 78 = .ok (.istore_n 2, 1) := by decide +kernel
theorem dX6_fitsBeside_79 : decode cX6_fitsBeside 79 = .ok (.iload_n 2, 1) := by decide +kernel
theorem dX6_fitsBeside_80 : decode cX6_fitsBeside 80 = .ok (.aload_n 0, 1) := by decide +kernel
theorem dX6_fitsBeside_81 : decode cX6_fitsBeside 81 = .ok (.getfield 29, 3) := by decide +kernel
theorem dX6_fitsBeside_84 : decode cX6_fitsBeside 84 = .ok (.ifCond .eq 8, 3) := by decide +kernel
theorem dX6_fitsBeside_87 : decode cX6_fitsBeside 87 = .ok (.bipush 8, 2) := by decide +kernel
theorem dX6_fitsBeside_89 : decode cX6_fitsBeside 89 = .ok (.goto 5, 3) := by decide +kernel
theorem dX6_fitsBeside_92 : decode cX6_fitsBeside 92 = .ok (.bipush 16, 2) := by decide +kernel
theorem dX6_fitsBeside_94 : decode cX6_fitsBeside 94 = .ok (.if_icmp .gt 7, 3) := by decide +kernel
theorem dX6_fitsBeside_97 : decode cX6_fitsBeside 97 = .ok (.iconst 1, 1) := by decide +kernel
theorem dX6_fitsBeside_98 : decode cX6_fitsBeside 98 = .ok (.goto 4, 3) := by decide +kernel
theorem dX6_fitsBeside_101 : decode cX6_fitsBeside 101 = .ok (.iconst 0, 1) := by decide +kernel
theorem dX6_fitsBeside_102 : decode cX6_fitsBeside 102 = .ok (.ireturn, 1) := by decide +kernel
theorem dX6_isBarred_0 : decode cX6_isBarred 0 = .ok (.iconst 0, 1) := by decide +kernel
theorem dX6_isBarred_1 : decode cX6_isBarred 1 = .ok (.istore_n 3, 1) := by decide +kernel
theorem dX6_isBarred_2 : decode cX6_isBarred 2 = .ok (.iload_n 3, 1) := by decide +kernel
theorem dX6_isBarred_3 : decode cX6_isBarred 3 = .ok (.iload_n 1, 1) := by decide +kernel
theorem dX6_isBarred_4 : decode cX6_isBarred 4 = .ok (.if_icmp .ge 76, 3) := by decide +kernel
theorem dX6_isBarred_7 : decode cX6_isBarred 7 = .ok (.aload_n 0, 1) := by decide +kernel
theorem dX6_isBarred_8 : decode cX6_isBarred 8 = .ok (.getfield 12, 3) := by decide +kernel
theorem dX6_isBarred_11 : decode cX6_isBarred 11 = .ok (.iload_n 3, 1) := by decide +kernel
theorem dX6_isBarred_12 : decode cX6_isBarred 12 = .ok (.invokevirtual 43, 3) := by decide +kernel
theorem dX6_isBarred_15 : decode cX6_isBarred 15 = .ok (.checkcast 47, 3) := by decide +kernel
theorem dX6_isBarred_18 : decode cX6_isBarred 18 = .ok (.astore 4, 2) := by decide +kernel
theorem dX6_isBarred_20 : decode cX6_isBarred 20 = .ok (.aload 4, 2) := by decide +kernel
theorem dX6_isBarred_22 : decode cX6_isBarred 22 = .ok (.getfield 65, 3) := by decide +kernel
theorem dX6_isBarred_25 : decode cX6_isBarred 25 = .ok (.ifCond .ne 49, 3) := by decide +kernel
theorem dX6_isBarred_28 : decode cX6_isBarred 28 = .ok (.aload 4, 2) := by decide +kernel
theorem dX6_isBarred_30 : decode cX6_isBarred 30 = .ok (.getfield 52, 3) := by decide +kernel
theorem dX6_isBarred_33 : decode cX6_isBarred 33 = .ok (.aload_n 0, 1) := by decide +kernel
theorem dX6_isBarred_34 : decode cX6_isBarred 34 = .ok (.getfield 26, 3) := by decide +kernel
theorem dX6_isBarred_37 : decode cX6_isBarred 37 = .ok (.if_icmp .ne 37, 3) := by decide +kernel
theorem dX6_isBarred_40 : decode cX6_isBarred 40 = .ok (.aload_n 0, 1) := by decide +kernel
theorem dX6_isBarred_41 : decode cX6_isBarred 41 = .ok (.iload_n 3, 1) := by decide +kernel
theorem dX6_isBarred_42 : decode cX6_isBarred 42 = .ok (.invokevirtual 100, 3) := by decide +kernel
theorem dX6_isBarred_45 : decode cX6_isBarred 45 = .ok (.ifCond .ne 29, 3) := by decide +kernel
theorem dX6_isBarred_48 : decode cX6_isBarred 48 = .ok (.aload 4, 2) := by decide +kernel
theorem dX6_isBarred_50 : decode cX6_isBarred 50 = .ok (.aload_n 2, 1) := by decide +kernel
theorem dX6_isBarred_51 : decode cX6_isBarred 51 = .ok (.invokevirtual 104, 3) := by decide +kernel
theorem dX6_isBarred_54 : decode cX6_isBarred 54 = .ok (.ifCond .eq 20, 3) := by decide +kernel
theorem dX6_isBarred_57 : decode cX6_isBarred 57 = .ok (.aload 4, 2) := by decide +kernel
theorem dX6_isBarred_59 : decode cX6_isBarred 59 = .ok (.getfield 57, 3) := by decide +kernel
theorem dX6_isBarred_62 : decode cX6_isBarred 62 = .ok (.ifCond .ne 10, 3) := by decide +kernel
theorem dX6_isBarred_65 : decode cX6_isBarred 65 = .ok (.aload_n 2, 1) := by decide +kernel
theorem dX6_isBarred_66 : decode cX6_isBarred 66 = .ok (.getfield 57, 3) := by decide +kernel
theorem dX6_isBarred_69 : decode cX6_isBarred 69 = .ok (.ifCond .eq 5, 3) := by decide +kernel
theorem dX6_isBarred_72 : decode cX6_isBarred 72 = .ok (.iconst 1, 1) := by decide +kernel
theorem dX6_isBarred_73 : decode cX6_isBarred 73 = .ok (.ireturn, 1) := by decide +kernel
theorem dX6_isBarred_74 : decode cX6_isBarred 74 = .ok (.iinc 3 1, 3) := by decide +kernel
theorem dX6_isBarred_77 : decode cX6_isBarred 77 = .ok (.goto (-75), 3) := by decide +kernel
theorem dX6_isBarred_80 : decode cX6_isBarred 80 = .ok (.iconst 0, 1) := by decide +kernel
theorem dX6_isBarred_81 : decode cX6_isBarred 81 = .ok (.ireturn, 1) := by decide +kernel
theorem dX6_valueToWrite_0 : decode cX6_valueToWrite 0 = .ok (.aload_n 0, 1) := by decide +kernel
theorem dX6_valueToWrite_1 : decode cX6_valueToWrite 1 = .ok (.getfield 12, 3) := by decide +kernel
theorem dX6_valueToWrite_4 : decode cX6_valueToWrite 4 = .ok (.invokevirtual 39, 3) := by decide +kernel
theorem dX6_valueToWrite_7 : decode cX6_valueToWrite 7 = .ok (.iconst 1, 1) := by decide +kernel
theorem dX6_valueToWrite_8 : decode cX6_valueToWrite 8 = .ok (.isub, 1) := by decide +kernel
theorem dX6_valueToWrite_9 : decode cX6_valueToWrite 9 = .ok (.istore_n 2, 1) := by decide +kernel
theorem dX6_valueToWrite_10 : decode cX6_valueToWrite 10 = .ok (.iload_n 2, 1) := by decide +kernel
theorem dX6_valueToWrite_11 : decode cX6_valueToWrite 11 = .ok (.aload_n 0, 1) := by decide +kernel
theorem dX6_valueToWrite_12 : decode cX6_valueToWrite 12 = .ok (.getfield 22, 3) := by decide +kernel
theorem dX6_valueToWrite_15 : decode cX6_valueToWrite 15 = .ok (.if_icmp .lt 44, 3) := by decide +kernel
theorem dX6_valueToWrite_18 : decode cX6_valueToWrite 18 = .ok (.aload_n 0, 1) := by decide +kernel
theorem dX6_valueToWrite_19 : decode cX6_valueToWrite 19 = .ok (.getfield 12, 3) := by decide +kernel
theorem dX6_valueToWrite_22 : decode cX6_valueToWrite 22 = .ok (.iload_n 2, 1) := by decide +kernel
theorem dX6_valueToWrite_23 : decode cX6_valueToWrite 23 = .ok (.invokevirtual 43, 3) := by decide +kernel
theorem dX6_valueToWrite_26 : decode cX6_valueToWrite 26 = .ok (.checkcast 47, 3) := by decide +kernel
theorem dX6_valueToWrite_29 : decode cX6_valueToWrite 29 = .ok (.astore_n 3, 1) := by decide +kernel
theorem dX6_valueToWrite_30 : decode cX6_valueToWrite 30 = .ok (.aload_n 0, 1) := by decide +kernel
theorem dX6_valueToWrite_31 : decode cX6_valueToWrite 31 = .ok (.iload_n 2, 1) := by decide +kernel
theorem dX6_valueToWrite_32 : decode cX6_valueToWrite 32 = .ok (.invokevirtual 100, 3) := by decide +kernel
theorem dX6_valueToWrite_35 : decode cX6_valueToWrite 35 = .ok (.ifCond .eq 18, 3) := by decide +kernel
theorem dX6_valueToWrite_38 : decode cX6_valueToWrite 38 = .ok (.aload_n 3, 1) := by decide +kernel
theorem dX6_valueToWrite_39 : decode cX6_valueToWrite 39 = .ok (.getfield 53, 3) := by decide +kernel
theorem dX6_valueToWrite_42 : decode cX6_valueToWrite 42 = .ok (.iload_n 1, 1) := by decide +kernel
theorem dX6_valueToWrite_43 : decode cX6_valueToWrite 43 = .ok (.if_icmp .ne 10, 3) := by decide +kernel
theorem dX6_valueToWrite_46 : decode cX6_valueToWrite 46 = .ok (.aload_n 3, 1) := by decide +kernel
theorem dX6_valueToWrite_47 : decode cX6_valueToWrite 47 = .ok (.getfield 78, 3) := by decide +kernel
theorem dX6_valueToWrite_50 : decode cX6_valueToWrite 50 = .ok (.iconst 0, 1) := by decide +kernel
theorem dX6_valueToWrite_51 : decode cX6_valueToWrite 51 = .ok (.iaload, 1) := by decide +kernel
theorem dX6_valueToWrite_52 : decode cX6_valueToWrite 52 = .ok (.ireturn, 1) := by decide +kernel
theorem dX6_valueToWrite_53 : decode cX6_valueToWrite 53 = .ok (.iinc 2 (-1), 3) := by decide +kernel
theorem dX6_valueToWrite_56 : decode cX6_valueToWrite 56 = .ok (.goto (-46), 3) := by decide +kernel
theorem dX6_valueToWrite_59 : decode cX6_valueToWrite 59 = .ok (.iconst 0, 1) := by decide +kernel
theorem dX6_valueToWrite_60 : decode cX6_valueToWrite 60 = .ok (.ireturn, 1) := by decide +kernel
theorem dX7_init_0 : decode cX7_init 0 = .ok (.aload_n 0, 1) := by decide +kernel
theorem dX7_init_1 : decode cX7_init 1 = .ok (.invokespecial 1, 3) := by decide +kernel
theorem dX7_init_4 : decode cX7_init 4 = .ok (.aload_n 0, 1) := by decide +kernel
theorem dX7_init_5 : decode cX7_init 5 = .ok (.new 7, 3) := by decide +kernel
theorem dX7_init_8 : decode cX7_init 8 = .ok (.dup, 1) := by decide +kernel
theorem dX7_init_9 : decode cX7_init 9 = .ok (.invokespecial 9, 3) := by decide +kernel
theorem dX7_init_12 : decode cX7_init 12 = .ok (.putfield 10, 3) := by decide +kernel
theorem dX7_init_15 : decode cX7_init 15 = .ok (.aload_n 0, 1) := by decide +kernel
theorem dX7_init_16 : decode cX7_init 16 = .ok (.iconst 0, 1) := by decide +kernel
theorem dX7_init_17 : decode cX7_init 17 = .ok (.putfield 16, 3) := by decide +kernel
theorem dX7_init_20 : decode cX7_init 20 = .ok (.aload_n 0, 1) := by decide +kernel
theorem dX7_init_21 : decode cX7_init 21 = .ok (.iconst 0, 1) := by decide +kernel
theorem dX7_init_22 : decode cX7_init 22 = .ok (.putfield 20, 3) := by decide +kernel
theorem dX7_init_25 : decode cX7_init 25 = .ok (.return_, 1) := by decide +kernel
theorem dX7_copyFrom_0 : decode cX7_copyFrom 0 = .ok (.aload_n 0, 1) := by decide +kernel
theorem dX7_copyFrom_1 : decode cX7_copyFrom 1 = .ok (.getfield 10, 3) := by decide +kernel
theorem dX7_copyFrom_4 : decode cX7_copyFrom 4 = .ok (.aload_n 1, 1) := by decide +kernel
theorem dX7_copyFrom_5 : decode cX7_copyFrom 5 = .ok (.getfield 10, 3) := by decide +kernel
theorem dX7_copyFrom_8 : decode cX7_copyFrom 8 = .ok (.invokevirtual 23, 3) := by decide +kernel
theorem dX7_copyFrom_11 : decode cX7_copyFrom 11 = .ok (.aload_n 0, 1) := by decide +kernel
theorem dX7_copyFrom_12 : decode cX7_copyFrom 12 = .ok (.aload_n 1, 1) := by decide +kernel
theorem dX7_copyFrom_13 : decode cX7_copyFrom 13 = .ok (.getfield 16, 3) := by decide +kernel
theorem dX7_copyFrom_16 : decode cX7_copyFrom 16 = .ok (.putfield 16, 3) := by decide +kernel
theorem dX7_copyFrom_19 : decode cX7_copyFrom 19 = .ok (.aload_n 0, 1) := by decide +kernel
theorem dX7_copyFrom_20 : decode cX7_copyFrom 20 = .ok (.aload_n 1, 1) := by decide +kernel
theorem dX7_copyFrom_21 : decode cX7_copyFrom 21 = .ok (.getfield 20, 3) := by decide +kernel
theorem dX7_copyFrom_24 : decode cX7_copyFrom 24 = .ok (.putfield 20, 3) := by decide +kernel
theorem dX7_copyFrom_27 : decode cX7_copyFrom 27 = .ok (.return_, 1) := by decide +kernel
theorem dX8_init_0 : decode cX8_init 0 = .ok (.aload_n 0, 1) := by decide +kernel
theorem dX8_init_1 : decode cX8_init 1 = .ok (.invokespecial 3, 3) := by decide +kernel
theorem dX8_init_4 : decode cX8_init 4 = .ok (.aload_n 0, 1) := by decide +kernel
theorem dX8_init_5 : decode cX8_init 5 = .ok (.iconst 0, 1) := by decide +kernel
theorem dX8_init_6 : decode cX8_init 6 = .ok (.putfield 9, 3) := by decide +kernel
theorem dX8_init_9 : decode cX8_init 9 = .ok (.aload_n 0, 1) := by decide +kernel
theorem dX8_init_10 : decode cX8_init 10 = .ok (.iconst 0, 1) := by decide +kernel
theorem dX8_init_11 : decode cX8_init 11 = .ok (.putfield 15, 3) := by decide +kernel
theorem dX8_init_14 : decode cX8_init 14 = .ok (.aload_n 0, 1) := by decide +kernel
theorem dX8_init_15 : decode cX8_init 15 = .ok (.iconst (-1), 1) := by decide +kernel
theorem dX8_init_16 : decode cX8_init 16 = .ok (.putfield 18, 3) := by decide +kernel
theorem dX8_init_19 : decode cX8_init 19 = .ok (.aload_n 0, 1) := by decide +kernel
theorem dX8_init_20 : decode cX8_init 20 = .ok (.iconst 0, 1) := by decide +kernel
theorem dX8_init_21 : decode cX8_init 21 = .ok (.putfield 21, 3) := by decide +kernel
theorem dX8_init_24 : decode cX8_init 24 = .ok (.aload_n 0, 1) := by decide +kernel
theorem dX8_init_25 : decode cX8_init 25 = .ok (.iload_n 1, 1) := by decide +kernel
theorem dX8_init_26 : decode cX8_init 26 = .ok (.putfield 25, 3) := by decide +kernel
theorem dX8_init_29 : decode cX8_init 29 = .ok (.aload_n 0, 1) := by decide +kernel
theorem dX8_init_30 : decode cX8_init 30 = .ok (.iload_n 2, 1) := by decide +kernel
theorem dX8_init_31 : decode cX8_init 31 = .ok (.putfield 28, 3) := by decide +kernel
theorem dX8_init_34 : decode cX8_init 34 = .ok (.aload_n 0, 1) := by decide +kernel
theorem dX8_init_35 : decode cX8_init 35 = .ok (.iload_n 3, 1) := by decide +kernel
theorem dX8_init_36 : decode cX8_init 36 = .ok (.putfield 31, 3) := by decide +kernel
theorem dX8_init_39 : decode cX8_init 39 = .ok (.aload_n 0, 1) := by decide +kernel
theorem dX8_init_40 : decode cX8_init 40 = .ok (.iload 4, 2) := by decide +kernel
theorem dX8_init_42 : decode cX8_init 42 = .ok (.putfield 34, 3) := by decide +kernel
theorem dX8_init_45 : decode cX8_init 45 = .ok (.aload_n 0, 1) := by decide +kernel
theorem dX8_init_46 : decode cX8_init 46 = .ok (.iload_n 3, 1) := by decide +kernel
theorem dX8_init_47 : decode cX8_init 47 = .ok (.iload 4, 2) := by decide +kernel
theorem dX8_init_49 : decode cX8_init 49 = .ok (.iadd, 1) := by decide +kernel
theorem dX8_init_50 : decode cX8_init 50 = .ok (.putfield 37, 3) := by decide +kernel
theorem dX8_init_53 : decode cX8_init 53 = .ok (.aload_n 0, 1) := by decide +kernel
theorem dX8_init_54 : decode cX8_init 54 = .ok (.iload 5, 2) := by decide +kernel
theorem dX8_init_56 : decode cX8_init 56 = .ok (.putfield 40, 3) := by decide +kernel
theorem dX8_init_59 : decode cX8_init 59 = .ok (.aload_n 0, 1) := by decide +kernel
theorem dX8_init_60 : decode cX8_init 60 = .ok (.iconst 1, 1) := by decide +kernel
theorem dX8_init_61 : decode cX8_init 61 = .ok (.iload 4, 2) := by decide +kernel
theorem dX8_init_63 : decode cX8_init 63 = .ok (.bipush 16, 2) := by decide +kernel
theorem dX8_init_65 : decode cX8_init 65 = .ok (.invokestatic 43, 3) := by decide +kernel
theorem dX8_init_68 : decode cX8_init 68 = .ok (.invokestatic 49, 3) := by decide +kernel
theorem dX8_init_71 : decode cX8_init 71 = .ok (.newarray .int, 2) := by decide +kernel
theorem dX8_init_73 : decode cX8_init 73 = .ok (.putfield 52, 3) := by decide +kernel
theorem dX8_init_76 : decode cX8_init 76 = .ok (.return_, 1) := by decide +kernel
theorem dX8_isReadDone_0 : decode cX8_isReadDone 0 = .ok (.aload_n 0, 1) := by decide +kernel
theorem dX8_isReadDone_1 : decode cX8_isReadDone 1 = .ok (.getfield 40, 3) := by decide +kernel
theorem dX8_isReadDone_4 : decode cX8_isReadDone 4 = .ok (.ifCond .ne 15, 3) := by decide +kernel
theorem dX8_isReadDone_7 : decode cX8_isReadDone 7 = .ok (.aload_n 0, 1) := by decide +kernel
theorem dX8_isReadDone_8 : decode cX8_isReadDone 8 = .ok (.getfield 9, 3) := by decide +kernel
theorem dX8_isReadDone_11 : decode cX8_isReadDone 11 = .ok (.iconst 1, 1) := by decide +kernel
theorem dX8_isReadDone_12 : decode cX8_isReadDone 12 = .ok (.if_icmp .ne 7, 3) := by decide +kernel
theorem dX8_isReadDone_15 : decode cX8_isReadDone 15 = .ok (.iconst 1, 1) := by decide +kernel
theorem dX8_isReadDone_16 : decode cX8_isReadDone 16 = .ok (.goto 4, 3) := by decide +kernel
theorem dX8_isReadDone_19 : decode cX8_isReadDone 19 = .ok (.iconst 0, 1) := by decide +kernel
theorem dX8_isReadDone_20 : decode cX8_isReadDone 20 = .ok (.ireturn, 1) := by decide +kernel
theorem dX8_overlaps_0 : decode cX8_overlaps 0 = .ok (.aload_n 0, 1) := by decide +kernel
theorem dX8_overlaps_1 : decode cX8_overlaps 1 = .ok (.getfield 31, 3) := by decide +kernel
theorem dX8_overlaps_4 : decode cX8_overlaps 4 = .ok (.aload_n 1, 1) := by decide +kernel
theorem dX8_overlaps_5 : decode cX8_overlaps 5 = .ok (.getfield 37, 3) := by decide +kernel
theorem dX8_overlaps_8 : decode cX8_overlaps 8 = .ok (.if_icmp .ge 18, 3) := by decide +kernel
theorem dX8_overlaps_11 : decode cX8_overlaps 11 = .ok (.aload_n 1, 1) := by decide +kernel
theorem dX8_overlaps_12 : decode cX8_overlaps 12 = .ok (.getfield 31, 3) := by decide +kernel
theorem dX8_overlaps_15 : decode cX8_overlaps 15 = .ok (.aload_n 0, 1) := by decide +kernel
theorem dX8_overlaps_16 : decode cX8_overlaps 16 = .ok (.getfield 37, 3) := by decide +kernel
theorem dX8_overlaps_19 : decode cX8_overlaps 19 = .ok (.if_icmp .ge 7, 3) := by decide +kernel
theorem dX8_overlaps_22 : decode cX8_overlaps 22 = .ok (.iconst 1, 1) := by decide +kernel
theorem dX8_overlaps_23 : decode cX8_overlaps 23 = .ok (.goto 4, 3) := by decide +kernel
theorem dX8_overlaps_26 : decode cX8_overlaps 26 = .ok (.iconst 0, 1) := by decide +kernel
theorem dX8_overlaps_27 : decode cX8_overlaps 27 = .ok (.ireturn, 1) := by decide +kernel
theorem dX8_settle_0 : decode cX8_settle 0 = .ok (.aload_n 0, 1) := by decide +kernel
theorem dX8_settle_1 : decode cX8_settle 1 = .ok (.iload_n 1, 1) := by decide +kernel
theorem dX8_settle_2 : decode cX8_settle 2 = .ok (.putfield 9, 3) := by decide +kernel
theorem dX8_settle_5 : decode cX8_settle 5 = .ok (.aload_n 0, 1) := by decide +kernel
theorem dX8_settle_6 : decode cX8_settle 6 = .ok (.iload_n 2, 1) := by decide +kernel
theorem dX8_settle_7 : decode cX8_settle 7 = .ok (.putfield 15, 3) := by decide +kernel
theorem dX8_settle_10 : decode cX8_settle 10 = .ok (.aload_n 0, 1) := by decide +kernel
theorem dX8_settle_11 : decode cX8_settle 11 = .ok (.iload_n 3, 1) := by decide +kernel
theorem dX8_settle_12 : decode cX8_settle 12 = .ok (.putfield 18, 3) := by decide +kernel
theorem dX8_settle_15 : decode cX8_settle 15 = .ok (.return_, 1) := by decide +kernel
theorem dX8_takeValues_0 : decode cX8_takeValues 0 = .ok (.iconst 0, 1) := by decide +kernel
theorem dX8_takeValues_1 : decode cX8_takeValues 1 = .ok (.istore_n 3, 1) := by decide +kernel
theorem dX8_takeValues_2 : decode cX8_takeValues 2 = .ok (.iload_n 3, 1) := by decide +kernel
theorem dX8_takeValues_3 : decode cX8_takeValues 3 = .ok (.aload_n 0, 1) := by decide +kernel
theorem dX8_takeValues_4 : decode cX8_takeValues 4 = .ok (.getfield 34, 3) := by decide +kernel
theorem dX8_takeValues_7 : decode cX8_takeValues 7 = .ok (.if_icmp .ge 22, 3) := by decide +kernel
theorem dX8_takeValues_10 : decode cX8_takeValues 10 = .ok (.aload_n 0, 1) := by decide +kernel
theorem dX8_takeValues_11 : decode cX8_takeValues 11 = .ok (.getfield 52, 3) := by decide +kernel
theorem dX8_takeValues_14 : decode cX8_takeValues 14 = .ok (.iload_n 3, 1) := by decide +kernel
theorem dX8_takeValues_15 : decode cX8_takeValues 15 = .ok (.aload_n 1, 1) := by decide +kernel
theorem dX8_takeValues_16 : decode cX8_takeValues 16 = .ok (.iload_n 2, 1) := by decide +kernel
theorem dX8_takeValues_17 : decode cX8_takeValues 17 = .ok (.iload_n 3, 1) := by decide +kernel
theorem dX8_takeValues_18 : decode cX8_takeValues 18 = .ok (.iadd, 1) := by decide +kernel
theorem dX8_takeValues_19 : decode cX8_takeValues 19 = .ok (.invokevirtual 56, 3) := by decide +kernel
theorem dX8_takeValues_22 : decode cX8_takeValues 22 = .ok (.iastore, 1) := by decide +kernel
theorem dX8_takeValues_23 : decode cX8_takeValues 23 = .ok (.iinc 3 1, 3) := by decide +kernel
theorem dX8_takeValues_26 : decode cX8_takeValues 26 = .ok (.goto (-24), 3) := by decide +kernel
theorem dX8_takeValues_29 : decode cX8_takeValues 29 = .ok (.return_, 1) := by decide +kernel
theorem dX9_init_0 : decode cX9_init 0 = .ok (.aload_n 0, 1) := by decide +kernel
theorem dX9_init_1 : decode cX9_init 1 = .ok (.invokespecial 1, 3) := by decide +kernel
theorem dX9_init_4 : decode cX9_init 4 = .ok (.aload_n 0, 1) := by decide +kernel
theorem dX9_init_5 : decode cX9_init 5 = .ok (.new 7, 3) := by decide +kernel
theorem dX9_init_8 : decode cX9_init 8 = .ok (.dup, 1) := by decide +kernel
theorem dX9_init_9 : decode cX9_init 9 = .ok (.invokespecial 9, 3) := by decide +kernel
theorem dX9_init_12 : decode cX9_init 12 = .ok (.putfield 10, 3) := by decide +kernel
theorem dX9_init_15 : decode cX9_init 15 = .ok (.aload_n 0, 1) := by decide +kernel
theorem dX9_init_16 : decode cX9_init 16 = .ok (.new 16, 3) := by decide +kernel
theorem dX9_init_19 : decode cX9_init 19 = .ok (.dup, 1) := by decide +kernel
theorem dX9_init_20 : decode cX9_init 20 = .ok (.invokespecial 18, 3) := by decide +kernel
theorem dX9_init_23 : decode cX9_init 23 = .ok (.putfield 19, 3) := by decide +kernel
theorem dX9_init_26 : decode cX9_init 26 = .ok (.return_, 1) := by decide +kernel
theorem dX9_set_0 : decode cX9_set 0 = .ok (.iload_n 1, 1) := by decide +kernel
theorem dX9_set_1 : decode cX9_set 1 = .ok (.ifCond .lt 8, 3) := by decide +kernel
theorem dX9_set_4 : decode cX9_set 4 = .ok (.iload_n 1, 1) := by decide +kernel
theorem dX9_set_5 : decode cX9_set 5 = .ok (.iconst 5, 1) := by decide +kernel
theorem dX9_set_6 : decode cX9_set 6 = .ok (.if_icmp .lt 13, 3) := by decide +kernel
theorem dX9_set_9 : decode cX9_set 9 = .ok (.new 23, 3) := by decide +kernel
theorem dX9_set_12 : decode cX9_set 12 = .ok (.dup, 1) := by decide +kernel
theorem dX9_set_13 : decode cX9_set 13 = .ok (.ldc 25, 2) := by decide +kernel
theorem dX9_set_15 : decode cX9_set 15 = .ok (.invokespecial 27, 3) := by decide +kernel
theorem dX9_set_18 : decode cX9_set 18 = .ok (.athrow, 1) := by decide +kernel
theorem dX9_set_19 : decode cX9_set 19 = .ok (.iload_n 2, 1) := by decide +kernel
theorem dX9_set_20 : decode cX9_set 20 = .ok (.getstatic 30, 3) := by decide +kernel
theorem dX9_set_23 : decode cX9_set 23 = .ok (.iload_n 1, 1) := by decide +kernel
theorem dX9_set_24 : decode cX9_set 24 = .ok (.iaload, 1) := by decide +kernel
theorem dX9_set_25 : decode cX9_set 25 = .ok (.getstatic 34, 3) := by decide +kernel
theorem dX9_set_28 : decode cX9_set 28 = .ok (.iload_n 1, 1) := by decide +kernel
theorem dX9_set_29 : decode cX9_set 29 = .ok (.iaload, 1) := by decide +kernel
theorem dX9_set_30 : decode cX9_set 30 = .ok (.invokestatic 37, 3) := by decide +kernel
theorem dX9_set_33 : decode cX9_set 33 = .ok (.aload_n 0, 1) := by decide +kernel
theorem dX9_set_34 : decode cX9_set 34 = .ok (.getfield 10, 3) := by decide +kernel
theorem dX9_set_37 : decode cX9_set 37 = .ok (.getfield 41, 3) := by decide +kernel
theorem dX9_set_40 : decode cX9_set 40 = .ok (.iload_n 1, 1) := by decide +kernel
theorem dX9_set_41 : decode cX9_set 41 = .ok (.iaload, 1) := by decide +kernel
theorem dX9_set_42 : decode cX9_set 42 = .ok (.istore_n 3, 1) := by decide +kernel
theorem dX9_set_43 : decode cX9_set 43 = .ok (.aload_n 0, 1) := by decide +kernel
theorem dX9_set_44 : decode cX9_set 44 = .ok (.getfield 10, 3) := by decide +kernel
theorem dX9_set_47 : decode cX9_set 47 = .ok (.getfield 41, 3) := by decide +kernel
theorem dX9_set_50 : decode cX9_set 50 = .ok (.iload_n 1, 1) := by decide +kernel
theorem dX9_set_51 : decode cX9_set 51 = .ok (.iload_n 2, 1) := by decide +kernel
theorem dX9_set_52 : decode cX9_set 52 = .ok (.iastore, 1) := by decide +kernel
theorem dX9_set_53 : decode cX9_set 53 = .ok (.iload_n 3, 1) := by decide +kernel
theorem dX9_set_54 : decode cX9_set 54 = .ok (.ireturn, 1) := by decide +kernel
theorem dX9_setDevice_0 : decode cX9_setDevice 0 = .ok (.iload_n 1, 1) := by decide +kernel
theorem dX9_setDevice_1 : decode cX9_setDevice 1 = .ok (.invokestatic 44, 3) := by decide +kernel
theorem dX9_setDevice_4 : decode cX9_setDevice 4 = .ok (.iload_n 2, 1) := by decide +kernel
theorem dX9_setDevice_5 : decode cX9_setDevice 5 = .ok (.ifCond .lt 8, 3) := by decide +kernel
theorem dX9_setDevice_8 : decode cX9_setDevice 8 = .ok (.iload_n 2, 1) := by decide +kernel
theorem dX9_setDevice_9 : decode cX9_setDevice 9 = .ok (.iconst 1, 1) := by decide +kernel
theorem dX9_setDevice_10 : decode cX9_setDevice 10 = .ok (.if_icmp .le 13, 3) := by decide +kernel
theorem dX9_setDevice_13 : decode cX9_setDevice 13 = .ok (.new 23, 3) := by decide +kernel
theorem dX9_setDevice_16 : decode cX9_setDevice 16 = .ok (.dup, 1) := by decide +kernel
theorem dX9_setDevice_17 : decode cX9_setDevice 17 = .ok (.ldc 48, 2) := by decide +kernel
theorem dX9_setDevice_19 : decode cX9_setDevice 19 = .ok (.invokespecial 27, 3) := by decide +kernel
theorem dX9_setDevice_22 : decode cX9_setDevice 22 = .ok (.athrow, 1) := by decide +kernel
theorem dX9_setDevice_23 : decode cX9_setDevice 23 = .ok (.iload_n 3, 1) := by decide +kernel
theorem dX9_setDevice_24 : decode cX9_setDevice 24 = .ok (.iconst 0, 1) := by decide +kernel
theorem dX9_setDevice_25 : decode cX9_setDevice 25 = .ok (.iload_n 2, 1) := by decide +kernel
theorem dX9_setDevice_26 : decode cX9_setDevice 26 = .ok (.ifCond .ne 9, 3) := by decide +kernel
theorem dX9_setDevice_29 : decode cX9_setDevice 29 = .ok (.sipush 1000, 3) := by decide +kernel
theorem dX9_setDevice_32 : decode cX9_setDevice 32 = .ok (.goto 5, 3) := by decide +kernel
theorem dX9_setDevice_35 : decode cX9_setDevice 35 = .ok (.ldc 50, 2) := by decide +kernel
theorem dX9_setDevice_37 : decode cX9_setDevice 37 = .ok (.invokestatic 37, 3) := by decide +kernel
theorem dX9_setDevice_40 : decode cX9_setDevice 40 = .ok (.aload_n 0, 1) := by decide +kernel
theorem dX9_setDevice_41 : decode cX9_setDevice 41 = .ok (.getfield 10, 3) := by decide +kernel
theorem dX9_setDevice_44 : decode cX9_setDevice 44 = .ok (.getfield 51, 3) := by decide +kernel
theorem dX9_setDevice_47 : decode cX9_setDevice 47 = .ok (.iload_n 1, 1) := by decide +kernel
theorem dX9_setDevice_48 : decode cX9_setDevice 48 = .ok (.iconst 1, 1) := by decide +kernel
theorem dX9_setDevice_49 : decode cX9_setDevice 49 = .ok (.isub, 1) := by decide +kernel
theorem dX9_setDevice_50 : decode cX9_setDevice 50 = .ok (.aaload, 1) := by decide +kernel
theorem dX9_setDevice_51 : decode cX9_setDevice 51 = .ok (.astore 4, 2) := by decide +kernel
theorem dX9_setDevice_53 : decode cX9_setDevice 53 = .ok (.iload_n 2, 1) := by decide +kernel
theorem dX9_setDevice_54 : decode cX9_setDevice 54 = .ok (.ifCond .ne 11, 3) := by decide +kernel
theorem dX9_setDevice_57 : decode cX9_setDevice 57 = .ok (.aload 4, 2) := by decide +kernel
theorem dX9_setDevice_59 : decode cX9_setDevice 59 = .ok (.getfield 55, 3) := by decide +kernel
theorem dX9_setDevice_62 : decode cX9_setDevice 62 = .ok (.goto 8, 3) := by decide +kernel
theorem dX9_setDevice_65 : decode cX9_setDevice 65 = .ok (.aload 4, 2) := by decide +kernel
theorem dX9_setDevice_67 : decode cX9_setDevice 67 = .ok (.getfield 61, 3) := by decide +kernel
theorem dX9_setDevice_70 : decode cX9_setDevice 70 = .ok (.istore 5, 2) := by decide +kernel
theorem dX9_setDevice_72 : decode cX9_setDevice 72 = .ok (.iload_n 2, 1) := by decide +kernel
theorem dX9_setDevice_73 : decode cX9_setDevice 73 = .ok (.ifCond .ne 12, 3) := by decide +kernel
theorem dX9_setDevice_76 : decode cX9_setDevice 76 = .ok (.aload 4, 2) := by decide +kernel
theorem dX9_setDevice_78 : decode cX9_setDevice 78 = .ok (.iload_n 3, 1) := by decide +kernel
theorem dX9_setDevice_79 : decode cX9_setDevice 79 = .ok (.putfield 55, 3) := by decide +kernel
theorem dX9_setDevice_82 : decode cX9_setDevice 82 = .ok (.goto 9, 3) := by decide +kernel
theorem dX9_setDevice_85 : decode cX9_setDevice 85 = .ok (.aload 4, 2) := by decide +kernel
theorem dX9_setDevice_87 : decode cX9_setDevice 87 = .ok (.iload_n 3, 1) := by decide +kernel
theorem dX9_setDevice_88 : decode cX9_setDevice 88 = .ok (.putfield 61, 3) := by decide +kernel
theorem dX9_setDevice_91 : decode cX9_setDevice 91 = .ok (.iload 5, 2) := by decide +kernel
theorem dX9_setDevice_93 : decode cX9_setDevice 93 = .ok (.ireturn, 1) := by decide +kernel
theorem dX9_poke_0 : decode cX9_poke 0 = .ok (.iload_n 1, 1) := by decide +kernel
theorem dX9_poke_1 : decode cX9_poke 1 = .ok (.iload_n 2, 1) := by decide +kernel
theorem dX9_poke_2 : decode cX9_poke 2 = .ok (.invokestatic 64, 3) := by decide +kernel
theorem dX9_poke_5 : decode cX9_poke 5 = .ok (.iload_n 3, 1) := by decide +kernel
theorem dX9_poke_6 : decode cX9_poke 6 = .ok (.iconst 0, 1) := by decide +kernel
theorem dX9_poke_7 : decode cX9_poke 7 = .ok (.ldc 50, 2) := by decide +kernel
theorem dX9_poke_9 : decode cX9_poke 9 = .ok (.invokestatic 37, 3) := by decide +kernel
theorem dX9_poke_12 : decode cX9_poke 12 = .ok (.aload_n 0, 1) := by decide +kernel
theorem dX9_poke_13 : decode cX9_poke 13 = .ok (.getfield 10, 3) := by decide +kernel
theorem dX9_poke_16 : decode cX9_poke 16 = .ok (.getfield 51, 3) := by decide +kernel
theorem dX9_poke_19 : decode cX9_poke 19 = .ok (.iload_n 1, 1) := by decide +kernel
theorem dX9_poke_20 : decode cX9_poke 20 = .ok (.iconst 1, 1) := by decide +kernel
theorem dX9_poke_21 : decode cX9_poke 21 = .ok (.isub, 1) := by decide +kernel
theorem dX9_poke_22 : decode cX9_poke 22 = .ok (.aaload, 1) := by decide +kernel
theorem dX9_poke_23 : decode cX9_poke 23 = .ok (.getfield 68, 3) := by decide +kernel
theorem dX9_poke_26 : decode cX9_poke 26 = .ok (.astore 4, 2) := by decide +kernel
theorem dX9_poke_28 : decode cX9_poke 28 = .ok (.aload 4, 2) := by decide +kernel
theorem dX9_poke_30 : decode cX9_poke 30 = .ok (.iload_n 2, 1) := by decide +kernel
theorem dX9_poke_31 : decode cX9_poke 31 = .ok (.iaload, 1) := by decide +kernel
theorem dX9_poke_32 : decode cX9_poke 32 = .ok (.istore 5, 2) := by decide +kernel
theorem dX9_poke_34 : decode cX9_poke 34 = .ok (.aload 4, 2) := by decide +kernel
theorem dX9_poke_36 : decode cX9_poke 36 = .ok (.iload_n 2, 1) := by decide +kernel
theorem dX9_poke_37 : decode cX9_poke 37 = .ok (.iload_n 3, 1) := by decide +kernel
theorem dX9_poke_38 : decode cX9_poke 38 = .ok (.iastore, 1) := by decide +kernel
theorem dX9_poke_39 : decode cX9_poke 39 = .ok (.iload 5, 2) := by decide +kernel
theorem dX9_poke_41 : decode cX9_poke 41 = .ok (.ireturn, 1) := by decide +kernel
theorem dX9_peek_0 : decode cX9_peek 0 = .ok (.iload_n 1, 1) := by decide +kernel
theorem dX9_peek_1 : decode cX9_peek 1 = .ok (.iload_n 2, 1) := by decide +kernel
theorem dX9_peek_2 : decode cX9_peek 2 = .ok (.invokestatic 64, 3) := by decide +kernel
theorem dX9_peek_5 : decode cX9_peek 5 = .ok (.aload_n 0, 1) := by decide +kernel
theorem dX9_peek_6 : decode cX9_peek 6 = .ok (.getfield 10, 3) := by decide +kernel
theorem dX9_peek_9 : decode cX9_peek 9 = .ok (.getfield 51, 3) := by decide +kernel
theorem dX9_peek_12 : decode cX9_peek 12 = .ok (.iload_n 1, 1) := by decide +kernel
theorem dX9_peek_13 : decode cX9_peek 13 = .ok (.iconst 1, 1) := by decide +kernel
theorem dX9_peek_14 : decode cX9_peek 14 = .ok (.isub, 1) := by decide +kernel
theorem dX9_peek_15 : decode cX9_peek 15 = .ok (.aaload, 1) := by decide +kernel
theorem dX9_peek_16 : decode cX9_peek 16 = .ok (.getfield 68, 3) := by decide +kernel
theorem dX9_peek_19 : decode cX9_peek 19 = .ok (.iload_n 2, 1) := by decide +kernel
theorem dX9_peek_20 : decode cX9_peek 20 = .ok (.iaload, 1) := by decide +kernel
theorem dX9_peek_21 : decode cX9_peek 21 = .ok (.ireturn, 1) := by decide +kernel
theorem dX9_protect_0 : decode cX9_protect 0 = .ok (.iload_n 1, 1) := by decide +kernel
theorem dX9_protect_1 : decode cX9_protect 1 = .ok (.iload_n 2, 1) := by decide +kernel
theorem dX9_protect_2 : decode cX9_protect 2 = .ok (.invokestatic 64, 3) := by decide +kernel
theorem dX9_protect_5 : decode cX9_protect 5 = .ok (.aload_n 0, 1) := by decide +kernel
theorem dX9_protect_6 : decode cX9_protect 6 = .ok (.getfield 10, 3) := by decide +kernel
theorem dX9_protect_9 : decode cX9_protect 9 = .ok (.getfield 51, 3) := by decide +kernel
theorem dX9_protect_12 : decode cX9_protect 12 = .ok (.iload_n 1, 1) := by decide +kernel
theorem dX9_protect_13 : decode cX9_protect 13 = .ok (.iconst 1, 1) := by decide +kernel
theorem dX9_protect_14 : decode cX9_protect 14 = .ok (.isub, 1) := by decide +kernel
theorem dX9_protect_15 : decode cX9_protect 15 = .ok (.aaload, 1) := by decide +kernel
theorem dX9_protect_16 : decode cX9_protect 16 = .ok (.astore 4, 2) := by decide +kernel
theorem dX9_protect_18 : decode cX9_protect 18 = .ok (.aload 4, 2) := by decide +kernel
theorem dX9_protect_20 : decode cX9_protect 20 = .ok (.iload_n 2, 1) := by decide +kernel
theorem dX9_protect_21 : decode cX9_protect 21 = .ok (.invokevirtual 71, 3) := by decide +kernel
theorem dX9_protect_24 : decode cX9_protect 24 = .ok (.istore 5, 2) := by decide +kernel
theorem dX9_protect_26 : decode cX9_protect 26 = .ok (.iconst 1, 1) := by decide +kernel
theorem dX9_protect_27 : decode cX9_protect 27 = .ok (.iload_n 2, 1) := by decide +kernel
theorem dX9_protect_28 : decode cX9_protect 28 = .ok (.ishl, 1) := by decide +kernel
theorem dX9_protect_29 : decode cX9_protect 29 = .ok (.istore 6, 2) := by decide +kernel
theorem dX9_protect_31 : decode cX9_protect 31 = .ok (.aload 4, 2) := by decide +kernel
theorem dX9_protect_33 : decode cX9_protect 33 = .ok (.iload_n 3, 1) := by decide +kernel
theorem dX9_protect_34 : decode cX9_protect 34 = .ok (.ifCond .eq 14, 3) := by decide +kernel
theorem dX9_protect_37 : decode cX9_protect 37 = .ok (.aload 4, 2) := by decide +kernel
theorem dX9_protect_39 : decode cX9_protect 39 = .ok (.getfield 75, 3) := by decide +kernel
theorem dX9_protect_42 : decode cX9_protect 42 = .ok (.iload 6, 2) := by decide +kernel
theorem dX9_protect_44 : decode cX9_protect 44 = .ok (.ior, 1) := by decide +kernel
theorem dX9_protect_45 : decode cX9_protect 45 = .ok (.goto 13, 3) := by decide +kernel
theorem dX9_protect_48 : decode cX9_protect 48 = .ok (.aload 4, 2) := by decide +kernel
theorem dX9_protect_50 : decode cX9_protect 50 = .ok (.getfield 75, 3) := by decide +kernel
theorem dX9_protect_53 : decode cX9_protect 53 = .ok (.iload 6, 2) := by decide +kernel
theorem dX9_protect_55 : decode cX9_protect 55 = .ok (.iconst (-1), 1) := by decide +kernel
theorem dX9_protect_56 : decode cX9_protect 56 = .ok (.ixor, 1) := by decide +kernel
theorem dX9_protect_57 : decode cX9_protect 57 = .ok (.iand, 1) := by decide +kernel
theorem dX9_protect_58 : decode cX9_protect 58 = .ok (.putfield 75, 3) := by decide +kernel
theorem dX9_protect_61 : decode cX9_protect 61 = .ok (.iload 5, 2) := by decide +kernel
theorem dX9_protect_63 : decode cX9_protect 63 = .ok (.ireturn, 1) := by decide +kernel
theorem dX9_fault_0 : decode cX9_fault 0 = .ok (.iload_n 1, 1) := by decide +kernel
theorem dX9_fault_1 : decode cX9_fault 1 = .ok (.invokestatic 44, 3) := by decide +kernel
theorem dX9_fault_4 : decode cX9_fault 4 = .ok (.iload_n 2, 1) := by decide +kernel
theorem dX9_fault_5 : decode cX9_fault 5 = .ok (.iconst 1, 1) := by decide +kernel
theorem dX9_fault_6 : decode cX9_fault 6 = .ok (.iconst 4, 1) := by decide +kernel
theorem dX9_fault_7 : decode cX9_fault 7 = .ok (.invokestatic 37, 3) := by decide +kernel
theorem dX9_fault_10 : decode cX9_fault 10 = .ok (.iload_n 3, 1) := by decide +kernel
theorem dX9_fault_11 : decode cX9_fault 11 = .ok (.iconst 0, 1) := by decide +kernel
theorem dX9_fault_12 : decode cX9_fault 12 = .ok (.sipush 2000, 3) := by decide +kernel
theorem dX9_fault_15 : decode cX9_fault 15 = .ok (.invokestatic 37, 3) := by decide +kernel
theorem dX9_fault_18 : decode cX9_fault 18 = .ok (.aload_n 0, 1) := by decide +kernel
theorem dX9_fault_19 : decode cX9_fault 19 = .ok (.getfield 10, 3) := by decide +kernel
theorem dX9_fault_22 : decode cX9_fault 22 = .ok (.getfield 51, 3) := by decide +kernel
theorem dX9_fault_25 : decode cX9_fault 25 = .ok (.iload_n 1, 1) := by decide +kernel
theorem dX9_fault_26 : decode cX9_fault 26 = .ok (.iconst 1, 1) := by decide +kernel
theorem dX9_fault_27 : decode cX9_fault 27 = .ok (.isub, 1) := by decide +kernel
theorem dX9_fault_28 : decode cX9_fault 28 = .ok (.aaload, 1) := by decide +kernel
theorem dX9_fault_29 : decode cX9_fault 29 = .ok (.astore 4, 2) := by decide +kernel
theorem dX9_fault_31 : decode cX9_fault 31 = .ok (.aload 4, 2) := by decide +kernel
theorem dX9_fault_33 : decode cX9_fault 33 = .ok (.getfield 78, 3) := by decide +kernel
theorem dX9_fault_36 : decode cX9_fault 36 = .ok (.bipush 6, 2) := by decide +kernel
theorem dX9_fault_38 : decode cX9_fault 38 = .ok (.if_icmp .lt 13, 3) := by decide +kernel
theorem dX9_fault_41 : decode cX9_fault 41 = .ok (.new 81, 3) := by decide +kernel
theorem dX9_fault_44 : decode cX9_fault 44 = .ok (.dup, 1) := by decide +kernel
theorem dX9_fault_45 : decode cX9_fault 45 = .ok (.ldc 83, 2) := by decide +kernel
theorem dX9_fault_47 : decode cX9_fault 47 = .ok (.invokespecial 85, 3) := by decide +kernel
theorem dX9_fault_50 : decode cX9_fault 50 = .ok (.athrow, 1) := by decide +kernel
theorem dX9_fault_51 : decode cX9_fault 51 = .ok (.aload 4, 2) := by decide +kernel
theorem dX9_fault_53 : decode cX9_fault 53 = .ok (.iload_n 2, 1) := by decide +kernel
theorem dX9_fault_54 : decode cX9_fault 54 = .ok (.iload_n 3, 1) := by decide +kernel
theorem dX9_fault_55 : decode cX9_fault 55 = .ok (.invokevirtual 86, 3) := by decide +kernel
theorem dX9_fault_58 : decode cX9_fault 58 = .ok (.aload 4, 2) := by decide +kernel
theorem dX9_fault_60 : decode cX9_fault 60 = .ok (.getfield 78, 3) := by decide +kernel
theorem dX9_fault_63 : decode cX9_fault 63 = .ok (.ireturn, 1) := by decide +kernel
theorem dX9_read_0 : decode cX9_read 0 = .ok (.iload_n 1, 1) := by decide +kernel
theorem dX9_read_1 : decode cX9_read 1 = .ok (.invokestatic 89, 3) := by decide +kernel
theorem dX9_read_4 : decode cX9_read 4 = .ok (.iload_n 2, 1) := by decide +kernel
theorem dX9_read_5 : decode cX9_read 5 = .ok (.invokestatic 44, 3) := by decide +kernel
theorem dX9_read_8 : decode cX9_read 8 = .ok (.iload_n 3, 1) := by decide +kernel
theorem dX9_read_9 : decode cX9_read 9 = .ok (.iconst 0, 1) := by decide +kernel
theorem dX9_read_10 : decode cX9_read 10 = .ok (.sipush 1000, 3) := by decide +kernel
theorem dX9_read_13 : decode cX9_read 13 = .ok (.invokestatic 37, 3) := by decide +kernel
theorem dX9_read_16 : decode cX9_read 16 = .ok (.iload 4, 2) := by decide +kernel
theorem dX9_read_18 : decode cX9_read 18 = .ok (.iconst 1, 1) := by decide +kernel
theorem dX9_read_19 : decode cX9_read 19 = .ok (.bipush 16, 2) := by decide +kernel
theorem dX9_read_21 : decode cX9_read 21 = .ok (.invokestatic 37, 3) := by decide +kernel
theorem dX9_read_24 : decode cX9_read 24 = .ok (.aload_n 0, 1) := by decide +kernel
theorem dX9_read_25 : decode cX9_read 25 = .ok (.invokevirtual 92, 3) := by decide +kernel
theorem dX9_read_28 : decode cX9_read 28 = .ok (.aload_n 0, 1) := by decide +kernel
theorem dX9_read_29 : decode cX9_read 29 = .ok (.getfield 10, 3) := by decide +kernel
theorem dX9_read_32 : decode cX9_read 32 = .ok (.getfield 95, 3) := by decide +kernel
theorem dX9_read_35 : decode cX9_read 35 = .ok (.new 99, 3) := by decide +kernel
theorem dX9_read_38 : decode cX9_read 38 = .ok (.dup, 1) := by decide +kernel
theorem dX9_read_39 : decode cX9_read 39 = .ok (.iload_n 1, 1) := by decide +kernel
theorem dX9_read_40 : decode cX9_read 40 = .ok (.iload_n 2, 1) := by decide +kernel
theorem dX9_read_41 : decode cX9_read 41 = .ok (.iload_n 3, 1) := by decide +kernel
theorem dX9_read_42 : decode cX9_read 42 = .ok (.iload 4, 2) := by decide +kernel
theorem dX9_read_44 : decode cX9_read 44 = .ok (.iconst 0, 1) := by decide +kernel
theorem dX9_read_45 : decode cX9_read 45 = .ok (.invokespecial 101, 3) := by decide +kernel
theorem dX9_read_48 : decode cX9_read 48 = .ok (.invokevirtual 104, 3) := by decide +kernel
theorem dX9_read_51 : decode cX9_read 51 = .ok (.ireturn, 1) := by decide +kernel
theorem dX9_write_0 : decode cX9_write 0 = .ok (.iload_n 1, 1) := by decide +kernel
theorem dX9_write_1 : decode cX9_write 1 = .ok (.invokestatic 89, 3) := by decide +kernel
theorem dX9_write_4 : decode cX9_write 4 = .ok (.iload_n 2, 1) := by decide +kernel
theorem dX9_write_5 : decode cX9_write 5 = .ok (.invokestatic 44, 3) := by decide +kernel
theorem dX9_write_8 : decode cX9_write 8 = .ok (.iload_n 3, 1) := by decide +kernel
theorem dX9_write_9 : decode cX9_write 9 = .ok (.iconst 0, 1) := by decide +kernel
theorem dX9_write_10 : decode cX9_write 10 = .ok (.sipush 1000, 3) := by decide +kernel
theorem dX9_write_13 : decode cX9_write 13 = .ok (.invokestatic 37, 3) := by decide +kernel
theorem dX9_write_16 : decode cX9_write 16 = .ok (.iload 4, 2) := by decide +kernel
theorem dX9_write_18 : decode cX9_write 18 = .ok (.iconst 0, 1) := by decide +kernel
theorem dX9_write_19 : decode cX9_write 19 = .ok (.ldc 50, 2) := by decide +kernel
theorem dX9_write_21 : decode cX9_write 21 = .ok (.invokestatic 37, 3) := by decide +kernel
theorem dX9_write_24 : decode cX9_write 24 = .ok (.aload_n 0, 1) := by decide +kernel
theorem dX9_write_25 : decode cX9_write 25 = .ok (.invokevirtual 92, 3) := by decide +kernel
theorem dX9_write_28 : decode cX9_write 28 = .ok (.new 99, 3) := by decide +kernel
theorem dX9_write_31 : decode cX9_write 31 = .ok (.dup, 1) := by decide +kernel
theorem dX9_write_32 : decode cX9_write 32 = .ok (.iload_n 1, 1) := by decide +kernel
theorem dX9_write_33 : decode cX9_write 33 = .ok (.iload_n 2, 1) := by decide +kernel
theorem dX9_write_34 : decode cX9_write 34 = .ok (.iload_n 3, 1) := by decide +kernel
theorem dX9_write_35 : decode cX9_write 35 = .ok (.iconst 1, 1) := by decide +kernel
theorem dX9_write_36 : decode cX9_write 36 = .ok (.iconst 1, 1) := by decide +kernel
theorem dX9_write_37 : decode cX9_write 37 = .ok (.invokespecial 101, 3) := by decide +kernel
theorem dX9_write_40 : decode cX9_write 40 = .ok (.astore 5, 2) := by decide +kernel
theorem dX9_write_42 : decode cX9_write 42 = .ok (.aload 5, 2) := by decide +kernel
theorem dX9_write_44 : decode cX9_write 44 = .ok (.getfield 110, 3) := by decide +kernel
theorem dX9_write_47 : decode cX9_write 47 = .ok (.iconst 0, 1) := by decide +kernel
theorem dX9_write_48 : decode cX9_write 48 = .ok (.iload 4, 2) := by decide +kernel
theorem dX9_write_50 : decode cX9_write 50 = .ok (.iastore, 1) := by decide +kernel
theorem dX9_write_51 : decode cX9_write 51 = .ok (.aload_n 0, 1) := by decide +kernel
theorem dX9_write_52 : decode cX9_write 52 = .ok (.getfield 10, 3) := by decide +kernel
theorem dX9_write_55 : decode cX9_write 55 = .ok (.getfield 95, 3) := by decide +kernel
theorem dX9_write_58 : decode cX9_write 58 = .ok (.aload 5, 2) := by decide +kernel
theorem dX9_write_60 : decode cX9_write 60 = .ok (.invokevirtual 104, 3) := by decide +kernel
theorem dX9_write_63 : decode cX9_write 63 = .ok (.ireturn, 1) := by decide +kernel
theorem dX9_request_0 : decode cX9_request 0 = .ok (.aload_n 0, 1) := by decide +kernel
theorem dX9_request_1 : decode cX9_request 1 = .ok (.iload_n 1, 1) := by decide +kernel
theorem dX9_request_2 : decode cX9_request 2 = .ok (.invokevirtual 113, 3) := by decide +kernel
theorem dX9_request_5 : decode cX9_request 5 = .ok (.astore_n 3, 1) := by decide +kernel
theorem dX9_request_6 : decode cX9_request 6 = .ok (.iload_n 2, 1) := by decide +kernel
theorem dX9_request_7 : decode cX9_request 7 = .ok (.tableswitch 110 0 8 #[49, 54, 59, 64, 69, 82, 87, 92, 97], 49) := by decide +kernel
theorem dX9_request_56 : decode cX9_request 56 = .ok (.aload_n 3, 1) := by decide +kernel
theorem dX9_request_57 : decode cX9_request 57 = .ok (.getfield 117, 3) := by decide +kernel
theorem dX9_request_60 : decode cX9_request 60 = .ok (.ireturn, 1) := by decide +kernel
theorem dX9_request_61 : decode cX9_request 61 = .ok (.aload_n 3, 1) := by decide +kernel
theorem dX9_request_62 : decode cX9_request 62 = .ok (.getfield 120, 3) := by decide +kernel
theorem dX9_request_65 : decode cX9_request 65 = .ok (.ireturn, 1) := by decide +kernel
theorem dX9_request_66 : decode cX9_request 66 = .ok (.aload_n 3, 1) := by decide +kernel
theorem dX9_request_67 : decode cX9_request 67 = .ok (.getfield 123, 3) := by decide +kernel
theorem dX9_request_70 : decode cX9_request 70 = .ok (.ireturn, 1) := by decide +kernel
theorem dX9_request_71 : decode cX9_request 71 = .ok (.aload_n 3, 1) := by decide +kernel
theorem dX9_request_72 : decode cX9_request 72 = .ok (.getfield 126, 3) := by decide +kernel
theorem dX9_request_75 : decode cX9_request 75 = .ok (.ireturn, 1) := by decide +kernel
theorem dX9_request_76 : decode cX9_request 76 = .ok (.aload_n 3, 1) := by decide +kernel
theorem dX9_request_77 : decode cX9_request 77 = .ok (.getfield 129, 3) := by decide +kernel
theorem dX9_request_80 : decode cX9_request 80 = .ok (.ifCond .eq 7, 3) := by decide +kernel
theorem dX9_request_83 : decode cX9_request 83 = .ok (.iconst 1, 1) := by decide +kernel
theorem dX9_request_84 : decode cX9_request 84 = .ok (.goto 4, 3) := by decide +kernel
theorem dX9_request_87 : decode cX9_request 87 = .ok (.iconst 0, 1) := by decide +kernel
theorem dX9_request_88 : decode cX9_request 88 = .ok (.ireturn, 1) := by decide +kernel
theorem dX9_request_89 : decode cX9_request 89 = .ok (.aload_n 3, 1) := by decide +kernel
theorem dX9_request_90 : decode cX9_request 90 = .ok (.getfield 133, 3) := by decide +kernel
theorem dX9_request_93 : decode cX9_request 93 = .ok (.ireturn, 1) := by decide +kernel
theorem dX9_request_94 : decode cX9_request 94 = .ok (.aload_n 3, 1) := by decide +kernel
theorem dX9_request_95 : decode cX9_request 95 = .ok (.getfield 136, 3) := by decide +kernel
theorem dX9_request_98 : decode cX9_request 98 = .ok (.ireturn, 1) := by decide +kernel
theorem dX9_request_99 : decode cX9_request 99 = .ok (.aload_n 3, 1) := by decide +kernel
theorem dX9_request_100 : decode cX9_request 100 = .ok (.getfield 139, 3) := by decide +kernel
theorem dX9_request_103 : decode cX9_request 103 = .ok (.ireturn, 1) := by decide +kernel
theorem dX9_request_104 : decode cX9_request 104 = .ok (.aload_n 3, 1) := by decide +kernel
theorem dX9_request_105 : decode cX9_request 105 = .ok (.getfield 142, 3) := by decide +kernel
theorem dX9_request_108 : decode cX9_request 108 = .ok (.ifCond .eq 7, 3) := by decide +kernel
theorem dX9_request_111 : decode cX9_request 111 = .ok (.iconst 1, 1) := by decide +kernel
theorem dX9_request_112 : decode cX9_request 112 = .ok (.goto 4, 3) := by decide +kernel
theorem dX9_request_115 : decode cX9_request 115 = .ok (.iconst 0, 1) := by decide +kernel
theorem dX9_request_116 : decode cX9_request 116 = .ok (.ireturn, 1) := by decide +kernel
theorem dX9_request_117 : decode cX9_request 117 = .ok (.new 23, 3) := by decide +kernel
theorem dX9_request_120 : decode cX9_request 120 = .ok (.dup, 1) := by decide +kernel
theorem dX9_request_121 : decode cX9_request 121 = .ok (.ldc 145, 2) := by decide +kernel
theorem dX9_request_123 : decode cX9_request 123 = .ok (.invokespecial 27, 3) := by decide +kernel
theorem dX9_request_126 : decode cX9_request 126 = .ok (.athrow, 1) := by decide +kernel
theorem dX9_value_0 : decode cX9_value 0 = .ok (.aload_n 0, 1) := by decide +kernel
theorem dX9_value_1 : decode cX9_value 1 = .ok (.iload_n 1, 1) := by decide +kernel
theorem dX9_value_2 : decode cX9_value 2 = .ok (.invokevirtual 113, 3) := by decide +kernel
theorem dX9_value_5 : decode cX9_value 5 = .ok (.astore_n 3, 1) := by decide +kernel
theorem dX9_value_6 : decode cX9_value 6 = .ok (.iload_n 2, 1) := by decide +kernel
theorem dX9_value_7 : decode cX9_value 7 = .ok (.ifCond .lt 11, 3) := by decide +kernel
theorem dX9_value_10 : decode cX9_value 10 = .ok (.iload_n 2, 1) := by decide +kernel
theorem dX9_value_11 : decode cX9_value 11 = .ok (.aload_n 3, 1) := by decide +kernel
theorem dX9_value_12 : decode cX9_value 12 = .ok (.getfield 126, 3) := by decide +kernel
theorem dX9_value_15 : decode cX9_value 15 = .ok (.if_icmp .lt 13, 3) := by decide +kernel
theorem dX9_value_18 : decode cX9_value 18 = .ok (.new 23, 3) := by decide +kernel
theorem dX9_value_21 : decode cX9_value 21 = .ok (.dup, 1) := by decide +kernel
theorem dX9_value_22 : decode cX9_value 22 = .ok (.ldc 147, 2) := by decide +kernel
theorem dX9_value_24 : decode cX9_value 24 = .ok (.invokespecial 27, 3) := by decide +kernel
theorem dX9_value_27 : decode cX9_value 27 = .ok (.athrow, 1) := by decide +kernel
theorem dX9_value_28 : decode cX9_value 28 = .ok (.aload_n 3, 1) := by decide +kernel
theorem dX9_value_29 : decode cX9_value 29 = .ok (.invokevirtual 149, 3) := by decide +kernel
theorem dX9_value_32 : decode cX9_value 32 = .ok (.ifCond .ne 13, 3) := by decide +kernel
theorem dX9_value_35 : decode cX9_value 35 = .ok (.new 81, 3) := by decide +kernel
theorem dX9_value_38 : decode cX9_value 38 = .ok (.dup, 1) := by decide +kernel
theorem dX9_value_39 : decode cX9_value 39 = .ok (.ldc 153, 2) := by decide +kernel
theorem dX9_value_41 : decode cX9_value 41 = .ok (.invokespecial 85, 3) := by decide +kernel
theorem dX9_value_44 : decode cX9_value 44 = .ok (.athrow, 1) := by decide +kernel
theorem dX9_value_45 : decode cX9_value 45 = .ok (.aload_n 3, 1) := by decide +kernel
theorem dX9_value_46 : decode cX9_value 46 = .ok (.getfield 110, 3) := by decide +kernel
theorem dX9_value_49 : decode cX9_value 49 = .ok (.iload_n 2, 1) := by decide +kernel
theorem dX9_value_50 : decode cX9_value 50 = .ok (.iaload, 1) := by decide +kernel
theorem dX9_value_51 : decode cX9_value 51 = .ok (.ireturn, 1) := by decide +kernel
theorem dX9_requests_0 : decode cX9_requests 0 = .ok (.iload_n 1, 1) := by decide +kernel
theorem dX9_requests_1 : decode cX9_requests 1 = .ok (.invokestatic 155, 3) := by decide +kernel
theorem dX9_requests_4 : decode cX9_requests 4 = .ok (.iconst 0, 1) := by decide +kernel
theorem dX9_requests_5 : decode cX9_requests 5 = .ok (.istore_n 2, 1) := by decide +kernel
theorem dX9_requests_6 : decode cX9_requests 6 = .ok (.iconst 0, 1) := by decide +kernel
theorem dX9_requests_7 : decode cX9_requests 7 = .ok (.istore_n 3, 1) := by decide +kernel
theorem dX9_requests_8 : decode cX9_requests 8 = .ok (.iload_n 3, 1) := by decide +kernel
theorem dX9_requests_9 : decode cX9_requests 9 = .ok (.iconst 4, 1) := by decide +kernel
theorem dX9_requests_10 : decode cX9_requests 10 = .ok (.if_icmp .ge 24, 3) := by decide +kernel
theorem dX9_requests_13 : decode cX9_requests 13 = .ok (.iload_n 2, 1) := by decide +kernel
theorem dX9_requests_14 : decode cX9_requests 14 = .ok (.aload_n 0, 1) := by decide +kernel
theorem dX9_requests_15 : decode cX9_requests 15 = .ok (.getfield 10, 3) := by decide +kernel
theorem dX9_requests_18 : decode cX9_requests 18 = .ok (.getfield 95, 3) := by decide +kernel
theorem dX9_requests_21 : decode cX9_requests 21 = .ok (.iload_n 3, 1) := by decide +kernel
theorem dX9_requests_22 : decode cX9_requests 22 = .ok (.iload_n 1, 1) := by decide +kernel
theorem dX9_requests_23 : decode cX9_requests 23 = .ok (.invokevirtual 158, 3) := by decide +kernel
theorem dX9_requests_26 : decode cX9_requests 26 = .ok (.iadd, 1) := by decide +kernel
theorem dX9_requests_27 : decode cX9_requests 27 = .ok (.istore_n 2, 1) := by decide +kernel
theorem dX9_requests_28 : decode cX9_requests 28 = .ok (.iinc 3 1, 3) := by decide +kernel
theorem dX9_requests_31 : decode cX9_requests 31 = .ok (.goto (-23), 3) := by decide +kernel
theorem dX9_requests_34 : decode cX9_requests 34 = .ok (.iload_n 2, 1) := by decide +kernel
theorem dX9_requests_35 : decode cX9_requests 35 = .ok (.ireturn, 1) := by decide +kernel
theorem dX9_requestsOf_0 : decode cX9_requestsOf 0 = .ok (.iload_n 1, 1) := by decide +kernel
theorem dX9_requestsOf_1 : decode cX9_requestsOf 1 = .ok (.invokestatic 89, 3) := by decide +kernel
theorem dX9_requestsOf_4 : decode cX9_requestsOf 4 = .ok (.iload_n 2, 1) := by decide +kernel
theorem dX9_requestsOf_5 : decode cX9_requestsOf 5 = .ok (.invokestatic 155, 3) := by decide +kernel
theorem dX9_requestsOf_8 : decode cX9_requestsOf 8 = .ok (.aload_n 0, 1) := by decide +kernel
theorem dX9_requestsOf_9 : decode cX9_requestsOf 9 = .ok (.getfield 10, 3) := by decide +kernel
theorem dX9_requestsOf_12 : decode cX9_requestsOf 12 = .ok (.getfield 95, 3) := by decide +kernel
theorem dX9_requestsOf_15 : decode cX9_requestsOf 15 = .ok (.iload_n 1, 1) := by decide +kernel
theorem dX9_requestsOf_16 : decode cX9_requestsOf 16 = .ok (.iload_n 2, 1) := by decide +kernel
theorem dX9_requestsOf_17 : decode cX9_requestsOf 17 = .ok (.invokevirtual 158, 3) := by decide +kernel
theorem dX9_requestsOf_20 : decode cX9_requestsOf 20 = .ok (.ireturn, 1) := by decide +kernel
theorem dX9_step_0 : decode cX9_step 0 = .ok (.aload_n 0, 1) := by decide +kernel
theorem dX9_step_1 : decode cX9_step 1 = .ok (.getfield 10, 3) := by decide +kernel
theorem dX9_step_4 : decode cX9_step 4 = .ok (.invokevirtual 162, 3) := by decide +kernel
theorem dX9_step_7 : decode cX9_step 7 = .ok (.ireturn, 1) := by decide +kernel
theorem dX9_finish_0 : decode cX9_finish 0 = .ok (.aload_n 0, 1) := by decide +kernel
theorem dX9_finish_1 : decode cX9_finish 1 = .ok (.getfield 10, 3) := by decide +kernel
theorem dX9_finish_4 : decode cX9_finish 4 = .ok (.invokevirtual 162, 3) := by decide +kernel
theorem dX9_finish_7 : decode cX9_finish 7 = .ok (.istore_n 1, 1) := by decide +kernel
theorem dX9_finish_8 : decode cX9_finish 8 = .ok (.iconst 1, 1) := by decide +kernel
theorem dX9_finish_9 : decode cX9_finish 9 = .ok (.istore_n 2, 1) := by decide +kernel
theorem dX9_finish_10 : decode cX9_finish 10 = .ok (.iload_n 2, 1) := by decide +kernel
theorem dX9_finish_11 : decode cX9_finish 11 = .ok (.bipush 40, 2) := by decide +kernel
theorem dX9_finish_13 : decode cX9_finish 13 = .ok (.if_icmp .ge 21, 3) := by decide +kernel
theorem dX9_finish_16 : decode cX9_finish 16 = .ok (.iload_n 1, 1) := by decide +kernel
theorem dX9_finish_17 : decode cX9_finish 17 = .ok (.ifCond .le 17, 3) := by decide +kernel
theorem dX9_finish_20 : decode cX9_finish 20 = .ok (.aload_n 0, 1) := by decide +kernel
theorem dX9_finish_21 : decode cX9_finish 21 = .ok (.getfield 10, 3) := by decide +kernel
theorem dX9_finish_24 : decode cX9_finish 24 = .ok (.invokevirtual 162, 3) := by decide +kernel
theorem dX9_finish_27 : decode cX9_finish 27 = .ok (.istore_n 1, 1) := by decide +kernel
theorem dX9_finish_28 : decode cX9_finish 28 = .ok (.iinc 2 1, 3) := by decide +kernel
theorem dX9_finish_31 : decode cX9_finish 31 = .ok (.goto (-21), 3) := by decide +kernel
theorem dX9_finish_34 : decode cX9_finish 34 = .ok (.aload_n 0, 1) := by decide +kernel
theorem dX9_finish_35 : decode cX9_finish 35 = .ok (.getfield 10, 3) := by decide +kernel
theorem dX9_finish_38 : decode cX9_finish 38 = .ok (.getfield 166, 3) := by decide +kernel
theorem dX9_finish_41 : decode cX9_finish 41 = .ok (.ireturn, 1) := by decide +kernel
theorem dX9_pass_0 : decode cX9_pass 0 = .ok (.iload_n 1, 1) := by decide +kernel
theorem dX9_pass_1 : decode cX9_pass 1 = .ok (.iconst 0, 1) := by decide +kernel
theorem dX9_pass_2 : decode cX9_pass 2 = .ok (.sipush 10000, 3) := by decide +kernel
theorem dX9_pass_5 : decode cX9_pass 5 = .ok (.invokestatic 37, 3) := by decide +kernel
theorem dX9_pass_8 : decode cX9_pass 8 = .ok (.aload_n 0, 1) := by decide +kernel
theorem dX9_pass_9 : decode cX9_pass 9 = .ok (.getfield 10, 3) := by decide +kernel
theorem dX9_pass_12 : decode cX9_pass 12 = .ok (.getfield 166, 3) := by decide +kernel
theorem dX9_pass_15 : decode cX9_pass 15 = .ok (.ldc 169, 2) := by decide +kernel
theorem dX9_pass_17 : decode cX9_pass 17 = .ok (.iload_n 1, 1) := by decide +kernel
theorem dX9_pass_18 : decode cX9_pass 18 = .ok (.isub, 1) := by decide +kernel
theorem dX9_pass_19 : decode cX9_pass 19 = .ok (.if_icmp .le 13, 3) := by decide +kernel
theorem dX9_pass_22 : decode cX9_pass 22 = .ok (.new 81, 3) := by decide +kernel
theorem dX9_pass_25 : decode cX9_pass 25 = .ok (.dup, 1) := by decide +kernel
theorem dX9_pass_26 : decode cX9_pass 26 = .ok (.ldc 170, 2) := by decide +kernel
theorem dX9_pass_28 : decode cX9_pass 28 = .ok (.invokespecial 85, 3) := by decide +kernel
theorem dX9_pass_31 : decode cX9_pass 31 = .ok (.athrow, 1) := by decide +kernel
theorem dX9_pass_32 : decode cX9_pass 32 = .ok (.aload_n 0, 1) := by decide +kernel
theorem dX9_pass_33 : decode cX9_pass 33 = .ok (.getfield 10, 3) := by decide +kernel
theorem dX9_pass_36 : decode cX9_pass 36 = .ok (.dup, 1) := by decide +kernel
theorem dX9_pass_37 : decode cX9_pass 37 = .ok (.getfield 166, 3) := by decide +kernel
theorem dX9_pass_40 : decode cX9_pass 40 = .ok (.iload_n 1, 1) := by decide +kernel
theorem dX9_pass_41 : decode cX9_pass 41 = .ok (.iadd, 1) := by decide +kernel
theorem dX9_pass_42 : decode cX9_pass 42 = .ok (.putfield 166, 3) := by decide +kernel
theorem dX9_pass_45 : decode cX9_pass 45 = .ok (.aload_n 0, 1) := by decide +kernel
theorem dX9_pass_46 : decode cX9_pass 46 = .ok (.getfield 10, 3) := by decide +kernel
theorem dX9_pass_49 : decode cX9_pass 49 = .ok (.getfield 166, 3) := by decide +kernel
theorem dX9_pass_52 : decode cX9_pass 52 = .ok (.ireturn, 1) := by decide +kernel
theorem dX9_time_0 : decode cX9_time 0 = .ok (.aload_n 0, 1) := by decide +kernel
theorem dX9_time_1 : decode cX9_time 1 = .ok (.getfield 10, 3) := by decide +kernel
theorem dX9_time_4 : decode cX9_time 4 = .ok (.getfield 166, 3) := by decide +kernel
theorem dX9_time_7 : decode cX9_time 7 = .ok (.ireturn, 1) := by decide +kernel
theorem dX9_group_0 : decode cX9_group 0 = .ok (.aload_n 0, 1) := by decide +kernel
theorem dX9_group_1 : decode cX9_group 1 = .ok (.getfield 10, 3) := by decide +kernel
theorem dX9_group_4 : decode cX9_group 4 = .ok (.invokevirtual 172, 3) := by decide +kernel
theorem dX9_group_7 : decode cX9_group 7 = .ok (.aload_n 0, 1) := by decide +kernel
theorem dX9_group_8 : decode cX9_group 8 = .ok (.getfield 10, 3) := by decide +kernel
theorem dX9_group_11 : decode cX9_group 11 = .ok (.getfield 95, 3) := by decide +kernel
theorem dX9_group_14 : decode cX9_group 14 = .ok (.getfield 175, 3) := by decide +kernel
theorem dX9_group_17 : decode cX9_group 17 = .ok (.lreturn, 1) := by decide +kernel
theorem dX9_frameByte_0 : decode cX9_frameByte 0 = .ok (.iload_n 1, 1) := by decide +kernel
theorem dX9_frameByte_1 : decode cX9_frameByte 1 = .ok (.ifCond .ge 13, 3) := by decide +kernel
theorem dX9_frameByte_4 : decode cX9_frameByte 4 = .ok (.new 23, 3) := by decide +kernel
theorem dX9_frameByte_7 : decode cX9_frameByte 7 = .ok (.dup, 1) := by decide +kernel
theorem dX9_frameByte_8 : decode cX9_frameByte 8 = .ok (.ldc 179, 2) := by decide +kernel
theorem dX9_frameByte_10 : decode cX9_frameByte 10 = .ok (.invokespecial 27, 3) := by decide +kernel
theorem dX9_frameByte_13 : decode cX9_frameByte 13 = .ok (.athrow, 1) := by decide +kernel
theorem dX9_frameByte_14 : decode cX9_frameByte 14 = .ok (.aload_n 0, 1) := by decide +kernel
theorem dX9_frameByte_15 : decode cX9_frameByte 15 = .ok (.getfield 10, 3) := by decide +kernel
theorem dX9_frameByte_18 : decode cX9_frameByte 18 = .ok (.invokevirtual 172, 3) := by decide +kernel
theorem dX9_frameByte_21 : decode cX9_frameByte 21 = .ok (.iload_n 1, 1) := by decide +kernel
theorem dX9_frameByte_22 : decode cX9_frameByte 22 = .ok (.aload_n 0, 1) := by decide +kernel
theorem dX9_frameByte_23 : decode cX9_frameByte 23 = .ok (.getfield 10, 3) := by decide +kernel
theorem dX9_frameByte_26 : decode cX9_frameByte 26 = .ok (.getfield 181, 3) := by decide +kernel
theorem dX9_frameByte_29 : decode cX9_frameByte 29 = .ok (.getfield 185, 3) := by decide +kernel
theorem dX9_frameByte_32 : decode cX9_frameByte 32 = .ok (.if_icmp .ge 17, 3) := by decide +kernel
theorem dX9_frameByte_35 : decode cX9_frameByte 35 = .ok (.aload_n 0, 1) := by decide +kernel
theorem dX9_frameByte_36 : decode cX9_frameByte 36 = .ok (.getfield 10, 3) := by decide +kernel
theorem dX9_frameByte_39 : decode cX9_frameByte 39 = .ok (.getfield 181, 3) := by decide +kernel
theorem dX9_frameByte_42 : decode cX9_frameByte 42 = .ok (.iload_n 1, 1) := by decide +kernel
theorem dX9_frameByte_43 : decode cX9_frameByte 43 = .ok (.invokevirtual 190, 3) := by decide +kernel
theorem dX9_frameByte_46 : decode cX9_frameByte 46 = .ok (.goto 4, 3) := by decide +kernel
theorem dX9_frameByte_49 : decode cX9_frameByte 49 = .ok (.iconst (-1), 1) := by decide +kernel
theorem dX9_frameByte_50 : decode cX9_frameByte 50 = .ok (.ireturn, 1) := by decide +kernel
theorem dX9_cacheAge_0 : decode cX9_cacheAge 0 = .ok (.iload_n 1, 1) := by decide +kernel
theorem dX9_cacheAge_1 : decode cX9_cacheAge 1 = .ok (.iload_n 2, 1) := by decide +kernel
theorem dX9_cacheAge_2 : decode cX9_cacheAge 2 = .ok (.invokestatic 64, 3) := by decide +kernel
theorem dX9_cacheAge_5 : decode cX9_cacheAge 5 = .ok (.aload_n 0, 1) := by decide +kernel
theorem dX9_cacheAge_6 : decode cX9_cacheAge 6 = .ok (.getfield 10, 3) := by decide +kernel
theorem dX9_cacheAge_9 : decode cX9_cacheAge 9 = .ok (.getfield 194, 3) := by decide +kernel
theorem dX9_cacheAge_12 : decode cX9_cacheAge 12 = .ok (.iload_n 1, 1) := by decide +kernel
theorem dX9_cacheAge_13 : decode cX9_cacheAge 13 = .ok (.iload_n 2, 1) := by decide +kernel
theorem dX9_cacheAge_14 : decode cX9_cacheAge 14 = .ok (.aload_n 0, 1) := by decide +kernel
theorem dX9_cacheAge_15 : decode cX9_cacheAge 15 = .ok (.getfield 10, 3) := by decide +kernel
theorem dX9_cacheAge_18 : decode cX9_cacheAge 18 = .ok (.getfield 166, 3) := by decide +kernel
theorem dX9_cacheAge_21 : decode cX9_cacheAge 21 = .ok (.invokevirtual 198, 3) := by decide +kernel
theorem dX9_cacheAge_24 : decode cX9_cacheAge 24 = .ok (.ireturn, 1) := by decide +kernel
theorem dX9_cached_0 : decode cX9_cached 0 = .ok (.iload_n 1, 1) := by decide +kernel
theorem dX9_cached_1 : decode cX9_cached 1 = .ok (.iload_n 2, 1) := by decide +kernel
theorem dX9_cached_2 : decode cX9_cached 2 = .ok (.invokestatic 64, 3) := by decide +kernel
theorem dX9_cached_5 : decode cX9_cached 5 = .ok (.aload_n 0, 1) := by decide +kernel
theorem dX9_cached_6 : decode cX9_cached 6 = .ok (.getfield 10, 3) := by decide +kernel
theorem dX9_cached_9 : decode cX9_cached 9 = .ok (.getfield 194, 3) := by decide +kernel
theorem dX9_cached_12 : decode cX9_cached 12 = .ok (.iload_n 1, 1) := by decide +kernel
theorem dX9_cached_13 : decode cX9_cached 13 = .ok (.iload_n 2, 1) := by decide +kernel
theorem dX9_cached_14 : decode cX9_cached 14 = .ok (.invokevirtual 204, 3) := by decide +kernel
theorem dX9_cached_17 : decode cX9_cached 17 = .ok (.ireturn, 1) := by decide +kernel
theorem dX9_clearCache_0 : decode cX9_clearCache 0 = .ok (.aload_n 0, 1) := by decide +kernel
theorem dX9_clearCache_1 : decode cX9_clearCache 1 = .ok (.getfield 10, 3) := by decide +kernel
theorem dX9_clearCache_4 : decode cX9_clearCache 4 = .ok (.getfield 194, 3) := by decide +kernel
theorem dX9_clearCache_7 : decode cX9_clearCache 7 = .ok (.invokevirtual 207, 3) := by decide +kernel
theorem dX9_clearCache_10 : decode cX9_clearCache 10 = .ok (.ireturn, 1) := by decide +kernel
theorem dX9_count_0 : decode cX9_count 0 = .ok (.iload_n 1, 1) := by decide +kernel
theorem dX9_count_1 : decode cX9_count 1 = .ok (.ifCond .lt 9, 3) := by decide +kernel
theorem dX9_count_4 : decode cX9_count 4 = .ok (.iload_n 1, 1) := by decide +kernel
theorem dX9_count_5 : decode cX9_count 5 = .ok (.bipush 6, 2) := by decide +kernel
theorem dX9_count_7 : decode cX9_count 7 = .ok (.if_icmp .lt 13, 3) := by decide +kernel
theorem dX9_count_10 : decode cX9_count 10 = .ok (.new 23, 3) := by decide +kernel
theorem dX9_count_13 : decode cX9_count 13 = .ok (.dup, 1) := by decide +kernel
theorem dX9_count_14 : decode cX9_count 14 = .ok (.ldc 210, 2) := by decide +kernel
theorem dX9_count_16 : decode cX9_count 16 = .ok (.invokespecial 27, 3) := by decide +kernel
theorem dX9_count_19 : decode cX9_count 19 = .ok (.athrow, 1) := by decide +kernel
theorem dX9_count_20 : decode cX9_count 20 = .ok (.aload_n 0, 1) := by decide +kernel
theorem dX9_count_21 : decode cX9_count 21 = .ok (.getfield 10, 3) := by decide +kernel
theorem dX9_count_24 : decode cX9_count 24 = .ok (.getfield 212, 3) := by decide +kernel
theorem dX9_count_27 : decode cX9_count 27 = .ok (.iload_n 1, 1) := by decide +kernel
theorem dX9_count_28 : decode cX9_count 28 = .ok (.iaload, 1) := by decide +kernel
theorem dX9_count_29 : decode cX9_count 29 = .ok (.ireturn, 1) := by decide +kernel
theorem dX9_leastDrain_0 : decode cX9_leastDrain 0 = .ok (.iload_n 1, 1) := by decide +kernel
theorem dX9_leastDrain_1 : decode cX9_leastDrain 1 = .ok (.iconst 0, 1) := by decide +kernel
theorem dX9_leastDrain_2 : decode cX9_leastDrain 2 = .ok (.bipush 40, 2) := by decide +kernel
theorem dX9_leastDrain_4 : decode cX9_leastDrain 4 = .ok (.invokestatic 37, 3) := by decide +kernel
theorem dX9_leastDrain_7 : decode cX9_leastDrain 7 = .ok (.aload_n 0, 1) := by decide +kernel
theorem dX9_leastDrain_8 : decode cX9_leastDrain 8 = .ok (.getfield 215, 3) := by decide +kernel
theorem dX9_leastDrain_11 : decode cX9_leastDrain 11 = .ok (.ifnonnull 14, 3) := by decide +kernel
theorem dX9_leastDrain_14 : decode cX9_leastDrain 14 = .ok (.aload_n 0, 1) := by decide +kernel
theorem dX9_leastDrain_15 : decode cX9_leastDrain 15 = .ok (.new 7, 3) := by decide +kernel
theorem dX9_leastDrain_18 : decode cX9_leastDrain 18 = .ok (.dup, 1) := by decide +kernel
theorem dX9_leastDrain_19 : decode cX9_leastDrain 19 = .ok (.invokespecial 9, 3) := by decide +kernel
theorem dX9_leastDrain_22 : decode cX9_leastDrain 22 = .ok (.putfield 215, 3) := by decide +kernel
theorem dX9_leastDrain_25 : decode cX9_leastDrain 25 = .ok (.iconst 0, 1) := by decide +kernel
theorem dX9_leastDrain_26 : decode cX9_leastDrain 26 = .ok (.istore_n 2, 1) := by decide +kernel
theorem dX9_leastDrain_27 : decode cX9_leastDrain 27 = .ok (.iload_n 2, 1) := by decide +kernel
theorem dX9_leastDrain_28 : decode cX9_leastDrain 28 = .ok (.iload_n 1, 1) := by decide +kernel
theorem dX9_leastDrain_29 : decode cX9_leastDrain 29 = .ok (.if_icmp .gt 88, 3) := by decide +kernel
theorem dX9_leastDrain_32 : decode cX9_leastDrain 32 = .ok (.aload_n 0, 1) := by decide +kernel
theorem dX9_leastDrain_33 : decode cX9_leastDrain 33 = .ok (.getfield 215, 3) := by decide +kernel
theorem dX9_leastDrain_36 : decode cX9_leastDrain 36 = .ok (.aload_n 0, 1) := by decide +kernel
theorem dX9_leastDrain_37 : decode cX9_leastDrain 37 = .ok (.getfield 10, 3) := by decide +kernel
theorem dX9_leastDrain_40 : decode cX9_leastDrain 40 = .ok (.invokevirtual 218, 3) := by decide +kernel
theorem dX9_leastDrain_43 : decode cX9_leastDrain 43 = .ok (.aload_n 0, 1) := by decide +kernel
theorem dX9_leastDrain_44 : decode cX9_leastDrain 44 = .ok (.getfield 215, 3) := by decide +kernel
theorem dX9_leastDrain_47 : decode cX9_leastDrain 47 = .ok (.getfield 41, 3) := by decide +kernel
theorem dX9_leastDrain_50 : decode cX9_leastDrain 50 = .ok (.iconst 3, 1) := by decide +kernel
theorem dX9_leastDrain_51 : decode cX9_leastDrain 51 = .ok (.iload_n 2, 1) := by decide +kernel
theorem dX9_leastDrain_52 : decode cX9_leastDrain 52 = .ok (.iastore, 1) := by decide +kernel
theorem dX9_leastDrain_53 : decode cX9_leastDrain 53 = .ok (.aload_n 0, 1) := by decide +kernel
theorem dX9_leastDrain_54 : decode cX9_leastDrain 54 = .ok (.getfield 215, 3) := by decide +kernel
theorem dX9_leastDrain_57 : decode cX9_leastDrain 57 = .ok (.invokevirtual 162, 3) := by decide +kernel
theorem dX9_leastDrain_60 : decode cX9_leastDrain 60 = .ok (.istore_n 3, 1) := by decide +kernel
theorem dX9_leastDrain_61 : decode cX9_leastDrain 61 = .ok (.iconst 1, 1) := by decide +kernel
theorem dX9_leastDrain_62 : decode cX9_leastDrain 62 = .ok (.istore 4, 2) := by decide +kernel
theorem dX9_leastDrain_64 : decode cX9_leastDrain 64 = .ok (.iload 4, 2) := by decide +kernel
theorem dX9_leastDrain_66 : decode cX9_leastDrain 66 = .ok (.bipush 40, 2) := by decide +kernel
theorem dX9_leastDrain_68 : decode cX9_leastDrain 68 = .ok (.if_icmp .ge 31, 3) := by decide +kernel
theorem dX9_leastDrain_71 : decode cX9_leastDrain 71 = .ok (.iload_n 3, 1) := by decide +kernel
theorem dX9_leastDrain_72 : decode cX9_leastDrain 72 = .ok (.ifCond .le 27, 3) := by decide +kernel
theorem dX9_leastDrain_75 : decode cX9_leastDrain 75 = .ok (.aload_n 0, 1) := by decide +kernel
theorem dX9_leastDrain_76 : decode cX9_leastDrain 76 = .ok (.getfield 215, 3) := by decide +kernel
theorem dX9_leastDrain_79 : decode cX9_leastDrain 79 = .ok (.getfield 222, 3) := by decide +kernel
theorem dX9_leastDrain_82 : decode cX9_leastDrain 82 = .ok (.ifCond .ne 17, 3) := by decide +kernel
theorem dX9_leastDrain_85 : decode cX9_leastDrain 85 = .ok (.aload_n 0, 1) := by decide +kernel
theorem dX9_leastDrain_86 : decode cX9_leastDrain 86 = .ok (.getfield 215, 3) := by decide +kernel
theorem dX9_leastDrain_89 : decode cX9_leastDrain 89 = .ok (.invokevirtual 162, 3) := by decide +kernel
theorem dX9_leastDrain_92 : decode cX9_leastDrain 92 = .ok (.istore_n 3, 1) := by decide +kernel
theorem dX9_leastDrain_93 : decode cX9_leastDrain 93 = .ok (.iinc 4 1, 3) := by decide +kernel
theorem dX9_leastDrain_96 : decode cX9_leastDrain 96 = .ok (.goto (-32), 3) := by decide +kernel
theorem dX9_leastDrain_99 : decode cX9_leastDrain 99 = .ok (.aload_n 0, 1) := by decide +kernel
theorem dX9_leastDrain_100 : decode cX9_leastDrain 100 = .ok (.getfield 215, 3) := by decide +kernel
theorem dX9_leastDrain_103 : decode cX9_leastDrain 103 = .ok (.getfield 222, 3) := by decide +kernel
theorem dX9_leastDrain_106 : decode cX9_leastDrain 106 = .ok (.ifCond .ne 5, 3) := by decide +kernel
theorem dX9_leastDrain_109 : decode cX9_leastDrain 109 = .ok (.iload_n 2, 1) := by decide +kernel
theorem dX9_leastDrain_110 : decode cX9_leastDrain 110 = .ok (.ireturn, 1) := by decide +kernel
theorem dX9_leastDrain_111 : decode cX9_leastDrain 111 = .ok (.iinc 2 1, 3) := by decide +kernel
theorem dX9_leastDrain_114 : decode cX9_leastDrain 114 = .ok (.goto (-87), 3) := by decide +kernel
theorem dX9_leastDrain_117 : decode cX9_leastDrain 117 = .ok (.iconst (-1), 1) := by decide +kernel
theorem dX9_leastDrain_118 : decode cX9_leastDrain 118 = .ok (.ireturn, 1) := by decide +kernel
theorem dX9_feed_0 : decode cX9_feed 0 = .ok (.iload_n 1, 1) := by decide +kernel
theorem dX9_feed_1 : decode cX9_feed 1 = .ok (.iconst 0, 1) := by decide +kernel
theorem dX9_feed_2 : decode cX9_feed 2 = .ok (.sipush 255, 3) := by decide +kernel
theorem dX9_feed_5 : decode cX9_feed 5 = .ok (.invokestatic 37, 3) := by decide +kernel
theorem dX9_feed_8 : decode cX9_feed 8 = .ok (.iload_n 2, 1) := by decide +kernel
theorem dX9_feed_9 : decode cX9_feed 9 = .ok (.iconst 0, 1) := by decide +kernel
theorem dX9_feed_10 : decode cX9_feed 10 = .ok (.sipush 1000, 3) := by decide +kernel
theorem dX9_feed_13 : decode cX9_feed 13 = .ok (.invokestatic 37, 3) := by decide +kernel
theorem dX9_feed_16 : decode cX9_feed 16 = .ok (.aload_n 0, 1) := by decide +kernel
theorem dX9_feed_17 : decode cX9_feed 17 = .ok (.getfield 19, 3) := by decide +kernel
theorem dX9_feed_20 : decode cX9_feed 20 = .ok (.iload_n 1, 1) := by decide +kernel
theorem dX9_feed_21 : decode cX9_feed 21 = .ok (.iload_n 2, 1) := by decide +kernel
theorem dX9_feed_22 : decode cX9_feed 22 = .ok (.invokevirtual 225, 3) := by decide +kernel
theorem dX9_feed_25 : decode cX9_feed 25 = .ok (.aload_n 0, 1) := by decide +kernel
theorem dX9_feed_26 : decode cX9_feed 26 = .ok (.getfield 19, 3) := by decide +kernel
theorem dX9_feed_29 : decode cX9_feed 29 = .ok (.getfield 228, 3) := by decide +kernel
theorem dX9_feed_32 : decode cX9_feed 32 = .ok (.ireturn, 1) := by decide +kernel
theorem dX9_endFrame_0 : decode cX9_endFrame 0 = .ok (.aload_n 0, 1) := by decide +kernel
theorem dX9_endFrame_1 : decode cX9_endFrame 1 = .ok (.getfield 19, 3) := by decide +kernel
theorem dX9_endFrame_4 : decode cX9_endFrame 4 = .ok (.invokevirtual 229, 3) := by decide +kernel
theorem dX9_endFrame_7 : decode cX9_endFrame 7 = .ok (.aload_n 0, 1) := by decide +kernel
theorem dX9_endFrame_8 : decode cX9_endFrame 8 = .ok (.getfield 19, 3) := by decide +kernel
theorem dX9_endFrame_11 : decode cX9_endFrame 11 = .ok (.getfield 232, 3) := by decide +kernel
theorem dX9_endFrame_14 : decode cX9_endFrame 14 = .ok (.ireturn, 1) := by decide +kernel
theorem dX9_verdict_0 : decode cX9_verdict 0 = .ok (.iload_n 1, 1) := by decide +kernel
theorem dX9_verdict_1 : decode cX9_verdict 1 = .ok (.invokestatic 235, 3) := by decide +kernel
theorem dX9_verdict_4 : decode cX9_verdict 4 = .ok (.aload_n 0, 1) := by decide +kernel
theorem dX9_verdict_5 : decode cX9_verdict 5 = .ok (.getfield 19, 3) := by decide +kernel
theorem dX9_verdict_8 : decode cX9_verdict 8 = .ok (.iload_n 1, 1) := by decide +kernel
theorem dX9_verdict_9 : decode cX9_verdict 9 = .ok (.invokevirtual 238, 3) := by decide +kernel
theorem dX9_verdict_12 : decode cX9_verdict 12 = .ok (.ifCond .eq 22, 3) := by decide +kernel
theorem dX9_verdict_15 : decode cX9_verdict 15 = .ok (.aload_n 0, 1) := by decide +kernel
theorem dX9_verdict_16 : decode cX9_verdict 16 = .ok (.getfield 19, 3) := by decide +kernel
theorem dX9_verdict_19 : decode cX9_verdict 19 = .ok (.getfield 241, 3) := by decide +kernel
theorem dX9_verdict_22 : decode cX9_verdict 22 = .ok (.aload_n 0, 1) := by decide +kernel
theorem dX9_verdict_23 : decode cX9_verdict 23 = .ok (.getfield 19, 3) := by decide +kernel
theorem dX9_verdict_26 : decode cX9_verdict 26 = .ok (.iload_n 1, 1) := by decide +kernel
theorem dX9_verdict_27 : decode cX9_verdict 27 = .ok (.invokevirtual 244, 3) := by decide +kernel
theorem dX9_verdict_30 : decode cX9_verdict 30 = .ok (.iaload, 1) := by decide +kernel
theorem dX9_verdict_31 : decode cX9_verdict 31 = .ok (.goto 4, 3) := by decide +kernel
theorem dX9_verdict_34 : decode cX9_verdict 34 = .ok (.iconst (-1), 1) := by decide +kernel
theorem dX9_verdict_35 : decode cX9_verdict 35 = .ok (.ireturn, 1) := by decide +kernel
theorem dX9_length_0 : decode cX9_length 0 = .ok (.iload_n 1, 1) := by decide +kernel
theorem dX9_length_1 : decode cX9_length 1 = .ok (.invokestatic 235, 3) := by decide +kernel
theorem dX9_length_4 : decode cX9_length 4 = .ok (.aload_n 0, 1) := by decide +kernel
theorem dX9_length_5 : decode cX9_length 5 = .ok (.getfield 19, 3) := by decide +kernel
theorem dX9_length_8 : decode cX9_length 8 = .ok (.iload_n 1, 1) := by decide +kernel
theorem dX9_length_9 : decode cX9_length 9 = .ok (.invokevirtual 238, 3) := by decide +kernel
theorem dX9_length_12 : decode cX9_length 12 = .ok (.ifCond .eq 22, 3) := by decide +kernel
theorem dX9_length_15 : decode cX9_length 15 = .ok (.aload_n 0, 1) := by decide +kernel
theorem dX9_length_16 : decode cX9_length 16 = .ok (.getfield 19, 3) := by decide +kernel
theorem dX9_length_19 : decode cX9_length 19 = .ok (.getfield 247, 3) := by decide +kernel
theorem dX9_length_22 : decode cX9_length 22 = .ok (.aload_n 0, 1) := by decide +kernel
theorem dX9_length_23 : decode cX9_length 23 = .ok (.getfield 19, 3) := by decide +kernel
theorem dX9_length_26 : decode cX9_length 26 = .ok (.iload_n 1, 1) := by decide +kernel
theorem dX9_length_27 : decode cX9_length 27 = .ok (.invokevirtual 244, 3) := by decide +kernel
theorem dX9_length_30 : decode cX9_length 30 = .ok (.iaload, 1) := by decide +kernel
theorem dX9_length_31 : decode cX9_length 31 = .ok (.goto 4, 3) := by decide +kernel
theorem dX9_length_34 : decode cX9_length 34 = .ok (.iconst (-1), 1) := by decide +kernel
theorem dX9_length_35 : decode cX9_length 35 = .ok (.ireturn, 1) := by decide +kernel
theorem dX9_checksum_0 : decode cX9_checksum 0 = .ok (.aload_n 0, 1) := by decide +kernel
theorem dX9_checksum_1 : decode cX9_checksum 1 = .ok (.getfield 19, 3) := by decide +kernel
theorem dX9_checksum_4 : decode cX9_checksum 4 = .ok (.getfield 250, 3) := by decide +kernel
theorem dX9_checksum_7 : decode cX9_checksum 7 = .ok (.ireturn, 1) := by decide +kernel
theorem dX9_fingerprint_0 : decode cX9_fingerprint 0 = .ok (.ldc2_w 253, 3) := by decide +kernel
theorem dX9_fingerprint_3 : decode cX9_fingerprint 3 = .ok (.aload_n 0, 1) := by decide +kernel
theorem dX9_fingerprint_4 : decode cX9_fingerprint 4 = .ok (.getfield 10, 3) := by decide +kernel
theorem dX9_fingerprint_7 : decode cX9_fingerprint 7 = .ok (.getfield 166, 3) := by decide +kernel
theorem dX9_fingerprint_10 : decode cX9_fingerprint 10 = .ok (.invokestatic 255, 3) := by decide +kernel
theorem dX9_fingerprint_13 : decode cX9_fingerprint 13 = .ok (.lstore_n 1, 1) := by decide +kernel
theorem dX9_fingerprint_14 : decode cX9_fingerprint 14 = .ok (.iconst 0, 1) := by decide +kernel
theorem dX9_fingerprint_15 : decode cX9_fingerprint 15 = .ok (.istore_n 3, 1) := by decide +kernel
theorem dX9_fingerprint_16 : decode cX9_fingerprint 16 = .ok (.iload_n 3, 1) := by decide +kernel
theorem dX9_fingerprint_17 : decode cX9_fingerprint 17 = .ok (.bipush 6, 2) := by decide +kernel
theorem dX9_fingerprint_19 : decode cX9_fingerprint 19 = .ok (.if_icmp .ge 19, 3) := by decide +kernel
theorem dX9_fingerprint_22 : decode cX9_fingerprint 22 = .ok (.lload_n 1, 1) := by decide +kernel
theorem dX9_fingerprint_23 : decode cX9_fingerprint 23 = .ok (.aload_n 0, 1) := by decide +kernel
theorem dX9_fingerprint_24 : decode cX9_fingerprint 24 = .ok (.iload_n 3, 1) := by decide +kernel
theorem dX9_fingerprint_25 : decode cX9_fingerprint 25 = .ok (.invokevirtual 259, 3) := by decide +kernel
theorem dX9_fingerprint_28 : decode cX9_fingerprint 28 = .ok (.invokestatic 255, 3) := by decide +kernel
theorem dX9_fingerprint_31 : decode cX9_fingerprint 31 = .ok (.lstore_n 1, 1) := by decide +kernel
theorem dX9_fingerprint_32 : decode cX9_fingerprint 32 = .ok (.iinc 3 1, 3) := by decide +kernel
theorem dX9_fingerprint_35 : decode cX9_fingerprint 35 = .ok (.goto (-19), 3) := by decide +kernel
theorem dX9_fingerprint_38 : decode cX9_fingerprint 38 = .ok (.iconst 0, 1) := by decide +kernel
theorem dX9_fingerprint_39 : decode cX9_fingerprint 39 = .ok (.istore_n 3, 1) := by decide +kernel
theorem dX9_fingerprint_40 : decode cX9_fingerprint 40 = .ok (.iload_n 3, 1) := by decide +kernel
theorem dX9_fingerprint_41 : decode cX9_fingerprint 41 = .ok (.iconst 3, 1) := by decide +kernel
theorem dX9_fingerprint_42 : decode cX9_fingerprint 42 = .ok (.if_icmp .ge 19, 3) := by decide +kernel
theorem dX9_fingerprint_45 : decode cX9_fingerprint 45 = .ok (.lload_n 1, 1) := by decide +kernel
theorem dX9_fingerprint_46 : decode cX9_fingerprint 46 = .ok (.aload_n 0, 1) := by decide +kernel
theorem dX9_fingerprint_47 : decode cX9_fingerprint 47 = .ok (.iload_n 3, 1) := by decide +kernel
theorem dX9_fingerprint_48 : decode cX9_fingerprint 48 = .ok (.invokevirtual 261, 3) := by decide +kernel
theorem dX9_fingerprint_51 : decode cX9_fingerprint 51 = .ok (.invokestatic 255, 3) := by decide +kernel
theorem dX9_fingerprint_54 : decode cX9_fingerprint 54 = .ok (.lstore_n 1, 1) := by decide +kernel
theorem dX9_fingerprint_55 : decode cX9_fingerprint 55 = .ok (.iinc 3 1, 3) := by decide +kernel
theorem dX9_fingerprint_58 : decode cX9_fingerprint 58 = .ok (.goto (-18), 3) := by decide +kernel
theorem dX9_fingerprint_61 : decode cX9_fingerprint 61 = .ok (.iconst 0, 1) := by decide +kernel
theorem dX9_fingerprint_62 : decode cX9_fingerprint 62 = .ok (.istore_n 3, 1) := by decide +kernel
theorem dX9_fingerprint_63 : decode cX9_fingerprint 63 = .ok (.iload_n 3, 1) := by decide +kernel
theorem dX9_fingerprint_64 : decode cX9_fingerprint 64 = .ok (.aload_n 0, 1) := by decide +kernel
theorem dX9_fingerprint_65 : decode cX9_fingerprint 65 = .ok (.getfield 10, 3) := by decide +kernel
theorem dX9_fingerprint_68 : decode cX9_fingerprint 68 = .ok (.getfield 95, 3) := by decide +kernel
theorem dX9_fingerprint_71 : decode cX9_fingerprint 71 = .ok (.getfield 264, 3) := by decide +kernel
theorem dX9_fingerprint_74 : decode cX9_fingerprint 74 = .ok (.invokevirtual 267, 3) := by decide +kernel
theorem dX9_fingerprint_77 : decode cX9_fingerprint 77 = .ok (.if_icmp .ge 31, 3) := by decide +kernel
theorem dX9_fingerprint_80 : decode cX9_fingerprint 80 = .ok (.lload_n 1, 1) := by decide +kernel
theorem dX9_fingerprint_81 : decode cX9_fingerprint 81 = .ok (.aload_n 0, 1) := by decide +kernel
theorem dX9_fingerprint_82 : decode cX9_fingerprint 82 = .ok (.getfield 10, 3) := by decide +kernel
theorem dX9_fingerprint_85 : decode cX9_fingerprint 85 = .ok (.getfield 95, 3) := by decide +kernel
theorem dX9_fingerprint_88 : decode cX9_fingerprint 88 = .ok (.getfield 264, 3) := by decide +kernel
theorem dX9_fingerprint_91 : decode cX9_fingerprint 91 = .ok (.iload_n 3, 1) := by decide +kernel
theorem dX9_fingerprint_92 : decode cX9_fingerprint 92 = .ok (.invokevirtual 271, 3) := by decide +kernel
theorem dX9_fingerprint_95 : decode cX9_fingerprint 95 = .ok (.checkcast 99, 3) := by decide +kernel
theorem dX9_fingerprint_98 : decode cX9_fingerprint 98 = .ok (.invokestatic 275, 3) := by decide +kernel
theorem dX9_fingerprint_101 : decode cX9_fingerprint 101 = .ok (.lstore_n 1, 1) := by decide +kernel
theorem dX9_fingerprint_102 : decode cX9_fingerprint 102 = .ok (.iinc 3 1, 3) := by decide +kernel
theorem dX9_fingerprint_105 : decode cX9_fingerprint 105 = .ok (.goto (-42), 3) := by decide +kernel
theorem dX9_fingerprint_108 : decode cX9_fingerprint 108 = .ok (.iconst 1, 1) := by decide +kernel
theorem dX9_fingerprint_109 : decode cX9_fingerprint 109 = .ok (.istore_n 3, 1) := by decide +kernel
theorem dX9_fingerprint_110 : decode cX9_fingerprint 110 = .ok (.iload_n 3, 1) := by decide +kernel
theorem dX9_fingerprint_111 : decode cX9_fingerprint 111 = .ok (.iconst 3, 1) := by decide +kernel
theorem dX9_fingerprint_112 : decode cX9_fingerprint 112 = .ok (.if_icmp .gt 65, 3) := by decide +kernel
theorem dX9_fingerprint_115 : decode cX9_fingerprint 115 = .ok (.iconst 0, 1) := by decide +kernel
theorem dX9_fingerprint_116 : decode cX9_fingerprint 116 = .ok (.istore 4, 2) := by decide +kernel
theorem dX9_fingerprint_118 : decode cX9_fingerprint 118 = .ok (.iload 4, 2) := by decide +kernel
theorem dX9_fingerprint_120 : decode cX9_fingerprint 120 = .ok (.bipush 32, 2) := by decide +kernel
theorem dX9_fingerprint_122 : decode cX9_fingerprint 122 = .ok (.if_icmp .ge 49, 3) := by decide +kernel
theorem dX9_fingerprint_125 : decode cX9_fingerprint 125 = .ok (.lload_n 1, 1) := by decide +kernel
theorem dX9_fingerprint_126 : decode cX9_fingerprint 126 = .ok (.aload_n 0, 1) := by decide +kernel
theorem dX9_fingerprint_127 : decode cX9_fingerprint 127 = .ok (.getfield 10, 3) := by decide +kernel
theorem dX9_fingerprint_130 : decode cX9_fingerprint 130 = .ok (.getfield 51, 3) := by decide +kernel
theorem dX9_fingerprint_133 : decode cX9_fingerprint 133 = .ok (.iload_n 3, 1) := by decide +kernel
theorem dX9_fingerprint_134 : decode cX9_fingerprint 134 = .ok (.iconst 1, 1) := by decide +kernel
theorem dX9_fingerprint_135 : decode cX9_fingerprint 135 = .ok (.isub, 1) := by decide +kernel
theorem dX9_fingerprint_136 : decode cX9_fingerprint 136 = .ok (.aaload, 1) := by decide +kernel
theorem dX9_fingerprint_137 : decode cX9_fingerprint 137 = .ok (.getfield 68, 3) := by decide +kernel
theorem dX9_fingerprint_140 : decode cX9_fingerprint 140 = .ok (.iload 4, 2) := by decide +kernel
theorem dX9_fingerprint_142 : decode cX9_fingerprint 142 = .ok (.iaload, 1) := by decide +kernel
theorem dX9_fingerprint_143 : decode cX9_fingerprint 143 = .ok (.invokestatic 255, 3) := by decide +kernel
theorem dX9_fingerprint_146 : decode cX9_fingerprint 146 = .ok (.lstore_n 1, 1) := by decide +kernel
theorem dX9_fingerprint_147 : decode cX9_fingerprint 147 = .ok (.lload_n 1, 1) := by decide +kernel
theorem dX9_fingerprint_148 : decode cX9_fingerprint 148 = .ok (.aload_n 0, 1) := by decide +kernel
theorem dX9_fingerprint_149 : decode cX9_fingerprint 149 = .ok (.getfield 10, 3) := by decide +kernel
theorem dX9_fingerprint_152 : decode cX9_fingerprint 152 = .ok (.getfield 194, 3) := by decide +kernel
theorem dX9_fingerprint_155 : decode cX9_fingerprint 155 = .ok (.iload_n 3, 1) := by decide +kernel
theorem dX9_fingerprint_156 : decode cX9_fingerprint 156 = .ok (.iload 4, 2) := by decide +kernel
theorem dX9_fingerprint_158 : decode cX9_fingerprint 158 = .ok (.invokevirtual 204, 3) := by decide +kernel
theorem dX9_fingerprint_161 : decode cX9_fingerprint 161 = .ok (.invokestatic 255, 3) := by decide +kernel
theorem dX9_fingerprint_164 : decode cX9_fingerprint 164 = .ok (.lstore_n 1, 1) := by decide +kernel
theorem dX9_fingerprint_165 : decode cX9_fingerprint 165 = .ok (.iinc 4 1, 3) := by decide +kernel
theorem dX9_fingerprint_168 : decode cX9_fingerprint 168 = .ok (.goto (-50), 3) := by decide +kernel
theorem dX9_fingerprint_171 : decode cX9_fingerprint 171 = .ok (.iinc 3 1, 3) := by decide +kernel
theorem dX9_fingerprint_174 : decode cX9_fingerprint 174 = .ok (.goto (-64), 3) := by decide +kernel
theorem dX9_fingerprint_177 : decode cX9_fingerprint 177 = .ok (.lload_n 1, 1) := by decide +kernel
theorem dX9_fingerprint_178 : decode cX9_fingerprint 178 = .ok (.lreturn, 1) := by decide +kernel
theorem dX9_mix_0 : decode cX9_mix 0 = .ok (.ldc2_w 279, 3) := by decide +kernel
theorem dX9_mix_3 : decode cX9_mix 3 = .ok (.lload_n 0, 1) := by decide +kernel
theorem dX9_mix_4 : decode cX9_mix 4 = .ok (.lmul, 1) := by decide +kernel
theorem dX9_mix_5 : decode cX9_mix 5 = .ok (.iload_n 2, 1) := by decide +kernel
theorem dX9_mix_6 : decode cX9_mix 6 = .ok (.i2l, 1) := by decide +kernel
theorem dX9_mix_7 : decode cX9_mix 7 = .ok (.ladd, 1) := by decide +kernel
theorem dX9_mix_8 : decode cX9_mix 8 = .ok (.lreturn, 1) := by decide +kernel
theorem dX9_mixRequest_0 : decode cX9_mixRequest 0 = .ok (.lload_n 0, 1) := by decide +kernel
theorem dX9_mixRequest_1 : decode cX9_mixRequest 1 = .ok (.aload_n 2, 1) := by decide +kernel
theorem dX9_mixRequest_2 : decode cX9_mixRequest 2 = .ok (.getfield 133, 3) := by decide +kernel
theorem dX9_mixRequest_5 : decode cX9_mixRequest 5 = .ok (.invokestatic 255, 3) := by decide +kernel
theorem dX9_mixRequest_8 : decode cX9_mixRequest 8 = .ok (.lstore_n 3, 1) := by decide +kernel
theorem dX9_mixRequest_9 : decode cX9_mixRequest 9 = .ok (.lload_n 3, 1) := by decide +kernel
theorem dX9_mixRequest_10 : decode cX9_mixRequest 10 = .ok (.aload_n 2, 1) := by decide +kernel
theorem dX9_mixRequest_11 : decode cX9_mixRequest 11 = .ok (.getfield 136, 3) := by decide +kernel
theorem dX9_mixRequest_14 : decode cX9_mixRequest 14 = .ok (.invokestatic 255, 3) := by decide +kernel
theorem dX9_mixRequest_17 : decode cX9_mixRequest 17 = .ok (.lstore_n 3, 1) := by decide +kernel
theorem dX9_mixRequest_18 : decode cX9_mixRequest 18 = .ok (.lload_n 3, 1) := by decide +kernel
theorem dX9_mixRequest_19 : decode cX9_mixRequest 19 = .ok (.aload_n 2, 1) := by decide +kernel
theorem dX9_mixRequest_20 : decode cX9_mixRequest 20 = .ok (.getfield 139, 3) := by decide +kernel
theorem dX9_mixRequest_23 : decode cX9_mixRequest 23 = .ok (.invokestatic 255, 3) := by decide +kernel
theorem dX9_mixRequest_26 : decode cX9_mixRequest 26 = .ok (.lstore_n 3, 1) := by decide +kernel
theorem dX9_mixRequest_27 : decode cX9_mixRequest 27 = .ok (.aload_n 2, 1) := by decide +kernel
theorem dX9_mixRequest_28 : decode cX9_mixRequest 28 = .ok (.invokevirtual 149, 3) := by decide +kernel
theorem dX9_mixRequest_31 : decode cX9_mixRequest 31 = .ok (.ifCond .eq 33, 3) := by decide +kernel
theorem dX9_mixRequest_34 : decode cX9_mixRequest 34 = .ok (.iconst 0, 1) := by decide +kernel
theorem dX9_mixRequest_35 : decode cX9_mixRequest 35 = .ok (.istore 5, 2) := by decide +kernel
theorem dX9_mixRequest_37 : decode cX9_mixRequest 37 = .ok (.iload 5, 2) := by decide +kernel
theorem dX9_mixRequest_39 : decode cX9_mixRequest 39 = .ok (.aload_n 2, 1) := by decide +kernel
theorem dX9_mixRequest_40 : decode cX9_mixRequest 40 = .ok (.getfield 126, 3) := by decide +kernel
theorem dX9_mixRequest_43 : decode cX9_mixRequest 43 = .ok (.if_icmp .ge 21, 3) := by decide +kernel
theorem dX9_mixRequest_46 : decode cX9_mixRequest 46 = .ok (.lload_n 3, 1) := by decide +kernel
theorem dX9_mixRequest_47 : decode cX9_mixRequest 47 = .ok (.aload_n 2, 1) := by decide +kernel
theorem dX9_mixRequest_48 : decode cX9_mixRequest 48 = .ok (.getfield 110, 3) := by decide +kernel
theorem dX9_mixRequest_51 : decode cX9_mixRequest 51 = .ok (.iload 5, 2) := by decide +kernel
theorem dX9_mixRequest_53 : decode cX9_mixRequest 53 = .ok (.iaload, 1) := by decide +kernel
theorem dX9_mixRequest_54 : decode cX9_mixRequest 54 = .ok (.invokestatic 255, 3) := by decide +kernel
theorem dX9_mixRequest_57 : decode cX9_mixRequest 57 = .ok (.lstore_n 3, 1) := by decide +kernel
theorem dX9_mixRequest_58 : decode cX9_mixRequest 58 = .ok (.iinc 5 1, 3) := by decide +kernel
theorem dX9_mixRequest_61 : decode cX9_mixRequest 61 = .ok (.goto (-24), 3) := by decide +kernel
theorem dX9_mixRequest_64 : decode cX9_mixRequest 64 = .ok (.lload_n 3, 1) := by decide +kernel
theorem dX9_mixRequest_65 : decode cX9_mixRequest 65 = .ok (.lreturn, 1) := by decide +kernel
theorem dX9_needInRange_0 : decode cX9_needInRange 0 = .ok (.iload_n 0, 1) := by decide +kernel
theorem dX9_needInRange_1 : decode cX9_needInRange 1 = .ok (.iload_n 1, 1) := by decide +kernel
theorem dX9_needInRange_2 : decode cX9_needInRange 2 = .ok (.if_icmp .lt 8, 3) := by decide +kernel
theorem dX9_needInRange_5 : decode cX9_needInRange 5 = .ok (.iload_n 0, 1) := by decide +kernel
theorem dX9_needInRange_6 : decode cX9_needInRange 6 = .ok (.iload_n 2, 1) := by decide +kernel
theorem dX9_needInRange_7 : decode cX9_needInRange 7 = .ok (.if_icmp .le 14, 3) := by decide +kernel
theorem dX9_needInRange_10 : decode cX9_needInRange 10 = .ok (.new 281, 3) := by decide +kernel
theorem dX9_needInRange_13 : decode cX9_needInRange 13 = .ok (.dup, 1) := by decide +kernel
theorem dX9_needInRange_14 : decode cX9_needInRange 14 = .ok (.ldc_w 283, 3) := by decide +kernel
theorem dX9_needInRange_17 : decode cX9_needInRange 17 = .ok (.invokespecial 285, 3) := by decide +kernel
theorem dX9_needInRange_20 : decode cX9_needInRange 20 = .ok (.athrow, 1) := by decide +kernel
theorem dX9_needInRange_21 : decode cX9_needInRange 21 = .ok (.return_, 1) := by decide +kernel
theorem dX9_needClient_0 : decode cX9_needClient 0 = .ok (.iload_n 0, 1) := by decide +kernel
theorem dX9_needClient_1 : decode cX9_needClient 1 = .ok (.ifCond .lt 8, 3) := by decide +kernel
theorem dX9_needClient_4 : decode cX9_needClient 4 = .ok (.iload_n 0, 1) := by decide +kernel
theorem dX9_needClient_5 : decode cX9_needClient 5 = .ok (.iconst 4, 1) := by decide +kernel
theorem dX9_needClient_6 : decode cX9_needClient 6 = .ok (.if_icmp .lt 14, 3) := by decide +kernel
theorem dX9_needClient_9 : decode cX9_needClient 9 = .ok (.new 23, 3) := by decide +kernel
theorem dX9_needClient_12 : decode cX9_needClient 12 = .ok (.dup, 1) := by decide +kernel
theorem dX9_needClient_13 : decode cX9_needClient 13 = .ok (.ldc_w 286, 3) := by decide +kernel
theorem dX9_needClient_16 : decode cX9_needClient 16 = .ok (.invokespecial 27, 3) := by decide +kernel
theorem dX9_needClient_19 : decode cX9_needClient 19 = .ok (.athrow, 1) := by decide +kernel
theorem dX9_needClient_20 : decode cX9_needClient 20 = .ok (.return_, 1) := by decide +kernel
theorem dX9_needDevice_0 : decode cX9_needDevice 0 = .ok (.iload_n 0, 1) := by decide +kernel
theorem dX9_needDevice_1 : decode cX9_needDevice 1 = .ok (.iconst 1, 1) := by decide +kernel
theorem dX9_needDevice_2 : decode cX9_needDevice 2 = .ok (.if_icmp .lt 8, 3) := by decide +kernel
theorem dX9_needDevice_5 : decode cX9_needDevice 5 = .ok (.iload_n 0, 1) := by decide +kernel
theorem dX9_needDevice_6 : decode cX9_needDevice 6 = .ok (.iconst 3, 1) := by decide +kernel
theorem dX9_needDevice_7 : decode cX9_needDevice 7 = .ok (.if_icmp .le 14, 3) := by decide +kernel
theorem dX9_needDevice_10 : decode cX9_needDevice 10 = .ok (.new 23, 3) := by decide +kernel
theorem dX9_needDevice_13 : decode cX9_needDevice 13 = .ok (.dup, 1) := by decide +kernel
theorem dX9_needDevice_14 : decode cX9_needDevice 14 = .ok (.ldc_w 288, 3) := by decide +kernel
theorem dX9_needDevice_17 : decode cX9_needDevice 17 = .ok (.invokespecial 27, 3) := by decide +kernel
theorem dX9_needDevice_20 : decode cX9_needDevice 20 = .ok (.athrow, 1) := by decide +kernel
theorem dX9_needDevice_21 : decode cX9_needDevice 21 = .ok (.return_, 1) := by decide +kernel
theorem dX9_needRegister_0 : decode cX9_needRegister 0 = .ok (.iload_n 0, 1) := by decide +kernel
theorem dX9_needRegister_1 : decode cX9_needRegister 1 = .ok (.invokestatic 44, 3) := by decide +kernel
theorem dX9_needRegister_4 : decode cX9_needRegister 4 = .ok (.iload_n 1, 1) := by decide +kernel
theorem dX9_needRegister_5 : decode cX9_needRegister 5 = .ok (.ifCond .lt 9, 3) := by decide +kernel
theorem dX9_needRegister_8 : decode cX9_needRegister 8 = .ok (.iload_n 1, 1) := by decide +kernel
theorem dX9_needRegister_9 : decode cX9_needRegister 9 = .ok (.bipush 32, 2) := by decide +kernel
theorem dX9_needRegister_11 : decode cX9_needRegister 11 = .ok (.if_icmp .lt 14, 3) := by decide +kernel
theorem dX9_needRegister_14 : decode cX9_needRegister 14 = .ok (.new 23, 3) := by decide +kernel
theorem dX9_needRegister_17 : decode cX9_needRegister 17 = .ok (.dup, 1) := by decide +kernel
theorem dX9_needRegister_18 : decode cX9_needRegister 18 = .ok (.ldc_w 290, 3) := by decide +kernel
theorem dX9_needRegister_21 : decode cX9_needRegister 21 = .ok (.invokespecial 27, 3) := by decide +kernel
theorem dX9_needRegister_24 : decode cX9_needRegister 24 = .ok (.athrow, 1) := by decide +kernel
theorem dX9_needRegister_25 : decode cX9_needRegister 25 = .ok (.return_, 1) := by decide +kernel
theorem dX9_needState_0 : decode cX9_needState 0 = .ok (.iload_n 0, 1) := by decide +kernel
theorem dX9_needState_1 : decode cX9_needState 1 = .ok (.ifCond .lt 8, 3) := by decide +kernel
theorem dX9_needState_4 : decode cX9_needState 4 = .ok (.iload_n 0, 1) := by decide +kernel
theorem dX9_needState_5 : decode cX9_needState 5 = .ok (.iconst 3, 1) := by decide +kernel
theorem dX9_needState_6 : decode cX9_needState 6 = .ok (.if_icmp .lt 14, 3) := by decide +kernel
theorem dX9_needState_9 : decode cX9_needState 9 = .ok (.new 23, 3) := by decide +kernel
theorem dX9_needState_12 : decode cX9_needState 12 = .ok (.dup, 1) := by decide +kernel
theorem dX9_needState_13 : decode cX9_needState 13 = .ok (.ldc_w 292, 3) := by decide +kernel
theorem dX9_needState_16 : decode cX9_needState 16 = .ok (.invokespecial 27, 3) := by decide +kernel
theorem dX9_needState_19 : decode cX9_needState 19 = .ok (.athrow, 1) := by decide +kernel
theorem dX9_needState_20 : decode cX9_needState 20 = .ok (.return_, 1) := by decide +kernel
theorem dX9_needHeardIndex_0 : decode cX9_needHeardIndex 0 = .ok (.iload_n 0, 1) := by decide +kernel
theorem dX9_needHeardIndex_1 : decode cX9_needHeardIndex 1 = .ok (.ifCond .ge 13, 3) := by decide +kernel
theorem dX9_needHeardIndex_4 : decode cX9_needHeardIndex 4 = .ok (.new 23, 3) := by decide +kernel
theorem dX9_needHeardIndex_7 : decode cX9_needHeardIndex 7 = .ok (.dup, 1) := by decide +kernel
theorem dX9_needHeardIndex_8 : decode cX9_needHeardIndex 8 = .ok (.ldc 179, 2) := by decide +kernel
theorem dX9_needHeardIndex_10 : decode cX9_needHeardIndex 10 = .ok (.invokespecial 27, 3) := by decide +kernel
theorem dX9_needHeardIndex_13 : decode cX9_needHeardIndex 13 = .ok (.athrow, 1) := by decide +kernel
theorem dX9_needHeardIndex_14 : decode cX9_needHeardIndex 14 = .ok (.return_, 1) := by decide +kernel
theorem dX9_needRoomForRequest_0 : decode cX9_needRoomForRequest 0 = .ok (.aload_n 0, 1) := by decide +kernel
theorem dX9_needRoomForRequest_1 : decode cX9_needRoomForRequest 1 = .ok (.getfield 10, 3) := by decide +kernel
theorem dX9_needRoomForRequest_4 : decode cX9_needRoomForRequest 4 = .ok (.getfield 95, 3) := by decide +kernel
theorem dX9_needRoomForRequest_7 : decode cX9_needRoomForRequest 7 = .ok (.getfield 264, 3) := by decide +kernel
theorem dX9_needRoomForRequest_10 : decode cX9_needRoomForRequest 10 = .ok (.invokevirtual 267, 3) := by decide +kernel
theorem dX9_needRoomForRequest_13 : decode cX9_needRoomForRequest 13 = .ok (.bipush 40, 2) := by decide +kernel
theorem dX9_needRoomForRequest_15 : decode cX9_needRoomForRequest 15 = .ok (.if_icmp .lt 14, 3) := by decide +kernel
theorem dX9_needRoomForRequest_18 : decode cX9_needRoomForRequest 18 = .ok (.new 81, 3) := by decide +kernel
theorem dX9_needRoomForRequest_21 : decode cX9_needRoomForRequest 21 = .ok (.dup, 1) := by decide +kernel
theorem dX9_needRoomForRequest_22 : decode cX9_needRoomForRequest 22 = .ok (.ldc_w 294, 3) := by decide +kernel
theorem dX9_needRoomForRequest_25 : decode cX9_needRoomForRequest 25 = .ok (.invokespecial 85, 3) := by decide +kernel
theorem dX9_needRoomForRequest_28 : decode cX9_needRoomForRequest 28 = .ok (.athrow, 1) := by decide +kernel
theorem dX9_needRoomForRequest_29 : decode cX9_needRoomForRequest 29 = .ok (.return_, 1) := by decide +kernel
theorem dX9_neededRequest_0 : decode cX9_neededRequest 0 = .ok (.iload_n 1, 1) := by decide +kernel
theorem dX9_neededRequest_1 : decode cX9_neededRequest 1 = .ok (.ifCond .lt 20, 3) := by decide +kernel
theorem dX9_neededRequest_4 : decode cX9_neededRequest 4 = .ok (.iload_n 1, 1) := by decide +kernel
theorem dX9_neededRequest_5 : decode cX9_neededRequest 5 = .ok (.aload_n 0, 1) := by decide +kernel
theorem dX9_neededRequest_6 : decode cX9_neededRequest 6 = .ok (.getfield 10, 3) := by decide +kernel
theorem dX9_neededRequest_9 : decode cX9_neededRequest 9 = .ok (.getfield 95, 3) := by decide +kernel
theorem dX9_neededRequest_12 : decode cX9_neededRequest 12 = .ok (.getfield 264, 3) := by decide +kernel
theorem dX9_neededRequest_15 : decode cX9_neededRequest 15 = .ok (.invokevirtual 267, 3) := by decide +kernel
theorem dX9_neededRequest_18 : decode cX9_neededRequest 18 = .ok (.if_icmp .lt 14, 3) := by decide +kernel
theorem dX9_neededRequest_21 : decode cX9_neededRequest 21 = .ok (.new 23, 3) := by decide +kernel
theorem dX9_neededRequest_24 : decode cX9_neededRequest 24 = .ok (.dup, 1) := by decide +kernel
theorem dX9_neededRequest_25 : decode cX9_neededRequest 25 = .ok (.ldc_w 296, 3) := by decide +kernel
theorem dX9_neededRequest_28 : decode cX9_neededRequest 28 = .ok (.invokespecial 27, 3) := by decide +kernel
theorem dX9_neededRequest_31 : decode cX9_neededRequest 31 = .ok (.athrow, 1) := by decide +kernel
theorem dX9_neededRequest_32 : decode cX9_neededRequest 32 = .ok (.aload_n 0, 1) := by decide +kernel
theorem dX9_neededRequest_33 : decode cX9_neededRequest 33 = .ok (.getfield 10, 3) := by decide +kernel
theorem dX9_neededRequest_36 : decode cX9_neededRequest 36 = .ok (.getfield 95, 3) := by decide +kernel
theorem dX9_neededRequest_39 : decode cX9_neededRequest 39 = .ok (.getfield 264, 3) := by decide +kernel
theorem dX9_neededRequest_42 : decode cX9_neededRequest 42 = .ok (.iload_n 1, 1) := by decide +kernel
theorem dX9_neededRequest_43 : decode cX9_neededRequest 43 = .ok (.invokevirtual 271, 3) := by decide +kernel
theorem dX9_neededRequest_46 : decode cX9_neededRequest 46 = .ok (.checkcast 99, 3) := by decide +kernel
theorem dX9_neededRequest_49 : decode cX9_neededRequest 49 = .ok (.areturn, 1) := by decide +kernel
theorem dX9_nextSum_0 : decode cX9_nextSum 0 = .ok (.iload_n 0, 1) := by decide +kernel
theorem dX9_nextSum_1 : decode cX9_nextSum 1 = .ok (.iload_n 1, 1) := by decide +kernel
theorem dX9_nextSum_2 : decode cX9_nextSum 2 = .ok (.ixor, 1) := by decide +kernel
theorem dX9_nextSum_3 : decode cX9_nextSum 3 = .ok (.istore_n 2, 1) := by decide +kernel
theorem dX9_nextSum_4 : decode cX9_nextSum 4 = .ok (.iconst 0, 1) := by decide +kernel
theorem dX9_nextSum_5 : decode cX9_nextSum 5 = .ok (.istore_n 3, 1) := by decide +kernel
theorem dX9_nextSum_6 : decode cX9_nextSum 6 = .ok (.iload_n 3, 1) := by decide +kernel
theorem dX9_nextSum_7 : decode cX9_nextSum 7 = .ok (.bipush 8, 2) := by decide +kernel
theorem dX9_nextSum_9 : decode cX9_nextSum 9 = .ok (.if_icmp .ge 30, 3) := by decide +kernel
theorem dX9_nextSum_12 : decode cX9_nextSum 12 = .ok (.iload_n 2, 1) := by decide +kernel
theorem dX9_nextSum_13 : decode cX9_nextSum 13 = .ok (.iconst 1, 1) := by decide +kernel
theorem dX9_nextSum_14 : decode cX9_nextSum 14 = .ok (.iand, 1) := by decide +kernel
theorem dX9_nextSum_15 : decode cX9_nextSum 15 = .ok (.iconst 1, 1) := by decide +kernel
theorem dX9_nextSum_16 : decode cX9_nextSum 16 = .ok (.if_icmp .ne 13, 3) := by decide +kernel
theorem dX9_nextSum_19 : decode cX9_nextSum 19 = .ok (.iload_n 2, 1) := by decide +kernel
theorem dX9_nextSum_20 : decode cX9_nextSum 20 = .ok (.iconst 1, 1) := by decide +kernel
theorem dX9_nextSum_21 : decode cX9_nextSum 21 = .ok (.ishr, 1) := by decide +kernel
theorem dX9_nextSum_22 : decode cX9_nextSum 22 = .ok (.ldc_w 298, 3) := by decide +kernel
theorem dX9_nextSum_25 : decode cX9_nextSum 25 = .ok (.ixor, 1) := by decide +kernel
theorem dX9_nextSum_26 : decode cX9_nextSum 26 = .ok (.goto 6, 3) := by decide +kernel
theorem dX9_nextSum_29 : decode cX9_nextSum 29 = .ok (.iload_n 2, 1) := by decide +kernel
theorem dX9_nextSum_30 : decode cX9_nextSum 30 = .ok (.iconst 1, 1) := by decide +kernel
theorem dX9_nextSum_31 : decode cX9_nextSum 31 = .ok (.ishr, 1) := by decide +kernel
theorem dX9_nextSum_32 : decode cX9_nextSum 32 = .ok (.istore_n 2, 1) := by decide +kernel
theorem dX9_nextSum_33 : decode cX9_nextSum 33 = .ok (.iinc 3 1, 3) := by decide +kernel
theorem dX9_nextSum_36 : decode cX9_nextSum 36 = .ok (.goto (-30), 3) := by decide +kernel
theorem dX9_nextSum_39 : decode cX9_nextSum 39 = .ok (.iload_n 2, 1) := by decide +kernel
theorem dX9_nextSum_40 : decode cX9_nextSum 40 = .ok (.ireturn, 1) := by decide +kernel
