theorem dX0_init_0 : decode cX0_init 0 = .ok (.aload_n 0, 1) := by decide +kernel
theorem dX0_init_1 : decode cX0_init 1 = .ok (.invokespecial 3, 3) := by decide +kernel
theorem dX0_init_4 : decode cX0_init 4 = .ok (.aload_n 0, 1) := by decide +kernel
theorem dX0_init_5 : decode cX0_init 5 = .ok (.sipush 400, 3) := by decide +kernel
theorem dX0_init_8 : decode cX0_init 8 = .ok (.newarray .byte, 2) := by decide +kernel
theorem dX0_init_10 : decode cX0_init 10 = .ok (.putfield 9, 3) := by decide +kernel
theorem dX0_init_13 : decode cX0_init 13 = .ok (.return_, 1) := by decide +kernel
theorem dX1_init_0 : decode cX1_init 0 = .ok (.aload_n 0, 1) := by decide +kernel
theorem dX1_init_1 : decode cX1_init 1 = .ok (.invokespecial 3, 3) := by decide +kernel
theorem dX1_init_4 : decode cX1_init 4 = .ok (.aload_n 0, 1) := by decide +kernel
theorem dX1_init_5 : decode cX1_init 5 = .ok (.aload_n 1, 1) := by decide +kernel
theorem dX1_init_6 : decode cX1_init 6 = .ok (.getfield 9, 3) := by decide +kernel
theorem dX1_init_9 : decode cX1_init 9 = .ok (.putfield 15, 3) := by decide +kernel
theorem dX1_init_12 : decode cX1_init 12 = .ok (.aload_n 0, 1) := by decide +kernel
theorem dX1_init_13 : decode cX1_init 13 = .ok (.aload_n 1, 1) := by decide +kernel
theorem dX1_init_14 : decode cX1_init 14 = .ok (.iconst 0, 1) := by decide +kernel
theorem dX1_init_15 : decode cX1_init 15 = .ok (.aload_n 1, 1) := by decide +kernel
theorem dX1_init_16 : decode cX1_init 16 = .ok (.getfield 9, 3) := by decide +kernel
theorem dX1_init_19 : decode cX1_init 19 = .ok (.invokevirtual 20, 3) := by decide +kernel
theorem dX1_init_22 : decode cX1_init 22 = .ok (.putfield 24, 3) := by decide +kernel
theorem dX1_init_25 : decode cX1_init 25 = .ok (.aload_n 0, 1) := by decide +kernel
theorem dX1_init_26 : decode cX1_init 26 = .ok (.aload_n 2, 1) := by decide +kernel
theorem dX1_init_27 : decode cX1_init 27 = .ok (.getfield 9, 3) := by decide +kernel
theorem dX1_init_30 : decode cX1_init 30 = .ok (.newarray .int, 2) := by decide +kernel
theorem dX1_init_32 : decode cX1_init 32 = .ok (.putfield 27, 3) := by decide +kernel
theorem dX1_init_35 : decode cX1_init 35 = .ok (.aload_n 0, 1) := by decide +kernel
theorem dX1_init_36 : decode cX1_init 36 = .ok (.aload_n 2, 1) := by decide +kernel
theorem dX1_init_37 : decode cX1_init 37 = .ok (.getfield 9, 3) := by decide +kernel
theorem dX1_init_40 : decode cX1_init 40 = .ok (.newarray .int, 2) := by decide +kernel
theorem dX1_init_42 : decode cX1_init 42 = .ok (.putfield 31, 3) := by decide +kernel
theorem dX1_init_45 : decode cX1_init 45 = .ok (.aload_n 0, 1) := by decide +kernel
theorem dX1_init_46 : decode cX1_init 46 = .ok (.aload_n 2, 1) := by decide +kernel
theorem dX1_init_47 : decode cX1_init 47 = .ok (.getfield 9, 3) := by decide +kernel
theorem dX1_init_50 : decode cX1_init 50 = .ok (.newarray .byte, 2) := by decide +kernel
theorem dX1_init_52 : decode cX1_init 52 = .ok (.putfield 34, 3) := by decide +kernel
theorem dX1_init_55 : decode cX1_init 55 = .ok (.return_, 1) := by decide +kernel
theorem dX1_fill_0 : decode cX1_fill 0 = .ok (.iconst 0, 1) := by decide +kernel
theorem dX1_fill_1 : decode cX1_fill 1 = .ok (.istore_n 3, 1) := by decide +kernel
theorem dX1_fill_2 : decode cX1_fill 2 = .ok (.iconst 0, 1) := by decide +kernel
theorem dX1_fill_3 : decode cX1_fill 3 = .ok (.istore 4, 2) := by decide +kernel
theorem dX1_fill_5 : decode cX1_fill 5 = .ok (.iload 4, 2) := by decide +kernel
theorem dX1_fill_7 : decode cX1_fill 7 = .ok (.aload_n 2, 1) := by decide +kernel
theorem dX1_fill_8 : decode cX1_fill 8 = .ok (.getfield 9, 3) := by decide +kernel
theorem dX1_fill_11 : decode cX1_fill 11 = .ok (.if_icmp .ge 80, 3) := by decide +kernel
theorem dX1_fill_14 : decode cX1_fill 14 = .ok (.iload_n 3, 1) := by decide +kernel
theorem dX1_fill_15 : decode cX1_fill 15 = .ok (.aload_n 2, 1) := by decide +kernel
theorem dX1_fill_16 : decode cX1_fill 16 = .ok (.getfield 9, 3) := by decide +kernel
theorem dX1_fill_19 : decode cX1_fill 19 = .ok (.if_icmp .ge 72, 3) := by decide +kernel
theorem dX1_fill_22 : decode cX1_fill 22 = .ok (.aload_n 1, 1) := by decide +kernel
theorem dX1_fill_23 : decode cX1_fill 23 = .ok (.aload_n 2, 1) := by decide +kernel
theorem dX1_fill_24 : decode cX1_fill 24 = .ok (.iload_n 3, 1) := by decide +kernel
theorem dX1_fill_25 : decode cX1_fill 25 = .ok (.invokestatic 38, 3) := by decide +kernel
theorem dX1_fill_28 : decode cX1_fill 28 = .ok (.istore 5, 2) := by decide +kernel
theorem dX1_fill_30 : decode cX1_fill 30 = .ok (.iload 5, 2) := by decide +kernel
theorem dX1_fill_32 : decode cX1_fill 32 = .ok (.iconst (-1), 1) := by decide +kernel
theorem dX1_fill_33 : decode cX1_fill 33 = .ok (.if_icmp .ne 18, 3) := by decide +kernel
theorem dX1_fill_36 : decode cX1_fill 36 = .ok (.aload_n 0, 1) := by decide +kernel
theorem dX1_fill_37 : decode cX1_fill 37 = .ok (.aload_n 2, 1) := by decide +kernel
theorem dX1_fill_38 : decode cX1_fill 38 = .ok (.iload_n 3, 1) := by decide +kernel
theorem dX1_fill_39 : decode cX1_fill 39 = .ok (.invokevirtual 42, 3) := by decide +kernel
theorem dX1_fill_42 : decode cX1_fill 42 = .ok (.invokevirtual 46, 3) := by decide +kernel
theorem dX1_fill_45 : decode cX1_fill 45 = .ok (.iinc 3 1, 3) := by decide +kernel
theorem dX1_fill_48 : decode cX1_fill 48 = .ok (.goto 37, 3) := by decide +kernel
theorem dX1_fill_51 : decode cX1_fill 51 = .ok (.aload_n 1, 1) := by decide +kernel
theorem dX1_fill_52 : decode cX1_fill 52 = .ok (.iload 5, 2) := by decide +kernel
theorem dX1_fill_54 : decode cX1_fill 54 = .ok (.aload_n 2, 1) := by decide +kernel
theorem dX1_fill_55 : decode cX1_fill 55 = .ok (.iload_n 3, 1) := by decide +kernel
theorem dX1_fill_56 : decode cX1_fill 56 = .ok (.invokestatic 50, 3) := by decide +kernel
theorem dX1_fill_59 : decode cX1_fill 59 = .ok (.istore 6, 2) := by decide +kernel
theorem dX1_fill_61 : decode cX1_fill 61 = .ok (.aload_n 0, 1) := by decide +kernel
theorem dX1_fill_62 : decode cX1_fill 62 = .ok (.iload 5, 2) := by decide +kernel
theorem dX1_fill_64 : decode cX1_fill 64 = .ok (.iload 6, 2) := by decide +kernel
theorem dX1_fill_66 : decode cX1_fill 66 = .ok (.invokevirtual 54, 3) := by decide +kernel
theorem dX1_fill_69 : decode cX1_fill 69 = .ok (.aload_n 0, 1) := by decide +kernel
theorem dX1_fill_70 : decode cX1_fill 70 = .ok (.dup, 1) := by decide +kernel
theorem dX1_fill_71 : decode cX1_fill 71 = .ok (.getfield 58, 3) := by decide +kernel
theorem dX1_fill_74 : decode cX1_fill 74 = .ok (.iload 6, 2) := by decide +kernel
theorem dX1_fill_76 : decode cX1_fill 76 = .ok (.iadd, 1) := by decide +kernel
theorem dX1_fill_77 : decode cX1_fill 77 = .ok (.putfield 58, 3) := by decide +kernel
theorem dX1_fill_80 : decode cX1_fill 80 = .ok (.iload_n 3, 1) := by decide +kernel
theorem dX1_fill_81 : decode cX1_fill 81 = .ok (.iload 6, 2) := by decide +kernel
theorem dX1_fill_83 : decode cX1_fill 83 = .ok (.iadd, 1) := by decide +kernel
theorem dX1_fill_84 : decode cX1_fill 84 = .ok (.istore_n 3, 1) := by decide +kernel
theorem dX1_fill_85 : decode cX1_fill 85 = .ok (.iinc 4 1, 3) := by decide +kernel
theorem dX1_fill_88 : decode cX1_fill 88 = .ok (.goto (-83), 3) := by decide +kernel
theorem dX1_fill_91 : decode cX1_fill 91 = .ok (.return_, 1) := by decide +kernel
theorem dX1_longestLike_0 : decode cX1_longestLike 0 = .ok (.iconst (-1), 1) := by decide +kernel
theorem dX1_longestLike_1 : decode cX1_longestLike 1 = .ok (.istore_n 3, 1) := by decide +kernel
theorem dX1_longestLike_2 : decode cX1_longestLike 2 = .ok (.iconst 3, 1) := by decide +kernel
theorem dX1_longestLike_3 : decode cX1_longestLike 3 = .ok (.istore 4, 2) := by decide +kernel
theorem dX1_longestLike_5 : decode cX1_longestLike 5 = .ok (.iconst 0, 1) := by decide +kernel
theorem dX1_longestLike_6 : decode cX1_longestLike 6 = .ok (.istore 5, 2) := by decide +kernel
theorem dX1_longestLike_8 : decode cX1_longestLike 8 = .ok (.iload 5, 2) := by decide +kernel
theorem dX1_longestLike_10 : decode cX1_longestLike 10 = .ok (.aload_n 0, 1) := by decide +kernel
theorem dX1_longestLike_11 : decode cX1_longestLike 11 = .ok (.getfield 9, 3) := by decide +kernel
theorem dX1_longestLike_14 : decode cX1_longestLike 14 = .ok (.if_icmp .ge 44, 3) := by decide +kernel
theorem dX1_longestLike_17 : decode cX1_longestLike 17 = .ok (.iload 4, 2) := by decide +kernel
theorem dX1_longestLike_19 : decode cX1_longestLike 19 = .ok (.aload_n 1, 1) := by decide +kernel
theorem dX1_longestLike_20 : decode cX1_longestLike 20 = .ok (.getfield 9, 3) := by decide +kernel
theorem dX1_longestLike_23 : decode cX1_longestLike 23 = .ok (.iload_n 2, 1) := by decide +kernel
theorem dX1_longestLike_24 : decode cX1_longestLike 24 = .ok (.isub, 1) := by decide +kernel
theorem dX1_longestLike_25 : decode cX1_longestLike 25 = .ok (.if_icmp .ge 33, 3) := by decide +kernel
theorem dX1_longestLike_28 : decode cX1_longestLike 28 = .ok (.aload_n 0, 1) := by decide +kernel
theorem dX1_longestLike_29 : decode cX1_longestLike 29 = .ok (.iload 5, 2) := by decide +kernel
theorem dX1_longestLike_31 : decode cX1_longestLike 31 = .ok (.aload_n 1, 1) := by decide +kernel
theorem dX1_longestLike_32 : decode cX1_longestLike 32 = .ok (.iload_n 2, 1) := by decide +kernel
theorem dX1_longestLike_33 : decode cX1_longestLike 33 = .ok (.invokestatic 50, 3) := by decide +kernel
theorem dX1_longestLike_36 : decode cX1_longestLike 36 = .ok (.istore 6, 2) := by decide +kernel
theorem dX1_longestLike_38 : decode cX1_longestLike 38 = .ok (.iload 6, 2) := by decide +kernel
theorem dX1_longestLike_40 : decode cX1_longestLike 40 = .ok (.iload 4, 2) := by decide +kernel
theorem dX1_longestLike_42 : decode cX1_longestLike 42 = .ok (.if_icmp .le 10, 3) := by decide +kernel
theorem dX1_longestLike_45 : decode cX1_longestLike 45 = .ok (.iload 6, 2) := by decide +kernel
theorem dX1_longestLike_47 : decode cX1_longestLike 47 = .ok (.istore 4, 2) := by decide +kernel
theorem dX1_longestLike_49 : decode cX1_longestLike 49 = .ok (.iload 5, 2) := by decide +kernel
theorem dX1_longestLike_51 : decode cX1_longestLike 51 = .ok (.istore_n 3, 1) := by decide +kernel
theorem dX1_longestLike_52 : decode cX1_longestLike 52 = .ok (.iinc 5 1, 3) := by decide +kernel
theorem dX1_longestLike_55 : decode cX1_longestLike 55 = .ok (.goto (-47), 3) := by decide +kernel
theorem dX1_longestLike_58 : decode cX1_longestLike 58 = .ok (.iload_n 3, 1) := by decide +kernel
theorem dX1_longestLike_59 : decode cX1_longestLike 59 = .ok (.ireturn, 1) := by decide +kernel
theorem dX1_likeBytes_0 : decode cX1_likeBytes 0 = .ok (.aload_n 0, 1) := by decide +kernel
theorem dX1_likeBytes_1 : decode cX1_likeBytes 1 = .ok (.getfield 9, 3) := by decide +kernel
theorem dX1_likeBytes_4 : decode cX1_likeBytes 4 = .ok (.iload_n 1, 1) := by decide +kernel
theorem dX1_likeBytes_5 : decode cX1_likeBytes 5 = .ok (.isub, 1) := by decide +kernel
theorem dX1_likeBytes_6 : decode cX1_likeBytes 6 = .ok (.aload_n 2, 1) := by decide +kernel
theorem dX1_likeBytes_7 : decode cX1_likeBytes 7 = .ok (.getfield 9, 3) := by decide +kernel
theorem dX1_likeBytes_10 : decode cX1_likeBytes 10 = .ok (.iload_n 3, 1) := by decide +kernel
theorem dX1_likeBytes_11 : decode cX1_likeBytes 11 = .ok (.isub, 1) := by decide +kernel
theorem dX1_likeBytes_12 : decode cX1_likeBytes 12 = .ok (.invokestatic 61, 3) := by decide +kernel
theorem dX1_likeBytes_15 : decode cX1_likeBytes 15 = .ok (.istore 4, 2) := by decide +kernel
theorem dX1_likeBytes_17 : decode cX1_likeBytes 17 = .ok (.iconst 0, 1) := by decide +kernel
theorem dX1_likeBytes_18 : decode cX1_likeBytes 18 = .ok (.istore 5, 2) := by decide +kernel
theorem dX1_likeBytes_20 : decode cX1_likeBytes 20 = .ok (.iload 5, 2) := by decide +kernel
theorem dX1_likeBytes_22 : decode cX1_likeBytes 22 = .ok (.iload 4, 2) := by decide +kernel
theorem dX1_likeBytes_24 : decode cX1_likeBytes 24 = .ok (.if_icmp .ge 30, 3) := by decide +kernel
theorem dX1_likeBytes_27 : decode cX1_likeBytes 27 = .ok (.aload_n 0, 1) := by decide +kernel
theorem dX1_likeBytes_28 : decode cX1_likeBytes 28 = .ok (.getfield 66, 3) := by decide +kernel
theorem dX1_likeBytes_31 : decode cX1_likeBytes 31 = .ok (.iload_n 1, 1) := by decide +kernel
theorem dX1_likeBytes_32 : decode cX1_likeBytes 32 = .ok (.iload 5, 2) := by decide +kernel
theorem dX1_likeBytes_34 : decode cX1_likeBytes 34 = .ok (.iadd, 1) := by decide +kernel
theorem dX1_likeBytes_35 : decode cX1_likeBytes 35 = .ok (.baload, 1) := by decide +kernel
theorem dX1_likeBytes_36 : decode cX1_likeBytes 36 = .ok (.aload_n 2, 1) := by decide +kernel
theorem dX1_likeBytes_37 : decode cX1_likeBytes 37 = .ok (.getfield 66, 3) := by decide +kernel
theorem dX1_likeBytes_40 : decode cX1_likeBytes 40 = .ok (.iload_n 3, 1) := by decide +kernel
theorem dX1_likeBytes_41 : decode cX1_likeBytes 41 = .ok (.iload 5, 2) := by decide +kernel
theorem dX1_likeBytes_43 : decode cX1_likeBytes 43 = .ok (.iadd, 1) := by decide +kernel
theorem dX1_likeBytes_44 : decode cX1_likeBytes 44 = .ok (.baload, 1) := by decide +kernel
theorem dX1_likeBytes_45 : decode cX1_likeBytes 45 = .ok (.if_icmp .ne 9, 3) := by decide +kernel
theorem dX1_likeBytes_48 : decode cX1_likeBytes 48 = .ok (.iinc 5 1, 3) := by decide +kernel
theorem dX1_likeBytes_51 : decode cX1_likeBytes 51 = .ok (.goto (-31), 3) := by decide +kernel
theorem dX1_likeBytes_54 : decode cX1_likeBytes 54 = .ok (.iload 5, 2) := by decide +kernel
theorem dX1_likeBytes_56 : decode cX1_likeBytes 56 = .ok (.ireturn, 1) := by decide +kernel
theorem dX1_newAct_0 : decode cX1_newAct 0 = .ok (.aload_n 0, 1) := by decide +kernel
theorem dX1_newAct_1 : decode cX1_newAct 1 = .ok (.getfield 69, 3) := by decide +kernel
theorem dX1_newAct_4 : decode cX1_newAct 4 = .ok (.aload_n 0, 1) := by decide +kernel
theorem dX1_newAct_5 : decode cX1_newAct 5 = .ok (.getfield 27, 3) := by decide +kernel
theorem dX1_newAct_8 : decode cX1_newAct 8 = .ok (.arraylength, 1) := by decide +kernel
theorem dX1_newAct_9 : decode cX1_newAct 9 = .ok (.if_icmp .lt 4, 3) := by decide +kernel
theorem dX1_newAct_12 : decode cX1_newAct 12 = .ok (.return_, 1) := by decide +kernel
theorem dX1_newAct_13 : decode cX1_newAct 13 = .ok (.aload_n 0, 1) := by decide +kernel
theorem dX1_newAct_14 : decode cX1_newAct 14 = .ok (.getfield 27, 3) := by decide +kernel
theorem dX1_newAct_17 : decode cX1_newAct 17 = .ok (.aload_n 0, 1) := by decide +kernel
theorem dX1_newAct_18 : decode cX1_newAct 18 = .ok (.getfield 69, 3) := by decide +kernel
theorem dX1_newAct_21 : decode cX1_newAct 21 = .ok (.iload_n 1, 1) := by decide +kernel
theorem dX1_newAct_22 : decode cX1_newAct 22 = .ok (.iastore, 1) := by decide +kernel
theorem dX1_newAct_23 : decode cX1_newAct 23 = .ok (.aload_n 0, 1) := by decide +kernel
theorem dX1_newAct_24 : decode cX1_newAct 24 = .ok (.getfield 31, 3) := by decide +kernel
theorem dX1_newAct_27 : decode cX1_newAct 27 = .ok (.aload_n 0, 1) := by decide +kernel
theorem dX1_newAct_28 : decode cX1_newAct 28 = .ok (.getfield 69, 3) := by decide +kernel
theorem dX1_newAct_31 : decode cX1_newAct 31 = .ok (.iload_n 2, 1) := by decide +kernel
theorem dX1_newAct_32 : decode cX1_newAct 32 = .ok (.iastore, 1) := by decide +kernel
theorem dX1_newAct_33 : decode cX1_newAct 33 = .ok (.aload_n 0, 1) := by decide +kernel
theorem dX1_newAct_34 : decode cX1_newAct 34 = .ok (.dup, 1) := by decide +kernel
theorem dX1_newAct_35 : decode cX1_newAct 35 = .ok (.getfield 69, 3) := by decide +kernel
theorem dX1_newAct_38 : decode cX1_newAct 38 = .ok (.iconst 1, 1) := by decide +kernel
theorem dX1_newAct_39 : decode cX1_newAct 39 = .ok (.iadd, 1) := by decide +kernel
theorem dX1_newAct_40 : decode cX1_newAct 40 = .ok (.putfield 69, 3) := by decide +kernel
theorem dX1_newAct_43 : decode cX1_newAct 43 = .ok (.return_, 1) := by decide +kernel
theorem dX1_addByte_0 : decode cX1_addByte 0 = .ok (.aload_n 0, 1) := by decide +kernel
theorem dX1_addByte_1 : decode cX1_addByte 1 = .ok (.getfield 72, 3) := by decide +kernel
theorem dX1_addByte_4 : decode cX1_addByte 4 = .ok (.aload_n 0, 1) := by decide +kernel
theorem dX1_addByte_5 : decode cX1_addByte 5 = .ok (.getfield 34, 3) := by decide +kernel
theorem dX1_addByte_8 : decode cX1_addByte 8 = .ok (.arraylength, 1) := by decide +kernel
theorem dX1_addByte_9 : decode cX1_addByte 9 = .ok (.if_icmp .lt 4, 3) := by decide +kernel
theorem dX1_addByte_12 : decode cX1_addByte 12 = .ok (.return_, 1) := by decide +kernel
theorem dX1_addByte_13 : decode cX1_addByte 13 = .ok (.aload_n 0, 1) := by decide +kernel
theorem dX1_addByte_14 : decode cX1_addByte 14 = .ok (.getfield 69, 3) := by decide +kernel
theorem dX1_addByte_17 : decode cX1_addByte 17 = .ok (.ifCond .eq 18, 3) := by decide +kernel
theorem dX1_addByte_20 : decode cX1_addByte 20 = .ok (.aload_n 0, 1) := by decide +kernel
theorem dX1_addByte_21 : decode cX1_addByte 21 = .ok (.getfield 27, 3) := by decide +kernel
theorem dX1_addByte_24 : decode cX1_addByte 24 = .ok (.aload_n 0, 1) := by decide +kernel
theorem dX1_addByte_25 : decode cX1_addByte 25 = .ok (.getfield 69, 3) := by decide +kernel
theorem dX1_addByte_28 : decode cX1_addByte 28 = .ok (.iconst 1, 1) := by decide +kernel
theorem dX1_addByte_29 : decode cX1_addByte 29 = .ok (.isub, 1) := by decide +kernel
theorem dX1_addByte_30 : decode cX1_addByte 30 = .ok (.iaload, 1) := by decide +kernel
theorem dX1_addByte_31 : decode cX1_addByte 31 = .ok (.iconst (-1), 1) := by decide +kernel
theorem dX1_addByte_32 : decode cX1_addByte 32 = .ok (.if_icmp .eq 9, 3) := by decide +kernel
theorem dX1_addByte_35 : decode cX1_addByte 35 = .ok (.aload_n 0, 1) := by decide +kernel
theorem dX1_addByte_36 : decode cX1_addByte 36 = .ok (.iconst (-1), 1) := by decide +kernel
theorem dX1_addByte_37 : decode cX1_addByte 37 = .ok (.iconst 0, 1) := by decide +kernel
theorem dX1_addByte_38 : decode cX1_addByte 38 = .ok (.invokevirtual 54, 3) := by decide +kernel
theorem dX1_addByte_41 : decode cX1_addByte 41 = .ok (.aload_n 0, 1) := by decide +kernel
theorem dX1_addByte_42 : decode cX1_addByte 42 = .ok (.getfield 34, 3) := by decide +kernel
theorem dX1_addByte_45 : decode cX1_addByte 45 = .ok (.aload_n 0, 1) := by decide +kernel
theorem dX1_addByte_46 : decode cX1_addByte 46 = .ok (.getfield 72, 3) := by decide +kernel
theorem dX1_addByte_49 : decode cX1_addByte 49 = .ok (.iload_n 1, 1) := by decide +kernel
theorem dX1_addByte_50 : decode cX1_addByte 50 = .ok (.i2b, 1) := by decide +kernel
theorem dX1_addByte_51 : decode cX1_addByte 51 = .ok (.bastore, 1) := by decide +kernel
theorem dX1_addByte_52 : decode cX1_addByte 52 = .ok (.aload_n 0, 1) := by decide +kernel
theorem dX1_addByte_53 : decode cX1_addByte 53 = .ok (.dup, 1) := by decide +kernel
theorem dX1_addByte_54 : decode cX1_addByte 54 = .ok (.getfield 72, 3) := by decide +kernel
theorem dX1_addByte_57 : decode cX1_addByte 57 = .ok (.iconst 1, 1) := by decide +kernel
theorem dX1_addByte_58 : decode cX1_addByte 58 = .ok (.iadd, 1) := by decide +kernel
theorem dX1_addByte_59 : decode cX1_addByte 59 = .ok (.putfield 72, 3) := by decide +kernel
theorem dX1_addByte_62 : decode cX1_addByte 62 = .ok (.aload_n 0, 1) := by decide +kernel
theorem dX1_addByte_63 : decode cX1_addByte 63 = .ok (.getfield 31, 3) := by decide +kernel
theorem dX1_addByte_66 : decode cX1_addByte 66 = .ok (.aload_n 0, 1) := by decide +kernel
theorem dX1_addByte_67 : decode cX1_addByte 67 = .ok (.getfield 69, 3) := by decide +kernel
theorem dX1_addByte_70 : decode cX1_addByte 70 = .ok (.iconst 1, 1) := by decide +kernel
theorem dX1_addByte_71 : decode cX1_addByte 71 = .ok (.isub, 1) := by decide +kernel
theorem dX1_addByte_72 : decode cX1_addByte 72 = .ok (.dup2, 1) := by decide +kernel
theorem dX1_addByte_73 : decode cX1_addByte 73 = .ok (.iaload, 1) := by decide +kernel
theorem dX1_addByte_74 : decode cX1_addByte 74 = .ok (.iconst 1, 1) := by decide +kernel
theorem dX1_addByte_75 : decode cX1_addByte 75 = .ok (.iadd, 1) := by decide +kernel
theorem dX1_addByte_76 : decode cX1_addByte 76 = .ok (.iastore, 1) := by decide +kernel
theorem dX1_addByte_77 : decode cX1_addByte 77 = .ok (.return_, 1) := by decide +kernel
theorem dX1_told_0 : decode cX1_told 0 = .ok (.iload_n 1, 1) := by decide +kernel
theorem dX1_told_1 : decode cX1_told 1 = .ok (.ifCond .ne 8, 3) := by decide +kernel
theorem dX1_told_4 : decode cX1_told 4 = .ok (.aload_n 0, 1) := by decide +kernel
theorem dX1_told_5 : decode cX1_told 5 = .ok (.getfield 69, 3) := by decide +kernel
theorem dX1_told_8 : decode cX1_told 8 = .ok (.ireturn, 1) := by decide +kernel
theorem dX1_told_9 : decode cX1_told 9 = .ok (.iload_n 1, 1) := by decide +kernel
theorem dX1_told_10 : decode cX1_told 10 = .ok (.iconst 1, 1) := by decide +kernel
theorem dX1_told_11 : decode cX1_told 11 = .ok (.if_icmp .ne 10, 3) := by decide +kernel
theorem dX1_told_14 : decode cX1_told 14 = .ok (.aload_n 0, 1) := by decide +kernel
theorem dX1_told_15 : decode cX1_told 15 = .ok (.getfield 58, 3) := by decide +kernel
theorem dX1_told_18 : decode cX1_told 18 = .ok (.goto 7, 3) := by decide +kernel
theorem dX1_told_21 : decode cX1_told 21 = .ok (.aload_n 0, 1) := by decide +kernel
theorem dX1_told_22 : decode cX1_told 22 = .ok (.getfield 72, 3) := by decide +kernel
theorem dX1_told_25 : decode cX1_told 25 = .ok (.ireturn, 1) := by decide +kernel
theorem dX1_toldOfAct_0 : decode cX1_toldOfAct 0 = .ok (.iload_n 2, 1) := by decide +kernel
theorem dX1_toldOfAct_1 : decode cX1_toldOfAct 1 = .ok (.ifCond .ne 19, 3) := by decide +kernel
theorem dX1_toldOfAct_4 : decode cX1_toldOfAct 4 = .ok (.aload_n 0, 1) := by decide +kernel
theorem dX1_toldOfAct_5 : decode cX1_toldOfAct 5 = .ok (.getfield 27, 3) := by decide +kernel
theorem dX1_toldOfAct_8 : decode cX1_toldOfAct 8 = .ok (.iload_n 1, 1) := by decide +kernel
theorem dX1_toldOfAct_9 : decode cX1_toldOfAct 9 = .ok (.iaload, 1) := by decide +kernel
theorem dX1_toldOfAct_10 : decode cX1_toldOfAct 10 = .ok (.iconst (-1), 1) := by decide +kernel
theorem dX1_toldOfAct_11 : decode cX1_toldOfAct 11 = .ok (.if_icmp .ne 7, 3) := by decide +kernel
theorem dX1_toldOfAct_14 : decode cX1_toldOfAct 14 = .ok (.iconst 1, 1) := by decide +kernel
theorem dX1_toldOfAct_15 : decode cX1_toldOfAct 15 = .ok (.goto 4, 3) := by decide +kernel
theorem dX1_toldOfAct_18 : decode cX1_toldOfAct 18 = .ok (.iconst 0, 1) := by decide +kernel
theorem dX1_toldOfAct_19 : decode cX1_toldOfAct 19 = .ok (.ireturn, 1) := by decide +kernel
theorem dX1_toldOfAct_20 : decode cX1_toldOfAct 20 = .ok (.iload_n 2, 1) := by decide +kernel
theorem dX1_toldOfAct_21 : decode cX1_toldOfAct 21 = .ok (.iconst 1, 1) := by decide +kernel
theorem dX1_toldOfAct_22 : decode cX1_toldOfAct 22 = .ok (.if_icmp .ne 12, 3) := by decide +kernel
theorem dX1_toldOfAct_25 : decode cX1_toldOfAct 25 = .ok (.aload_n 0, 1) := by decide +kernel
theorem dX1_toldOfAct_26 : decode cX1_toldOfAct 26 = .ok (.getfield 27, 3) := by decide +kernel
theorem dX1_toldOfAct_29 : decode cX1_toldOfAct 29 = .ok (.iload_n 1, 1) := by decide +kernel
theorem dX1_toldOfAct_30 : decode cX1_toldOfAct 30 = .ok (.iaload, 1) := by decide +kernel
theorem dX1_toldOfAct_31 : decode cX1_toldOfAct 31 = .ok (.goto 9, 3) := by decide +kernel
theorem dX1_toldOfAct_34 : decode cX1_toldOfAct 34 = .ok (.aload_n 0, 1) := by decide +kernel
theorem dX1_toldOfAct_35 : decode cX1_toldOfAct 35 = .ok (.getfield 31, 3) := by decide +kernel
theorem dX1_toldOfAct_38 : decode cX1_toldOfAct 38 = .ok (.iload_n 1, 1) := by decide +kernel
theorem dX1_toldOfAct_39 : decode cX1_toldOfAct 39 = .ok (.iaload, 1) := by decide +kernel
theorem dX1_toldOfAct_40 : decode cX1_toldOfAct 40 = .ok (.ireturn, 1) := by decide +kernel
theorem dX1_fits_0 : decode cX1_fits 0 = .ok (.aload_n 1, 1) := by decide +kernel
theorem dX1_fits_1 : decode cX1_fits 1 = .ok (.getfield 9, 3) := by decide +kernel
theorem dX1_fits_4 : decode cX1_fits 4 = .ok (.aload_n 0, 1) := by decide +kernel
theorem dX1_fits_5 : decode cX1_fits 5 = .ok (.getfield 15, 3) := by decide +kernel
theorem dX1_fits_8 : decode cX1_fits 8 = .ok (.if_icmp .ne 23, 3) := by decide +kernel
theorem dX1_fits_11 : decode cX1_fits 11 = .ok (.aload_n 1, 1) := by decide +kernel
theorem dX1_fits_12 : decode cX1_fits 12 = .ok (.iconst 0, 1) := by decide +kernel
theorem dX1_fits_13 : decode cX1_fits 13 = .ok (.aload_n 1, 1) := by decide +kernel
theorem dX1_fits_14 : decode cX1_fits 14 = .ok (.getfield 9, 3) := by decide +kernel
theorem dX1_fits_17 : decode cX1_fits 17 = .ok (.invokevirtual 20, 3) := by decide +kernel
theorem dX1_fits_20 : decode cX1_fits 20 = .ok (.aload_n 0, 1) := by decide +kernel
theorem dX1_fits_21 : decode cX1_fits 21 = .ok (.getfield 24, 3) := by decide +kernel
theorem dX1_fits_24 : decode cX1_fits 24 = .ok (.if_icmp .ne 7, 3) := by decide +kernel
theorem dX1_fits_27 : decode cX1_fits 27 = .ok (.iconst 1, 1) := by decide +kernel
theorem dX1_fits_28 : decode cX1_fits 28 = .ok (.goto 4, 3) := by decide +kernel
theorem dX1_fits_31 : decode cX1_fits 31 = .ok (.iconst 0, 1) := by decide +kernel
theorem dX1_fits_32 : decode cX1_fits 32 = .ok (.ireturn, 1) := by decide +kernel
theorem dX1_make_0 : decode cX1_make 0 = .ok (.iconst 0, 1) := by decide +kernel
theorem dX1_make_1 : decode cX1_make 1 = .ok (.istore_n 3, 1) := by decide +kernel
theorem dX1_make_2 : decode cX1_make 2 = .ok (.iconst 0, 1) := by decide +kernel
theorem dX1_make_3 : decode cX1_make 3 = .ok (.istore 4, 2) := by decide +kernel
theorem dX1_make_5 : decode cX1_make 5 = .ok (.iload 4, 2) := by decide +kernel
theorem dX1_make_7 : decode cX1_make 7 = .ok (.aload_n 0, 1) := by decide +kernel
theorem dX1_make_8 : decode cX1_make 8 = .ok (.getfield 69, 3) := by decide +kernel
theorem dX1_make_11 : decode cX1_make 11 = .ok (.if_icmp .ge 81, 3) := by decide +kernel
theorem dX1_make_14 : decode cX1_make 14 = .ok (.aload_n 0, 1) := by decide +kernel
theorem dX1_make_15 : decode cX1_make 15 = .ok (.getfield 27, 3) := by decide +kernel
theorem dX1_make_18 : decode cX1_make 18 = .ok (.iload 4, 2) := by decide +kernel
theorem dX1_make_20 : decode cX1_make 20 = .ok (.iaload, 1) := by decide +kernel
theorem dX1_make_21 : decode cX1_make 21 = .ok (.iconst (-1), 1) := by decide +kernel
theorem dX1_make_22 : decode cX1_make 22 = .ok (.if_icmp .ne 34, 3) := by decide +kernel
theorem dX1_make_25 : decode cX1_make 25 = .ok (.aload_n 2, 1) := by decide +kernel
theorem dX1_make_26 : decode cX1_make 26 = .ok (.aload_n 0, 1) := by decide +kernel
theorem dX1_make_27 : decode cX1_make 27 = .ok (.getfield 34, 3) := by decide +kernel
theorem dX1_make_30 : decode cX1_make 30 = .ok (.iload_n 3, 1) := by decide +kernel
theorem dX1_make_31 : decode cX1_make 31 = .ok (.iload_n 3, 1) := by decide +kernel
theorem dX1_make_32 : decode cX1_make 32 = .ok (.aload_n 0, 1) := by decide +kernel
theorem dX1_make_33 : decode cX1_make 33 = .ok (.getfield 31, 3) := by decide +kernel
theorem dX1_make_36 : decode cX1_make 36 = .ok (.iload 4, 2) := by decide +kernel
theorem dX1_make_38 : decode cX1_make 38 = .ok (.iaload, 1) := by decide +kernel
theorem dX1_make_39 : decode cX1_make 39 = .ok (.iadd, 1) := by decide +kernel
theorem dX1_make_40 : decode cX1_make 40 = .ok (.invokevirtual 75, 3) := by decide +kernel
theorem dX1_make_43 : decode cX1_make 43 = .ok (.iload_n 3, 1) := by decide +kernel
theorem dX1_make_44 : decode cX1_make 44 = .ok (.aload_n 0, 1) := by decide +kernel
theorem dX1_make_45 : decode cX1_make 45 = .ok (.getfield 31, 3) := by decide +kernel
theorem dX1_make_48 : decode cX1_make 48 = .ok (.iload 4, 2) := by decide +kernel
theorem dX1_make_50 : decode cX1_make 50 = .ok (.iaload, 1) := by decide +kernel
theorem dX1_make_51 : decode cX1_make 51 = .ok (.iadd, 1) := by decide +kernel
theorem dX1_make_52 : decode cX1_make 52 = .ok (.istore_n 3, 1) := by decide +kernel
theorem dX1_make_53 : decode cX1_make 53 = .ok (.goto 33, 3) := by decide +kernel
theorem dX1_make_56 : decode cX1_make 56 = .ok (.aload_n 2, 1) := by decide +kernel
theorem dX1_make_57 : decode cX1_make 57 = .ok (.aload_n 1, 1) := by decide +kernel
theorem dX1_make_58 : decode cX1_make 58 = .ok (.getfield 66, 3) := by decide +kernel
theorem dX1_make_61 : decode cX1_make 61 = .ok (.aload_n 0, 1) := by decide +kernel
theorem dX1_make_62 : decode cX1_make 62 = .ok (.getfield 27, 3) := by decide +kernel
theorem dX1_make_65 : decode cX1_make 65 = .ok (.iload 4, 2) := by decide +kernel
theorem dX1_make_67 : decode cX1_make 67 = .ok (.iaload, 1) := by decide +kernel
theorem dX1_make_68 : decode cX1_make 68 = .ok (.aload_n 0, 1) := by decide +kernel
theorem dX1_make_69 : decode cX1_make 69 = .ok (.getfield 27, 3) := by decide +kernel
theorem dX1_make_72 : decode cX1_make 72 = .ok (.iload 4, 2) := by decide +kernel
theorem dX1_make_74 : decode cX1_make 74 = .ok (.iaload, 1) := by decide +kernel
theorem dX1_make_75 : decode cX1_make 75 = .ok (.aload_n 0, 1) := by decide +kernel
theorem dX1_make_76 : decode cX1_make 76 = .ok (.getfield 31, 3) := by decide +kernel
theorem dX1_make_79 : decode cX1_make 79 = .ok (.iload 4, 2) := by decide +kernel
theorem dX1_make_81 : decode cX1_make 81 = .ok (.iaload, 1) := by decide +kernel
theorem dX1_make_82 : decode cX1_make 82 = .ok (.iadd, 1) := by decide +kernel
theorem dX1_make_83 : decode cX1_make 83 = .ok (.invokevirtual 75, 3) := by decide +kernel
theorem dX1_make_86 : decode cX1_make 86 = .ok (.iinc 4 1, 3) := by decide +kernel
theorem dX1_make_89 : decode cX1_make 89 = .ok (.goto (-84), 3) := by decide +kernel
theorem dX1_make_92 : decode cX1_make 92 = .ok (.return_, 1) := by decide +kernel
theorem dX2_fractionBits_0 : decode cX2_fractionBits 0 = .ok (.iload_n 0, 1) := by decide +kernel
theorem dX2_fractionBits_1 : decode cX2_fractionBits 1 = .ok (.bipush 6, 2) := by decide +kernel
theorem dX2_fractionBits_3 : decode cX2_fractionBits 3 = .ok (.if_icmp .ne 8, 3) := by decide +kernel
theorem dX2_fractionBits_6 : decode cX2_fractionBits 6 = .ok (.bipush 23, 2) := by decide +kernel
theorem dX2_fractionBits_8 : decode cX2_fractionBits 8 = .ok (.goto 5, 3) := by decide +kernel
theorem dX2_fractionBits_11 : decode cX2_fractionBits 11 = .ok (.bipush 52, 2) := by decide +kernel
theorem dX2_fractionBits_13 : decode cX2_fractionBits 13 = .ok (.ireturn, 1) := by decide +kernel
theorem dX2_bias_0 : decode cX2_bias 0 = .ok (.iload_n 0, 1) := by decide +kernel
theorem dX2_bias_1 : decode cX2_bias 1 = .ok (.bipush 6, 2) := by decide +kernel
theorem dX2_bias_3 : decode cX2_bias 3 = .ok (.if_icmp .ne 8, 3) := by decide +kernel
theorem dX2_bias_6 : decode cX2_bias 6 = .ok (.bipush 127, 2) := by decide +kernel
theorem dX2_bias_8 : decode cX2_bias 8 = .ok (.goto 6, 3) := by decide +kernel
theorem dX2_bias_11 : decode cX2_bias 11 = .ok (.sipush 1023, 3) := by decide +kernel
theorem dX2_bias_14 : decode cX2_bias 14 = .ok (.ireturn, 1) := by decide +kernel
theorem dX2_signBit_0 : decode cX2_signBit 0 = .ok (.iload_n 0, 1) := by decide +kernel
theorem dX2_signBit_1 : decode cX2_signBit 1 = .ok (.bipush 6, 2) := by decide +kernel
theorem dX2_signBit_3 : decode cX2_signBit 3 = .ok (.if_icmp .ne 9, 3) := by decide +kernel
theorem dX2_signBit_6 : decode cX2_signBit 6 = .ok (.ldc2_w 9, 3) := by decide +kernel
theorem dX2_signBit_9 : decode cX2_signBit 9 = .ok (.goto 6, 3) := by decide +kernel
theorem dX2_signBit_12 : decode cX2_signBit 12 = .ok (.ldc2_w 11, 3) := by decide +kernel
theorem dX2_signBit_15 : decode cX2_signBit 15 = .ok (.lreturn, 1) := by decide +kernel
theorem dX2_endless_0 : decode cX2_endless 0 = .ok (.iload_n 0, 1) := by decide +kernel
theorem dX2_endless_1 : decode cX2_endless 1 = .ok (.bipush 6, 2) := by decide +kernel
theorem dX2_endless_3 : decode cX2_endless 3 = .ok (.if_icmp .ne 9, 3) := by decide +kernel
theorem dX2_endless_6 : decode cX2_endless 6 = .ok (.ldc2_w 13, 3) := by decide +kernel
theorem dX2_endless_9 : decode cX2_endless 9 = .ok (.goto 6, 3) := by decide +kernel
theorem dX2_endless_12 : decode cX2_endless 12 = .ok (.ldc2_w 15, 3) := by decide +kernel
theorem dX2_endless_15 : decode cX2_endless 15 = .ok (.lreturn, 1) := by decide +kernel
theorem dX2_oneOf_0 : decode cX2_oneOf 0 = .ok (.iload_n 0, 1) := by decide +kernel
theorem dX2_oneOf_1 : decode cX2_oneOf 1 = .ok (.invokestatic 17, 3) := by decide +kernel
theorem dX2_oneOf_4 : decode cX2_oneOf 4 = .ok (.i2l, 1) := by decide +kernel
theorem dX2_oneOf_5 : decode cX2_oneOf 5 = .ok (.iload_n 0, 1) := by decide +kernel
theorem dX2_oneOf_6 : decode cX2_oneOf 6 = .ok (.invokestatic 23, 3) := by decide +kernel
theorem dX2_oneOf_9 : decode cX2_oneOf 9 = .ok (.lshl, 1) := by decide +kernel
theorem dX2_oneOf_10 : decode cX2_oneOf 10 = .ok (.lreturn, 1) := by decide +kernel
theorem dX2_sizeOf_0 : decode cX2_sizeOf 0 = .ok (.lload_n 1, 1) := by decide +kernel
theorem dX2_sizeOf_1 : decode cX2_sizeOf 1 = .ok (.iload_n 0, 1) := by decide +kernel
theorem dX2_sizeOf_2 : decode cX2_sizeOf 2 = .ok (.bipush 6, 2) := by decide +kernel
theorem dX2_sizeOf_4 : decode cX2_sizeOf 4 = .ok (.if_icmp .ne 9, 3) := by decide +kernel
theorem dX2_sizeOf_7 : decode cX2_sizeOf 7 = .ok (.ldc2_w 26, 3) := by decide +kernel
theorem dX2_sizeOf_10 : decode cX2_sizeOf 10 = .ok (.goto 6, 3) := by decide +kernel
theorem dX2_sizeOf_13 : decode cX2_sizeOf 13 = .ok (.ldc2_w 28, 3) := by decide +kernel
theorem dX2_sizeOf_16 : decode cX2_sizeOf 16 = .ok (.land, 1) := by decide +kernel
theorem dX2_sizeOf_17 : decode cX2_sizeOf 17 = .ok (.lreturn, 1) := by decide +kernel
theorem dX2_withSign_0 : decode cX2_withSign 0 = .ok (.iload_n 3, 1) := by decide +kernel
theorem dX2_withSign_1 : decode cX2_withSign 1 = .ok (.ifCond .eq 12, 3) := by decide +kernel
theorem dX2_withSign_4 : decode cX2_withSign 4 = .ok (.lload_n 1, 1) := by decide +kernel
theorem dX2_withSign_5 : decode cX2_withSign 5 = .ok (.iload_n 0, 1) := by decide +kernel
theorem dX2_withSign_6 : decode cX2_withSign 6 = .ok (.invokestatic 30, 3) := by decide +kernel
theorem dX2_withSign_9 : decode cX2_withSign 9 = .ok (.lxor, 1) := by decide +kernel
theorem dX2_withSign_10 : decode cX2_withSign 10 = .ok (.goto 4, 3) := by decide +kernel
theorem dX2_withSign_13 : decode cX2_withSign 13 = .ok (.lload_n 1, 1) := by decide +kernel
theorem dX2_withSign_14 : decode cX2_withSign 14 = .ok (.lreturn, 1) := by decide +kernel
theorem dX2_isNone_0 : decode cX2_isNone 0 = .ok (.iload_n 0, 1) := by decide +kernel
theorem dX2_isNone_1 : decode cX2_isNone 1 = .ok (.lload_n 1, 1) := by decide +kernel
theorem dX2_isNone_2 : decode cX2_isNone 2 = .ok (.invokestatic 34, 3) := by decide +kernel
theorem dX2_isNone_5 : decode cX2_isNone 5 = .ok (.iload_n 0, 1) := by decide +kernel
theorem dX2_isNone_6 : decode cX2_isNone 6 = .ok (.invokestatic 38, 3) := by decide +kernel
theorem dX2_isNone_9 : decode cX2_isNone 9 = .ok (.lcmp, 1) := by decide +kernel
theorem dX2_isNone_10 : decode cX2_isNone 10 = .ok (.ifCond .le 7, 3) := by decide +kernel
theorem dX2_isNone_13 : decode cX2_isNone 13 = .ok (.iconst 1, 1) := by decide +kernel
theorem dX2_isNone_14 : decode cX2_isNone 14 = .ok (.goto 4, 3) := by decide +kernel
theorem dX2_isNone_17 : decode cX2_isNone 17 = .ok (.iconst 0, 1) := by decide +kernel
theorem dX2_isNone_18 : decode cX2_isNone 18 = .ok (.ireturn, 1) := by decide +kernel
theorem dX2_orGap_0 : decode cX2_orGap 0 = .ok (.iload_n 0, 1) := by decide +kernel
theorem dX2_orGap_1 : decode cX2_orGap 1 = .ok (.lload_n 1, 1) := by decide +kernel
theorem dX2_orGap_2 : decode cX2_orGap 2 = .ok (.invokestatic 34, 3) := by decide +kernel
theorem dX2_orGap_5 : decode cX2_orGap 5 = .ok (.iload_n 0, 1) := by decide +kernel
theorem dX2_orGap_6 : decode cX2_orGap 6 = .ok (.invokestatic 38, 3) := by decide +kernel
theorem dX2_orGap_9 : decode cX2_orGap 9 = .ok (.lcmp, 1) := by decide +kernel
theorem dX2_orGap_10 : decode cX2_orGap 10 = .ok (.ifCond .gt 5, 3) := by decide +kernel
theorem dX2_orGap_13 : decode cX2_orGap 13 = .ok (.lload_n 1, 1) := by decide +kernel
theorem dX2_orGap_14 : decode cX2_orGap 14 = .ok (.lreturn, 1) := by decide +kernel
theorem dX2_orGap_15 : decode cX2_orGap 15 = .ok (.iload_n 0, 1) := by decide +kernel
theorem dX2_orGap_16 : decode cX2_orGap 16 = .ok (.bipush 6, 2) := by decide +kernel
theorem dX2_orGap_18 : decode cX2_orGap 18 = .ok (.if_icmp .ne 9, 3) := by decide +kernel
theorem dX2_orGap_21 : decode cX2_orGap 21 = .ok (.ldc2_w 41, 3) := by decide +kernel
theorem dX2_orGap_24 : decode cX2_orGap 24 = .ok (.goto 6, 3) := by decide +kernel
theorem dX2_orGap_27 : decode cX2_orGap 27 = .ok (.ldc2_w 43, 3) := by decide +kernel
theorem dX2_orGap_30 : decode cX2_orGap 30 = .ok (.lreturn, 1) := by decide +kernel
theorem dX2_signOf_0 : decode cX2_signOf 0 = .ok (.iload_n 0, 1) := by decide +kernel
theorem dX2_signOf_1 : decode cX2_signOf 1 = .ok (.lload_n 1, 1) := by decide +kernel
theorem dX2_signOf_2 : decode cX2_signOf 2 = .ok (.invokestatic 34, 3) := by decide +kernel
theorem dX2_signOf_5 : decode cX2_signOf 5 = .ok (.lconst 0, 1) := by decide +kernel
theorem dX2_signOf_6 : decode cX2_signOf 6 = .ok (.lcmp, 1) := by decide +kernel
theorem dX2_signOf_7 : decode cX2_signOf 7 = .ok (.ifCond .ne 7, 3) := by decide +kernel
theorem dX2_signOf_10 : decode cX2_signOf 10 = .ok (.lload_n 1, 1) := by decide +kernel
theorem dX2_signOf_11 : decode cX2_signOf 11 = .ok (.goto 22, 3) := by decide +kernel
theorem dX2_signOf_14 : decode cX2_signOf 14 = .ok (.iload_n 0, 1) := by decide +kernel
theorem dX2_signOf_15 : decode cX2_signOf 15 = .ok (.iload_n 0, 1) := by decide +kernel
theorem dX2_signOf_16 : decode cX2_signOf 16 = .ok (.invokestatic 45, 3) := by decide +kernel
theorem dX2_signOf_19 : decode cX2_signOf 19 = .ok (.lload_n 1, 1) := by decide +kernel
theorem dX2_signOf_20 : decode cX2_signOf 20 = .ok (.lconst 0, 1) := by decide +kernel
theorem dX2_signOf_21 : decode cX2_signOf 21 = .ok (.lcmp, 1) := by decide +kernel
theorem dX2_signOf_22 : decode cX2_signOf 22 = .ok (.ifCond .ge 7, 3) := by decide +kernel
theorem dX2_signOf_25 : decode cX2_signOf 25 = .ok (.iconst 1, 1) := by decide +kernel
theorem dX2_signOf_26 : decode cX2_signOf 26 = .ok (.goto 4, 3) := by decide +kernel
theorem dX2_signOf_29 : decode cX2_signOf 29 = .ok (.iconst 0, 1) := by decide +kernel
theorem dX2_signOf_30 : decode cX2_signOf 30 = .ok (.invokestatic 48, 3) := by decide +kernel
theorem dX2_signOf_33 : decode cX2_signOf 33 = .ok (.lreturn, 1) := by decide +kernel
theorem dX2_rounded_0 : decode cX2_rounded 0 = .ok (.iload_n 0, 1) := by decide +kernel
theorem dX2_rounded_1 : decode cX2_rounded 1 = .ok (.lload_n 1, 1) := by decide +kernel
theorem dX2_rounded_2 : decode cX2_rounded 2 = .ok (.invokestatic 34, 3) := by decide +kernel
theorem dX2_rounded_5 : decode cX2_rounded 5 = .ok (.lstore 4, 2) := by decide +kernel
theorem dX2_rounded_7 : decode cX2_rounded 7 = .ok (.lload_n 1, 1) := by decide +kernel
theorem dX2_rounded_8 : decode cX2_rounded 8 = .ok (.lconst 0, 1) := by decide +kernel
theorem dX2_rounded_9 : decode cX2_rounded 9 = .ok (.lcmp, 1) := by decide +kernel
theorem dX2_rounded_10 : decode cX2_rounded 10 = .ok (.ifCond .ge 7, 3) := by decide +kernel
theorem dX2_rounded_13 : decode cX2_rounded 13 = .ok (.iconst 1, 1) := by decide +kernel
theorem dX2_rounded_14 : decode cX2_rounded 14 = .ok (.goto 4, 3) := by decide +kernel
theorem dX2_rounded_17 : decode cX2_rounded 17 = .ok (.iconst 0, 1) := by decide +kernel
theorem dX2_rounded_18 : decode cX2_rounded 18 = .ok (.istore 6, 2) := by decide +kernel
theorem dX2_rounded_20 : decode cX2_rounded 20 = .ok (.lload 4, 2) := by decide +kernel
theorem dX2_rounded_22 : decode cX2_rounded 22 = .ok (.iload_n 0, 1) := by decide +kernel
theorem dX2_rounded_23 : decode cX2_rounded 23 = .ok (.invokestatic 23, 3) := by decide +kernel
theorem dX2_rounded_26 : decode cX2_rounded 26 = .ok (.lshr, 1) := by decide +kernel
theorem dX2_rounded_27 : decode cX2_rounded 27 = .ok (.l2i, 1) := by decide +kernel
theorem dX2_rounded_28 : decode cX2_rounded 28 = .ok (.iload_n 0, 1) := by decide +kernel
theorem dX2_rounded_29 : decode cX2_rounded 29 = .ok (.invokestatic 17, 3) := by decide +kernel
theorem dX2_rounded_32 : decode cX2_rounded 32 = .ok (.isub, 1) := by decide +kernel
theorem dX2_rounded_33 : decode cX2_rounded 33 = .ok (.istore 7, 2) := by decide +kernel
theorem dX2_rounded_35 : decode cX2_rounded 35 = .ok (.lload 4, 2) := by decide +kernel
theorem dX2_rounded_37 : decode cX2_rounded 37 = .ok (.lconst 0, 1) := by decide +kernel
theorem dX2_rounded_38 : decode cX2_rounded 38 = .ok (.lcmp, 1) := by decide +kernel
theorem dX2_rounded_39 : decode cX2_rounded 39 = .ok (.ifCond .eq 12, 3) := by decide +kernel
theorem dX2_rounded_42 : decode cX2_rounded 42 = .ok (.iload 7, 2) := by decide +kernel
theorem dX2_rounded_44 : decode cX2_rounded 44 = .ok (.iload_n 0, 1) := by decide +kernel
theorem dX2_rounded_45 : decode cX2_rounded 45 = .ok (.invokestatic 23, 3) := by decide +kernel
theorem dX2_rounded_48 : decode cX2_rounded 48 = .ok (.if_icmp .lt 5, 3) := by decide +kernel
theorem dX2_rounded_51 : decode cX2_rounded 51 = .ok (.lload_n 1, 1) := by decide +kernel
theorem dX2_rounded_52 : decode cX2_rounded 52 = .ok (.lreturn, 1) := by decide +kernel
theorem dX2_rounded_53 : decode cX2_rounded 53 = .ok (.iload 7, 2) := by decide +kernel
theorem dX2_rounded_55 : decode cX2_rounded 55 = .ok (.ifCond .ge 41, 3) := by decide +kernel
theorem dX2_rounded_58 : decode cX2_rounded 58 = .ok (.iload_n 3, 1) := by decide +kernel
theorem dX2_rounded_59 : decode cX2_rounded 59 = .ok (.iload 6, 2) := by decide +kernel
theorem dX2_rounded_61 : decode cX2_rounded 61 = .ok (.lload 4, 2) := by decide +kernel
theorem dX2_rounded_63 : decode cX2_rounded 63 = .ok (.iload_n 0, 1) := by decide +kernel
theorem dX2_rounded_64 : decode cX2_rounded 64 = .ok (.invokestatic 52, 3) := by decide +kernel
theorem dX2_rounded_67 : decode cX2_rounded 67 = .ok (.invokestatic 55, 3) := by decide +kernel
theorem dX2_rounded_70 : decode cX2_rounded 70 = .ok (.iconst 0, 1) := by decide +kernel
theorem dX2_rounded_71 : decode cX2_rounded 71 = .ok (.invokestatic 61, 3) := by decide +kernel
theorem dX2_rounded_74 : decode cX2_rounded 74 = .ok (.istore 8, 2) := by decide +kernel
theorem dX2_rounded_76 : decode cX2_rounded 76 = .ok (.iload_n 0, 1) := by decide +kernel
theorem dX2_rounded_77 : decode cX2_rounded 77 = .ok (.iload 8, 2) := by decide +kernel
theorem dX2_rounded_79 : decode cX2_rounded 79 = .ok (.ifCond .eq 10, 3) := by decide +kernel
theorem dX2_rounded_82 : decode cX2_rounded 82 = .ok (.iload_n 0, 1) := by decide +kernel
theorem dX2_rounded_83 : decode cX2_rounded 83 = .ok (.invokestatic 45, 3) := by decide +kernel
theorem dX2_rounded_86 : decode cX2_rounded 86 = .ok (.goto 4, 3) := by decide +kernel
theorem dX2_rounded_89 : decode cX2_rounded 89 = .ok (.lconst 0, 1) := by decide +kernel
theorem dX2_rounded_90 : decode cX2_rounded 90 = .ok (.iload 6, 2) := by decide +kernel
theorem dX2_rounded_92 : decode cX2_rounded 92 = .ok (.invokestatic 48, 3) := by decide +kernel
theorem dX2_rounded_95 : decode cX2_rounded 95 = .ok (.lreturn, 1) := by decide +kernel
theorem dX2_rounded_96 : decode cX2_rounded 96 = .ok (.iload_n 0, 1) := by decide +kernel
theorem dX2_rounded_97 : decode cX2_rounded 97 = .ok (.invokestatic 23, 3) := by decide +kernel
theorem dX2_rounded_100 : decode cX2_rounded 100 = .ok (.iload 7, 2) := by decide +kernel
theorem dX2_rounded_102 : decode cX2_rounded 102 = .ok (.isub, 1) := by decide +kernel
theorem dX2_rounded_103 : decode cX2_rounded 103 = .ok (.istore 8, 2) := by decide +kernel
theorem dX2_rounded_105 : decode cX2_rounded 105 = .ok (.lconst 1, 1) := by decide +kernel
theorem dX2_rounded_106 : decode cX2_rounded 106 = .ok (.iload 8, 2) := by decide +kernel
theorem dX2_rounded_108 : decode cX2_rounded 108 = .ok (.lshl, 1) := by decide +kernel
theorem dX2_rounded_109 : decode cX2_rounded 109 = .ok (.lstore 9, 2) := by decide +kernel
theorem dX2_rounded_111 : decode cX2_rounded 111 = .ok (.lload 4, 2) := by decide +kernel
theorem dX2_rounded_113 : decode cX2_rounded 113 = .ok (.lload 9, 2) := by decide +kernel
theorem dX2_rounded_115 : decode cX2_rounded 115 = .ok (.lconst 1, 1) := by decide +kernel
theorem dX2_rounded_116 : decode cX2_rounded 116 = .ok (.lsub, 1) := by decide +kernel
theorem dX2_rounded_117 : decode cX2_rounded 117 = .ok (.land, 1) := by decide +kernel
theorem dX2_rounded_118 : decode cX2_rounded 118 = .ok (.lstore 11, 2) := by decide +kernel
theorem dX2_rounded_120 : decode cX2_rounded 120 = .ok (.lload 11, 2) := by decide +kernel
theorem dX2_rounded_122 : decode cX2_rounded 122 = .ok (.lconst 0, 1) := by decide +kernel
theorem dX2_rounded_123 : decode cX2_rounded 123 = .ok (.lcmp, 1) := by decide +kernel
theorem dX2_rounded_124 : decode cX2_rounded 124 = .ok (.ifCond .ne 5, 3) := by decide +kernel
theorem dX2_rounded_127 : decode cX2_rounded 127 = .ok (.lload_n 1, 1) := by decide +kernel
theorem dX2_rounded_128 : decode cX2_rounded 128 = .ok (.lreturn, 1) := by decide +kernel
theorem dX2_rounded_129 : decode cX2_rounded 129 = .ok (.lload 4, 2) := by decide +kernel
theorem dX2_rounded_131 : decode cX2_rounded 131 = .ok (.lload 9, 2) := by decide +kernel
theorem dX2_rounded_133 : decode cX2_rounded 133 = .ok (.land, 1) := by decide +kernel
theorem dX2_rounded_134 : decode cX2_rounded 134 = .ok (.lconst 0, 1) := by decide +kernel
theorem dX2_rounded_135 : decode cX2_rounded 135 = .ok (.lcmp, 1) := by decide +kernel
theorem dX2_rounded_136 : decode cX2_rounded 136 = .ok (.ifCond .eq 7, 3) := by decide +kernel
theorem dX2_rounded_139 : decode cX2_rounded 139 = .ok (.iconst 1, 1) := by decide +kernel
theorem dX2_rounded_140 : decode cX2_rounded 140 = .ok (.goto 4, 3) := by decide +kernel
theorem dX2_rounded_143 : decode cX2_rounded 143 = .ok (.iconst 0, 1) := by decide +kernel
theorem dX2_rounded_144 : decode cX2_rounded 144 = .ok (.istore 13, 2) := by decide +kernel
theorem dX2_rounded_146 : decode cX2_rounded 146 = .ok (.iload_n 3, 1) := by decide +kernel
theorem dX2_rounded_147 : decode cX2_rounded 147 = .ok (.iload 6, 2) := by decide +kernel
theorem dX2_rounded_149 : decode cX2_rounded 149 = .ok (.lload 11, 2) := by decide +kernel
theorem dX2_rounded_151 : decode cX2_rounded 151 = .ok (.lload 9, 2) := by decide +kernel
theorem dX2_rounded_153 : decode cX2_rounded 153 = .ok (.iconst 1, 1) := by decide +kernel
theorem dX2_rounded_154 : decode cX2_rounded 154 = .ok (.lshr, 1) := by decide +kernel
theorem dX2_rounded_155 : decode cX2_rounded 155 = .ok (.invokestatic 55, 3) := by decide +kernel
theorem dX2_rounded_158 : decode cX2_rounded 158 = .ok (.iload 13, 2) := by decide +kernel
theorem dX2_rounded_160 : decode cX2_rounded 160 = .ok (.invokestatic 61, 3) := by decide +kernel
theorem dX2_rounded_163 : decode cX2_rounded 163 = .ok (.istore 14, 2) := by decide +kernel
theorem dX2_rounded_165 : decode cX2_rounded 165 = .ok (.iload_n 0, 1) := by decide +kernel
theorem dX2_rounded_166 : decode cX2_rounded 166 = .ok (.lload 4, 2) := by decide +kernel
theorem dX2_rounded_168 : decode cX2_rounded 168 = .ok (.lload 11, 2) := by decide +kernel
theorem dX2_rounded_170 : decode cX2_rounded 170 = .ok (.lsub, 1) := by decide +kernel
theorem dX2_rounded_171 : decode cX2_rounded 171 = .ok (.iload 14, 2) := by decide +kernel
theorem dX2_rounded_173 : decode cX2_rounded 173 = .ok (.ifCond .eq 8, 3) := by decide +kernel
theorem dX2_rounded_176 : decode cX2_rounded 176 = .ok (.lload 9, 2) := by decide +kernel
theorem dX2_rounded_178 : decode cX2_rounded 178 = .ok (.goto 4, 3) := by decide +kernel
theorem dX2_rounded_181 : decode cX2_rounded 181 = .ok (.lconst 0, 1) := by decide +kernel
theorem dX2_rounded_182 : decode cX2_rounded 182 = .ok (.ladd, 1) := by decide +kernel
theorem dX2_rounded_183 : decode cX2_rounded 183 = .ok (.iload 6, 2) := by decide +kernel
theorem dX2_rounded_185 : decode cX2_rounded 185 = .ok (.invokestatic 48, 3) := by decide +kernel
theorem dX2_rounded_188 : decode cX2_rounded 188 = .ok (.lreturn, 1) := by decide +kernel
theorem dX2_halfOf_0 : decode cX2_halfOf 0 = .ok (.iload_n 0, 1) := by decide +kernel
theorem dX2_halfOf_1 : decode cX2_halfOf 1 = .ok (.invokestatic 17, 3) := by decide +kernel
theorem dX2_halfOf_4 : decode cX2_halfOf 4 = .ok (.iconst 1, 1) := by decide +kernel
theorem dX2_halfOf_5 : decode cX2_halfOf 5 = .ok (.isub, 1) := by decide +kernel
theorem dX2_halfOf_6 : decode cX2_halfOf 6 = .ok (.i2l, 1) := by decide +kernel
theorem dX2_halfOf_7 : decode cX2_halfOf 7 = .ok (.iload_n 0, 1) := by decide +kernel
theorem dX2_halfOf_8 : decode cX2_halfOf 8 = .ok (.invokestatic 23, 3) := by decide +kernel
theorem dX2_halfOf_11 : decode cX2_halfOf 11 = .ok (.lshl, 1) := by decide +kernel
theorem dX2_halfOf_12 : decode cX2_halfOf 12 = .ok (.lreturn, 1) := by decide +kernel
theorem dX2_goesUp_0 : decode cX2_goesUp 0 = .ok (.iload_n 0, 1) := by decide +kernel
theorem dX2_goesUp_1 : decode cX2_goesUp 1 = .ok (.iconst 1, 1) := by decide +kernel
theorem dX2_goesUp_2 : decode cX2_goesUp 2 = .ok (.if_icmp .ne 5, 3) := by decide +kernel
theorem dX2_goesUp_5 : decode cX2_goesUp 5 = .ok (.iload_n 1, 1) := by decide +kernel
theorem dX2_goesUp_6 : decode cX2_goesUp 6 = .ok (.ireturn, 1) := by decide +kernel
theorem dX2_goesUp_7 : decode cX2_goesUp 7 = .ok (.iload_n 0, 1) := by decide +kernel
theorem dX2_goesUp_8 : decode cX2_goesUp 8 = .ok (.iconst 2, 1) := by decide +kernel
theorem dX2_goesUp_9 : decode cX2_goesUp 9 = .ok (.if_icmp .ne 13, 3) := by decide +kernel
theorem dX2_goesUp_12 : decode cX2_goesUp 12 = .ok (.iload_n 1, 1) := by decide +kernel
theorem dX2_goesUp_13 : decode cX2_goesUp 13 = .ok (.ifCond .ne 7, 3) := by decide +kernel
theorem dX2_goesUp_16 : decode cX2_goesUp 16 = .ok (.iconst 1, 1) := by decide +kernel
theorem dX2_goesUp_17 : decode cX2_goesUp 17 = .ok (.goto 4, 3) := by decide +kernel
theorem dX2_goesUp_20 : decode cX2_goesUp 20 = .ok (.iconst 0, 1) := by decide +kernel
theorem dX2_goesUp_21 : decode cX2_goesUp 21 = .ok (.ireturn, 1) := by decide +kernel
theorem dX2_goesUp_22 : decode cX2_goesUp 22 = .ok (.iload_n 2, 1) := by decide +kernel
theorem dX2_goesUp_23 : decode cX2_goesUp 23 = .ok (.ifCond .gt 11, 3) := by decide +kernel
theorem dX2_goesUp_26 : decode cX2_goesUp 26 = .ok (.iload_n 2, 1) := by decide +kernel
theorem dX2_goesUp_27 : decode cX2_goesUp 27 = .ok (.ifCond .ne 11, 3) := by decide +kernel
theorem dX2_goesUp_30 : decode cX2_goesUp 30 = .ok (.iload_n 3, 1) := by decide +kernel
theorem dX2_goesUp_31 : decode cX2_goesUp 31 = .ok (.ifCond .eq 7, 3) := by decide +kernel
theorem dX2_goesUp_34 : decode cX2_goesUp 34 = .ok (.iconst 1, 1) := by decide +kernel
theorem dX2_goesUp_35 : decode cX2_goesUp 35 = .ok (.goto 4, 3) := by decide +kernel
theorem dX2_goesUp_38 : decode cX2_goesUp 38 = .ok (.iconst 0, 1) := by decide +kernel
theorem dX2_goesUp_39 : decode cX2_goesUp 39 = .ok (.ireturn, 1) := by decide +kernel
theorem dX2_leaveRest_0 : decode cX2_leaveRest 0 = .ok (.iload_n 0, 1) := by decide +kernel
theorem dX2_leaveRest_1 : decode cX2_leaveRest 1 = .ok (.lload_n 3, 1) := by decide +kernel
theorem dX2_leaveRest_2 : decode cX2_leaveRest 2 = .ok (.invokestatic 65, 3) := by decide +kernel
theorem dX2_leaveRest_5 : decode cX2_leaveRest 5 = .ok (.ifCond .ne 30, 3) := by decide +kernel
theorem dX2_leaveRest_8 : decode cX2_leaveRest 8 = .ok (.iload_n 0, 1) := by decide +kernel
theorem dX2_leaveRest_9 : decode cX2_leaveRest 9 = .ok (.lload_n 3, 1) := by decide +kernel
theorem dX2_leaveRest_10 : decode cX2_leaveRest 10 = .ok (.invokestatic 34, 3) := by decide +kernel
theorem dX2_leaveRest_13 : decode cX2_leaveRest 13 = .ok (.lconst 0, 1) := by decide +kernel
theorem dX2_leaveRest_14 : decode cX2_leaveRest 14 = .ok (.lcmp, 1) := by decide +kernel
theorem dX2_leaveRest_15 : decode cX2_leaveRest 15 = .ok (.ifCond .eq 20, 3) := by decide +kernel
theorem dX2_leaveRest_18 : decode cX2_leaveRest 18 = .ok (.iload_n 0, 1) := by decide +kernel
theorem dX2_leaveRest_19 : decode cX2_leaveRest 19 = .ok (.lload_n 1, 1) := by decide +kernel
theorem dX2_leaveRest_20 : decode cX2_leaveRest 20 = .ok (.invokestatic 34, 3) := by decide +kernel
theorem dX2_leaveRest_23 : decode cX2_leaveRest 23 = .ok (.iload_n 0, 1) := by decide +kernel
theorem dX2_leaveRest_24 : decode cX2_leaveRest 24 = .ok (.invokestatic 38, 3) := by decide +kernel
theorem dX2_leaveRest_27 : decode cX2_leaveRest 27 = .ok (.lcmp, 1) := by decide +kernel
theorem dX2_leaveRest_28 : decode cX2_leaveRest 28 = .ok (.ifCond .ge 7, 3) := by decide +kernel
theorem dX2_leaveRest_31 : decode cX2_leaveRest 31 = .ok (.iconst 1, 1) := by decide +kernel
theorem dX2_leaveRest_32 : decode cX2_leaveRest 32 = .ok (.goto 4, 3) := by decide +kernel
theorem dX2_leaveRest_35 : decode cX2_leaveRest 35 = .ok (.iconst 0, 1) := by decide +kernel
theorem dX2_leaveRest_36 : decode cX2_leaveRest 36 = .ok (.ireturn, 1) := by decide +kernel
theorem dX2_restOf_0 : decode cX2_restOf 0 = .ok (.iload_n 0, 1) := by decide +kernel
theorem dX2_restOf_1 : decode cX2_restOf 1 = .ok (.lload_n 1, 1) := by decide +kernel
theorem dX2_restOf_2 : decode cX2_restOf 2 = .ok (.invokestatic 34, 3) := by decide +kernel
theorem dX2_restOf_5 : decode cX2_restOf 5 = .ok (.lstore 5, 2) := by decide +kernel
theorem dX2_restOf_7 : decode cX2_restOf 7 = .ok (.iload_n 0, 1) := by decide +kernel
theorem dX2_restOf_8 : decode cX2_restOf 8 = .ok (.lload_n 3, 1) := by decide +kernel
theorem dX2_restOf_9 : decode cX2_restOf 9 = .ok (.invokestatic 34, 3) := by decide +kernel
theorem dX2_restOf_12 : decode cX2_restOf 12 = .ok (.lstore 7, 2) := by decide +kernel
theorem dX2_restOf_14 : decode cX2_restOf 14 = .ok (.lload 5, 2) := by decide +kernel
theorem dX2_restOf_16 : decode cX2_restOf 16 = .ok (.lload 7, 2) := by decide +kernel
theorem dX2_restOf_18 : decode cX2_restOf 18 = .ok (.lcmp, 1) := by decide +kernel
theorem dX2_restOf_19 : decode cX2_restOf 19 = .ok (.ifCond .ge 5, 3) := by decide +kernel
theorem dX2_restOf_22 : decode cX2_restOf 22 = .ok (.lload_n 1, 1) := by decide +kernel
theorem dX2_restOf_23 : decode cX2_restOf 23 = .ok (.lreturn, 1) := by decide +kernel
theorem dX2_restOf_24 : decode cX2_restOf 24 = .ok (.iload_n 0, 1) := by decide +kernel
theorem dX2_restOf_25 : decode cX2_restOf 25 = .ok (.lload 7, 2) := by decide +kernel
theorem dX2_restOf_27 : decode cX2_restOf 27 = .ok (.invokestatic 69, 3) := by decide +kernel
theorem dX2_restOf_30 : decode cX2_restOf 30 = .ok (.lstore 9, 2) := by decide +kernel
theorem dX2_restOf_32 : decode cX2_restOf 32 = .ok (.lload 9, 2) := by decide +kernel
theorem dX2_restOf_34 : decode cX2_restOf 34 = .ok (.lconst 0, 1) := by decide +kernel
theorem dX2_restOf_35 : decode cX2_restOf 35 = .ok (.lcmp, 1) := by decide +kernel
theorem dX2_restOf_36 : decode cX2_restOf 36 = .ok (.ifCond .ne 5, 3) := by decide +kernel
theorem dX2_restOf_39 : decode cX2_restOf 39 = .ok (.lload_n 1, 1) := by decide +kernel
theorem dX2_restOf_40 : decode cX2_restOf 40 = .ok (.lreturn, 1) := by decide +kernel
theorem dX2_restOf_41 : decode cX2_restOf 41 = .ok (.iload_n 0, 1) := by decide +kernel
theorem dX2_restOf_42 : decode cX2_restOf 42 = .ok (.lload 7, 2) := by decide +kernel
theorem dX2_restOf_44 : decode cX2_restOf 44 = .ok (.invokestatic 72, 3) := by decide +kernel
theorem dX2_restOf_47 : decode cX2_restOf 47 = .ok (.istore 11, 2) := by decide +kernel
theorem dX2_restOf_49 : decode cX2_restOf 49 = .ok (.iload_n 0, 1) := by decide +kernel
theorem dX2_restOf_50 : decode cX2_restOf 50 = .ok (.lload 5, 2) := by decide +kernel
theorem dX2_restOf_52 : decode cX2_restOf 52 = .ok (.invokestatic 69, 3) := by decide +kernel
theorem dX2_restOf_55 : decode cX2_restOf 55 = .ok (.lload 9, 2) := by decide +kernel
theorem dX2_restOf_57 : decode cX2_restOf 57 = .ok (.lrem, 1) := by decide +kernel
theorem dX2_restOf_58 : decode cX2_restOf 58 = .ok (.lstore 12, 2) := by decide +kernel
theorem dX2_restOf_60 : decode cX2_restOf 60 = .ok (.iload_n 0, 1) := by decide +kernel
theorem dX2_restOf_61 : decode cX2_restOf 61 = .ok (.lload 5, 2) := by decide +kernel
theorem dX2_restOf_63 : decode cX2_restOf 63 = .ok (.invokestatic 72, 3) := by decide +kernel
theorem dX2_restOf_66 : decode cX2_restOf 66 = .ok (.iload 11, 2) := by decide +kernel
theorem dX2_restOf_68 : decode cX2_restOf 68 = .ok (.isub, 1) := by decide +kernel
theorem dX2_restOf_69 : decode cX2_restOf 69 = .ok (.istore 14, 2) := by decide +kernel
theorem dX2_restOf_71 : decode cX2_restOf 71 = .ok (.iload 14, 2) := by decide +kernel
theorem dX2_restOf_73 : decode cX2_restOf 73 = .ok (.ifCond .le 32, 3) := by decide +kernel
theorem dX2_restOf_76 : decode cX2_restOf 76 = .ok (.iload 14, 2) := by decide +kernel
theorem dX2_restOf_78 : decode cX2_restOf 78 = .ok (.bipush 10, 2) := by decide +kernel
theorem dX2_restOf_80 : decode cX2_restOf 80 = .ok (.invokestatic 76, 3) := by decide +kernel
theorem dX2_restOf_83 : decode cX2_restOf 83 = .ok (.istore 15, 2) := by decide +kernel
theorem dX2_restOf_85 : decode cX2_restOf 85 = .ok (.lload 12, 2) := by decide +kernel
theorem dX2_restOf_87 : decode cX2_restOf 87 = .ok (.iload 15, 2) := by decide +kernel
theorem dX2_restOf_89 : decode cX2_restOf 89 = .ok (.lshl, 1) := by decide +kernel
theorem dX2_restOf_90 : decode cX2_restOf 90 = .ok (.lload 9, 2) := by decide +kernel
theorem dX2_restOf_92 : decode cX2_restOf 92 = .ok (.lrem, 1) := by decide +kernel
theorem dX2_restOf_93 : decode cX2_restOf 93 = .ok (.lstore 12, 2) := by decide +kernel
theorem dX2_restOf_95 : decode cX2_restOf 95 = .ok (.iload 14, 2) := by decide +kernel
theorem dX2_restOf_97 : decode cX2_restOf 97 = .ok (.iload 15, 2) := by decide +kernel
theorem dX2_restOf_99 : decode cX2_restOf 99 = .ok (.isub, 1) := by decide +kernel
theorem dX2_restOf_100 : decode cX2_restOf 100 = .ok (.istore 14, 2) := by decide +kernel
theorem dX2_restOf_102 : decode cX2_restOf 102 = .ok (.goto (-31), 3) := by decide +kernel
theorem dX2_restOf_105 : decode cX2_restOf 105 = .ok (.iload_n 0, 1) := by decide +kernel
theorem dX2_restOf_106 : decode cX2_restOf 106 = .ok (.iload_n 0, 1) := by decide +kernel
theorem dX2_restOf_107 : decode cX2_restOf 107 = .ok (.lload 12, 2) := by decide +kernel
theorem dX2_restOf_109 : decode cX2_restOf 109 = .ok (.iload 11, 2) := by decide +kernel
theorem dX2_restOf_111 : decode cX2_restOf 111 = .ok (.invokestatic 82, 3) := by decide +kernel
theorem dX2_restOf_114 : decode cX2_restOf 114 = .ok (.lload_n 1, 1) := by decide +kernel
theorem dX2_restOf_115 : decode cX2_restOf 115 = .ok (.lconst 0, 1) := by decide +kernel
theorem dX2_restOf_116 : decode cX2_restOf 116 = .ok (.lcmp, 1) := by decide +kernel
theorem dX2_restOf_117 : decode cX2_restOf 117 = .ok (.ifCond .ge 7, 3) := by decide +kernel
theorem dX2_restOf_120 : decode cX2_restOf 120 = .ok (.iconst 1, 1) := by decide +kernel
theorem dX2_restOf_121 : decode cX2_restOf 121 = .ok (.goto 4, 3) := by decide +kernel
theorem dX2_restOf_124 : decode cX2_restOf 124 = .ok (.iconst 0, 1) := by decide +kernel
theorem dX2_restOf_125 : decode cX2_restOf 125 = .ok (.invokestatic 48, 3) := by decide +kernel
theorem dX2_restOf_128 : decode cX2_restOf 128 = .ok (.lreturn, 1) := by decide +kernel
theorem dX2_scaledFraction_0 : decode cX2_scaledFraction 0 = .ok (.lconst 1, 1) := by decide +kernel
theorem dX2_scaledFraction_1 : decode cX2_scaledFraction 1 = .ok (.iload_n 0, 1) := by decide +kernel
theorem dX2_scaledFraction_2 : decode cX2_scaledFraction 2 = .ok (.invokestatic 23, 3) := by decide +kernel
theorem dX2_scaledFraction_5 : decode cX2_scaledFraction 5 = .ok (.lshl, 1) := by decide +kernel
theorem dX2_scaledFraction_6 : decode cX2_scaledFraction 6 = .ok (.lstore_n 3, 1) := by decide +kernel
theorem dX2_scaledFraction_7 : decode cX2_scaledFraction 7 = .ok (.lload_n 1, 1) := by decide +kernel
theorem dX2_scaledFraction_8 : decode cX2_scaledFraction 8 = .ok (.lload_n 3, 1) := by decide +kernel
theorem dX2_scaledFraction_9 : decode cX2_scaledFraction 9 = .ok (.lconst 1, 1) := by decide +kernel
theorem dX2_scaledFraction_10 : decode cX2_scaledFraction 10 = .ok (.lsub, 1) := by decide +kernel
theorem dX2_scaledFraction_11 : decode cX2_scaledFraction 11 = .ok (.land, 1) := by decide +kernel
theorem dX2_scaledFraction_12 : decode cX2_scaledFraction 12 = .ok (.lstore 5, 2) := by decide +kernel
theorem dX2_scaledFraction_14 : decode cX2_scaledFraction 14 = .ok (.lload_n 1, 1) := by decide +kernel
theorem dX2_scaledFraction_15 : decode cX2_scaledFraction 15 = .ok (.lload_n 3, 1) := by decide +kernel
theorem dX2_scaledFraction_16 : decode cX2_scaledFraction 16 = .ok (.lcmp, 1) := by decide +kernel
theorem dX2_scaledFraction_17 : decode cX2_scaledFraction 17 = .ok (.ifCond .ge 8, 3) := by decide +kernel
theorem dX2_scaledFraction_20 : decode cX2_scaledFraction 20 = .ok (.lload 5, 2) := by decide +kernel
theorem dX2_scaledFraction_22 : decode cX2_scaledFraction 22 = .ok (.goto 7, 3) := by decide +kernel
theorem dX2_scaledFraction_25 : decode cX2_scaledFraction 25 = .ok (.lload 5, 2) := by decide +kernel
theorem dX2_scaledFraction_27 : decode cX2_scaledFraction 27 = .ok (.lload_n 3, 1) := by decide +kernel
theorem dX2_scaledFraction_28 : decode cX2_scaledFraction 28 = .ok (.ladd, 1) := by decide +kernel
theorem dX2_scaledFraction_29 : decode cX2_scaledFraction 29 = .ok (.lreturn, 1) := by decide +kernel
theorem dX2_scaleOf_0 : decode cX2_scaleOf 0 = .ok (.iconst 1, 1) := by decide +kernel
theorem dX2_scaleOf_1 : decode cX2_scaleOf 1 = .ok (.lload_n 1, 1) := by decide +kernel
theorem dX2_scaleOf_2 : decode cX2_scaleOf 2 = .ok (.iload_n 0, 1) := by decide +kernel
theorem dX2_scaleOf_3 : decode cX2_scaleOf 3 = .ok (.invokestatic 23, 3) := by decide +kernel
theorem dX2_scaleOf_6 : decode cX2_scaleOf 6 = .ok (.lshr, 1) := by decide +kernel
theorem dX2_scaleOf_7 : decode cX2_scaleOf 7 = .ok (.l2i, 1) := by decide +kernel
theorem dX2_scaleOf_8 : decode cX2_scaleOf 8 = .ok (.invokestatic 86, 3) := by decide +kernel
theorem dX2_scaleOf_11 : decode cX2_scaleOf 11 = .ok (.ireturn, 1) := by decide +kernel
theorem dX2_sizeFrom_0 : decode cX2_sizeFrom 0 = .ok (.lload_n 1, 1) := by decide +kernel
theorem dX2_sizeFrom_1 : decode cX2_sizeFrom 1 = .ok (.lconst 0, 1) := by decide +kernel
theorem dX2_sizeFrom_2 : decode cX2_sizeFrom 2 = .ok (.lcmp, 1) := by decide +kernel
theorem dX2_sizeFrom_3 : decode cX2_sizeFrom 3 = .ok (.ifCond .ne 5, 3) := by decide +kernel
theorem dX2_sizeFrom_6 : decode cX2_sizeFrom 6 = .ok (.lconst 0, 1) := by decide +kernel
theorem dX2_sizeFrom_7 : decode cX2_sizeFrom 7 = .ok (.lreturn, 1) := by decide +kernel
theorem dX2_sizeFrom_8 : decode cX2_sizeFrom 8 = .ok (.lconst 1, 1) := by decide +kernel
theorem dX2_sizeFrom_9 : decode cX2_sizeFrom 9 = .ok (.iload_n 0, 1) := by decide +kernel
theorem dX2_sizeFrom_10 : decode cX2_sizeFrom 10 = .ok (.invokestatic 23, 3) := by decide +kernel
theorem dX2_sizeFrom_13 : decode cX2_sizeFrom 13 = .ok (.lshl, 1) := by decide +kernel
theorem dX2_sizeFrom_14 : decode cX2_sizeFrom 14 = .ok (.lstore 4, 2) := by decide +kernel
theorem dX2_sizeFrom_16 : decode cX2_sizeFrom 16 = .ok (.iload_n 3, 1) := by decide +kernel
theorem dX2_sizeFrom_17 : decode cX2_sizeFrom 17 = .ok (.istore 6, 2) := by decide +kernel
theorem dX2_sizeFrom_19 : decode cX2_sizeFrom 19 = .ok (.iconst 0, 1) := by decide +kernel
theorem dX2_sizeFrom_20 : decode cX2_sizeFrom 20 = .ok (.istore 7, 2) := by decide +kernel
theorem dX2_sizeFrom_22 : decode cX2_sizeFrom 22 = .ok (.iload 7, 2) := by decide +kernel
theorem dX2_sizeFrom_24 : decode cX2_sizeFrom 24 = .ok (.iload_n 0, 1) := by decide +kernel
theorem dX2_sizeFrom_25 : decode cX2_sizeFrom 25 = .ok (.invokestatic 23, 3) := by decide +kernel
theorem dX2_sizeFrom_28 : decode cX2_sizeFrom 28 = .ok (.if_icmp .ge 29, 3) := by decide +kernel
theorem dX2_sizeFrom_31 : decode cX2_sizeFrom 31 = .ok (.lload_n 1, 1) := by decide +kernel
theorem dX2_sizeFrom_32 : decode cX2_sizeFrom 32 = .ok (.lload 4, 2) := by decide +kernel
theorem dX2_sizeFrom_34 : decode cX2_sizeFrom 34 = .ok (.lcmp, 1) := by decide +kernel
theorem dX2_sizeFrom_35 : decode cX2_sizeFrom 35 = .ok (.ifCond .ge 22, 3) := by decide +kernel
theorem dX2_sizeFrom_38 : decode cX2_sizeFrom 38 = .ok (.iload 6, 2) := by decide +kernel
theorem dX2_sizeFrom_40 : decode cX2_sizeFrom 40 = .ok (.iconst 1, 1) := by decide +kernel
theorem dX2_sizeFrom_41 : decode cX2_sizeFrom 41 = .ok (.if_icmp .le 16, 3) := by decide +kernel
theorem dX2_sizeFrom_44 : decode cX2_sizeFrom 44 = .ok (.lload_n 1, 1) := by decide +kernel
theorem dX2_sizeFrom_45 : decode cX2_sizeFrom 45 = .ok (.iconst 1, 1) := by decide +kernel
theorem dX2_sizeFrom_46 : decode cX2_sizeFrom 46 = .ok (.lshl, 1) := by decide +kernel
theorem dX2_sizeFrom_47 : decode cX2_sizeFrom 47 = .ok (.lstore_n 1, 1) := by decide +kernel
theorem dX2_sizeFrom_48 : decode cX2_sizeFrom 48 = .ok (.iinc 6 (-1), 3) := by decide +kernel
theorem dX2_sizeFrom_51 : decode cX2_sizeFrom 51 = .ok (.iinc 7 1, 3) := by decide +kernel
theorem dX2_sizeFrom_54 : decode cX2_sizeFrom 54 = .ok (.goto (-32), 3) := by decide +kernel
theorem dX2_sizeFrom_57 : decode cX2_sizeFrom 57 = .ok (.iload 6, 2) := by decide +kernel
theorem dX2_sizeFrom_59 : decode cX2_sizeFrom 59 = .ok (.iconst 1, 1) := by decide +kernel
theorem dX2_sizeFrom_60 : decode cX2_sizeFrom 60 = .ok (.isub, 1) := by decide +kernel
theorem dX2_sizeFrom_61 : decode cX2_sizeFrom 61 = .ok (.i2l, 1) := by decide +kernel
theorem dX2_sizeFrom_62 : decode cX2_sizeFrom 62 = .ok (.iload_n 0, 1) := by decide +kernel
theorem dX2_sizeFrom_63 : decode cX2_sizeFrom 63 = .ok (.invokestatic 23, 3) := by decide +kernel
theorem dX2_sizeFrom_66 : decode cX2_sizeFrom 66 = .ok (.lshl, 1) := by decide +kernel
theorem dX2_sizeFrom_67 : decode cX2_sizeFrom 67 = .ok (.lload_n 1, 1) := by decide +kernel
theorem dX2_sizeFrom_68 : decode cX2_sizeFrom 68 = .ok (.ladd, 1) := by decide +kernel
theorem dX2_sizeFrom_69 : decode cX2_sizeFrom 69 = .ok (.lreturn, 1) := by decide +kernel
theorem dX3_init_0 : decode cX3_init 0 = .ok (.aload_n 0, 1) := by decide +kernel
theorem dX3_init_1 : decode cX3_init 1 = .ok (.invokespecial 3, 3) := by decide +kernel
theorem dX3_init_4 : decode cX3_init 4 = .ok (.aload_n 0, 1) := by decide +kernel
theorem dX3_init_5 : decode cX3_init 5 = .ok (.bipush 12, 2) := by decide +kernel
theorem dX3_init_7 : decode cX3_init 7 = .ok (.newarray .long, 2) := by decide +kernel
theorem dX3_init_9 : decode cX3_init 9 = .ok (.putfield 9, 3) := by decide +kernel
theorem dX3_init_12 : decode cX3_init 12 = .ok (.aload_n 0, 1) := by decide +kernel
theorem dX3_init_13 : decode cX3_init 13 = .ok (.bipush 12, 2) := by decide +kernel
theorem dX3_init_15 : decode cX3_init 15 = .ok (.anewarray 15, 3) := by decide +kernel
theorem dX3_init_18 : decode cX3_init 18 = .ok (.putfield 17, 3) := by decide +kernel
theorem dX3_init_21 : decode cX3_init 21 = .ok (.return_, 1) := by decide +kernel
theorem dX3_entryOf_0 : decode cX3_entryOf 0 = .ok (.iconst 0, 1) := by decide +kernel
theorem dX3_entryOf_1 : decode cX3_entryOf 1 = .ok (.istore_n 3, 1) := by decide +kernel
theorem dX3_entryOf_2 : decode cX3_entryOf 2 = .ok (.iload_n 3, 1) := by decide +kernel
theorem dX3_entryOf_3 : decode cX3_entryOf 3 = .ok (.aload_n 0, 1) := by decide +kernel
theorem dX3_entryOf_4 : decode cX3_entryOf 4 = .ok (.getfield 21, 3) := by decide +kernel
theorem dX3_entryOf_7 : decode cX3_entryOf 7 = .ok (.if_icmp .ge 22, 3) := by decide +kernel
theorem dX3_entryOf_10 : decode cX3_entryOf 10 = .ok (.aload_n 0, 1) := by decide +kernel
theorem dX3_entryOf_11 : decode cX3_entryOf 11 = .ok (.getfield 9, 3) := by decide +kernel
theorem dX3_entryOf_14 : decode cX3_entryOf 14 = .ok (.iload_n 3, 1) := by decide +kernel
theorem dX3_entryOf_15 : decode cX3_entryOf 15 = .ok (.laload, 1) := by decide +kernel
theorem dX3_entryOf_16 : decode cX3_entryOf 16 = .ok (.lload_n 1, 1) := by decide +kernel
theorem dX3_entryOf_17 : decode cX3_entryOf 17 = .ok (.lcmp, 1) := by decide +kernel
theorem dX3_entryOf_18 : decode cX3_entryOf 18 = .ok (.ifCond .ne 5, 3) := by decide +kernel
theorem dX3_entryOf_21 : decode cX3_entryOf 21 = .ok (.iload_n 3, 1) := by decide +kernel
theorem dX3_entryOf_22 : decode cX3_entryOf 22 = .ok (.ireturn, 1) := by decide +kernel
theorem dX3_entryOf_23 : decode cX3_entryOf 23 = .ok (.iinc 3 1, 3) := by decide +kernel
theorem dX3_entryOf_26 : decode cX3_entryOf 26 = .ok (.goto (-24), 3) := by decide +kernel
theorem dX3_entryOf_29 : decode cX3_entryOf 29 = .ok (.iconst (-1), 1) := by decide +kernel
theorem dX3_entryOf_30 : decode cX3_entryOf 30 = .ok (.ireturn, 1) := by decide +kernel
theorem dX3_insert_0 : decode cX3_insert 0 = .ok (.aload_n 0, 1) := by decide +kernel
theorem dX3_insert_1 : decode cX3_insert 1 = .ok (.getfield 21, 3) := by decide +kernel
theorem dX3_insert_4 : decode cX3_insert 4 = .ok (.bipush 12, 2) := by decide +kernel
theorem dX3_insert_6 : decode cX3_insert 6 = .ok (.if_icmp .lt 4, 3) := by decide +kernel
theorem dX3_insert_9 : decode cX3_insert 9 = .ok (.return_, 1) := by decide +kernel
theorem dX3_insert_10 : decode cX3_insert 10 = .ok (.aload_n 0, 1) := by decide +kernel
theorem dX3_insert_11 : decode cX3_insert 11 = .ok (.getfield 21, 3) := by decide +kernel
theorem dX3_insert_14 : decode cX3_insert 14 = .ok (.istore 4, 2) := by decide +kernel
theorem dX3_insert_16 : decode cX3_insert 16 = .ok (.iload 4, 2) := by decide +kernel
theorem dX3_insert_18 : decode cX3_insert 18 = .ok (.ifCond .le 55, 3) := by decide +kernel
theorem dX3_insert_21 : decode cX3_insert 21 = .ok (.aload_n 0, 1) := by decide +kernel
theorem dX3_insert_22 : decode cX3_insert 22 = .ok (.getfield 9, 3) := by decide +kernel
theorem dX3_insert_25 : decode cX3_insert 25 = .ok (.iload 4, 2) := by decide +kernel
theorem dX3_insert_27 : decode cX3_insert 27 = .ok (.iconst 1, 1) := by decide +kernel
theorem dX3_insert_28 : decode cX3_insert 28 = .ok (.isub, 1) := by decide +kernel
theorem dX3_insert_29 : decode cX3_insert 29 = .ok (.laload, 1) := by decide +kernel
theorem dX3_insert_30 : decode cX3_insert 30 = .ok (.lload_n 1, 1) := by decide +kernel
theorem dX3_insert_31 : decode cX3_insert 31 = .ok (.lcmp, 1) := by decide +kernel
theorem dX3_insert_32 : decode cX3_insert 32 = .ok (.ifCond .le 41, 3) := by decide +kernel
theorem dX3_insert_35 : decode cX3_insert 35 = .ok (.aload_n 0, 1) := by decide +kernel
theorem dX3_insert_36 : decode cX3_insert 36 = .ok (.getfield 9, 3) := by decide +kernel
theorem dX3_insert_39 : decode cX3_insert 39 = .ok (.iload 4, 2) := by decide +kernel
theorem dX3_insert_41 : decode cX3_insert 41 = .ok (.aload_n 0, 1) := by decide +kernel
theorem dX3_insert_42 : decode cX3_insert 42 = .ok (.getfield 9, 3) := by decide +kernel
theorem dX3_insert_45 : decode cX3_insert 45 = .ok (.iload 4, 2) := by decide +kernel
theorem dX3_insert_47 : decode cX3_insert 47 = .ok (.iconst 1, 1) := by decide +kernel
theorem dX3_insert_48 : decode cX3_insert 48 = .ok (.isub, 1) := by decide +kernel
theorem dX3_insert_49 : decode cX3_insert 49 = .ok (.laload, 1) := by decide +kernel
theorem dX3_insert_50 : decode cX3_insert 50 = .ok (.lastore, 1) := by decide +kernel
theorem dX3_insert_51 : decode cX3_insert 51 = .ok (.aload_n 0, 1) := by decide +kernel
theorem dX3_insert_52 : decode cX3_insert 52 = .ok (.getfield 17, 3) := by decide +kernel
theorem dX3_insert_55 : decode cX3_insert 55 = .ok (.iload 4, 2) := by decide +kernel
theorem dX3_insert_57 : decode cX3_insert 57 = .ok (.aload_n 0, 1) := by decide +kernel
theorem dX3_insert_58 : decode cX3_insert 58 = .ok (.getfield 17, 3) := by decide +kernel
theorem dX3_insert_61 : decode cX3_insert 61 = .ok (.iload 4, 2) := by decide +kernel
theorem dX3_insert_63 : decode cX3_insert 63 = .ok (.iconst 1, 1) := by decide +kernel
theorem dX3_insert_64 : decode cX3_insert 64 = .ok (.isub, 1) := by decide +kernel
theorem dX3_insert_65 : decode cX3_insert 65 = .ok (.aaload, 1) := by decide +kernel
theorem dX3_insert_66 : decode cX3_insert 66 = .ok (.aastore, 1) := by decide +kernel
theorem dX3_insert_67 : decode cX3_insert 67 = .ok (.iinc 4 (-1), 3) := by decide +kernel
theorem dX3_insert_70 : decode cX3_insert 70 = .ok (.goto (-54), 3) := by decide +kernel
theorem dX3_insert_73 : decode cX3_insert 73 = .ok (.aload_n 0, 1) := by decide +kernel
theorem dX3_insert_74 : decode cX3_insert 74 = .ok (.getfield 9, 3) := by decide +kernel
theorem dX3_insert_77 : decode cX3_insert 77 = .ok (.iload 4, 2) := by decide +kernel
theorem dX3_insert_79 : decode cX3_insert 79 = .ok (.lload_n 1, 1) := by decide +kernel
theorem dX3_insert_80 : decode cX3_insert 80 = .ok (.lastore, 1) := by decide +kernel
theorem dX3_insert_81 : decode cX3_insert 81 = .ok (.aload_n 0, 1) := by decide +kernel
theorem dX3_insert_82 : decode cX3_insert 82 = .ok (.getfield 17, 3) := by decide +kernel
theorem dX3_insert_85 : decode cX3_insert 85 = .ok (.iload 4, 2) := by decide +kernel
theorem dX3_insert_87 : decode cX3_insert 87 = .ok (.aload_n 3, 1) := by decide +kernel
theorem dX3_insert_88 : decode cX3_insert 88 = .ok (.aastore, 1) := by decide +kernel
theorem dX3_insert_89 : decode cX3_insert 89 = .ok (.aload_n 0, 1) := by decide +kernel
theorem dX3_insert_90 : decode cX3_insert 90 = .ok (.dup, 1) := by decide +kernel
theorem dX3_insert_91 : decode cX3_insert 91 = .ok (.getfield 21, 3) := by decide +kernel
theorem dX3_insert_94 : decode cX3_insert 94 = .ok (.iconst 1, 1) := by decide +kernel
theorem dX3_insert_95 : decode cX3_insert 95 = .ok (.iadd, 1) := by decide +kernel
theorem dX3_insert_96 : decode cX3_insert 96 = .ok (.putfield 21, 3) := by decide +kernel
theorem dX3_insert_99 : decode cX3_insert 99 = .ok (.return_, 1) := by decide +kernel
theorem dX3_remove_0 : decode cX3_remove 0 = .ok (.iload_n 1, 1) := by decide +kernel
theorem dX3_remove_1 : decode cX3_remove 1 = .ok (.istore_n 2, 1) := by decide +kernel
theorem dX3_remove_2 : decode cX3_remove 2 = .ok (.iload_n 2, 1) := by decide +kernel
theorem dX3_remove_3 : decode cX3_remove 3 = .ok (.iconst 1, 1) := by decide +kernel
theorem dX3_remove_4 : decode cX3_remove 4 = .ok (.iadd, 1) := by decide +kernel
theorem dX3_remove_5 : decode cX3_remove 5 = .ok (.aload_n 0, 1) := by decide +kernel
theorem dX3_remove_6 : decode cX3_remove 6 = .ok (.getfield 21, 3) := by decide +kernel
theorem dX3_remove_9 : decode cX3_remove 9 = .ok (.if_icmp .ge 37, 3) := by decide +kernel
theorem dX3_remove_12 : decode cX3_remove 12 = .ok (.aload_n 0, 1) := by decide +kernel
theorem dX3_remove_13 : decode cX3_remove 13 = .ok (.getfield 9, 3) := by decide +kernel
theorem dX3_remove_16 : decode cX3_remove 16 = .ok (.iload_n 2, 1) := by decide +kernel
theorem dX3_remove_17 : decode cX3_remove 17 = .ok (.aload_n 0, 1) := by decide +kernel
theorem dX3_remove_18 : decode cX3_remove 18 = .ok (.getfield 9, 3) := by decide +kernel
theorem dX3_remove_21 : decode cX3_remove 21 = .ok (.iload_n 2, 1) := by decide +kernel
theorem dX3_remove_22 : decode cX3_remove 22 = .ok (.iconst 1, 1) := by decide +kernel
theorem dX3_remove_23 : decode cX3_remove 23 = .ok (.iadd, 1) := by decide +kernel
theorem dX3_remove_24 : decode cX3_remove 24 = .ok (.laload, 1) := by decide +kernel
theorem dX3_remove_25 : decode cX3_remove 25 = .ok (.lastore, 1) := by decide +kernel
theorem dX3_remove_26 : decode cX3_remove 26 = .ok (.aload_n 0, 1) := by decide +kernel
theorem dX3_remove_27 : decode cX3_remove 27 = .ok (.getfield 17, 3) := by decide +kernel
theorem dX3_remove_30 : decode cX3_remove 30 = .ok (.iload_n 2, 1) := by decide +kernel
theorem dX3_remove_31 : decode cX3_remove 31 = .ok (.aload_n 0, 1) := by decide +kernel
theorem dX3_remove_32 : decode cX3_remove 32 = .ok (.getfield 17, 3) := by decide +kernel
theorem dX3_remove_35 : decode cX3_remove 35 = .ok (.iload_n 2, 1) := by decide +kernel
theorem dX3_remove_36 : decode cX3_remove 36 = .ok (.iconst 1, 1) := by decide +kernel
theorem dX3_remove_37 : decode cX3_remove 37 = .ok (.iadd, 1) := by decide +kernel
theorem dX3_remove_38 : decode cX3_remove 38 = .ok (.aaload, 1) := by decide +kernel
theorem dX3_remove_39 : decode cX3_remove 39 = .ok (.aastore, 1) := by decide +kernel
theorem dX3_remove_40 : decode cX3_remove 40 = .ok (.iinc 2 1, 3) := by decide +kernel
theorem dX3_remove_43 : decode cX3_remove 43 = .ok (.goto (-41), 3) := by decide +kernel
theorem dX3_remove_46 : decode cX3_remove 46 = .ok (.aload_n 0, 1) := by decide +kernel
theorem dX3_remove_47 : decode cX3_remove 47 = .ok (.dup, 1) := by decide +kernel
theorem dX3_remove_48 : decode cX3_remove 48 = .ok (.getfield 21, 3) := by decide +kernel
theorem dX3_remove_51 : decode cX3_remove 51 = .ok (.iconst 1, 1) := by decide +kernel
theorem dX3_remove_52 : decode cX3_remove 52 = .ok (.isub, 1) := by decide +kernel
theorem dX3_remove_53 : decode cX3_remove 53 = .ok (.putfield 21, 3) := by decide +kernel
theorem dX3_remove_56 : decode cX3_remove 56 = .ok (.aload_n 0, 1) := by decide +kernel
theorem dX3_remove_57 : decode cX3_remove 57 = .ok (.getfield 17, 3) := by decide +kernel
theorem dX3_remove_60 : decode cX3_remove 60 = .ok (.aload_n 0, 1) := by decide +kernel
theorem dX3_remove_61 : decode cX3_remove 61 = .ok (.getfield 21, 3) := by decide +kernel
theorem dX3_remove_64 : decode cX3_remove 64 = .ok (.aconst_null, 1) := by decide +kernel
theorem dX3_remove_65 : decode cX3_remove 65 = .ok (.aastore, 1) := by decide +kernel
theorem dX3_remove_66 : decode cX3_remove 66 = .ok (.return_, 1) := by decide +kernel
theorem dX4_areFloating_0 : decode cX4_areFloating 0 = .ok (.iload_n 0, 1) := by decide +kernel
theorem dX4_areFloating_1 : decode cX4_areFloating 1 = .ok (.bipush 6, 2) := by decide +kernel
theorem dX4_areFloating_3 : decode cX4_areFloating 3 = .ok (.if_icmp .eq 9, 3) := by decide +kernel
theorem dX4_areFloating_6 : decode cX4_areFloating 6 = .ok (.iload_n 0, 1) := by decide +kernel
theorem dX4_areFloating_7 : decode cX4_areFloating 7 = .ok (.bipush 7, 2) := by decide +kernel
theorem dX4_areFloating_9 : decode cX4_areFloating 9 = .ok (.if_icmp .ne 7, 3) := by decide +kernel
theorem dX4_areFloating_12 : decode cX4_areFloating 12 = .ok (.iconst 1, 1) := by decide +kernel
theorem dX4_areFloating_13 : decode cX4_areFloating 13 = .ok (.goto 4, 3) := by decide +kernel
theorem dX4_areFloating_16 : decode cX4_areFloating 16 = .ok (.iconst 0, 1) := by decide +kernel
theorem dX4_areFloating_17 : decode cX4_areFloating 17 = .ok (.ireturn, 1) := by decide +kernel
theorem dX4_told_0 : decode cX4_told 0 = .ok (.iload_n 0, 1) := by decide +kernel
theorem dX4_told_1 : decode cX4_told 1 = .ok (.tableswitch 84 0 7 #[47, 51, 56, 61, 66, 84, 70, 78], 47) := by decide +kernel
theorem dX4_told_48 : decode cX4_told 48 = .ok (.lload_n 1, 1) := by decide +kernel
theorem dX4_told_49 : decode cX4_told 49 = .ok (.lconst 1, 1) := by decide +kernel
theorem dX4_told_50 : decode cX4_told 50 = .ok (.land, 1) := by decide +kernel
theorem dX4_told_51 : decode cX4_told 51 = .ok (.lreturn, 1) := by decide +kernel
theorem dX4_told_52 : decode cX4_told 52 = .ok (.lload_n 1, 1) := by decide +kernel
theorem dX4_told_53 : decode cX4_told 53 = .ok (.l2i, 1) := by decide +kernel
theorem dX4_told_54 : decode cX4_told 54 = .ok (.i2b, 1) := by decide +kernel
theorem dX4_told_55 : decode cX4_told 55 = .ok (.i2l, 1) := by decide +kernel
theorem dX4_told_56 : decode cX4_told 56 = .ok (.lreturn, 1) := by decide +kernel
theorem dX4_told_57 : decode cX4_told 57 = .ok (.lload_n 1, 1) := by decide +kernel
theorem dX4_told_58 : decode cX4_told 58 = .ok (.l2i, 1) := by decide +kernel
theorem dX4_told_59 : decode cX4_told 59 = .ok (.i2c, 1) := by decide +kernel
theorem dX4_told_60 : decode cX4_told 60 = .ok (.i2l, 1) := by decide +kernel
theorem dX4_told_61 : decode cX4_told 61 = .ok (.lreturn, 1) := by decide +kernel
theorem dX4_told_62 : decode cX4_told 62 = .ok (.lload_n 1, 1) := by decide +kernel
theorem dX4_told_63 : decode cX4_told 63 = .ok (.l2i, 1) := by decide +kernel
theorem dX4_told_64 : decode cX4_told 64 = .ok (.i2s, 1) := by decide +kernel
theorem dX4_told_65 : decode cX4_told 65 = .ok (.i2l, 1) := by decide +kernel
theorem dX4_told_66 : decode cX4_told 66 = .ok (.lreturn, 1) := by decide +kernel
theorem dX4_told_67 : decode cX4_told 67 = .ok (.lload_n 1, 1) := by decide +kernel
theorem dX4_told_68 : decode cX4_told 68 = .ok (.l2i, 1) := by decide +kernel
theorem dX4_told_69 : decode cX4_told 69 = .ok (.i2l, 1) := by decide +kernel
theorem dX4_told_70 : decode cX4_told 70 = .ok (.lreturn, 1) := by decide +kernel
theorem dX4_told_71 : decode cX4_told 71 = .ok (.iload_n 0, 1) := by decide +kernel
theorem dX4_told_72 : decode cX4_told 72 = .ok (.lload_n 1, 1) := by decide +kernel
theorem dX4_told_73 : decode cX4_told 73 = .ok (.l2i, 1) := by decide +kernel
theorem dX4_told_74 : decode cX4_told 74 = .ok (.i2l, 1) := by decide +kernel
theorem dX4_told_75 : decode cX4_told 75 = .ok (.invokestatic 9, 3) := by decide +kernel
theorem dX4_told_78 : decode cX4_told 78 = .ok (.lreturn, 1) := by decide +kernel
theorem dX4_told_79 : decode cX4_told 79 = .ok (.iload_n 0, 1) := by decide +kernel
theorem dX4_told_80 : decode cX4_told 80 = .ok (.lload_n 1, 1) := by decide +kernel
theorem dX4_told_81 : decode cX4_told 81 = .ok (.invokestatic 9, 3) := by decide +kernel
theorem dX4_told_84 : decode cX4_told 84 = .ok (.lreturn, 1) := by decide +kernel
theorem dX4_told_85 : decode cX4_told 85 = .ok (.lload_n 1, 1) := by decide +kernel
theorem dX4_told_86 : decode cX4_told 86 = .ok (.lreturn, 1) := by decide +kernel
theorem dX4_isGap_0 : decode cX4_isGap 0 = .ok (.iload_n 0, 1) := by decide +kernel
theorem dX4_isGap_1 : decode cX4_isGap 1 = .ok (.invokestatic 15, 3) := by decide +kernel
theorem dX4_isGap_4 : decode cX4_isGap 4 = .ok (.ifCond .eq 15, 3) := by decide +kernel
theorem dX4_isGap_7 : decode cX4_isGap 7 = .ok (.iload_n 0, 1) := by decide +kernel
theorem dX4_isGap_8 : decode cX4_isGap 8 = .ok (.lload_n 1, 1) := by decide +kernel
theorem dX4_isGap_9 : decode cX4_isGap 9 = .ok (.invokestatic 21, 3) := by decide +kernel
theorem dX4_isGap_12 : decode cX4_isGap 12 = .ok (.ifCond .eq 7, 3) := by decide +kernel
theorem dX4_isGap_15 : decode cX4_isGap 15 = .ok (.iconst 1, 1) := by decide +kernel
theorem dX4_isGap_16 : decode cX4_isGap 16 = .ok (.goto 4, 3) := by decide +kernel
theorem dX4_isGap_19 : decode cX4_isGap 19 = .ok (.iconst 0, 1) := by decide +kernel
theorem dX4_isGap_20 : decode cX4_isGap 20 = .ok (.ireturn, 1) := by decide +kernel
theorem dX4_rank_0 : decode cX4_rank 0 = .ok (.iload_n 0, 1) := by decide +kernel
theorem dX4_rank_1 : decode cX4_rank 1 = .ok (.invokestatic 15, 3) := by decide +kernel
theorem dX4_rank_4 : decode cX4_rank 4 = .ok (.ifCond .eq 16, 3) := by decide +kernel
theorem dX4_rank_7 : decode cX4_rank 7 = .ok (.lload_n 1, 1) := by decide +kernel
theorem dX4_rank_8 : decode cX4_rank 8 = .ok (.lload_n 1, 1) := by decide +kernel
theorem dX4_rank_9 : decode cX4_rank 9 = .ok (.bipush 63, 2) := by decide +kernel
theorem dX4_rank_11 : decode cX4_rank 11 = .ok (.lshr, 1) := by decide +kernel
theorem dX4_rank_12 : decode cX4_rank 12 = .ok (.ldc2_w 25, 3) := by decide +kernel
theorem dX4_rank_15 : decode cX4_rank 15 = .ok (.land, 1) := by decide +kernel
theorem dX4_rank_16 : decode cX4_rank 16 = .ok (.lxor, 1) := by decide +kernel
theorem dX4_rank_17 : decode cX4_rank 17 = .ok (.goto 4, 3) := by decide +kernel
theorem dX4_rank_20 : decode cX4_rank 20 = .ok (.lload_n 1, 1) := by decide +kernel
theorem dX4_rank_21 : decode cX4_rank 21 = .ok (.lreturn, 1) := by decide +kernel
theorem dX4_compared_0 : decode cX4_compared 0 = .ok (.iload_n 0, 1) := by decide +kernel
theorem dX4_compared_1 : decode cX4_compared 1 = .ok (.lload_n 1, 1) := by decide +kernel
theorem dX4_compared_2 : decode cX4_compared 2 = .ok (.invokestatic 27, 3) := by decide +kernel
theorem dX4_compared_5 : decode cX4_compared 5 = .ok (.ifCond .ne 11, 3) := by decide +kernel
theorem dX4_compared_8 : decode cX4_compared 8 = .ok (.iload_n 0, 1) := by decide +kernel
theorem dX4_compared_9 : decode cX4_compared 9 = .ok (.lload_n 3, 1) := by decide +kernel
theorem dX4_compared_10 : decode cX4_compared 10 = .ok (.invokestatic 27, 3) := by decide +kernel
theorem dX4_compared_13 : decode cX4_compared 13 = .ok (.ifCond .eq 6, 3) := by decide +kernel
theorem dX4_compared_16 : decode cX4_compared 16 = .ok (.bipush 32, 2) := by decide +kernel
theorem dX4_compared_18 : decode cX4_compared 18 = .ok (.ireturn, 1) := by decide +kernel
theorem dX4_compared_19 : decode cX4_compared 19 = .ok (.iload_n 0, 1) := by decide +kernel
theorem dX4_compared_20 : decode cX4_compared 20 = .ok (.iload_n 0, 1) := by decide +kernel
theorem dX4_compared_21 : decode cX4_compared 21 = .ok (.lload_n 1, 1) := by decide +kernel
theorem dX4_compared_22 : decode cX4_compared 22 = .ok (.invokestatic 30, 3) := by decide +kernel
theorem dX4_compared_25 : decode cX4_compared 25 = .ok (.invokestatic 33, 3) := by decide +kernel
theorem dX4_compared_28 : decode cX4_compared 28 = .ok (.iload_n 0, 1) := by decide +kernel
theorem dX4_compared_29 : decode cX4_compared 29 = .ok (.iload_n 0, 1) := by decide +kernel
theorem dX4_compared_30 : decode cX4_compared 30 = .ok (.lload_n 3, 1) := by decide +kernel
theorem dX4_compared_31 : decode cX4_compared 31 = .ok (.invokestatic 30, 3) := by decide +kernel
theorem dX4_compared_34 : decode cX4_compared 34 = .ok (.invokestatic 33, 3) := by decide +kernel
theorem dX4_compared_37 : decode cX4_compared 37 = .ok (.invokestatic 36, 3) := by decide +kernel
theorem dX4_compared_40 : decode cX4_compared 40 = .ok (.istore 5, 2) := by decide +kernel
theorem dX4_compared_42 : decode cX4_compared 42 = .ok (.iload 5, 2) := by decide +kernel
theorem dX4_compared_44 : decode cX4_compared 44 = .ok (.ifCond .ne 6, 3) := by decide +kernel
theorem dX4_compared_47 : decode cX4_compared 47 = .ok (.bipush 26, 2) := by decide +kernel
theorem dX4_compared_49 : decode cX4_compared 49 = .ok (.ireturn, 1) := by decide +kernel
theorem dX4_compared_50 : decode cX4_compared 50 = .ok (.iload 5, 2) := by decide +kernel
theorem dX4_compared_52 : decode cX4_compared 52 = .ok (.ifCond .ge 8, 3) := by decide +kernel
theorem dX4_compared_55 : decode cX4_compared 55 = .ok (.bipush 35, 2) := by decide +kernel
theorem dX4_compared_57 : decode cX4_compared 57 = .ok (.goto 5, 3) := by decide +kernel
theorem dX4_compared_60 : decode cX4_compared 60 = .ok (.bipush 44, 2) := by decide +kernel
theorem dX4_compared_62 : decode cX4_compared 62 = .ok (.ireturn, 1) := by decide +kernel
theorem dX4_unsignedZero_0 : decode cX4_unsignedZero 0 = .ok (.iload_n 0, 1) := by decide +kernel
theorem dX4_unsignedZero_1 : decode cX4_unsignedZero 1 = .ok (.invokestatic 15, 3) := by decide +kernel
theorem dX4_unsignedZero_4 : decode cX4_unsignedZero 4 = .ok (.ifCond .eq 16, 3) := by decide +kernel
theorem dX4_unsignedZero_7 : decode cX4_unsignedZero 7 = .ok (.lload_n 1, 1) := by decide +kernel
theorem dX4_unsignedZero_8 : decode cX4_unsignedZero 8 = .ok (.iload_n 0, 1) := by decide +kernel
theorem dX4_unsignedZero_9 : decode cX4_unsignedZero 9 = .ok (.invokestatic 42, 3) := by decide +kernel
theorem dX4_unsignedZero_12 : decode cX4_unsignedZero 12 = .ok (.lcmp, 1) := by decide +kernel
theorem dX4_unsignedZero_13 : decode cX4_unsignedZero 13 = .ok (.ifCond .ne 7, 3) := by decide +kernel
theorem dX4_unsignedZero_16 : decode cX4_unsignedZero 16 = .ok (.lconst 0, 1) := by decide +kernel
theorem dX4_unsignedZero_17 : decode cX4_unsignedZero 17 = .ok (.goto 4, 3) := by decide +kernel
theorem dX4_unsignedZero_20 : decode cX4_unsignedZero 20 = .ok (.lload_n 1, 1) := by decide +kernel
theorem dX4_unsignedZero_21 : decode cX4_unsignedZero 21 = .ok (.lreturn, 1) := by decide +kernel
theorem dX4_shaped_0 : decode cX4_shaped 0 = .ok (.iload_n 0, 1) := by decide +kernel
theorem dX4_shaped_1 : decode cX4_shaped 1 = .ok (.lload_n 1, 1) := by decide +kernel
theorem dX4_shaped_2 : decode cX4_shaped 2 = .ok (.invokestatic 27, 3) := by decide +kernel
theorem dX4_shaped_5 : decode cX4_shaped 5 = .ok (.ifCond .eq 5, 3) := by decide +kernel
theorem dX4_shaped_8 : decode cX4_shaped 8 = .ok (.lload_n 1, 1) := by decide +kernel
theorem dX4_shaped_9 : decode cX4_shaped 9 = .ok (.lreturn, 1) := by decide +kernel
theorem dX4_shaped_10 : decode cX4_shaped 10 = .ok (.iload_n 3, 1) := by decide +kernel
theorem dX4_shaped_11 : decode cX4_shaped 11 = .ok (.lookupswitch 61 #[(0, 33), (4, 49), (5, 55)], 33) := by decide +kernel
theorem dX4_shaped_44 : decode cX4_shaped 44 = .ok (.lload_n 1, 1) := by decide +kernel
theorem dX4_shaped_45 : decode cX4_shaped 45 = .ok (.lconst 0, 1) := by decide +kernel
theorem dX4_shaped_46 : decode cX4_shaped 46 = .ok (.lcmp, 1) := by decide +kernel
theorem dX4_shaped_47 : decode cX4_shaped 47 = .ok (.ifCond .ge 11, 3) := by decide +kernel
theorem dX4_shaped_50 : decode cX4_shaped 50 = .ok (.iload_n 0, 1) := by decide +kernel
theorem dX4_shaped_51 : decode cX4_shaped 51 = .ok (.lload_n 1, 1) := by decide +kernel
theorem dX4_shaped_52 : decode cX4_shaped 52 = .ok (.invokestatic 46, 3) := by decide +kernel
theorem dX4_shaped_55 : decode cX4_shaped 55 = .ok (.goto 4, 3) := by decide +kernel
theorem dX4_shaped_58 : decode cX4_shaped 58 = .ok (.lload_n 1, 1) := by decide +kernel
theorem dX4_shaped_59 : decode cX4_shaped 59 = .ok (.lreturn, 1) := by decide +kernel
theorem dX4_shaped_60 : decode cX4_shaped 60 = .ok (.iload_n 0, 1) := by decide +kernel
theorem dX4_shaped_61 : decode cX4_shaped 61 = .ok (.lload_n 1, 1) := by decide +kernel
theorem dX4_shaped_62 : decode cX4_shaped 62 = .ok (.invokestatic 49, 3) := by decide +kernel
theorem dX4_shaped_65 : decode cX4_shaped 65 = .ok (.lreturn, 1) := by decide +kernel
theorem dX4_shaped_66 : decode cX4_shaped 66 = .ok (.iload_n 0, 1) := by decide +kernel
theorem dX4_shaped_67 : decode cX4_shaped 67 = .ok (.lload_n 1, 1) := by decide +kernel
theorem dX4_shaped_68 : decode cX4_shaped 68 = .ok (.invokestatic 46, 3) := by decide +kernel
theorem dX4_shaped_71 : decode cX4_shaped 71 = .ok (.lreturn, 1) := by decide +kernel
theorem dX4_shaped_72 : decode cX4_shaped 72 = .ok (.iload_n 0, 1) := by decide +kernel
theorem dX4_shaped_73 : decode cX4_shaped 73 = .ok (.lload_n 1, 1) := by decide +kernel
theorem dX4_shaped_74 : decode cX4_shaped 74 = .ok (.iload_n 3, 1) := by decide +kernel
theorem dX4_shaped_75 : decode cX4_shaped 75 = .ok (.invokestatic 52, 3) := by decide +kernel
theorem dX4_shaped_78 : decode cX4_shaped 78 = .ok (.lreturn, 1) := by decide +kernel
theorem dX4_turned_0 : decode cX4_turned 0 = .ok (.iload_n 0, 1) := by decide +kernel
theorem dX4_turned_1 : decode cX4_turned 1 = .ok (.ifCond .ne 7, 3) := by decide +kernel
theorem dX4_turned_4 : decode cX4_turned 4 = .ok (.lconst 1, 1) := by decide +kernel
theorem dX4_turned_5 : decode cX4_turned 5 = .ok (.lload_n 1, 1) := by decide +kernel
theorem dX4_turned_6 : decode cX4_turned 6 = .ok (.lsub, 1) := by decide +kernel
theorem dX4_turned_7 : decode cX4_turned 7 = .ok (.lreturn, 1) := by decide +kernel
theorem dX4_turned_8 : decode cX4_turned 8 = .ok (.iload_n 0, 1) := by decide +kernel
theorem dX4_turned_9 : decode cX4_turned 9 = .ok (.invokestatic 15, 3) := by decide +kernel
theorem dX4_turned_12 : decode cX4_turned 12 = .ok (.ifCond .eq 12, 3) := by decide +kernel
theorem dX4_turned_15 : decode cX4_turned 15 = .ok (.lload_n 1, 1) := by decide +kernel
theorem dX4_turned_16 : decode cX4_turned 16 = .ok (.iload_n 0, 1) := by decide +kernel
theorem dX4_turned_17 : decode cX4_turned 17 = .ok (.invokestatic 42, 3) := by decide +kernel
theorem dX4_turned_20 : decode cX4_turned 20 = .ok (.lxor, 1) := by decide +kernel
theorem dX4_turned_21 : decode cX4_turned 21 = .ok (.goto 9, 3) := by decide +kernel
theorem dX4_turned_24 : decode cX4_turned 24 = .ok (.iload_n 0, 1) := by decide +kernel
theorem dX4_turned_25 : decode cX4_turned 25 = .ok (.lload_n 1, 1) := by decide +kernel
theorem dX4_turned_26 : decode cX4_turned 26 = .ok (.lneg, 1) := by decide +kernel
theorem dX4_turned_27 : decode cX4_turned 27 = .ok (.invokestatic 56, 3) := by decide +kernel
theorem dX4_turned_30 : decode cX4_turned 30 = .ok (.lreturn, 1) := by decide +kernel
theorem dX4_leaveRest_0 : decode cX4_leaveRest 0 = .ok (.iload_n 0, 1) := by decide +kernel
theorem dX4_leaveRest_1 : decode cX4_leaveRest 1 = .ok (.invokestatic 15, 3) := by decide +kernel
theorem dX4_leaveRest_4 : decode cX4_leaveRest 4 = .ok (.ifCond .eq 12, 3) := by decide +kernel
theorem dX4_leaveRest_7 : decode cX4_leaveRest 7 = .ok (.iload_n 0, 1) := by decide +kernel
theorem dX4_leaveRest_8 : decode cX4_leaveRest 8 = .ok (.lload_n 1, 1) := by decide +kernel
theorem dX4_leaveRest_9 : decode cX4_leaveRest 9 = .ok (.lload_n 3, 1) := by decide +kernel
theorem dX4_leaveRest_10 : decode cX4_leaveRest 10 = .ok (.invokestatic 59, 3) := by decide +kernel
theorem dX4_leaveRest_13 : decode cX4_leaveRest 13 = .ok (.goto 14, 3) := by decide +kernel
theorem dX4_leaveRest_16 : decode cX4_leaveRest 16 = .ok (.lload_n 3, 1) := by decide +kernel
theorem dX4_leaveRest_17 : decode cX4_leaveRest 17 = .ok (.lconst 0, 1) := by decide +kernel
theorem dX4_leaveRest_18 : decode cX4_leaveRest 18 = .ok (.lcmp, 1) := by decide +kernel
theorem dX4_leaveRest_19 : decode cX4_leaveRest 19 = .ok (.ifCond .eq 7, 3) := by decide +kernel
theorem dX4_leaveRest_22 : decode cX4_leaveRest 22 = .ok (.iconst 1, 1) := by decide +kernel
theorem dX4_leaveRest_23 : decode cX4_leaveRest 23 = .ok (.goto 4, 3) := by decide +kernel
theorem dX4_leaveRest_26 : decode cX4_leaveRest 26 = .ok (.iconst 0, 1) := by decide +kernel
theorem dX4_leaveRest_27 : decode cX4_leaveRest 27 = .ok (.ireturn, 1) := by decide +kernel
theorem dX4_restOf_0 : decode cX4_restOf 0 = .ok (.iload_n 0, 1) := by decide +kernel
theorem dX4_restOf_1 : decode cX4_restOf 1 = .ok (.invokestatic 15, 3) := by decide +kernel
theorem dX4_restOf_4 : decode cX4_restOf 4 = .ok (.ifCond .eq 10, 3) := by decide +kernel
theorem dX4_restOf_7 : decode cX4_restOf 7 = .ok (.iload_n 0, 1) := by decide +kernel
theorem dX4_restOf_8 : decode cX4_restOf 8 = .ok (.lload_n 1, 1) := by decide +kernel
theorem dX4_restOf_9 : decode cX4_restOf 9 = .ok (.lload_n 3, 1) := by decide +kernel
theorem dX4_restOf_10 : decode cX4_restOf 10 = .ok (.invokestatic 63, 3) := by decide +kernel
theorem dX4_restOf_13 : decode cX4_restOf 13 = .ok (.lreturn, 1) := by decide +kernel
theorem dX4_restOf_14 : decode cX4_restOf 14 = .ok (.lload_n 3, 1) := by decide +kernel
theorem dX4_restOf_15 : decode cX4_restOf 15 = .ok (.lconst 0, 1) := by decide +kernel
theorem dX4_restOf_16 : decode cX4_restOf 16 = .ok (.lcmp, 1) := by decide +kernel
theorem dX4_restOf_17 : decode cX4_restOf 17 = .ok (.ifCond .ne 7, 3) := by decide +kernel
theorem dX4_restOf_20 : decode cX4_restOf 20 = .ok (.lconst 0, 1) := by decide +kernel
theorem dX4_restOf_21 : decode cX4_restOf 21 = .ok (.goto 6, 3) := by decide +kernel
theorem dX4_restOf_24 : decode cX4_restOf 24 = .ok (.lload_n 1, 1) := by decide +kernel
theorem dX4_restOf_25 : decode cX4_restOf 25 = .ok (.lload_n 3, 1) := by decide +kernel
theorem dX4_restOf_26 : decode cX4_restOf 26 = .ok (.lrem, 1) := by decide +kernel
theorem dX4_restOf_27 : decode cX4_restOf 27 = .ok (.lreturn, 1) := by decide +kernel
theorem dX5_init_0 : decode cX5_init 0 = .ok (.aload_n 0, 1) := by decide +kernel
theorem dX5_init_1 : decode cX5_init 1 = .ok (.invokespecial 3, 3) := by decide +kernel
theorem dX5_init_4 : decode cX5_init 4 = .ok (.aload_n 0, 1) := by decide +kernel
theorem dX5_init_5 : decode cX5_init 5 = .ok (.sipush 264, 3) := by decide +kernel
theorem dX5_init_8 : decode cX5_init 8 = .ok (.newarray .byte, 2) := by decide +kernel
theorem dX5_init_10 : decode cX5_init 10 = .ok (.putfield 9, 3) := by decide +kernel
theorem dX5_init_13 : decode cX5_init 13 = .ok (.aload_n 0, 1) := by decide +kernel
theorem dX5_init_14 : decode cX5_init 14 = .ok (.bipush 24, 2) := by decide +kernel
theorem dX5_init_16 : decode cX5_init 16 = .ok (.newarray .long, 2) := by decide +kernel
theorem dX5_init_18 : decode cX5_init 18 = .ok (.putfield 15, 3) := by decide +kernel
theorem dX5_init_21 : decode cX5_init 21 = .ok (.aload_n 0, 1) := by decide +kernel
theorem dX5_init_22 : decode cX5_init 22 = .ok (.bipush 24, 2) := by decide +kernel
theorem dX5_init_24 : decode cX5_init 24 = .ok (.newarray .long, 2) := by decide +kernel
theorem dX5_init_26 : decode cX5_init 26 = .ok (.putfield 19, 3) := by decide +kernel
theorem dX5_init_29 : decode cX5_init 29 = .ok (.return_, 1) := by decide +kernel
theorem dX5_pack_0 : decode cX5_pack 0 = .ok (.aload_n 0, 1) := by decide +kernel
theorem dX5_pack_1 : decode cX5_pack 1 = .ok (.iconst 0, 1) := by decide +kernel
theorem dX5_pack_2 : decode cX5_pack 2 = .ok (.putfield 22, 3) := by decide +kernel
theorem dX5_pack_5 : decode cX5_pack 5 = .ok (.aload_n 2, 1) := by decide +kernel
theorem dX5_pack_6 : decode cX5_pack 6 = .ok (.iconst 0, 1) := by decide +kernel
theorem dX5_pack_7 : decode cX5_pack 7 = .ok (.aload_n 0, 1) := by decide +kernel
theorem dX5_pack_8 : decode cX5_pack 8 = .ok (.getfield 19, 3) := by decide +kernel
theorem dX5_pack_11 : decode cX5_pack 11 = .ok (.iconst 0, 1) := by decide +kernel
theorem dX5_pack_12 : decode cX5_pack 12 = .ok (.iload_n 3, 1) := by decide +kernel
theorem dX5_pack_13 : decode cX5_pack 13 = .ok (.invokestatic 26, 3) := by decide +kernel
theorem dX5_pack_16 : decode cX5_pack 16 = .ok (.iload_n 1, 1) := by decide +kernel
theorem dX5_pack_17 : decode cX5_pack 17 = .ok (.iconst 1, 1) := by decide +kernel
theorem dX5_pack_18 : decode cX5_pack 18 = .ok (.if_icmp .eq 13, 3) := by decide +kernel
theorem dX5_pack_21 : decode cX5_pack 21 = .ok (.iload_n 1, 1) := by decide +kernel
theorem dX5_pack_22 : decode cX5_pack 22 = .ok (.iconst 2, 1) := by decide +kernel
theorem dX5_pack_23 : decode cX5_pack 23 = .ok (.if_icmp .eq 8, 3) := by decide +kernel
theorem dX5_pack_26 : decode cX5_pack 26 = .ok (.iload_n 1, 1) := by decide +kernel
theorem dX5_pack_27 : decode cX5_pack 27 = .ok (.iconst 4, 1) := by decide +kernel
theorem dX5_pack_28 : decode cX5_pack 28 = .ok (.if_icmp .ne 8, 3) := by decide +kernel
theorem dX5_pack_31 : decode cX5_pack 31 = .ok (.aload_n 0, 1) := by decide +kernel
theorem dX5_pack_32 : decode cX5_pack 32 = .ok (.iload_n 3, 1) := by decide +kernel
theorem dX5_pack_33 : decode cX5_pack 33 = .ok (.invokevirtual 32, 3) := by decide +kernel
theorem dX5_pack_36 : decode cX5_pack 36 = .ok (.iload_n 1, 1) := by decide +kernel
theorem dX5_pack_37 : decode cX5_pack 37 = .ok (.iconst 2, 1) := by decide +kernel
theorem dX5_pack_38 : decode cX5_pack 38 = .ok (.if_icmp .ne 8, 3) := by decide +kernel
theorem dX5_pack_41 : decode cX5_pack 41 = .ok (.aload_n 0, 1) := by decide +kernel
theorem dX5_pack_42 : decode cX5_pack 42 = .ok (.iload_n 3, 1) := by decide +kernel
theorem dX5_pack_43 : decode cX5_pack 43 = .ok (.invokevirtual 32, 3) := by decide +kernel
theorem dX5_pack_46 : decode cX5_pack 46 = .ok (.iload_n 1, 1) := by decide +kernel
theorem dX5_pack_47 : decode cX5_pack 47 = .ok (.lookupswitch 41 #[(3, 25), (4, 33)], 25) := by decide +kernel
theorem dX5_pack_72 : decode cX5_pack 72 = .ok (.aload_n 0, 1) := by decide +kernel
theorem dX5_pack_73 : decode cX5_pack 73 = .ok (.iload_n 3, 1) := by decide +kernel
theorem dX5_pack_74 : decode cX5_pack 74 = .ok (.invokevirtual 36, 3) := by decide +kernel
theorem dX5_pack_77 : decode cX5_pack 77 = .ok (.goto 37, 3) := by decide +kernel
theorem dX5_pack_80 : decode cX5_pack 80 = .ok (.aload_n 0, 1) := by decide +kernel
theorem dX5_pack_81 : decode cX5_pack 81 = .ok (.iload_n 3, 1) := by decide +kernel
theorem dX5_pack_82 : decode cX5_pack 82 = .ok (.invokevirtual 39, 3) := by decide +kernel
theorem dX5_pack_85 : decode cX5_pack 85 = .ok (.goto 29, 3) := by decide +kernel
theorem dX5_pack_88 : decode cX5_pack 88 = .ok (.iconst 0, 1) := by decide +kernel
theorem dX5_pack_89 : decode cX5_pack 89 = .ok (.istore 4, 2) := by decide +kernel
theorem dX5_pack_91 : decode cX5_pack 91 = .ok (.iload 4, 2) := by decide +kernel
theorem dX5_pack_93 : decode cX5_pack 93 = .ok (.iload_n 3, 1) := by decide +kernel
theorem dX5_pack_94 : decode cX5_pack 94 = .ok (.if_icmp .ge 20, 3) := by decide +kernel
theorem dX5_pack_97 : decode cX5_pack 97 = .ok (.aload_n 0, 1) := by decide +kernel
theorem dX5_pack_98 : decode cX5_pack 98 = .ok (.aload_n 0, 1) := by decide +kernel
theorem dX5_pack_99 : decode cX5_pack 99 = .ok (.getfield 19, 3) := by decide +kernel
theorem dX5_pack_102 : decode cX5_pack 102 = .ok (.iload 4, 2) := by decide +kernel
theorem dX5_pack_104 : decode cX5_pack 104 = .ok (.laload, 1) := by decide +kernel
theorem dX5_pack_105 : decode cX5_pack 105 = .ok (.invokevirtual 42, 3) := by decide +kernel
theorem dX5_pack_108 : decode cX5_pack 108 = .ok (.iinc 4 1, 3) := by decide +kernel
theorem dX5_pack_111 : decode cX5_pack 111 = .ok (.goto (-20), 3) := by decide +kernel
theorem dX5_pack_114 : decode cX5_pack 114 = .ok (.return_, 1) := by decide +kernel
theorem dX5_makeSteps_0 : decode cX5_makeSteps 0 = .ok (.iload_n 1, 1) := by decide +kernel
theorem dX5_makeSteps_1 : decode cX5_makeSteps 1 = .ok (.iconst 1, 1) := by decide +kernel
theorem dX5_makeSteps_2 : decode cX5_makeSteps 2 = .ok (.isub, 1) := by decide +kernel
theorem dX5_makeSteps_3 : decode cX5_makeSteps 3 = .ok (.istore_n 2, 1) := by decide +kernel
theorem dX5_makeSteps_4 : decode cX5_makeSteps 4 = .ok (.iload_n 2, 1) := by decide +kernel
theorem dX5_makeSteps_5 : decode cX5_makeSteps 5 = .ok (.ifCond .le 26, 3) := by decide +kernel
theorem dX5_makeSteps_8 : decode cX5_makeSteps 8 = .ok (.aload_n 0, 1) := by decide +kernel
theorem dX5_makeSteps_9 : decode cX5_makeSteps 9 = .ok (.getfield 19, 3) := by decide +kernel
theorem dX5_makeSteps_12 : decode cX5_makeSteps 12 = .ok (.iload_n 2, 1) := by decide +kernel
theorem dX5_makeSteps_13 : decode cX5_makeSteps 13 = .ok (.dup2, 1) := by decide +kernel
theorem dX5_makeSteps_14 : decode cX5_makeSteps 14 = .ok (.laload, 1) := by decide +kernel
theorem dX5_makeSteps_15 : decode cX5_makeSteps 15 = .ok (.aload_n 0, 1) := by decide +kernel
theorem dX5_makeSteps_16 : decode cX5_makeSteps 16 = .ok (.getfield 19, 3) := by decide +kernel
theorem dX5_makeSteps_19 : decode cX5_makeSteps 19 = .ok (.iload_n 2, 1) := by decide +kernel
theorem dX5_makeSteps_20 : decode cX5_makeSteps 20 = .ok (.iconst 1, 1) := by decide +kernel
theorem dX5_makeSteps_21 : decode cX5_makeSteps 21 = .ok (.isub, 1) := by decide +kernel
theorem dX5_makeSteps_22 : decode cX5_makeSteps 22 = .ok (.laload, 1) := by decide +kernel
theorem dX5_makeSteps_23 : decode cX5_makeSteps 23 = .ok (.lsub, 1) := by decide +kernel
theorem dX5_makeSteps_24 : decode cX5_makeSteps 24 = .ok (.lastore, 1) := by decide +kernel
theorem dX5_makeSteps_25 : decode cX5_makeSteps 25 = .ok (.iinc 2 (-1), 3) := by decide +kernel
theorem dX5_makeSteps_28 : decode cX5_makeSteps 28 = .ok (.goto (-24), 3) := by decide +kernel
theorem dX5_makeSteps_31 : decode cX5_makeSteps 31 = .ok (.return_, 1) := by decide +kernel
theorem dX5_packByte_0 : decode cX5_packByte 0 = .ok (.aload_n 0, 1) := by decide +kernel
theorem dX5_packByte_1 : decode cX5_packByte 1 = .ok (.getfield 22, 3) := by decide +kernel
theorem dX5_packByte_4 : decode cX5_packByte 4 = .ok (.aload_n 0, 1) := by decide +kernel
theorem dX5_packByte_5 : decode cX5_packByte 5 = .ok (.getfield 9, 3) := by decide +kernel
theorem dX5_packByte_8 : decode cX5_packByte 8 = .ok (.arraylength, 1) := by decide +kernel
theorem dX5_packByte_9 : decode cX5_packByte 9 = .ok (.if_icmp .lt 4, 3) := by decide +kernel
theorem dX5_packByte_12 : decode cX5_packByte 12 = .ok (.return_, 1) := by decide +kernel
theorem dX5_packByte_13 : decode cX5_packByte 13 = .ok (.aload_n 0, 1) := by decide +kernel
theorem dX5_packByte_14 : decode cX5_packByte 14 = .ok (.getfield 9, 3) := by decide +kernel
theorem dX5_packByte_17 : decode cX5_packByte 17 = .ok (.aload_n 0, 1) := by decide +kernel
theorem dX5_packByte_18 : decode cX5_packByte 18 = .ok (.getfield 22, 3) := by decide +kernel
theorem dX5_packByte_21 : decode cX5_packByte 21 = .ok (.lload_n 1, 1) := by decide +kernel
theorem dX5_packByte_22 : decode cX5_packByte 22 = .ok (.l2i, 1) := by decide +kernel
theorem dX5_packByte_23 : decode cX5_packByte 23 = .ok (.i2b, 1) := by decide +kernel
theorem dX5_packByte_24 : decode cX5_packByte 24 = .ok (.bastore, 1) := by decide +kernel
theorem dX5_packByte_25 : decode cX5_packByte 25 = .ok (.aload_n 0, 1) := by decide +kernel
theorem dX5_packByte_26 : decode cX5_packByte 26 = .ok (.dup, 1) := by decide +kernel
theorem dX5_packByte_27 : decode cX5_packByte 27 = .ok (.getfield 22, 3) := by decide +kernel
theorem dX5_packByte_30 : decode cX5_packByte 30 = .ok (.iconst 1, 1) := by decide +kernel
theorem dX5_packByte_31 : decode cX5_packByte 31 = .ok (.iadd, 1) := by decide +kernel
theorem dX5_packByte_32 : decode cX5_packByte 32 = .ok (.putfield 22, 3) := by decide +kernel
theorem dX5_packByte_35 : decode cX5_packByte 35 = .ok (.return_, 1) := by decide +kernel
theorem dX5_packPlain_0 : decode cX5_packPlain 0 = .ok (.lload_n 1, 1) := by decide +kernel
theorem dX5_packPlain_1 : decode cX5_packPlain 1 = .ok (.iconst 1, 1) := by decide +kernel
theorem dX5_packPlain_2 : decode cX5_packPlain 2 = .ok (.lshl, 1) := by decide +kernel
theorem dX5_packPlain_3 : decode cX5_packPlain 3 = .ok (.lload_n 1, 1) := by decide +kernel
theorem dX5_packPlain_4 : decode cX5_packPlain 4 = .ok (.bipush 63, 2) := by decide +kernel
theorem dX5_packPlain_6 : decode cX5_packPlain 6 = .ok (.lshr, 1) := by decide +kernel
theorem dX5_packPlain_7 : decode cX5_packPlain 7 = .ok (.lxor, 1) := by decide +kernel
theorem dX5_packPlain_8 : decode cX5_packPlain 8 = .ok (.lstore_n 3, 1) := by decide +kernel
theorem dX5_packPlain_9 : decode cX5_packPlain 9 = .ok (.iconst 0, 1) := by decide +kernel
theorem dX5_packPlain_10 : decode cX5_packPlain 10 = .ok (.istore 5, 2) := by decide +kernel
theorem dX5_packPlain_12 : decode cX5_packPlain 12 = .ok (.iload 5, 2) := by decide +kernel
theorem dX5_packPlain_14 : decode cX5_packPlain 14 = .ok (.bipush 9, 2) := by decide +kernel
theorem dX5_packPlain_16 : decode cX5_packPlain 16 = .ok (.if_icmp .ge 36, 3) := by decide +kernel
theorem dX5_packPlain_19 : decode cX5_packPlain 19 = .ok (.lload_n 3, 1) := by decide +kernel
theorem dX5_packPlain_20 : decode cX5_packPlain 20 = .ok (.bipush 7, 2) := by decide +kernel
theorem dX5_packPlain_22 : decode cX5_packPlain 22 = .ok (.lushr, 1) := by decide +kernel
theorem dX5_packPlain_23 : decode cX5_packPlain 23 = .ok (.lconst 0, 1) := by decide +kernel
theorem dX5_packPlain_24 : decode cX5_packPlain 24 = .ok (.lcmp, 1) := by decide +kernel
theorem dX5_packPlain_25 : decode cX5_packPlain 25 = .ok (.ifCond .eq 27, 3) := by decide +kernel
theorem dX5_packPlain_28 : decode cX5_packPlain 28 = .ok (.aload_n 0, 1) := by decide +kernel
theorem dX5_packPlain_29 : decode cX5_packPlain 29 = .ok (.lload_n 3, 1) := by decide +kernel
theorem dX5_packPlain_30 : decode cX5_packPlain 30 = .ok (.ldc2_w 46, 3) := by decide +kernel
theorem dX5_packPlain_33 : decode cX5_packPlain 33 = .ok (.land, 1) := by decide +kernel
theorem dX5_packPlain_34 : decode cX5_packPlain 34 = .ok (.ldc2_w 48, 3) := by decide +kernel
theorem dX5_packPlain_37 : decode cX5_packPlain 37 = .ok (.lor, 1) := by decide +kernel
theorem dX5_packPlain_38 : decode cX5_packPlain 38 = .ok (.invokevirtual 50, 3) := by decide +kernel
theorem dX5_packPlain_41 : decode cX5_packPlain 41 = .ok (.lload_n 3, 1) := by decide +kernel
theorem dX5_packPlain_42 : decode cX5_packPlain 42 = .ok (.bipush 7, 2) := by decide +kernel
theorem dX5_packPlain_44 : decode cX5_packPlain 44 = .ok (.lushr, 1) := by decide +kernel
theorem dX5_packPlain_45 : decode cX5_packPlain 45 = .ok (.lstore_n 3, 1) := by decide +kernel
theorem dX5_packPlain_46 : decode cX5_packPlain 46 = .ok (.iinc 5 1, 3) := by decide +kernel
theorem dX5_packPlain_49 : decode cX5_packPlain 49 = .ok (.goto (-37), 3) := by decide +kernel
theorem dX5_packPlain_52 : decode cX5_packPlain 52 = .ok (.aload_n 0, 1) := by decide +kernel
theorem dX5_packPlain_53 : decode cX5_packPlain 53 = .ok (.lload_n 3, 1) := by decide +kernel
theorem dX5_packPlain_54 : decode cX5_packPlain 54 = .ok (.invokevirtual 50, 3) := by decide +kernel
theorem dX5_packPlain_57 : decode cX5_packPlain 57 = .ok (.return_, 1) := by decide +kernel
theorem dX5_packRuns_0 : decode cX5_packRuns 0 = .ok (.iconst 0, 1) := by decide +kernel
theorem dX5_packRuns_1 : decode cX5_packRuns 1 = .ok (.istore_n 2, 1) := by decide +kernel
theorem dX5_packRuns_2 : decode cX5_packRuns 2 = .ok (.iconst 1, 1) := by decide +kernel
theorem dX5_packRuns_3 : decode cX5_packRuns 3 = .ok (.istore_n 3, 1) := by decide +kernel
theorem dX5_packRuns_4 : decode cX5_packRuns 4 = .ok (.iload_n 3, 1) := by decide +kernel
theorem dX5_packRuns_5 : decode cX5_packRuns 5 = .ok (.iload_n 1, 1) := by decide +kernel
theorem dX5_packRuns_6 : decode cX5_packRuns 6 = .ok (.if_icmp .gt 55, 3) := by decide +kernel
theorem dX5_packRuns_9 : decode cX5_packRuns 9 = .ok (.iload_n 3, 1) := by decide +kernel
theorem dX5_packRuns_10 : decode cX5_packRuns 10 = .ok (.iload_n 1, 1) := by decide +kernel
theorem dX5_packRuns_11 : decode cX5_packRuns 11 = .ok (.if_icmp .ge 22, 3) := by decide +kernel
theorem dX5_packRuns_14 : decode cX5_packRuns 14 = .ok (.aload_n 0, 1) := by decide +kernel
theorem dX5_packRuns_15 : decode cX5_packRuns 15 = .ok (.getfield 19, 3) := by decide +kernel
theorem dX5_packRuns_18 : decode cX5_packRuns 18 = .ok (.iload_n 3, 1) := by decide +kernel
theorem dX5_packRuns_19 : decode cX5_packRuns 19 = .ok (.laload, 1) := by decide +kernel
theorem dX5_packRuns_20 : decode cX5_packRuns 20 = .ok (.aload_n 0, 1) := by decide +kernel
theorem dX5_packRuns_21 : decode cX5_packRuns 21 = .ok (.getfield 19, 3) := by decide +kernel
theorem dX5_packRuns_24 : decode cX5_packRuns 24 = .ok (.iload_n 2, 1) := by decide +kernel
theorem dX5_packRuns_25 : decode cX5_packRuns 25 = .ok (.laload, 1) := by decide +kernel
theorem dX5_packRuns_26 : decode cX5_packRuns 26 = .ok (.lcmp, 1) := by decide +kernel
theorem dX5_packRuns_27 : decode cX5_packRuns 27 = .ok (.ifCond .ne 6, 3) := by decide +kernel
theorem dX5_packRuns_30 : decode cX5_packRuns 30 = .ok (.goto 25, 3) := by decide +kernel
theorem dX5_packRuns_33 : decode cX5_packRuns 33 = .ok (.aload_n 0, 1) := by decide +kernel
theorem dX5_packRuns_34 : decode cX5_packRuns 34 = .ok (.aload_n 0, 1) := by decide +kernel
theorem dX5_packRuns_35 : decode cX5_packRuns 35 = .ok (.getfield 19, 3) := by decide +kernel
theorem dX5_packRuns_38 : decode cX5_packRuns 38 = .ok (.iload_n 2, 1) := by decide +kernel
theorem dX5_packRuns_39 : decode cX5_packRuns 39 = .ok (.laload, 1) := by decide +kernel
theorem dX5_packRuns_40 : decode cX5_packRuns 40 = .ok (.invokevirtual 42, 3) := by decide +kernel
theorem dX5_packRuns_43 : decode cX5_packRuns 43 = .ok (.aload_n 0, 1) := by decide +kernel
theorem dX5_packRuns_44 : decode cX5_packRuns 44 = .ok (.iload_n 3, 1) := by decide +kernel
theorem dX5_packRuns_45 : decode cX5_packRuns 45 = .ok (.iload_n 2, 1) := by decide +kernel
theorem dX5_packRuns_46 : decode cX5_packRuns 46 = .ok (.isub, 1) := by decide +kernel
theorem dX5_packRuns_47 : decode cX5_packRuns 47 = .ok (.iconst 1, 1) := by decide +kernel
theorem dX5_packRuns_48 : decode cX5_packRuns 48 = .ok (.isub, 1) := by decide +kernel
theorem dX5_packRuns_49 : decode cX5_packRuns 49 = .ok (.i2l, 1) := by decide +kernel
theorem dX5_packRuns_50 : decode cX5_packRuns 50 = .ok (.invokevirtual 42, 3) := by decide +kernel
theorem dX5_packRuns_53 : decode cX5_packRuns 53 = .ok (.iload_n 3, 1) := by decide +kernel
theorem dX5_packRuns_54 : decode cX5_packRuns 54 = .ok (.istore_n 2, 1) := by decide +kernel
theorem dX5_packRuns_55 : decode cX5_packRuns 55 = .ok (.iinc 3 1, 3) := by decide +kernel
theorem dX5_packRuns_58 : decode cX5_packRuns 58 = .ok (.goto (-54), 3) := by decide +kernel
theorem dX5_packRuns_61 : decode cX5_packRuns 61 = .ok (.return_, 1) := by decide +kernel
theorem dX5_packWide_0 : decode cX5_packWide 0 = .ok (.iconst 1, 1) := by decide +kernel
theorem dX5_packWide_1 : decode cX5_packWide 1 = .ok (.istore_n 2, 1) := by decide +kernel
theorem dX5_packWide_2 : decode cX5_packWide 2 = .ok (.iconst 0, 1) := by decide +kernel
theorem dX5_packWide_3 : decode cX5_packWide 3 = .ok (.istore_n 3, 1) := by decide +kernel
theorem dX5_packWide_4 : decode cX5_packWide 4 = .ok (.iload_n 3, 1) := by decide +kernel
theorem dX5_packWide_5 : decode cX5_packWide 5 = .ok (.iload_n 1, 1) := by decide +kernel
theorem dX5_packWide_6 : decode cX5_packWide 6 = .ok (.if_icmp .ge 23, 3) := by decide +kernel
theorem dX5_packWide_9 : decode cX5_packWide 9 = .ok (.iload_n 2, 1) := by decide +kernel
theorem dX5_packWide_10 : decode cX5_packWide 10 = .ok (.aload_n 0, 1) := by decide +kernel
theorem dX5_packWide_11 : decode cX5_packWide 11 = .ok (.getfield 19, 3) := by decide +kernel
theorem dX5_packWide_14 : decode cX5_packWide 14 = .ok (.iload_n 3, 1) := by decide +kernel
theorem dX5_packWide_15 : decode cX5_packWide 15 = .ok (.laload, 1) := by decide +kernel
theorem dX5_packWide_16 : decode cX5_packWide 16 = .ok (.invokestatic 53, 3) := by decide +kernel
theorem dX5_packWide_19 : decode cX5_packWide 19 = .ok (.invokestatic 57, 3) := by decide +kernel
theorem dX5_packWide_22 : decode cX5_packWide 22 = .ok (.istore_n 2, 1) := by decide +kernel
theorem dX5_packWide_23 : decode cX5_packWide 23 = .ok (.iinc 3 1, 3) := by decide +kernel
theorem dX5_packWide_26 : decode cX5_packWide 26 = .ok (.goto (-22), 3) := by decide +kernel
theorem dX5_packWide_29 : decode cX5_packWide 29 = .ok (.aload_n 0, 1) := by decide +kernel
theorem dX5_packWide_30 : decode cX5_packWide 30 = .ok (.iload_n 2, 1) := by decide +kernel
theorem dX5_packWide_31 : decode cX5_packWide 31 = .ok (.i2l, 1) := by decide +kernel
theorem dX5_packWide_32 : decode cX5_packWide 32 = .ok (.invokevirtual 50, 3) := by decide +kernel
theorem dX5_packWide_35 : decode cX5_packWide 35 = .ok (.iconst 0, 1) := by decide +kernel
theorem dX5_packWide_36 : decode cX5_packWide 36 = .ok (.istore_n 3, 1) := by decide +kernel
theorem dX5_packWide_37 : decode cX5_packWide 37 = .ok (.iload_n 3, 1) := by decide +kernel
theorem dX5_packWide_38 : decode cX5_packWide 38 = .ok (.iload_n 1, 1) := by decide +kernel
theorem dX5_packWide_39 : decode cX5_packWide 39 = .ok (.if_icmp .ge 40, 3) := by decide +kernel
theorem dX5_packWide_42 : decode cX5_packWide 42 = .ok (.iconst 0, 1) := by decide +kernel
theorem dX5_packWide_43 : decode cX5_packWide 43 = .ok (.istore 4, 2) := by decide +kernel
theorem dX5_packWide_45 : decode cX5_packWide 45 = .ok (.iload 4, 2) := by decide +kernel
theorem dX5_packWide_47 : decode cX5_packWide 47 = .ok (.iload_n 2, 1) := by decide +kernel
theorem dX5_packWide_48 : decode cX5_packWide 48 = .ok (.if_icmp .ge 25, 3) := by decide +kernel
theorem dX5_packWide_51 : decode cX5_packWide 51 = .ok (.aload_n 0, 1) := by decide +kernel
theorem dX5_packWide_52 : decode cX5_packWide 52 = .ok (.aload_n 0, 1) := by decide +kernel
theorem dX5_packWide_53 : decode cX5_packWide 53 = .ok (.getfield 19, 3) := by decide +kernel
theorem dX5_packWide_56 : decode cX5_packWide 56 = .ok (.iload_n 3, 1) := by decide +kernel
theorem dX5_packWide_57 : decode cX5_packWide 57 = .ok (.laload, 1) := by decide +kernel
theorem dX5_packWide_58 : decode cX5_packWide 58 = .ok (.bipush 8, 2) := by decide +kernel
theorem dX5_packWide_60 : decode cX5_packWide 60 = .ok (.iload 4, 2) := by decide +kernel
theorem dX5_packWide_62 : decode cX5_packWide 62 = .ok (.imul, 1) := by decide +kernel
theorem dX5_packWide_63 : decode cX5_packWide 63 = .ok (.lshr, 1) := by decide +kernel
theorem dX5_packWide_64 : decode cX5_packWide 64 = .ok (.invokevirtual 50, 3) := by decide +kernel
theorem dX5_packWide_67 : decode cX5_packWide 67 = .ok (.iinc 4 1, 3) := by decide +kernel
theorem dX5_packWide_70 : decode cX5_packWide 70 = .ok (.goto (-25), 3) := by decide +kernel
theorem dX5_packWide_73 : decode cX5_packWide 73 = .ok (.iinc 3 1, 3) := by decide +kernel
theorem dX5_packWide_76 : decode cX5_packWide 76 = .ok (.goto (-39), 3) := by decide +kernel
theorem dX5_packWide_79 : decode cX5_packWide 79 = .ok (.return_, 1) := by decide +kernel
theorem dX5_widthOf_0 : decode cX5_widthOf 0 = .ok (.iconst 1, 1) := by decide +kernel
theorem dX5_widthOf_1 : decode cX5_widthOf 1 = .ok (.istore_n 2, 1) := by decide +kernel
theorem dX5_widthOf_2 : decode cX5_widthOf 2 = .ok (.iconst 1, 1) := by decide +kernel
theorem dX5_widthOf_3 : decode cX5_widthOf 3 = .ok (.istore_n 3, 1) := by decide +kernel
theorem dX5_widthOf_4 : decode cX5_widthOf 4 = .ok (.iload_n 3, 1) := by decide +kernel
theorem dX5_widthOf_5 : decode cX5_widthOf 5 = .ok (.bipush 8, 2) := by decide +kernel
theorem dX5_widthOf_7 : decode cX5_widthOf 7 = .ok (.if_icmp .ge 39, 3) := by decide +kernel
theorem dX5_widthOf_10 : decode cX5_widthOf 10 = .ok (.lload_n 0, 1) := by decide +kernel
theorem dX5_widthOf_11 : decode cX5_widthOf 11 = .ok (.bipush 8, 2) := by decide +kernel
theorem dX5_widthOf_13 : decode cX5_widthOf 13 = .ok (.iload_n 3, 1) := by decide +kernel
theorem dX5_widthOf_14 : decode cX5_widthOf 14 = .ok (.imul, 1) := by decide +kernel
theorem dX5_widthOf_15 : decode cX5_widthOf 15 = .ok (.iconst 1, 1) := by decide +kernel
theorem dX5_widthOf_16 : decode cX5_widthOf 16 = .ok (.isub, 1) := by decide +kernel
theorem dX5_widthOf_17 : decode cX5_widthOf 17 = .ok (.lshr, 1) := by decide +kernel
theorem dX5_widthOf_18 : decode cX5_widthOf 18 = .ok (.lstore 4, 2) := by decide +kernel
theorem dX5_widthOf_20 : decode cX5_widthOf 20 = .ok (.lload 4, 2) := by decide +kernel
theorem dX5_widthOf_22 : decode cX5_widthOf 22 = .ok (.lconst 0, 1) := by decide +kernel
theorem dX5_widthOf_23 : decode cX5_widthOf 23 = .ok (.lcmp, 1) := by decide +kernel
theorem dX5_widthOf_24 : decode cX5_widthOf 24 = .ok (.ifCond .eq 16, 3) := by decide +kernel
theorem dX5_widthOf_27 : decode cX5_widthOf 27 = .ok (.lload 4, 2) := by decide +kernel
theorem dX5_widthOf_29 : decode cX5_widthOf 29 = .ok (.ldc2_w 63, 3) := by decide +kernel
theorem dX5_widthOf_32 : decode cX5_widthOf 32 = .ok (.lcmp, 1) := by decide +kernel
theorem dX5_widthOf_33 : decode cX5_widthOf 33 = .ok (.ifCond .eq 7, 3) := by decide +kernel
theorem dX5_widthOf_36 : decode cX5_widthOf 36 = .ok (.iload_n 3, 1) := by decide +kernel
theorem dX5_widthOf_37 : decode cX5_widthOf 37 = .ok (.iconst 1, 1) := by decide +kernel
theorem dX5_widthOf_38 : decode cX5_widthOf 38 = .ok (.iadd, 1) := by decide +kernel
theorem dX5_widthOf_39 : decode cX5_widthOf 39 = .ok (.istore_n 2, 1) := by decide +kernel
theorem dX5_widthOf_40 : decode cX5_widthOf 40 = .ok (.iinc 3 1, 3) := by decide +kernel
theorem dX5_widthOf_43 : decode cX5_widthOf 43 = .ok (.goto (-39), 3) := by decide +kernel
theorem dX5_widthOf_46 : decode cX5_widthOf 46 = .ok (.iload_n 2, 1) := by decide +kernel
theorem dX5_widthOf_47 : decode cX5_widthOf 47 = .ok (.ireturn, 1) := by decide +kernel
theorem dX5_unpack_0 : decode cX5_unpack 0 = .ok (.aload_n 0, 1) := by decide +kernel
theorem dX5_unpack_1 : decode cX5_unpack 1 = .ok (.aload 4, 2) := by decide +kernel
theorem dX5_unpack_3 : decode cX5_unpack 3 = .ok (.putfield 65, 3) := by decide +kernel
theorem dX5_unpack_6 : decode cX5_unpack 6 = .ok (.aload_n 0, 1) := by decide +kernel
theorem dX5_unpack_7 : decode cX5_unpack 7 = .ok (.iload 5, 2) := by decide +kernel
theorem dX5_unpack_9 : decode cX5_unpack 9 = .ok (.putfield 69, 3) := by decide +kernel
theorem dX5_unpack_12 : decode cX5_unpack 12 = .ok (.aload_n 0, 1) := by decide +kernel
theorem dX5_unpack_13 : decode cX5_unpack 13 = .ok (.iload 6, 2) := by decide +kernel
theorem dX5_unpack_15 : decode cX5_unpack 15 = .ok (.putfield 72, 3) := by decide +kernel
theorem dX5_unpack_18 : decode cX5_unpack 18 = .ok (.aload_n 0, 1) := by decide +kernel
theorem dX5_unpack_19 : decode cX5_unpack 19 = .ok (.iconst 0, 1) := by decide +kernel
theorem dX5_unpack_20 : decode cX5_unpack 20 = .ok (.putfield 75, 3) := by decide +kernel
theorem dX5_unpack_23 : decode cX5_unpack 23 = .ok (.iload_n 1, 1) := by decide +kernel
theorem dX5_unpack_24 : decode cX5_unpack 24 = .ok (.lookupswitch 44 #[(3, 28), (4, 36)], 28) := by decide +kernel
theorem dX5_unpack_52 : decode cX5_unpack 52 = .ok (.aload_n 0, 1) := by decide +kernel
theorem dX5_unpack_53 : decode cX5_unpack 53 = .ok (.iload_n 3, 1) := by decide +kernel
theorem dX5_unpack_54 : decode cX5_unpack 54 = .ok (.invokevirtual 79, 3) := by decide +kernel
theorem dX5_unpack_57 : decode cX5_unpack 57 = .ok (.goto 37, 3) := by decide +kernel
theorem dX5_unpack_60 : decode cX5_unpack 60 = .ok (.aload_n 0, 1) := by decide +kernel
theorem dX5_unpack_61 : decode cX5_unpack 61 = .ok (.iload_n 3, 1) := by decide +kernel
theorem dX5_unpack_62 : decode cX5_unpack 62 = .ok (.invokevirtual 82, 3) := by decide +kernel
theorem dX5_unpack_65 : decode cX5_unpack 65 = .ok (.goto 29, 3) := by decide +kernel
theorem dX5_unpack_68 : decode cX5_unpack 68 = .ok (.iconst 0, 1) := by decide +kernel
theorem dX5_unpack_69 : decode cX5_unpack 69 = .ok (.istore 7, 2) := by decide +kernel
theorem dX5_unpack_71 : decode cX5_unpack 71 = .ok (.iload 7, 2) := by decide +kernel
theorem dX5_unpack_73 : decode cX5_unpack 73 = .ok (.iload_n 3, 1) := by decide +kernel
theorem dX5_unpack_74 : decode cX5_unpack 74 = .ok (.if_icmp .ge 20, 3) := by decide +kernel
theorem dX5_unpack_77 : decode cX5_unpack 77 = .ok (.aload_n 0, 1) := by decide +kernel
theorem dX5_unpack_78 : decode cX5_unpack 78 = .ok (.getfield 15, 3) := by decide +kernel
theorem dX5_unpack_81 : decode cX5_unpack 81 = .ok (.iload 7, 2) := by decide +kernel
theorem dX5_unpack_83 : decode cX5_unpack 83 = .ok (.aload_n 0, 1) := by decide +kernel
theorem dX5_unpack_84 : decode cX5_unpack 84 = .ok (.invokevirtual 85, 3) := by decide +kernel
theorem dX5_unpack_87 : decode cX5_unpack 87 = .ok (.lastore, 1) := by decide +kernel
theorem dX5_unpack_88 : decode cX5_unpack 88 = .ok (.iinc 7 1, 3) := by decide +kernel
theorem dX5_unpack_91 : decode cX5_unpack 91 = .ok (.goto (-20), 3) := by decide +kernel
theorem dX5_unpack_94 : decode cX5_unpack 94 = .ok (.iload_n 1, 1) := by decide +kernel
theorem dX5_unpack_95 : decode cX5_unpack 95 = .ok (.iconst 1, 1) := by decide +kernel
theorem dX5_unpack_96 : decode cX5_unpack 96 = .ok (.if_icmp .eq 13, 3) := by decide +kernel
theorem dX5_unpack_99 : decode cX5_unpack 99 = .ok (.iload_n 1, 1) := by decide +kernel
theorem dX5_unpack_100 : decode cX5_unpack 100 = .ok (.iconst 2, 1) := by decide +kernel
theorem dX5_unpack_101 : decode cX5_unpack 101 = .ok (.if_icmp .eq 8, 3) := by decide +kernel
theorem dX5_unpack_104 : decode cX5_unpack 104 = .ok (.iload_n 1, 1) := by decide +kernel
theorem dX5_unpack_105 : decode cX5_unpack 105 = .ok (.iconst 4, 1) := by decide +kernel
theorem dX5_unpack_106 : decode cX5_unpack 106 = .ok (.if_icmp .ne 8, 3) := by decide +kernel
theorem dX5_unpack_109 : decode cX5_unpack 109 = .ok (.aload_n 0, 1) := by decide +kernel
theorem dX5_unpack_110 : decode cX5_unpack 110 = .ok (.iload_n 3, 1) := by decide +kernel
theorem dX5_unpack_111 : decode cX5_unpack 111 = .ok (.invokevirtual 89, 3) := by decide +kernel
theorem dX5_unpack_114 : decode cX5_unpack 114 = .ok (.iload_n 1, 1) := by decide +kernel
theorem dX5_unpack_115 : decode cX5_unpack 115 = .ok (.iconst 2, 1) := by decide +kernel
theorem dX5_unpack_116 : decode cX5_unpack 116 = .ok (.if_icmp .ne 8, 3) := by decide +kernel
theorem dX5_unpack_119 : decode cX5_unpack 119 = .ok (.aload_n 0, 1) := by decide +kernel
theorem dX5_unpack_120 : decode cX5_unpack 120 = .ok (.iload_n 3, 1) := by decide +kernel
theorem dX5_unpack_121 : decode cX5_unpack 121 = .ok (.invokevirtual 89, 3) := by decide +kernel
theorem dX5_unpack_124 : decode cX5_unpack 124 = .ok (.aload_n 0, 1) := by decide +kernel
theorem dX5_unpack_125 : decode cX5_unpack 125 = .ok (.getfield 75, 3) := by decide +kernel
theorem dX5_unpack_128 : decode cX5_unpack 128 = .ok (.ifCond .ne 12, 3) := by decide +kernel
theorem dX5_unpack_131 : decode cX5_unpack 131 = .ok (.aload_n 0, 1) := by decide +kernel
theorem dX5_unpack_132 : decode cX5_unpack 132 = .ok (.iload_n 2, 1) := by decide +kernel
theorem dX5_unpack_133 : decode cX5_unpack 133 = .ok (.iload_n 3, 1) := by decide +kernel
theorem dX5_unpack_134 : decode cX5_unpack 134 = .ok (.invokevirtual 92, 3) := by decide +kernel
theorem dX5_unpack_137 : decode cX5_unpack 137 = .ok (.ifCond .ne 5, 3) := by decide +kernel
theorem dX5_unpack_140 : decode cX5_unpack 140 = .ok (.iconst 0, 1) := by decide +kernel
theorem dX5_unpack_141 : decode cX5_unpack 141 = .ok (.ireturn, 1) := by decide +kernel
theorem dX5_unpack_142 : decode cX5_unpack 142 = .ok (.aload_n 0, 1) := by decide +kernel
theorem dX5_unpack_143 : decode cX5_unpack 143 = .ok (.iload_n 1, 1) := by decide +kernel
theorem dX5_unpack_144 : decode cX5_unpack 144 = .ok (.aload_n 0, 1) := by decide +kernel
theorem dX5_unpack_145 : decode cX5_unpack 145 = .ok (.getfield 15, 3) := by decide +kernel
theorem dX5_unpack_148 : decode cX5_unpack 148 = .ok (.iload_n 3, 1) := by decide +kernel
theorem dX5_unpack_149 : decode cX5_unpack 149 = .ok (.invokevirtual 96, 3) := by decide +kernel
theorem dX5_unpack_152 : decode cX5_unpack 152 = .ok (.aload_n 0, 1) := by decide +kernel
theorem dX5_unpack_153 : decode cX5_unpack 153 = .ok (.getfield 65, 3) := by decide +kernel
theorem dX5_unpack_156 : decode cX5_unpack 156 = .ok (.iload 5, 2) := by decide +kernel
theorem dX5_unpack_158 : decode cX5_unpack 158 = .ok (.iload 6, 2) := by decide +kernel
theorem dX5_unpack_160 : decode cX5_unpack 160 = .ok (.aload_n 0, 1) := by decide +kernel
theorem dX5_unpack_161 : decode cX5_unpack 161 = .ok (.getfield 9, 3) := by decide +kernel
theorem dX5_unpack_164 : decode cX5_unpack 164 = .ok (.aload_n 0, 1) := by decide +kernel
theorem dX5_unpack_165 : decode cX5_unpack 165 = .ok (.getfield 22, 3) := by decide +kernel
theorem dX5_unpack_168 : decode cX5_unpack 168 = .ok (.invokevirtual 100, 3) := by decide +kernel
theorem dX5_unpack_171 : decode cX5_unpack 171 = .ok (.ireturn, 1) := by decide +kernel
theorem dX5_undoSteps_0 : decode cX5_undoSteps 0 = .ok (.iconst 1, 1) := by decide +kernel
theorem dX5_undoSteps_1 : decode cX5_undoSteps 1 = .ok (.istore_n 2, 1) := by decide +kernel
theorem dX5_undoSteps_2 : decode cX5_undoSteps 2 = .ok (.iload_n 2, 1) := by decide +kernel
theorem dX5_undoSteps_3 : decode cX5_undoSteps 3 = .ok (.iload_n 1, 1) := by decide +kernel
theorem dX5_undoSteps_4 : decode cX5_undoSteps 4 = .ok (.if_icmp .ge 26, 3) := by decide +kernel
theorem dX5_undoSteps_7 : decode cX5_undoSteps 7 = .ok (.aload_n 0, 1) := by decide +kernel
theorem dX5_undoSteps_8 : decode cX5_undoSteps 8 = .ok (.getfield 15, 3) := by decide +kernel
theorem dX5_undoSteps_11 : decode cX5_undoSteps 11 = .ok (.iload_n 2, 1) := by decide +kernel
theorem dX5_undoSteps_12 : decode cX5_undoSteps 12 = .ok (.dup2, 1) := by decide +kernel
theorem dX5_undoSteps_13 : decode cX5_undoSteps 13 = .ok (.laload, 1) := by decide +kernel
theorem dX5_undoSteps_14 : decode cX5_undoSteps 14 = .ok (.aload_n 0, 1) := by decide +kernel
theorem dX5_undoSteps_15 : decode cX5_undoSteps 15 = .ok (.getfield 15, 3) := by decide +kernel
theorem dX5_undoSteps_18 : decode cX5_undoSteps 18 = .ok (.iload_n 2, 1) := by decide +kernel
theorem dX5_undoSteps_19 : decode cX5_undoSteps 19 = .ok (.iconst 1, 1) := by decide +kernel
theorem dX5_undoSteps_20 : decode cX5_undoSteps 20 = .ok (.isub, 1) := by decide +kernel
theorem dX5_undoSteps_21 : decode cX5_undoSteps 21 = .ok (.laload, 1) := by decide +kernel
theorem dX5_undoSteps_22 : decode cX5_undoSteps 22 = .ok (.ladd, 1) := by decide +kernel
theorem dX5_undoSteps_23 : decode cX5_undoSteps 23 = .ok (.lastore, 1) := by decide +kernel
theorem dX5_undoSteps_24 : decode cX5_undoSteps 24 = .ok (.iinc 2 1, 3) := by decide +kernel
theorem dX5_undoSteps_27 : decode cX5_undoSteps 27 = .ok (.goto (-25), 3) := by decide +kernel
theorem dX5_undoSteps_30 : decode cX5_undoSteps 30 = .ok (.return_, 1) := by decide +kernel
theorem dX5_areTold_0 : decode cX5_areTold 0 = .ok (.iconst 0, 1) := by decide +kernel
theorem dX5_areTold_1 : decode cX5_areTold 1 = .ok (.istore_n 3, 1) := by decide +kernel
theorem dX5_areTold_2 : decode cX5_areTold 2 = .ok (.iload_n 3, 1) := by decide +kernel
theorem dX5_areTold_3 : decode cX5_areTold 3 = .ok (.iload_n 2, 1) := by decide +kernel
theorem dX5_areTold_4 : decode cX5_areTold 4 = .ok (.if_icmp .ge 31, 3) := by decide +kernel
theorem dX5_areTold_7 : decode cX5_areTold 7 = .ok (.iload_n 1, 1) := by decide +kernel
theorem dX5_areTold_8 : decode cX5_areTold 8 = .ok (.aload_n 0, 1) := by decide +kernel
theorem dX5_areTold_9 : decode cX5_areTold 9 = .ok (.getfield 15, 3) := by decide +kernel
theorem dX5_areTold_12 : decode cX5_areTold 12 = .ok (.iload_n 3, 1) := by decide +kernel
theorem dX5_areTold_13 : decode cX5_areTold 13 = .ok (.laload, 1) := by decide +kernel
theorem dX5_areTold_14 : decode cX5_areTold 14 = .ok (.invokestatic 106, 3) := by decide +kernel
theorem dX5_areTold_17 : decode cX5_areTold 17 = .ok (.aload_n 0, 1) := by decide +kernel
theorem dX5_areTold_18 : decode cX5_areTold 18 = .ok (.getfield 15, 3) := by decide +kernel
theorem dX5_areTold_21 : decode cX5_areTold 21 = .ok (.iload_n 3, 1) := by decide +kernel
theorem dX5_areTold_22 : decode cX5_areTold 22 = .ok (.laload, 1) := by decide +kernel
theorem dX5_areTold_23 : decode cX5_areTold 23 = .ok (.lcmp, 1) := by decide +kernel
theorem dX5_areTold_24 : decode cX5_areTold 24 = .ok (.ifCond .eq 5, 3) := by decide +kernel
theorem dX5_areTold_27 : decode cX5_areTold 27 = .ok (.iconst 0, 1) := by decide +kernel
theorem dX5_areTold_28 : decode cX5_areTold 28 = .ok (.ireturn, 1) := by decide +kernel
theorem dX5_areTold_29 : decode cX5_areTold 29 = .ok (.iinc 3 1, 3) := by decide +kernel
theorem dX5_areTold_32 : decode cX5_areTold 32 = .ok (.goto (-30), 3) := by decide +kernel
theorem dX5_areTold_35 : decode cX5_areTold 35 = .ok (.iconst 1, 1) := by decide +kernel
theorem dX5_areTold_36 : decode cX5_areTold 36 = .ok (.ireturn, 1) := by decide +kernel
theorem dX5_openByte_0 : decode cX5_openByte 0 = .ok (.aload_n 0, 1) := by decide +kernel
theorem dX5_openByte_1 : decode cX5_openByte 1 = .ok (.getfield 69, 3) := by decide +kernel
theorem dX5_openByte_4 : decode cX5_openByte 4 = .ok (.aload_n 0, 1) := by decide +kernel
theorem dX5_openByte_5 : decode cX5_openByte 5 = .ok (.getfield 72, 3) := by decide +kernel
theorem dX5_openByte_8 : decode cX5_openByte 8 = .ok (.if_icmp .lt 10, 3) := by decide +kernel
theorem dX5_openByte_11 : decode cX5_openByte 11 = .ok (.aload_n 0, 1) := by decide +kernel
theorem dX5_openByte_12 : decode cX5_openByte 12 = .ok (.iconst 1, 1) := by decide +kernel
theorem dX5_openByte_13 : decode cX5_openByte 13 = .ok (.putfield 75, 3) := by decide +kernel
theorem dX5_openByte_16 : decode cX5_openByte 16 = .ok (.iconst 0, 1) := by decide +kernel
theorem dX5_openByte_17 : decode cX5_openByte 17 = .ok (.ireturn, 1) := by decide +kernel
theorem dX5_openByte_18 : decode cX5_openByte 18 = .ok (.aload_n 0, 1) := by decide +kernel
theorem dX5_openByte_19 : decode cX5_openByte 19 = .ok (.dup, 1) := by decide +kernel
theorem dX5_openByte_20 : decode cX5_openByte 20 = .ok (.getfield 69, 3) := by decide +kernel
theorem dX5_openByte_23 : decode cX5_openByte 23 = .ok (.iconst 1, 1) := by decide +kernel
theorem dX5_openByte_24 : decode cX5_openByte 24 = .ok (.iadd, 1) := by decide +kernel
theorem dX5_openByte_25 : decode cX5_openByte 25 = .ok (.putfield 69, 3) := by decide +kernel
theorem dX5_openByte_28 : decode cX5_openByte 28 = .ok (.aload_n 0, 1) := by decide +kernel
theorem dX5_openByte_29 : decode cX5_openByte 29 = .ok (.getfield 65, 3) := by decide +kernel
theorem dX5_openByte_32 : decode cX5_openByte 32 = .ok (.aload_n 0, 1) := by decide +kernel
theorem dX5_openByte_33 : decode cX5_openByte 33 = .ok (.getfield 69, 3) := by decide +kernel
theorem dX5_openByte_36 : decode cX5_openByte 36 = .ok (.iconst 1, 1) := by decide +kernel
theorem dX5_openByte_37 : decode cX5_openByte 37 = .ok (.isub, 1) := by decide +kernel
theorem dX5_openByte_38 : decode cX5_openByte 38 = .ok (.invokevirtual 112, 3) := by decide +kernel
theorem dX5_openByte_41 : decode cX5_openByte 41 = .ok (.ireturn, 1) := by decide +kernel
theorem dX5_openPlain_0 : decode cX5_openPlain 0 = .ok (.lconst 0, 1) := by decide +kernel
theorem dX5_openPlain_1 : decode cX5_openPlain 1 = .ok (.lstore_n 1, 1) := by decide +kernel
theorem dX5_openPlain_2 : decode cX5_openPlain 2 = .ok (.iconst 0, 1) := by decide +kernel
theorem dX5_openPlain_3 : decode cX5_openPlain 3 = .ok (.istore_n 3, 1) := by decide +kernel
theorem dX5_openPlain_4 : decode cX5_openPlain 4 = .ok (.iload_n 3, 1) := by decide +kernel
theorem dX5_openPlain_5 : decode cX5_openPlain 5 = .ok (.bipush 10, 2) := by decide +kernel
theorem dX5_openPlain_7 : decode cX5_openPlain 7 = .ok (.if_icmp .ge 46, 3) := by decide +kernel
theorem dX5_openPlain_10 : decode cX5_openPlain 10 = .ok (.aload_n 0, 1) := by decide +kernel
theorem dX5_openPlain_11 : decode cX5_openPlain 11 = .ok (.invokevirtual 116, 3) := by decide +kernel
theorem dX5_openPlain_14 : decode cX5_openPlain 14 = .ok (.istore 4, 2) := by decide +kernel
theorem dX5_openPlain_16 : decode cX5_openPlain 16 = .ok (.lload_n 1, 1) := by decide +kernel
theorem dX5_openPlain_17 : decode cX5_openPlain 17 = .ok (.iload 4, 2) := by decide +kernel
theorem dX5_openPlain_19 : decode cX5_openPlain 19 = .ok (.bipush 127, 2) := by decide +kernel
theorem dX5_openPlain_21 : decode cX5_openPlain 21 = .ok (.iand, 1) := by decide +kernel
theorem dX5_openPlain_22 : decode cX5_openPlain 22 = .ok (.i2l, 1) := by decide +kernel
theorem dX5_openPlain_23 : decode cX5_openPlain 23 = .ok (.bipush 7, 2) := by decide +kernel
theorem dX5_openPlain_25 : decode cX5_openPlain 25 = .ok (.iload_n 3, 1) := by decide +kernel
theorem dX5_openPlain_26 : decode cX5_openPlain 26 = .ok (.imul, 1) := by decide +kernel
theorem dX5_openPlain_27 : decode cX5_openPlain 27 = .ok (.lshl, 1) := by decide +kernel
theorem dX5_openPlain_28 : decode cX5_openPlain 28 = .ok (.lor, 1) := by decide +kernel
theorem dX5_openPlain_29 : decode cX5_openPlain 29 = .ok (.lstore_n 1, 1) := by decide +kernel
theorem dX5_openPlain_30 : decode cX5_openPlain 30 = .ok (.iload 4, 2) := by decide +kernel
theorem dX5_openPlain_32 : decode cX5_openPlain 32 = .ok (.sipush 128, 3) := by decide +kernel
theorem dX5_openPlain_35 : decode cX5_openPlain 35 = .ok (.if_icmp .ge 12, 3) := by decide +kernel
theorem dX5_openPlain_38 : decode cX5_openPlain 38 = .ok (.lload_n 1, 1) := by decide +kernel
theorem dX5_openPlain_39 : decode cX5_openPlain 39 = .ok (.iconst 1, 1) := by decide +kernel
theorem dX5_openPlain_40 : decode cX5_openPlain 40 = .ok (.lushr, 1) := by decide +kernel
theorem dX5_openPlain_41 : decode cX5_openPlain 41 = .ok (.lload_n 1, 1) := by decide +kernel
theorem dX5_openPlain_42 : decode cX5_openPlain 42 = .ok (.lconst 1, 1) := by decide +kernel
theorem dX5_openPlain_43 : decode cX5_openPlain 43 = .ok (.land, 1) := by decide +kernel
theorem dX5_openPlain_44 : decode cX5_openPlain 44 = .ok (.lneg, 1) := by decide +kernel
theorem dX5_openPlain_45 : decode cX5_openPlain 45 = .ok (.lxor, 1) := by decide +kernel
theorem dX5_openPlain_46 : decode cX5_openPlain 46 = .ok (.lreturn, 1) := by decide +kernel
theorem dX5_openPlain_47 : decode cX5_openPlain 47 = .ok (.iinc 3 1, 3) := by decide +kernel
theorem dX5_openPlain_50 : decode cX5_openPlain 50 = .ok (.goto (-46), 3) := by decide +kernel
theorem dX5_openPlain_53 : decode cX5_openPlain 53 = .ok (.aload_n 0, 1) := by decide +kernel
theorem dX5_openPlain_54 : decode cX5_openPlain 54 = .ok (.iconst 1, 1) := by decide +kernel
theorem dX5_openPlain_55 : decode cX5_openPlain 55 = .ok (.putfield 75, 3) := by decide +kernel
theorem dX5_openPlain_58 : decode cX5_openPlain 58 = .ok (.lconst 0, 1) := by decide +kernel
theorem dX5_openPlain_59 : decode cX5_openPlain 59 = .ok (.lreturn, 1) := by decide +kernel
theorem dX5_openRuns_0 : decode cX5_openRuns 0 = .ok (.iconst 0, 1) := by decide +kernel
theorem dX5_openRuns_1 : decode cX5_openRuns 1 = .ok (.istore_n 2, 1) := by decide +kernel
theorem dX5_openRuns_2 : decode cX5_openRuns 2 = .ok (.iload_n 2, 1) := by decide +kernel
theorem dX5_openRuns_3 : decode cX5_openRuns 3 = .ok (.iload_n 1, 1) := by decide +kernel
theorem dX5_openRuns_4 : decode cX5_openRuns 4 = .ok (.if_icmp .ge 73, 3) := by decide +kernel
theorem dX5_openRuns_7 : decode cX5_openRuns 7 = .ok (.aload_n 0, 1) := by decide +kernel
theorem dX5_openRuns_8 : decode cX5_openRuns 8 = .ok (.getfield 75, 3) := by decide +kernel
theorem dX5_openRuns_11 : decode cX5_openRuns 11 = .ok (.ifCond .ne 66, 3) := by decide +kernel
theorem dX5_openRuns_14 : decode cX5_openRuns 14 = .ok (.aload_n 0, 1) := by decide +kernel
theorem dX5_openRuns_15 : decode cX5_openRuns 15 = .ok (.invokevirtual 85, 3) := by decide +kernel
theorem dX5_openRuns_18 : decode cX5_openRuns 18 = .ok (.lstore_n 3, 1) := by decide +kernel
theorem dX5_openRuns_19 : decode cX5_openRuns 19 = .ok (.aload_n 0, 1) := by decide +kernel
theorem dX5_openRuns_20 : decode cX5_openRuns 20 = .ok (.invokevirtual 85, 3) := by decide +kernel
theorem dX5_openRuns_23 : decode cX5_openRuns 23 = .ok (.lstore 5, 2) := by decide +kernel
theorem dX5_openRuns_25 : decode cX5_openRuns 25 = .ok (.lload 5, 2) := by decide +kernel
theorem dX5_openRuns_27 : decode cX5_openRuns 27 = .ok (.lconst 0, 1) := by decide +kernel
theorem dX5_openRuns_28 : decode cX5_openRuns 28 = .ok (.lcmp, 1) := by decide +kernel
theorem dX5_openRuns_29 : decode cX5_openRuns 29 = .ok (.ifCond .lt 13, 3) := by decide +kernel
theorem dX5_openRuns_32 : decode cX5_openRuns 32 = .ok (.lload 5, 2) := by decide +kernel
theorem dX5_openRuns_34 : decode cX5_openRuns 34 = .ok (.iload_n 1, 1) := by decide +kernel
theorem dX5_openRuns_35 : decode cX5_openRuns 35 = .ok (.iload_n 2, 1) := by decide +kernel
theorem dX5_openRuns_36 : decode cX5_openRuns 36 = .ok (.isub, 1) := by decide +kernel
theorem dX5_openRuns_37 : decode cX5_openRuns 37 = .ok (.i2l, 1) := by decide +kernel
theorem dX5_openRuns_38 : decode cX5_openRuns 38 = .ok (.lcmp, 1) := by decide +kernel
theorem dX5_openRuns_39 : decode cX5_openRuns 39 = .ok (.ifCond .lt 9, 3) := by decide +kernel
theorem dX5_openRuns_42 : decode cX5_openRuns 42 = .ok (.aload_n 0, 1) := by decide +kernel
theorem dX5_openRuns_43 : decode cX5_openRuns 43 = .ok (.iconst 1, 1) := by decide +kernel
theorem dX5_openRuns_44 : decode cX5_openRuns 44 = .ok (.putfield 75, 3) := by decide +kernel
theorem dX5_openRuns_47 : decode cX5_openRuns 47 = .ok (.return_, 1) := by decide +kernel
theorem dX5_openRuns_48 : decode cX5_openRuns 48 = .ok (.iload_n 2, 1) := by decide +kernel
theorem dX5_openRuns_49 : decode cX5_openRuns 49 = .ok (.lload 5, 2) := by decide +kernel
theorem dX5_openRuns_51 : decode cX5_openRuns 51 = .ok (.l2i, 1) := by decide +kernel
theorem dX5_openRuns_52 : decode cX5_openRuns 52 = .ok (.iadd, 1) := by decide +kernel
theorem dX5_openRuns_53 : decode cX5_openRuns 53 = .ok (.istore 7, 2) := by decide +kernel
theorem dX5_openRuns_55 : decode cX5_openRuns 55 = .ok (.iload_n 2, 1) := by decide +kernel
theorem dX5_openRuns_56 : decode cX5_openRuns 56 = .ok (.iload 7, 2) := by decide +kernel
theorem dX5_openRuns_58 : decode cX5_openRuns 58 = .ok (.if_icmp .gt 16, 3) := by decide +kernel
theorem dX5_openRuns_61 : decode cX5_openRuns 61 = .ok (.aload_n 0, 1) := by decide +kernel
theorem dX5_openRuns_62 : decode cX5_openRuns 62 = .ok (.getfield 15, 3) := by decide +kernel
theorem dX5_openRuns_65 : decode cX5_openRuns 65 = .ok (.iload_n 2, 1) := by decide +kernel
theorem dX5_openRuns_66 : decode cX5_openRuns 66 = .ok (.lload_n 3, 1) := by decide +kernel
theorem dX5_openRuns_67 : decode cX5_openRuns 67 = .ok (.lastore, 1) := by decide +kernel
theorem dX5_openRuns_68 : decode cX5_openRuns 68 = .ok (.iinc 2 1, 3) := by decide +kernel
theorem dX5_openRuns_71 : decode cX5_openRuns 71 = .ok (.goto (-16), 3) := by decide +kernel
theorem dX5_openRuns_74 : decode cX5_openRuns 74 = .ok (.goto (-72), 3) := by decide +kernel
theorem dX5_openRuns_77 : decode cX5_openRuns 77 = .ok (.return_, 1) := by decide +kernel
theorem dX5_openWide_0 : decode cX5_openWide 0 = .ok (.aload_n 0, 1) := by decide +kernel
theorem dX5_openWide_1 : decode cX5_openWide 1 = .ok (.invokevirtual 116, 3) := by decide +kernel
theorem dX5_openWide_4 : decode cX5_openWide 4 = .ok (.istore_n 2, 1) := by decide +kernel
theorem dX5_openWide_5 : decode cX5_openWide 5 = .ok (.iload_n 2, 1) := by decide +kernel
theorem dX5_openWide_6 : decode cX5_openWide 6 = .ok (.iconst 1, 1) := by decide +kernel
theorem dX5_openWide_7 : decode cX5_openWide 7 = .ok (.if_icmp .lt 9, 3) := by decide +kernel
theorem dX5_openWide_10 : decode cX5_openWide 10 = .ok (.iload_n 2, 1) := by decide +kernel
theorem dX5_openWide_11 : decode cX5_openWide 11 = .ok (.bipush 8, 2) := by decide +kernel
theorem dX5_openWide_13 : decode cX5_openWide 13 = .ok (.if_icmp .le 9, 3) := by decide +kernel
theorem dX5_openWide_16 : decode cX5_openWide 16 = .ok (.aload_n 0, 1) := by decide +kernel
theorem dX5_openWide_17 : decode cX5_openWide 17 = .ok (.iconst 1, 1) := by decide +kernel
theorem dX5_openWide_18 : decode cX5_openWide 18 = .ok (.putfield 75, 3) := by decide +kernel
theorem dX5_openWide_21 : decode cX5_openWide 21 = .ok (.return_, 1) := by decide +kernel
theorem dX5_openWide_22 : decode cX5_openWide 22 = .ok (.iconst 0, 1) := by decide +kernel
theorem dX5_openWide_23 : decode cX5_openWide 23 = .ok (.istore_n 3, 1) := by decide +kernel
theorem dX5_openWide_24 : decode cX5_openWide 24 = .ok (.iload_n 3, 1) := by decide +kernel
theorem dX5_openWide_25 : decode cX5_openWide 25 = .ok (.iload_n 1, 1) := by decide +kernel
theorem dX5_openWide_26 : decode cX5_openWide 26 = .ok (.if_icmp .ge 66, 3) := by decide +kernel
theorem dX5_openWide_29 : decode cX5_openWide 29 = .ok (.lconst 0, 1) := by decide +kernel
theorem dX5_openWide_30 : decode cX5_openWide 30 = .ok (.lstore 4, 2) := by decide +kernel
theorem dX5_openWide_32 : decode cX5_openWide 32 = .ok (.iconst 0, 1) := by decide +kernel
theorem dX5_openWide_33 : decode cX5_openWide 33 = .ok (.istore 6, 2) := by decide +kernel
theorem dX5_openWide_35 : decode cX5_openWide 35 = .ok (.iload 6, 2) := by decide +kernel
theorem dX5_openWide_37 : decode cX5_openWide 37 = .ok (.iload_n 2, 1) := by decide +kernel
theorem dX5_openWide_38 : decode cX5_openWide 38 = .ok (.if_icmp .ge 25, 3) := by decide +kernel
theorem dX5_openWide_41 : decode cX5_openWide 41 = .ok (.lload 4, 2) := by decide +kernel
theorem dX5_openWide_43 : decode cX5_openWide 43 = .ok (.aload_n 0, 1) := by decide +kernel
theorem dX5_openWide_44 : decode cX5_openWide 44 = .ok (.invokevirtual 116, 3) := by decide +kernel
theorem dX5_openWide_47 : decode cX5_openWide 47 = .ok (.i2l, 1) := by decide +kernel
theorem dX5_openWide_48 : decode cX5_openWide 48 = .ok (.bipush 8, 2) := by decide +kernel
theorem dX5_openWide_50 : decode cX5_openWide 50 = .ok (.iload 6, 2) := by decide +kernel
theorem dX5_openWide_52 : decode cX5_openWide 52 = .ok (.imul, 1) := by decide +kernel
theorem dX5_openWide_53 : decode cX5_openWide 53 = .ok (.lshl, 1) := by decide +kernel
theorem dX5_openWide_54 : decode cX5_openWide 54 = .ok (.lor, 1) := by decide +kernel
theorem dX5_openWide_55 : decode cX5_openWide 55 = .ok (.lstore 4, 2) := by decide +kernel
theorem dX5_openWide_57 : decode cX5_openWide 57 = .ok (.iinc 6 1, 3) := by decide +kernel
theorem dX5_openWide_60 : decode cX5_openWide 60 = .ok (.goto (-25), 3) := by decide +kernel
theorem dX5_openWide_63 : decode cX5_openWide 63 = .ok (.bipush 64, 2) := by decide +kernel
theorem dX5_openWide_65 : decode cX5_openWide 65 = .ok (.bipush 8, 2) := by decide +kernel
theorem dX5_openWide_67 : decode cX5_openWide 67 = .ok (.iload_n 2, 1) := by decide +kernel
theorem dX5_openWide_68 : decode cX5_openWide 68 = .ok (.imul, 1) := by decide +kernel
theorem dX5_openWide_69 : decode cX5_openWide 69 = .ok (.isub, 1) := by decide +kernel
theorem dX5_openWide_70 : decode cX5_openWide 70 = .ok (.istore 6, 2) := by decide +kernel
theorem dX5_openWide_72 : decode cX5_openWide 72 = .ok (.aload_n 0, 1) := by decide +kernel
theorem dX5_openWide_73 : decode cX5_openWide 73 = .ok (.getfield 15, 3) := by decide +kernel
theorem dX5_openWide_76 : decode cX5_openWide 76 = .ok (.iload_n 3, 1) := by decide +kernel
theorem dX5_openWide_77 : decode cX5_openWide 77 = .ok (.lload 4, 2) := by decide +kernel
theorem dX5_openWide_79 : decode cX5_openWide 79 = .ok (.iload 6, 2) := by decide +kernel
theorem dX5_openWide_81 : decode cX5_openWide 81 = .ok (.lshl, 1) := by decide +kernel
theorem dX5_openWide_82 : decode cX5_openWide 82 = .ok (.iload 6, 2) := by decide +kernel
theorem dX5_openWide_84 : decode cX5_openWide 84 = .ok (.lshr, 1) := by decide +kernel
theorem dX5_openWide_85 : decode cX5_openWide 85 = .ok (.lastore, 1) := by decide +kernel
theorem dX5_openWide_86 : decode cX5_openWide 86 = .ok (.iinc 3 1, 3) := by decide +kernel
theorem dX5_openWide_89 : decode cX5_openWide 89 = .ok (.goto (-65), 3) := by decide +kernel
theorem dX5_openWide_92 : decode cX5_openWide 92 = .ok (.return_, 1) := by decide +kernel
theorem dX6_init_0 : decode cX6_init 0 = .ok (.aload_n 0, 1) := by decide +kernel
theorem dX6_init_1 : decode cX6_init 1 = .ok (.invokespecial 3, 3) := by decide +kernel
theorem dX6_init_4 : decode cX6_init 4 = .ok (.return_, 1) := by decide +kernel
theorem dX6_examine_0 : decode cX6_examine 0 = .ok (.aload_n 2, 1) := by decide +kernel
theorem dX6_examine_1 : decode cX6_examine 1 = .ok (.getfield 9, 3) := by decide +kernel
theorem dX6_examine_4 : decode cX6_examine 4 = .ok (.iload_n 3, 1) := by decide +kernel
theorem dX6_examine_5 : decode cX6_examine 5 = .ok (.isub, 1) := by decide +kernel
theorem dX6_examine_6 : decode cX6_examine 6 = .ok (.istore 4, 2) := by decide +kernel
theorem dX6_examine_8 : decode cX6_examine 8 = .ok (.iload 4, 2) := by decide +kernel
theorem dX6_examine_10 : decode cX6_examine 10 = .ok (.ifCond .ne 6, 3) := by decide +kernel
theorem dX6_examine_13 : decode cX6_examine 13 = .ok (.bipush 6, 2) := by decide +kernel
theorem dX6_examine_15 : decode cX6_examine 15 = .ok (.ireturn, 1) := by decide +kernel
theorem dX6_examine_16 : decode cX6_examine 16 = .ok (.iload 4, 2) := by decide +kernel
theorem dX6_examine_18 : decode cX6_examine 18 = .ok (.bipush 7, 2) := by decide +kernel
theorem dX6_examine_20 : decode cX6_examine 20 = .ok (.if_icmp .ge 6, 3) := by decide +kernel
theorem dX6_examine_23 : decode cX6_examine 23 = .ok (.bipush 7, 2) := by decide +kernel
theorem dX6_examine_25 : decode cX6_examine 25 = .ok (.ireturn, 1) := by decide +kernel
theorem dX6_examine_26 : decode cX6_examine 26 = .ok (.aload_n 2, 1) := by decide +kernel
theorem dX6_examine_27 : decode cX6_examine 27 = .ok (.iload_n 3, 1) := by decide +kernel
theorem dX6_examine_28 : decode cX6_examine 28 = .ok (.iconst 3, 1) := by decide +kernel
theorem dX6_examine_29 : decode cX6_examine 29 = .ok (.iadd, 1) := by decide +kernel
theorem dX6_examine_30 : decode cX6_examine 30 = .ok (.invokevirtual 15, 3) := by decide +kernel
theorem dX6_examine_33 : decode cX6_examine 33 = .ok (.istore 5, 2) := by decide +kernel
theorem dX6_examine_35 : decode cX6_examine 35 = .ok (.iload 4, 2) := by decide +kernel
theorem dX6_examine_37 : decode cX6_examine 37 = .ok (.bipush 7, 2) := by decide +kernel
theorem dX6_examine_39 : decode cX6_examine 39 = .ok (.iload 5, 2) := by decide +kernel
theorem dX6_examine_41 : decode cX6_examine 41 = .ok (.iadd, 1) := by decide +kernel
theorem dX6_examine_42 : decode cX6_examine 42 = .ok (.if_icmp .ge 6, 3) := by decide +kernel
theorem dX6_examine_45 : decode cX6_examine 45 = .ok (.bipush 7, 2) := by decide +kernel
theorem dX6_examine_47 : decode cX6_examine 47 = .ok (.ireturn, 1) := by decide +kernel
theorem dX6_examine_48 : decode cX6_examine 48 = .ok (.aload_n 2, 1) := by decide +kernel
theorem dX6_examine_49 : decode cX6_examine 49 = .ok (.iload_n 3, 1) := by decide +kernel
theorem dX6_examine_50 : decode cX6_examine 50 = .ok (.invokevirtual 19, 3) := by decide +kernel
theorem dX6_examine_53 : decode cX6_examine 53 = .ok (.sipush 160, 3) := by decide +kernel
theorem dX6_examine_56 : decode cX6_examine 56 = .ok (.isub, 1) := by decide +kernel
theorem dX6_examine_57 : decode cX6_examine 57 = .ok (.istore 6, 2) := by decide +kernel
theorem dX6_examine_59 : decode cX6_examine 59 = .ok (.aload_n 0, 1) := by decide +kernel
theorem dX6_examine_60 : decode cX6_examine 60 = .ok (.aload_n 2, 1) := by decide +kernel
theorem dX6_examine_61 : decode cX6_examine 61 = .ok (.iload_n 3, 1) := by decide +kernel
theorem dX6_examine_62 : decode cX6_examine 62 = .ok (.iconst 1, 1) := by decide +kernel
theorem dX6_examine_63 : decode cX6_examine 63 = .ok (.iadd, 1) := by decide +kernel
theorem dX6_examine_64 : decode cX6_examine 64 = .ok (.invokevirtual 19, 3) := by decide +kernel
theorem dX6_examine_67 : decode cX6_examine 67 = .ok (.putfield 22, 3) := by decide +kernel
theorem dX6_examine_70 : decode cX6_examine 70 = .ok (.aload_n 0, 1) := by decide +kernel
theorem dX6_examine_71 : decode cX6_examine 71 = .ok (.aload_n 2, 1) := by decide +kernel
theorem dX6_examine_72 : decode cX6_examine 72 = .ok (.iload_n 3, 1) := by decide +kernel
theorem dX6_examine_73 : decode cX6_examine 73 = .ok (.iconst 2, 1) := by decide +kernel
theorem dX6_examine_74 : decode cX6_examine 74 = .ok (.iadd, 1) := by decide +kernel
theorem dX6_examine_75 : decode cX6_examine 75 = .ok (.invokevirtual 19, 3) := by decide +kernel
theorem dX6_examine_78 : decode cX6_examine 78 = .ok (.putfield 27, 3) := by decide +kernel
theorem dX6_examine_81 : decode cX6_examine 81 = .ok (.iload 6, 2) := by decide +kernel
theorem dX6_examine_83 : decode cX6_examine 83 = .ok (.invokestatic 30, 3) := by decide +kernel
theorem dX6_examine_86 : decode cX6_examine 86 = .ok (.ifCond .eq 22, 3) := by decide +kernel
theorem dX6_examine_89 : decode cX6_examine 89 = .ok (.aload_n 0, 1) := by decide +kernel
theorem dX6_examine_90 : decode cX6_examine 90 = .ok (.getfield 22, 3) := by decide +kernel
theorem dX6_examine_93 : decode cX6_examine 93 = .ok (.invokestatic 34, 3) := by decide +kernel
theorem dX6_examine_96 : decode cX6_examine 96 = .ok (.ifCond .eq 12, 3) := by decide +kernel
theorem dX6_examine_99 : decode cX6_examine 99 = .ok (.aload_n 0, 1) := by decide +kernel
theorem dX6_examine_100 : decode cX6_examine 100 = .ok (.getfield 27, 3) := by decide +kernel
theorem dX6_examine_103 : decode cX6_examine 103 = .ok (.bipush 24, 2) := by decide +kernel
theorem dX6_examine_105 : decode cX6_examine 105 = .ok (.if_icmp .le 6, 3) := by decide +kernel
theorem dX6_examine_108 : decode cX6_examine 108 = .ok (.bipush 8, 2) := by decide +kernel
theorem dX6_examine_110 : decode cX6_examine 110 = .ok (.ireturn, 1) := by decide +kernel
theorem dX6_examine_111 : decode cX6_examine 111 = .ok (.iload_n 3, 1) := by decide +kernel
theorem dX6_examine_112 : decode cX6_examine 112 = .ok (.iconst 5, 1) := by decide +kernel
theorem dX6_examine_113 : decode cX6_examine 113 = .ok (.iadd, 1) := by decide +kernel
theorem dX6_examine_114 : decode cX6_examine 114 = .ok (.istore 7, 2) := by decide +kernel
theorem dX6_examine_116 : decode cX6_examine 116 = .ok (.iload 7, 2) := by decide +kernel
theorem dX6_examine_118 : decode cX6_examine 118 = .ok (.iload 5, 2) := by decide +kernel
theorem dX6_examine_120 : decode cX6_examine 120 = .ok (.iadd, 1) := by decide +kernel
theorem dX6_examine_121 : decode cX6_examine 121 = .ok (.istore 8, 2) := by decide +kernel
theorem dX6_examine_123 : decode cX6_examine 123 = .ok (.aload_n 2, 1) := by decide +kernel
theorem dX6_examine_124 : decode cX6_examine 124 = .ok (.iload_n 3, 1) := by decide +kernel
theorem dX6_examine_125 : decode cX6_examine 125 = .ok (.iload 8, 2) := by decide +kernel
theorem dX6_examine_127 : decode cX6_examine 127 = .ok (.invokevirtual 37, 3) := by decide +kernel
theorem dX6_examine_130 : decode cX6_examine 130 = .ok (.aload_n 2, 1) := by decide +kernel
theorem dX6_examine_131 : decode cX6_examine 131 = .ok (.iload 8, 2) := by decide +kernel
theorem dX6_examine_133 : decode cX6_examine 133 = .ok (.invokevirtual 15, 3) := by decide +kernel
theorem dX6_examine_136 : decode cX6_examine 136 = .ok (.if_icmp .eq 6, 3) := by decide +kernel
theorem dX6_examine_139 : decode cX6_examine 139 = .ok (.bipush 8, 2) := by decide +kernel
theorem dX6_examine_141 : decode cX6_examine 141 = .ok (.ireturn, 1) := by decide +kernel
theorem dX6_examine_142 : decode cX6_examine 142 = .ok (.aload_n 1, 1) := by decide +kernel
theorem dX6_examine_143 : decode cX6_examine 143 = .ok (.iload 6, 2) := by decide +kernel
theorem dX6_examine_145 : decode cX6_examine 145 = .ok (.aload_n 0, 1) := by decide +kernel
theorem dX6_examine_146 : decode cX6_examine 146 = .ok (.getfield 22, 3) := by decide +kernel
theorem dX6_examine_149 : decode cX6_examine 149 = .ok (.aload_n 0, 1) := by decide +kernel
theorem dX6_examine_150 : decode cX6_examine 150 = .ok (.getfield 27, 3) := by decide +kernel
theorem dX6_examine_153 : decode cX6_examine 153 = .ok (.aload_n 2, 1) := by decide +kernel
theorem dX6_examine_154 : decode cX6_examine 154 = .ok (.iload 7, 2) := by decide +kernel
theorem dX6_examine_156 : decode cX6_examine 156 = .ok (.iload 8, 2) := by decide +kernel
theorem dX6_examine_158 : decode cX6_examine 158 = .ok (.invokevirtual 41, 3) := by decide +kernel
theorem dX6_examine_161 : decode cX6_examine 161 = .ok (.ifCond .ne 6, 3) := by decide +kernel
theorem dX6_examine_164 : decode cX6_examine 164 = .ok (.bipush 8, 2) := by decide +kernel
theorem dX6_examine_166 : decode cX6_examine 166 = .ok (.ireturn, 1) := by decide +kernel
theorem dX6_examine_167 : decode cX6_examine 167 = .ok (.aload_n 0, 1) := by decide +kernel
theorem dX6_examine_168 : decode cX6_examine 168 = .ok (.iload_n 3, 1) := by decide +kernel
theorem dX6_examine_169 : decode cX6_examine 169 = .ok (.bipush 7, 2) := by decide +kernel
theorem dX6_examine_171 : decode cX6_examine 171 = .ok (.iadd, 1) := by decide +kernel
theorem dX6_examine_172 : decode cX6_examine 172 = .ok (.iload 5, 2) := by decide +kernel
theorem dX6_examine_174 : decode cX6_examine 174 = .ok (.iadd, 1) := by decide +kernel
theorem dX6_examine_175 : decode cX6_examine 175 = .ok (.putfield 47, 3) := by decide +kernel
theorem dX6_examine_178 : decode cX6_examine 178 = .ok (.iconst 0, 1) := by decide +kernel
theorem dX6_examine_179 : decode cX6_examine 179 = .ok (.ireturn, 1) := by decide +kernel
theorem dX7_init_0 : decode cX7_init 0 = .ok (.aload_n 0, 1) := by decide +kernel
theorem dX7_init_1 : decode cX7_init 1 = .ok (.invokespecial 1, 3) := by decide +kernel
theorem dX7_init_4 : decode cX7_init 4 = .ok (.aload_n 0, 1) := by decide +kernel
theorem dX7_init_5 : decode cX7_init 5 = .ok (.iload_n 1, 1) := by decide +kernel
theorem dX7_init_6 : decode cX7_init 6 = .ok (.putfield 7, 3) := by decide +kernel
theorem dX7_init_9 : decode cX7_init 9 = .ok (.aload_n 0, 1) := by decide +kernel
theorem dX7_init_10 : decode cX7_init 10 = .ok (.iload_n 2, 1) := by decide +kernel
theorem dX7_init_11 : decode cX7_init 11 = .ok (.newarray .long, 2) := by decide +kernel
theorem dX7_init_13 : decode cX7_init 13 = .ok (.putfield 13, 3) := by decide +kernel
theorem dX7_init_16 : decode cX7_init 16 = .ok (.return_, 1) := by decide +kernel
theorem dX7_has_0 : decode cX7_has 0 = .ok (.iload_n 1, 1) := by decide +kernel
theorem dX7_has_1 : decode cX7_has 1 = .ok (.ifCond .lt 16, 3) := by decide +kernel
theorem dX7_has_4 : decode cX7_has 4 = .ok (.iload_n 1, 1) := by decide +kernel
theorem dX7_has_5 : decode cX7_has 5 = .ok (.aload_n 0, 1) := by decide +kernel
theorem dX7_has_6 : decode cX7_has 6 = .ok (.getfield 13, 3) := by decide +kernel
theorem dX7_has_9 : decode cX7_has 9 = .ok (.arraylength, 1) := by decide +kernel
theorem dX7_has_10 : decode cX7_has 10 = .ok (.if_icmp .ge 7, 3) := by decide +kernel
theorem dX7_has_13 : decode cX7_has 13 = .ok (.iconst 1, 1) := by decide +kernel
theorem dX7_has_14 : decode cX7_has 14 = .ok (.goto 4, 3) := by decide +kernel
theorem dX7_has_17 : decode cX7_has 17 = .ok (.iconst 0, 1) := by decide +kernel
theorem dX7_has_18 : decode cX7_has 18 = .ok (.ireturn, 1) := by decide +kernel
theorem dX7_hasStretch_0 : decode cX7_hasStretch 0 = .ok (.iload_n 1, 1) := by decide +kernel
theorem dX7_hasStretch_1 : decode cX7_hasStretch 1 = .ok (.ifCond .lt 31, 3) := by decide +kernel
theorem dX7_hasStretch_4 : decode cX7_hasStretch 4 = .ok (.iload_n 2, 1) := by decide +kernel
theorem dX7_hasStretch_5 : decode cX7_hasStretch 5 = .ok (.ifCond .lt 27, 3) := by decide +kernel
theorem dX7_hasStretch_8 : decode cX7_hasStretch 8 = .ok (.iload_n 1, 1) := by decide +kernel
theorem dX7_hasStretch_9 : decode cX7_hasStretch 9 = .ok (.aload_n 0, 1) := by decide +kernel
theorem dX7_hasStretch_10 : decode cX7_hasStretch 10 = .ok (.getfield 13, 3) := by decide +kernel
theorem dX7_hasStretch_13 : decode cX7_hasStretch 13 = .ok (.arraylength, 1) := by decide +kernel
theorem dX7_hasStretch_14 : decode cX7_hasStretch 14 = .ok (.if_icmp .gt 18, 3) := by decide +kernel
theorem dX7_hasStretch_17 : decode cX7_hasStretch 17 = .ok (.iload_n 2, 1) := by decide +kernel
theorem dX7_hasStretch_18 : decode cX7_hasStretch 18 = .ok (.aload_n 0, 1) := by decide +kernel
theorem dX7_hasStretch_19 : decode cX7_hasStretch 19 = .ok (.getfield 13, 3) := by decide +kernel
theorem dX7_hasStretch_22 : decode cX7_hasStretch 22 = .ok (.arraylength, 1) := by decide +kernel
theorem dX7_hasStretch_23 : decode cX7_hasStretch 23 = .ok (.iload_n 1, 1) := by decide +kernel
theorem dX7_hasStretch_24 : decode cX7_hasStretch 24 = .ok (.isub, 1) := by decide +kernel
theorem dX7_hasStretch_25 : decode cX7_hasStretch 25 = .ok (.if_icmp .gt 7, 3) := by decide +kernel
theorem dX7_hasStretch_28 : decode cX7_hasStretch 28 = .ok (.iconst 1, 1) := by decide +kernel
theorem dX7_hasStretch_29 : decode cX7_hasStretch 29 = .ok (.goto 4, 3) := by decide +kernel
theorem dX7_hasStretch_32 : decode cX7_hasStretch 32 = .ok (.iconst 0, 1) := by decide +kernel
theorem dX7_hasStretch_33 : decode cX7_hasStretch 33 = .ok (.ireturn, 1) := by decide +kernel
theorem dX7_gaps_0 : decode cX7_gaps 0 = .ok (.iconst 0, 1) := by decide +kernel
theorem dX7_gaps_1 : decode cX7_gaps 1 = .ok (.istore_n 1, 1) := by decide +kernel
theorem dX7_gaps_2 : decode cX7_gaps 2 = .ok (.aload_n 0, 1) := by decide +kernel
theorem dX7_gaps_3 : decode cX7_gaps 3 = .ok (.getfield 13, 3) := by decide +kernel
theorem dX7_gaps_6 : decode cX7_gaps 6 = .ok (.astore_n 2, 1) := by decide +kernel
theorem dX7_gaps_7 : decode cX7_gaps 7 = .ok (.aload_n 2, 1) := by decide +kernel
theorem dX7_gaps_8 : decode cX7_gaps 8 = .ok (.arraylength, 1) := by decide +kernel
theorem dX7_gaps_9 : decode cX7_gaps 9 = .ok (.istore_n 3, 1) := by decide +kernel
theorem dX7_gaps_10 : decode cX7_gaps 10 = .ok (.iconst 0, 1) := by decide +kernel
theorem dX7_gaps_11 : decode cX7_gaps 11 = .ok (.istore 4, 2) := by decide +kernel
theorem dX7_gaps_13 : decode cX7_gaps 13 = .ok (.iload 4, 2) := by decide +kernel
theorem dX7_gaps_15 : decode cX7_gaps 15 = .ok (.iload_n 3, 1) := by decide +kernel
theorem dX7_gaps_16 : decode cX7_gaps 16 = .ok (.if_icmp .ge 30, 3) := by decide +kernel
theorem dX7_gaps_19 : decode cX7_gaps 19 = .ok (.aload_n 2, 1) := by decide +kernel
theorem dX7_gaps_20 : decode cX7_gaps 20 = .ok (.iload 4, 2) := by decide +kernel
theorem dX7_gaps_22 : decode cX7_gaps 22 = .ok (.laload, 1) := by decide +kernel
theorem dX7_gaps_23 : decode cX7_gaps 23 = .ok (.lstore 5, 2) := by decide +kernel
theorem dX7_gaps_25 : decode cX7_gaps 25 = .ok (.aload_n 0, 1) := by decide +kernel
theorem dX7_gaps_26 : decode cX7_gaps 26 = .ok (.getfield 7, 3) := by decide +kernel
theorem dX7_gaps_29 : decode cX7_gaps 29 = .ok (.lload 5, 2) := by decide +kernel
theorem dX7_gaps_31 : decode cX7_gaps 31 = .ok (.invokestatic 17, 3) := by decide +kernel
theorem dX7_gaps_34 : decode cX7_gaps 34 = .ok (.ifCond .eq 6, 3) := by decide +kernel
theorem dX7_gaps_37 : decode cX7_gaps 37 = .ok (.iinc 1 1, 3) := by decide +kernel
theorem dX7_gaps_40 : decode cX7_gaps 40 = .ok (.iinc 4 1, 3) := by decide +kernel
theorem dX7_gaps_43 : decode cX7_gaps 43 = .ok (.goto (-30), 3) := by decide +kernel
theorem dX7_gaps_46 : decode cX7_gaps 46 = .ok (.iload_n 1, 1) := by decide +kernel
theorem dX7_gaps_47 : decode cX7_gaps 47 = .ok (.ireturn, 1) := by decide +kernel
theorem dX7_utmost_0 : decode cX7_utmost 0 = .ok (.iconst 0, 1) := by decide +kernel
theorem dX7_utmost_1 : decode cX7_utmost 1 = .ok (.istore_n 2, 1) := by decide +kernel
theorem dX7_utmost_2 : decode cX7_utmost 2 = .ok (.lconst 0, 1) := by decide +kernel
theorem dX7_utmost_3 : decode cX7_utmost 3 = .ok (.lstore_n 3, 1) := by decide +kernel
theorem dX7_utmost_4 : decode cX7_utmost 4 = .ok (.aload_n 0, 1) := by decide +kernel
theorem dX7_utmost_5 : decode cX7_utmost 5 = .ok (.getfield 13, 3) := by decide +kernel
theorem dX7_utmost_8 : decode cX7_utmost 8 = .ok (.astore 5, 2) := by decide +kernel
theorem dX7_utmost_10 : decode cX7_utmost 10 = .ok (.aload 5, 2) := by decide +kernel
theorem dX7_utmost_12 : decode cX7_utmost 12 = .ok (.arraylength, 1) := by decide +kernel
theorem dX7_utmost_13 : decode cX7_utmost 13 = .ok (.istore 6, 2) := by decide +kernel
theorem dX7_utmost_15 : decode cX7_utmost 15 = .ok (.iconst 0, 1) := by decide +kernel
theorem dX7_utmost_16 : decode cX7_utmost 16 = .ok (.istore 7, 2) := by decide +kernel
theorem dX7_utmost_18 : decode cX7_utmost 18 = .ok (.iload 7, 2) := by decide +kernel
theorem dX7_utmost_20 : decode cX7_utmost 20 = .ok (.iload 6, 2) := by decide +kernel
theorem dX7_utmost_22 : decode cX7_utmost 22 = .ok (.if_icmp .ge 106, 3) := by decide +kernel
theorem dX7_utmost_25 : decode cX7_utmost 25 = .ok (.aload 5, 2) := by decide +kernel
theorem dX7_utmost_27 : decode cX7_utmost 27 = .ok (.iload 7, 2) := by decide +kernel
theorem dX7_utmost_29 : decode cX7_utmost 29 = .ok (.laload, 1) := by decide +kernel
theorem dX7_utmost_30 : decode cX7_utmost 30 = .ok (.lstore 8, 2) := by decide +kernel
theorem dX7_utmost_32 : decode cX7_utmost 32 = .ok (.aload_n 0, 1) := by decide +kernel
theorem dX7_utmost_33 : decode cX7_utmost 33 = .ok (.getfield 7, 3) := by decide +kernel
theorem dX7_utmost_36 : decode cX7_utmost 36 = .ok (.lload 8, 2) := by decide +kernel
theorem dX7_utmost_38 : decode cX7_utmost 38 = .ok (.invokestatic 17, 3) := by decide +kernel
theorem dX7_utmost_41 : decode cX7_utmost 41 = .ok (.ifCond .eq 6, 3) := by decide +kernel
theorem dX7_utmost_44 : decode cX7_utmost 44 = .ok (.goto 78, 3) := by decide +kernel
theorem dX7_utmost_47 : decode cX7_utmost 47 = .ok (.iload_n 1, 1) := by decide +kernel
theorem dX7_utmost_48 : decode cX7_utmost 48 = .ok (.ifCond .eq 32, 3) := by decide +kernel
theorem dX7_utmost_51 : decode cX7_utmost 51 = .ok (.aload_n 0, 1) := by decide +kernel
theorem dX7_utmost_52 : decode cX7_utmost 52 = .ok (.getfield 7, 3) := by decide +kernel
theorem dX7_utmost_55 : decode cX7_utmost 55 = .ok (.lload 8, 2) := by decide +kernel
theorem dX7_utmost_57 : decode cX7_utmost 57 = .ok (.invokestatic 23, 3) := by decide +kernel
theorem dX7_utmost_60 : decode cX7_utmost 60 = .ok (.aload_n 0, 1) := by decide +kernel
theorem dX7_utmost_61 : decode cX7_utmost 61 = .ok (.getfield 7, 3) := by decide +kernel
theorem dX7_utmost_64 : decode cX7_utmost 64 = .ok (.lload_n 3, 1) := by decide +kernel
theorem dX7_utmost_65 : decode cX7_utmost 65 = .ok (.invokestatic 23, 3) := by decide +kernel
theorem dX7_utmost_68 : decode cX7_utmost 68 = .ok (.lcmp, 1) := by decide +kernel
theorem dX7_utmost_69 : decode cX7_utmost 69 = .ok (.ifCond .le 7, 3) := by decide +kernel
theorem dX7_utmost_72 : decode cX7_utmost 72 = .ok (.iconst 1, 1) := by decide +kernel
theorem dX7_utmost_73 : decode cX7_utmost 73 = .ok (.goto 33, 3) := by decide +kernel
theorem dX7_utmost_76 : decode cX7_utmost 76 = .ok (.iconst 0, 1) := by decide +kernel
theorem dX7_utmost_77 : decode cX7_utmost 77 = .ok (.goto 29, 3) := by decide +kernel
theorem dX7_utmost_80 : decode cX7_utmost 80 = .ok (.aload_n 0, 1) := by decide +kernel
theorem dX7_utmost_81 : decode cX7_utmost 81 = .ok (.getfield 7, 3) := by decide +kernel
theorem dX7_utmost_84 : decode cX7_utmost 84 = .ok (.lload 8, 2) := by decide +kernel
theorem dX7_utmost_86 : decode cX7_utmost 86 = .ok (.invokestatic 23, 3) := by decide +kernel
theorem dX7_utmost_89 : decode cX7_utmost 89 = .ok (.aload_n 0, 1) := by decide +kernel
theorem dX7_utmost_90 : decode cX7_utmost 90 = .ok (.getfield 7, 3) := by decide +kernel
theorem dX7_utmost_93 : decode cX7_utmost 93 = .ok (.lload_n 3, 1) := by decide +kernel
theorem dX7_utmost_94 : decode cX7_utmost 94 = .ok (.invokestatic 23, 3) := by decide +kernel
theorem dX7_utmost_97 : decode cX7_utmost 97 = .ok (.lcmp, 1) := by decide +kernel
theorem dX7_utmost_98 : decode cX7_utmost 98 = .ok (.ifCond .ge 7, 3) := by decide +kernel
theorem dX7_utmost_101 : decode cX7_utmost 101 = .ok (.iconst 1, 1) := by decide +kernel
theorem dX7_utmost_102 : decode cX7_utmost 102 = .ok (.goto 4, 3) := by decide +kernel
theorem dX7_utmost_105 : decode cX7_utmost 105 = .ok (.iconst 0, 1) := by decide +kernel
theorem dX7_utmost_106 : decode cX7_utmost 106 = .ok (.istore 10, 2) := by decide +kernel
theorem dX7_utmost_108 : decode cX7_utmost 108 = .ok (.iload_n 2, 1) := by decide +kernel
theorem dX7_utmost_109 : decode cX7_utmost 109 = .ok (.ifCond .eq 8, 3) := by decide +kernel
theorem dX7_utmost_112 : decode cX7_utmost 112 = .ok (.iload 10, 2) := by decide +kernel
theorem dX7_utmost_114 : decode cX7_utmost 114 = .ok (.ifCond .eq 6, 3) := by decide +kernel
theorem dX7_utmost_117 : decode cX7_utmost 117 = .ok (.lload 8, 2) := by decide +kernel
theorem dX7_utmost_119 : decode cX7_utmost 119 = .ok (.lstore_n 3, 1) := by decide +kernel
theorem dX7_utmost_120 : decode cX7_utmost 120 = .ok (.iconst 1, 1) := by decide +kernel
theorem dX7_utmost_121 : decode cX7_utmost 121 = .ok (.istore_n 2, 1) := by decide +kernel
theorem dX7_utmost_122 : decode cX7_utmost 122 = .ok (.iinc 7 1, 3) := by decide +kernel
theorem dX7_utmost_125 : decode cX7_utmost 125 = .ok (.goto (-107), 3) := by decide +kernel
theorem dX7_utmost_128 : decode cX7_utmost 128 = .ok (.lload_n 3, 1) := by decide +kernel
theorem dX7_utmost_129 : decode cX7_utmost 129 = .ok (.lreturn, 1) := by decide +kernel
theorem dX8_init_0 : decode cX8_init 0 = .ok (.aload_n 0, 1) := by decide +kernel
theorem dX8_init_1 : decode cX8_init 1 = .ok (.invokespecial 3, 3) := by decide +kernel
theorem dX8_init_4 : decode cX8_init 4 = .ok (.aload_n 0, 1) := by decide +kernel
theorem dX8_init_5 : decode cX8_init 5 = .ok (.bipush 30, 2) := by decide +kernel
theorem dX8_init_7 : decode cX8_init 7 = .ok (.anewarray 9, 3) := by decide +kernel
theorem dX8_init_10 : decode cX8_init 10 = .ok (.putfield 11, 3) := by decide +kernel
theorem dX8_init_13 : decode cX8_init 13 = .ok (.return_, 1) := by decide +kernel
theorem dX8_bodyLike_0 : decode cX8_bodyLike 0 = .ok (.aload_n 0, 1) := by decide +kernel
theorem dX8_bodyLike_1 : decode cX8_bodyLike 1 = .ok (.getfield 11, 3) := by decide +kernel
theorem dX8_bodyLike_4 : decode cX8_bodyLike 4 = .ok (.astore_n 2, 1) := by decide +kernel
theorem dX8_bodyLike_5 : decode cX8_bodyLike 5 = .ok (.aload_n 2, 1) := by decide +kernel
theorem dX8_bodyLike_6 : decode cX8_bodyLike 6 = .ok (.arraylength, 1) := by decide +kernel
theorem dX8_bodyLike_7 : decode cX8_bodyLike 7 = .ok (.istore_n 3, 1) := by decide +kernel
theorem dX8_bodyLike_8 : decode cX8_bodyLike 8 = .ok (.iconst 0, 1) := by decide +kernel
theorem dX8_bodyLike_9 : decode cX8_bodyLike 9 = .ok (.istore 4, 2) := by decide +kernel
theorem dX8_bodyLike_11 : decode cX8_bodyLike 11 = .ok (.iload 4, 2) := by decide +kernel
theorem dX8_bodyLike_13 : decode cX8_bodyLike 13 = .ok (.iload_n 3, 1) := by decide +kernel
theorem dX8_bodyLike_14 : decode cX8_bodyLike 14 = .ok (.if_icmp .ge 53, 3) := by decide +kernel
theorem dX8_bodyLike_17 : decode cX8_bodyLike 17 = .ok (.aload_n 2, 1) := by decide +kernel
theorem dX8_bodyLike_18 : decode cX8_bodyLike 18 = .ok (.iload 4, 2) := by decide +kernel
theorem dX8_bodyLike_20 : decode cX8_bodyLike 20 = .ok (.aaload, 1) := by decide +kernel
theorem dX8_bodyLike_21 : decode cX8_bodyLike 21 = .ok (.astore 5, 2) := by decide +kernel
theorem dX8_bodyLike_23 : decode cX8_bodyLike 23 = .ok (.aload 5, 2) := by decide +kernel
theorem dX8_bodyLike_25 : decode cX8_bodyLike 25 = .ok (.ifnull 36, 3) := by decide +kernel
theorem dX8_bodyLike_28 : decode cX8_bodyLike 28 = .ok (.aload 5, 2) := by decide +kernel
theorem dX8_bodyLike_30 : decode cX8_bodyLike 30 = .ok (.getfield 17, 3) := by decide +kernel
theorem dX8_bodyLike_33 : decode cX8_bodyLike 33 = .ok (.ifCond .le 28, 3) := by decide +kernel
theorem dX8_bodyLike_36 : decode cX8_bodyLike 36 = .ok (.aload_n 1, 1) := by decide +kernel
theorem dX8_bodyLike_37 : decode cX8_bodyLike 37 = .ok (.iconst 0, 1) := by decide +kernel
theorem dX8_bodyLike_38 : decode cX8_bodyLike 38 = .ok (.aload_n 1, 1) := by decide +kernel
theorem dX8_bodyLike_39 : decode cX8_bodyLike 39 = .ok (.getfield 21, 3) := by decide +kernel
theorem dX8_bodyLike_42 : decode cX8_bodyLike 42 = .ok (.aload 5, 2) := by decide +kernel
theorem dX8_bodyLike_44 : decode cX8_bodyLike 44 = .ok (.getfield 26, 3) := by decide +kernel
theorem dX8_bodyLike_47 : decode cX8_bodyLike 47 = .ok (.aload 5, 2) := by decide +kernel
theorem dX8_bodyLike_49 : decode cX8_bodyLike 49 = .ok (.getfield 30, 3) := by decide +kernel
theorem dX8_bodyLike_52 : decode cX8_bodyLike 52 = .ok (.invokevirtual 31, 3) := by decide +kernel
theorem dX8_bodyLike_55 : decode cX8_bodyLike 55 = .ok (.ifCond .eq 6, 3) := by decide +kernel
theorem dX8_bodyLike_58 : decode cX8_bodyLike 58 = .ok (.aload 5, 2) := by decide +kernel
theorem dX8_bodyLike_60 : decode cX8_bodyLike 60 = .ok (.areturn, 1) := by decide +kernel
theorem dX8_bodyLike_61 : decode cX8_bodyLike 61 = .ok (.iinc 4 1, 3) := by decide +kernel
theorem dX8_bodyLike_64 : decode cX8_bodyLike 64 = .ok (.goto (-53), 3) := by decide +kernel
theorem dX8_bodyLike_67 : decode cX8_bodyLike 67 = .ok (.aconst_null, 1) := by decide +kernel
theorem dX8_bodyLike_68 : decode cX8_bodyLike 68 = .ok (.areturn, 1) := by decide +kernel
theorem dX8_newBody_0 : decode cX8_newBody 0 = .ok (.iconst 0, 1) := by decide +kernel
theorem dX8_newBody_1 : decode cX8_newBody 1 = .ok (.istore_n 2, 1) := by decide +kernel
theorem dX8_newBody_2 : decode cX8_newBody 2 = .ok (.iload_n 2, 1) := by decide +kernel
theorem dX8_newBody_3 : decode cX8_newBody 3 = .ok (.aload_n 0, 1) := by decide +kernel
theorem dX8_newBody_4 : decode cX8_newBody 4 = .ok (.getfield 11, 3) := by decide +kernel
theorem dX8_newBody_7 : decode cX8_newBody 7 = .ok (.arraylength, 1) := by decide +kernel
theorem dX8_newBody_8 : decode cX8_newBody 8 = .ok (.if_icmp .ge 108, 3) := by decide +kernel
theorem dX8_newBody_11 : decode cX8_newBody 11 = .ok (.aload_n 0, 1) := by decide +kernel
theorem dX8_newBody_12 : decode cX8_newBody 12 = .ok (.getfield 11, 3) := by decide +kernel
theorem dX8_newBody_15 : decode cX8_newBody 15 = .ok (.iload_n 2, 1) := by decide +kernel
theorem dX8_newBody_16 : decode cX8_newBody 16 = .ok (.aaload, 1) := by decide +kernel
theorem dX8_newBody_17 : decode cX8_newBody 17 = .ok (.ifnonnull 16, 3) := by decide +kernel
theorem dX8_newBody_20 : decode cX8_newBody 20 = .ok (.aload_n 0, 1) := by decide +kernel
theorem dX8_newBody_21 : decode cX8_newBody 21 = .ok (.getfield 11, 3) := by decide +kernel
theorem dX8_newBody_24 : decode cX8_newBody 24 = .ok (.iload_n 2, 1) := by decide +kernel
theorem dX8_newBody_25 : decode cX8_newBody 25 = .ok (.new 9, 3) := by decide +kernel
theorem dX8_newBody_28 : decode cX8_newBody 28 = .ok (.dup, 1) := by decide +kernel
theorem dX8_newBody_29 : decode cX8_newBody 29 = .ok (.invokespecial 35, 3) := by decide +kernel
theorem dX8_newBody_32 : decode cX8_newBody 32 = .ok (.aastore, 1) := by decide +kernel
theorem dX8_newBody_33 : decode cX8_newBody 33 = .ok (.aload_n 0, 1) := by decide +kernel
theorem dX8_newBody_34 : decode cX8_newBody 34 = .ok (.getfield 11, 3) := by decide +kernel
theorem dX8_newBody_37 : decode cX8_newBody 37 = .ok (.iload_n 2, 1) := by decide +kernel
theorem dX8_newBody_38 : decode cX8_newBody 38 = .ok (.aaload, 1) := by decide +kernel
theorem dX8_newBody_39 : decode cX8_newBody 39 = .ok (.getfield 17, 3) := by decide +kernel
theorem dX8_newBody_42 : decode cX8_newBody 42 = .ok (.ifCond .le 6, 3) := by decide +kernel
theorem dX8_newBody_45 : decode cX8_newBody 45 = .ok (.goto 65, 3) := by decide +kernel
theorem dX8_newBody_48 : decode cX8_newBody 48 = .ok (.aload_n 0, 1) := by decide +kernel
theorem dX8_newBody_49 : decode cX8_newBody 49 = .ok (.getfield 11, 3) := by decide +kernel
theorem dX8_newBody_52 : decode cX8_newBody 52 = .ok (.iload_n 2, 1) := by decide +kernel
theorem dX8_newBody_53 : decode cX8_newBody 53 = .ok (.aaload, 1) := by decide +kernel
theorem dX8_newBody_54 : decode cX8_newBody 54 = .ok (.astore_n 3, 1) := by decide +kernel
theorem dX8_newBody_55 : decode cX8_newBody 55 = .ok (.aload_n 1, 1) := by decide +kernel
theorem dX8_newBody_56 : decode cX8_newBody 56 = .ok (.getfield 36, 3) := by decide +kernel
theorem dX8_newBody_59 : decode cX8_newBody 59 = .ok (.iconst 0, 1) := by decide +kernel
theorem dX8_newBody_60 : decode cX8_newBody 60 = .ok (.aload_n 3, 1) := by decide +kernel
theorem dX8_newBody_61 : decode cX8_newBody 61 = .ok (.getfield 26, 3) := by decide +kernel
theorem dX8_newBody_64 : decode cX8_newBody 64 = .ok (.iconst 0, 1) := by decide +kernel
theorem dX8_newBody_65 : decode cX8_newBody 65 = .ok (.aload_n 1, 1) := by decide +kernel
theorem dX8_newBody_66 : decode cX8_newBody 66 = .ok (.getfield 21, 3) := by decide +kernel
theorem dX8_newBody_69 : decode cX8_newBody 69 = .ok (.invokestatic 37, 3) := by decide +kernel
theorem dX8_newBody_72 : decode cX8_newBody 72 = .ok (.aload_n 3, 1) := by decide +kernel
theorem dX8_newBody_73 : decode cX8_newBody 73 = .ok (.aload_n 1, 1) := by decide +kernel
theorem dX8_newBody_74 : decode cX8_newBody 74 = .ok (.getfield 21, 3) := by decide +kernel
theorem dX8_newBody_77 : decode cX8_newBody 77 = .ok (.putfield 30, 3) := by decide +kernel
theorem dX8_newBody_80 : decode cX8_newBody 80 = .ok (.aload_n 3, 1) := by decide +kernel
theorem dX8_newBody_81 : decode cX8_newBody 81 = .ok (.aload_n 0, 1) := by decide +kernel
theorem dX8_newBody_82 : decode cX8_newBody 82 = .ok (.getfield 43, 3) := by decide +kernel
theorem dX8_newBody_85 : decode cX8_newBody 85 = .ok (.putfield 46, 3) := by decide +kernel
theorem dX8_newBody_88 : decode cX8_newBody 88 = .ok (.aload_n 0, 1) := by decide +kernel
theorem dX8_newBody_89 : decode cX8_newBody 89 = .ok (.dup, 1) := by decide +kernel
theorem dX8_newBody_90 : decode cX8_newBody 90 = .ok (.getfield 43, 3) := by decide +kernel
theorem dX8_newBody_93 : decode cX8_newBody 93 = .ok (.iconst 1, 1) := by decide +kernel
theorem dX8_newBody_94 : decode cX8_newBody 94 = .ok (.iadd, 1) := by decide +kernel
theorem dX8_newBody_95 : decode cX8_newBody 95 = .ok (.putfield 43, 3) := by decide +kernel
theorem dX8_newBody_98 : decode cX8_newBody 98 = .ok (.aload_n 0, 1) := by decide +kernel
theorem dX8_newBody_99 : decode cX8_newBody 99 = .ok (.dup, 1) := by decide +kernel
theorem dX8_newBody_100 : decode cX8_newBody 100 = .ok (.getfield 49, 3) := by decide +kernel
theorem dX8_newBody_103 : decode cX8_newBody 103 = .ok (.iconst 1, 1) := by decide +kernel
theorem dX8_newBody_104 : decode cX8_newBody 104 = .ok (.iadd, 1) := by decide +kernel
theorem dX8_newBody_105 : decode cX8_newBody 105 = .ok (.putfield 49, 3) := by decide +kernel
theorem dX8_newBody_108 : decode cX8_newBody 108 = .ok (.aload_n 3, 1) := by decide +kernel
theorem dX8_newBody_109 : decode cX8_newBody 109 = .ok (.areturn, 1) := by decide +kernel
theorem dX8_newBody_110 : decode cX8_newBody 110 = .ok (.iinc 2 1, 3) := by decide +kernel
theorem dX8_newBody_113 : decode cX8_newBody 113 = .ok (.goto (-111), 3) := by decide +kernel
theorem dX8_newBody_116 : decode cX8_newBody 116 = .ok (.aconst_null, 1) := by decide +kernel
theorem dX8_newBody_117 : decode cX8_newBody 117 = .ok (.areturn, 1) := by decide +kernel
theorem dX8_release_0 : decode cX8_release 0 = .ok (.aload_n 1, 1) := by decide +kernel
theorem dX8_release_1 : decode cX8_release 1 = .ok (.dup, 1) := by decide +kernel
theorem dX8_release_2 : decode cX8_release 2 = .ok (.getfield 17, 3) := by decide +kernel
theorem dX8_release_5 : decode cX8_release 5 = .ok (.iconst 1, 1) := by decide +kernel
theorem dX8_release_6 : decode cX8_release 6 = .ok (.isub, 1) := by decide +kernel
theorem dX8_release_7 : decode cX8_release 7 = .ok (.putfield 17, 3) := by decide +kernel
theorem dX8_release_10 : decode cX8_release 10 = .ok (.aload_n 1, 1) := by decide +kernel
theorem dX8_release_11 : decode cX8_release 11 = .ok (.getfield 17, 3) := by decide +kernel
theorem dX8_release_14 : decode cX8_release 14 = .ok (.ifCond .ne 13, 3) := by decide +kernel
theorem dX8_release_17 : decode cX8_release 17 = .ok (.aload_n 0, 1) := by decide +kernel
theorem dX8_release_18 : decode cX8_release 18 = .ok (.dup, 1) := by decide +kernel
theorem dX8_release_19 : decode cX8_release 19 = .ok (.getfield 49, 3) := by decide +kernel
theorem dX8_release_22 : decode cX8_release 22 = .ok (.iconst 1, 1) := by decide +kernel
theorem dX8_release_23 : decode cX8_release 23 = .ok (.isub, 1) := by decide +kernel
theorem dX8_release_24 : decode cX8_release 24 = .ok (.putfield 49, 3) := by decide +kernel
theorem dX8_release_27 : decode cX8_release 27 = .ok (.return_, 1) := by decide +kernel
theorem dX8_usersOf_0 : decode cX8_usersOf 0 = .ok (.aload_n 0, 1) := by decide +kernel
theorem dX8_usersOf_1 : decode cX8_usersOf 1 = .ok (.getfield 11, 3) := by decide +kernel
theorem dX8_usersOf_4 : decode cX8_usersOf 4 = .ok (.astore_n 2, 1) := by decide +kernel
theorem dX8_usersOf_5 : decode cX8_usersOf 5 = .ok (.aload_n 2, 1) := by decide +kernel
theorem dX8_usersOf_6 : decode cX8_usersOf 6 = .ok (.arraylength, 1) := by decide +kernel
theorem dX8_usersOf_7 : decode cX8_usersOf 7 = .ok (.istore_n 3, 1) := by decide +kernel
theorem dX8_usersOf_8 : decode cX8_usersOf 8 = .ok (.iconst 0, 1) := by decide +kernel
theorem dX8_usersOf_9 : decode cX8_usersOf 9 = .ok (.istore 4, 2) := by decide +kernel
theorem dX8_usersOf_11 : decode cX8_usersOf 11 = .ok (.iload 4, 2) := by decide +kernel
theorem dX8_usersOf_13 : decode cX8_usersOf 13 = .ok (.iload_n 3, 1) := by decide +kernel
theorem dX8_usersOf_14 : decode cX8_usersOf 14 = .ok (.if_icmp .ge 43, 3) := by decide +kernel
theorem dX8_usersOf_17 : decode cX8_usersOf 17 = .ok (.aload_n 2, 1) := by decide +kernel
theorem dX8_usersOf_18 : decode cX8_usersOf 18 = .ok (.iload 4, 2) := by decide +kernel
theorem dX8_usersOf_20 : decode cX8_usersOf 20 = .ok (.aaload, 1) := by decide +kernel
theorem dX8_usersOf_21 : decode cX8_usersOf 21 = .ok (.astore 5, 2) := by decide +kernel
theorem dX8_usersOf_23 : decode cX8_usersOf 23 = .ok (.aload 5, 2) := by decide +kernel
theorem dX8_usersOf_25 : decode cX8_usersOf 25 = .ok (.ifnull 26, 3) := by decide +kernel
theorem dX8_usersOf_28 : decode cX8_usersOf 28 = .ok (.aload 5, 2) := by decide +kernel
theorem dX8_usersOf_30 : decode cX8_usersOf 30 = .ok (.getfield 17, 3) := by decide +kernel
theorem dX8_usersOf_33 : decode cX8_usersOf 33 = .ok (.ifCond .le 18, 3) := by decide +kernel
theorem dX8_usersOf_36 : decode cX8_usersOf 36 = .ok (.aload 5, 2) := by decide +kernel
theorem dX8_usersOf_38 : decode cX8_usersOf 38 = .ok (.getfield 46, 3) := by decide +kernel
theorem dX8_usersOf_41 : decode cX8_usersOf 41 = .ok (.iload_n 1, 1) := by decide +kernel
theorem dX8_usersOf_42 : decode cX8_usersOf 42 = .ok (.if_icmp .ne 9, 3) := by decide +kernel
theorem dX8_usersOf_45 : decode cX8_usersOf 45 = .ok (.aload 5, 2) := by decide +kernel
theorem dX8_usersOf_47 : decode cX8_usersOf 47 = .ok (.getfield 17, 3) := by decide +kernel
theorem dX8_usersOf_50 : decode cX8_usersOf 50 = .ok (.ireturn, 1) := by decide +kernel
theorem dX8_usersOf_51 : decode cX8_usersOf 51 = .ok (.iinc 4 1, 3) := by decide +kernel
theorem dX8_usersOf_54 : decode cX8_usersOf 54 = .ok (.goto (-43), 3) := by decide +kernel
theorem dX8_usersOf_57 : decode cX8_usersOf 57 = .ok (.iconst 0, 1) := by decide +kernel
theorem dX8_usersOf_58 : decode cX8_usersOf 58 = .ok (.ireturn, 1) := by decide +kernel
theorem dX9_init_0 : decode cX9_init 0 = .ok (.aload_n 0, 1) := by decide +kernel
theorem dX9_init_1 : decode cX9_init 1 = .ok (.invokespecial 3, 3) := by decide +kernel
theorem dX9_init_4 : decode cX9_init 4 = .ok (.aload_n 0, 1) := by decide +kernel
theorem dX9_init_5 : decode cX9_init 5 = .ok (.sipush 400, 3) := by decide +kernel
theorem dX9_init_8 : decode cX9_init 8 = .ok (.newarray .byte, 2) := by decide +kernel
theorem dX9_init_10 : decode cX9_init 10 = .ok (.putfield 9, 3) := by decide +kernel
theorem dX9_init_13 : decode cX9_init 13 = .ok (.return_, 1) := by decide +kernel
theorem dX9_has_0 : decode cX9_has 0 = .ok (.iload_n 1, 1) := by decide +kernel
theorem dX9_has_1 : decode cX9_has 1 = .ok (.ifCond .lt 15, 3) := by decide +kernel
theorem dX9_has_4 : decode cX9_has 4 = .ok (.iload_n 1, 1) := by decide +kernel
theorem dX9_has_5 : decode cX9_has 5 = .ok (.aload_n 0, 1) := by decide +kernel
theorem dX9_has_6 : decode cX9_has 6 = .ok (.getfield 15, 3) := by decide +kernel
theorem dX9_has_9 : decode cX9_has 9 = .ok (.if_icmp .ge 7, 3) := by decide +kernel
theorem dX9_has_12 : decode cX9_has 12 = .ok (.iconst 1, 1) := by decide +kernel
theorem dX9_has_13 : decode cX9_has 13 = .ok (.goto 4, 3) := by decide +kernel
theorem dX9_has_16 : decode cX9_has 16 = .ok (.iconst 0, 1) := by decide +kernel
theorem dX9_has_17 : decode cX9_has 17 = .ok (.ireturn, 1) := by decide +kernel
theorem dX9_byteAt_0 : decode cX9_byteAt 0 = .ok (.aload_n 0, 1) := by decide +kernel
theorem dX9_byteAt_1 : decode cX9_byteAt 1 = .ok (.iload_n 1, 1) := by decide +kernel
theorem dX9_byteAt_2 : decode cX9_byteAt 2 = .ok (.invokevirtual 19, 3) := by decide +kernel
theorem dX9_byteAt_5 : decode cX9_byteAt 5 = .ok (.ifCond .eq 16, 3) := by decide +kernel
theorem dX9_byteAt_8 : decode cX9_byteAt 8 = .ok (.aload_n 0, 1) := by decide +kernel
theorem dX9_byteAt_9 : decode cX9_byteAt 9 = .ok (.getfield 9, 3) := by decide +kernel
theorem dX9_byteAt_12 : decode cX9_byteAt 12 = .ok (.iload_n 1, 1) := by decide +kernel
theorem dX9_byteAt_13 : decode cX9_byteAt 13 = .ok (.baload, 1) := by decide +kernel
theorem dX9_byteAt_14 : decode cX9_byteAt 14 = .ok (.sipush 255, 3) := by decide +kernel
theorem dX9_byteAt_17 : decode cX9_byteAt 17 = .ok (.iand, 1) := by decide +kernel
theorem dX9_byteAt_18 : decode cX9_byteAt 18 = .ok (.goto 4, 3) := by decide +kernel
theorem dX9_byteAt_21 : decode cX9_byteAt 21 = .ok (.iconst 0, 1) := by decide +kernel
theorem dX9_byteAt_22 : decode cX9_byteAt 22 = .ok (.ireturn, 1) := by decide +kernel
theorem dX9_append_0 : decode cX9_append 0 = .ok (.aload_n 0, 1) := by decide +kernel
theorem dX9_append_1 : decode cX9_append 1 = .ok (.getfield 15, 3) := by decide +kernel
theorem dX9_append_4 : decode cX9_append 4 = .ok (.aload_n 0, 1) := by decide +kernel
theorem dX9_append_5 : decode cX9_append 5 = .ok (.getfield 9, 3) := by decide +kernel
theorem dX9_append_8 : decode cX9_append 8 = .ok (.arraylength, 1) := by decide +kernel
theorem dX9_append_9 : decode cX9_append 9 = .ok (.if_icmp .lt 4, 3) := by decide +kernel
theorem dX9_append_12 : decode cX9_append 12 = .ok (.return_, 1) := by decide +kernel
theorem dX9_append_13 : decode cX9_append 13 = .ok (.aload_n 0, 1) := by decide +kernel
theorem dX9_append_14 : decode cX9_append 14 = .ok (.getfield 9, 3) := by decide +kernel
theorem dX9_append_17 : decode cX9_append 17 = .ok (.aload_n 0, 1) := by decide +kernel
theorem dX9_append_18 : decode cX9_append 18 = .ok (.getfield 15, 3) := by decide +kernel
theorem dX9_append_21 : decode cX9_append 21 = .ok (.iload_n 1, 1) := by decide +kernel
theorem dX9_append_22 : decode cX9_append 22 = .ok (.i2b, 1) := by decide +kernel
theorem dX9_append_23 : decode cX9_append 23 = .ok (.bastore, 1) := by decide +kernel
theorem dX9_append_24 : decode cX9_append 24 = .ok (.aload_n 0, 1) := by decide +kernel
theorem dX9_append_25 : decode cX9_append 25 = .ok (.dup, 1) := by decide +kernel
theorem dX9_append_26 : decode cX9_append 26 = .ok (.getfield 15, 3) := by decide +kernel
theorem dX9_append_29 : decode cX9_append 29 = .ok (.iconst 1, 1) := by decide +kernel
theorem dX9_append_30 : decode cX9_append 30 = .ok (.iadd, 1) := by decide +kernel
theorem dX9_append_31 : decode cX9_append 31 = .ok (.putfield 15, 3) := by decide +kernel
theorem dX9_append_34 : decode cX9_append 34 = .ok (.return_, 1) := by decide +kernel
theorem dX9_appendPair_0 : decode cX9_appendPair 0 = .ok (.aload_n 0, 1) := by decide +kernel
theorem dX9_appendPair_1 : decode cX9_appendPair 1 = .ok (.iload_n 1, 1) := by decide +kernel
theorem dX9_appendPair_2 : decode cX9_appendPair 2 = .ok (.invokevirtual 23, 3) := by decide +kernel
theorem dX9_appendPair_5 : decode cX9_appendPair 5 = .ok (.aload_n 0, 1) := by decide +kernel
theorem dX9_appendPair_6 : decode cX9_appendPair 6 = .ok (.iload_n 1, 1) := by decide +kernel
theorem dX9_appendPair_7 : decode cX9_appendPair 7 = .ok (.bipush 8, 2) := by decide +kernel
theorem dX9_appendPair_9 : decode cX9_appendPair 9 = .ok (.ishr, 1) := by decide +kernel
theorem dX9_appendPair_10 : decode cX9_appendPair 10 = .ok (.invokevirtual 23, 3) := by decide +kernel
theorem dX9_appendPair_13 : decode cX9_appendPair 13 = .ok (.return_, 1) := by decide +kernel
theorem dX9_appendAll_0 : decode cX9_appendAll 0 = .ok (.iconst 0, 1) := by decide +kernel
theorem dX9_appendAll_1 : decode cX9_appendAll 1 = .ok (.iload_n 2, 1) := by decide +kernel
theorem dX9_appendAll_2 : decode cX9_appendAll 2 = .ok (.invokestatic 27, 3) := by decide +kernel
theorem dX9_appendAll_5 : decode cX9_appendAll 5 = .ok (.istore 4, 2) := by decide +kernel
theorem dX9_appendAll_7 : decode cX9_appendAll 7 = .ok (.iload 4, 2) := by decide +kernel
theorem dX9_appendAll_9 : decode cX9_appendAll 9 = .ok (.iload_n 3, 1) := by decide +kernel
theorem dX9_appendAll_10 : decode cX9_appendAll 10 = .ok (.if_icmp .ge 24, 3) := by decide +kernel
theorem dX9_appendAll_13 : decode cX9_appendAll 13 = .ok (.iload 4, 2) := by decide +kernel
theorem dX9_appendAll_15 : decode cX9_appendAll 15 = .ok (.aload_n 1, 1) := by decide +kernel
theorem dX9_appendAll_16 : decode cX9_appendAll 16 = .ok (.arraylength, 1) := by decide +kernel
theorem dX9_appendAll_17 : decode cX9_appendAll 17 = .ok (.if_icmp .ge 17, 3) := by decide +kernel
theorem dX9_appendAll_20 : decode cX9_appendAll 20 = .ok (.aload_n 0, 1) := by decide +kernel
theorem dX9_appendAll_21 : decode cX9_appendAll 21 = .ok (.aload_n 1, 1) := by decide +kernel
theorem dX9_appendAll_22 : decode cX9_appendAll 22 = .ok (.iload 4, 2) := by decide +kernel
theorem dX9_appendAll_24 : decode cX9_appendAll 24 = .ok (.baload, 1) := by decide +kernel
theorem dX9_appendAll_25 : decode cX9_appendAll 25 = .ok (.invokevirtual 23, 3) := by decide +kernel
theorem dX9_appendAll_28 : decode cX9_appendAll 28 = .ok (.iinc 4 1, 3) := by decide +kernel
theorem dX9_appendAll_31 : decode cX9_appendAll 31 = .ok (.goto (-24), 3) := by decide +kernel
theorem dX9_appendAll_34 : decode cX9_appendAll 34 = .ok (.return_, 1) := by decide +kernel
theorem dX9_pairAt_0 : decode cX9_pairAt 0 = .ok (.aload_n 0, 1) := by decide +kernel
theorem dX9_pairAt_1 : decode cX9_pairAt 1 = .ok (.iload_n 1, 1) := by decide +kernel
theorem dX9_pairAt_2 : decode cX9_pairAt 2 = .ok (.invokevirtual 33, 3) := by decide +kernel
theorem dX9_pairAt_5 : decode cX9_pairAt 5 = .ok (.aload_n 0, 1) := by decide +kernel
theorem dX9_pairAt_6 : decode cX9_pairAt 6 = .ok (.iload_n 1, 1) := by decide +kernel
theorem dX9_pairAt_7 : decode cX9_pairAt 7 = .ok (.iconst 1, 1) := by decide +kernel
theorem dX9_pairAt_8 : decode cX9_pairAt 8 = .ok (.iadd, 1) := by decide +kernel
theorem dX9_pairAt_9 : decode cX9_pairAt 9 = .ok (.invokevirtual 33, 3) := by decide +kernel
theorem dX9_pairAt_12 : decode cX9_pairAt 12 = .ok (.bipush 8, 2) := by decide +kernel
theorem dX9_pairAt_14 : decode cX9_pairAt 14 = .ok (.ishl, 1) := by decide +kernel
theorem dX9_pairAt_15 : decode cX9_pairAt 15 = .ok (.iadd, 1) := by decide +kernel
theorem dX9_pairAt_16 : decode cX9_pairAt 16 = .ok (.ireturn, 1) := by decide +kernel
theorem dX9_sum_0 : decode cX9_sum 0 = .ok (.iconst 0, 1) := by decide +kernel
theorem dX9_sum_1 : decode cX9_sum 1 = .ok (.istore_n 3, 1) := by decide +kernel
theorem dX9_sum_2 : decode cX9_sum 2 = .ok (.iconst 0, 1) := by decide +kernel
theorem dX9_sum_3 : decode cX9_sum 3 = .ok (.iload_n 1, 1) := by decide +kernel
theorem dX9_sum_4 : decode cX9_sum 4 = .ok (.invokestatic 27, 3) := by decide +kernel
theorem dX9_sum_7 : decode cX9_sum 7 = .ok (.istore 4, 2) := by decide +kernel
theorem dX9_sum_9 : decode cX9_sum 9 = .ok (.iload 4, 2) := by decide +kernel
theorem dX9_sum_11 : decode cX9_sum 11 = .ok (.iload_n 2, 1) := by decide +kernel
theorem dX9_sum_12 : decode cX9_sum 12 = .ok (.if_icmp .ge 39, 3) := by decide +kernel
theorem dX9_sum_15 : decode cX9_sum 15 = .ok (.iload 4, 2) := by decide +kernel
theorem dX9_sum_17 : decode cX9_sum 17 = .ok (.aload_n 0, 1) := by decide +kernel
theorem dX9_sum_18 : decode cX9_sum 18 = .ok (.getfield 9, 3) := by decide +kernel
theorem dX9_sum_21 : decode cX9_sum 21 = .ok (.arraylength, 1) := by decide +kernel
theorem dX9_sum_22 : decode cX9_sum 22 = .ok (.if_icmp .ge 29, 3) := by decide +kernel
theorem dX9_sum_25 : decode cX9_sum 25 = .ok (.bipush 31, 2) := by decide +kernel
theorem dX9_sum_27 : decode cX9_sum 27 = .ok (.iload_n 3, 1) := by decide +kernel
theorem dX9_sum_28 : decode cX9_sum 28 = .ok (.imul, 1) := by decide +kernel
theorem dX9_sum_29 : decode cX9_sum 29 = .ok (.aload_n 0, 1) := by decide +kernel
theorem dX9_sum_30 : decode cX9_sum 30 = .ok (.getfield 9, 3) := by decide +kernel
theorem dX9_sum_33 : decode cX9_sum 33 = .ok (.iload 4, 2) := by decide +kernel
theorem dX9_sum_35 : decode cX9_sum 35 = .ok (.baload, 1) := by decide +kernel
theorem dX9_sum_36 : decode cX9_sum 36 = .ok (.sipush 255, 3) := by decide +kernel
theorem dX9_sum_39 : decode cX9_sum 39 = .ok (.iand, 1) := by decide +kernel
theorem dX9_sum_40 : decode cX9_sum 40 = .ok (.iadd, 1) := by decide +kernel
theorem dX9_sum_41 : decode cX9_sum 41 = .ok (.ldc 37, 2) := by decide +kernel
theorem dX9_sum_43 : decode cX9_sum 43 = .ok (.iand, 1) := by decide +kernel
theorem dX9_sum_44 : decode cX9_sum 44 = .ok (.istore_n 3, 1) := by decide +kernel
theorem dX9_sum_45 : decode cX9_sum 45 = .ok (.iinc 4 1, 3) := by decide +kernel
theorem dX9_sum_48 : decode cX9_sum 48 = .ok (.goto (-39), 3) := by decide +kernel
theorem dX9_sum_51 : decode cX9_sum 51 = .ok (.iload_n 3, 1) := by decide +kernel
theorem dX9_sum_52 : decode cX9_sum 52 = .ok (.ireturn, 1) := by decide +kernel
theorem dX9_hasAt_0 : decode cX9_hasAt 0 = .ok (.iload_n 2, 1) := by decide +kernel
theorem dX9_hasAt_1 : decode cX9_hasAt 1 = .ok (.iload_n 1, 1) := by decide +kernel
theorem dX9_hasAt_2 : decode cX9_hasAt 2 = .ok (.isub, 1) := by decide +kernel
theorem dX9_hasAt_3 : decode cX9_hasAt 3 = .ok (.iload 4, 2) := by decide +kernel
theorem dX9_hasAt_5 : decode cX9_hasAt 5 = .ok (.if_icmp .ne 22, 3) := by decide +kernel
theorem dX9_hasAt_8 : decode cX9_hasAt 8 = .ok (.iload_n 1, 1) := by decide +kernel
theorem dX9_hasAt_9 : decode cX9_hasAt 9 = .ok (.ifCond .lt 18, 3) := by decide +kernel
theorem dX9_hasAt_12 : decode cX9_hasAt 12 = .ok (.iload_n 2, 1) := by decide +kernel
theorem dX9_hasAt_13 : decode cX9_hasAt 13 = .ok (.aload_n 0, 1) := by decide +kernel
theorem dX9_hasAt_14 : decode cX9_hasAt 14 = .ok (.getfield 15, 3) := by decide +kernel
theorem dX9_hasAt_17 : decode cX9_hasAt 17 = .ok (.if_icmp .gt 10, 3) := by decide +kernel
theorem dX9_hasAt_20 : decode cX9_hasAt 20 = .ok (.iload 4, 2) := by decide +kernel
theorem dX9_hasAt_22 : decode cX9_hasAt 22 = .ok (.aload_n 3, 1) := by decide +kernel
theorem dX9_hasAt_23 : decode cX9_hasAt 23 = .ok (.arraylength, 1) := by decide +kernel
theorem dX9_hasAt_24 : decode cX9_hasAt 24 = .ok (.if_icmp .le 5, 3) := by decide +kernel
theorem dX9_hasAt_27 : decode cX9_hasAt 27 = .ok (.iconst 0, 1) := by decide +kernel
theorem dX9_hasAt_28 : decode cX9_hasAt 28 = .ok (.ireturn, 1) := by decide +kernel
theorem dX9_hasAt_29 : decode cX9_hasAt 29 = .ok (.iconst 0, 1) := by decide +kernel
theorem dX9_hasAt_30 : decode cX9_hasAt 30 = .ok (.istore 5, 2) := by decide +kernel
theorem dX9_hasAt_32 : decode cX9_hasAt 32 = .ok (.iload 5, 2) := by decide +kernel
theorem dX9_hasAt_34 : decode cX9_hasAt 34 = .ok (.iload 4, 2) := by decide +kernel
theorem dX9_hasAt_36 : decode cX9_hasAt 36 = .ok (.if_icmp .ge 27, 3) := by decide +kernel
theorem dX9_hasAt_39 : decode cX9_hasAt 39 = .ok (.aload_n 0, 1) := by decide +kernel
theorem dX9_hasAt_40 : decode cX9_hasAt 40 = .ok (.getfield 9, 3) := by decide +kernel
theorem dX9_hasAt_43 : decode cX9_hasAt 43 = .ok (.iload_n 1, 1) := by decide +kernel
theorem dX9_hasAt_44 : decode cX9_hasAt 44 = .ok (.iload 5, 2) := by decide +kernel
theorem dX9_hasAt_46 : decode cX9_hasAt 46 = .ok (.iadd, 1) := by decide +kernel
theorem dX9_hasAt_47 : decode cX9_hasAt 47 = .ok (.baload, 1) := by decide +kernel
theorem dX9_hasAt_48 : decode cX9_hasAt 48 = .ok (.aload_n 3, 1) := by decide +kernel
theorem dX9_hasAt_49 : decode cX9_hasAt 49 = .ok (.iload 5, 2) := by decide +kernel
theorem dX9_hasAt_51 : decode cX9_hasAt 51 = .ok (.baload, 1) := by decide +kernel
theorem dX9_hasAt_52 : decode cX9_hasAt 52 = .ok (.if_icmp .eq 5, 3) := by decide +kernel
theorem dX9_hasAt_55 : decode cX9_hasAt 55 = .ok (.iconst 0, 1) := by decide +kernel
theorem dX9_hasAt_56 : decode cX9_hasAt 56 = .ok (.ireturn, 1) := by decide +kernel
theorem dX9_hasAt_57 : decode cX9_hasAt 57 = .ok (.iinc 5 1, 3) := by decide +kernel
theorem dX9_hasAt_60 : decode cX9_hasAt 60 = .ok (.goto (-28), 3) := by decide +kernel
theorem dX9_hasAt_63 : decode cX9_hasAt 63 = .ok (.iconst 1, 1) := by decide +kernel
theorem dX9_hasAt_64 : decode cX9_hasAt 64 = .ok (.ireturn, 1) := by decide +kernel
theorem dX10_init_0 : decode cX10_init 0 = .ok (.aload_n 0, 1) := by decide +kernel
theorem dX10_init_1 : decode cX10_init 1 = .ok (.invokespecial 3, 3) := by decide +kernel
theorem dX10_init_4 : decode cX10_init 4 = .ok (.aload_n 0, 1) := by decide +kernel
theorem dX10_init_5 : decode cX10_init 5 = .ok (.bipush 60, 2) := by decide +kernel
theorem dX10_init_7 : decode cX10_init 7 = .ok (.anewarray 9, 3) := by decide +kernel
theorem dX10_init_10 : decode cX10_init 10 = .ok (.putfield 11, 3) := by decide +kernel
theorem dX10_init_13 : decode cX10_init 13 = .ok (.aload_n 0, 1) := by decide +kernel
theorem dX10_init_14 : decode cX10_init 14 = .ok (.bipush 24, 2) := by decide +kernel
theorem dX10_init_16 : decode cX10_init 16 = .ok (.anewarray 15, 3) := by decide +kernel
theorem dX10_init_19 : decode cX10_init 19 = .ok (.putfield 17, 3) := by decide +kernel
theorem dX10_init_22 : decode cX10_init 22 = .ok (.aload_n 0, 1) := by decide +kernel
theorem dX10_init_23 : decode cX10_init 23 = .ok (.bipush 6, 2) := by decide +kernel
theorem dX10_init_25 : decode cX10_init 25 = .ok (.anewarray 21, 3) := by decide +kernel
theorem dX10_init_28 : decode cX10_init 28 = .ok (.putfield 23, 3) := by decide +kernel
theorem dX10_init_31 : decode cX10_init 31 = .ok (.aload_n 0, 1) := by decide +kernel
theorem dX10_init_32 : decode cX10_init 32 = .ok (.bipush 16, 2) := by decide +kernel
theorem dX10_init_34 : decode cX10_init 34 = .ok (.anewarray 27, 3) := by decide +kernel
theorem dX10_init_37 : decode cX10_init 37 = .ok (.putfield 29, 3) := by decide +kernel
theorem dX10_init_40 : decode cX10_init 40 = .ok (.aload_n 0, 1) := by decide +kernel
theorem dX10_init_41 : decode cX10_init 41 = .ok (.new 33, 3) := by decide +kernel
theorem dX10_init_44 : decode cX10_init 44 = .ok (.dup, 1) := by decide +kernel
theorem dX10_init_45 : decode cX10_init 45 = .ok (.invokespecial 35, 3) := by decide +kernel
theorem dX10_init_48 : decode cX10_init 48 = .ok (.putfield 36, 3) := by decide +kernel
theorem dX10_init_51 : decode cX10_init 51 = .ok (.aload_n 0, 1) := by decide +kernel
theorem dX10_init_52 : decode cX10_init 52 = .ok (.new 40, 3) := by decide +kernel
theorem dX10_init_55 : decode cX10_init 55 = .ok (.dup, 1) := by decide +kernel
theorem dX10_init_56 : decode cX10_init 56 = .ok (.invokespecial 42, 3) := by decide +kernel
theorem dX10_init_59 : decode cX10_init 59 = .ok (.putfield 43, 3) := by decide +kernel
theorem dX10_init_62 : decode cX10_init 62 = .ok (.aload_n 0, 1) := by decide +kernel
theorem dX10_init_63 : decode cX10_init 63 = .ok (.new 47, 3) := by decide +kernel
theorem dX10_init_66 : decode cX10_init 66 = .ok (.dup, 1) := by decide +kernel
theorem dX10_init_67 : decode cX10_init 67 = .ok (.invokespecial 49, 3) := by decide +kernel
theorem dX10_init_70 : decode cX10_init 70 = .ok (.putfield 50, 3) := by decide +kernel
theorem dX10_init_73 : decode cX10_init 73 = .ok (.aload_n 0, 1) := by decide +kernel
theorem dX10_init_74 : decode cX10_init 74 = .ok (.bipush 10, 2) := by decide +kernel
theorem dX10_init_76 : decode cX10_init 76 = .ok (.newarray .int, 2) := by decide +kernel
theorem dX10_init_78 : decode cX10_init 78 = .ok (.putfield 54, 3) := by decide +kernel
theorem dX10_init_81 : decode cX10_init 81 = .ok (.return_, 1) := by decide +kernel
theorem dX10_row_0 : decode cX10_row 0 = .ok (.iload_n 1, 1) := by decide +kernel
theorem dX10_row_1 : decode cX10_row 1 = .ok (.invokestatic 58, 3) := by decide +kernel
theorem dX10_row_4 : decode cX10_row 4 = .ok (.ifCond .eq 9, 3) := by decide +kernel
theorem dX10_row_7 : decode cX10_row 7 = .ok (.iload_n 2, 1) := by decide +kernel
theorem dX10_row_8 : decode cX10_row 8 = .ok (.bipush 24, 2) := by decide +kernel
theorem dX10_row_10 : decode cX10_row 10 = .ok (.if_icmp .le 6, 3) := by decide +kernel
theorem dX10_row_13 : decode cX10_row 13 = .ok (.bipush (-102), 2) := by decide +kernel
theorem dX10_row_15 : decode cX10_row 15 = .ok (.ireturn, 1) := by decide +kernel
theorem dX10_row_16 : decode cX10_row 16 = .ok (.aload_n 0, 1) := by decide +kernel
theorem dX10_row_17 : decode cX10_row 17 = .ok (.getfield 62, 3) := by decide +kernel
theorem dX10_row_20 : decode cX10_row 20 = .ok (.bipush 60, 2) := by decide +kernel
theorem dX10_row_22 : decode cX10_row 22 = .ok (.if_icmp .lt 6, 3) := by decide +kernel
theorem dX10_row_25 : decode cX10_row 25 = .ok (.bipush (-104), 2) := by decide +kernel
theorem dX10_row_27 : decode cX10_row 27 = .ok (.ireturn, 1) := by decide +kernel
theorem dX10_row_28 : decode cX10_row 28 = .ok (.iload_n 2, 1) := by decide +kernel
theorem dX10_row_29 : decode cX10_row 29 = .ok (.ifCond .ge 9, 3) := by decide +kernel
theorem dX10_row_32 : decode cX10_row 32 = .ok (.aload_n 0, 1) := by decide +kernel
theorem dX10_row_33 : decode cX10_row 33 = .ok (.iconst 4, 1) := by decide +kernel
theorem dX10_row_34 : decode cX10_row 34 = .ok (.invokevirtual 66, 3) := by decide +kernel
theorem dX10_row_37 : decode cX10_row 37 = .ok (.ireturn, 1) := by decide +kernel
theorem dX10_row_38 : decode cX10_row 38 = .ok (.aload_n 0, 1) := by decide +kernel
theorem dX10_row_39 : decode cX10_row 39 = .ok (.iload_n 1, 1) := by decide +kernel
theorem dX10_row_40 : decode cX10_row 40 = .ok (.iload_n 2, 1) := by decide +kernel
theorem dX10_row_41 : decode cX10_row 41 = .ok (.invokevirtual 70, 3) := by decide +kernel
theorem dX10_row_44 : decode cX10_row 44 = .ok (.ireturn, 1) := by decide +kernel
theorem dX10_lose_0 : decode cX10_lose 0 = .ok (.aload_n 0, 1) := by decide +kernel
theorem dX10_lose_1 : decode cX10_lose 1 = .ok (.iload_n 1, 1) := by decide +kernel
theorem dX10_lose_2 : decode cX10_lose 2 = .ok (.invokevirtual 74, 3) := by decide +kernel
theorem dX10_lose_5 : decode cX10_lose 5 = .ok (.astore_n 2, 1) := by decide +kernel
theorem dX10_lose_6 : decode cX10_lose 6 = .ok (.aload_n 2, 1) := by decide +kernel
theorem dX10_lose_7 : decode cX10_lose 7 = .ok (.ifnonnull 6, 3) := by decide +kernel
theorem dX10_lose_10 : decode cX10_lose 10 = .ok (.bipush (-101), 2) := by decide +kernel
theorem dX10_lose_12 : decode cX10_lose 12 = .ok (.ireturn, 1) := by decide +kernel
theorem dX10_lose_13 : decode cX10_lose 13 = .ok (.aload_n 2, 1) := by decide +kernel
theorem dX10_lose_14 : decode cX10_lose 14 = .ok (.getfield 78, 3) := by decide +kernel
theorem dX10_lose_17 : decode cX10_lose 17 = .ok (.ifCond .eq 9, 3) := by decide +kernel
theorem dX10_lose_20 : decode cX10_lose 20 = .ok (.aload_n 0, 1) := by decide +kernel
theorem dX10_lose_21 : decode cX10_lose 21 = .ok (.iconst 1, 1) := by decide +kernel
theorem dX10_lose_22 : decode cX10_lose 22 = .ok (.invokevirtual 66, 3) := by decide +kernel
theorem dX10_lose_25 : decode cX10_lose 25 = .ok (.ireturn, 1) := by decide +kernel
theorem dX10_lose_26 : decode cX10_lose 26 = .ok (.aload_n 2, 1) := by decide +kernel
theorem dX10_lose_27 : decode cX10_lose 27 = .ok (.iconst 1, 1) := by decide +kernel
theorem dX10_lose_28 : decode cX10_lose 28 = .ok (.putfield 78, 3) := by decide +kernel
theorem dX10_lose_31 : decode cX10_lose 31 = .ok (.aload_n 2, 1) := by decide +kernel
theorem dX10_lose_32 : decode cX10_lose 32 = .ok (.getfield 82, 3) := by decide +kernel
theorem dX10_lose_35 : decode cX10_lose 35 = .ok (.arraylength, 1) := by decide +kernel
theorem dX10_lose_36 : decode cX10_lose 36 = .ok (.ireturn, 1) := by decide +kernel
theorem dX10_kind_0 : decode cX10_kind 0 = .ok (.aload_n 0, 1) := by decide +kernel
theorem dX10_kind_1 : decode cX10_kind 1 = .ok (.iload_n 1, 1) := by decide +kernel
theorem dX10_kind_2 : decode cX10_kind 2 = .ok (.invokevirtual 74, 3) := by decide +kernel
theorem dX10_kind_5 : decode cX10_kind 5 = .ok (.astore_n 2, 1) := by decide +kernel
theorem dX10_kind_6 : decode cX10_kind 6 = .ok (.aload_n 2, 1) := by decide +kernel
theorem dX10_kind_7 : decode cX10_kind 7 = .ok (.ifnonnull 8, 3) := by decide +kernel
theorem dX10_kind_10 : decode cX10_kind 10 = .ok (.bipush (-101), 2) := by decide +kernel
theorem dX10_kind_12 : decode cX10_kind 12 = .ok (.goto 7, 3) := by decide +kernel
theorem dX10_kind_15 : decode cX10_kind 15 = .ok (.aload_n 2, 1) := by decide +kernel
theorem dX10_kind_16 : decode cX10_kind 16 = .ok (.getfield 86, 3) := by decide +kernel
theorem dX10_kind_19 : decode cX10_kind 19 = .ok (.ireturn, 1) := by decide +kernel
theorem dX10_length_0 : decode cX10_length 0 = .ok (.aload_n 0, 1) := by decide +kernel
theorem dX10_length_1 : decode cX10_length 1 = .ok (.iload_n 1, 1) := by decide +kernel
theorem dX10_length_2 : decode cX10_length 2 = .ok (.invokevirtual 74, 3) := by decide +kernel
theorem dX10_length_5 : decode cX10_length 5 = .ok (.astore_n 2, 1) := by decide +kernel
theorem dX10_length_6 : decode cX10_length 6 = .ok (.aload_n 2, 1) := by decide +kernel
theorem dX10_length_7 : decode cX10_length 7 = .ok (.ifnonnull 6, 3) := by decide +kernel
theorem dX10_length_10 : decode cX10_length 10 = .ok (.bipush (-101), 2) := by decide +kernel
theorem dX10_length_12 : decode cX10_length 12 = .ok (.ireturn, 1) := by decide +kernel
theorem dX10_length_13 : decode cX10_length 13 = .ok (.aload_n 2, 1) := by decide +kernel
theorem dX10_length_14 : decode cX10_length 14 = .ok (.getfield 78, 3) := by decide +kernel
theorem dX10_length_17 : decode cX10_length 17 = .ok (.ifCond .eq 9, 3) := by decide +kernel
theorem dX10_length_20 : decode cX10_length 20 = .ok (.aload_n 0, 1) := by decide +kernel
theorem dX10_length_21 : decode cX10_length 21 = .ok (.iconst 1, 1) := by decide +kernel
theorem dX10_length_22 : decode cX10_length 22 = .ok (.invokevirtual 66, 3) := by decide +kernel
theorem dX10_length_25 : decode cX10_length 25 = .ok (.ireturn, 1) := by decide +kernel
theorem dX10_length_26 : decode cX10_length 26 = .ok (.aload_n 2, 1) := by decide +kernel
theorem dX10_length_27 : decode cX10_length 27 = .ok (.getfield 82, 3) := by decide +kernel
theorem dX10_length_30 : decode cX10_length 30 = .ok (.arraylength, 1) := by decide +kernel
theorem dX10_length_31 : decode cX10_length 31 = .ok (.ireturn, 1) := by decide +kernel
theorem dX10_put_0 : decode cX10_put 0 = .ok (.aload_n 0, 1) := by decide +kernel
theorem dX10_put_1 : decode cX10_put 1 = .ok (.iload_n 1, 1) := by decide +kernel
theorem dX10_put_2 : decode cX10_put 2 = .ok (.invokevirtual 74, 3) := by decide +kernel
theorem dX10_put_5 : decode cX10_put 5 = .ok (.astore 5, 2) := by decide +kernel
theorem dX10_put_7 : decode cX10_put 7 = .ok (.aload 5, 2) := by decide +kernel
theorem dX10_put_9 : decode cX10_put 9 = .ok (.ifnonnull 6, 3) := by decide +kernel
theorem dX10_put_12 : decode cX10_put 12 = .ok (.bipush (-101), 2) := by decide +kernel
theorem dX10_put_14 : decode cX10_put 14 = .ok (.ireturn, 1) := by decide +kernel
theorem dX10_put_15 : decode cX10_put 15 = .ok (.aload 5, 2) := by decide +kernel
theorem dX10_put_17 : decode cX10_put 17 = .ok (.getfield 78, 3) := by decide +kernel
theorem dX10_put_20 : decode cX10_put 20 = .ok (.ifCond .eq 9, 3) := by decide +kernel
theorem dX10_put_23 : decode cX10_put 23 = .ok (.aload_n 0, 1) := by decide +kernel
theorem dX10_put_24 : decode cX10_put 24 = .ok (.iconst 1, 1) := by decide +kernel
theorem dX10_put_25 : decode cX10_put 25 = .ok (.invokevirtual 66, 3) := by decide +kernel
theorem dX10_put_28 : decode cX10_put 28 = .ok (.ireturn, 1) := by decide +kernel
theorem dX10_put_29 : decode cX10_put 29 = .ok (.aload 5, 2) := by decide +kernel
theorem dX10_put_31 : decode cX10_put 31 = .ok (.iload_n 2, 1) := by decide +kernel
theorem dX10_put_32 : decode cX10_put 32 = .ok (.invokevirtual 89, 3) := by decide +kernel
theorem dX10_put_35 : decode cX10_put 35 = .ok (.ifCond .ne 9, 3) := by decide +kernel
theorem dX10_put_38 : decode cX10_put 38 = .ok (.aload_n 0, 1) := by decide +kernel
theorem dX10_put_39 : decode cX10_put 39 = .ok (.iconst 2, 1) := by decide +kernel
theorem dX10_put_40 : decode cX10_put 40 = .ok (.invokevirtual 66, 3) := by decide +kernel
theorem dX10_put_43 : decode cX10_put 43 = .ok (.ireturn, 1) := by decide +kernel
theorem dX10_put_44 : decode cX10_put 44 = .ok (.aload 5, 2) := by decide +kernel
theorem dX10_put_46 : decode cX10_put 46 = .ok (.getfield 82, 3) := by decide +kernel
theorem dX10_put_49 : decode cX10_put 49 = .ok (.iload_n 2, 1) := by decide +kernel
theorem dX10_put_50 : decode cX10_put 50 = .ok (.aload 5, 2) := by decide +kernel
theorem dX10_put_52 : decode cX10_put 52 = .ok (.getfield 86, 3) := by decide +kernel
theorem dX10_put_55 : decode cX10_put 55 = .ok (.lload_n 3, 1) := by decide +kernel
theorem dX10_put_56 : decode cX10_put 56 = .ok (.invokestatic 92, 3) := by decide +kernel
theorem dX10_put_59 : decode cX10_put 59 = .ok (.lastore, 1) := by decide +kernel
theorem dX10_put_60 : decode cX10_put 60 = .ok (.iconst 0, 1) := by decide +kernel
theorem dX10_put_61 : decode cX10_put 61 = .ok (.ireturn, 1) := by decide +kernel
theorem dX10_get_0 : decode cX10_get 0 = .ok (.aload_n 0, 1) := by decide +kernel
theorem dX10_get_1 : decode cX10_get 1 = .ok (.iload_n 1, 1) := by decide +kernel
theorem dX10_get_2 : decode cX10_get 2 = .ok (.invokevirtual 74, 3) := by decide +kernel
theorem dX10_get_5 : decode cX10_get 5 = .ok (.astore_n 3, 1) := by decide +kernel
theorem dX10_get_6 : decode cX10_get 6 = .ok (.aload_n 3, 1) := by decide +kernel
theorem dX10_get_7 : decode cX10_get 7 = .ok (.ifnonnull 6, 3) := by decide +kernel
theorem dX10_get_10 : decode cX10_get 10 = .ok (.bipush (-101), 2) := by decide +kernel
theorem dX10_get_12 : decode cX10_get 12 = .ok (.ireturn, 1) := by decide +kernel
theorem dX10_get_13 : decode cX10_get 13 = .ok (.aload_n 3, 1) := by decide +kernel
theorem dX10_get_14 : decode cX10_get 14 = .ok (.getfield 78, 3) := by decide +kernel
theorem dX10_get_17 : decode cX10_get 17 = .ok (.ifCond .eq 9, 3) := by decide +kernel
theorem dX10_get_20 : decode cX10_get 20 = .ok (.aload_n 0, 1) := by decide +kernel
theorem dX10_get_21 : decode cX10_get 21 = .ok (.iconst 1, 1) := by decide +kernel
theorem dX10_get_22 : decode cX10_get 22 = .ok (.invokevirtual 66, 3) := by decide +kernel
theorem dX10_get_25 : decode cX10_get 25 = .ok (.ireturn, 1) := by decide +kernel
theorem dX10_get_26 : decode cX10_get 26 = .ok (.aload_n 3, 1) := by decide +kernel
theorem dX10_get_27 : decode cX10_get 27 = .ok (.iload_n 2, 1) := by decide +kernel
theorem dX10_get_28 : decode cX10_get 28 = .ok (.invokevirtual 89, 3) := by decide +kernel
theorem dX10_get_31 : decode cX10_get 31 = .ok (.ifCond .ne 9, 3) := by decide +kernel
theorem dX10_get_34 : decode cX10_get 34 = .ok (.aload_n 0, 1) := by decide +kernel
theorem dX10_get_35 : decode cX10_get 35 = .ok (.iconst 2, 1) := by decide +kernel
theorem dX10_get_36 : decode cX10_get 36 = .ok (.invokevirtual 66, 3) := by decide +kernel
theorem dX10_get_39 : decode cX10_get 39 = .ok (.ireturn, 1) := by decide +kernel
theorem dX10_get_40 : decode cX10_get 40 = .ok (.aload_n 0, 1) := by decide +kernel
theorem dX10_get_41 : decode cX10_get 41 = .ok (.aload_n 3, 1) := by decide +kernel
theorem dX10_get_42 : decode cX10_get 42 = .ok (.getfield 82, 3) := by decide +kernel
theorem dX10_get_45 : decode cX10_get 45 = .ok (.iload_n 2, 1) := by decide +kernel
theorem dX10_get_46 : decode cX10_get 46 = .ok (.laload, 1) := by decide +kernel
theorem dX10_get_47 : decode cX10_get 47 = .ok (.putfield 98, 3) := by decide +kernel
theorem dX10_get_50 : decode cX10_get 50 = .ok (.iconst 0, 1) := by decide +kernel
theorem dX10_get_51 : decode cX10_get 51 = .ok (.ireturn, 1) := by decide +kernel
theorem dX10_copy_0 : decode cX10_copy 0 = .ok (.aload_n 0, 1) := by decide +kernel
theorem dX10_copy_1 : decode cX10_copy 1 = .ok (.iload_n 1, 1) := by decide +kernel
theorem dX10_copy_2 : decode cX10_copy 2 = .ok (.invokevirtual 74, 3) := by decide +kernel
theorem dX10_copy_5 : decode cX10_copy 5 = .ok (.astore 6, 2) := by decide +kernel
theorem dX10_copy_7 : decode cX10_copy 7 = .ok (.aload_n 0, 1) := by decide +kernel
theorem dX10_copy_8 : decode cX10_copy 8 = .ok (.iload_n 3, 1) := by decide +kernel
theorem dX10_copy_9 : decode cX10_copy 9 = .ok (.invokevirtual 74, 3) := by decide +kernel
theorem dX10_copy_12 : decode cX10_copy 12 = .ok (.astore 7, 2) := by decide +kernel
theorem dX10_copy_14 : decode cX10_copy 14 = .ok (.aload 6, 2) := by decide +kernel
theorem dX10_copy_16 : decode cX10_copy 16 = .ok (.ifnull 8, 3) := by decide +kernel
theorem dX10_copy_19 : decode cX10_copy 19 = .ok (.aload 7, 2) := by decide +kernel
theorem dX10_copy_21 : decode cX10_copy 21 = .ok (.ifnonnull 6, 3) := by decide +kernel
theorem dX10_copy_24 : decode cX10_copy 24 = .ok (.bipush (-101), 2) := by decide +kernel
theorem dX10_copy_26 : decode cX10_copy 26 = .ok (.ireturn, 1) := by decide +kernel
theorem dX10_copy_27 : decode cX10_copy 27 = .ok (.aload 6, 2) := by decide +kernel
theorem dX10_copy_29 : decode cX10_copy 29 = .ok (.getfield 86, 3) := by decide +kernel
theorem dX10_copy_32 : decode cX10_copy 32 = .ok (.aload 7, 2) := by decide +kernel
theorem dX10_copy_34 : decode cX10_copy 34 = .ok (.getfield 86, 3) := by decide +kernel
theorem dX10_copy_37 : decode cX10_copy 37 = .ok (.if_icmp .eq 9, 3) := by decide +kernel
theorem dX10_copy_40 : decode cX10_copy 40 = .ok (.aload_n 0, 1) := by decide +kernel
theorem dX10_copy_41 : decode cX10_copy 41 = .ok (.iconst 3, 1) := by decide +kernel
theorem dX10_copy_42 : decode cX10_copy 42 = .ok (.invokevirtual 66, 3) := by decide +kernel
theorem dX10_copy_45 : decode cX10_copy 45 = .ok (.ireturn, 1) := by decide +kernel
theorem dX10_copy_46 : decode cX10_copy 46 = .ok (.aload 6, 2) := by decide +kernel
theorem dX10_copy_48 : decode cX10_copy 48 = .ok (.getfield 78, 3) := by decide +kernel
theorem dX10_copy_51 : decode cX10_copy 51 = .ok (.ifCond .ne 11, 3) := by decide +kernel
theorem dX10_copy_54 : decode cX10_copy 54 = .ok (.aload 7, 2) := by decide +kernel
theorem dX10_copy_56 : decode cX10_copy 56 = .ok (.getfield 78, 3) := by decide +kernel
theorem dX10_copy_59 : decode cX10_copy 59 = .ok (.ifCond .eq 9, 3) := by decide +kernel
theorem dX10_copy_62 : decode cX10_copy 62 = .ok (.aload_n 0, 1) := by decide +kernel
theorem dX10_copy_63 : decode cX10_copy 63 = .ok (.iconst 1, 1) := by decide +kernel
theorem dX10_copy_64 : decode cX10_copy 64 = .ok (.invokevirtual 66, 3) := by decide +kernel
theorem dX10_copy_67 : decode cX10_copy 67 = .ok (.ireturn, 1) := by decide +kernel
theorem dX10_copy_68 : decode cX10_copy 68 = .ok (.aload 6, 2) := by decide +kernel
theorem dX10_copy_70 : decode cX10_copy 70 = .ok (.iload_n 2, 1) := by decide +kernel
theorem dX10_copy_71 : decode cX10_copy 71 = .ok (.iload 5, 2) := by decide +kernel
theorem dX10_copy_73 : decode cX10_copy 73 = .ok (.invokevirtual 102, 3) := by decide +kernel
theorem dX10_copy_76 : decode cX10_copy 76 = .ok (.ifCond .eq 15, 3) := by decide +kernel
theorem dX10_copy_79 : decode cX10_copy 79 = .ok (.aload 7, 2) := by decide +kernel
theorem dX10_copy_81 : decode cX10_copy 81 = .ok (.iload 4, 2) := by decide +kernel
theorem dX10_copy_83 : decode cX10_copy 83 = .ok (.iload 5, 2) := by decide +kernel
theorem dX10_copy_85 : decode cX10_copy 85 = .ok (.invokevirtual 102, 3) := by decide +kernel
theorem dX10_copy_88 : decode cX10_copy 88 = .ok (.ifCond .ne 9, 3) := by decide +kernel
theorem dX10_copy_91 : decode cX10_copy 91 = .ok (.aload_n 0, 1) := by decide +kernel
theorem dX10_copy_92 : decode cX10_copy 92 = .ok (.iconst 2, 1) := by decide +kernel
theorem dX10_copy_93 : decode cX10_copy 93 = .ok (.invokevirtual 66, 3) := by decide +kernel
theorem dX10_copy_96 : decode cX10_copy 96 = .ok (.ireturn, 1) := by decide +kernel
theorem dX10_copy_97 : decode cX10_copy 97 = .ok (.aload 6, 2) := by decide +kernel
theorem dX10_copy_99 : decode cX10_copy 99 = .ok (.getfield 82, 3) := by decide +kernel
theorem dX10_copy_102 : decode cX10_copy 102 = .ok (.iload_n 2, 1) := by decide +kernel
theorem dX10_copy_103 : decode cX10_copy 103 = .ok (.aload 7, 2) := by decide +kernel
theorem dX10_copy_105 : decode cX10_copy 105 = .ok (.getfield 82, 3) := by decide +kernel
theorem dX10_copy_108 : decode cX10_copy 108 = .ok (.iload 4, 2) := by decide +kernel
theorem dX10_copy_110 : decode cX10_copy 110 = .ok (.iload 5, 2) := by decide +kernel
theorem dX10_copy_112 : decode cX10_copy 112 = .ok (.invokestatic 106, 3) := by decide +kernel
theorem dX10_copy_115 : decode cX10_copy 115 = .ok (.iconst 0, 1) := by decide +kernel
theorem dX10_copy_116 : decode cX10_copy 116 = .ok (.ireturn, 1) := by decide +kernel
theorem dX10_compare_0 : decode cX10_compare 0 = .ok (.aload_n 0, 1) := by decide +kernel
theorem dX10_compare_1 : decode cX10_compare 1 = .ok (.iload_n 1, 1) := by decide +kernel
theorem dX10_compare_2 : decode cX10_compare 2 = .ok (.invokevirtual 74, 3) := by decide +kernel
theorem dX10_compare_5 : decode cX10_compare 5 = .ok (.astore 4, 2) := by decide +kernel
theorem dX10_compare_7 : decode cX10_compare 7 = .ok (.aload 4, 2) := by decide +kernel
theorem dX10_compare_9 : decode cX10_compare 9 = .ok (.ifnonnull 6, 3) := by decide +kernel
theorem dX10_compare_12 : decode cX10_compare 12 = .ok (.bipush (-101), 2) := by decide +kernel
theorem dX10_compare_14 : decode cX10_compare 14 = .ok (.ireturn, 1) := by decide +kernel
theorem dX10_compare_15 : decode cX10_compare 15 = .ok (.aload 4, 2) := by decide +kernel
theorem dX10_compare_17 : decode cX10_compare 17 = .ok (.getfield 78, 3) := by decide +kernel
theorem dX10_compare_20 : decode cX10_compare 20 = .ok (.ifCond .eq 9, 3) := by decide +kernel
theorem dX10_compare_23 : decode cX10_compare 23 = .ok (.aload_n 0, 1) := by decide +kernel
theorem dX10_compare_24 : decode cX10_compare 24 = .ok (.iconst 1, 1) := by decide +kernel
theorem dX10_compare_25 : decode cX10_compare 25 = .ok (.invokevirtual 66, 3) := by decide +kernel
theorem dX10_compare_28 : decode cX10_compare 28 = .ok (.ireturn, 1) := by decide +kernel
theorem dX10_compare_29 : decode cX10_compare 29 = .ok (.aload 4, 2) := by decide +kernel
theorem dX10_compare_31 : decode cX10_compare 31 = .ok (.iload_n 2, 1) := by decide +kernel
theorem dX10_compare_32 : decode cX10_compare 32 = .ok (.invokevirtual 89, 3) := by decide +kernel
theorem dX10_compare_35 : decode cX10_compare 35 = .ok (.ifCond .eq 12, 3) := by decide +kernel
theorem dX10_compare_38 : decode cX10_compare 38 = .ok (.aload 4, 2) := by decide +kernel
theorem dX10_compare_40 : decode cX10_compare 40 = .ok (.iload_n 3, 1) := by decide +kernel
theorem dX10_compare_41 : decode cX10_compare 41 = .ok (.invokevirtual 89, 3) := by decide +kernel
theorem dX10_compare_44 : decode cX10_compare 44 = .ok (.ifCond .ne 9, 3) := by decide +kernel
theorem dX10_compare_47 : decode cX10_compare 47 = .ok (.aload_n 0, 1) := by decide +kernel
theorem dX10_compare_48 : decode cX10_compare 48 = .ok (.iconst 2, 1) := by decide +kernel
theorem dX10_compare_49 : decode cX10_compare 49 = .ok (.invokevirtual 66, 3) := by decide +kernel
theorem dX10_compare_52 : decode cX10_compare 52 = .ok (.ireturn, 1) := by decide +kernel
theorem dX10_compare_53 : decode cX10_compare 53 = .ok (.aload 4, 2) := by decide +kernel
theorem dX10_compare_55 : decode cX10_compare 55 = .ok (.getfield 86, 3) := by decide +kernel
theorem dX10_compare_58 : decode cX10_compare 58 = .ok (.aload 4, 2) := by decide +kernel
theorem dX10_compare_60 : decode cX10_compare 60 = .ok (.getfield 82, 3) := by decide +kernel
theorem dX10_compare_63 : decode cX10_compare 63 = .ok (.iload_n 2, 1) := by decide +kernel
theorem dX10_compare_64 : decode cX10_compare 64 = .ok (.laload, 1) := by decide +kernel
theorem dX10_compare_65 : decode cX10_compare 65 = .ok (.aload 4, 2) := by decide +kernel
theorem dX10_compare_67 : decode cX10_compare 67 = .ok (.getfield 82, 3) := by decide +kernel
theorem dX10_compare_70 : decode cX10_compare 70 = .ok (.iload_n 3, 1) := by decide +kernel
theorem dX10_compare_71 : decode cX10_compare 71 = .ok (.laload, 1) := by decide +kernel
theorem dX10_compare_72 : decode cX10_compare 72 = .ok (.invokestatic 112, 3) := by decide +kernel
theorem dX10_compare_75 : decode cX10_compare 75 = .ok (.ireturn, 1) := by decide +kernel
theorem dX10_shape_0 : decode cX10_shape 0 = .ok (.aload_n 0, 1) := by decide +kernel
theorem dX10_shape_1 : decode cX10_shape 1 = .ok (.iload_n 1, 1) := by decide +kernel
theorem dX10_shape_2 : decode cX10_shape 2 = .ok (.invokevirtual 74, 3) := by decide +kernel
theorem dX10_shape_5 : decode cX10_shape 5 = .ok (.astore 4, 2) := by decide +kernel
theorem dX10_shape_7 : decode cX10_shape 7 = .ok (.aload 4, 2) := by decide +kernel
theorem dX10_shape_9 : decode cX10_shape 9 = .ok (.ifnonnull 6, 3) := by decide +kernel
theorem dX10_shape_12 : decode cX10_shape 12 = .ok (.bipush (-101), 2) := by decide +kernel
theorem dX10_shape_14 : decode cX10_shape 14 = .ok (.ireturn, 1) := by decide +kernel
theorem dX10_shape_15 : decode cX10_shape 15 = .ok (.iload_n 3, 1) := by decide +kernel
theorem dX10_shape_16 : decode cX10_shape 16 = .ok (.ifCond .lt 8, 3) := by decide +kernel
theorem dX10_shape_19 : decode cX10_shape 19 = .ok (.iload_n 3, 1) := by decide +kernel
theorem dX10_shape_20 : decode cX10_shape 20 = .ok (.iconst 5, 1) := by decide +kernel
theorem dX10_shape_21 : decode cX10_shape 21 = .ok (.if_icmp .le 6, 3) := by decide +kernel
theorem dX10_shape_24 : decode cX10_shape 24 = .ok (.bipush (-102), 2) := by decide +kernel
theorem dX10_shape_26 : decode cX10_shape 26 = .ok (.ireturn, 1) := by decide +kernel
theorem dX10_shape_27 : decode cX10_shape 27 = .ok (.iload_n 3, 1) := by decide +kernel
theorem dX10_shape_28 : decode cX10_shape 28 = .ok (.ifCond .eq 22, 3) := by decide +kernel
theorem dX10_shape_31 : decode cX10_shape 31 = .ok (.iload_n 3, 1) := by decide +kernel
theorem dX10_shape_32 : decode cX10_shape 32 = .ok (.iconst 5, 1) := by decide +kernel
theorem dX10_shape_33 : decode cX10_shape 33 = .ok (.if_icmp .eq 17, 3) := by decide +kernel
theorem dX10_shape_36 : decode cX10_shape 36 = .ok (.aload 4, 2) := by decide +kernel
theorem dX10_shape_38 : decode cX10_shape 38 = .ok (.getfield 86, 3) := by decide +kernel
theorem dX10_shape_41 : decode cX10_shape 41 = .ok (.invokestatic 116, 3) := by decide +kernel
theorem dX10_shape_44 : decode cX10_shape 44 = .ok (.ifCond .ne 6, 3) := by decide +kernel
theorem dX10_shape_47 : decode cX10_shape 47 = .ok (.bipush (-103), 2) := by decide +kernel
theorem dX10_shape_49 : decode cX10_shape 49 = .ok (.ireturn, 1) := by decide +kernel
theorem dX10_shape_50 : decode cX10_shape 50 = .ok (.aload 4, 2) := by decide +kernel
theorem dX10_shape_52 : decode cX10_shape 52 = .ok (.getfield 78, 3) := by decide +kernel
theorem dX10_shape_55 : decode cX10_shape 55 = .ok (.ifCond .eq 9, 3) := by decide +kernel
theorem dX10_shape_58 : decode cX10_shape 58 = .ok (.aload_n 0, 1) := by decide +kernel
theorem dX10_shape_59 : decode cX10_shape 59 = .ok (.iconst 1, 1) := by decide +kernel
theorem dX10_shape_60 : decode cX10_shape 60 = .ok (.invokevirtual 66, 3) := by decide +kernel
theorem dX10_shape_63 : decode cX10_shape 63 = .ok (.ireturn, 1) := by decide +kernel
theorem dX10_shape_64 : decode cX10_shape 64 = .ok (.aload 4, 2) := by decide +kernel
theorem dX10_shape_66 : decode cX10_shape 66 = .ok (.iload_n 2, 1) := by decide +kernel
theorem dX10_shape_67 : decode cX10_shape 67 = .ok (.invokevirtual 89, 3) := by decide +kernel
theorem dX10_shape_70 : decode cX10_shape 70 = .ok (.ifCond .ne 9, 3) := by decide +kernel
theorem dX10_shape_73 : decode cX10_shape 73 = .ok (.aload_n 0, 1) := by decide +kernel
theorem dX10_shape_74 : decode cX10_shape 74 = .ok (.iconst 2, 1) := by decide +kernel
theorem dX10_shape_75 : decode cX10_shape 75 = .ok (.invokevirtual 66, 3) := by decide +kernel
theorem dX10_shape_78 : decode cX10_shape 78 = .ok (.ireturn, 1) := by decide +kernel
theorem dX10_shape_79 : decode cX10_shape 79 = .ok (.aload_n 0, 1) := by decide +kernel
theorem dX10_shape_80 : decode cX10_shape 80 = .ok (.aload 4, 2) := by decide +kernel
theorem dX10_shape_82 : decode cX10_shape 82 = .ok (.getfield 86, 3) := by decide +kernel
theorem dX10_shape_85 : decode cX10_shape 85 = .ok (.aload 4, 2) := by decide +kernel
theorem dX10_shape_87 : decode cX10_shape 87 = .ok (.getfield 82, 3) := by decide +kernel
theorem dX10_shape_90 : decode cX10_shape 90 = .ok (.iload_n 2, 1) := by decide +kernel
theorem dX10_shape_91 : decode cX10_shape 91 = .ok (.laload, 1) := by decide +kernel
theorem dX10_shape_92 : decode cX10_shape 92 = .ok (.iload_n 3, 1) := by decide +kernel
theorem dX10_shape_93 : decode cX10_shape 93 = .ok (.invokestatic 119, 3) := by decide +kernel
theorem dX10_shape_96 : decode cX10_shape 96 = .ok (.putfield 98, 3) := by decide +kernel
theorem dX10_shape_99 : decode cX10_shape 99 = .ok (.iconst 0, 1) := by decide +kernel
theorem dX10_shape_100 : decode cX10_shape 100 = .ok (.ireturn, 1) := by decide +kernel
theorem dX10_rest_0 : decode cX10_rest 0 = .ok (.aload_n 0, 1) := by decide +kernel
theorem dX10_rest_1 : decode cX10_rest 1 = .ok (.iload_n 1, 1) := by decide +kernel
theorem dX10_rest_2 : decode cX10_rest 2 = .ok (.invokevirtual 74, 3) := by decide +kernel
theorem dX10_rest_5 : decode cX10_rest 5 = .ok (.astore 4, 2) := by decide +kernel
theorem dX10_rest_7 : decode cX10_rest 7 = .ok (.aload 4, 2) := by decide +kernel
theorem dX10_rest_9 : decode cX10_rest 9 = .ok (.ifnonnull 6, 3) := by decide +kernel
theorem dX10_rest_12 : decode cX10_rest 12 = .ok (.bipush (-101), 2) := by decide +kernel
theorem dX10_rest_14 : decode cX10_rest 14 = .ok (.ireturn, 1) := by decide +kernel
theorem dX10_rest_15 : decode cX10_rest 15 = .ok (.aload 4, 2) := by decide +kernel
theorem dX10_rest_17 : decode cX10_rest 17 = .ok (.getfield 78, 3) := by decide +kernel
theorem dX10_rest_20 : decode cX10_rest 20 = .ok (.ifCond .eq 9, 3) := by decide +kernel
theorem dX10_rest_23 : decode cX10_rest 23 = .ok (.aload_n 0, 1) := by decide +kernel
theorem dX10_rest_24 : decode cX10_rest 24 = .ok (.iconst 1, 1) := by decide +kernel
theorem dX10_rest_25 : decode cX10_rest 25 = .ok (.invokevirtual 66, 3) := by decide +kernel
theorem dX10_rest_28 : decode cX10_rest 28 = .ok (.ireturn, 1) := by decide +kernel
theorem dX10_rest_29 : decode cX10_rest 29 = .ok (.aload 4, 2) := by decide +kernel
theorem dX10_rest_31 : decode cX10_rest 31 = .ok (.iload_n 2, 1) := by decide +kernel
theorem dX10_rest_32 : decode cX10_rest 32 = .ok (.invokevirtual 89, 3) := by decide +kernel
theorem dX10_rest_35 : decode cX10_rest 35 = .ok (.ifCond .eq 12, 3) := by decide +kernel
theorem dX10_rest_38 : decode cX10_rest 38 = .ok (.aload 4, 2) := by decide +kernel
theorem dX10_rest_40 : decode cX10_rest 40 = .ok (.iload_n 3, 1) := by decide +kernel
theorem dX10_rest_41 : decode cX10_rest 41 = .ok (.invokevirtual 89, 3) := by decide +kernel
theorem dX10_rest_44 : decode cX10_rest 44 = .ok (.ifCond .ne 9, 3) := by decide +kernel
theorem dX10_rest_47 : decode cX10_rest 47 = .ok (.aload_n 0, 1) := by decide +kernel
theorem dX10_rest_48 : decode cX10_rest 48 = .ok (.iconst 2, 1) := by decide +kernel
theorem dX10_rest_49 : decode cX10_rest 49 = .ok (.invokevirtual 66, 3) := by decide +kernel
theorem dX10_rest_52 : decode cX10_rest 52 = .ok (.ireturn, 1) := by decide +kernel
theorem dX10_rest_53 : decode cX10_rest 53 = .ok (.aload 4, 2) := by decide +kernel
theorem dX10_rest_55 : decode cX10_rest 55 = .ok (.getfield 86, 3) := by decide +kernel
theorem dX10_rest_58 : decode cX10_rest 58 = .ok (.aload 4, 2) := by decide +kernel
theorem dX10_rest_60 : decode cX10_rest 60 = .ok (.getfield 82, 3) := by decide +kernel
theorem dX10_rest_63 : decode cX10_rest 63 = .ok (.iload_n 2, 1) := by decide +kernel
theorem dX10_rest_64 : decode cX10_rest 64 = .ok (.laload, 1) := by decide +kernel
theorem dX10_rest_65 : decode cX10_rest 65 = .ok (.aload 4, 2) := by decide +kernel
theorem dX10_rest_67 : decode cX10_rest 67 = .ok (.getfield 82, 3) := by decide +kernel
theorem dX10_rest_70 : decode cX10_rest 70 = .ok (.iload_n 3, 1) := by decide +kernel
theorem dX10_rest_71 : decode cX10_rest 71 = .ok (.laload, 1) := by decide +kernel
theorem dX10_rest_72 : decode cX10_rest 72 = .ok (.invokestatic 123, 3) := by decide +kernel
theorem dX10_rest_75 : decode cX10_rest 75 = .ok (.ifCond .ne 9, 3) := by decide +kernel
theorem dX10_rest_78 : decode cX10_rest 78 = .ok (.aload_n 0, 1) := by decide +kernel
theorem dX10_rest_79 : decode cX10_rest 79 = .ok (.iconst 5, 1) := by decide +kernel
theorem dX10_rest_80 : decode cX10_rest 80 = .ok (.invokevirtual 66, 3) := by decide +kernel
theorem dX10_rest_83 : decode cX10_rest 83 = .ok (.ireturn, 1) := by decide +kernel
theorem dX10_rest_84 : decode cX10_rest 84 = .ok (.aload_n 0, 1) := by decide +kernel
theorem dX10_rest_85 : decode cX10_rest 85 = .ok (.aload 4, 2) := by decide +kernel
theorem dX10_rest_87 : decode cX10_rest 87 = .ok (.getfield 86, 3) := by decide +kernel
theorem dX10_rest_90 : decode cX10_rest 90 = .ok (.aload 4, 2) := by decide +kernel
theorem dX10_rest_92 : decode cX10_rest 92 = .ok (.getfield 82, 3) := by decide +kernel
theorem dX10_rest_95 : decode cX10_rest 95 = .ok (.iload_n 2, 1) := by decide +kernel
theorem dX10_rest_96 : decode cX10_rest 96 = .ok (.laload, 1) := by decide +kernel
theorem dX10_rest_97 : decode cX10_rest 97 = .ok (.aload 4, 2) := by decide +kernel
theorem dX10_rest_99 : decode cX10_rest 99 = .ok (.getfield 82, 3) := by decide +kernel
theorem dX10_rest_102 : decode cX10_rest 102 = .ok (.iload_n 3, 1) := by decide +kernel
theorem dX10_rest_103 : decode cX10_rest 103 = .ok (.laload, 1) := by decide +kernel
theorem dX10_rest_104 : decode cX10_rest 104 = .ok (.invokestatic 127, 3) := by decide +kernel
theorem dX10_rest_107 : decode cX10_rest 107 = .ok (.putfield 98, 3) := by decide +kernel
theorem dX10_rest_110 : decode cX10_rest 110 = .ok (.iconst 0, 1) := by decide +kernel
theorem dX10_rest_111 : decode cX10_rest 111 = .ok (.ireturn, 1) := by decide +kernel
theorem dX10_most_0 : decode cX10_most 0 = .ok (.aload_n 0, 1) := by decide +kernel
theorem dX10_most_1 : decode cX10_most 1 = .ok (.iload_n 1, 1) := by decide +kernel
theorem dX10_most_2 : decode cX10_most 2 = .ok (.invokevirtual 74, 3) := by decide +kernel
theorem dX10_most_5 : decode cX10_most 5 = .ok (.astore_n 3, 1) := by decide +kernel
theorem dX10_most_6 : decode cX10_most 6 = .ok (.aload_n 3, 1) := by decide +kernel
theorem dX10_most_7 : decode cX10_most 7 = .ok (.ifnonnull 6, 3) := by decide +kernel
theorem dX10_most_10 : decode cX10_most 10 = .ok (.bipush (-101), 2) := by decide +kernel
theorem dX10_most_12 : decode cX10_most 12 = .ok (.ireturn, 1) := by decide +kernel
theorem dX10_most_13 : decode cX10_most 13 = .ok (.iload_n 2, 1) := by decide +kernel
theorem dX10_most_14 : decode cX10_most 14 = .ok (.ifCond .lt 8, 3) := by decide +kernel
theorem dX10_most_17 : decode cX10_most 17 = .ok (.iload_n 2, 1) := by decide +kernel
theorem dX10_most_18 : decode cX10_most 18 = .ok (.iconst 2, 1) := by decide +kernel
theorem dX10_most_19 : decode cX10_most 19 = .ok (.if_icmp .le 6, 3) := by decide +kernel
theorem dX10_most_22 : decode cX10_most 22 = .ok (.bipush (-102), 2) := by decide +kernel
theorem dX10_most_24 : decode cX10_most 24 = .ok (.ireturn, 1) := by decide +kernel
theorem dX10_most_25 : decode cX10_most 25 = .ok (.aload_n 3, 1) := by decide +kernel
theorem dX10_most_26 : decode cX10_most 26 = .ok (.getfield 78, 3) := by decide +kernel
theorem dX10_most_29 : decode cX10_most 29 = .ok (.ifCond .eq 9, 3) := by decide +kernel
theorem dX10_most_32 : decode cX10_most 32 = .ok (.aload_n 0, 1) := by decide +kernel
theorem dX10_most_33 : decode cX10_most 33 = .ok (.iconst 1, 1) := by decide +kernel
theorem dX10_most_34 : decode cX10_most 34 = .ok (.invokevirtual 66, 3) := by decide +kernel
theorem dX10_most_37 : decode cX10_most 37 = .ok (.ireturn, 1) := by decide +kernel
theorem dX10_most_38 : decode cX10_most 38 = .ok (.aload_n 3, 1) := by decide +kernel
theorem dX10_most_39 : decode cX10_most 39 = .ok (.invokevirtual 131, 3) := by decide +kernel
theorem dX10_most_42 : decode cX10_most 42 = .ok (.istore 4, 2) := by decide +kernel
theorem dX10_most_44 : decode cX10_most 44 = .ok (.iload_n 2, 1) := by decide +kernel
theorem dX10_most_45 : decode cX10_most 45 = .ok (.iconst 2, 1) := by decide +kernel
theorem dX10_most_46 : decode cX10_most 46 = .ok (.if_icmp .ne 12, 3) := by decide +kernel
theorem dX10_most_49 : decode cX10_most 49 = .ok (.aload_n 0, 1) := by decide +kernel
theorem dX10_most_50 : decode cX10_most 50 = .ok (.iload 4, 2) := by decide +kernel
theorem dX10_most_52 : decode cX10_most 52 = .ok (.i2l, 1) := by decide +kernel
theorem dX10_most_53 : decode cX10_most 53 = .ok (.putfield 98, 3) := by decide +kernel
theorem dX10_most_56 : decode cX10_most 56 = .ok (.iconst 0, 1) := by decide +kernel
theorem dX10_most_57 : decode cX10_most 57 = .ok (.ireturn, 1) := by decide +kernel
theorem dX10_most_58 : decode cX10_most 58 = .ok (.iload 4, 2) := by decide +kernel
theorem dX10_most_60 : decode cX10_most 60 = .ok (.aload_n 3, 1) := by decide +kernel
theorem dX10_most_61 : decode cX10_most 61 = .ok (.getfield 82, 3) := by decide +kernel
theorem dX10_most_64 : decode cX10_most 64 = .ok (.arraylength, 1) := by decide +kernel
theorem dX10_most_65 : decode cX10_most 65 = .ok (.if_icmp .ne 9, 3) := by decide +kernel
theorem dX10_most_68 : decode cX10_most 68 = .ok (.aload_n 0, 1) := by decide +kernel
theorem dX10_most_69 : decode cX10_most 69 = .ok (.iconst 5, 1) := by decide +kernel
theorem dX10_most_70 : decode cX10_most 70 = .ok (.invokevirtual 66, 3) := by decide +kernel
theorem dX10_most_73 : decode cX10_most 73 = .ok (.ireturn, 1) := by decide +kernel
theorem dX10_most_74 : decode cX10_most 74 = .ok (.aload_n 0, 1) := by decide +kernel
theorem dX10_most_75 : decode cX10_most 75 = .ok (.aload_n 3, 1) := by decide +kernel
theorem dX10_most_76 : decode cX10_most 76 = .ok (.iload_n 2, 1) := by decide +kernel
theorem dX10_most_77 : decode cX10_most 77 = .ok (.ifCond .ne 7, 3) := by decide +kernel
theorem dX10_most_80 : decode cX10_most 80 = .ok (.iconst 1, 1) := by decide +kernel
theorem dX10_most_81 : decode cX10_most 81 = .ok (.goto 4, 3) := by decide +kernel
theorem dX10_most_84 : decode cX10_most 84 = .ok (.iconst 0, 1) := by decide +kernel
theorem dX10_most_85 : decode cX10_most 85 = .ok (.invokevirtual 135, 3) := by decide +kernel
theorem dX10_most_88 : decode cX10_most 88 = .ok (.putfield 98, 3) := by decide +kernel
theorem dX10_most_91 : decode cX10_most 91 = .ok (.iconst 0, 1) := by decide +kernel
theorem dX10_most_92 : decode cX10_most 92 = .ok (.ireturn, 1) := by decide +kernel
theorem dX10_seen_0 : decode cX10_seen 0 = .ok (.aload_n 0, 1) := by decide +kernel
theorem dX10_seen_1 : decode cX10_seen 1 = .ok (.getfield 98, 3) := by decide +kernel
theorem dX10_seen_4 : decode cX10_seen 4 = .ok (.lreturn, 1) := by decide +kernel
theorem dX10_stream_0 : decode cX10_stream 0 = .ok (.aload_n 0, 1) := by decide +kernel
theorem dX10_stream_1 : decode cX10_stream 1 = .ok (.getfield 139, 3) := by decide +kernel
theorem dX10_stream_4 : decode cX10_stream 4 = .ok (.bipush 24, 2) := by decide +kernel
theorem dX10_stream_6 : decode cX10_stream 6 = .ok (.if_icmp .lt 6, 3) := by decide +kernel
theorem dX10_stream_9 : decode cX10_stream 9 = .ok (.bipush (-104), 2) := by decide +kernel
theorem dX10_stream_11 : decode cX10_stream 11 = .ok (.ireturn, 1) := by decide +kernel
theorem dX10_stream_12 : decode cX10_stream 12 = .ok (.aload_n 0, 1) := by decide +kernel
theorem dX10_stream_13 : decode cX10_stream 13 = .ok (.invokevirtual 142, 3) := by decide +kernel
theorem dX10_stream_16 : decode cX10_stream 16 = .ok (.ireturn, 1) := by decide +kernel
theorem dX10_write_0 : decode cX10_write 0 = .ok (.aload_n 0, 1) := by decide +kernel
theorem dX10_write_1 : decode cX10_write 1 = .ok (.iload_n 1, 1) := by decide +kernel
theorem dX10_write_2 : decode cX10_write 2 = .ok (.invokevirtual 145, 3) := by decide +kernel
theorem dX10_write_5 : decode cX10_write 5 = .ok (.astore 4, 2) := by decide +kernel
theorem dX10_write_7 : decode cX10_write 7 = .ok (.aload_n 0, 1) := by decide +kernel
theorem dX10_write_8 : decode cX10_write 8 = .ok (.iload_n 2, 1) := by decide +kernel
theorem dX10_write_9 : decode cX10_write 9 = .ok (.invokevirtual 74, 3) := by decide +kernel
theorem dX10_write_12 : decode cX10_write 12 = .ok (.astore 5, 2) := by decide +kernel
theorem dX10_write_14 : decode cX10_write 14 = .ok (.aload 4, 2) := by decide +kernel
theorem dX10_write_16 : decode cX10_write 16 = .ok (.ifnull 8, 3) := by decide +kernel
theorem dX10_write_19 : decode cX10_write 19 = .ok (.aload 5, 2) := by decide +kernel
theorem dX10_write_21 : decode cX10_write 21 = .ok (.ifnonnull 6, 3) := by decide +kernel
theorem dX10_write_24 : decode cX10_write 24 = .ok (.bipush (-101), 2) := by decide +kernel
theorem dX10_write_26 : decode cX10_write 26 = .ok (.ireturn, 1) := by decide +kernel
theorem dX10_write_27 : decode cX10_write 27 = .ok (.iload_n 3, 1) := by decide +kernel
theorem dX10_write_28 : decode cX10_write 28 = .ok (.invokestatic 149, 3) := by decide +kernel
theorem dX10_write_31 : decode cX10_write 31 = .ok (.ifCond .ne 6, 3) := by decide +kernel
theorem dX10_write_34 : decode cX10_write 34 = .ok (.bipush (-102), 2) := by decide +kernel
theorem dX10_write_36 : decode cX10_write 36 = .ok (.ireturn, 1) := by decide +kernel
theorem dX10_write_37 : decode cX10_write 37 = .ok (.aload 4, 2) := by decide +kernel
theorem dX10_write_39 : decode cX10_write 39 = .ok (.getfield 152, 3) := by decide +kernel
theorem dX10_write_42 : decode cX10_write 42 = .ok (.ifCond .eq 6, 3) := by decide +kernel
theorem dX10_write_45 : decode cX10_write 45 = .ok (.bipush (-103), 2) := by decide +kernel
theorem dX10_write_47 : decode cX10_write 47 = .ok (.ireturn, 1) := by decide +kernel
theorem dX10_write_48 : decode cX10_write 48 = .ok (.aload 5, 2) := by decide +kernel
theorem dX10_write_50 : decode cX10_write 50 = .ok (.getfield 78, 3) := by decide +kernel
theorem dX10_write_53 : decode cX10_write 53 = .ok (.ifCond .eq 9, 3) := by decide +kernel
theorem dX10_write_56 : decode cX10_write 56 = .ok (.aload_n 0, 1) := by decide +kernel
theorem dX10_write_57 : decode cX10_write 57 = .ok (.iconst 1, 1) := by decide +kernel
theorem dX10_write_58 : decode cX10_write 58 = .ok (.invokevirtual 66, 3) := by decide +kernel
theorem dX10_write_61 : decode cX10_write 61 = .ok (.ireturn, 1) := by decide +kernel
theorem dX10_write_62 : decode cX10_write 62 = .ok (.aload_n 0, 1) := by decide +kernel
theorem dX10_write_63 : decode cX10_write 63 = .ok (.getfield 43, 3) := by decide +kernel
theorem dX10_write_66 : decode cX10_write 66 = .ok (.iload_n 3, 1) := by decide +kernel
theorem dX10_write_67 : decode cX10_write 67 = .ok (.aload 5, 2) := by decide +kernel
theorem dX10_write_69 : decode cX10_write 69 = .ok (.getfield 82, 3) := by decide +kernel
theorem dX10_write_72 : decode cX10_write 72 = .ok (.aload 5, 2) := by decide +kernel
theorem dX10_write_74 : decode cX10_write 74 = .ok (.getfield 82, 3) := by decide +kernel
theorem dX10_write_77 : decode cX10_write 77 = .ok (.arraylength, 1) := by decide +kernel
theorem dX10_write_78 : decode cX10_write 78 = .ok (.invokevirtual 155, 3) := by decide +kernel
theorem dX10_write_81 : decode cX10_write 81 = .ok (.aload 4, 2) := by decide +kernel
theorem dX10_write_83 : decode cX10_write 83 = .ok (.getfield 159, 3) := by decide +kernel
theorem dX10_write_86 : decode cX10_write 86 = .ok (.bipush 7, 2) := by decide +kernel
theorem dX10_write_88 : decode cX10_write 88 = .ok (.iadd, 1) := by decide +kernel
theorem dX10_write_89 : decode cX10_write 89 = .ok (.aload_n 0, 1) := by decide +kernel
theorem dX10_write_90 : decode cX10_write 90 = .ok (.getfield 43, 3) := by decide +kernel
theorem dX10_write_93 : decode cX10_write 93 = .ok (.getfield 162, 3) := by decide +kernel
theorem dX10_write_96 : decode cX10_write 96 = .ok (.iadd, 1) := by decide +kernel
theorem dX10_write_97 : decode cX10_write 97 = .ok (.sipush 400, 3) := by decide +kernel
theorem dX10_write_100 : decode cX10_write 100 = .ok (.if_icmp .le 6, 3) := by decide +kernel
theorem dX10_write_103 : decode cX10_write 103 = .ok (.bipush (-104), 2) := by decide +kernel
theorem dX10_write_105 : decode cX10_write 105 = .ok (.ireturn, 1) := by decide +kernel
theorem dX10_write_106 : decode cX10_write 106 = .ok (.aload_n 0, 1) := by decide +kernel
theorem dX10_write_107 : decode cX10_write 107 = .ok (.aload 4, 2) := by decide +kernel
theorem dX10_write_109 : decode cX10_write 109 = .ok (.iload_n 3, 1) := by decide +kernel
theorem dX10_write_110 : decode cX10_write 110 = .ok (.aload 5, 2) := by decide +kernel
theorem dX10_write_112 : decode cX10_write 112 = .ok (.invokevirtual 163, 3) := by decide +kernel
theorem dX10_write_115 : decode cX10_write 115 = .ok (.aload 4, 2) := by decide +kernel
theorem dX10_write_117 : decode cX10_write 117 = .ok (.getfield 159, 3) := by decide +kernel
theorem dX10_write_120 : decode cX10_write 120 = .ok (.ireturn, 1) := by decide +kernel
theorem dX10_cost_0 : decode cX10_cost 0 = .ok (.aload_n 0, 1) := by decide +kernel
theorem dX10_cost_1 : decode cX10_cost 1 = .ok (.iload_n 1, 1) := by decide +kernel
theorem dX10_cost_2 : decode cX10_cost 2 = .ok (.invokevirtual 74, 3) := by decide +kernel
theorem dX10_cost_5 : decode cX10_cost 5 = .ok (.astore_n 3, 1) := by decide +kernel
theorem dX10_cost_6 : decode cX10_cost 6 = .ok (.aload_n 3, 1) := by decide +kernel
theorem dX10_cost_7 : decode cX10_cost 7 = .ok (.ifnonnull 6, 3) := by decide +kernel
theorem dX10_cost_10 : decode cX10_cost 10 = .ok (.bipush (-101), 2) := by decide +kernel
theorem dX10_cost_12 : decode cX10_cost 12 = .ok (.ireturn, 1) := by decide +kernel
theorem dX10_cost_13 : decode cX10_cost 13 = .ok (.iload_n 2, 1) := by decide +kernel
theorem dX10_cost_14 : decode cX10_cost 14 = .ok (.invokestatic 149, 3) := by decide +kernel
theorem dX10_cost_17 : decode cX10_cost 17 = .ok (.ifCond .ne 6, 3) := by decide +kernel
theorem dX10_cost_20 : decode cX10_cost 20 = .ok (.bipush (-102), 2) := by decide +kernel
theorem dX10_cost_22 : decode cX10_cost 22 = .ok (.ireturn, 1) := by decide +kernel
theorem dX10_cost_23 : decode cX10_cost 23 = .ok (.aload_n 3, 1) := by decide +kernel
theorem dX10_cost_24 : decode cX10_cost 24 = .ok (.getfield 78, 3) := by decide +kernel
theorem dX10_cost_27 : decode cX10_cost 27 = .ok (.ifCond .eq 9, 3) := by decide +kernel
theorem dX10_cost_30 : decode cX10_cost 30 = .ok (.aload_n 0, 1) := by decide +kernel
theorem dX10_cost_31 : decode cX10_cost 31 = .ok (.iconst 1, 1) := by decide +kernel
theorem dX10_cost_32 : decode cX10_cost 32 = .ok (.invokevirtual 66, 3) := by decide +kernel
theorem dX10_cost_35 : decode cX10_cost 35 = .ok (.ireturn, 1) := by decide +kernel
theorem dX10_cost_36 : decode cX10_cost 36 = .ok (.aload_n 0, 1) := by decide +kernel
theorem dX10_cost_37 : decode cX10_cost 37 = .ok (.getfield 43, 3) := by decide +kernel
theorem dX10_cost_40 : decode cX10_cost 40 = .ok (.iload_n 2, 1) := by decide +kernel
theorem dX10_cost_41 : decode cX10_cost 41 = .ok (.aload_n 3, 1) := by decide +kernel
theorem dX10_cost_42 : decode cX10_cost 42 = .ok (.getfield 82, 3) := by decide +kernel
theorem dX10_cost_45 : decode cX10_cost 45 = .ok (.aload_n 3, 1) := by decide +kernel
theorem dX10_cost_46 : decode cX10_cost 46 = .ok (.getfield 82, 3) := by decide +kernel
theorem dX10_cost_49 : decode cX10_cost 49 = .ok (.arraylength, 1) := by decide +kernel
theorem dX10_cost_50 : decode cX10_cost 50 = .ok (.invokevirtual 155, 3) := by decide +kernel
theorem dX10_cost_53 : decode cX10_cost 53 = .ok (.aload_n 0, 1) := by decide +kernel
theorem dX10_cost_54 : decode cX10_cost 54 = .ok (.getfield 43, 3) := by decide +kernel
theorem dX10_cost_57 : decode cX10_cost 57 = .ok (.getfield 162, 3) := by decide +kernel
theorem dX10_cost_60 : decode cX10_cost 60 = .ok (.ireturn, 1) := by decide +kernel
theorem dX10_best_0 : decode cX10_best 0 = .ok (.aload_n 0, 1) := by decide +kernel
theorem dX10_best_1 : decode cX10_best 1 = .ok (.iload_n 1, 1) := by decide +kernel
theorem dX10_best_2 : decode cX10_best 2 = .ok (.invokevirtual 74, 3) := by decide +kernel
theorem dX10_best_5 : decode cX10_best 5 = .ok (.astore_n 2, 1) := by decide +kernel
theorem dX10_best_6 : decode cX10_best 6 = .ok (.aload_n 2, 1) := by decide +kernel
theorem dX10_best_7 : decode cX10_best 7 = .ok (.ifnonnull 6, 3) := by decide +kernel
theorem dX10_best_10 : decode cX10_best 10 = .ok (.bipush (-101), 2) := by decide +kernel
theorem dX10_best_12 : decode cX10_best 12 = .ok (.ireturn, 1) := by decide +kernel
theorem dX10_best_13 : decode cX10_best 13 = .ok (.aload_n 2, 1) := by decide +kernel
theorem dX10_best_14 : decode cX10_best 14 = .ok (.getfield 78, 3) := by decide +kernel
theorem dX10_best_17 : decode cX10_best 17 = .ok (.ifCond .eq 9, 3) := by decide +kernel
theorem dX10_best_20 : decode cX10_best 20 = .ok (.aload_n 0, 1) := by decide +kernel
theorem dX10_best_21 : decode cX10_best 21 = .ok (.iconst 1, 1) := by decide +kernel
theorem dX10_best_22 : decode cX10_best 22 = .ok (.invokevirtual 66, 3) := by decide +kernel
theorem dX10_best_25 : decode cX10_best 25 = .ok (.ireturn, 1) := by decide +kernel
theorem dX10_best_26 : decode cX10_best 26 = .ok (.iconst 0, 1) := by decide +kernel
theorem dX10_best_27 : decode cX10_best 27 = .ok (.istore_n 3, 1) := by decide +kernel
theorem dX10_best_28 : decode cX10_best 28 = .ok (.sipush 265, 3) := by decide +kernel
theorem dX10_best_31 : decode cX10_best 31 = .ok (.istore 4, 2) := by decide +kernel
theorem dX10_best_33 : decode cX10_best 33 = .ok (.iconst 0, 1) := by decide +kernel
theorem dX10_best_34 : decode cX10_best 34 = .ok (.istore 5, 2) := by decide +kernel
theorem dX10_best_36 : decode cX10_best 36 = .ok (.iload 5, 2) := by decide +kernel
theorem dX10_best_38 : decode cX10_best 38 = .ok (.iconst 4, 1) := by decide +kernel
theorem dX10_best_39 : decode cX10_best 39 = .ok (.if_icmp .gt 51, 3) := by decide +kernel
theorem dX10_best_42 : decode cX10_best 42 = .ok (.aload_n 0, 1) := by decide +kernel
theorem dX10_best_43 : decode cX10_best 43 = .ok (.getfield 43, 3) := by decide +kernel
theorem dX10_best_46 : decode cX10_best 46 = .ok (.iload 5, 2) := by decide +kernel
theorem dX10_best_48 : decode cX10_best 48 = .ok (.aload_n 2, 1) := by decide +kernel
theorem dX10_best_49 : decode cX10_best 49 = .ok (.getfield 82, 3) := by decide +kernel
theorem dX10_best_52 : decode cX10_best 52 = .ok (.aload_n 2, 1) := by decide +kernel
theorem dX10_best_53 : decode cX10_best 53 = .ok (.getfield 82, 3) := by decide +kernel
theorem dX10_best_56 : decode cX10_best 56 = .ok (.arraylength, 1) := by decide +kernel
theorem dX10_best_57 : decode cX10_best 57 = .ok (.invokevirtual 155, 3) := by decide +kernel
theorem dX10_best_60 : decode cX10_best 60 = .ok (.aload_n 0, 1) := by decide +kernel
theorem dX10_best_61 : decode cX10_best 61 = .ok (.getfield 43, 3) := by decide +kernel
theorem dX10_best_64 : decode cX10_best 64 = .ok (.getfield 162, 3) := by decide +kernel
theorem dX10_best_67 : decode cX10_best 67 = .ok (.iload 4, 2) := by decide +kernel
theorem dX10_best_69 : decode cX10_best 69 = .ok (.if_icmp .ge 15, 3) := by decide +kernel
theorem dX10_best_72 : decode cX10_best 72 = .ok (.aload_n 0, 1) := by decide +kernel
theorem dX10_best_73 : decode cX10_best 73 = .ok (.getfield 43, 3) := by decide +kernel
theorem dX10_best_76 : decode cX10_best 76 = .ok (.getfield 162, 3) := by decide +kernel
theorem dX10_best_79 : decode cX10_best 79 = .ok (.istore 4, 2) := by decide +kernel
theorem dX10_best_81 : decode cX10_best 81 = .ok (.iload 5, 2) := by decide +kernel
theorem dX10_best_83 : decode cX10_best 83 = .ok (.istore_n 3, 1) := by decide +kernel
theorem dX10_best_84 : decode cX10_best 84 = .ok (.iinc 5 1, 3) := by decide +kernel
theorem dX10_best_87 : decode cX10_best 87 = .ok (.goto (-51), 3) := by decide +kernel
theorem dX10_best_90 : decode cX10_best 90 = .ok (.iload_n 3, 1) := by decide +kernel
theorem dX10_best_91 : decode cX10_best 91 = .ok (.ireturn, 1) := by decide +kernel
theorem dX10_add_0 : decode cX10_add 0 = .ok (.aload_n 0, 1) := by decide +kernel
theorem dX10_add_1 : decode cX10_add 1 = .ok (.iload_n 1, 1) := by decide +kernel
theorem dX10_add_2 : decode cX10_add 2 = .ok (.invokevirtual 145, 3) := by decide +kernel
theorem dX10_add_5 : decode cX10_add 5 = .ok (.astore_n 3, 1) := by decide +kernel
theorem dX10_add_6 : decode cX10_add 6 = .ok (.aload_n 3, 1) := by decide +kernel
theorem dX10_add_7 : decode cX10_add 7 = .ok (.ifnonnull 6, 3) := by decide +kernel
theorem dX10_add_10 : decode cX10_add 10 = .ok (.bipush (-101), 2) := by decide +kernel
theorem dX10_add_12 : decode cX10_add 12 = .ok (.ireturn, 1) := by decide +kernel
theorem dX10_add_13 : decode cX10_add 13 = .ok (.aload_n 3, 1) := by decide +kernel
theorem dX10_add_14 : decode cX10_add 14 = .ok (.getfield 152, 3) := by decide +kernel
theorem dX10_add_17 : decode cX10_add 17 = .ok (.ifCond .eq 6, 3) := by decide +kernel
theorem dX10_add_20 : decode cX10_add 20 = .ok (.bipush (-103), 2) := by decide +kernel
theorem dX10_add_22 : decode cX10_add 22 = .ok (.ireturn, 1) := by decide +kernel
theorem dX10_add_23 : decode cX10_add 23 = .ok (.aload_n 3, 1) := by decide +kernel
theorem dX10_add_24 : decode cX10_add 24 = .ok (.getfield 159, 3) := by decide +kernel
theorem dX10_add_27 : decode cX10_add 27 = .ok (.sipush 400, 3) := by decide +kernel
theorem dX10_add_30 : decode cX10_add 30 = .ok (.if_icmp .lt 6, 3) := by decide +kernel
theorem dX10_add_33 : decode cX10_add 33 = .ok (.bipush (-104), 2) := by decide +kernel
theorem dX10_add_35 : decode cX10_add 35 = .ok (.ireturn, 1) := by decide +kernel
theorem dX10_add_36 : decode cX10_add 36 = .ok (.aload_n 3, 1) := by decide +kernel
theorem dX10_add_37 : decode cX10_add 37 = .ok (.iload_n 2, 1) := by decide +kernel
theorem dX10_add_38 : decode cX10_add 38 = .ok (.invokevirtual 167, 3) := by decide +kernel
theorem dX10_add_41 : decode cX10_add 41 = .ok (.aload_n 3, 1) := by decide +kernel
theorem dX10_add_42 : decode cX10_add 42 = .ok (.getfield 159, 3) := by decide +kernel
theorem dX10_add_45 : decode cX10_add 45 = .ok (.ireturn, 1) := by decide +kernel
theorem dX10_end_0 : decode cX10_end 0 = .ok (.aload_n 0, 1) := by decide +kernel
theorem dX10_end_1 : decode cX10_end 1 = .ok (.iload_n 1, 1) := by decide +kernel
theorem dX10_end_2 : decode cX10_end 2 = .ok (.invokevirtual 145, 3) := by decide +kernel
theorem dX10_end_5 : decode cX10_end 5 = .ok (.astore_n 2, 1) := by decide +kernel
theorem dX10_end_6 : decode cX10_end 6 = .ok (.aload_n 2, 1) := by decide +kernel
theorem dX10_end_7 : decode cX10_end 7 = .ok (.ifnonnull 6, 3) := by decide +kernel
theorem dX10_end_10 : decode cX10_end 10 = .ok (.bipush (-101), 2) := by decide +kernel
theorem dX10_end_12 : decode cX10_end 12 = .ok (.ireturn, 1) := by decide +kernel
theorem dX10_end_13 : decode cX10_end 13 = .ok (.aload_n 2, 1) := by decide +kernel
theorem dX10_end_14 : decode cX10_end 14 = .ok (.getfield 152, 3) := by decide +kernel
theorem dX10_end_17 : decode cX10_end 17 = .ok (.ifCond .eq 6, 3) := by decide +kernel
theorem dX10_end_20 : decode cX10_end 20 = .ok (.bipush (-103), 2) := by decide +kernel
theorem dX10_end_22 : decode cX10_end 22 = .ok (.ireturn, 1) := by decide +kernel
theorem dX10_end_23 : decode cX10_end 23 = .ok (.aload_n 2, 1) := by decide +kernel
theorem dX10_end_24 : decode cX10_end 24 = .ok (.iconst 1, 1) := by decide +kernel
theorem dX10_end_25 : decode cX10_end 25 = .ok (.putfield 152, 3) := by decide +kernel
theorem dX10_end_28 : decode cX10_end 28 = .ok (.aload_n 2, 1) := by decide +kernel
theorem dX10_end_29 : decode cX10_end 29 = .ok (.getfield 159, 3) := by decide +kernel
theorem dX10_end_32 : decode cX10_end 32 = .ok (.ireturn, 1) := by decide +kernel
theorem dX10_about_0 : decode cX10_about 0 = .ok (.aload_n 0, 1) := by decide +kernel
theorem dX10_about_1 : decode cX10_about 1 = .ok (.iload_n 1, 1) := by decide +kernel
theorem dX10_about_2 : decode cX10_about 2 = .ok (.invokevirtual 145, 3) := by decide +kernel
theorem dX10_about_5 : decode cX10_about 5 = .ok (.astore_n 3, 1) := by decide +kernel
theorem dX10_about_6 : decode cX10_about 6 = .ok (.aload_n 3, 1) := by decide +kernel
theorem dX10_about_7 : decode cX10_about 7 = .ok (.ifnonnull 6, 3) := by decide +kernel
theorem dX10_about_10 : decode cX10_about 10 = .ok (.bipush (-101), 2) := by decide +kernel
theorem dX10_about_12 : decode cX10_about 12 = .ok (.ireturn, 1) := by decide +kernel
theorem dX10_about_13 : decode cX10_about 13 = .ok (.iload_n 2, 1) := by decide +kernel
theorem dX10_about_14 : decode cX10_about 14 = .ok (.tableswitch 63 0 3 #[30, 35, 40, 53], 30) := by decide +kernel
theorem dX10_about_44 : decode cX10_about 44 = .ok (.aload_n 3, 1) := by decide +kernel
theorem dX10_about_45 : decode cX10_about 45 = .ok (.getfield 159, 3) := by decide +kernel
theorem dX10_about_48 : decode cX10_about 48 = .ok (.ireturn, 1) := by decide +kernel
theorem dX10_about_49 : decode cX10_about 49 = .ok (.aload_n 3, 1) := by decide +kernel
theorem dX10_about_50 : decode cX10_about 50 = .ok (.getfield 171, 3) := by decide +kernel
theorem dX10_about_53 : decode cX10_about 53 = .ok (.ireturn, 1) := by decide +kernel
theorem dX10_about_54 : decode cX10_about 54 = .ok (.aload_n 3, 1) := by decide +kernel
theorem dX10_about_55 : decode cX10_about 55 = .ok (.getfield 152, 3) := by decide +kernel
theorem dX10_about_58 : decode cX10_about 58 = .ok (.ifCond .eq 7, 3) := by decide +kernel
theorem dX10_about_61 : decode cX10_about 61 = .ok (.iconst 1, 1) := by decide +kernel
theorem dX10_about_62 : decode cX10_about 62 = .ok (.goto 4, 3) := by decide +kernel
theorem dX10_about_65 : decode cX10_about 65 = .ok (.iconst 0, 1) := by decide +kernel
theorem dX10_about_66 : decode cX10_about 66 = .ok (.ireturn, 1) := by decide +kernel
theorem dX10_about_67 : decode cX10_about 67 = .ok (.aload_n 3, 1) := by decide +kernel
theorem dX10_about_68 : decode cX10_about 68 = .ok (.iconst 0, 1) := by decide +kernel
theorem dX10_about_69 : decode cX10_about 69 = .ok (.aload_n 3, 1) := by decide +kernel
theorem dX10_about_70 : decode cX10_about 70 = .ok (.getfield 159, 3) := by decide +kernel
theorem dX10_about_73 : decode cX10_about 73 = .ok (.invokevirtual 174, 3) := by decide +kernel
theorem dX10_about_76 : decode cX10_about 76 = .ok (.ireturn, 1) := by decide +kernel
theorem dX10_about_77 : decode cX10_about 77 = .ok (.bipush (-102), 2) := by decide +kernel
theorem dX10_about_79 : decode cX10_about 79 = .ok (.ireturn, 1) := by decide +kernel
theorem dX10_at_0 : decode cX10_at 0 = .ok (.aload_n 0, 1) := by decide +kernel
theorem dX10_at_1 : decode cX10_at 1 = .ok (.iload_n 1, 1) := by decide +kernel
theorem dX10_at_2 : decode cX10_at 2 = .ok (.invokevirtual 145, 3) := by decide +kernel
theorem dX10_at_5 : decode cX10_at 5 = .ok (.astore_n 3, 1) := by decide +kernel
theorem dX10_at_6 : decode cX10_at 6 = .ok (.aload_n 3, 1) := by decide +kernel
theorem dX10_at_7 : decode cX10_at 7 = .ok (.ifnonnull 6, 3) := by decide +kernel
theorem dX10_at_10 : decode cX10_at 10 = .ok (.bipush (-101), 2) := by decide +kernel
theorem dX10_at_12 : decode cX10_at 12 = .ok (.ireturn, 1) := by decide +kernel
theorem dX10_at_13 : decode cX10_at 13 = .ok (.aload_n 3, 1) := by decide +kernel
theorem dX10_at_14 : decode cX10_at 14 = .ok (.iload_n 2, 1) := by decide +kernel
theorem dX10_at_15 : decode cX10_at 15 = .ok (.invokevirtual 177, 3) := by decide +kernel
theorem dX10_at_18 : decode cX10_at 18 = .ok (.ifCond .ne 9, 3) := by decide +kernel
theorem dX10_at_21 : decode cX10_at 21 = .ok (.aload_n 0, 1) := by decide +kernel
theorem dX10_at_22 : decode cX10_at 22 = .ok (.iconst 2, 1) := by decide +kernel
theorem dX10_at_23 : decode cX10_at 23 = .ok (.invokevirtual 66, 3) := by decide +kernel
theorem dX10_at_26 : decode cX10_at 26 = .ok (.ireturn, 1) := by decide +kernel
theorem dX10_at_27 : decode cX10_at 27 = .ok (.aload_n 3, 1) := by decide +kernel
theorem dX10_at_28 : decode cX10_at 28 = .ok (.iload_n 2, 1) := by decide +kernel
theorem dX10_at_29 : decode cX10_at 29 = .ok (.invokevirtual 178, 3) := by decide +kernel
theorem dX10_at_32 : decode cX10_at 32 = .ok (.ireturn, 1) := by decide +kernel
theorem dX10_harm_0 : decode cX10_harm 0 = .ok (.aload_n 0, 1) := by decide +kernel
theorem dX10_harm_1 : decode cX10_harm 1 = .ok (.iload_n 1, 1) := by decide +kernel
theorem dX10_harm_2 : decode cX10_harm 2 = .ok (.invokevirtual 145, 3) := by decide +kernel
theorem dX10_harm_5 : decode cX10_harm 5 = .ok (.astore 4, 2) := by decide +kernel
theorem dX10_harm_7 : decode cX10_harm 7 = .ok (.aload 4, 2) := by decide +kernel
theorem dX10_harm_9 : decode cX10_harm 9 = .ok (.ifnonnull 6, 3) := by decide +kernel
theorem dX10_harm_12 : decode cX10_harm 12 = .ok (.bipush (-101), 2) := by decide +kernel
theorem dX10_harm_14 : decode cX10_harm 14 = .ok (.ireturn, 1) := by decide +kernel
theorem dX10_harm_15 : decode cX10_harm 15 = .ok (.aload 4, 2) := by decide +kernel
theorem dX10_harm_17 : decode cX10_harm 17 = .ok (.iload_n 2, 1) := by decide +kernel
theorem dX10_harm_18 : decode cX10_harm 18 = .ok (.invokevirtual 177, 3) := by decide +kernel
theorem dX10_harm_21 : decode cX10_harm 21 = .ok (.ifCond .ne 9, 3) := by decide +kernel
theorem dX10_harm_24 : decode cX10_harm 24 = .ok (.aload_n 0, 1) := by decide +kernel
theorem dX10_harm_25 : decode cX10_harm 25 = .ok (.iconst 2, 1) := by decide +kernel
theorem dX10_harm_26 : decode cX10_harm 26 = .ok (.invokevirtual 66, 3) := by decide +kernel
theorem dX10_harm_29 : decode cX10_harm 29 = .ok (.ireturn, 1) := by decide +kernel
theorem dX10_harm_30 : decode cX10_harm 30 = .ok (.aload 4, 2) := by decide +kernel
theorem dX10_harm_32 : decode cX10_harm 32 = .ok (.getfield 181, 3) := by decide +kernel
theorem dX10_harm_35 : decode cX10_harm 35 = .ok (.iload_n 2, 1) := by decide +kernel
theorem dX10_harm_36 : decode cX10_harm 36 = .ok (.aload 4, 2) := by decide +kernel
theorem dX10_harm_38 : decode cX10_harm 38 = .ok (.getfield 181, 3) := by decide +kernel
theorem dX10_harm_41 : decode cX10_harm 41 = .ok (.iload_n 2, 1) := by decide +kernel
theorem dX10_harm_42 : decode cX10_harm 42 = .ok (.baload, 1) := by decide +kernel
theorem dX10_harm_43 : decode cX10_harm 43 = .ok (.iload_n 3, 1) := by decide +kernel
theorem dX10_harm_44 : decode cX10_harm 44 = .ok (.ixor, 1) := by decide +kernel
theorem dX10_harm_45 : decode cX10_harm 45 = .ok (.i2b, 1) := by decide +kernel
theorem dX10_harm_46 : decode cX10_harm 46 = .ok (.bastore, 1) := by decide +kernel
theorem dX10_harm_47 : decode cX10_harm 47 = .ok (.aload 4, 2) := by decide +kernel
theorem dX10_harm_49 : decode cX10_harm 49 = .ok (.iload_n 2, 1) := by decide +kernel
theorem dX10_harm_50 : decode cX10_harm 50 = .ok (.invokevirtual 178, 3) := by decide +kernel
theorem dX10_harm_53 : decode cX10_harm 53 = .ok (.ireturn, 1) := by decide +kernel
theorem dX10_seek_0 : decode cX10_seek 0 = .ok (.aload_n 0, 1) := by decide +kernel
theorem dX10_seek_1 : decode cX10_seek 1 = .ok (.iload_n 1, 1) := by decide +kernel
theorem dX10_seek_2 : decode cX10_seek 2 = .ok (.invokevirtual 145, 3) := by decide +kernel
theorem dX10_seek_5 : decode cX10_seek 5 = .ok (.astore_n 3, 1) := by decide +kernel
theorem dX10_seek_6 : decode cX10_seek 6 = .ok (.aload_n 3, 1) := by decide +kernel
theorem dX10_seek_7 : decode cX10_seek 7 = .ok (.ifnonnull 6, 3) := by decide +kernel
theorem dX10_seek_10 : decode cX10_seek 10 = .ok (.bipush (-101), 2) := by decide +kernel
theorem dX10_seek_12 : decode cX10_seek 12 = .ok (.ireturn, 1) := by decide +kernel
theorem dX10_seek_13 : decode cX10_seek 13 = .ok (.iload_n 2, 1) := by decide +kernel
theorem dX10_seek_14 : decode cX10_seek 14 = .ok (.ifCond .lt 11, 3) := by decide +kernel
theorem dX10_seek_17 : decode cX10_seek 17 = .ok (.iload_n 2, 1) := by decide +kernel
theorem dX10_seek_18 : decode cX10_seek 18 = .ok (.aload_n 3, 1) := by decide +kernel
theorem dX10_seek_19 : decode cX10_seek 19 = .ok (.getfield 159, 3) := by decide +kernel
theorem dX10_seek_22 : decode cX10_seek 22 = .ok (.if_icmp .le 9, 3) := by decide +kernel
theorem dX10_seek_25 : decode cX10_seek 25 = .ok (.aload_n 0, 1) := by decide +kernel
theorem dX10_seek_26 : decode cX10_seek 26 = .ok (.iconst 2, 1) := by decide +kernel
theorem dX10_seek_27 : decode cX10_seek 27 = .ok (.invokevirtual 66, 3) := by decide +kernel
theorem dX10_seek_30 : decode cX10_seek 30 = .ok (.ireturn, 1) := by decide +kernel
theorem dX10_seek_31 : decode cX10_seek 31 = .ok (.aload_n 3, 1) := by decide +kernel
theorem dX10_seek_32 : decode cX10_seek 32 = .ok (.getfield 171, 3) := by decide +kernel
theorem dX10_seek_35 : decode cX10_seek 35 = .ok (.istore 4, 2) := by decide +kernel
theorem dX10_seek_37 : decode cX10_seek 37 = .ok (.aload_n 3, 1) := by decide +kernel
theorem dX10_seek_38 : decode cX10_seek 38 = .ok (.iload_n 2, 1) := by decide +kernel
theorem dX10_seek_39 : decode cX10_seek 39 = .ok (.putfield 171, 3) := by decide +kernel
theorem dX10_seek_42 : decode cX10_seek 42 = .ok (.iload 4, 2) := by decide +kernel
theorem dX10_seek_44 : decode cX10_seek 44 = .ok (.ireturn, 1) := by decide +kernel
theorem dX10_read_0 : decode cX10_read 0 = .ok (.aload_n 0, 1) := by decide +kernel
theorem dX10_read_1 : decode cX10_read 1 = .ok (.iload_n 1, 1) := by decide +kernel
theorem dX10_read_2 : decode cX10_read 2 = .ok (.invokevirtual 145, 3) := by decide +kernel
theorem dX10_read_5 : decode cX10_read 5 = .ok (.astore_n 2, 1) := by decide +kernel
theorem dX10_read_6 : decode cX10_read 6 = .ok (.aload_n 2, 1) := by decide +kernel
theorem dX10_read_7 : decode cX10_read 7 = .ok (.ifnonnull 6, 3) := by decide +kernel
theorem dX10_read_10 : decode cX10_read 10 = .ok (.bipush (-101), 2) := by decide +kernel
theorem dX10_read_12 : decode cX10_read 12 = .ok (.ireturn, 1) := by decide +kernel
theorem dX10_read_13 : decode cX10_read 13 = .ok (.aload_n 0, 1) := by decide +kernel
theorem dX10_read_14 : decode cX10_read 14 = .ok (.getfield 50, 3) := by decide +kernel
theorem dX10_read_17 : decode cX10_read 17 = .ok (.aload_n 0, 1) := by decide +kernel
theorem dX10_read_18 : decode cX10_read 18 = .ok (.getfield 43, 3) := by decide +kernel
theorem dX10_read_21 : decode cX10_read 21 = .ok (.aload_n 2, 1) := by decide +kernel
theorem dX10_read_22 : decode cX10_read 22 = .ok (.aload_n 2, 1) := by decide +kernel
theorem dX10_read_23 : decode cX10_read 23 = .ok (.getfield 171, 3) := by decide +kernel
theorem dX10_read_26 : decode cX10_read 26 = .ok (.invokevirtual 185, 3) := by decide +kernel
theorem dX10_read_29 : decode cX10_read 29 = .ok (.istore_n 3, 1) := by decide +kernel
theorem dX10_read_30 : decode cX10_read 30 = .ok (.iload_n 3, 1) := by decide +kernel
theorem dX10_read_31 : decode cX10_read 31 = .ok (.ifCond .eq 9, 3) := by decide +kernel
theorem dX10_read_34 : decode cX10_read 34 = .ok (.aload_n 0, 1) := by decide +kernel
theorem dX10_read_35 : decode cX10_read 35 = .ok (.iload_n 3, 1) := by decide +kernel
theorem dX10_read_36 : decode cX10_read 36 = .ok (.invokevirtual 66, 3) := by decide +kernel
theorem dX10_read_39 : decode cX10_read 39 = .ok (.ireturn, 1) := by decide +kernel
theorem dX10_read_40 : decode cX10_read 40 = .ok (.aload_n 0, 1) := by decide +kernel
theorem dX10_read_41 : decode cX10_read 41 = .ok (.getfield 62, 3) := by decide +kernel
theorem dX10_read_44 : decode cX10_read 44 = .ok (.bipush 60, 2) := by decide +kernel
theorem dX10_read_46 : decode cX10_read 46 = .ok (.if_icmp .lt 6, 3) := by decide +kernel
theorem dX10_read_49 : decode cX10_read 49 = .ok (.bipush (-104), 2) := by decide +kernel
theorem dX10_read_51 : decode cX10_read 51 = .ok (.ireturn, 1) := by decide +kernel
theorem dX10_read_52 : decode cX10_read 52 = .ok (.aload_n 0, 1) := by decide +kernel
theorem dX10_read_53 : decode cX10_read 53 = .ok (.aload_n 0, 1) := by decide +kernel
theorem dX10_read_54 : decode cX10_read 54 = .ok (.getfield 50, 3) := by decide +kernel
theorem dX10_read_57 : decode cX10_read 57 = .ok (.getfield 189, 3) := by decide +kernel
theorem dX10_read_60 : decode cX10_read 60 = .ok (.aload_n 0, 1) := by decide +kernel
theorem dX10_read_61 : decode cX10_read 61 = .ok (.getfield 50, 3) := by decide +kernel
theorem dX10_read_64 : decode cX10_read 64 = .ok (.getfield 190, 3) := by decide +kernel
theorem dX10_read_67 : decode cX10_read 67 = .ok (.invokevirtual 70, 3) := by decide +kernel
theorem dX10_read_70 : decode cX10_read 70 = .ok (.istore 4, 2) := by decide +kernel
theorem dX10_read_72 : decode cX10_read 72 = .ok (.aload_n 0, 1) := by decide +kernel
theorem dX10_read_73 : decode cX10_read 73 = .ok (.getfield 43, 3) := by decide +kernel
theorem dX10_read_76 : decode cX10_read 76 = .ok (.getfield 193, 3) := by decide +kernel
theorem dX10_read_79 : decode cX10_read 79 = .ok (.iconst 0, 1) := by decide +kernel
theorem dX10_read_80 : decode cX10_read 80 = .ok (.aload_n 0, 1) := by decide +kernel
theorem dX10_read_81 : decode cX10_read 81 = .ok (.getfield 11, 3) := by decide +kernel
theorem dX10_read_84 : decode cX10_read 84 = .ok (.iload 4, 2) := by decide +kernel
theorem dX10_read_86 : decode cX10_read 86 = .ok (.aaload, 1) := by decide +kernel
theorem dX10_read_87 : decode cX10_read 87 = .ok (.getfield 82, 3) := by decide +kernel
theorem dX10_read_90 : decode cX10_read 90 = .ok (.iconst 0, 1) := by decide +kernel
theorem dX10_read_91 : decode cX10_read 91 = .ok (.aload_n 0, 1) := by decide +kernel
theorem dX10_read_92 : decode cX10_read 92 = .ok (.getfield 50, 3) := by decide +kernel
theorem dX10_read_95 : decode cX10_read 95 = .ok (.getfield 190, 3) := by decide +kernel
theorem dX10_read_98 : decode cX10_read 98 = .ok (.invokestatic 106, 3) := by decide +kernel
theorem dX10_read_101 : decode cX10_read 101 = .ok (.aload_n 2, 1) := by decide +kernel
theorem dX10_read_102 : decode cX10_read 102 = .ok (.aload_n 0, 1) := by decide +kernel
theorem dX10_read_103 : decode cX10_read 103 = .ok (.getfield 50, 3) := by decide +kernel
theorem dX10_read_106 : decode cX10_read 106 = .ok (.getfield 196, 3) := by decide +kernel
theorem dX10_read_109 : decode cX10_read 109 = .ok (.putfield 171, 3) := by decide +kernel
theorem dX10_read_112 : decode cX10_read 112 = .ok (.iload 4, 2) := by decide +kernel
theorem dX10_read_114 : decode cX10_read 114 = .ok (.ireturn, 1) := by decide +kernel
theorem dX10_pieces_0 : decode cX10_pieces 0 = .ok (.aload_n 0, 1) := by decide +kernel
theorem dX10_pieces_1 : decode cX10_pieces 1 = .ok (.iload_n 1, 1) := by decide +kernel
theorem dX10_pieces_2 : decode cX10_pieces 2 = .ok (.invokevirtual 145, 3) := by decide +kernel
theorem dX10_pieces_5 : decode cX10_pieces 5 = .ok (.astore_n 2, 1) := by decide +kernel
theorem dX10_pieces_6 : decode cX10_pieces 6 = .ok (.aload_n 2, 1) := by decide +kernel
theorem dX10_pieces_7 : decode cX10_pieces 7 = .ok (.ifnonnull 6, 3) := by decide +kernel
theorem dX10_pieces_10 : decode cX10_pieces 10 = .ok (.bipush (-101), 2) := by decide +kernel
theorem dX10_pieces_12 : decode cX10_pieces 12 = .ok (.ireturn, 1) := by decide +kernel
theorem dX10_pieces_13 : decode cX10_pieces 13 = .ok (.iconst 0, 1) := by decide +kernel
theorem dX10_pieces_14 : decode cX10_pieces 14 = .ok (.istore_n 3, 1) := by decide +kernel
theorem dX10_pieces_15 : decode cX10_pieces 15 = .ok (.iconst 0, 1) := by decide +kernel
theorem dX10_pieces_16 : decode cX10_pieces 16 = .ok (.istore 4, 2) := by decide +kernel
theorem dX10_pieces_18 : decode cX10_pieces 18 = .ok (.iload_n 3, 1) := by decide +kernel
theorem dX10_pieces_19 : decode cX10_pieces 19 = .ok (.sipush 400, 3) := by decide +kernel
theorem dX10_pieces_22 : decode cX10_pieces 22 = .ok (.if_icmp .ge 35, 3) := by decide +kernel
theorem dX10_pieces_25 : decode cX10_pieces 25 = .ok (.aload_n 0, 1) := by decide +kernel
theorem dX10_pieces_26 : decode cX10_pieces 26 = .ok (.getfield 50, 3) := by decide +kernel
theorem dX10_pieces_29 : decode cX10_pieces 29 = .ok (.aload_n 0, 1) := by decide +kernel
theorem dX10_pieces_30 : decode cX10_pieces 30 = .ok (.getfield 43, 3) := by decide +kernel
theorem dX10_pieces_33 : decode cX10_pieces 33 = .ok (.aload_n 2, 1) := by decide +kernel
theorem dX10_pieces_34 : decode cX10_pieces 34 = .ok (.iload 4, 2) := by decide +kernel
theorem dX10_pieces_36 : decode cX10_pieces 36 = .ok (.invokevirtual 185, 3) := by decide +kernel
theorem dX10_pieces_39 : decode cX10_pieces 39 = .ok (.ifCond .ne 18, 3) := by decide +kernel
