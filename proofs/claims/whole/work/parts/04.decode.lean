theorem dX10_pieces_42 : decode cX10_pieces 42 = .ok (.iinc 3 1, 3) := by decide +kernel
theorem dX10_pieces_45 : decode cX10_pieces 45 = .ok (.aload_n 0, 1) := by decide +kernel
theorem dX10_pieces_46 : decode cX10_pieces 46 = .ok (.getfield 50, 3) := by decide +kernel
theorem dX10_pieces_49 : decode cX10_pieces 49 = .ok (.getfield 196, 3) := by decide +kernel
theorem dX10_pieces_52 : decode cX10_pieces 52 = .ok (.istore 4, 2) := by decide +kernel
theorem dX10_pieces_54 : decode cX10_pieces 54 = .ok (.goto (-36), 3) := by decide +kernel
theorem dX10_pieces_57 : decode cX10_pieces 57 = .ok (.iload_n 3, 1) := by decide +kernel
theorem dX10_pieces_58 : decode cX10_pieces 58 = .ok (.ireturn, 1) := by decide +kernel
theorem dX10_house_0 : decode cX10_house 0 = .ok (.aload_n 0, 1) := by decide +kernel
theorem dX10_house_1 : decode cX10_house 1 = .ok (.getfield 199, 3) := by decide +kernel
theorem dX10_house_4 : decode cX10_house 4 = .ok (.bipush 6, 2) := by decide +kernel
theorem dX10_house_6 : decode cX10_house 6 = .ok (.if_icmp .lt 6, 3) := by decide +kernel
theorem dX10_house_9 : decode cX10_house 9 = .ok (.bipush (-104), 2) := by decide +kernel
theorem dX10_house_11 : decode cX10_house 11 = .ok (.ireturn, 1) := by decide +kernel
theorem dX10_house_12 : decode cX10_house 12 = .ok (.aload_n 0, 1) := by decide +kernel
theorem dX10_house_13 : decode cX10_house 13 = .ok (.getfield 23, 3) := by decide +kernel
theorem dX10_house_16 : decode cX10_house 16 = .ok (.aload_n 0, 1) := by decide +kernel
theorem dX10_house_17 : decode cX10_house 17 = .ok (.getfield 199, 3) := by decide +kernel
theorem dX10_house_20 : decode cX10_house 20 = .ok (.new 21, 3) := by decide +kernel
theorem dX10_house_23 : decode cX10_house 23 = .ok (.dup, 1) := by decide +kernel
theorem dX10_house_24 : decode cX10_house 24 = .ok (.invokespecial 202, 3) := by decide +kernel
theorem dX10_house_27 : decode cX10_house 27 = .ok (.aastore, 1) := by decide +kernel
theorem dX10_house_28 : decode cX10_house 28 = .ok (.aload_n 0, 1) := by decide +kernel
theorem dX10_house_29 : decode cX10_house 29 = .ok (.dup, 1) := by decide +kernel
theorem dX10_house_30 : decode cX10_house 30 = .ok (.getfield 199, 3) := by decide +kernel
theorem dX10_house_33 : decode cX10_house 33 = .ok (.iconst 1, 1) := by decide +kernel
theorem dX10_house_34 : decode cX10_house 34 = .ok (.iadd, 1) := by decide +kernel
theorem dX10_house_35 : decode cX10_house 35 = .ok (.putfield 199, 3) := by decide +kernel
theorem dX10_house_38 : decode cX10_house 38 = .ok (.aload_n 0, 1) := by decide +kernel
theorem dX10_house_39 : decode cX10_house 39 = .ok (.getfield 199, 3) := by decide +kernel
theorem dX10_house_42 : decode cX10_house 42 = .ok (.iconst 1, 1) := by decide +kernel
theorem dX10_house_43 : decode cX10_house 43 = .ok (.isub, 1) := by decide +kernel
theorem dX10_house_44 : decode cX10_house 44 = .ok (.ireturn, 1) := by decide +kernel
theorem dX10_keep_0 : decode cX10_keep 0 = .ok (.aload_n 0, 1) := by decide +kernel
theorem dX10_keep_1 : decode cX10_keep 1 = .ok (.iload_n 1, 1) := by decide +kernel
theorem dX10_keep_2 : decode cX10_keep 2 = .ok (.invokevirtual 203, 3) := by decide +kernel
theorem dX10_keep_5 : decode cX10_keep 5 = .ok (.astore 5, 2) := by decide +kernel
theorem dX10_keep_7 : decode cX10_keep 7 = .ok (.aload_n 0, 1) := by decide +kernel
theorem dX10_keep_8 : decode cX10_keep 8 = .ok (.iload 4, 2) := by decide +kernel
theorem dX10_keep_10 : decode cX10_keep 10 = .ok (.invokevirtual 145, 3) := by decide +kernel
theorem dX10_keep_13 : decode cX10_keep 13 = .ok (.astore 6, 2) := by decide +kernel
theorem dX10_keep_15 : decode cX10_keep 15 = .ok (.aload 5, 2) := by decide +kernel
theorem dX10_keep_17 : decode cX10_keep 17 = .ok (.ifnull 8, 3) := by decide +kernel
theorem dX10_keep_20 : decode cX10_keep 20 = .ok (.aload 6, 2) := by decide +kernel
theorem dX10_keep_22 : decode cX10_keep 22 = .ok (.ifnonnull 6, 3) := by decide +kernel
theorem dX10_keep_25 : decode cX10_keep 25 = .ok (.bipush (-101), 2) := by decide +kernel
theorem dX10_keep_27 : decode cX10_keep 27 = .ok (.ireturn, 1) := by decide +kernel
theorem dX10_keep_28 : decode cX10_keep 28 = .ok (.lload_n 2, 1) := by decide +kernel
theorem dX10_keep_29 : decode cX10_keep 29 = .ok (.lconst 0, 1) := by decide +kernel
theorem dX10_keep_30 : decode cX10_keep 30 = .ok (.lcmp, 1) := by decide +kernel
theorem dX10_keep_31 : decode cX10_keep 31 = .ok (.ifCond .ge 6, 3) := by decide +kernel
theorem dX10_keep_34 : decode cX10_keep 34 = .ok (.bipush (-102), 2) := by decide +kernel
theorem dX10_keep_36 : decode cX10_keep 36 = .ok (.ireturn, 1) := by decide +kernel
theorem dX10_keep_37 : decode cX10_keep 37 = .ok (.aload 6, 2) := by decide +kernel
theorem dX10_keep_39 : decode cX10_keep 39 = .ok (.getfield 152, 3) := by decide +kernel
theorem dX10_keep_42 : decode cX10_keep 42 = .ok (.ifCond .ne 6, 3) := by decide +kernel
theorem dX10_keep_45 : decode cX10_keep 45 = .ok (.bipush (-103), 2) := by decide +kernel
theorem dX10_keep_47 : decode cX10_keep 47 = .ok (.ireturn, 1) := by decide +kernel
theorem dX10_keep_48 : decode cX10_keep 48 = .ok (.aload 5, 2) := by decide +kernel
theorem dX10_keep_50 : decode cX10_keep 50 = .ok (.lload_n 2, 1) := by decide +kernel
theorem dX10_keep_51 : decode cX10_keep 51 = .ok (.invokevirtual 207, 3) := by decide +kernel
theorem dX10_keep_54 : decode cX10_keep 54 = .ok (.istore 7, 2) := by decide +kernel
theorem dX10_keep_56 : decode cX10_keep 56 = .ok (.iload 7, 2) := by decide +kernel
theorem dX10_keep_58 : decode cX10_keep 58 = .ok (.iconst (-1), 1) := by decide +kernel
theorem dX10_keep_59 : decode cX10_keep 59 = .ok (.if_icmp .ne 16, 3) := by decide +kernel
theorem dX10_keep_62 : decode cX10_keep 62 = .ok (.aload 5, 2) := by decide +kernel
theorem dX10_keep_64 : decode cX10_keep 64 = .ok (.getfield 211, 3) := by decide +kernel
theorem dX10_keep_67 : decode cX10_keep 67 = .ok (.bipush 12, 2) := by decide +kernel
theorem dX10_keep_69 : decode cX10_keep 69 = .ok (.if_icmp .lt 6, 3) := by decide +kernel
theorem dX10_keep_72 : decode cX10_keep 72 = .ok (.bipush (-104), 2) := by decide +kernel
theorem dX10_keep_74 : decode cX10_keep 74 = .ok (.ireturn, 1) := by decide +kernel
theorem dX10_keep_75 : decode cX10_keep 75 = .ok (.aload_n 0, 1) := by decide +kernel
theorem dX10_keep_76 : decode cX10_keep 76 = .ok (.getfield 36, 3) := by decide +kernel
theorem dX10_keep_79 : decode cX10_keep 79 = .ok (.aload 6, 2) := by decide +kernel
theorem dX10_keep_81 : decode cX10_keep 81 = .ok (.invokevirtual 214, 3) := by decide +kernel
theorem dX10_keep_84 : decode cX10_keep 84 = .ok (.astore 8, 2) := by decide +kernel
theorem dX10_keep_86 : decode cX10_keep 86 = .ok (.aload 8, 2) := by decide +kernel
theorem dX10_keep_88 : decode cX10_keep 88 = .ok (.ifnonnull 14, 3) := by decide +kernel
theorem dX10_keep_91 : decode cX10_keep 91 = .ok (.aload_n 0, 1) := by decide +kernel
theorem dX10_keep_92 : decode cX10_keep 92 = .ok (.getfield 36, 3) := by decide +kernel
theorem dX10_keep_95 : decode cX10_keep 95 = .ok (.aload 6, 2) := by decide +kernel
theorem dX10_keep_97 : decode cX10_keep 97 = .ok (.invokevirtual 218, 3) := by decide +kernel
theorem dX10_keep_100 : decode cX10_keep 100 = .ok (.astore 8, 2) := by decide +kernel
theorem dX10_keep_102 : decode cX10_keep 102 = .ok (.aload 8, 2) := by decide +kernel
theorem dX10_keep_104 : decode cX10_keep 104 = .ok (.ifnonnull 6, 3) := by decide +kernel
theorem dX10_keep_107 : decode cX10_keep 107 = .ok (.bipush (-104), 2) := by decide +kernel
theorem dX10_keep_109 : decode cX10_keep 109 = .ok (.ireturn, 1) := by decide +kernel
theorem dX10_keep_110 : decode cX10_keep 110 = .ok (.aload 8, 2) := by decide +kernel
theorem dX10_keep_112 : decode cX10_keep 112 = .ok (.dup, 1) := by decide +kernel
theorem dX10_keep_113 : decode cX10_keep 113 = .ok (.getfield 221, 3) := by decide +kernel
theorem dX10_keep_116 : decode cX10_keep 116 = .ok (.iconst 1, 1) := by decide +kernel
theorem dX10_keep_117 : decode cX10_keep 117 = .ok (.iadd, 1) := by decide +kernel
theorem dX10_keep_118 : decode cX10_keep 118 = .ok (.putfield 221, 3) := by decide +kernel
theorem dX10_keep_121 : decode cX10_keep 121 = .ok (.iload 7, 2) := by decide +kernel
theorem dX10_keep_123 : decode cX10_keep 123 = .ok (.iconst (-1), 1) := by decide +kernel
theorem dX10_keep_124 : decode cX10_keep 124 = .ok (.if_icmp .ne 14, 3) := by decide +kernel
theorem dX10_keep_127 : decode cX10_keep 127 = .ok (.aload 5, 2) := by decide +kernel
theorem dX10_keep_129 : decode cX10_keep 129 = .ok (.lload_n 2, 1) := by decide +kernel
theorem dX10_keep_130 : decode cX10_keep 130 = .ok (.aload 8, 2) := by decide +kernel
theorem dX10_keep_132 : decode cX10_keep 132 = .ok (.invokevirtual 226, 3) := by decide +kernel
theorem dX10_keep_135 : decode cX10_keep 135 = .ok (.goto 28, 3) := by decide +kernel
theorem dX10_keep_138 : decode cX10_keep 138 = .ok (.aload_n 0, 1) := by decide +kernel
theorem dX10_keep_139 : decode cX10_keep 139 = .ok (.getfield 36, 3) := by decide +kernel
theorem dX10_keep_142 : decode cX10_keep 142 = .ok (.aload 5, 2) := by decide +kernel
theorem dX10_keep_144 : decode cX10_keep 144 = .ok (.getfield 230, 3) := by decide +kernel
theorem dX10_keep_147 : decode cX10_keep 147 = .ok (.iload 7, 2) := by decide +kernel
theorem dX10_keep_149 : decode cX10_keep 149 = .ok (.aaload, 1) := by decide +kernel
theorem dX10_keep_150 : decode cX10_keep 150 = .ok (.invokevirtual 234, 3) := by decide +kernel
theorem dX10_keep_153 : decode cX10_keep 153 = .ok (.aload 5, 2) := by decide +kernel
theorem dX10_keep_155 : decode cX10_keep 155 = .ok (.getfield 230, 3) := by decide +kernel
theorem dX10_keep_158 : decode cX10_keep 158 = .ok (.iload 7, 2) := by decide +kernel
theorem dX10_keep_160 : decode cX10_keep 160 = .ok (.aload 8, 2) := by decide +kernel
theorem dX10_keep_162 : decode cX10_keep 162 = .ok (.aastore, 1) := by decide +kernel
theorem dX10_keep_163 : decode cX10_keep 163 = .ok (.aload 8, 2) := by decide +kernel
theorem dX10_keep_165 : decode cX10_keep 165 = .ok (.getfield 238, 3) := by decide +kernel
theorem dX10_keep_168 : decode cX10_keep 168 = .ok (.ireturn, 1) := by decide +kernel
theorem dX10_find_0 : decode cX10_find 0 = .ok (.aload_n 0, 1) := by decide +kernel
theorem dX10_find_1 : decode cX10_find 1 = .ok (.iload_n 1, 1) := by decide +kernel
theorem dX10_find_2 : decode cX10_find 2 = .ok (.invokevirtual 203, 3) := by decide +kernel
theorem dX10_find_5 : decode cX10_find 5 = .ok (.astore 4, 2) := by decide +kernel
theorem dX10_find_7 : decode cX10_find 7 = .ok (.aload 4, 2) := by decide +kernel
theorem dX10_find_9 : decode cX10_find 9 = .ok (.ifnonnull 6, 3) := by decide +kernel
theorem dX10_find_12 : decode cX10_find 12 = .ok (.bipush (-101), 2) := by decide +kernel
theorem dX10_find_14 : decode cX10_find 14 = .ok (.ireturn, 1) := by decide +kernel
theorem dX10_find_15 : decode cX10_find 15 = .ok (.lload_n 2, 1) := by decide +kernel
theorem dX10_find_16 : decode cX10_find 16 = .ok (.lconst 0, 1) := by decide +kernel
theorem dX10_find_17 : decode cX10_find 17 = .ok (.lcmp, 1) := by decide +kernel
theorem dX10_find_18 : decode cX10_find 18 = .ok (.ifCond .ge 6, 3) := by decide +kernel
theorem dX10_find_21 : decode cX10_find 21 = .ok (.bipush (-102), 2) := by decide +kernel
theorem dX10_find_23 : decode cX10_find 23 = .ok (.ireturn, 1) := by decide +kernel
theorem dX10_find_24 : decode cX10_find 24 = .ok (.aload 4, 2) := by decide +kernel
theorem dX10_find_26 : decode cX10_find 26 = .ok (.lload_n 2, 1) := by decide +kernel
theorem dX10_find_27 : decode cX10_find 27 = .ok (.invokevirtual 207, 3) := by decide +kernel
theorem dX10_find_30 : decode cX10_find 30 = .ok (.istore 5, 2) := by decide +kernel
theorem dX10_find_32 : decode cX10_find 32 = .ok (.iload 5, 2) := by decide +kernel
theorem dX10_find_34 : decode cX10_find 34 = .ok (.iconst (-1), 1) := by decide +kernel
theorem dX10_find_35 : decode cX10_find 35 = .ok (.if_icmp .ne 7, 3) := by decide +kernel
theorem dX10_find_38 : decode cX10_find 38 = .ok (.iconst (-1), 1) := by decide +kernel
theorem dX10_find_39 : decode cX10_find 39 = .ok (.goto 14, 3) := by decide +kernel
theorem dX10_find_42 : decode cX10_find 42 = .ok (.aload 4, 2) := by decide +kernel
theorem dX10_find_44 : decode cX10_find 44 = .ok (.getfield 230, 3) := by decide +kernel
theorem dX10_find_47 : decode cX10_find 47 = .ok (.iload 5, 2) := by decide +kernel
theorem dX10_find_49 : decode cX10_find 49 = .ok (.aaload, 1) := by decide +kernel
theorem dX10_find_50 : decode cX10_find 50 = .ok (.getfield 238, 3) := by decide +kernel
theorem dX10_find_53 : decode cX10_find 53 = .ok (.ireturn, 1) := by decide +kernel
theorem dX10_drop_0 : decode cX10_drop 0 = .ok (.aload_n 0, 1) := by decide +kernel
theorem dX10_drop_1 : decode cX10_drop 1 = .ok (.iload_n 1, 1) := by decide +kernel
theorem dX10_drop_2 : decode cX10_drop 2 = .ok (.invokevirtual 203, 3) := by decide +kernel
theorem dX10_drop_5 : decode cX10_drop 5 = .ok (.astore 4, 2) := by decide +kernel
theorem dX10_drop_7 : decode cX10_drop 7 = .ok (.aload 4, 2) := by decide +kernel
theorem dX10_drop_9 : decode cX10_drop 9 = .ok (.ifnonnull 6, 3) := by decide +kernel
theorem dX10_drop_12 : decode cX10_drop 12 = .ok (.bipush (-101), 2) := by decide +kernel
theorem dX10_drop_14 : decode cX10_drop 14 = .ok (.ireturn, 1) := by decide +kernel
theorem dX10_drop_15 : decode cX10_drop 15 = .ok (.lload_n 2, 1) := by decide +kernel
theorem dX10_drop_16 : decode cX10_drop 16 = .ok (.lconst 0, 1) := by decide +kernel
theorem dX10_drop_17 : decode cX10_drop 17 = .ok (.lcmp, 1) := by decide +kernel
theorem dX10_drop_18 : decode cX10_drop 18 = .ok (.ifCond .ge 6, 3) := by decide +kernel
theorem dX10_drop_21 : decode cX10_drop 21 = .ok (.bipush (-102), 2) := by decide +kernel
theorem dX10_drop_23 : decode cX10_drop 23 = .ok (.ireturn, 1) := by decide +kernel
theorem dX10_drop_24 : decode cX10_drop 24 = .ok (.aload 4, 2) := by decide +kernel
theorem dX10_drop_26 : decode cX10_drop 26 = .ok (.lload_n 2, 1) := by decide +kernel
theorem dX10_drop_27 : decode cX10_drop 27 = .ok (.invokevirtual 207, 3) := by decide +kernel
theorem dX10_drop_30 : decode cX10_drop 30 = .ok (.istore 5, 2) := by decide +kernel
theorem dX10_drop_32 : decode cX10_drop 32 = .ok (.iload 5, 2) := by decide +kernel
theorem dX10_drop_34 : decode cX10_drop 34 = .ok (.iconst (-1), 1) := by decide +kernel
theorem dX10_drop_35 : decode cX10_drop 35 = .ok (.if_icmp .ne 5, 3) := by decide +kernel
theorem dX10_drop_38 : decode cX10_drop 38 = .ok (.iconst (-1), 1) := by decide +kernel
theorem dX10_drop_39 : decode cX10_drop 39 = .ok (.ireturn, 1) := by decide +kernel
theorem dX10_drop_40 : decode cX10_drop 40 = .ok (.aload 4, 2) := by decide +kernel
theorem dX10_drop_42 : decode cX10_drop 42 = .ok (.getfield 230, 3) := by decide +kernel
theorem dX10_drop_45 : decode cX10_drop 45 = .ok (.iload 5, 2) := by decide +kernel
theorem dX10_drop_47 : decode cX10_drop 47 = .ok (.aaload, 1) := by decide +kernel
theorem dX10_drop_48 : decode cX10_drop 48 = .ok (.astore 6, 2) := by decide +kernel
theorem dX10_drop_50 : decode cX10_drop 50 = .ok (.aload 4, 2) := by decide +kernel
theorem dX10_drop_52 : decode cX10_drop 52 = .ok (.iload 5, 2) := by decide +kernel
theorem dX10_drop_54 : decode cX10_drop 54 = .ok (.invokevirtual 241, 3) := by decide +kernel
theorem dX10_drop_57 : decode cX10_drop 57 = .ok (.aload_n 0, 1) := by decide +kernel
theorem dX10_drop_58 : decode cX10_drop 58 = .ok (.getfield 36, 3) := by decide +kernel
theorem dX10_drop_61 : decode cX10_drop 61 = .ok (.aload 6, 2) := by decide +kernel
theorem dX10_drop_63 : decode cX10_drop 63 = .ok (.invokevirtual 234, 3) := by decide +kernel
theorem dX10_drop_66 : decode cX10_drop 66 = .ok (.aload 6, 2) := by decide +kernel
theorem dX10_drop_68 : decode cX10_drop 68 = .ok (.getfield 238, 3) := by decide +kernel
theorem dX10_drop_71 : decode cX10_drop 71 = .ok (.ireturn, 1) := by decide +kernel
theorem dX10_list_0 : decode cX10_list 0 = .ok (.aload_n 0, 1) := by decide +kernel
theorem dX10_list_1 : decode cX10_list 1 = .ok (.iload_n 1, 1) := by decide +kernel
theorem dX10_list_2 : decode cX10_list 2 = .ok (.invokevirtual 203, 3) := by decide +kernel
theorem dX10_list_5 : decode cX10_list 5 = .ok (.astore_n 3, 1) := by decide +kernel
theorem dX10_list_6 : decode cX10_list 6 = .ok (.aload_n 3, 1) := by decide +kernel
theorem dX10_list_7 : decode cX10_list 7 = .ok (.ifnonnull 6, 3) := by decide +kernel
theorem dX10_list_10 : decode cX10_list 10 = .ok (.bipush (-101), 2) := by decide +kernel
theorem dX10_list_12 : decode cX10_list 12 = .ok (.ireturn, 1) := by decide +kernel
theorem dX10_list_13 : decode cX10_list 13 = .ok (.iload_n 2, 1) := by decide +kernel
theorem dX10_list_14 : decode cX10_list 14 = .ok (.ifCond .lt 11, 3) := by decide +kernel
theorem dX10_list_17 : decode cX10_list 17 = .ok (.iload_n 2, 1) := by decide +kernel
theorem dX10_list_18 : decode cX10_list 18 = .ok (.aload_n 3, 1) := by decide +kernel
theorem dX10_list_19 : decode cX10_list 19 = .ok (.getfield 211, 3) := by decide +kernel
theorem dX10_list_22 : decode cX10_list 22 = .ok (.if_icmp .lt 9, 3) := by decide +kernel
theorem dX10_list_25 : decode cX10_list 25 = .ok (.aload_n 0, 1) := by decide +kernel
theorem dX10_list_26 : decode cX10_list 26 = .ok (.iconst 2, 1) := by decide +kernel
theorem dX10_list_27 : decode cX10_list 27 = .ok (.invokevirtual 66, 3) := by decide +kernel
theorem dX10_list_30 : decode cX10_list 30 = .ok (.ireturn, 1) := by decide +kernel
theorem dX10_list_31 : decode cX10_list 31 = .ok (.aload_n 0, 1) := by decide +kernel
theorem dX10_list_32 : decode cX10_list 32 = .ok (.aload_n 3, 1) := by decide +kernel
theorem dX10_list_33 : decode cX10_list 33 = .ok (.getfield 244, 3) := by decide +kernel
theorem dX10_list_36 : decode cX10_list 36 = .ok (.iload_n 2, 1) := by decide +kernel
theorem dX10_list_37 : decode cX10_list 37 = .ok (.laload, 1) := by decide +kernel
theorem dX10_list_38 : decode cX10_list 38 = .ok (.putfield 98, 3) := by decide +kernel
theorem dX10_list_41 : decode cX10_list 41 = .ok (.aload_n 3, 1) := by decide +kernel
theorem dX10_list_42 : decode cX10_list 42 = .ok (.getfield 211, 3) := by decide +kernel
theorem dX10_list_45 : decode cX10_list 45 = .ok (.ireturn, 1) := by decide +kernel
theorem dX10_take_0 : decode cX10_take 0 = .ok (.aload_n 0, 1) := by decide +kernel
theorem dX10_take_1 : decode cX10_take 1 = .ok (.iload_n 1, 1) := by decide +kernel
theorem dX10_take_2 : decode cX10_take 2 = .ok (.invokevirtual 203, 3) := by decide +kernel
theorem dX10_take_5 : decode cX10_take 5 = .ok (.astore 4, 2) := by decide +kernel
theorem dX10_take_7 : decode cX10_take 7 = .ok (.aload 4, 2) := by decide +kernel
theorem dX10_take_9 : decode cX10_take 9 = .ok (.ifnonnull 6, 3) := by decide +kernel
theorem dX10_take_12 : decode cX10_take 12 = .ok (.bipush (-101), 2) := by decide +kernel
theorem dX10_take_14 : decode cX10_take 14 = .ok (.ireturn, 1) := by decide +kernel
theorem dX10_take_15 : decode cX10_take 15 = .ok (.lload_n 2, 1) := by decide +kernel
theorem dX10_take_16 : decode cX10_take 16 = .ok (.lconst 0, 1) := by decide +kernel
theorem dX10_take_17 : decode cX10_take 17 = .ok (.lcmp, 1) := by decide +kernel
theorem dX10_take_18 : decode cX10_take 18 = .ok (.ifCond .ge 6, 3) := by decide +kernel
theorem dX10_take_21 : decode cX10_take 21 = .ok (.bipush (-102), 2) := by decide +kernel
theorem dX10_take_23 : decode cX10_take 23 = .ok (.ireturn, 1) := by decide +kernel
theorem dX10_take_24 : decode cX10_take 24 = .ok (.aload 4, 2) := by decide +kernel
theorem dX10_take_26 : decode cX10_take 26 = .ok (.lload_n 2, 1) := by decide +kernel
theorem dX10_take_27 : decode cX10_take 27 = .ok (.invokevirtual 207, 3) := by decide +kernel
theorem dX10_take_30 : decode cX10_take 30 = .ok (.istore 5, 2) := by decide +kernel
theorem dX10_take_32 : decode cX10_take 32 = .ok (.iload 5, 2) := by decide +kernel
theorem dX10_take_34 : decode cX10_take 34 = .ok (.iconst (-1), 1) := by decide +kernel
theorem dX10_take_35 : decode cX10_take 35 = .ok (.if_icmp .ne 6, 3) := by decide +kernel
theorem dX10_take_38 : decode cX10_take 38 = .ok (.bipush (-103), 2) := by decide +kernel
theorem dX10_take_40 : decode cX10_take 40 = .ok (.ireturn, 1) := by decide +kernel
theorem dX10_take_41 : decode cX10_take 41 = .ok (.aload_n 0, 1) := by decide +kernel
theorem dX10_take_42 : decode cX10_take 42 = .ok (.getfield 139, 3) := by decide +kernel
theorem dX10_take_45 : decode cX10_take 45 = .ok (.bipush 24, 2) := by decide +kernel
theorem dX10_take_47 : decode cX10_take 47 = .ok (.if_icmp .lt 6, 3) := by decide +kernel
theorem dX10_take_50 : decode cX10_take 50 = .ok (.bipush (-104), 2) := by decide +kernel
theorem dX10_take_52 : decode cX10_take 52 = .ok (.ireturn, 1) := by decide +kernel
theorem dX10_take_53 : decode cX10_take 53 = .ok (.aload 4, 2) := by decide +kernel
theorem dX10_take_55 : decode cX10_take 55 = .ok (.getfield 230, 3) := by decide +kernel
theorem dX10_take_58 : decode cX10_take 58 = .ok (.iload 5, 2) := by decide +kernel
theorem dX10_take_60 : decode cX10_take 60 = .ok (.aaload, 1) := by decide +kernel
theorem dX10_take_61 : decode cX10_take 61 = .ok (.astore 6, 2) := by decide +kernel
theorem dX10_take_63 : decode cX10_take 63 = .ok (.aload_n 0, 1) := by decide +kernel
theorem dX10_take_64 : decode cX10_take 64 = .ok (.invokevirtual 142, 3) := by decide +kernel
theorem dX10_take_67 : decode cX10_take 67 = .ok (.istore 7, 2) := by decide +kernel
theorem dX10_take_69 : decode cX10_take 69 = .ok (.aload_n 0, 1) := by decide +kernel
theorem dX10_take_70 : decode cX10_take 70 = .ok (.getfield 17, 3) := by decide +kernel
theorem dX10_take_73 : decode cX10_take 73 = .ok (.iload 7, 2) := by decide +kernel
theorem dX10_take_75 : decode cX10_take 75 = .ok (.aaload, 1) := by decide +kernel
theorem dX10_take_76 : decode cX10_take 76 = .ok (.aload 6, 2) := by decide +kernel
theorem dX10_take_78 : decode cX10_take 78 = .ok (.getfield 247, 3) := by decide +kernel
theorem dX10_take_81 : decode cX10_take 81 = .ok (.iconst 0, 1) := by decide +kernel
theorem dX10_take_82 : decode cX10_take 82 = .ok (.aload 6, 2) := by decide +kernel
theorem dX10_take_84 : decode cX10_take 84 = .ok (.getfield 248, 3) := by decide +kernel
theorem dX10_take_87 : decode cX10_take 87 = .ok (.invokevirtual 249, 3) := by decide +kernel
theorem dX10_take_90 : decode cX10_take 90 = .ok (.aload_n 0, 1) := by decide +kernel
theorem dX10_take_91 : decode cX10_take 91 = .ok (.getfield 17, 3) := by decide +kernel
theorem dX10_take_94 : decode cX10_take 94 = .ok (.iload 7, 2) := by decide +kernel
theorem dX10_take_96 : decode cX10_take 96 = .ok (.aaload, 1) := by decide +kernel
theorem dX10_take_97 : decode cX10_take 97 = .ok (.iconst 1, 1) := by decide +kernel
theorem dX10_take_98 : decode cX10_take 98 = .ok (.putfield 152, 3) := by decide +kernel
theorem dX10_take_101 : decode cX10_take 101 = .ok (.iload 7, 2) := by decide +kernel
theorem dX10_take_103 : decode cX10_take 103 = .ok (.ireturn, 1) := by decide +kernel
theorem dX10_uses_0 : decode cX10_uses 0 = .ok (.aload_n 0, 1) := by decide +kernel
theorem dX10_uses_1 : decode cX10_uses 1 = .ok (.getfield 36, 3) := by decide +kernel
theorem dX10_uses_4 : decode cX10_uses 4 = .ok (.iload_n 1, 1) := by decide +kernel
theorem dX10_uses_5 : decode cX10_uses 5 = .ok (.invokevirtual 253, 3) := by decide +kernel
theorem dX10_uses_8 : decode cX10_uses 8 = .ok (.ireturn, 1) := by decide +kernel
theorem dX10_delta_0 : decode cX10_delta 0 = .ok (.aload_n 0, 1) := by decide +kernel
theorem dX10_delta_1 : decode cX10_delta 1 = .ok (.iload_n 1, 1) := by decide +kernel
theorem dX10_delta_2 : decode cX10_delta 2 = .ok (.invokevirtual 145, 3) := by decide +kernel
theorem dX10_delta_5 : decode cX10_delta 5 = .ok (.astore_n 3, 1) := by decide +kernel
theorem dX10_delta_6 : decode cX10_delta 6 = .ok (.aload_n 0, 1) := by decide +kernel
theorem dX10_delta_7 : decode cX10_delta 7 = .ok (.iload_n 2, 1) := by decide +kernel
theorem dX10_delta_8 : decode cX10_delta 8 = .ok (.invokevirtual 145, 3) := by decide +kernel
theorem dX10_delta_11 : decode cX10_delta 11 = .ok (.astore 4, 2) := by decide +kernel
theorem dX10_delta_13 : decode cX10_delta 13 = .ok (.aload_n 3, 1) := by decide +kernel
theorem dX10_delta_14 : decode cX10_delta 14 = .ok (.ifnull 8, 3) := by decide +kernel
theorem dX10_delta_17 : decode cX10_delta 17 = .ok (.aload 4, 2) := by decide +kernel
theorem dX10_delta_19 : decode cX10_delta 19 = .ok (.ifnonnull 6, 3) := by decide +kernel
theorem dX10_delta_22 : decode cX10_delta 22 = .ok (.bipush (-101), 2) := by decide +kernel
theorem dX10_delta_24 : decode cX10_delta 24 = .ok (.ireturn, 1) := by decide +kernel
theorem dX10_delta_25 : decode cX10_delta 25 = .ok (.aload_n 0, 1) := by decide +kernel
theorem dX10_delta_26 : decode cX10_delta 26 = .ok (.getfield 256, 3) := by decide +kernel
theorem dX10_delta_29 : decode cX10_delta 29 = .ok (.bipush 16, 2) := by decide +kernel
theorem dX10_delta_31 : decode cX10_delta 31 = .ok (.if_icmp .lt 6, 3) := by decide +kernel
theorem dX10_delta_34 : decode cX10_delta 34 = .ok (.bipush (-104), 2) := by decide +kernel
theorem dX10_delta_36 : decode cX10_delta 36 = .ok (.ireturn, 1) := by decide +kernel
theorem dX10_delta_37 : decode cX10_delta 37 = .ok (.aload_n 0, 1) := by decide +kernel
theorem dX10_delta_38 : decode cX10_delta 38 = .ok (.getfield 29, 3) := by decide +kernel
theorem dX10_delta_41 : decode cX10_delta 41 = .ok (.aload_n 0, 1) := by decide +kernel
theorem dX10_delta_42 : decode cX10_delta 42 = .ok (.getfield 256, 3) := by decide +kernel
theorem dX10_delta_45 : decode cX10_delta 45 = .ok (.new 27, 3) := by decide +kernel
theorem dX10_delta_48 : decode cX10_delta 48 = .ok (.dup, 1) := by decide +kernel
theorem dX10_delta_49 : decode cX10_delta 49 = .ok (.aload_n 3, 1) := by decide +kernel
theorem dX10_delta_50 : decode cX10_delta 50 = .ok (.aload 4, 2) := by decide +kernel
theorem dX10_delta_52 : decode cX10_delta 52 = .ok (.invokespecial 259, 3) := by decide +kernel
theorem dX10_delta_55 : decode cX10_delta 55 = .ok (.aastore, 1) := by decide +kernel
theorem dX10_delta_56 : decode cX10_delta 56 = .ok (.aload_n 0, 1) := by decide +kernel
theorem dX10_delta_57 : decode cX10_delta 57 = .ok (.getfield 29, 3) := by decide +kernel
theorem dX10_delta_60 : decode cX10_delta 60 = .ok (.aload_n 0, 1) := by decide +kernel
theorem dX10_delta_61 : decode cX10_delta 61 = .ok (.getfield 256, 3) := by decide +kernel
theorem dX10_delta_64 : decode cX10_delta 64 = .ok (.aaload, 1) := by decide +kernel
theorem dX10_delta_65 : decode cX10_delta 65 = .ok (.aload_n 3, 1) := by decide +kernel
theorem dX10_delta_66 : decode cX10_delta 66 = .ok (.aload 4, 2) := by decide +kernel
theorem dX10_delta_68 : decode cX10_delta 68 = .ok (.invokevirtual 262, 3) := by decide +kernel
theorem dX10_delta_71 : decode cX10_delta 71 = .ok (.aload_n 0, 1) := by decide +kernel
theorem dX10_delta_72 : decode cX10_delta 72 = .ok (.dup, 1) := by decide +kernel
theorem dX10_delta_73 : decode cX10_delta 73 = .ok (.getfield 256, 3) := by decide +kernel
theorem dX10_delta_76 : decode cX10_delta 76 = .ok (.iconst 1, 1) := by decide +kernel
theorem dX10_delta_77 : decode cX10_delta 77 = .ok (.iadd, 1) := by decide +kernel
theorem dX10_delta_78 : decode cX10_delta 78 = .ok (.putfield 256, 3) := by decide +kernel
theorem dX10_delta_81 : decode cX10_delta 81 = .ok (.aload_n 0, 1) := by decide +kernel
theorem dX10_delta_82 : decode cX10_delta 82 = .ok (.getfield 256, 3) := by decide +kernel
theorem dX10_delta_85 : decode cX10_delta 85 = .ok (.iconst 1, 1) := by decide +kernel
theorem dX10_delta_86 : decode cX10_delta 86 = .ok (.isub, 1) := by decide +kernel
theorem dX10_delta_87 : decode cX10_delta 87 = .ok (.ireturn, 1) := by decide +kernel
theorem dX10_act_0 : decode cX10_act 0 = .ok (.aload_n 0, 1) := by decide +kernel
theorem dX10_act_1 : decode cX10_act 1 = .ok (.iload_n 1, 1) := by decide +kernel
theorem dX10_act_2 : decode cX10_act 2 = .ok (.invokevirtual 265, 3) := by decide +kernel
theorem dX10_act_5 : decode cX10_act 5 = .ok (.astore 4, 2) := by decide +kernel
theorem dX10_act_7 : decode cX10_act 7 = .ok (.aload 4, 2) := by decide +kernel
theorem dX10_act_9 : decode cX10_act 9 = .ok (.ifnonnull 6, 3) := by decide +kernel
theorem dX10_act_12 : decode cX10_act 12 = .ok (.bipush (-101), 2) := by decide +kernel
theorem dX10_act_14 : decode cX10_act 14 = .ok (.ireturn, 1) := by decide +kernel
theorem dX10_act_15 : decode cX10_act 15 = .ok (.iload_n 3, 1) := by decide +kernel
theorem dX10_act_16 : decode cX10_act 16 = .ok (.ifCond .lt 8, 3) := by decide +kernel
theorem dX10_act_19 : decode cX10_act 19 = .ok (.iload_n 3, 1) := by decide +kernel
theorem dX10_act_20 : decode cX10_act 20 = .ok (.iconst 2, 1) := by decide +kernel
theorem dX10_act_21 : decode cX10_act 21 = .ok (.if_icmp .le 6, 3) := by decide +kernel
theorem dX10_act_24 : decode cX10_act 24 = .ok (.bipush (-102), 2) := by decide +kernel
theorem dX10_act_26 : decode cX10_act 26 = .ok (.ireturn, 1) := by decide +kernel
theorem dX10_act_27 : decode cX10_act 27 = .ok (.iload_n 2, 1) := by decide +kernel
theorem dX10_act_28 : decode cX10_act 28 = .ok (.iconst (-1), 1) := by decide +kernel
theorem dX10_act_29 : decode cX10_act 29 = .ok (.if_icmp .lt 12, 3) := by decide +kernel
theorem dX10_act_32 : decode cX10_act 32 = .ok (.iload_n 2, 1) := by decide +kernel
theorem dX10_act_33 : decode cX10_act 33 = .ok (.aload 4, 2) := by decide +kernel
theorem dX10_act_35 : decode cX10_act 35 = .ok (.getfield 269, 3) := by decide +kernel
theorem dX10_act_38 : decode cX10_act 38 = .ok (.if_icmp .lt 9, 3) := by decide +kernel
theorem dX10_act_41 : decode cX10_act 41 = .ok (.aload_n 0, 1) := by decide +kernel
theorem dX10_act_42 : decode cX10_act 42 = .ok (.iconst 2, 1) := by decide +kernel
theorem dX10_act_43 : decode cX10_act 43 = .ok (.invokevirtual 66, 3) := by decide +kernel
theorem dX10_act_46 : decode cX10_act 46 = .ok (.ireturn, 1) := by decide +kernel
theorem dX10_act_47 : decode cX10_act 47 = .ok (.iload_n 2, 1) := by decide +kernel
theorem dX10_act_48 : decode cX10_act 48 = .ok (.iconst (-1), 1) := by decide +kernel
theorem dX10_act_49 : decode cX10_act 49 = .ok (.if_icmp .ne 12, 3) := by decide +kernel
theorem dX10_act_52 : decode cX10_act 52 = .ok (.aload 4, 2) := by decide +kernel
theorem dX10_act_54 : decode cX10_act 54 = .ok (.iload_n 3, 1) := by decide +kernel
theorem dX10_act_55 : decode cX10_act 55 = .ok (.invokevirtual 272, 3) := by decide +kernel
theorem dX10_act_58 : decode cX10_act 58 = .ok (.goto 10, 3) := by decide +kernel
theorem dX10_act_61 : decode cX10_act 61 = .ok (.aload 4, 2) := by decide +kernel
theorem dX10_act_63 : decode cX10_act 63 = .ok (.iload_n 2, 1) := by decide +kernel
theorem dX10_act_64 : decode cX10_act 64 = .ok (.iload_n 3, 1) := by decide +kernel
theorem dX10_act_65 : decode cX10_act 65 = .ok (.invokevirtual 274, 3) := by decide +kernel
theorem dX10_act_68 : decode cX10_act 68 = .ok (.ireturn, 1) := by decide +kernel
theorem dX10_apply_0 : decode cX10_apply 0 = .ok (.aload_n 0, 1) := by decide +kernel
theorem dX10_apply_1 : decode cX10_apply 1 = .ok (.iload_n 1, 1) := by decide +kernel
theorem dX10_apply_2 : decode cX10_apply 2 = .ok (.invokevirtual 265, 3) := by decide +kernel
theorem dX10_apply_5 : decode cX10_apply 5 = .ok (.astore_n 3, 1) := by decide +kernel
theorem dX10_apply_6 : decode cX10_apply 6 = .ok (.aload_n 0, 1) := by decide +kernel
theorem dX10_apply_7 : decode cX10_apply 7 = .ok (.iload_n 2, 1) := by decide +kernel
theorem dX10_apply_8 : decode cX10_apply 8 = .ok (.invokevirtual 145, 3) := by decide +kernel
theorem dX10_apply_11 : decode cX10_apply 11 = .ok (.astore 4, 2) := by decide +kernel
theorem dX10_apply_13 : decode cX10_apply 13 = .ok (.aload_n 3, 1) := by decide +kernel
theorem dX10_apply_14 : decode cX10_apply 14 = .ok (.ifnull 8, 3) := by decide +kernel
theorem dX10_apply_17 : decode cX10_apply 17 = .ok (.aload 4, 2) := by decide +kernel
theorem dX10_apply_19 : decode cX10_apply 19 = .ok (.ifnonnull 6, 3) := by decide +kernel
theorem dX10_apply_22 : decode cX10_apply 22 = .ok (.bipush (-101), 2) := by decide +kernel
theorem dX10_apply_24 : decode cX10_apply 24 = .ok (.ireturn, 1) := by decide +kernel
theorem dX10_apply_25 : decode cX10_apply 25 = .ok (.aload_n 3, 1) := by decide +kernel
theorem dX10_apply_26 : decode cX10_apply 26 = .ok (.aload 4, 2) := by decide +kernel
theorem dX10_apply_28 : decode cX10_apply 28 = .ok (.invokevirtual 277, 3) := by decide +kernel
theorem dX10_apply_31 : decode cX10_apply 31 = .ok (.ifCond .ne 10, 3) := by decide +kernel
theorem dX10_apply_34 : decode cX10_apply 34 = .ok (.aload_n 0, 1) := by decide +kernel
theorem dX10_apply_35 : decode cX10_apply 35 = .ok (.bipush 9, 2) := by decide +kernel
theorem dX10_apply_37 : decode cX10_apply 37 = .ok (.invokevirtual 66, 3) := by decide +kernel
theorem dX10_apply_40 : decode cX10_apply 40 = .ok (.ireturn, 1) := by decide +kernel
theorem dX10_apply_41 : decode cX10_apply 41 = .ok (.aload_n 0, 1) := by decide +kernel
theorem dX10_apply_42 : decode cX10_apply 42 = .ok (.getfield 139, 3) := by decide +kernel
theorem dX10_apply_45 : decode cX10_apply 45 = .ok (.bipush 24, 2) := by decide +kernel
theorem dX10_apply_47 : decode cX10_apply 47 = .ok (.if_icmp .lt 6, 3) := by decide +kernel
theorem dX10_apply_50 : decode cX10_apply 50 = .ok (.bipush (-104), 2) := by decide +kernel
theorem dX10_apply_52 : decode cX10_apply 52 = .ok (.ireturn, 1) := by decide +kernel
theorem dX10_apply_53 : decode cX10_apply 53 = .ok (.aload_n 0, 1) := by decide +kernel
theorem dX10_apply_54 : decode cX10_apply 54 = .ok (.invokevirtual 142, 3) := by decide +kernel
theorem dX10_apply_57 : decode cX10_apply 57 = .ok (.istore 5, 2) := by decide +kernel
theorem dX10_apply_59 : decode cX10_apply 59 = .ok (.aload_n 3, 1) := by decide +kernel
theorem dX10_apply_60 : decode cX10_apply 60 = .ok (.aload 4, 2) := by decide +kernel
theorem dX10_apply_62 : decode cX10_apply 62 = .ok (.aload_n 0, 1) := by decide +kernel
theorem dX10_apply_63 : decode cX10_apply 63 = .ok (.getfield 17, 3) := by decide +kernel
theorem dX10_apply_66 : decode cX10_apply 66 = .ok (.iload 5, 2) := by decide +kernel
theorem dX10_apply_68 : decode cX10_apply 68 = .ok (.aaload, 1) := by decide +kernel
theorem dX10_apply_69 : decode cX10_apply 69 = .ok (.invokevirtual 281, 3) := by decide +kernel
theorem dX10_apply_72 : decode cX10_apply 72 = .ok (.iload 5, 2) := by decide +kernel
theorem dX10_apply_74 : decode cX10_apply 74 = .ok (.ireturn, 1) := by decide +kernel
theorem dX10_finding_0 : decode cX10_finding 0 = .ok (.aload_n 0, 1) := by decide +kernel
theorem dX10_finding_1 : decode cX10_finding 1 = .ok (.getfield 284, 3) := by decide +kernel
theorem dX10_finding_4 : decode cX10_finding 4 = .ok (.ireturn, 1) := by decide +kernel
theorem dX10_findings_0 : decode cX10_findings 0 = .ok (.iload_n 1, 1) := by decide +kernel
theorem dX10_findings_1 : decode cX10_findings 1 = .ok (.iconst 1, 1) := by decide +kernel
theorem dX10_findings_2 : decode cX10_findings 2 = .ok (.if_icmp .lt 9, 3) := by decide +kernel
theorem dX10_findings_5 : decode cX10_findings 5 = .ok (.iload_n 1, 1) := by decide +kernel
theorem dX10_findings_6 : decode cX10_findings 6 = .ok (.bipush 9, 2) := by decide +kernel
theorem dX10_findings_8 : decode cX10_findings 8 = .ok (.if_icmp .le 6, 3) := by decide +kernel
theorem dX10_findings_11 : decode cX10_findings 11 = .ok (.bipush (-102), 2) := by decide +kernel
theorem dX10_findings_13 : decode cX10_findings 13 = .ok (.ireturn, 1) := by decide +kernel
theorem dX10_findings_14 : decode cX10_findings 14 = .ok (.aload_n 0, 1) := by decide +kernel
theorem dX10_findings_15 : decode cX10_findings 15 = .ok (.getfield 54, 3) := by decide +kernel
theorem dX10_findings_18 : decode cX10_findings 18 = .ok (.iload_n 1, 1) := by decide +kernel
theorem dX10_findings_19 : decode cX10_findings 19 = .ok (.iaload, 1) := by decide +kernel
theorem dX10_findings_20 : decode cX10_findings 20 = .ok (.ireturn, 1) := by decide +kernel
theorem dX10_count_0 : decode cX10_count 0 = .ok (.iload_n 1, 1) := by decide +kernel
theorem dX10_count_1 : decode cX10_count 1 = .ok (.tableswitch 75 0 5 #[39, 44, 49, 57, 65, 70], 39) := by decide +kernel
theorem dX10_count_40 : decode cX10_count 40 = .ok (.aload_n 0, 1) := by decide +kernel
theorem dX10_count_41 : decode cX10_count 41 = .ok (.getfield 62, 3) := by decide +kernel
theorem dX10_count_44 : decode cX10_count 44 = .ok (.ireturn, 1) := by decide +kernel
theorem dX10_count_45 : decode cX10_count 45 = .ok (.aload_n 0, 1) := by decide +kernel
theorem dX10_count_46 : decode cX10_count 46 = .ok (.getfield 139, 3) := by decide +kernel
theorem dX10_count_49 : decode cX10_count 49 = .ok (.ireturn, 1) := by decide +kernel
theorem dX10_count_50 : decode cX10_count 50 = .ok (.aload_n 0, 1) := by decide +kernel
theorem dX10_count_51 : decode cX10_count 51 = .ok (.getfield 36, 3) := by decide +kernel
theorem dX10_count_54 : decode cX10_count 54 = .ok (.getfield 287, 3) := by decide +kernel
theorem dX10_count_57 : decode cX10_count 57 = .ok (.ireturn, 1) := by decide +kernel
theorem dX10_count_58 : decode cX10_count 58 = .ok (.aload_n 0, 1) := by decide +kernel
theorem dX10_count_59 : decode cX10_count 59 = .ok (.getfield 36, 3) := by decide +kernel
theorem dX10_count_62 : decode cX10_count 62 = .ok (.getfield 290, 3) := by decide +kernel
theorem dX10_count_65 : decode cX10_count 65 = .ok (.ireturn, 1) := by decide +kernel
theorem dX10_count_66 : decode cX10_count 66 = .ok (.aload_n 0, 1) := by decide +kernel
theorem dX10_count_67 : decode cX10_count 67 = .ok (.getfield 199, 3) := by decide +kernel
theorem dX10_count_70 : decode cX10_count 70 = .ok (.ireturn, 1) := by decide +kernel
theorem dX10_count_71 : decode cX10_count 71 = .ok (.aload_n 0, 1) := by decide +kernel
theorem dX10_count_72 : decode cX10_count 72 = .ok (.getfield 256, 3) := by decide +kernel
theorem dX10_count_75 : decode cX10_count 75 = .ok (.ireturn, 1) := by decide +kernel
theorem dX10_count_76 : decode cX10_count 76 = .ok (.bipush (-102), 2) := by decide +kernel
theorem dX10_count_78 : decode cX10_count 78 = .ok (.ireturn, 1) := by decide +kernel
theorem dX10_digest_0 : decode cX10_digest 0 = .ok (.ldc2_w 293, 3) := by decide +kernel
theorem dX10_digest_3 : decode cX10_digest 3 = .ok (.aload_n 0, 1) := by decide +kernel
theorem dX10_digest_4 : decode cX10_digest 4 = .ok (.getfield 62, 3) := by decide +kernel
theorem dX10_digest_7 : decode cX10_digest 7 = .ok (.i2l, 1) := by decide +kernel
theorem dX10_digest_8 : decode cX10_digest 8 = .ok (.invokestatic 295, 3) := by decide +kernel
theorem dX10_digest_11 : decode cX10_digest 11 = .ok (.lstore_n 1, 1) := by decide +kernel
theorem dX10_digest_12 : decode cX10_digest 12 = .ok (.iconst 0, 1) := by decide +kernel
theorem dX10_digest_13 : decode cX10_digest 13 = .ok (.istore_n 3, 1) := by decide +kernel
theorem dX10_digest_14 : decode cX10_digest 14 = .ok (.iload_n 3, 1) := by decide +kernel
theorem dX10_digest_15 : decode cX10_digest 15 = .ok (.aload_n 0, 1) := by decide +kernel
theorem dX10_digest_16 : decode cX10_digest 16 = .ok (.getfield 62, 3) := by decide +kernel
theorem dX10_digest_19 : decode cX10_digest 19 = .ok (.if_icmp .ge 20, 3) := by decide +kernel
theorem dX10_digest_22 : decode cX10_digest 22 = .ok (.lload_n 1, 1) := by decide +kernel
theorem dX10_digest_23 : decode cX10_digest 23 = .ok (.aload_n 0, 1) := by decide +kernel
theorem dX10_digest_24 : decode cX10_digest 24 = .ok (.getfield 11, 3) := by decide +kernel
theorem dX10_digest_27 : decode cX10_digest 27 = .ok (.iload_n 3, 1) := by decide +kernel
theorem dX10_digest_28 : decode cX10_digest 28 = .ok (.aaload, 1) := by decide +kernel
theorem dX10_digest_29 : decode cX10_digest 29 = .ok (.invokestatic 299, 3) := by decide +kernel
theorem dX10_digest_32 : decode cX10_digest 32 = .ok (.lstore_n 1, 1) := by decide +kernel
theorem dX10_digest_33 : decode cX10_digest 33 = .ok (.iinc 3 1, 3) := by decide +kernel
theorem dX10_digest_36 : decode cX10_digest 36 = .ok (.goto (-22), 3) := by decide +kernel
theorem dX10_digest_39 : decode cX10_digest 39 = .ok (.lload_n 1, 1) := by decide +kernel
theorem dX10_digest_40 : decode cX10_digest 40 = .ok (.aload_n 0, 1) := by decide +kernel
theorem dX10_digest_41 : decode cX10_digest 41 = .ok (.getfield 139, 3) := by decide +kernel
theorem dX10_digest_44 : decode cX10_digest 44 = .ok (.i2l, 1) := by decide +kernel
theorem dX10_digest_45 : decode cX10_digest 45 = .ok (.invokestatic 295, 3) := by decide +kernel
theorem dX10_digest_48 : decode cX10_digest 48 = .ok (.lstore_n 1, 1) := by decide +kernel
theorem dX10_digest_49 : decode cX10_digest 49 = .ok (.iconst 0, 1) := by decide +kernel
theorem dX10_digest_50 : decode cX10_digest 50 = .ok (.istore_n 3, 1) := by decide +kernel
theorem dX10_digest_51 : decode cX10_digest 51 = .ok (.iload_n 3, 1) := by decide +kernel
theorem dX10_digest_52 : decode cX10_digest 52 = .ok (.aload_n 0, 1) := by decide +kernel
theorem dX10_digest_53 : decode cX10_digest 53 = .ok (.getfield 139, 3) := by decide +kernel
theorem dX10_digest_56 : decode cX10_digest 56 = .ok (.if_icmp .ge 20, 3) := by decide +kernel
theorem dX10_digest_59 : decode cX10_digest 59 = .ok (.lload_n 1, 1) := by decide +kernel
theorem dX10_digest_60 : decode cX10_digest 60 = .ok (.aload_n 0, 1) := by decide +kernel
theorem dX10_digest_61 : decode cX10_digest 61 = .ok (.getfield 17, 3) := by decide +kernel
theorem dX10_digest_64 : decode cX10_digest 64 = .ok (.iload_n 3, 1) := by decide +kernel
theorem dX10_digest_65 : decode cX10_digest 65 = .ok (.aaload, 1) := by decide +kernel
theorem dX10_digest_66 : decode cX10_digest 66 = .ok (.invokestatic 303, 3) := by decide +kernel
theorem dX10_digest_69 : decode cX10_digest 69 = .ok (.lstore_n 1, 1) := by decide +kernel
theorem dX10_digest_70 : decode cX10_digest 70 = .ok (.iinc 3 1, 3) := by decide +kernel
theorem dX10_digest_73 : decode cX10_digest 73 = .ok (.goto (-22), 3) := by decide +kernel
theorem dX10_digest_76 : decode cX10_digest 76 = .ok (.iconst 0, 1) := by decide +kernel
theorem dX10_digest_77 : decode cX10_digest 77 = .ok (.istore_n 3, 1) := by decide +kernel
theorem dX10_digest_78 : decode cX10_digest 78 = .ok (.iload_n 3, 1) := by decide +kernel
theorem dX10_digest_79 : decode cX10_digest 79 = .ok (.aload_n 0, 1) := by decide +kernel
theorem dX10_digest_80 : decode cX10_digest 80 = .ok (.getfield 199, 3) := by decide +kernel
theorem dX10_digest_83 : decode cX10_digest 83 = .ok (.if_icmp .ge 20, 3) := by decide +kernel
theorem dX10_digest_86 : decode cX10_digest 86 = .ok (.lload_n 1, 1) := by decide +kernel
theorem dX10_digest_87 : decode cX10_digest 87 = .ok (.aload_n 0, 1) := by decide +kernel
theorem dX10_digest_88 : decode cX10_digest 88 = .ok (.getfield 23, 3) := by decide +kernel
theorem dX10_digest_91 : decode cX10_digest 91 = .ok (.iload_n 3, 1) := by decide +kernel
theorem dX10_digest_92 : decode cX10_digest 92 = .ok (.aaload, 1) := by decide +kernel
theorem dX10_digest_93 : decode cX10_digest 93 = .ok (.invokestatic 307, 3) := by decide +kernel
theorem dX10_digest_96 : decode cX10_digest 96 = .ok (.lstore_n 1, 1) := by decide +kernel
theorem dX10_digest_97 : decode cX10_digest 97 = .ok (.iinc 3 1, 3) := by decide +kernel
theorem dX10_digest_100 : decode cX10_digest 100 = .ok (.goto (-22), 3) := by decide +kernel
theorem dX10_digest_103 : decode cX10_digest 103 = .ok (.lload_n 1, 1) := by decide +kernel
theorem dX10_digest_104 : decode cX10_digest 104 = .ok (.aload_n 0, 1) := by decide +kernel
theorem dX10_digest_105 : decode cX10_digest 105 = .ok (.getfield 256, 3) := by decide +kernel
theorem dX10_digest_108 : decode cX10_digest 108 = .ok (.i2l, 1) := by decide +kernel
theorem dX10_digest_109 : decode cX10_digest 109 = .ok (.invokestatic 295, 3) := by decide +kernel
theorem dX10_digest_112 : decode cX10_digest 112 = .ok (.lreturn, 1) := by decide +kernel
theorem dX10_isKind_0 : decode cX10_isKind 0 = .ok (.iload_n 0, 1) := by decide +kernel
theorem dX10_isKind_1 : decode cX10_isKind 1 = .ok (.ifCond .lt 13, 3) := by decide +kernel
theorem dX10_isKind_4 : decode cX10_isKind 4 = .ok (.iload_n 0, 1) := by decide +kernel
theorem dX10_isKind_5 : decode cX10_isKind 5 = .ok (.bipush 7, 2) := by decide +kernel
theorem dX10_isKind_7 : decode cX10_isKind 7 = .ok (.if_icmp .gt 7, 3) := by decide +kernel
theorem dX10_isKind_10 : decode cX10_isKind 10 = .ok (.iconst 1, 1) := by decide +kernel
theorem dX10_isKind_11 : decode cX10_isKind 11 = .ok (.goto 4, 3) := by decide +kernel
theorem dX10_isKind_14 : decode cX10_isKind 14 = .ok (.iconst 0, 1) := by decide +kernel
theorem dX10_isKind_15 : decode cX10_isKind 15 = .ok (.ireturn, 1) := by decide +kernel
theorem dX10_isCoder_0 : decode cX10_isCoder 0 = .ok (.iload_n 0, 1) := by decide +kernel
theorem dX10_isCoder_1 : decode cX10_isCoder 1 = .ok (.ifCond .lt 12, 3) := by decide +kernel
theorem dX10_isCoder_4 : decode cX10_isCoder 4 = .ok (.iload_n 0, 1) := by decide +kernel
theorem dX10_isCoder_5 : decode cX10_isCoder 5 = .ok (.iconst 4, 1) := by decide +kernel
theorem dX10_isCoder_6 : decode cX10_isCoder 6 = .ok (.if_icmp .gt 7, 3) := by decide +kernel
theorem dX10_isCoder_9 : decode cX10_isCoder 9 = .ok (.iconst 1, 1) := by decide +kernel
theorem dX10_isCoder_10 : decode cX10_isCoder 10 = .ok (.goto 4, 3) := by decide +kernel
theorem dX10_isCoder_13 : decode cX10_isCoder 13 = .ok (.iconst 0, 1) := by decide +kernel
theorem dX10_isCoder_14 : decode cX10_isCoder 14 = .ok (.ireturn, 1) := by decide +kernel
theorem dX10_found_0 : decode cX10_found 0 = .ok (.aload_n 0, 1) := by decide +kernel
theorem dX10_found_1 : decode cX10_found 1 = .ok (.iload_n 1, 1) := by decide +kernel
theorem dX10_found_2 : decode cX10_found 2 = .ok (.putfield 284, 3) := by decide +kernel
theorem dX10_found_5 : decode cX10_found 5 = .ok (.aload_n 0, 1) := by decide +kernel
theorem dX10_found_6 : decode cX10_found 6 = .ok (.getfield 54, 3) := by decide +kernel
theorem dX10_found_9 : decode cX10_found 9 = .ok (.iload_n 1, 1) := by decide +kernel
theorem dX10_found_10 : decode cX10_found 10 = .ok (.dup2, 1) := by decide +kernel
theorem dX10_found_11 : decode cX10_found 11 = .ok (.iaload, 1) := by decide +kernel
theorem dX10_found_12 : decode cX10_found 12 = .ok (.iconst 1, 1) := by decide +kernel
theorem dX10_found_13 : decode cX10_found 13 = .ok (.iadd, 1) := by decide +kernel
theorem dX10_found_14 : decode cX10_found 14 = .ok (.iastore, 1) := by decide +kernel
theorem dX10_found_15 : decode cX10_found 15 = .ok (.bipush (-10), 2) := by decide +kernel
theorem dX10_found_17 : decode cX10_found 17 = .ok (.iload_n 1, 1) := by decide +kernel
theorem dX10_found_18 : decode cX10_found 18 = .ok (.isub, 1) := by decide +kernel
theorem dX10_found_19 : decode cX10_found 19 = .ok (.ireturn, 1) := by decide +kernel
theorem dX10_rowNumbered_0 : decode cX10_rowNumbered 0 = .ok (.iload_n 1, 1) := by decide +kernel
theorem dX10_rowNumbered_1 : decode cX10_rowNumbered 1 = .ok (.ifCond .lt 20, 3) := by decide +kernel
theorem dX10_rowNumbered_4 : decode cX10_rowNumbered 4 = .ok (.iload_n 1, 1) := by decide +kernel
theorem dX10_rowNumbered_5 : decode cX10_rowNumbered 5 = .ok (.aload_n 0, 1) := by decide +kernel
theorem dX10_rowNumbered_6 : decode cX10_rowNumbered 6 = .ok (.getfield 62, 3) := by decide +kernel
theorem dX10_rowNumbered_9 : decode cX10_rowNumbered 9 = .ok (.if_icmp .ge 12, 3) := by decide +kernel
theorem dX10_rowNumbered_12 : decode cX10_rowNumbered 12 = .ok (.aload_n 0, 1) := by decide +kernel
theorem dX10_rowNumbered_13 : decode cX10_rowNumbered 13 = .ok (.getfield 11, 3) := by decide +kernel
theorem dX10_rowNumbered_16 : decode cX10_rowNumbered 16 = .ok (.iload_n 1, 1) := by decide +kernel
theorem dX10_rowNumbered_17 : decode cX10_rowNumbered 17 = .ok (.aaload, 1) := by decide +kernel
theorem dX10_rowNumbered_18 : decode cX10_rowNumbered 18 = .ok (.goto 4, 3) := by decide +kernel
theorem dX10_rowNumbered_21 : decode cX10_rowNumbered 21 = .ok (.aconst_null, 1) := by decide +kernel
theorem dX10_rowNumbered_22 : decode cX10_rowNumbered 22 = .ok (.areturn, 1) := by decide +kernel
theorem dX10_streamNumbered_0 : decode cX10_streamNumbered 0 = .ok (.iload_n 1, 1) := by decide +kernel
theorem dX10_streamNumbered_1 : decode cX10_streamNumbered 1 = .ok (.ifCond .lt 20, 3) := by decide +kernel
theorem dX10_streamNumbered_4 : decode cX10_streamNumbered 4 = .ok (.iload_n 1, 1) := by decide +kernel
theorem dX10_streamNumbered_5 : decode cX10_streamNumbered 5 = .ok (.aload_n 0, 1) := by decide +kernel
theorem dX10_streamNumbered_6 : decode cX10_streamNumbered 6 = .ok (.getfield 139, 3) := by decide +kernel
theorem dX10_streamNumbered_9 : decode cX10_streamNumbered 9 = .ok (.if_icmp .ge 12, 3) := by decide +kernel
theorem dX10_streamNumbered_12 : decode cX10_streamNumbered 12 = .ok (.aload_n 0, 1) := by decide +kernel
theorem dX10_streamNumbered_13 : decode cX10_streamNumbered 13 = .ok (.getfield 17, 3) := by decide +kernel
theorem dX10_streamNumbered_16 : decode cX10_streamNumbered 16 = .ok (.iload_n 1, 1) := by decide +kernel
theorem dX10_streamNumbered_17 : decode cX10_streamNumbered 17 = .ok (.aaload, 1) := by decide +kernel
theorem dX10_streamNumbered_18 : decode cX10_streamNumbered 18 = .ok (.goto 4, 3) := by decide +kernel
theorem dX10_streamNumbered_21 : decode cX10_streamNumbered 21 = .ok (.aconst_null, 1) := by decide +kernel
theorem dX10_streamNumbered_22 : decode cX10_streamNumbered 22 = .ok (.areturn, 1) := by decide +kernel
theorem dX10_houseNumbered_0 : decode cX10_houseNumbered 0 = .ok (.iload_n 1, 1) := by decide +kernel
theorem dX10_houseNumbered_1 : decode cX10_houseNumbered 1 = .ok (.ifCond .lt 20, 3) := by decide +kernel
theorem dX10_houseNumbered_4 : decode cX10_houseNumbered 4 = .ok (.iload_n 1, 1) := by decide +kernel
theorem dX10_houseNumbered_5 : decode cX10_houseNumbered 5 = .ok (.aload_n 0, 1) := by decide +kernel
theorem dX10_houseNumbered_6 : decode cX10_houseNumbered 6 = .ok (.getfield 199, 3) := by decide +kernel
theorem dX10_houseNumbered_9 : decode cX10_houseNumbered 9 = .ok (.if_icmp .ge 12, 3) := by decide +kernel
theorem dX10_houseNumbered_12 : decode cX10_houseNumbered 12 = .ok (.aload_n 0, 1) := by decide +kernel
theorem dX10_houseNumbered_13 : decode cX10_houseNumbered 13 = .ok (.getfield 23, 3) := by decide +kernel
theorem dX10_houseNumbered_16 : decode cX10_houseNumbered 16 = .ok (.iload_n 1, 1) := by decide +kernel
theorem dX10_houseNumbered_17 : decode cX10_houseNumbered 17 = .ok (.aaload, 1) := by decide +kernel
theorem dX10_houseNumbered_18 : decode cX10_houseNumbered 18 = .ok (.goto 4, 3) := by decide +kernel
theorem dX10_houseNumbered_21 : decode cX10_houseNumbered 21 = .ok (.aconst_null, 1) := by decide +kernel
theorem dX10_houseNumbered_22 : decode cX10_houseNumbered 22 = .ok (.areturn, 1) := by decide +kernel
theorem dX10_deltaNumbered_0 : decode cX10_deltaNumbered 0 = .ok (.iload_n 1, 1) := by decide +kernel
theorem dX10_deltaNumbered_1 : decode cX10_deltaNumbered 1 = .ok (.ifCond .lt 20, 3) := by decide +kernel
theorem dX10_deltaNumbered_4 : decode cX10_deltaNumbered 4 = .ok (.iload_n 1, 1) := by decide +kernel
theorem dX10_deltaNumbered_5 : decode cX10_deltaNumbered 5 = .ok (.aload_n 0, 1) := by decide +kernel
theorem dX10_deltaNumbered_6 : decode cX10_deltaNumbered 6 = .ok (.getfield 256, 3) := by decide +kernel
theorem dX10_deltaNumbered_9 : decode cX10_deltaNumbered 9 = .ok (.if_icmp .ge 12, 3) := by decide +kernel
theorem dX10_deltaNumbered_12 : decode cX10_deltaNumbered 12 = .ok (.aload_n 0, 1) := by decide +kernel
theorem dX10_deltaNumbered_13 : decode cX10_deltaNumbered 13 = .ok (.getfield 29, 3) := by decide +kernel
theorem dX10_deltaNumbered_16 : decode cX10_deltaNumbered 16 = .ok (.iload_n 1, 1) := by decide +kernel
theorem dX10_deltaNumbered_17 : decode cX10_deltaNumbered 17 = .ok (.aaload, 1) := by decide +kernel
theorem dX10_deltaNumbered_18 : decode cX10_deltaNumbered 18 = .ok (.goto 4, 3) := by decide +kernel
theorem dX10_deltaNumbered_21 : decode cX10_deltaNumbered 21 = .ok (.aconst_null, 1) := by decide +kernel
theorem dX10_deltaNumbered_22 : decode cX10_deltaNumbered 22 = .ok (.areturn, 1) := by decide +kernel
theorem dX10_newRow_0 : decode cX10_newRow 0 = .ok (.aload_n 0, 1) := by decide +kernel
theorem dX10_newRow_1 : decode cX10_newRow 1 = .ok (.getfield 11, 3) := by decide +kernel
theorem dX10_newRow_4 : decode cX10_newRow 4 = .ok (.aload_n 0, 1) := by decide +kernel
theorem dX10_newRow_5 : decode cX10_newRow 5 = .ok (.getfield 62, 3) := by decide +kernel
theorem dX10_newRow_8 : decode cX10_newRow 8 = .ok (.new 9, 3) := by decide +kernel
theorem dX10_newRow_11 : decode cX10_newRow 11 = .ok (.dup, 1) := by decide +kernel
theorem dX10_newRow_12 : decode cX10_newRow 12 = .ok (.iload_n 1, 1) := by decide +kernel
theorem dX10_newRow_13 : decode cX10_newRow 13 = .ok (.iload_n 2, 1) := by decide +kernel
theorem dX10_newRow_14 : decode cX10_newRow 14 = .ok (.invokespecial 311, 3) := by decide +kernel
theorem dX10_newRow_17 : decode cX10_newRow 17 = .ok (.aastore, 1) := by decide +kernel
theorem dX10_newRow_18 : decode cX10_newRow 18 = .ok (.aload_n 0, 1) := by decide +kernel
theorem dX10_newRow_19 : decode cX10_newRow 19 = .ok (.dup, 1) := by decide +kernel
theorem dX10_newRow_20 : decode cX10_newRow 20 = .ok (.getfield 62, 3) := by decide +kernel
theorem dX10_newRow_23 : decode cX10_newRow 23 = .ok (.iconst 1, 1) := by decide +kernel
theorem dX10_newRow_24 : decode cX10_newRow 24 = .ok (.iadd, 1) := by decide +kernel
theorem dX10_newRow_25 : decode cX10_newRow 25 = .ok (.putfield 62, 3) := by decide +kernel
theorem dX10_newRow_28 : decode cX10_newRow 28 = .ok (.aload_n 0, 1) := by decide +kernel
theorem dX10_newRow_29 : decode cX10_newRow 29 = .ok (.getfield 62, 3) := by decide +kernel
theorem dX10_newRow_32 : decode cX10_newRow 32 = .ok (.iconst 1, 1) := by decide +kernel
theorem dX10_newRow_33 : decode cX10_newRow 33 = .ok (.isub, 1) := by decide +kernel
theorem dX10_newRow_34 : decode cX10_newRow 34 = .ok (.ireturn, 1) := by decide +kernel
theorem dX10_newStream_0 : decode cX10_newStream 0 = .ok (.aload_n 0, 1) := by decide +kernel
theorem dX10_newStream_1 : decode cX10_newStream 1 = .ok (.getfield 17, 3) := by decide +kernel
theorem dX10_newStream_4 : decode cX10_newStream 4 = .ok (.aload_n 0, 1) := by decide +kernel
theorem dX10_newStream_5 : decode cX10_newStream 5 = .ok (.getfield 139, 3) := by decide +kernel
theorem dX10_newStream_8 : decode cX10_newStream 8 = .ok (.new 15, 3) := by decide +kernel
theorem dX10_newStream_11 : decode cX10_newStream 11 = .ok (.dup, 1) := by decide +kernel
theorem dX10_newStream_12 : decode cX10_newStream 12 = .ok (.invokespecial 314, 3) := by decide +kernel
theorem dX10_newStream_15 : decode cX10_newStream 15 = .ok (.aastore, 1) := by decide +kernel
theorem dX10_newStream_16 : decode cX10_newStream 16 = .ok (.aload_n 0, 1) := by decide +kernel
theorem dX10_newStream_17 : decode cX10_newStream 17 = .ok (.dup, 1) := by decide +kernel
theorem dX10_newStream_18 : decode cX10_newStream 18 = .ok (.getfield 139, 3) := by decide +kernel
theorem dX10_newStream_21 : decode cX10_newStream 21 = .ok (.iconst 1, 1) := by decide +kernel
theorem dX10_newStream_22 : decode cX10_newStream 22 = .ok (.iadd, 1) := by decide +kernel
theorem dX10_newStream_23 : decode cX10_newStream 23 = .ok (.putfield 139, 3) := by decide +kernel
theorem dX10_newStream_26 : decode cX10_newStream 26 = .ok (.aload_n 0, 1) := by decide +kernel
theorem dX10_newStream_27 : decode cX10_newStream 27 = .ok (.getfield 139, 3) := by decide +kernel
theorem dX10_newStream_30 : decode cX10_newStream 30 = .ok (.iconst 1, 1) := by decide +kernel
theorem dX10_newStream_31 : decode cX10_newStream 31 = .ok (.isub, 1) := by decide +kernel
theorem dX10_newStream_32 : decode cX10_newStream 32 = .ok (.ireturn, 1) := by decide +kernel
theorem dX10_appendPiece_0 : decode cX10_appendPiece 0 = .ok (.aload_n 1, 1) := by decide +kernel
theorem dX10_appendPiece_1 : decode cX10_appendPiece 1 = .ok (.getfield 159, 3) := by decide +kernel
theorem dX10_appendPiece_4 : decode cX10_appendPiece 4 = .ok (.istore 4, 2) := by decide +kernel
theorem dX10_appendPiece_6 : decode cX10_appendPiece 6 = .ok (.aload_n 1, 1) := by decide +kernel
theorem dX10_appendPiece_7 : decode cX10_appendPiece 7 = .ok (.sipush 160, 3) := by decide +kernel
theorem dX10_appendPiece_10 : decode cX10_appendPiece 10 = .ok (.iload_n 2, 1) := by decide +kernel
theorem dX10_appendPiece_11 : decode cX10_appendPiece 11 = .ok (.iadd, 1) := by decide +kernel
theorem dX10_appendPiece_12 : decode cX10_appendPiece 12 = .ok (.invokevirtual 167, 3) := by decide +kernel
theorem dX10_appendPiece_15 : decode cX10_appendPiece 15 = .ok (.aload_n 1, 1) := by decide +kernel
theorem dX10_appendPiece_16 : decode cX10_appendPiece 16 = .ok (.aload_n 3, 1) := by decide +kernel
theorem dX10_appendPiece_17 : decode cX10_appendPiece 17 = .ok (.getfield 86, 3) := by decide +kernel
theorem dX10_appendPiece_20 : decode cX10_appendPiece 20 = .ok (.invokevirtual 167, 3) := by decide +kernel
theorem dX10_appendPiece_23 : decode cX10_appendPiece 23 = .ok (.aload_n 1, 1) := by decide +kernel
theorem dX10_appendPiece_24 : decode cX10_appendPiece 24 = .ok (.aload_n 3, 1) := by decide +kernel
theorem dX10_appendPiece_25 : decode cX10_appendPiece 25 = .ok (.getfield 82, 3) := by decide +kernel
theorem dX10_appendPiece_28 : decode cX10_appendPiece 28 = .ok (.arraylength, 1) := by decide +kernel
theorem dX10_appendPiece_29 : decode cX10_appendPiece 29 = .ok (.invokevirtual 167, 3) := by decide +kernel
theorem dX10_appendPiece_32 : decode cX10_appendPiece 32 = .ok (.aload_n 1, 1) := by decide +kernel
theorem dX10_appendPiece_33 : decode cX10_appendPiece 33 = .ok (.aload_n 0, 1) := by decide +kernel
theorem dX10_appendPiece_34 : decode cX10_appendPiece 34 = .ok (.getfield 43, 3) := by decide +kernel
theorem dX10_appendPiece_37 : decode cX10_appendPiece 37 = .ok (.getfield 162, 3) := by decide +kernel
theorem dX10_appendPiece_40 : decode cX10_appendPiece 40 = .ok (.invokevirtual 315, 3) := by decide +kernel
theorem dX10_appendPiece_43 : decode cX10_appendPiece 43 = .ok (.aload_n 1, 1) := by decide +kernel
theorem dX10_appendPiece_44 : decode cX10_appendPiece 44 = .ok (.aload_n 0, 1) := by decide +kernel
theorem dX10_appendPiece_45 : decode cX10_appendPiece 45 = .ok (.getfield 43, 3) := by decide +kernel
theorem dX10_appendPiece_48 : decode cX10_appendPiece 48 = .ok (.getfield 318, 3) := by decide +kernel
theorem dX10_appendPiece_51 : decode cX10_appendPiece 51 = .ok (.iconst 0, 1) := by decide +kernel
theorem dX10_appendPiece_52 : decode cX10_appendPiece 52 = .ok (.aload_n 0, 1) := by decide +kernel
theorem dX10_appendPiece_53 : decode cX10_appendPiece 53 = .ok (.getfield 43, 3) := by decide +kernel
theorem dX10_appendPiece_56 : decode cX10_appendPiece 56 = .ok (.getfield 162, 3) := by decide +kernel
theorem dX10_appendPiece_59 : decode cX10_appendPiece 59 = .ok (.invokevirtual 249, 3) := by decide +kernel
theorem dX10_appendPiece_62 : decode cX10_appendPiece 62 = .ok (.aload_n 1, 1) := by decide +kernel
theorem dX10_appendPiece_63 : decode cX10_appendPiece 63 = .ok (.aload_n 1, 1) := by decide +kernel
theorem dX10_appendPiece_64 : decode cX10_appendPiece 64 = .ok (.iload 4, 2) := by decide +kernel
theorem dX10_appendPiece_66 : decode cX10_appendPiece 66 = .ok (.aload_n 1, 1) := by decide +kernel
theorem dX10_appendPiece_67 : decode cX10_appendPiece 67 = .ok (.getfield 159, 3) := by decide +kernel
theorem dX10_appendPiece_70 : decode cX10_appendPiece 70 = .ok (.invokevirtual 174, 3) := by decide +kernel
theorem dX10_appendPiece_73 : decode cX10_appendPiece 73 = .ok (.invokevirtual 315, 3) := by decide +kernel
theorem dX10_appendPiece_76 : decode cX10_appendPiece 76 = .ok (.return_, 1) := by decide +kernel
theorem dX10_mixed_0 : decode cX10_mixed 0 = .ok (.ldc2_w 321, 3) := by decide +kernel
theorem dX10_mixed_3 : decode cX10_mixed 3 = .ok (.lload_n 0, 1) := by decide +kernel
theorem dX10_mixed_4 : decode cX10_mixed 4 = .ok (.lmul, 1) := by decide +kernel
theorem dX10_mixed_5 : decode cX10_mixed 5 = .ok (.lload_n 2, 1) := by decide +kernel
theorem dX10_mixed_6 : decode cX10_mixed 6 = .ok (.ladd, 1) := by decide +kernel
theorem dX10_mixed_7 : decode cX10_mixed 7 = .ok (.lreturn, 1) := by decide +kernel
theorem dX10_mixedWithRow_0 : decode cX10_mixedWithRow 0 = .ok (.lload_n 0, 1) := by decide +kernel
theorem dX10_mixedWithRow_1 : decode cX10_mixedWithRow 1 = .ok (.aload_n 2, 1) := by decide +kernel
theorem dX10_mixedWithRow_2 : decode cX10_mixedWithRow 2 = .ok (.getfield 86, 3) := by decide +kernel
theorem dX10_mixedWithRow_5 : decode cX10_mixedWithRow 5 = .ok (.i2l, 1) := by decide +kernel
theorem dX10_mixedWithRow_6 : decode cX10_mixedWithRow 6 = .ok (.invokestatic 295, 3) := by decide +kernel
theorem dX10_mixedWithRow_9 : decode cX10_mixedWithRow 9 = .ok (.lstore_n 0, 1) := by decide +kernel
theorem dX10_mixedWithRow_10 : decode cX10_mixedWithRow 10 = .ok (.aload_n 2, 1) := by decide +kernel
theorem dX10_mixedWithRow_11 : decode cX10_mixedWithRow 11 = .ok (.getfield 78, 3) := by decide +kernel
theorem dX10_mixedWithRow_14 : decode cX10_mixedWithRow 14 = .ok (.ifCond .eq 11, 3) := by decide +kernel
theorem dX10_mixedWithRow_17 : decode cX10_mixedWithRow 17 = .ok (.lload_n 0, 1) := by decide +kernel
theorem dX10_mixedWithRow_18 : decode cX10_mixedWithRow 18 = .ok (.ldc2_w 323, 3) := by decide +kernel
theorem dX10_mixedWithRow_21 : decode cX10_mixedWithRow 21 = .ok (.invokestatic 295, 3) := by decide +kernel
theorem dX10_mixedWithRow_24 : decode cX10_mixedWithRow 24 = .ok (.lreturn, 1) := by decide +kernel
theorem dX10_mixedWithRow_25 : decode cX10_mixedWithRow 25 = .ok (.lload_n 0, 1) := by decide +kernel
theorem dX10_mixedWithRow_26 : decode cX10_mixedWithRow 26 = .ok (.aload_n 2, 1) := by decide +kernel
theorem dX10_mixedWithRow_27 : decode cX10_mixedWithRow 27 = .ok (.getfield 82, 3) := by decide +kernel
theorem dX10_mixedWithRow_30 : decode cX10_mixedWithRow 30 = .ok (.arraylength, 1) := by decide +kernel
theorem dX10_mixedWithRow_31 : decode cX10_mixedWithRow 31 = .ok (.i2l, 1) := by decide +kernel
theorem dX10_mixedWithRow_32 : decode cX10_mixedWithRow 32 = .ok (.invokestatic 295, 3) := by decide +kernel
theorem dX10_mixedWithRow_35 : decode cX10_mixedWithRow 35 = .ok (.lstore_n 0, 1) := by decide +kernel
theorem dX10_mixedWithRow_36 : decode cX10_mixedWithRow 36 = .ok (.aload_n 2, 1) := by decide +kernel
theorem dX10_mixedWithRow_37 : decode cX10_mixedWithRow 37 = .ok (.getfield 82, 3) := by decide +kernel
theorem dX10_mixedWithRow_40 : decode cX10_mixedWithRow 40 = .ok (.astore_n 3, 1) := by decide +kernel
theorem dX10_mixedWithRow_41 : decode cX10_mixedWithRow 41 = .ok (.aload_n 3, 1) := by decide +kernel
theorem dX10_mixedWithRow_42 : decode cX10_mixedWithRow 42 = .ok (.arraylength, 1) := by decide +kernel
theorem dX10_mixedWithRow_43 : decode cX10_mixedWithRow 43 = .ok (.istore 4, 2) := by decide +kernel
theorem dX10_mixedWithRow_45 : decode cX10_mixedWithRow 45 = .ok (.iconst 0, 1) := by decide +kernel
theorem dX10_mixedWithRow_46 : decode cX10_mixedWithRow 46 = .ok (.istore 5, 2) := by decide +kernel
theorem dX10_mixedWithRow_48 : decode cX10_mixedWithRow 48 = .ok (.iload 5, 2) := by decide +kernel
theorem dX10_mixedWithRow_50 : decode cX10_mixedWithRow 50 = .ok (.iload 4, 2) := by decide +kernel
theorem dX10_mixedWithRow_52 : decode cX10_mixedWithRow 52 = .ok (.if_icmp .ge 22, 3) := by decide +kernel
theorem dX10_mixedWithRow_55 : decode cX10_mixedWithRow 55 = .ok (.aload_n 3, 1) := by decide +kernel
theorem dX10_mixedWithRow_56 : decode cX10_mixedWithRow 56 = .ok (.iload 5, 2) := by decide +kernel
theorem dX10_mixedWithRow_58 : decode cX10_mixedWithRow 58 = .ok (.laload, 1) := by decide +kernel
theorem dX10_mixedWithRow_59 : decode cX10_mixedWithRow 59 = .ok (.lstore 6, 2) := by decide +kernel
theorem dX10_mixedWithRow_61 : decode cX10_mixedWithRow 61 = .ok (.lload_n 0, 1) := by decide +kernel
theorem dX10_mixedWithRow_62 : decode cX10_mixedWithRow 62 = .ok (.lload 6, 2) := by decide +kernel
theorem dX10_mixedWithRow_64 : decode cX10_mixedWithRow 64 = .ok (.invokestatic 295, 3) := by decide +kernel
theorem dX10_mixedWithRow_67 : decode cX10_mixedWithRow 67 = .ok (.lstore_n 0, 1) := by decide +kernel
theorem dX10_mixedWithRow_68 : decode cX10_mixedWithRow 68 = .ok (.iinc 5 1, 3) := by decide +kernel
theorem dX10_mixedWithRow_71 : decode cX10_mixedWithRow 71 = .ok (.goto (-23), 3) := by decide +kernel
theorem dX10_mixedWithRow_74 : decode cX10_mixedWithRow 74 = .ok (.lload_n 0, 1) := by decide +kernel
theorem dX10_mixedWithRow_75 : decode cX10_mixedWithRow 75 = .ok (.lreturn, 1) := by decide +kernel
theorem dX10_mixedWithStream_0 : decode cX10_mixedWithStream 0 = .ok (.lload_n 0, 1) := by decide +kernel
theorem dX10_mixedWithStream_1 : decode cX10_mixedWithStream 1 = .ok (.aload_n 2, 1) := by decide +kernel
theorem dX10_mixedWithStream_2 : decode cX10_mixedWithStream 2 = .ok (.getfield 159, 3) := by decide +kernel
theorem dX10_mixedWithStream_5 : decode cX10_mixedWithStream 5 = .ok (.i2l, 1) := by decide +kernel
theorem dX10_mixedWithStream_6 : decode cX10_mixedWithStream 6 = .ok (.invokestatic 295, 3) := by decide +kernel
theorem dX10_mixedWithStream_9 : decode cX10_mixedWithStream 9 = .ok (.lstore_n 0, 1) := by decide +kernel
theorem dX10_mixedWithStream_10 : decode cX10_mixedWithStream 10 = .ok (.lload_n 0, 1) := by decide +kernel
theorem dX10_mixedWithStream_11 : decode cX10_mixedWithStream 11 = .ok (.aload_n 2, 1) := by decide +kernel
theorem dX10_mixedWithStream_12 : decode cX10_mixedWithStream 12 = .ok (.iconst 0, 1) := by decide +kernel
theorem dX10_mixedWithStream_13 : decode cX10_mixedWithStream 13 = .ok (.aload_n 2, 1) := by decide +kernel
theorem dX10_mixedWithStream_14 : decode cX10_mixedWithStream 14 = .ok (.getfield 159, 3) := by decide +kernel
theorem dX10_mixedWithStream_17 : decode cX10_mixedWithStream 17 = .ok (.invokevirtual 174, 3) := by decide +kernel
theorem dX10_mixedWithStream_20 : decode cX10_mixedWithStream 20 = .ok (.i2l, 1) := by decide +kernel
theorem dX10_mixedWithStream_21 : decode cX10_mixedWithStream 21 = .ok (.invokestatic 295, 3) := by decide +kernel
theorem dX10_mixedWithStream_24 : decode cX10_mixedWithStream 24 = .ok (.lstore_n 0, 1) := by decide +kernel
theorem dX10_mixedWithStream_25 : decode cX10_mixedWithStream 25 = .ok (.lload_n 0, 1) := by decide +kernel
theorem dX10_mixedWithStream_26 : decode cX10_mixedWithStream 26 = .ok (.aload_n 2, 1) := by decide +kernel
theorem dX10_mixedWithStream_27 : decode cX10_mixedWithStream 27 = .ok (.getfield 171, 3) := by decide +kernel
theorem dX10_mixedWithStream_30 : decode cX10_mixedWithStream 30 = .ok (.i2l, 1) := by decide +kernel
theorem dX10_mixedWithStream_31 : decode cX10_mixedWithStream 31 = .ok (.invokestatic 295, 3) := by decide +kernel
theorem dX10_mixedWithStream_34 : decode cX10_mixedWithStream 34 = .ok (.lstore_n 0, 1) := by decide +kernel
theorem dX10_mixedWithStream_35 : decode cX10_mixedWithStream 35 = .ok (.lload_n 0, 1) := by decide +kernel
theorem dX10_mixedWithStream_36 : decode cX10_mixedWithStream 36 = .ok (.aload_n 2, 1) := by decide +kernel
theorem dX10_mixedWithStream_37 : decode cX10_mixedWithStream 37 = .ok (.getfield 152, 3) := by decide +kernel
theorem dX10_mixedWithStream_40 : decode cX10_mixedWithStream 40 = .ok (.ifCond .eq 7, 3) := by decide +kernel
theorem dX10_mixedWithStream_43 : decode cX10_mixedWithStream 43 = .ok (.lconst 1, 1) := by decide +kernel
theorem dX10_mixedWithStream_44 : decode cX10_mixedWithStream 44 = .ok (.goto 4, 3) := by decide +kernel
theorem dX10_mixedWithStream_47 : decode cX10_mixedWithStream 47 = .ok (.lconst 0, 1) := by decide +kernel
theorem dX10_mixedWithStream_48 : decode cX10_mixedWithStream 48 = .ok (.invokestatic 295, 3) := by decide +kernel
theorem dX10_mixedWithStream_51 : decode cX10_mixedWithStream 51 = .ok (.lreturn, 1) := by decide +kernel
theorem dX10_mixedWithHouse_0 : decode cX10_mixedWithHouse 0 = .ok (.lload_n 0, 1) := by decide +kernel
theorem dX10_mixedWithHouse_1 : decode cX10_mixedWithHouse 1 = .ok (.aload_n 2, 1) := by decide +kernel
theorem dX10_mixedWithHouse_2 : decode cX10_mixedWithHouse 2 = .ok (.getfield 211, 3) := by decide +kernel
theorem dX10_mixedWithHouse_5 : decode cX10_mixedWithHouse 5 = .ok (.i2l, 1) := by decide +kernel
theorem dX10_mixedWithHouse_6 : decode cX10_mixedWithHouse 6 = .ok (.invokestatic 295, 3) := by decide +kernel
theorem dX10_mixedWithHouse_9 : decode cX10_mixedWithHouse 9 = .ok (.lstore_n 0, 1) := by decide +kernel
theorem dX10_mixedWithHouse_10 : decode cX10_mixedWithHouse 10 = .ok (.iconst 0, 1) := by decide +kernel
theorem dX10_mixedWithHouse_11 : decode cX10_mixedWithHouse 11 = .ok (.istore_n 3, 1) := by decide +kernel
theorem dX10_mixedWithHouse_12 : decode cX10_mixedWithHouse 12 = .ok (.iload_n 3, 1) := by decide +kernel
theorem dX10_mixedWithHouse_13 : decode cX10_mixedWithHouse 13 = .ok (.aload_n 2, 1) := by decide +kernel
theorem dX10_mixedWithHouse_14 : decode cX10_mixedWithHouse 14 = .ok (.getfield 211, 3) := by decide +kernel
theorem dX10_mixedWithHouse_17 : decode cX10_mixedWithHouse 17 = .ok (.if_icmp .ge 35, 3) := by decide +kernel
theorem dX10_mixedWithHouse_20 : decode cX10_mixedWithHouse 20 = .ok (.lload_n 0, 1) := by decide +kernel
theorem dX10_mixedWithHouse_21 : decode cX10_mixedWithHouse 21 = .ok (.aload_n 2, 1) := by decide +kernel
theorem dX10_mixedWithHouse_22 : decode cX10_mixedWithHouse 22 = .ok (.getfield 244, 3) := by decide +kernel
theorem dX10_mixedWithHouse_25 : decode cX10_mixedWithHouse 25 = .ok (.iload_n 3, 1) := by decide +kernel
theorem dX10_mixedWithHouse_26 : decode cX10_mixedWithHouse 26 = .ok (.laload, 1) := by decide +kernel
theorem dX10_mixedWithHouse_27 : decode cX10_mixedWithHouse 27 = .ok (.invokestatic 295, 3) := by decide +kernel
theorem dX10_mixedWithHouse_30 : decode cX10_mixedWithHouse 30 = .ok (.lstore_n 0, 1) := by decide +kernel
theorem dX10_mixedWithHouse_31 : decode cX10_mixedWithHouse 31 = .ok (.lload_n 0, 1) := by decide +kernel
theorem dX10_mixedWithHouse_32 : decode cX10_mixedWithHouse 32 = .ok (.aload_n 2, 1) := by decide +kernel
theorem dX10_mixedWithHouse_33 : decode cX10_mixedWithHouse 33 = .ok (.getfield 230, 3) := by decide +kernel
theorem dX10_mixedWithHouse_36 : decode cX10_mixedWithHouse 36 = .ok (.iload_n 3, 1) := by decide +kernel
theorem dX10_mixedWithHouse_37 : decode cX10_mixedWithHouse 37 = .ok (.aaload, 1) := by decide +kernel
theorem dX10_mixedWithHouse_38 : decode cX10_mixedWithHouse 38 = .ok (.getfield 238, 3) := by decide +kernel
theorem dX10_mixedWithHouse_41 : decode cX10_mixedWithHouse 41 = .ok (.i2l, 1) := by decide +kernel
theorem dX10_mixedWithHouse_42 : decode cX10_mixedWithHouse 42 = .ok (.invokestatic 295, 3) := by decide +kernel
theorem dX10_mixedWithHouse_45 : decode cX10_mixedWithHouse 45 = .ok (.lstore_n 0, 1) := by decide +kernel
theorem dX10_mixedWithHouse_46 : decode cX10_mixedWithHouse 46 = .ok (.iinc 3 1, 3) := by decide +kernel
theorem dX10_mixedWithHouse_49 : decode cX10_mixedWithHouse 49 = .ok (.goto (-37), 3) := by decide +kernel
theorem dX10_mixedWithHouse_52 : decode cX10_mixedWithHouse 52 = .ok (.lload_n 0, 1) := by decide +kernel
theorem dX10_mixedWithHouse_53 : decode cX10_mixedWithHouse 53 = .ok (.lreturn, 1) := by decide +kernel
theorem dX11_init_0 : decode cX11_init 0 = .ok (.aload_n 0, 1) := by decide +kernel
theorem dX11_init_1 : decode cX11_init 1 = .ok (.invokespecial 1, 3) := by decide +kernel
theorem dX11_init_4 : decode cX11_init 4 = .ok (.aload_n 0, 1) := by decide +kernel
theorem dX11_init_5 : decode cX11_init 5 = .ok (.bipush 10, 2) := by decide +kernel
theorem dX11_init_7 : decode cX11_init 7 = .ok (.newarray .int, 2) := by decide +kernel
theorem dX11_init_9 : decode cX11_init 9 = .ok (.putfield 7, 3) := by decide +kernel
theorem dX11_init_12 : decode cX11_init 12 = .ok (.aload_n 0, 1) := by decide +kernel
theorem dX11_init_13 : decode cX11_init 13 = .ok (.bipush 60, 2) := by decide +kernel
theorem dX11_init_15 : decode cX11_init 15 = .ok (.newarray .int, 2) := by decide +kernel
theorem dX11_init_17 : decode cX11_init 17 = .ok (.putfield 13, 3) := by decide +kernel
theorem dX11_init_20 : decode cX11_init 20 = .ok (.aload_n 0, 1) := by decide +kernel
theorem dX11_init_21 : decode cX11_init 21 = .ok (.bipush 60, 2) := by decide +kernel
theorem dX11_init_23 : decode cX11_init 23 = .ok (.newarray .int, 2) := by decide +kernel
theorem dX11_init_25 : decode cX11_init 25 = .ok (.putfield 16, 3) := by decide +kernel
theorem dX11_init_28 : decode cX11_init 28 = .ok (.aload_n 0, 1) := by decide +kernel
theorem dX11_init_29 : decode cX11_init 29 = .ok (.bipush 60, 2) := by decide +kernel
theorem dX11_init_31 : decode cX11_init 31 = .ok (.newarray .boolean, 2) := by decide +kernel
theorem dX11_init_33 : decode cX11_init 33 = .ok (.putfield 19, 3) := by decide +kernel
theorem dX11_init_36 : decode cX11_init 36 = .ok (.aload_n 0, 1) := by decide +kernel
theorem dX11_init_37 : decode cX11_init 37 = .ok (.sipush 1440, 3) := by decide +kernel
theorem dX11_init_40 : decode cX11_init 40 = .ok (.newarray .long, 2) := by decide +kernel
theorem dX11_init_42 : decode cX11_init 42 = .ok (.putfield 23, 3) := by decide +kernel
theorem dX11_init_45 : decode cX11_init 45 = .ok (.aload_n 0, 1) := by decide +kernel
theorem dX11_init_46 : decode cX11_init 46 = .ok (.bipush 24, 2) := by decide +kernel
theorem dX11_init_48 : decode cX11_init 48 = .ok (.newarray .long, 2) := by decide +kernel
theorem dX11_init_50 : decode cX11_init 50 = .ok (.putfield 27, 3) := by decide +kernel
theorem dX11_init_53 : decode cX11_init 53 = .ok (.aload_n 0, 1) := by decide +kernel
theorem dX11_init_54 : decode cX11_init 54 = .ok (.bipush 24, 2) := by decide +kernel
theorem dX11_init_56 : decode cX11_init 56 = .ok (.newarray .long, 2) := by decide +kernel
theorem dX11_init_58 : decode cX11_init 58 = .ok (.putfield 30, 3) := by decide +kernel
theorem dX11_init_61 : decode cX11_init 61 = .ok (.aload_n 0, 1) := by decide +kernel
theorem dX11_init_62 : decode cX11_init 62 = .ok (.sipush 600, 3) := by decide +kernel
theorem dX11_init_65 : decode cX11_init 65 = .ok (.newarray .int, 2) := by decide +kernel
theorem dX11_init_67 : decode cX11_init 67 = .ok (.putfield 33, 3) := by decide +kernel
theorem dX11_init_70 : decode cX11_init 70 = .ok (.aload_n 0, 1) := by decide +kernel
theorem dX11_init_71 : decode cX11_init 71 = .ok (.sipush 9600, 3) := by decide +kernel
theorem dX11_init_74 : decode cX11_init 74 = .ok (.newarray .int, 2) := by decide +kernel
theorem dX11_init_76 : decode cX11_init 76 = .ok (.putfield 36, 3) := by decide +kernel
theorem dX11_init_79 : decode cX11_init 79 = .ok (.aload_n 0, 1) := by decide +kernel
theorem dX11_init_80 : decode cX11_init 80 = .ok (.bipush 24, 2) := by decide +kernel
theorem dX11_init_82 : decode cX11_init 82 = .ok (.newarray .int, 2) := by decide +kernel
theorem dX11_init_84 : decode cX11_init 84 = .ok (.putfield 39, 3) := by decide +kernel
theorem dX11_init_87 : decode cX11_init 87 = .ok (.aload_n 0, 1) := by decide +kernel
theorem dX11_init_88 : decode cX11_init 88 = .ok (.bipush 24, 2) := by decide +kernel
theorem dX11_init_90 : decode cX11_init 90 = .ok (.newarray .int, 2) := by decide +kernel
theorem dX11_init_92 : decode cX11_init 92 = .ok (.putfield 42, 3) := by decide +kernel
theorem dX11_init_95 : decode cX11_init 95 = .ok (.aload_n 0, 1) := by decide +kernel
theorem dX11_init_96 : decode cX11_init 96 = .ok (.bipush 24, 2) := by decide +kernel
theorem dX11_init_98 : decode cX11_init 98 = .ok (.newarray .boolean, 2) := by decide +kernel
theorem dX11_init_100 : decode cX11_init 100 = .ok (.putfield 45, 3) := by decide +kernel
theorem dX11_init_103 : decode cX11_init 103 = .ok (.aload_n 0, 1) := by decide +kernel
theorem dX11_init_104 : decode cX11_init 104 = .ok (.bipush 30, 2) := by decide +kernel
theorem dX11_init_106 : decode cX11_init 106 = .ok (.newarray .int, 2) := by decide +kernel
theorem dX11_init_108 : decode cX11_init 108 = .ok (.putfield 48, 3) := by decide +kernel
theorem dX11_init_111 : decode cX11_init 111 = .ok (.aload_n 0, 1) := by decide +kernel
theorem dX11_init_112 : decode cX11_init 112 = .ok (.bipush 30, 2) := by decide +kernel
theorem dX11_init_114 : decode cX11_init 114 = .ok (.newarray .int, 2) := by decide +kernel
theorem dX11_init_116 : decode cX11_init 116 = .ok (.putfield 51, 3) := by decide +kernel
theorem dX11_init_119 : decode cX11_init 119 = .ok (.aload_n 0, 1) := by decide +kernel
theorem dX11_init_120 : decode cX11_init 120 = .ok (.bipush 30, 2) := by decide +kernel
theorem dX11_init_122 : decode cX11_init 122 = .ok (.newarray .int, 2) := by decide +kernel
theorem dX11_init_124 : decode cX11_init 124 = .ok (.putfield 54, 3) := by decide +kernel
theorem dX11_init_127 : decode cX11_init 127 = .ok (.aload_n 0, 1) := by decide +kernel
theorem dX11_init_128 : decode cX11_init 128 = .ok (.sipush 12000, 3) := by decide +kernel
theorem dX11_init_131 : decode cX11_init 131 = .ok (.newarray .int, 2) := by decide +kernel
theorem dX11_init_133 : decode cX11_init 133 = .ok (.putfield 57, 3) := by decide +kernel
theorem dX11_init_136 : decode cX11_init 136 = .ok (.aload_n 0, 1) := by decide +kernel
theorem dX11_init_137 : decode cX11_init 137 = .ok (.bipush 6, 2) := by decide +kernel
theorem dX11_init_139 : decode cX11_init 139 = .ok (.newarray .int, 2) := by decide +kernel
theorem dX11_init_141 : decode cX11_init 141 = .ok (.putfield 60, 3) := by decide +kernel
theorem dX11_init_144 : decode cX11_init 144 = .ok (.aload_n 0, 1) := by decide +kernel
theorem dX11_init_145 : decode cX11_init 145 = .ok (.bipush 72, 2) := by decide +kernel
theorem dX11_init_147 : decode cX11_init 147 = .ok (.newarray .long, 2) := by decide +kernel
theorem dX11_init_149 : decode cX11_init 149 = .ok (.putfield 63, 3) := by decide +kernel
theorem dX11_init_152 : decode cX11_init 152 = .ok (.aload_n 0, 1) := by decide +kernel
theorem dX11_init_153 : decode cX11_init 153 = .ok (.bipush 72, 2) := by decide +kernel
theorem dX11_init_155 : decode cX11_init 155 = .ok (.newarray .int, 2) := by decide +kernel
theorem dX11_init_157 : decode cX11_init 157 = .ok (.putfield 66, 3) := by decide +kernel
theorem dX11_init_160 : decode cX11_init 160 = .ok (.aload_n 0, 1) := by decide +kernel
theorem dX11_init_161 : decode cX11_init 161 = .ok (.bipush 16, 2) := by decide +kernel
theorem dX11_init_163 : decode cX11_init 163 = .ok (.newarray .int, 2) := by decide +kernel
theorem dX11_init_165 : decode cX11_init 165 = .ok (.putfield 69, 3) := by decide +kernel
theorem dX11_init_168 : decode cX11_init 168 = .ok (.aload_n 0, 1) := by decide +kernel
theorem dX11_init_169 : decode cX11_init 169 = .ok (.bipush 16, 2) := by decide +kernel
theorem dX11_init_171 : decode cX11_init 171 = .ok (.newarray .int, 2) := by decide +kernel
theorem dX11_init_173 : decode cX11_init 173 = .ok (.putfield 72, 3) := by decide +kernel
theorem dX11_init_176 : decode cX11_init 176 = .ok (.aload_n 0, 1) := by decide +kernel
theorem dX11_init_177 : decode cX11_init 177 = .ok (.bipush 16, 2) := by decide +kernel
theorem dX11_init_179 : decode cX11_init 179 = .ok (.newarray .int, 2) := by decide +kernel
theorem dX11_init_181 : decode cX11_init 181 = .ok (.putfield 75, 3) := by decide +kernel
theorem dX11_init_184 : decode cX11_init 184 = .ok (.aload_n 0, 1) := by decide +kernel
theorem dX11_init_185 : decode cX11_init 185 = .ok (.sipush 6400, 3) := by decide +kernel
theorem dX11_init_188 : decode cX11_init 188 = .ok (.newarray .int, 2) := by decide +kernel
theorem dX11_init_190 : decode cX11_init 190 = .ok (.putfield 78, 3) := by decide +kernel
theorem dX11_init_193 : decode cX11_init 193 = .ok (.aload_n 0, 1) := by decide +kernel
theorem dX11_init_194 : decode cX11_init 194 = .ok (.sipush 6400, 3) := by decide +kernel
theorem dX11_init_197 : decode cX11_init 197 = .ok (.newarray .int, 2) := by decide +kernel
theorem dX11_init_199 : decode cX11_init 199 = .ok (.putfield 81, 3) := by decide +kernel
theorem dX11_init_202 : decode cX11_init 202 = .ok (.aload_n 0, 1) := by decide +kernel
theorem dX11_init_203 : decode cX11_init 203 = .ok (.sipush 6400, 3) := by decide +kernel
theorem dX11_init_206 : decode cX11_init 206 = .ok (.newarray .int, 2) := by decide +kernel
theorem dX11_init_208 : decode cX11_init 208 = .ok (.putfield 84, 3) := by decide +kernel
theorem dX11_init_211 : decode cX11_init 211 = .ok (.iconst 0, 1) := by decide +kernel
theorem dX11_init_212 : decode cX11_init 212 = .ok (.istore_n 1, 1) := by decide +kernel
theorem dX11_init_213 : decode cX11_init 213 = .ok (.iload_n 1, 1) := by decide +kernel
theorem dX11_init_214 : decode cX11_init 214 = .ok (.bipush 30, 2) := by decide +kernel
theorem dX11_init_216 : decode cX11_init 216 = .ok (.if_icmp .ge 16, 3) := by decide +kernel
theorem dX11_init_219 : decode cX11_init 219 = .ok (.aload_n 0, 1) := by decide +kernel
theorem dX11_init_220 : decode cX11_init 220 = .ok (.getfield 48, 3) := by decide +kernel
theorem dX11_init_223 : decode cX11_init 223 = .ok (.iload_n 1, 1) := by decide +kernel
theorem dX11_init_224 : decode cX11_init 224 = .ok (.iconst (-1), 1) := by decide +kernel
theorem dX11_init_225 : decode cX11_init 225 = .ok (.iastore, 1) := by decide +kernel
theorem dX11_init_226 : decode cX11_init 226 = .ok (.iinc 1 1, 3) := by decide +kernel
theorem dX11_init_229 : decode cX11_init 229 = .ok (.goto (-16), 3) := by decide +kernel
theorem dX11_init_232 : decode cX11_init 232 = .ok (.return_, 1) := by decide +kernel
theorem dX11_meets_0 : decode cX11_meets 0 = .ok (.aload_n 0, 1) := by decide +kernel
theorem dX11_meets_1 : decode cX11_meets 1 = .ok (.iload_n 1, 1) := by decide +kernel
theorem dX11_meets_2 : decode cX11_meets 2 = .ok (.putfield 87, 3) := by decide +kernel
theorem dX11_meets_5 : decode cX11_meets 5 = .ok (.aload_n 0, 1) := by decide +kernel
theorem dX11_meets_6 : decode cX11_meets 6 = .ok (.getfield 7, 3) := by decide +kernel
theorem dX11_meets_9 : decode cX11_meets 9 = .ok (.iload_n 1, 1) := by decide +kernel
theorem dX11_meets_10 : decode cX11_meets 10 = .ok (.dup2, 1) := by decide +kernel
theorem dX11_meets_11 : decode cX11_meets 11 = .ok (.iaload, 1) := by decide +kernel
theorem dX11_meets_12 : decode cX11_meets 12 = .ok (.iconst 1, 1) := by decide +kernel
theorem dX11_meets_13 : decode cX11_meets 13 = .ok (.iadd, 1) := by decide +kernel
theorem dX11_meets_14 : decode cX11_meets 14 = .ok (.iastore, 1) := by decide +kernel
theorem dX11_meets_15 : decode cX11_meets 15 = .ok (.bipush (-10), 2) := by decide +kernel
theorem dX11_meets_17 : decode cX11_meets 17 = .ok (.iload_n 1, 1) := by decide +kernel
theorem dX11_meets_18 : decode cX11_meets 18 = .ok (.isub, 1) := by decide +kernel
theorem dX11_meets_19 : decode cX11_meets 19 = .ok (.ireturn, 1) := by decide +kernel
theorem dX11_in_0 : decode cX11_in 0 = .ok (.lload_n 0, 1) := by decide +kernel
theorem dX11_in_1 : decode cX11_in 1 = .ok (.lload_n 2, 1) := by decide +kernel
theorem dX11_in_2 : decode cX11_in 2 = .ok (.lcmp, 1) := by decide +kernel
theorem dX11_in_3 : decode cX11_in 3 = .ok (.ifCond .lt 14, 3) := by decide +kernel
theorem dX11_in_6 : decode cX11_in 6 = .ok (.lload_n 0, 1) := by decide +kernel
theorem dX11_in_7 : decode cX11_in 7 = .ok (.lload 4, 2) := by decide +kernel
theorem dX11_in_9 : decode cX11_in 9 = .ok (.lcmp, 1) := by decide +kernel
theorem dX11_in_10 : decode cX11_in 10 = .ok (.ifCond .gt 7, 3) := by decide +kernel
theorem dX11_in_13 : decode cX11_in 13 = .ok (.iconst 1, 1) := by decide +kernel
theorem dX11_in_14 : decode cX11_in 14 = .ok (.goto 4, 3) := by decide +kernel
theorem dX11_in_17 : decode cX11_in 17 = .ok (.iconst 0, 1) := by decide +kernel
theorem dX11_in_18 : decode cX11_in 18 = .ok (.ireturn, 1) := by decide +kernel
theorem dX11_isGap_0 : decode cX11_isGap 0 = .ok (.iload_n 0, 1) := by decide +kernel
theorem dX11_isGap_1 : decode cX11_isGap 1 = .ok (.bipush 6, 2) := by decide +kernel
theorem dX11_isGap_3 : decode cX11_isGap 3 = .ok (.if_icmp .ne 23, 3) := by decide +kernel
theorem dX11_isGap_6 : decode cX11_isGap 6 = .ok (.lload_n 1, 1) := by decide +kernel
theorem dX11_isGap_7 : decode cX11_isGap 7 = .ok (.ldc2_w 91, 3) := by decide +kernel
theorem dX11_isGap_10 : decode cX11_isGap 10 = .ok (.land, 1) := by decide +kernel
theorem dX11_isGap_11 : decode cX11_isGap 11 = .ok (.ldc2_w 93, 3) := by decide +kernel
theorem dX11_isGap_14 : decode cX11_isGap 14 = .ok (.lcmp, 1) := by decide +kernel
theorem dX11_isGap_15 : decode cX11_isGap 15 = .ok (.ifCond .le 7, 3) := by decide +kernel
theorem dX11_isGap_18 : decode cX11_isGap 18 = .ok (.iconst 1, 1) := by decide +kernel
theorem dX11_isGap_19 : decode cX11_isGap 19 = .ok (.goto 30, 3) := by decide +kernel
theorem dX11_isGap_22 : decode cX11_isGap 22 = .ok (.iconst 0, 1) := by decide +kernel
theorem dX11_isGap_23 : decode cX11_isGap 23 = .ok (.goto 26, 3) := by decide +kernel
theorem dX11_isGap_26 : decode cX11_isGap 26 = .ok (.iload_n 0, 1) := by decide +kernel
theorem dX11_isGap_27 : decode cX11_isGap 27 = .ok (.bipush 7, 2) := by decide +kernel
theorem dX11_isGap_29 : decode cX11_isGap 29 = .ok (.if_icmp .ne 19, 3) := by decide +kernel
theorem dX11_isGap_32 : decode cX11_isGap 32 = .ok (.lload_n 1, 1) := by decide +kernel
theorem dX11_isGap_33 : decode cX11_isGap 33 = .ok (.ldc2_w 95, 3) := by decide +kernel
theorem dX11_isGap_36 : decode cX11_isGap 36 = .ok (.land, 1) := by decide +kernel
theorem dX11_isGap_37 : decode cX11_isGap 37 = .ok (.ldc2_w 97, 3) := by decide +kernel
theorem dX11_isGap_40 : decode cX11_isGap 40 = .ok (.lcmp, 1) := by decide +kernel
theorem dX11_isGap_41 : decode cX11_isGap 41 = .ok (.ifCond .le 7, 3) := by decide +kernel
theorem dX11_isGap_44 : decode cX11_isGap 44 = .ok (.iconst 1, 1) := by decide +kernel
theorem dX11_isGap_45 : decode cX11_isGap 45 = .ok (.goto 4, 3) := by decide +kernel
theorem dX11_isGap_48 : decode cX11_isGap 48 = .ok (.iconst 0, 1) := by decide +kernel
theorem dX11_isGap_49 : decode cX11_isGap 49 = .ok (.ireturn, 1) := by decide +kernel
theorem dX11_cut_0 : decode cX11_cut 0 = .ok (.iload_n 0, 1) := by decide +kernel
theorem dX11_cut_1 : decode cX11_cut 1 = .ok (.tableswitch 104 0 7 #[47, 51, 56, 61, 66, 104, 70, 88], 47) := by decide +kernel
theorem dX11_cut_48 : decode cX11_cut 48 = .ok (.lload_n 1, 1) := by decide +kernel
theorem dX11_cut_49 : decode cX11_cut 49 = .ok (.lconst 1, 1) := by decide +kernel
theorem dX11_cut_50 : decode cX11_cut 50 = .ok (.land, 1) := by decide +kernel
theorem dX11_cut_51 : decode cX11_cut 51 = .ok (.lreturn, 1) := by decide +kernel
theorem dX11_cut_52 : decode cX11_cut 52 = .ok (.lload_n 1, 1) := by decide +kernel
theorem dX11_cut_53 : decode cX11_cut 53 = .ok (.l2i, 1) := by decide +kernel
theorem dX11_cut_54 : decode cX11_cut 54 = .ok (.i2b, 1) := by decide +kernel
theorem dX11_cut_55 : decode cX11_cut 55 = .ok (.i2l, 1) := by decide +kernel
theorem dX11_cut_56 : decode cX11_cut 56 = .ok (.lreturn, 1) := by decide +kernel
theorem dX11_cut_57 : decode cX11_cut 57 = .ok (.lload_n 1, 1) := by decide +kernel
theorem dX11_cut_58 : decode cX11_cut 58 = .ok (.l2i, 1) := by decide +kernel
theorem dX11_cut_59 : decode cX11_cut 59 = .ok (.i2c, 1) := by decide +kernel
theorem dX11_cut_60 : decode cX11_cut 60 = .ok (.i2l, 1) := by decide +kernel
theorem dX11_cut_61 : decode cX11_cut 61 = .ok (.lreturn, 1) := by decide +kernel
theorem dX11_cut_62 : decode cX11_cut 62 = .ok (.lload_n 1, 1) := by decide +kernel
theorem dX11_cut_63 : decode cX11_cut 63 = .ok (.l2i, 1) := by decide +kernel
theorem dX11_cut_64 : decode cX11_cut 64 = .ok (.i2s, 1) := by decide +kernel
theorem dX11_cut_65 : decode cX11_cut 65 = .ok (.i2l, 1) := by decide +kernel
theorem dX11_cut_66 : decode cX11_cut 66 = .ok (.lreturn, 1) := by decide +kernel
theorem dX11_cut_67 : decode cX11_cut 67 = .ok (.lload_n 1, 1) := by decide +kernel
theorem dX11_cut_68 : decode cX11_cut 68 = .ok (.l2i, 1) := by decide +kernel
theorem dX11_cut_69 : decode cX11_cut 69 = .ok (.i2l, 1) := by decide +kernel
theorem dX11_cut_70 : decode cX11_cut 70 = .ok (.lreturn, 1) := by decide +kernel
theorem dX11_cut_71 : decode cX11_cut 71 = .ok (.iload_n 0, 1) := by decide +kernel
theorem dX11_cut_72 : decode cX11_cut 72 = .ok (.lload_n 1, 1) := by decide +kernel
theorem dX11_cut_73 : decode cX11_cut 73 = .ok (.invokestatic 99, 3) := by decide +kernel
theorem dX11_cut_76 : decode cX11_cut 76 = .ok (.ifCond .eq 9, 3) := by decide +kernel
theorem dX11_cut_79 : decode cX11_cut 79 = .ok (.ldc2_w 103, 3) := by decide +kernel
theorem dX11_cut_82 : decode cX11_cut 82 = .ok (.goto 6, 3) := by decide +kernel
theorem dX11_cut_85 : decode cX11_cut 85 = .ok (.lload_n 1, 1) := by decide +kernel
theorem dX11_cut_86 : decode cX11_cut 86 = .ok (.l2i, 1) := by decide +kernel
theorem dX11_cut_87 : decode cX11_cut 87 = .ok (.i2l, 1) := by decide +kernel
theorem dX11_cut_88 : decode cX11_cut 88 = .ok (.lreturn, 1) := by decide +kernel
theorem dX11_cut_89 : decode cX11_cut 89 = .ok (.iload_n 0, 1) := by decide +kernel
theorem dX11_cut_90 : decode cX11_cut 90 = .ok (.lload_n 1, 1) := by decide +kernel
theorem dX11_cut_91 : decode cX11_cut 91 = .ok (.invokestatic 99, 3) := by decide +kernel
theorem dX11_cut_94 : decode cX11_cut 94 = .ok (.ifCond .eq 9, 3) := by decide +kernel
theorem dX11_cut_97 : decode cX11_cut 97 = .ok (.ldc2_w 105, 3) := by decide +kernel
theorem dX11_cut_100 : decode cX11_cut 100 = .ok (.goto 4, 3) := by decide +kernel
theorem dX11_cut_103 : decode cX11_cut 103 = .ok (.lload_n 1, 1) := by decide +kernel
theorem dX11_cut_104 : decode cX11_cut 104 = .ok (.lreturn, 1) := by decide +kernel
theorem dX11_cut_105 : decode cX11_cut 105 = .ok (.lload_n 1, 1) := by decide +kernel
theorem dX11_cut_106 : decode cX11_cut 106 = .ok (.lreturn, 1) := by decide +kernel
theorem dX11_real_0 : decode cX11_real 0 = .ok (.iload_n 0, 1) := by decide +kernel
theorem dX11_real_1 : decode cX11_real 1 = .ok (.bipush 6, 2) := by decide +kernel
theorem dX11_real_3 : decode cX11_real 3 = .ok (.if_icmp .ne 12, 3) := by decide +kernel
theorem dX11_real_6 : decode cX11_real 6 = .ok (.lload_n 1, 1) := by decide +kernel
theorem dX11_real_7 : decode cX11_real 7 = .ok (.l2i, 1) := by decide +kernel
theorem dX11_real_8 : decode cX11_real 8 = .ok (.invokestatic 107, 3) := by decide +kernel
theorem dX11_real_11 : decode cX11_real 11 = .ok (.f2d, 1) := by decide +kernel
theorem dX11_real_12 : decode cX11_real 12 = .ok (.goto 7, 3) := by decide +kernel
theorem dX11_real_15 : decode cX11_real 15 = .ok (.lload_n 1, 1) := by decide +kernel
theorem dX11_real_16 : decode cX11_real 16 = .ok (.invokestatic 113, 3) := by decide +kernel
theorem dX11_real_19 : decode cX11_real 19 = .ok (.dreturn, 1) := by decide +kernel
theorem dX11_wordOf_0 : decode cX11_wordOf 0 = .ok (.iload_n 0, 1) := by decide +kernel
theorem dX11_wordOf_1 : decode cX11_wordOf 1 = .ok (.iload_n 0, 1) := by decide +kernel
theorem dX11_wordOf_2 : decode cX11_wordOf 2 = .ok (.bipush 6, 2) := by decide +kernel
theorem dX11_wordOf_4 : decode cX11_wordOf 4 = .ok (.if_icmp .ne 12, 3) := by decide +kernel
theorem dX11_wordOf_7 : decode cX11_wordOf 7 = .ok (.dload_n 1, 1) := by decide +kernel
theorem dX11_wordOf_8 : decode cX11_wordOf 8 = .ok (.d2f, 1) := by decide +kernel
theorem dX11_wordOf_9 : decode cX11_wordOf 9 = .ok (.invokestatic 119, 3) := by decide +kernel
theorem dX11_wordOf_12 : decode cX11_wordOf 12 = .ok (.i2l, 1) := by decide +kernel
theorem dX11_wordOf_13 : decode cX11_wordOf 13 = .ok (.goto 7, 3) := by decide +kernel
theorem dX11_wordOf_16 : decode cX11_wordOf 16 = .ok (.dload_n 1, 1) := by decide +kernel
theorem dX11_wordOf_17 : decode cX11_wordOf 17 = .ok (.invokestatic 123, 3) := by decide +kernel
theorem dX11_wordOf_20 : decode cX11_wordOf 20 = .ok (.invokestatic 127, 3) := by decide +kernel
theorem dX11_wordOf_23 : decode cX11_wordOf 23 = .ok (.lreturn, 1) := by decide +kernel
theorem dX11_isBelow_0 : decode cX11_isBelow 0 = .ok (.iload_n 0, 1) := by decide +kernel
theorem dX11_isBelow_1 : decode cX11_isBelow 1 = .ok (.bipush 6, 2) := by decide +kernel
theorem dX11_isBelow_3 : decode cX11_isBelow 3 = .ok (.if_icmp .ge 17, 3) := by decide +kernel
theorem dX11_isBelow_6 : decode cX11_isBelow 6 = .ok (.lload_n 1, 1) := by decide +kernel
theorem dX11_isBelow_7 : decode cX11_isBelow 7 = .ok (.lload_n 3, 1) := by decide +kernel
theorem dX11_isBelow_8 : decode cX11_isBelow 8 = .ok (.lcmp, 1) := by decide +kernel
theorem dX11_isBelow_9 : decode cX11_isBelow 9 = .ok (.ifCond .ge 7, 3) := by decide +kernel
theorem dX11_isBelow_12 : decode cX11_isBelow 12 = .ok (.iconst 1, 1) := by decide +kernel
theorem dX11_isBelow_13 : decode cX11_isBelow 13 = .ok (.goto 26, 3) := by decide +kernel
theorem dX11_isBelow_16 : decode cX11_isBelow 16 = .ok (.iconst 0, 1) := by decide +kernel
theorem dX11_isBelow_17 : decode cX11_isBelow 17 = .ok (.goto 22, 3) := by decide +kernel
theorem dX11_isBelow_20 : decode cX11_isBelow 20 = .ok (.iload_n 0, 1) := by decide +kernel
theorem dX11_isBelow_21 : decode cX11_isBelow 21 = .ok (.lload_n 1, 1) := by decide +kernel
theorem dX11_isBelow_22 : decode cX11_isBelow 22 = .ok (.invokestatic 131, 3) := by decide +kernel
theorem dX11_isBelow_25 : decode cX11_isBelow 25 = .ok (.iload_n 0, 1) := by decide +kernel
theorem dX11_isBelow_26 : decode cX11_isBelow 26 = .ok (.lload_n 3, 1) := by decide +kernel
theorem dX11_isBelow_27 : decode cX11_isBelow 27 = .ok (.invokestatic 131, 3) := by decide +kernel
theorem dX11_isBelow_30 : decode cX11_isBelow 30 = .ok (.dcmp .g, 1) := by decide +kernel
theorem dX11_isBelow_31 : decode cX11_isBelow 31 = .ok (.ifCond .ge 7, 3) := by decide +kernel
theorem dX11_isBelow_34 : decode cX11_isBelow 34 = .ok (.iconst 1, 1) := by decide +kernel
theorem dX11_isBelow_35 : decode cX11_isBelow 35 = .ok (.goto 4, 3) := by decide +kernel
theorem dX11_isBelow_38 : decode cX11_isBelow 38 = .ok (.iconst 0, 1) := by decide +kernel
theorem dX11_isBelow_39 : decode cX11_isBelow 39 = .ok (.ireturn, 1) := by decide +kernel
theorem dX11_isLike_0 : decode cX11_isLike 0 = .ok (.iload_n 0, 1) := by decide +kernel
theorem dX11_isLike_1 : decode cX11_isLike 1 = .ok (.bipush 6, 2) := by decide +kernel
theorem dX11_isLike_3 : decode cX11_isLike 3 = .ok (.if_icmp .ge 17, 3) := by decide +kernel
theorem dX11_isLike_6 : decode cX11_isLike 6 = .ok (.lload_n 1, 1) := by decide +kernel
theorem dX11_isLike_7 : decode cX11_isLike 7 = .ok (.lload_n 3, 1) := by decide +kernel
theorem dX11_isLike_8 : decode cX11_isLike 8 = .ok (.lcmp, 1) := by decide +kernel
theorem dX11_isLike_9 : decode cX11_isLike 9 = .ok (.ifCond .ne 7, 3) := by decide +kernel
theorem dX11_isLike_12 : decode cX11_isLike 12 = .ok (.iconst 1, 1) := by decide +kernel
theorem dX11_isLike_13 : decode cX11_isLike 13 = .ok (.goto 26, 3) := by decide +kernel
theorem dX11_isLike_16 : decode cX11_isLike 16 = .ok (.iconst 0, 1) := by decide +kernel
theorem dX11_isLike_17 : decode cX11_isLike 17 = .ok (.goto 22, 3) := by decide +kernel
theorem dX11_isLike_20 : decode cX11_isLike 20 = .ok (.iload_n 0, 1) := by decide +kernel
theorem dX11_isLike_21 : decode cX11_isLike 21 = .ok (.lload_n 1, 1) := by decide +kernel
theorem dX11_isLike_22 : decode cX11_isLike 22 = .ok (.invokestatic 131, 3) := by decide +kernel
theorem dX11_isLike_25 : decode cX11_isLike 25 = .ok (.iload_n 0, 1) := by decide +kernel
theorem dX11_isLike_26 : decode cX11_isLike 26 = .ok (.lload_n 3, 1) := by decide +kernel
theorem dX11_isLike_27 : decode cX11_isLike 27 = .ok (.invokestatic 131, 3) := by decide +kernel
theorem dX11_isLike_30 : decode cX11_isLike 30 = .ok (.dcmp .l, 1) := by decide +kernel
theorem dX11_isLike_31 : decode cX11_isLike 31 = .ok (.ifCond .ne 7, 3) := by decide +kernel
theorem dX11_isLike_34 : decode cX11_isLike 34 = .ok (.iconst 1, 1) := by decide +kernel
theorem dX11_isLike_35 : decode cX11_isLike 35 = .ok (.goto 4, 3) := by decide +kernel
theorem dX11_isLike_38 : decode cX11_isLike 38 = .ok (.iconst 0, 1) := by decide +kernel
theorem dX11_isLike_39 : decode cX11_isLike 39 = .ok (.ireturn, 1) := by decide +kernel
theorem dX11_rank_0 : decode cX11_rank 0 = .ok (.iload_n 0, 1) := by decide +kernel
theorem dX11_rank_1 : decode cX11_rank 1 = .ok (.bipush 6, 2) := by decide +kernel
theorem dX11_rank_3 : decode cX11_rank 3 = .ok (.if_icmp .lt 9, 3) := by decide +kernel
theorem dX11_rank_6 : decode cX11_rank 6 = .ok (.lload_n 1, 1) := by decide +kernel
theorem dX11_rank_7 : decode cX11_rank 7 = .ok (.lconst 0, 1) := by decide +kernel
theorem dX11_rank_8 : decode cX11_rank 8 = .ok (.lcmp, 1) := by decide +kernel
theorem dX11_rank_9 : decode cX11_rank 9 = .ok (.ifCond .lt 7, 3) := by decide +kernel
theorem dX11_rank_12 : decode cX11_rank 12 = .ok (.lload_n 1, 1) := by decide +kernel
theorem dX11_rank_13 : decode cX11_rank 13 = .ok (.goto 30, 3) := by decide +kernel
theorem dX11_rank_16 : decode cX11_rank 16 = .ok (.iload_n 0, 1) := by decide +kernel
theorem dX11_rank_17 : decode cX11_rank 17 = .ok (.bipush 6, 2) := by decide +kernel
theorem dX11_rank_19 : decode cX11_rank 19 = .ok (.if_icmp .ne 15, 3) := by decide +kernel
theorem dX11_rank_22 : decode cX11_rank 22 = .ok (.ldc2_w 135, 3) := by decide +kernel
theorem dX11_rank_25 : decode cX11_rank 25 = .ok (.lload_n 1, 1) := by decide +kernel
theorem dX11_rank_26 : decode cX11_rank 26 = .ok (.ldc2_w 91, 3) := by decide +kernel
theorem dX11_rank_29 : decode cX11_rank 29 = .ok (.land, 1) := by decide +kernel
theorem dX11_rank_30 : decode cX11_rank 30 = .ok (.lsub, 1) := by decide +kernel
theorem dX11_rank_31 : decode cX11_rank 31 = .ok (.goto 12, 3) := by decide +kernel
theorem dX11_rank_34 : decode cX11_rank 34 = .ok (.ldc2_w 135, 3) := by decide +kernel
theorem dX11_rank_37 : decode cX11_rank 37 = .ok (.lload_n 1, 1) := by decide +kernel
theorem dX11_rank_38 : decode cX11_rank 38 = .ok (.ldc2_w 95, 3) := by decide +kernel
theorem dX11_rank_41 : decode cX11_rank 41 = .ok (.land, 1) := by decide +kernel
theorem dX11_rank_42 : decode cX11_rank 42 = .ok (.lsub, 1) := by decide +kernel
theorem dX11_rank_43 : decode cX11_rank 43 = .ok (.lreturn, 1) := by decide +kernel
theorem dX11_isRow_0 : decode cX11_isRow 0 = .ok (.iload_n 1, 1) := by decide +kernel
theorem dX11_isRow_1 : decode cX11_isRow 1 = .ok (.i2l, 1) := by decide +kernel
theorem dX11_isRow_2 : decode cX11_isRow 2 = .ok (.lconst 0, 1) := by decide +kernel
theorem dX11_isRow_3 : decode cX11_isRow 3 = .ok (.aload_n 0, 1) := by decide +kernel
theorem dX11_isRow_4 : decode cX11_isRow 4 = .ok (.getfield 137, 3) := by decide +kernel
theorem dX11_isRow_7 : decode cX11_isRow 7 = .ok (.iconst 1, 1) := by decide +kernel
theorem dX11_isRow_8 : decode cX11_isRow 8 = .ok (.isub, 1) := by decide +kernel
theorem dX11_isRow_9 : decode cX11_isRow 9 = .ok (.i2l, 1) := by decide +kernel
theorem dX11_isRow_10 : decode cX11_isRow 10 = .ok (.invokestatic 140, 3) := by decide +kernel
theorem dX11_isRow_13 : decode cX11_isRow 13 = .ok (.ireturn, 1) := by decide +kernel
theorem dX11_newRow_0 : decode cX11_newRow 0 = .ok (.aload_n 0, 1) := by decide +kernel
theorem dX11_newRow_1 : decode cX11_newRow 1 = .ok (.getfield 13, 3) := by decide +kernel
theorem dX11_newRow_4 : decode cX11_newRow 4 = .ok (.aload_n 0, 1) := by decide +kernel
theorem dX11_newRow_5 : decode cX11_newRow 5 = .ok (.getfield 137, 3) := by decide +kernel
theorem dX11_newRow_8 : decode cX11_newRow 8 = .ok (.iload_n 1, 1) := by decide +kernel
theorem dX11_newRow_9 : decode cX11_newRow 9 = .ok (.iastore, 1) := by decide +kernel
theorem dX11_newRow_10 : decode cX11_newRow 10 = .ok (.aload_n 0, 1) := by decide +kernel
theorem dX11_newRow_11 : decode cX11_newRow 11 = .ok (.getfield 16, 3) := by decide +kernel
theorem dX11_newRow_14 : decode cX11_newRow 14 = .ok (.aload_n 0, 1) := by decide +kernel
theorem dX11_newRow_15 : decode cX11_newRow 15 = .ok (.getfield 137, 3) := by decide +kernel
theorem dX11_newRow_18 : decode cX11_newRow 18 = .ok (.iload_n 2, 1) := by decide +kernel
theorem dX11_newRow_19 : decode cX11_newRow 19 = .ok (.iastore, 1) := by decide +kernel
theorem dX11_newRow_20 : decode cX11_newRow 20 = .ok (.aload_n 0, 1) := by decide +kernel
theorem dX11_newRow_21 : decode cX11_newRow 21 = .ok (.getfield 19, 3) := by decide +kernel
theorem dX11_newRow_24 : decode cX11_newRow 24 = .ok (.aload_n 0, 1) := by decide +kernel
theorem dX11_newRow_25 : decode cX11_newRow 25 = .ok (.getfield 137, 3) := by decide +kernel
theorem dX11_newRow_28 : decode cX11_newRow 28 = .ok (.iconst 0, 1) := by decide +kernel
theorem dX11_newRow_29 : decode cX11_newRow 29 = .ok (.bastore, 1) := by decide +kernel
theorem dX11_newRow_30 : decode cX11_newRow 30 = .ok (.iconst 0, 1) := by decide +kernel
theorem dX11_newRow_31 : decode cX11_newRow 31 = .ok (.istore_n 3, 1) := by decide +kernel
theorem dX11_newRow_32 : decode cX11_newRow 32 = .ok (.iload_n 3, 1) := by decide +kernel
theorem dX11_newRow_33 : decode cX11_newRow 33 = .ok (.bipush 24, 2) := by decide +kernel
theorem dX11_newRow_35 : decode cX11_newRow 35 = .ok (.if_icmp .ge 24, 3) := by decide +kernel
theorem dX11_newRow_38 : decode cX11_newRow 38 = .ok (.aload_n 0, 1) := by decide +kernel
theorem dX11_newRow_39 : decode cX11_newRow 39 = .ok (.getfield 23, 3) := by decide +kernel
theorem dX11_newRow_42 : decode cX11_newRow 42 = .ok (.bipush 24, 2) := by decide +kernel
theorem dX11_newRow_44 : decode cX11_newRow 44 = .ok (.aload_n 0, 1) := by decide +kernel
theorem dX11_newRow_45 : decode cX11_newRow 45 = .ok (.getfield 137, 3) := by decide +kernel
theorem dX11_newRow_48 : decode cX11_newRow 48 = .ok (.imul, 1) := by decide +kernel
theorem dX11_newRow_49 : decode cX11_newRow 49 = .ok (.iload_n 3, 1) := by decide +kernel
theorem dX11_newRow_50 : decode cX11_newRow 50 = .ok (.iadd, 1) := by decide +kernel
theorem dX11_newRow_51 : decode cX11_newRow 51 = .ok (.lconst 0, 1) := by decide +kernel
theorem dX11_newRow_52 : decode cX11_newRow 52 = .ok (.lastore, 1) := by decide +kernel
theorem dX11_newRow_53 : decode cX11_newRow 53 = .ok (.iinc 3 1, 3) := by decide +kernel
theorem dX11_newRow_56 : decode cX11_newRow 56 = .ok (.goto (-24), 3) := by decide +kernel
theorem dX11_newRow_59 : decode cX11_newRow 59 = .ok (.aload_n 0, 1) := by decide +kernel
theorem dX11_newRow_60 : decode cX11_newRow 60 = .ok (.dup, 1) := by decide +kernel
theorem dX11_newRow_61 : decode cX11_newRow 61 = .ok (.getfield 137, 3) := by decide +kernel
theorem dX11_newRow_64 : decode cX11_newRow 64 = .ok (.iconst 1, 1) := by decide +kernel
theorem dX11_newRow_65 : decode cX11_newRow 65 = .ok (.iadd, 1) := by decide +kernel
theorem dX11_newRow_66 : decode cX11_newRow 66 = .ok (.putfield 137, 3) := by decide +kernel
theorem dX11_newRow_69 : decode cX11_newRow 69 = .ok (.aload_n 0, 1) := by decide +kernel
theorem dX11_newRow_70 : decode cX11_newRow 70 = .ok (.getfield 137, 3) := by decide +kernel
theorem dX11_newRow_73 : decode cX11_newRow 73 = .ok (.iconst 1, 1) := by decide +kernel
theorem dX11_newRow_74 : decode cX11_newRow 74 = .ok (.isub, 1) := by decide +kernel
theorem dX11_newRow_75 : decode cX11_newRow 75 = .ok (.ireturn, 1) := by decide +kernel
theorem dX11_row_0 : decode cX11_row 0 = .ok (.iload_n 1, 1) := by decide +kernel
theorem dX11_row_1 : decode cX11_row 1 = .ok (.i2l, 1) := by decide +kernel
theorem dX11_row_2 : decode cX11_row 2 = .ok (.lconst 0, 1) := by decide +kernel
theorem dX11_row_3 : decode cX11_row 3 = .ok (.ldc2_w 144, 3) := by decide +kernel
theorem dX11_row_6 : decode cX11_row 6 = .ok (.invokestatic 140, 3) := by decide +kernel
theorem dX11_row_9 : decode cX11_row 9 = .ok (.ifCond .eq 9, 3) := by decide +kernel
theorem dX11_row_12 : decode cX11_row 12 = .ok (.iload_n 2, 1) := by decide +kernel
theorem dX11_row_13 : decode cX11_row 13 = .ok (.bipush 24, 2) := by decide +kernel
theorem dX11_row_15 : decode cX11_row 15 = .ok (.if_icmp .le 6, 3) := by decide +kernel
theorem dX11_row_18 : decode cX11_row 18 = .ok (.bipush (-102), 2) := by decide +kernel
theorem dX11_row_20 : decode cX11_row 20 = .ok (.ireturn, 1) := by decide +kernel
theorem dX11_row_21 : decode cX11_row 21 = .ok (.aload_n 0, 1) := by decide +kernel
theorem dX11_row_22 : decode cX11_row 22 = .ok (.getfield 137, 3) := by decide +kernel
theorem dX11_row_25 : decode cX11_row 25 = .ok (.bipush 60, 2) := by decide +kernel
theorem dX11_row_27 : decode cX11_row 27 = .ok (.if_icmp .ne 6, 3) := by decide +kernel
theorem dX11_row_30 : decode cX11_row 30 = .ok (.bipush (-104), 2) := by decide +kernel
theorem dX11_row_32 : decode cX11_row 32 = .ok (.ireturn, 1) := by decide +kernel
theorem dX11_row_33 : decode cX11_row 33 = .ok (.iload_n 2, 1) := by decide +kernel
theorem dX11_row_34 : decode cX11_row 34 = .ok (.ifCond .ge 11, 3) := by decide +kernel
theorem dX11_row_37 : decode cX11_row 37 = .ok (.aload_n 0, 1) := by decide +kernel
theorem dX11_row_38 : decode cX11_row 38 = .ok (.iconst 4, 1) := by decide +kernel
theorem dX11_row_39 : decode cX11_row 39 = .ok (.invokevirtual 146, 3) := by decide +kernel
theorem dX11_row_42 : decode cX11_row 42 = .ok (.goto 9, 3) := by decide +kernel
theorem dX11_row_45 : decode cX11_row 45 = .ok (.aload_n 0, 1) := by decide +kernel
theorem dX11_row_46 : decode cX11_row 46 = .ok (.iload_n 1, 1) := by decide +kernel
theorem dX11_row_47 : decode cX11_row 47 = .ok (.iload_n 2, 1) := by decide +kernel
theorem dX11_row_48 : decode cX11_row 48 = .ok (.invokevirtual 150, 3) := by decide +kernel
theorem dX11_row_51 : decode cX11_row 51 = .ok (.ireturn, 1) := by decide +kernel
theorem dX11_lose_0 : decode cX11_lose 0 = .ok (.aload_n 0, 1) := by decide +kernel
theorem dX11_lose_1 : decode cX11_lose 1 = .ok (.iload_n 1, 1) := by decide +kernel
theorem dX11_lose_2 : decode cX11_lose 2 = .ok (.invokevirtual 154, 3) := by decide +kernel
theorem dX11_lose_5 : decode cX11_lose 5 = .ok (.ifCond .ne 6, 3) := by decide +kernel
theorem dX11_lose_8 : decode cX11_lose 8 = .ok (.bipush (-101), 2) := by decide +kernel
theorem dX11_lose_10 : decode cX11_lose 10 = .ok (.ireturn, 1) := by decide +kernel
theorem dX11_lose_11 : decode cX11_lose 11 = .ok (.aload_n 0, 1) := by decide +kernel
theorem dX11_lose_12 : decode cX11_lose 12 = .ok (.getfield 19, 3) := by decide +kernel
theorem dX11_lose_15 : decode cX11_lose 15 = .ok (.iload_n 1, 1) := by decide +kernel
theorem dX11_lose_16 : decode cX11_lose 16 = .ok (.baload, 1) := by decide +kernel
theorem dX11_lose_17 : decode cX11_lose 17 = .ok (.ifCond .eq 9, 3) := by decide +kernel
theorem dX11_lose_20 : decode cX11_lose 20 = .ok (.aload_n 0, 1) := by decide +kernel
theorem dX11_lose_21 : decode cX11_lose 21 = .ok (.iconst 1, 1) := by decide +kernel
theorem dX11_lose_22 : decode cX11_lose 22 = .ok (.invokevirtual 146, 3) := by decide +kernel
theorem dX11_lose_25 : decode cX11_lose 25 = .ok (.ireturn, 1) := by decide +kernel
theorem dX11_lose_26 : decode cX11_lose 26 = .ok (.aload_n 0, 1) := by decide +kernel
theorem dX11_lose_27 : decode cX11_lose 27 = .ok (.getfield 19, 3) := by decide +kernel
theorem dX11_lose_30 : decode cX11_lose 30 = .ok (.iload_n 1, 1) := by decide +kernel
theorem dX11_lose_31 : decode cX11_lose 31 = .ok (.iconst 1, 1) := by decide +kernel
theorem dX11_lose_32 : decode cX11_lose 32 = .ok (.bastore, 1) := by decide +kernel
theorem dX11_lose_33 : decode cX11_lose 33 = .ok (.aload_n 0, 1) := by decide +kernel
theorem dX11_lose_34 : decode cX11_lose 34 = .ok (.getfield 16, 3) := by decide +kernel
theorem dX11_lose_37 : decode cX11_lose 37 = .ok (.iload_n 1, 1) := by decide +kernel
theorem dX11_lose_38 : decode cX11_lose 38 = .ok (.iaload, 1) := by decide +kernel
theorem dX11_lose_39 : decode cX11_lose 39 = .ok (.ireturn, 1) := by decide +kernel
theorem dX11_kind_0 : decode cX11_kind 0 = .ok (.aload_n 0, 1) := by decide +kernel
theorem dX11_kind_1 : decode cX11_kind 1 = .ok (.iload_n 1, 1) := by decide +kernel
theorem dX11_kind_2 : decode cX11_kind 2 = .ok (.invokevirtual 154, 3) := by decide +kernel
theorem dX11_kind_5 : decode cX11_kind 5 = .ok (.ifCond .eq 12, 3) := by decide +kernel
theorem dX11_kind_8 : decode cX11_kind 8 = .ok (.aload_n 0, 1) := by decide +kernel
theorem dX11_kind_9 : decode cX11_kind 9 = .ok (.getfield 13, 3) := by decide +kernel
theorem dX11_kind_12 : decode cX11_kind 12 = .ok (.iload_n 1, 1) := by decide +kernel
theorem dX11_kind_13 : decode cX11_kind 13 = .ok (.iaload, 1) := by decide +kernel
theorem dX11_kind_14 : decode cX11_kind 14 = .ok (.goto 5, 3) := by decide +kernel
theorem dX11_kind_17 : decode cX11_kind 17 = .ok (.bipush (-101), 2) := by decide +kernel
theorem dX11_kind_19 : decode cX11_kind 19 = .ok (.ireturn, 1) := by decide +kernel
theorem dX11_length_0 : decode cX11_length 0 = .ok (.aload_n 0, 1) := by decide +kernel
theorem dX11_length_1 : decode cX11_length 1 = .ok (.iload_n 1, 1) := by decide +kernel
theorem dX11_length_2 : decode cX11_length 2 = .ok (.invokevirtual 154, 3) := by decide +kernel
theorem dX11_length_5 : decode cX11_length 5 = .ok (.ifCond .ne 6, 3) := by decide +kernel
theorem dX11_length_8 : decode cX11_length 8 = .ok (.bipush (-101), 2) := by decide +kernel
theorem dX11_length_10 : decode cX11_length 10 = .ok (.ireturn, 1) := by decide +kernel
theorem dX11_length_11 : decode cX11_length 11 = .ok (.aload_n 0, 1) := by decide +kernel
theorem dX11_length_12 : decode cX11_length 12 = .ok (.getfield 19, 3) := by decide +kernel
theorem dX11_length_15 : decode cX11_length 15 = .ok (.iload_n 1, 1) := by decide +kernel
theorem dX11_length_16 : decode cX11_length 16 = .ok (.baload, 1) := by decide +kernel
theorem dX11_length_17 : decode cX11_length 17 = .ok (.ifCond .eq 11, 3) := by decide +kernel
theorem dX11_length_20 : decode cX11_length 20 = .ok (.aload_n 0, 1) := by decide +kernel
theorem dX11_length_21 : decode cX11_length 21 = .ok (.iconst 1, 1) := by decide +kernel
theorem dX11_length_22 : decode cX11_length 22 = .ok (.invokevirtual 146, 3) := by decide +kernel
theorem dX11_length_25 : decode cX11_length 25 = .ok (.goto 9, 3) := by decide +kernel
theorem dX11_length_28 : decode cX11_length 28 = .ok (.aload_n 0, 1) := by decide +kernel
theorem dX11_length_29 : decode cX11_length 29 = .ok (.getfield 16, 3) := by decide +kernel
theorem dX11_length_32 : decode cX11_length 32 = .ok (.iload_n 1, 1) := by decide +kernel
theorem dX11_length_33 : decode cX11_length 33 = .ok (.iaload, 1) := by decide +kernel
theorem dX11_length_34 : decode cX11_length 34 = .ok (.ireturn, 1) := by decide +kernel
theorem dX11_against_0 : decode cX11_against 0 = .ok (.aload_n 0, 1) := by decide +kernel
theorem dX11_against_1 : decode cX11_against 1 = .ok (.iload_n 1, 1) := by decide +kernel
theorem dX11_against_2 : decode cX11_against 2 = .ok (.invokevirtual 154, 3) := by decide +kernel
theorem dX11_against_5 : decode cX11_against 5 = .ok (.ifCond .ne 8, 3) := by decide +kernel
theorem dX11_against_8 : decode cX11_against 8 = .ok (.bipush (-101), 2) := by decide +kernel
theorem dX11_against_10 : decode cX11_against 10 = .ok (.goto 47, 3) := by decide +kernel
theorem dX11_against_13 : decode cX11_against 13 = .ok (.aload_n 0, 1) := by decide +kernel
theorem dX11_against_14 : decode cX11_against 14 = .ok (.getfield 19, 3) := by decide +kernel
theorem dX11_against_17 : decode cX11_against 17 = .ok (.iload_n 1, 1) := by decide +kernel
theorem dX11_against_18 : decode cX11_against 18 = .ok (.baload, 1) := by decide +kernel
theorem dX11_against_19 : decode cX11_against 19 = .ok (.ifCond .eq 11, 3) := by decide +kernel
theorem dX11_against_22 : decode cX11_against 22 = .ok (.aload_n 0, 1) := by decide +kernel
theorem dX11_against_23 : decode cX11_against 23 = .ok (.iconst 1, 1) := by decide +kernel
theorem dX11_against_24 : decode cX11_against 24 = .ok (.invokevirtual 146, 3) := by decide +kernel
theorem dX11_against_27 : decode cX11_against 27 = .ok (.goto 30, 3) := by decide +kernel
theorem dX11_against_30 : decode cX11_against 30 = .ok (.iload_n 2, 1) := by decide +kernel
theorem dX11_against_31 : decode cX11_against 31 = .ok (.i2l, 1) := by decide +kernel
theorem dX11_against_32 : decode cX11_against 32 = .ok (.lconst 0, 1) := by decide +kernel
theorem dX11_against_33 : decode cX11_against 33 = .ok (.aload_n 0, 1) := by decide +kernel
theorem dX11_against_34 : decode cX11_against 34 = .ok (.getfield 16, 3) := by decide +kernel
theorem dX11_against_37 : decode cX11_against 37 = .ok (.iload_n 1, 1) := by decide +kernel
theorem dX11_against_38 : decode cX11_against 38 = .ok (.iaload, 1) := by decide +kernel
theorem dX11_against_39 : decode cX11_against 39 = .ok (.iconst 1, 1) := by decide +kernel
theorem dX11_against_40 : decode cX11_against 40 = .ok (.isub, 1) := by decide +kernel
theorem dX11_against_41 : decode cX11_against 41 = .ok (.i2l, 1) := by decide +kernel
theorem dX11_against_42 : decode cX11_against 42 = .ok (.invokestatic 140, 3) := by decide +kernel
theorem dX11_against_45 : decode cX11_against 45 = .ok (.ifCond .ne 11, 3) := by decide +kernel
theorem dX11_against_48 : decode cX11_against 48 = .ok (.aload_n 0, 1) := by decide +kernel
theorem dX11_against_49 : decode cX11_against 49 = .ok (.iconst 2, 1) := by decide +kernel
theorem dX11_against_50 : decode cX11_against 50 = .ok (.invokevirtual 146, 3) := by decide +kernel
theorem dX11_against_53 : decode cX11_against 53 = .ok (.goto 4, 3) := by decide +kernel
theorem dX11_against_56 : decode cX11_against 56 = .ok (.iconst 0, 1) := by decide +kernel
theorem dX11_against_57 : decode cX11_against 57 = .ok (.ireturn, 1) := by decide +kernel
theorem dX11_put_0 : decode cX11_put 0 = .ok (.aload_n 0, 1) := by decide +kernel
theorem dX11_put_1 : decode cX11_put 1 = .ok (.iload_n 1, 1) := by decide +kernel
theorem dX11_put_2 : decode cX11_put 2 = .ok (.iload_n 2, 1) := by decide +kernel
theorem dX11_put_3 : decode cX11_put 3 = .ok (.invokevirtual 158, 3) := by decide +kernel
theorem dX11_put_6 : decode cX11_put 6 = .ok (.istore 5, 2) := by decide +kernel
theorem dX11_put_8 : decode cX11_put 8 = .ok (.iload 5, 2) := by decide +kernel
theorem dX11_put_10 : decode cX11_put 10 = .ok (.ifCond .ne 24, 3) := by decide +kernel
theorem dX11_put_13 : decode cX11_put 13 = .ok (.aload_n 0, 1) := by decide +kernel
theorem dX11_put_14 : decode cX11_put 14 = .ok (.getfield 23, 3) := by decide +kernel
theorem dX11_put_17 : decode cX11_put 17 = .ok (.bipush 24, 2) := by decide +kernel
theorem dX11_put_19 : decode cX11_put 19 = .ok (.iload_n 1, 1) := by decide +kernel
theorem dX11_put_20 : decode cX11_put 20 = .ok (.imul, 1) := by decide +kernel
theorem dX11_put_21 : decode cX11_put 21 = .ok (.iload_n 2, 1) := by decide +kernel
theorem dX11_put_22 : decode cX11_put 22 = .ok (.iadd, 1) := by decide +kernel
theorem dX11_put_23 : decode cX11_put 23 = .ok (.aload_n 0, 1) := by decide +kernel
theorem dX11_put_24 : decode cX11_put 24 = .ok (.getfield 13, 3) := by decide +kernel
theorem dX11_put_27 : decode cX11_put 27 = .ok (.iload_n 1, 1) := by decide +kernel
theorem dX11_put_28 : decode cX11_put 28 = .ok (.iaload, 1) := by decide +kernel
theorem dX11_put_29 : decode cX11_put 29 = .ok (.lload_n 3, 1) := by decide +kernel
theorem dX11_put_30 : decode cX11_put 30 = .ok (.invokestatic 127, 3) := by decide +kernel
theorem dX11_put_33 : decode cX11_put 33 = .ok (.lastore, 1) := by decide +kernel
theorem dX11_put_34 : decode cX11_put 34 = .ok (.iload 5, 2) := by decide +kernel
theorem dX11_put_36 : decode cX11_put 36 = .ok (.ireturn, 1) := by decide +kernel
theorem dX11_get_0 : decode cX11_get 0 = .ok (.aload_n 0, 1) := by decide +kernel
theorem dX11_get_1 : decode cX11_get 1 = .ok (.iload_n 1, 1) := by decide +kernel
theorem dX11_get_2 : decode cX11_get 2 = .ok (.iload_n 2, 1) := by decide +kernel
theorem dX11_get_3 : decode cX11_get 3 = .ok (.invokevirtual 158, 3) := by decide +kernel
theorem dX11_get_6 : decode cX11_get 6 = .ok (.istore_n 3, 1) := by decide +kernel
theorem dX11_get_7 : decode cX11_get 7 = .ok (.iload_n 3, 1) := by decide +kernel
theorem dX11_get_8 : decode cX11_get 8 = .ok (.ifCond .ne 18, 3) := by decide +kernel
theorem dX11_get_11 : decode cX11_get 11 = .ok (.aload_n 0, 1) := by decide +kernel
theorem dX11_get_12 : decode cX11_get 12 = .ok (.aload_n 0, 1) := by decide +kernel
theorem dX11_get_13 : decode cX11_get 13 = .ok (.getfield 23, 3) := by decide +kernel
theorem dX11_get_16 : decode cX11_get 16 = .ok (.bipush 24, 2) := by decide +kernel
theorem dX11_get_18 : decode cX11_get 18 = .ok (.iload_n 1, 1) := by decide +kernel
theorem dX11_get_19 : decode cX11_get 19 = .ok (.imul, 1) := by decide +kernel
theorem dX11_get_20 : decode cX11_get 20 = .ok (.iload_n 2, 1) := by decide +kernel
theorem dX11_get_21 : decode cX11_get 21 = .ok (.iadd, 1) := by decide +kernel
theorem dX11_get_22 : decode cX11_get 22 = .ok (.laload, 1) := by decide +kernel
theorem dX11_get_23 : decode cX11_get 23 = .ok (.putfield 161, 3) := by decide +kernel
theorem dX11_get_26 : decode cX11_get 26 = .ok (.iload_n 3, 1) := by decide +kernel
theorem dX11_get_27 : decode cX11_get 27 = .ok (.ireturn, 1) := by decide +kernel
theorem dX11_copy_0 : decode cX11_copy 0 = .ok (.aload_n 0, 1) := by decide +kernel
theorem dX11_copy_1 : decode cX11_copy 1 = .ok (.iload_n 1, 1) := by decide +kernel
theorem dX11_copy_2 : decode cX11_copy 2 = .ok (.invokevirtual 154, 3) := by decide +kernel
theorem dX11_copy_5 : decode cX11_copy 5 = .ok (.ifCond .eq 11, 3) := by decide +kernel
theorem dX11_copy_8 : decode cX11_copy 8 = .ok (.aload_n 0, 1) := by decide +kernel
theorem dX11_copy_9 : decode cX11_copy 9 = .ok (.iload_n 3, 1) := by decide +kernel
theorem dX11_copy_10 : decode cX11_copy 10 = .ok (.invokevirtual 154, 3) := by decide +kernel
theorem dX11_copy_13 : decode cX11_copy 13 = .ok (.ifCond .ne 6, 3) := by decide +kernel
theorem dX11_copy_16 : decode cX11_copy 16 = .ok (.bipush (-101), 2) := by decide +kernel
theorem dX11_copy_18 : decode cX11_copy 18 = .ok (.ireturn, 1) := by decide +kernel
theorem dX11_copy_19 : decode cX11_copy 19 = .ok (.aload_n 0, 1) := by decide +kernel
theorem dX11_copy_20 : decode cX11_copy 20 = .ok (.getfield 13, 3) := by decide +kernel
theorem dX11_copy_23 : decode cX11_copy 23 = .ok (.iload_n 1, 1) := by decide +kernel
theorem dX11_copy_24 : decode cX11_copy 24 = .ok (.iaload, 1) := by decide +kernel
theorem dX11_copy_25 : decode cX11_copy 25 = .ok (.aload_n 0, 1) := by decide +kernel
theorem dX11_copy_26 : decode cX11_copy 26 = .ok (.getfield 13, 3) := by decide +kernel
theorem dX11_copy_29 : decode cX11_copy 29 = .ok (.iload_n 3, 1) := by decide +kernel
theorem dX11_copy_30 : decode cX11_copy 30 = .ok (.iaload, 1) := by decide +kernel
theorem dX11_copy_31 : decode cX11_copy 31 = .ok (.if_icmp .eq 9, 3) := by decide +kernel
theorem dX11_copy_34 : decode cX11_copy 34 = .ok (.aload_n 0, 1) := by decide +kernel
theorem dX11_copy_35 : decode cX11_copy 35 = .ok (.iconst 3, 1) := by decide +kernel
theorem dX11_copy_36 : decode cX11_copy 36 = .ok (.invokevirtual 146, 3) := by decide +kernel
theorem dX11_copy_39 : decode cX11_copy 39 = .ok (.ireturn, 1) := by decide +kernel
theorem dX11_copy_40 : decode cX11_copy 40 = .ok (.aload_n 0, 1) := by decide +kernel
theorem dX11_copy_41 : decode cX11_copy 41 = .ok (.getfield 19, 3) := by decide +kernel
theorem dX11_copy_44 : decode cX11_copy 44 = .ok (.iload_n 1, 1) := by decide +kernel
theorem dX11_copy_45 : decode cX11_copy 45 = .ok (.baload, 1) := by decide +kernel
theorem dX11_copy_46 : decode cX11_copy 46 = .ok (.ifCond .ne 12, 3) := by decide +kernel
theorem dX11_copy_49 : decode cX11_copy 49 = .ok (.aload_n 0, 1) := by decide +kernel
theorem dX11_copy_50 : decode cX11_copy 50 = .ok (.getfield 19, 3) := by decide +kernel
theorem dX11_copy_53 : decode cX11_copy 53 = .ok (.iload_n 3, 1) := by decide +kernel
theorem dX11_copy_54 : decode cX11_copy 54 = .ok (.baload, 1) := by decide +kernel
theorem dX11_copy_55 : decode cX11_copy 55 = .ok (.ifCond .eq 9, 3) := by decide +kernel
theorem dX11_copy_58 : decode cX11_copy 58 = .ok (.aload_n 0, 1) := by decide +kernel
theorem dX11_copy_59 : decode cX11_copy 59 = .ok (.iconst 1, 1) := by decide +kernel
theorem dX11_copy_60 : decode cX11_copy 60 = .ok (.invokevirtual 146, 3) := by decide +kernel
theorem dX11_copy_63 : decode cX11_copy 63 = .ok (.ireturn, 1) := by decide +kernel
theorem dX11_copy_64 : decode cX11_copy 64 = .ok (.iload_n 2, 1) := by decide +kernel
theorem dX11_copy_65 : decode cX11_copy 65 = .ok (.ifCond .lt 48, 3) := by decide +kernel
theorem dX11_copy_68 : decode cX11_copy 68 = .ok (.iload 4, 2) := by decide +kernel
theorem dX11_copy_70 : decode cX11_copy 70 = .ok (.ifCond .lt 43, 3) := by decide +kernel
theorem dX11_copy_73 : decode cX11_copy 73 = .ok (.iload 5, 2) := by decide +kernel
theorem dX11_copy_75 : decode cX11_copy 75 = .ok (.ifCond .lt 38, 3) := by decide +kernel
theorem dX11_copy_78 : decode cX11_copy 78 = .ok (.iload_n 2, 1) := by decide +kernel
theorem dX11_copy_79 : decode cX11_copy 79 = .ok (.i2l, 1) := by decide +kernel
theorem dX11_copy_80 : decode cX11_copy 80 = .ok (.iload 5, 2) := by decide +kernel
theorem dX11_copy_82 : decode cX11_copy 82 = .ok (.i2l, 1) := by decide +kernel
theorem dX11_copy_83 : decode cX11_copy 83 = .ok (.ladd, 1) := by decide +kernel
theorem dX11_copy_84 : decode cX11_copy 84 = .ok (.aload_n 0, 1) := by decide +kernel
theorem dX11_copy_85 : decode cX11_copy 85 = .ok (.getfield 16, 3) := by decide +kernel
theorem dX11_copy_88 : decode cX11_copy 88 = .ok (.iload_n 1, 1) := by decide +kernel
theorem dX11_copy_89 : decode cX11_copy 89 = .ok (.iaload, 1) := by decide +kernel
theorem dX11_copy_90 : decode cX11_copy 90 = .ok (.i2l, 1) := by decide +kernel
theorem dX11_copy_91 : decode cX11_copy 91 = .ok (.lcmp, 1) := by decide +kernel
theorem dX11_copy_92 : decode cX11_copy 92 = .ok (.ifCond .gt 21, 3) := by decide +kernel
theorem dX11_copy_95 : decode cX11_copy 95 = .ok (.iload 4, 2) := by decide +kernel
theorem dX11_copy_97 : decode cX11_copy 97 = .ok (.i2l, 1) := by decide +kernel
theorem dX11_copy_98 : decode cX11_copy 98 = .ok (.iload 5, 2) := by decide +kernel
theorem dX11_copy_100 : decode cX11_copy 100 = .ok (.i2l, 1) := by decide +kernel
theorem dX11_copy_101 : decode cX11_copy 101 = .ok (.ladd, 1) := by decide +kernel
theorem dX11_copy_102 : decode cX11_copy 102 = .ok (.aload_n 0, 1) := by decide +kernel
theorem dX11_copy_103 : decode cX11_copy 103 = .ok (.getfield 16, 3) := by decide +kernel
theorem dX11_copy_106 : decode cX11_copy 106 = .ok (.iload_n 3, 1) := by decide +kernel
theorem dX11_copy_107 : decode cX11_copy 107 = .ok (.iaload, 1) := by decide +kernel
theorem dX11_copy_108 : decode cX11_copy 108 = .ok (.i2l, 1) := by decide +kernel
theorem dX11_copy_109 : decode cX11_copy 109 = .ok (.lcmp, 1) := by decide +kernel
theorem dX11_copy_110 : decode cX11_copy 110 = .ok (.ifCond .le 9, 3) := by decide +kernel
theorem dX11_copy_113 : decode cX11_copy 113 = .ok (.aload_n 0, 1) := by decide +kernel
theorem dX11_copy_114 : decode cX11_copy 114 = .ok (.iconst 2, 1) := by decide +kernel
theorem dX11_copy_115 : decode cX11_copy 115 = .ok (.invokevirtual 146, 3) := by decide +kernel
theorem dX11_copy_118 : decode cX11_copy 118 = .ok (.ireturn, 1) := by decide +kernel
theorem dX11_copy_119 : decode cX11_copy 119 = .ok (.iconst 0, 1) := by decide +kernel
theorem dX11_copy_120 : decode cX11_copy 120 = .ok (.istore 6, 2) := by decide +kernel
theorem dX11_copy_122 : decode cX11_copy 122 = .ok (.iload 6, 2) := by decide +kernel
theorem dX11_copy_124 : decode cX11_copy 124 = .ok (.iload 5, 2) := by decide +kernel
theorem dX11_copy_126 : decode cX11_copy 126 = .ok (.if_icmp .ge 30, 3) := by decide +kernel
theorem dX11_copy_129 : decode cX11_copy 129 = .ok (.aload_n 0, 1) := by decide +kernel
theorem dX11_copy_130 : decode cX11_copy 130 = .ok (.getfield 27, 3) := by decide +kernel
theorem dX11_copy_133 : decode cX11_copy 133 = .ok (.iload 6, 2) := by decide +kernel
theorem dX11_copy_135 : decode cX11_copy 135 = .ok (.aload_n 0, 1) := by decide +kernel
theorem dX11_copy_136 : decode cX11_copy 136 = .ok (.getfield 23, 3) := by decide +kernel
theorem dX11_copy_139 : decode cX11_copy 139 = .ok (.bipush 24, 2) := by decide +kernel
theorem dX11_copy_141 : decode cX11_copy 141 = .ok (.iload_n 1, 1) := by decide +kernel
theorem dX11_copy_142 : decode cX11_copy 142 = .ok (.imul, 1) := by decide +kernel
theorem dX11_copy_143 : decode cX11_copy 143 = .ok (.iload_n 2, 1) := by decide +kernel
theorem dX11_copy_144 : decode cX11_copy 144 = .ok (.iadd, 1) := by decide +kernel
theorem dX11_copy_145 : decode cX11_copy 145 = .ok (.iload 6, 2) := by decide +kernel
theorem dX11_copy_147 : decode cX11_copy 147 = .ok (.iadd, 1) := by decide +kernel
theorem dX11_copy_148 : decode cX11_copy 148 = .ok (.laload, 1) := by decide +kernel
theorem dX11_copy_149 : decode cX11_copy 149 = .ok (.lastore, 1) := by decide +kernel
theorem dX11_copy_150 : decode cX11_copy 150 = .ok (.iinc 6 1, 3) := by decide +kernel
theorem dX11_copy_153 : decode cX11_copy 153 = .ok (.goto (-31), 3) := by decide +kernel
theorem dX11_copy_156 : decode cX11_copy 156 = .ok (.iconst 0, 1) := by decide +kernel
theorem dX11_copy_157 : decode cX11_copy 157 = .ok (.istore 6, 2) := by decide +kernel
theorem dX11_copy_159 : decode cX11_copy 159 = .ok (.iload 6, 2) := by decide +kernel
theorem dX11_copy_161 : decode cX11_copy 161 = .ok (.iload 5, 2) := by decide +kernel
theorem dX11_copy_163 : decode cX11_copy 163 = .ok (.if_icmp .ge 31, 3) := by decide +kernel
theorem dX11_copy_166 : decode cX11_copy 166 = .ok (.aload_n 0, 1) := by decide +kernel
theorem dX11_copy_167 : decode cX11_copy 167 = .ok (.getfield 23, 3) := by decide +kernel
theorem dX11_copy_170 : decode cX11_copy 170 = .ok (.bipush 24, 2) := by decide +kernel
theorem dX11_copy_172 : decode cX11_copy 172 = .ok (.iload_n 3, 1) := by decide +kernel
theorem dX11_copy_173 : decode cX11_copy 173 = .ok (.imul, 1) := by decide +kernel
theorem dX11_copy_174 : decode cX11_copy 174 = .ok (.iload 4, 2) := by decide +kernel
theorem dX11_copy_176 : decode cX11_copy 176 = .ok (.iadd, 1) := by decide +kernel
theorem dX11_copy_177 : decode cX11_copy 177 = .ok (.iload 6, 2) := by decide +kernel
theorem dX11_copy_179 : decode cX11_copy 179 = .ok (.iadd, 1) := by decide +kernel
theorem dX11_copy_180 : decode cX11_copy 180 = .ok (.aload_n 0, 1) := by decide +kernel
theorem dX11_copy_181 : decode cX11_copy 181 = .ok (.getfield 27, 3) := by decide +kernel
theorem dX11_copy_184 : decode cX11_copy 184 = .ok (.iload 6, 2) := by decide +kernel
theorem dX11_copy_186 : decode cX11_copy 186 = .ok (.laload, 1) := by decide +kernel
theorem dX11_copy_187 : decode cX11_copy 187 = .ok (.lastore, 1) := by decide +kernel
theorem dX11_copy_188 : decode cX11_copy 188 = .ok (.iinc 6 1, 3) := by decide +kernel
theorem dX11_copy_191 : decode cX11_copy 191 = .ok (.goto (-32), 3) := by decide +kernel
theorem dX11_copy_194 : decode cX11_copy 194 = .ok (.iconst 0, 1) := by decide +kernel
theorem dX11_copy_195 : decode cX11_copy 195 = .ok (.ireturn, 1) := by decide +kernel
theorem dX11_compare_0 : decode cX11_compare 0 = .ok (.aload_n 0, 1) := by decide +kernel
theorem dX11_compare_1 : decode cX11_compare 1 = .ok (.iload_n 1, 1) := by decide +kernel
theorem dX11_compare_2 : decode cX11_compare 2 = .ok (.iload_n 2, 1) := by decide +kernel
theorem dX11_compare_3 : decode cX11_compare 3 = .ok (.invokevirtual 158, 3) := by decide +kernel
theorem dX11_compare_6 : decode cX11_compare 6 = .ok (.istore 4, 2) := by decide +kernel
theorem dX11_compare_8 : decode cX11_compare 8 = .ok (.iload 4, 2) := by decide +kernel
theorem dX11_compare_10 : decode cX11_compare 10 = .ok (.ifCond .eq 6, 3) := by decide +kernel
theorem dX11_compare_13 : decode cX11_compare 13 = .ok (.iload 4, 2) := by decide +kernel
theorem dX11_compare_15 : decode cX11_compare 15 = .ok (.ireturn, 1) := by decide +kernel
theorem dX11_compare_16 : decode cX11_compare 16 = .ok (.iload_n 3, 1) := by decide +kernel
theorem dX11_compare_17 : decode cX11_compare 17 = .ok (.i2l, 1) := by decide +kernel
theorem dX11_compare_18 : decode cX11_compare 18 = .ok (.lconst 0, 1) := by decide +kernel
theorem dX11_compare_19 : decode cX11_compare 19 = .ok (.aload_n 0, 1) := by decide +kernel
theorem dX11_compare_20 : decode cX11_compare 20 = .ok (.getfield 16, 3) := by decide +kernel
theorem dX11_compare_23 : decode cX11_compare 23 = .ok (.iload_n 1, 1) := by decide +kernel
theorem dX11_compare_24 : decode cX11_compare 24 = .ok (.iaload, 1) := by decide +kernel
theorem dX11_compare_25 : decode cX11_compare 25 = .ok (.iconst 1, 1) := by decide +kernel
theorem dX11_compare_26 : decode cX11_compare 26 = .ok (.isub, 1) := by decide +kernel
theorem dX11_compare_27 : decode cX11_compare 27 = .ok (.i2l, 1) := by decide +kernel
theorem dX11_compare_28 : decode cX11_compare 28 = .ok (.invokestatic 140, 3) := by decide +kernel
theorem dX11_compare_31 : decode cX11_compare 31 = .ok (.ifCond .ne 9, 3) := by decide +kernel
theorem dX11_compare_34 : decode cX11_compare 34 = .ok (.aload_n 0, 1) := by decide +kernel
theorem dX11_compare_35 : decode cX11_compare 35 = .ok (.iconst 2, 1) := by decide +kernel
theorem dX11_compare_36 : decode cX11_compare 36 = .ok (.invokevirtual 146, 3) := by decide +kernel
theorem dX11_compare_39 : decode cX11_compare 39 = .ok (.ireturn, 1) := by decide +kernel
theorem dX11_compare_40 : decode cX11_compare 40 = .ok (.aload_n 0, 1) := by decide +kernel
theorem dX11_compare_41 : decode cX11_compare 41 = .ok (.getfield 13, 3) := by decide +kernel
theorem dX11_compare_44 : decode cX11_compare 44 = .ok (.iload_n 1, 1) := by decide +kernel
theorem dX11_compare_45 : decode cX11_compare 45 = .ok (.iaload, 1) := by decide +kernel
theorem dX11_compare_46 : decode cX11_compare 46 = .ok (.istore 5, 2) := by decide +kernel
theorem dX11_compare_48 : decode cX11_compare 48 = .ok (.aload_n 0, 1) := by decide +kernel
theorem dX11_compare_49 : decode cX11_compare 49 = .ok (.getfield 23, 3) := by decide +kernel
theorem dX11_compare_52 : decode cX11_compare 52 = .ok (.bipush 24, 2) := by decide +kernel
theorem dX11_compare_54 : decode cX11_compare 54 = .ok (.iload_n 1, 1) := by decide +kernel
theorem dX11_compare_55 : decode cX11_compare 55 = .ok (.imul, 1) := by decide +kernel
theorem dX11_compare_56 : decode cX11_compare 56 = .ok (.iload_n 2, 1) := by decide +kernel
theorem dX11_compare_57 : decode cX11_compare 57 = .ok (.iadd, 1) := by decide +kernel
theorem dX11_compare_58 : decode cX11_compare 58 = .ok (.laload, 1) := by decide +kernel
theorem dX11_compare_59 : decode cX11_compare 59 = .ok (.lstore 6, 2) := by decide +kernel
theorem dX11_compare_61 : decode cX11_compare 61 = .ok (.aload_n 0, 1) := by decide +kernel
theorem dX11_compare_62 : decode cX11_compare 62 = .ok (.getfield 23, 3) := by decide +kernel
theorem dX11_compare_65 : decode cX11_compare 65 = .ok (.bipush 24, 2) := by decide +kernel
theorem dX11_compare_67 : decode cX11_compare 67 = .ok (.iload_n 1, 1) := by decide +kernel
theorem dX11_compare_68 : decode cX11_compare 68 = .ok (.imul, 1) := by decide +kernel
theorem dX11_compare_69 : decode cX11_compare 69 = .ok (.iload_n 3, 1) := by decide +kernel
theorem dX11_compare_70 : decode cX11_compare 70 = .ok (.iadd, 1) := by decide +kernel
theorem dX11_compare_71 : decode cX11_compare 71 = .ok (.laload, 1) := by decide +kernel
theorem dX11_compare_72 : decode cX11_compare 72 = .ok (.lstore 8, 2) := by decide +kernel
theorem dX11_compare_74 : decode cX11_compare 74 = .ok (.iload 5, 2) := by decide +kernel
theorem dX11_compare_76 : decode cX11_compare 76 = .ok (.lload 6, 2) := by decide +kernel
theorem dX11_compare_78 : decode cX11_compare 78 = .ok (.invokestatic 99, 3) := by decide +kernel
theorem dX11_compare_81 : decode cX11_compare 81 = .ok (.ifCond .ne 13, 3) := by decide +kernel
theorem dX11_compare_84 : decode cX11_compare 84 = .ok (.iload 5, 2) := by decide +kernel
theorem dX11_compare_86 : decode cX11_compare 86 = .ok (.lload 8, 2) := by decide +kernel
theorem dX11_compare_88 : decode cX11_compare 88 = .ok (.invokestatic 99, 3) := by decide +kernel
theorem dX11_compare_91 : decode cX11_compare 91 = .ok (.ifCond .eq 6, 3) := by decide +kernel
theorem dX11_compare_94 : decode cX11_compare 94 = .ok (.bipush 32, 2) := by decide +kernel
theorem dX11_compare_96 : decode cX11_compare 96 = .ok (.ireturn, 1) := by decide +kernel
theorem dX11_compare_97 : decode cX11_compare 97 = .ok (.iload 5, 2) := by decide +kernel
theorem dX11_compare_99 : decode cX11_compare 99 = .ok (.lload 6, 2) := by decide +kernel
theorem dX11_compare_101 : decode cX11_compare 101 = .ok (.lload 8, 2) := by decide +kernel
theorem dX11_compare_103 : decode cX11_compare 103 = .ok (.invokestatic 165, 3) := by decide +kernel
theorem dX11_compare_106 : decode cX11_compare 106 = .ok (.ifCond .eq 8, 3) := by decide +kernel
theorem dX11_compare_109 : decode cX11_compare 109 = .ok (.bipush 26, 2) := by decide +kernel
theorem dX11_compare_111 : decode cX11_compare 111 = .ok (.goto 22, 3) := by decide +kernel
theorem dX11_compare_114 : decode cX11_compare 114 = .ok (.iload 5, 2) := by decide +kernel
theorem dX11_compare_116 : decode cX11_compare 116 = .ok (.lload 6, 2) := by decide +kernel
theorem dX11_compare_118 : decode cX11_compare 118 = .ok (.lload 8, 2) := by decide +kernel
theorem dX11_compare_120 : decode cX11_compare 120 = .ok (.invokestatic 169, 3) := by decide +kernel
theorem dX11_compare_123 : decode cX11_compare 123 = .ok (.ifCond .eq 8, 3) := by decide +kernel
theorem dX11_compare_126 : decode cX11_compare 126 = .ok (.bipush 35, 2) := by decide +kernel
theorem dX11_compare_128 : decode cX11_compare 128 = .ok (.goto 5, 3) := by decide +kernel
theorem dX11_compare_131 : decode cX11_compare 131 = .ok (.bipush 44, 2) := by decide +kernel
theorem dX11_compare_133 : decode cX11_compare 133 = .ok (.ireturn, 1) := by decide +kernel
theorem dX11_signOf_0 : decode cX11_signOf 0 = .ok (.iload_n 0, 1) := by decide +kernel
theorem dX11_signOf_1 : decode cX11_signOf 1 = .ok (.bipush 6, 2) := by decide +kernel
theorem dX11_signOf_3 : decode cX11_signOf 3 = .ok (.if_icmp .ne 9, 3) := by decide +kernel
theorem dX11_signOf_6 : decode cX11_signOf 6 = .ok (.ldc2_w 172, 3) := by decide +kernel
theorem dX11_signOf_9 : decode cX11_signOf 9 = .ok (.goto 6, 3) := by decide +kernel
theorem dX11_signOf_12 : decode cX11_signOf 12 = .ok (.ldc2_w 174, 3) := by decide +kernel
theorem dX11_signOf_15 : decode cX11_signOf 15 = .ok (.lreturn, 1) := by decide +kernel
theorem dX11_rounded_0 : decode cX11_rounded 0 = .ok (.iload_n 0, 1) := by decide +kernel
theorem dX11_rounded_1 : decode cX11_rounded 1 = .ok (.lload_n 1, 1) := by decide +kernel
theorem dX11_rounded_2 : decode cX11_rounded 2 = .ok (.invokestatic 131, 3) := by decide +kernel
theorem dX11_rounded_5 : decode cX11_rounded 5 = .ok (.dstore 4, 2) := by decide +kernel
theorem dX11_rounded_7 : decode cX11_rounded 7 = .ok (.dload 4, 2) := by decide +kernel
theorem dX11_rounded_9 : decode cX11_rounded 9 = .ok (.ldc2_w 176, 3) := by decide +kernel
theorem dX11_rounded_12 : decode cX11_rounded 12 = .ok (.dcmp .l, 1) := by decide +kernel
theorem dX11_rounded_13 : decode cX11_rounded 13 = .ok (.ifCond .ge 12, 3) := by decide +kernel
theorem dX11_rounded_16 : decode cX11_rounded 16 = .ok (.dload 4, 2) := by decide +kernel
theorem dX11_rounded_18 : decode cX11_rounded 18 = .ok (.ldc2_w 178, 3) := by decide +kernel
theorem dX11_rounded_21 : decode cX11_rounded 21 = .ok (.dcmp .g, 1) := by decide +kernel
theorem dX11_rounded_22 : decode cX11_rounded 22 = .ok (.ifCond .gt 5, 3) := by decide +kernel
theorem dX11_rounded_25 : decode cX11_rounded 25 = .ok (.lload_n 1, 1) := by decide +kernel
theorem dX11_rounded_26 : decode cX11_rounded 26 = .ok (.lreturn, 1) := by decide +kernel
theorem dX11_rounded_27 : decode cX11_rounded 27 = .ok (.dload 4, 2) := by decide +kernel
theorem dX11_rounded_29 : decode cX11_rounded 29 = .ok (.d2l, 1) := by decide +kernel
theorem dX11_rounded_30 : decode cX11_rounded 30 = .ok (.lstore 6, 2) := by decide +kernel
theorem dX11_rounded_32 : decode cX11_rounded 32 = .ok (.lload 6, 2) := by decide +kernel
theorem dX11_rounded_34 : decode cX11_rounded 34 = .ok (.l2d, 1) := by decide +kernel
theorem dX11_rounded_35 : decode cX11_rounded 35 = .ok (.dload 4, 2) := by decide +kernel
theorem dX11_rounded_37 : decode cX11_rounded 37 = .ok (.dcmp .l, 1) := by decide +kernel
theorem dX11_rounded_38 : decode cX11_rounded 38 = .ok (.ifCond .le 10, 3) := by decide +kernel
theorem dX11_rounded_41 : decode cX11_rounded 41 = .ok (.lload 6, 2) := by decide +kernel
theorem dX11_rounded_43 : decode cX11_rounded 43 = .ok (.lconst 1, 1) := by decide +kernel
theorem dX11_rounded_44 : decode cX11_rounded 44 = .ok (.lsub, 1) := by decide +kernel
theorem dX11_rounded_45 : decode cX11_rounded 45 = .ok (.goto 5, 3) := by decide +kernel
theorem dX11_rounded_48 : decode cX11_rounded 48 = .ok (.lload 6, 2) := by decide +kernel
theorem dX11_rounded_50 : decode cX11_rounded 50 = .ok (.lstore 8, 2) := by decide +kernel
theorem dX11_rounded_52 : decode cX11_rounded 52 = .ok (.lload 8, 2) := by decide +kernel
theorem dX11_rounded_54 : decode cX11_rounded 54 = .ok (.lstore 10, 2) := by decide +kernel
theorem dX11_rounded_56 : decode cX11_rounded 56 = .ok (.iload_n 3, 1) := by decide +kernel
theorem dX11_rounded_57 : decode cX11_rounded 57 = .ok (.iconst 2, 1) := by decide +kernel
theorem dX11_rounded_58 : decode cX11_rounded 58 = .ok (.if_icmp .ne 26, 3) := by decide +kernel
theorem dX11_rounded_61 : decode cX11_rounded 61 = .ok (.lload 8, 2) := by decide +kernel
theorem dX11_rounded_63 : decode cX11_rounded 63 = .ok (.l2d, 1) := by decide +kernel
theorem dX11_rounded_64 : decode cX11_rounded 64 = .ok (.dload 4, 2) := by decide +kernel
theorem dX11_rounded_66 : decode cX11_rounded 66 = .ok (.dcmp .l, 1) := by decide +kernel
theorem dX11_rounded_67 : decode cX11_rounded 67 = .ok (.ifCond .ne 8, 3) := by decide +kernel
theorem dX11_rounded_70 : decode cX11_rounded 70 = .ok (.lload 8, 2) := by decide +kernel
theorem dX11_rounded_72 : decode cX11_rounded 72 = .ok (.goto 7, 3) := by decide +kernel
theorem dX11_rounded_75 : decode cX11_rounded 75 = .ok (.lload 8, 2) := by decide +kernel
theorem dX11_rounded_77 : decode cX11_rounded 77 = .ok (.lconst 1, 1) := by decide +kernel
theorem dX11_rounded_78 : decode cX11_rounded 78 = .ok (.ladd, 1) := by decide +kernel
theorem dX11_rounded_79 : decode cX11_rounded 79 = .ok (.lstore 10, 2) := by decide +kernel
theorem dX11_rounded_81 : decode cX11_rounded 81 = .ok (.goto 54, 3) := by decide +kernel
theorem dX11_rounded_84 : decode cX11_rounded 84 = .ok (.iload_n 3, 1) := by decide +kernel
theorem dX11_rounded_85 : decode cX11_rounded 85 = .ok (.iconst 3, 1) := by decide +kernel
theorem dX11_rounded_86 : decode cX11_rounded 86 = .ok (.if_icmp .ne 49, 3) := by decide +kernel
theorem dX11_rounded_89 : decode cX11_rounded 89 = .ok (.dload 4, 2) := by decide +kernel
theorem dX11_rounded_91 : decode cX11_rounded 91 = .ok (.lload 8, 2) := by decide +kernel
theorem dX11_rounded_93 : decode cX11_rounded 93 = .ok (.l2d, 1) := by decide +kernel
theorem dX11_rounded_94 : decode cX11_rounded 94 = .ok (.dsub, 1) := by decide +kernel
theorem dX11_rounded_95 : decode cX11_rounded 95 = .ok (.dstore 12, 2) := by decide +kernel
theorem dX11_rounded_97 : decode cX11_rounded 97 = .ok (.dload 12, 2) := by decide +kernel
theorem dX11_rounded_99 : decode cX11_rounded 99 = .ok (.ldc2_w 180, 3) := by decide +kernel
theorem dX11_rounded_102 : decode cX11_rounded 102 = .ok (.dcmp .l, 1) := by decide +kernel
theorem dX11_rounded_103 : decode cX11_rounded 103 = .ok (.ifCond .gt 21, 3) := by decide +kernel
theorem dX11_rounded_106 : decode cX11_rounded 106 = .ok (.dload 12, 2) := by decide +kernel
theorem dX11_rounded_108 : decode cX11_rounded 108 = .ok (.ldc2_w 180, 3) := by decide +kernel
theorem dX11_rounded_111 : decode cX11_rounded 111 = .ok (.dcmp .l, 1) := by decide +kernel
theorem dX11_rounded_112 : decode cX11_rounded 112 = .ok (.ifCond .ne 19, 3) := by decide +kernel
theorem dX11_rounded_115 : decode cX11_rounded 115 = .ok (.lload 8, 2) := by decide +kernel
theorem dX11_rounded_117 : decode cX11_rounded 117 = .ok (.lconst 1, 1) := by decide +kernel
theorem dX11_rounded_118 : decode cX11_rounded 118 = .ok (.land, 1) := by decide +kernel
theorem dX11_rounded_119 : decode cX11_rounded 119 = .ok (.lconst 1, 1) := by decide +kernel
theorem dX11_rounded_120 : decode cX11_rounded 120 = .ok (.lcmp, 1) := by decide +kernel
theorem dX11_rounded_121 : decode cX11_rounded 121 = .ok (.ifCond .ne 10, 3) := by decide +kernel
theorem dX11_rounded_124 : decode cX11_rounded 124 = .ok (.lload 8, 2) := by decide +kernel
theorem dX11_rounded_126 : decode cX11_rounded 126 = .ok (.lconst 1, 1) := by decide +kernel
theorem dX11_rounded_127 : decode cX11_rounded 127 = .ok (.ladd, 1) := by decide +kernel
theorem dX11_rounded_128 : decode cX11_rounded 128 = .ok (.goto 5, 3) := by decide +kernel
theorem dX11_rounded_131 : decode cX11_rounded 131 = .ok (.lload 8, 2) := by decide +kernel
theorem dX11_rounded_133 : decode cX11_rounded 133 = .ok (.lstore 10, 2) := by decide +kernel
theorem dX11_rounded_135 : decode cX11_rounded 135 = .ok (.lload 10, 2) := by decide +kernel
theorem dX11_rounded_137 : decode cX11_rounded 137 = .ok (.lconst 0, 1) := by decide +kernel
theorem dX11_rounded_138 : decode cX11_rounded 138 = .ok (.lcmp, 1) := by decide +kernel
theorem dX11_rounded_139 : decode cX11_rounded 139 = .ok (.ifCond .ne 18, 3) := by decide +kernel
theorem dX11_rounded_142 : decode cX11_rounded 142 = .ok (.lload_n 1, 1) := by decide +kernel
theorem dX11_rounded_143 : decode cX11_rounded 143 = .ok (.lconst 0, 1) := by decide +kernel
theorem dX11_rounded_144 : decode cX11_rounded 144 = .ok (.lcmp, 1) := by decide +kernel
theorem dX11_rounded_145 : decode cX11_rounded 145 = .ok (.ifCond .ge 10, 3) := by decide +kernel
theorem dX11_rounded_148 : decode cX11_rounded 148 = .ok (.iload_n 0, 1) := by decide +kernel
theorem dX11_rounded_149 : decode cX11_rounded 149 = .ok (.invokestatic 182, 3) := by decide +kernel
theorem dX11_rounded_152 : decode cX11_rounded 152 = .ok (.goto 4, 3) := by decide +kernel
theorem dX11_rounded_155 : decode cX11_rounded 155 = .ok (.lconst 0, 1) := by decide +kernel
theorem dX11_rounded_156 : decode cX11_rounded 156 = .ok (.lreturn, 1) := by decide +kernel
theorem dX11_rounded_157 : decode cX11_rounded 157 = .ok (.iload_n 0, 1) := by decide +kernel
theorem dX11_rounded_158 : decode cX11_rounded 158 = .ok (.lload 10, 2) := by decide +kernel
theorem dX11_rounded_160 : decode cX11_rounded 160 = .ok (.l2d, 1) := by decide +kernel
theorem dX11_rounded_161 : decode cX11_rounded 161 = .ok (.invokestatic 186, 3) := by decide +kernel
theorem dX11_rounded_164 : decode cX11_rounded 164 = .ok (.lreturn, 1) := by decide +kernel
theorem dX11_shapedReal_0 : decode cX11_shapedReal 0 = .ok (.iload_n 0, 1) := by decide +kernel
theorem dX11_shapedReal_1 : decode cX11_shapedReal 1 = .ok (.lload_n 1, 1) := by decide +kernel
theorem dX11_shapedReal_2 : decode cX11_shapedReal 2 = .ok (.invokestatic 99, 3) := by decide +kernel
theorem dX11_shapedReal_5 : decode cX11_shapedReal 5 = .ok (.ifCond .eq 5, 3) := by decide +kernel
theorem dX11_shapedReal_8 : decode cX11_shapedReal 8 = .ok (.lload_n 1, 1) := by decide +kernel
theorem dX11_shapedReal_9 : decode cX11_shapedReal 9 = .ok (.lreturn, 1) := by decide +kernel
theorem dX11_shapedReal_10 : decode cX11_shapedReal 10 = .ok (.iload_n 3, 1) := by decide +kernel
theorem dX11_shapedReal_11 : decode cX11_shapedReal 11 = .ok (.ifCond .ne 23, 3) := by decide +kernel
theorem dX11_shapedReal_14 : decode cX11_shapedReal 14 = .ok (.iload_n 0, 1) := by decide +kernel
theorem dX11_shapedReal_15 : decode cX11_shapedReal 15 = .ok (.bipush 6, 2) := by decide +kernel
theorem dX11_shapedReal_17 : decode cX11_shapedReal 17 = .ok (.if_icmp .ne 11, 3) := by decide +kernel
theorem dX11_shapedReal_20 : decode cX11_shapedReal 20 = .ok (.lload_n 1, 1) := by decide +kernel
theorem dX11_shapedReal_21 : decode cX11_shapedReal 21 = .ok (.ldc2_w 91, 3) := by decide +kernel
theorem dX11_shapedReal_24 : decode cX11_shapedReal 24 = .ok (.land, 1) := by decide +kernel
theorem dX11_shapedReal_25 : decode cX11_shapedReal 25 = .ok (.goto 8, 3) := by decide +kernel
theorem dX11_shapedReal_28 : decode cX11_shapedReal 28 = .ok (.lload_n 1, 1) := by decide +kernel
theorem dX11_shapedReal_29 : decode cX11_shapedReal 29 = .ok (.ldc2_w 95, 3) := by decide +kernel
theorem dX11_shapedReal_32 : decode cX11_shapedReal 32 = .ok (.land, 1) := by decide +kernel
theorem dX11_shapedReal_33 : decode cX11_shapedReal 33 = .ok (.lreturn, 1) := by decide +kernel
theorem dX11_shapedReal_34 : decode cX11_shapedReal 34 = .ok (.iload_n 3, 1) := by decide +kernel
theorem dX11_shapedReal_35 : decode cX11_shapedReal 35 = .ok (.iconst 5, 1) := by decide +kernel
theorem dX11_shapedReal_36 : decode cX11_shapedReal 36 = .ok (.if_icmp .ne 10, 3) := by decide +kernel
theorem dX11_shapedReal_39 : decode cX11_shapedReal 39 = .ok (.lload_n 1, 1) := by decide +kernel
theorem dX11_shapedReal_40 : decode cX11_shapedReal 40 = .ok (.iload_n 0, 1) := by decide +kernel
theorem dX11_shapedReal_41 : decode cX11_shapedReal 41 = .ok (.invokestatic 182, 3) := by decide +kernel
theorem dX11_shapedReal_44 : decode cX11_shapedReal 44 = .ok (.lxor, 1) := by decide +kernel
theorem dX11_shapedReal_45 : decode cX11_shapedReal 45 = .ok (.lreturn, 1) := by decide +kernel
theorem dX11_shapedReal_46 : decode cX11_shapedReal 46 = .ok (.iload_n 3, 1) := by decide +kernel
theorem dX11_shapedReal_47 : decode cX11_shapedReal 47 = .ok (.iconst 4, 1) := by decide +kernel
theorem dX11_shapedReal_48 : decode cX11_shapedReal 48 = .ok (.if_icmp .ne 35, 3) := by decide +kernel
theorem dX11_shapedReal_51 : decode cX11_shapedReal 51 = .ok (.iload_n 0, 1) := by decide +kernel
theorem dX11_shapedReal_52 : decode cX11_shapedReal 52 = .ok (.lload_n 1, 1) := by decide +kernel
theorem dX11_shapedReal_53 : decode cX11_shapedReal 53 = .ok (.invokestatic 131, 3) := by decide +kernel
theorem dX11_shapedReal_56 : decode cX11_shapedReal 56 = .ok (.dconst 0, 1) := by decide +kernel
theorem dX11_shapedReal_57 : decode cX11_shapedReal 57 = .ok (.dcmp .l, 1) := by decide +kernel
theorem dX11_shapedReal_58 : decode cX11_shapedReal 58 = .ok (.ifCond .ne 7, 3) := by decide +kernel
theorem dX11_shapedReal_61 : decode cX11_shapedReal 61 = .ok (.lload_n 1, 1) := by decide +kernel
theorem dX11_shapedReal_62 : decode cX11_shapedReal 62 = .ok (.goto 20, 3) := by decide +kernel
theorem dX11_shapedReal_65 : decode cX11_shapedReal 65 = .ok (.iload_n 0, 1) := by decide +kernel
theorem dX11_shapedReal_66 : decode cX11_shapedReal 66 = .ok (.lload_n 1, 1) := by decide +kernel
theorem dX11_shapedReal_67 : decode cX11_shapedReal 67 = .ok (.lconst 0, 1) := by decide +kernel
theorem dX11_shapedReal_68 : decode cX11_shapedReal 68 = .ok (.lcmp, 1) := by decide +kernel
theorem dX11_shapedReal_69 : decode cX11_shapedReal 69 = .ok (.ifCond .ge 9, 3) := by decide +kernel
theorem dX11_shapedReal_72 : decode cX11_shapedReal 72 = .ok (.ldc2_w 190, 3) := by decide +kernel
theorem dX11_shapedReal_75 : decode cX11_shapedReal 75 = .ok (.goto 4, 3) := by decide +kernel
theorem dX11_shapedReal_78 : decode cX11_shapedReal 78 = .ok (.dconst 1, 1) := by decide +kernel
theorem dX11_shapedReal_79 : decode cX11_shapedReal 79 = .ok (.invokestatic 186, 3) := by decide +kernel
theorem dX11_shapedReal_82 : decode cX11_shapedReal 82 = .ok (.lreturn, 1) := by decide +kernel
theorem dX11_shapedReal_83 : decode cX11_shapedReal 83 = .ok (.iload_n 0, 1) := by decide +kernel
theorem dX11_shapedReal_84 : decode cX11_shapedReal 84 = .ok (.lload_n 1, 1) := by decide +kernel
theorem dX11_shapedReal_85 : decode cX11_shapedReal 85 = .ok (.iload_n 3, 1) := by decide +kernel
theorem dX11_shapedReal_86 : decode cX11_shapedReal 86 = .ok (.invokestatic 192, 3) := by decide +kernel
theorem dX11_shapedReal_89 : decode cX11_shapedReal 89 = .ok (.lreturn, 1) := by decide +kernel
theorem dX11_shape_0 : decode cX11_shape 0 = .ok (.aload_n 0, 1) := by decide +kernel
theorem dX11_shape_1 : decode cX11_shape 1 = .ok (.iload_n 1, 1) := by decide +kernel
theorem dX11_shape_2 : decode cX11_shape 2 = .ok (.invokevirtual 154, 3) := by decide +kernel
theorem dX11_shape_5 : decode cX11_shape 5 = .ok (.ifCond .ne 6, 3) := by decide +kernel
theorem dX11_shape_8 : decode cX11_shape 8 = .ok (.bipush (-101), 2) := by decide +kernel
theorem dX11_shape_10 : decode cX11_shape 10 = .ok (.ireturn, 1) := by decide +kernel
theorem dX11_shape_11 : decode cX11_shape 11 = .ok (.iload_n 3, 1) := by decide +kernel
theorem dX11_shape_12 : decode cX11_shape 12 = .ok (.i2l, 1) := by decide +kernel
theorem dX11_shape_13 : decode cX11_shape 13 = .ok (.lconst 0, 1) := by decide +kernel
theorem dX11_shape_14 : decode cX11_shape 14 = .ok (.ldc2_w 196, 3) := by decide +kernel
theorem dX11_shape_17 : decode cX11_shape 17 = .ok (.invokestatic 140, 3) := by decide +kernel
theorem dX11_shape_20 : decode cX11_shape 20 = .ok (.ifCond .ne 6, 3) := by decide +kernel
theorem dX11_shape_23 : decode cX11_shape 23 = .ok (.bipush (-102), 2) := by decide +kernel
theorem dX11_shape_25 : decode cX11_shape 25 = .ok (.ireturn, 1) := by decide +kernel
theorem dX11_shape_26 : decode cX11_shape 26 = .ok (.aload_n 0, 1) := by decide +kernel
theorem dX11_shape_27 : decode cX11_shape 27 = .ok (.getfield 13, 3) := by decide +kernel
theorem dX11_shape_30 : decode cX11_shape 30 = .ok (.iload_n 1, 1) := by decide +kernel
theorem dX11_shape_31 : decode cX11_shape 31 = .ok (.iaload, 1) := by decide +kernel
theorem dX11_shape_32 : decode cX11_shape 32 = .ok (.istore 4, 2) := by decide +kernel
theorem dX11_shape_34 : decode cX11_shape 34 = .ok (.iload_n 3, 1) := by decide +kernel
theorem dX11_shape_35 : decode cX11_shape 35 = .ok (.ifCond .eq 18, 3) := by decide +kernel
theorem dX11_shape_38 : decode cX11_shape 38 = .ok (.iload_n 3, 1) := by decide +kernel
theorem dX11_shape_39 : decode cX11_shape 39 = .ok (.iconst 5, 1) := by decide +kernel
theorem dX11_shape_40 : decode cX11_shape 40 = .ok (.if_icmp .eq 13, 3) := by decide +kernel
theorem dX11_shape_43 : decode cX11_shape 43 = .ok (.iload 4, 2) := by decide +kernel
theorem dX11_shape_45 : decode cX11_shape 45 = .ok (.bipush 6, 2) := by decide +kernel
theorem dX11_shape_47 : decode cX11_shape 47 = .ok (.if_icmp .ge 6, 3) := by decide +kernel
theorem dX11_shape_50 : decode cX11_shape 50 = .ok (.bipush (-103), 2) := by decide +kernel
theorem dX11_shape_52 : decode cX11_shape 52 = .ok (.ireturn, 1) := by decide +kernel
theorem dX11_shape_53 : decode cX11_shape 53 = .ok (.aload_n 0, 1) := by decide +kernel
theorem dX11_shape_54 : decode cX11_shape 54 = .ok (.iload_n 1, 1) := by decide +kernel
theorem dX11_shape_55 : decode cX11_shape 55 = .ok (.iload_n 2, 1) := by decide +kernel
theorem dX11_shape_56 : decode cX11_shape 56 = .ok (.invokevirtual 158, 3) := by decide +kernel
theorem dX11_shape_59 : decode cX11_shape 59 = .ok (.istore 5, 2) := by decide +kernel
theorem dX11_shape_61 : decode cX11_shape 61 = .ok (.iload 5, 2) := by decide +kernel
theorem dX11_shape_63 : decode cX11_shape 63 = .ok (.ifCond .eq 6, 3) := by decide +kernel
theorem dX11_shape_66 : decode cX11_shape 66 = .ok (.iload 5, 2) := by decide +kernel
theorem dX11_shape_68 : decode cX11_shape 68 = .ok (.ireturn, 1) := by decide +kernel
theorem dX11_shape_69 : decode cX11_shape 69 = .ok (.aload_n 0, 1) := by decide +kernel
theorem dX11_shape_70 : decode cX11_shape 70 = .ok (.getfield 23, 3) := by decide +kernel
theorem dX11_shape_73 : decode cX11_shape 73 = .ok (.bipush 24, 2) := by decide +kernel
theorem dX11_shape_75 : decode cX11_shape 75 = .ok (.iload_n 1, 1) := by decide +kernel
theorem dX11_shape_76 : decode cX11_shape 76 = .ok (.imul, 1) := by decide +kernel
theorem dX11_shape_77 : decode cX11_shape 77 = .ok (.iload_n 2, 1) := by decide +kernel
theorem dX11_shape_78 : decode cX11_shape 78 = .ok (.iadd, 1) := by decide +kernel
theorem dX11_shape_79 : decode cX11_shape 79 = .ok (.laload, 1) := by decide +kernel
theorem dX11_shape_80 : decode cX11_shape 80 = .ok (.lstore 6, 2) := by decide +kernel
theorem dX11_shape_82 : decode cX11_shape 82 = .ok (.iload 4, 2) := by decide +kernel
theorem dX11_shape_84 : decode cX11_shape 84 = .ok (.bipush 6, 2) := by decide +kernel
theorem dX11_shape_86 : decode cX11_shape 86 = .ok (.if_icmp .lt 18, 3) := by decide +kernel
theorem dX11_shape_89 : decode cX11_shape 89 = .ok (.aload_n 0, 1) := by decide +kernel
theorem dX11_shape_90 : decode cX11_shape 90 = .ok (.iload 4, 2) := by decide +kernel
theorem dX11_shape_92 : decode cX11_shape 92 = .ok (.lload 6, 2) := by decide +kernel
theorem dX11_shape_94 : decode cX11_shape 94 = .ok (.iload_n 3, 1) := by decide +kernel
theorem dX11_shape_95 : decode cX11_shape 95 = .ok (.invokestatic 198, 3) := by decide +kernel
theorem dX11_shape_98 : decode cX11_shape 98 = .ok (.putfield 161, 3) := by decide +kernel
theorem dX11_shape_101 : decode cX11_shape 101 = .ok (.goto 57, 3) := by decide +kernel
theorem dX11_shape_104 : decode cX11_shape 104 = .ok (.iload 4, 2) := by decide +kernel
theorem dX11_shape_106 : decode cX11_shape 106 = .ok (.ifCond .ne 23, 3) := by decide +kernel
theorem dX11_shape_109 : decode cX11_shape 109 = .ok (.aload_n 0, 1) := by decide +kernel
theorem dX11_shape_110 : decode cX11_shape 110 = .ok (.iload_n 3, 1) := by decide +kernel
theorem dX11_shape_111 : decode cX11_shape 111 = .ok (.ifCond .ne 8, 3) := by decide +kernel
theorem dX11_shape_114 : decode cX11_shape 114 = .ok (.lload 6, 2) := by decide +kernel
theorem dX11_shape_116 : decode cX11_shape 116 = .ok (.goto 7, 3) := by decide +kernel
theorem dX11_shape_119 : decode cX11_shape 119 = .ok (.lconst 1, 1) := by decide +kernel
theorem dX11_shape_120 : decode cX11_shape 120 = .ok (.lload 6, 2) := by decide +kernel
theorem dX11_shape_122 : decode cX11_shape 122 = .ok (.lsub, 1) := by decide +kernel
theorem dX11_shape_123 : decode cX11_shape 123 = .ok (.putfield 161, 3) := by decide +kernel
theorem dX11_shape_126 : decode cX11_shape 126 = .ok (.goto 32, 3) := by decide +kernel
theorem dX11_shape_129 : decode cX11_shape 129 = .ok (.aload_n 0, 1) := by decide +kernel
theorem dX11_shape_130 : decode cX11_shape 130 = .ok (.iload_n 3, 1) := by decide +kernel
theorem dX11_shape_131 : decode cX11_shape 131 = .ok (.iconst 5, 1) := by decide +kernel
theorem dX11_shape_132 : decode cX11_shape 132 = .ok (.if_icmp .eq 10, 3) := by decide +kernel
theorem dX11_shape_135 : decode cX11_shape 135 = .ok (.lload 6, 2) := by decide +kernel
theorem dX11_shape_137 : decode cX11_shape 137 = .ok (.lconst 0, 1) := by decide +kernel
theorem dX11_shape_138 : decode cX11_shape 138 = .ok (.lcmp, 1) := by decide +kernel
theorem dX11_shape_139 : decode cX11_shape 139 = .ok (.ifCond .ge 14, 3) := by decide +kernel
theorem dX11_shape_142 : decode cX11_shape 142 = .ok (.iload 4, 2) := by decide +kernel
theorem dX11_shape_144 : decode cX11_shape 144 = .ok (.lload 6, 2) := by decide +kernel
theorem dX11_shape_146 : decode cX11_shape 146 = .ok (.lneg, 1) := by decide +kernel
theorem dX11_shape_147 : decode cX11_shape 147 = .ok (.invokestatic 127, 3) := by decide +kernel
theorem dX11_shape_150 : decode cX11_shape 150 = .ok (.goto 5, 3) := by decide +kernel
theorem dX11_shape_153 : decode cX11_shape 153 = .ok (.lload 6, 2) := by decide +kernel
theorem dX11_shape_155 : decode cX11_shape 155 = .ok (.putfield 161, 3) := by decide +kernel
theorem dX11_shape_158 : decode cX11_shape 158 = .ok (.iconst 0, 1) := by decide +kernel
theorem dX11_shape_159 : decode cX11_shape 159 = .ok (.ireturn, 1) := by decide +kernel
theorem dX11_rest_0 : decode cX11_rest 0 = .ok (.aload_n 0, 1) := by decide +kernel
theorem dX11_rest_1 : decode cX11_rest 1 = .ok (.iload_n 1, 1) := by decide +kernel
theorem dX11_rest_2 : decode cX11_rest 2 = .ok (.iload_n 2, 1) := by decide +kernel
theorem dX11_rest_3 : decode cX11_rest 3 = .ok (.invokevirtual 158, 3) := by decide +kernel
theorem dX11_rest_6 : decode cX11_rest 6 = .ok (.istore 4, 2) := by decide +kernel
theorem dX11_rest_8 : decode cX11_rest 8 = .ok (.iload 4, 2) := by decide +kernel
theorem dX11_rest_10 : decode cX11_rest 10 = .ok (.ifCond .eq 6, 3) := by decide +kernel
theorem dX11_rest_13 : decode cX11_rest 13 = .ok (.iload 4, 2) := by decide +kernel
theorem dX11_rest_15 : decode cX11_rest 15 = .ok (.ireturn, 1) := by decide +kernel
theorem dX11_rest_16 : decode cX11_rest 16 = .ok (.iload_n 3, 1) := by decide +kernel
theorem dX11_rest_17 : decode cX11_rest 17 = .ok (.i2l, 1) := by decide +kernel
theorem dX11_rest_18 : decode cX11_rest 18 = .ok (.lconst 0, 1) := by decide +kernel
theorem dX11_rest_19 : decode cX11_rest 19 = .ok (.aload_n 0, 1) := by decide +kernel
theorem dX11_rest_20 : decode cX11_rest 20 = .ok (.getfield 16, 3) := by decide +kernel
theorem dX11_rest_23 : decode cX11_rest 23 = .ok (.iload_n 1, 1) := by decide +kernel
theorem dX11_rest_24 : decode cX11_rest 24 = .ok (.iaload, 1) := by decide +kernel
theorem dX11_rest_25 : decode cX11_rest 25 = .ok (.iconst 1, 1) := by decide +kernel
theorem dX11_rest_26 : decode cX11_rest 26 = .ok (.isub, 1) := by decide +kernel
theorem dX11_rest_27 : decode cX11_rest 27 = .ok (.i2l, 1) := by decide +kernel
theorem dX11_rest_28 : decode cX11_rest 28 = .ok (.invokestatic 140, 3) := by decide +kernel
theorem dX11_rest_31 : decode cX11_rest 31 = .ok (.ifCond .ne 9, 3) := by decide +kernel
theorem dX11_rest_34 : decode cX11_rest 34 = .ok (.aload_n 0, 1) := by decide +kernel
theorem dX11_rest_35 : decode cX11_rest 35 = .ok (.iconst 2, 1) := by decide +kernel
theorem dX11_rest_36 : decode cX11_rest 36 = .ok (.invokevirtual 146, 3) := by decide +kernel
theorem dX11_rest_39 : decode cX11_rest 39 = .ok (.ireturn, 1) := by decide +kernel
theorem dX11_rest_40 : decode cX11_rest 40 = .ok (.aload_n 0, 1) := by decide +kernel
theorem dX11_rest_41 : decode cX11_rest 41 = .ok (.getfield 13, 3) := by decide +kernel
theorem dX11_rest_44 : decode cX11_rest 44 = .ok (.iload_n 1, 1) := by decide +kernel
theorem dX11_rest_45 : decode cX11_rest 45 = .ok (.iaload, 1) := by decide +kernel
theorem dX11_rest_46 : decode cX11_rest 46 = .ok (.istore 5, 2) := by decide +kernel
theorem dX11_rest_48 : decode cX11_rest 48 = .ok (.aload_n 0, 1) := by decide +kernel
theorem dX11_rest_49 : decode cX11_rest 49 = .ok (.getfield 23, 3) := by decide +kernel
theorem dX11_rest_52 : decode cX11_rest 52 = .ok (.bipush 24, 2) := by decide +kernel
theorem dX11_rest_54 : decode cX11_rest 54 = .ok (.iload_n 1, 1) := by decide +kernel
theorem dX11_rest_55 : decode cX11_rest 55 = .ok (.imul, 1) := by decide +kernel
theorem dX11_rest_56 : decode cX11_rest 56 = .ok (.iload_n 2, 1) := by decide +kernel
theorem dX11_rest_57 : decode cX11_rest 57 = .ok (.iadd, 1) := by decide +kernel
theorem dX11_rest_58 : decode cX11_rest 58 = .ok (.laload, 1) := by decide +kernel
theorem dX11_rest_59 : decode cX11_rest 59 = .ok (.lstore 6, 2) := by decide +kernel
theorem dX11_rest_61 : decode cX11_rest 61 = .ok (.aload_n 0, 1) := by decide +kernel
theorem dX11_rest_62 : decode cX11_rest 62 = .ok (.getfield 23, 3) := by decide +kernel
theorem dX11_rest_65 : decode cX11_rest 65 = .ok (.bipush 24, 2) := by decide +kernel
theorem dX11_rest_67 : decode cX11_rest 67 = .ok (.iload_n 1, 1) := by decide +kernel
theorem dX11_rest_68 : decode cX11_rest 68 = .ok (.imul, 1) := by decide +kernel
theorem dX11_rest_69 : decode cX11_rest 69 = .ok (.iload_n 3, 1) := by decide +kernel
theorem dX11_rest_70 : decode cX11_rest 70 = .ok (.iadd, 1) := by decide +kernel
theorem dX11_rest_71 : decode cX11_rest 71 = .ok (.laload, 1) := by decide +kernel
theorem dX11_rest_72 : decode cX11_rest 72 = .ok (.lstore 8, 2) := by decide +kernel
theorem dX11_rest_74 : decode cX11_rest 74 = .ok (.iload 5, 2) := by decide +kernel
theorem dX11_rest_76 : decode cX11_rest 76 = .ok (.bipush 6, 2) := by decide +kernel
theorem dX11_rest_78 : decode cX11_rest 78 = .ok (.if_icmp .ge 27, 3) := by decide +kernel
theorem dX11_rest_81 : decode cX11_rest 81 = .ok (.lload 8, 2) := by decide +kernel
theorem dX11_rest_83 : decode cX11_rest 83 = .ok (.lconst 0, 1) := by decide +kernel
theorem dX11_rest_84 : decode cX11_rest 84 = .ok (.lcmp, 1) := by decide +kernel
theorem dX11_rest_85 : decode cX11_rest 85 = .ok (.ifCond .ne 9, 3) := by decide +kernel
theorem dX11_rest_88 : decode cX11_rest 88 = .ok (.aload_n 0, 1) := by decide +kernel
theorem dX11_rest_89 : decode cX11_rest 89 = .ok (.iconst 5, 1) := by decide +kernel
theorem dX11_rest_90 : decode cX11_rest 90 = .ok (.invokevirtual 146, 3) := by decide +kernel
theorem dX11_rest_93 : decode cX11_rest 93 = .ok (.ireturn, 1) := by decide +kernel
theorem dX11_rest_94 : decode cX11_rest 94 = .ok (.aload_n 0, 1) := by decide +kernel
theorem dX11_rest_95 : decode cX11_rest 95 = .ok (.lload 6, 2) := by decide +kernel
theorem dX11_rest_97 : decode cX11_rest 97 = .ok (.lload 8, 2) := by decide +kernel
theorem dX11_rest_99 : decode cX11_rest 99 = .ok (.lrem, 1) := by decide +kernel
theorem dX11_rest_100 : decode cX11_rest 100 = .ok (.putfield 161, 3) := by decide +kernel
theorem dX11_rest_103 : decode cX11_rest 103 = .ok (.iconst 0, 1) := by decide +kernel
theorem dX11_rest_104 : decode cX11_rest 104 = .ok (.ireturn, 1) := by decide +kernel
theorem dX11_rest_105 : decode cX11_rest 105 = .ok (.lload 6, 2) := by decide +kernel
theorem dX11_rest_107 : decode cX11_rest 107 = .ok (.iload 5, 2) := by decide +kernel
theorem dX11_rest_109 : decode cX11_rest 109 = .ok (.invokestatic 201, 3) := by decide +kernel
theorem dX11_rest_112 : decode cX11_rest 112 = .ok (.land, 1) := by decide +kernel
theorem dX11_rest_113 : decode cX11_rest 113 = .ok (.iload 5, 2) := by decide +kernel
theorem dX11_rest_115 : decode cX11_rest 115 = .ok (.invokestatic 204, 3) := by decide +kernel
theorem dX11_rest_118 : decode cX11_rest 118 = .ok (.lcmp, 1) := by decide +kernel
theorem dX11_rest_119 : decode cX11_rest 119 = .ok (.ifCond .ne 7, 3) := by decide +kernel
theorem dX11_rest_122 : decode cX11_rest 122 = .ok (.iconst 1, 1) := by decide +kernel
theorem dX11_rest_123 : decode cX11_rest 123 = .ok (.goto 4, 3) := by decide +kernel
theorem dX11_rest_126 : decode cX11_rest 126 = .ok (.iconst 0, 1) := by decide +kernel
theorem dX11_rest_127 : decode cX11_rest 127 = .ok (.istore 10, 2) := by decide +kernel
theorem dX11_rest_129 : decode cX11_rest 129 = .ok (.iload 5, 2) := by decide +kernel
theorem dX11_rest_131 : decode cX11_rest 131 = .ok (.lload 6, 2) := by decide +kernel
theorem dX11_rest_133 : decode cX11_rest 133 = .ok (.invokestatic 99, 3) := by decide +kernel
theorem dX11_rest_136 : decode cX11_rest 136 = .ok (.ifCond .ne 30, 3) := by decide +kernel
theorem dX11_rest_139 : decode cX11_rest 139 = .ok (.iload 5, 2) := by decide +kernel
theorem dX11_rest_141 : decode cX11_rest 141 = .ok (.lload 8, 2) := by decide +kernel
theorem dX11_rest_143 : decode cX11_rest 143 = .ok (.invokestatic 99, 3) := by decide +kernel
theorem dX11_rest_146 : decode cX11_rest 146 = .ok (.ifCond .ne 20, 3) := by decide +kernel
theorem dX11_rest_149 : decode cX11_rest 149 = .ok (.iload 10, 2) := by decide +kernel
theorem dX11_rest_151 : decode cX11_rest 151 = .ok (.ifCond .ne 15, 3) := by decide +kernel
theorem dX11_rest_154 : decode cX11_rest 154 = .ok (.iload 5, 2) := by decide +kernel
theorem dX11_rest_156 : decode cX11_rest 156 = .ok (.lload 8, 2) := by decide +kernel
theorem dX11_rest_158 : decode cX11_rest 158 = .ok (.invokestatic 131, 3) := by decide +kernel
theorem dX11_rest_161 : decode cX11_rest 161 = .ok (.dconst 0, 1) := by decide +kernel
theorem dX11_rest_162 : decode cX11_rest 162 = .ok (.dcmp .l, 1) := by decide +kernel
theorem dX11_rest_163 : decode cX11_rest 163 = .ok (.ifCond .ne 9, 3) := by decide +kernel
theorem dX11_rest_166 : decode cX11_rest 166 = .ok (.aload_n 0, 1) := by decide +kernel
theorem dX11_rest_167 : decode cX11_rest 167 = .ok (.iconst 5, 1) := by decide +kernel
theorem dX11_rest_168 : decode cX11_rest 168 = .ok (.invokevirtual 146, 3) := by decide +kernel
theorem dX11_rest_171 : decode cX11_rest 171 = .ok (.ireturn, 1) := by decide +kernel
theorem dX11_rest_172 : decode cX11_rest 172 = .ok (.iload 5, 2) := by decide +kernel
theorem dX11_rest_174 : decode cX11_rest 174 = .ok (.bipush 6, 2) := by decide +kernel
theorem dX11_rest_176 : decode cX11_rest 176 = .ok (.if_icmp .ne 27, 3) := by decide +kernel
theorem dX11_rest_179 : decode cX11_rest 179 = .ok (.aload_n 0, 1) := by decide +kernel
theorem dX11_rest_180 : decode cX11_rest 180 = .ok (.lload 6, 2) := by decide +kernel
theorem dX11_rest_182 : decode cX11_rest 182 = .ok (.l2i, 1) := by decide +kernel
theorem dX11_rest_183 : decode cX11_rest 183 = .ok (.invokestatic 107, 3) := by decide +kernel
theorem dX11_rest_186 : decode cX11_rest 186 = .ok (.lload 8, 2) := by decide +kernel
theorem dX11_rest_188 : decode cX11_rest 188 = .ok (.l2i, 1) := by decide +kernel
theorem dX11_rest_189 : decode cX11_rest 189 = .ok (.invokestatic 107, 3) := by decide +kernel
theorem dX11_rest_192 : decode cX11_rest 192 = .ok (.frem, 1) := by decide +kernel
theorem dX11_rest_193 : decode cX11_rest 193 = .ok (.invokestatic 119, 3) := by decide +kernel
theorem dX11_rest_196 : decode cX11_rest 196 = .ok (.i2l, 1) := by decide +kernel
theorem dX11_rest_197 : decode cX11_rest 197 = .ok (.putfield 161, 3) := by decide +kernel
theorem dX11_rest_200 : decode cX11_rest 200 = .ok (.goto 21, 3) := by decide +kernel
theorem dX11_rest_203 : decode cX11_rest 203 = .ok (.aload_n 0, 1) := by decide +kernel
theorem dX11_rest_204 : decode cX11_rest 204 = .ok (.lload 6, 2) := by decide +kernel
theorem dX11_rest_206 : decode cX11_rest 206 = .ok (.invokestatic 113, 3) := by decide +kernel
theorem dX11_rest_209 : decode cX11_rest 209 = .ok (.lload 8, 2) := by decide +kernel
theorem dX11_rest_211 : decode cX11_rest 211 = .ok (.invokestatic 113, 3) := by decide +kernel
theorem dX11_rest_214 : decode cX11_rest 214 = .ok (.drem, 1) := by decide +kernel
theorem dX11_rest_215 : decode cX11_rest 215 = .ok (.invokestatic 123, 3) := by decide +kernel
theorem dX11_rest_218 : decode cX11_rest 218 = .ok (.putfield 161, 3) := by decide +kernel
theorem dX11_rest_221 : decode cX11_rest 221 = .ok (.iconst 0, 1) := by decide +kernel
theorem dX11_rest_222 : decode cX11_rest 222 = .ok (.ireturn, 1) := by decide +kernel
theorem dX11_kMask_0 : decode cX11_kMask 0 = .ok (.iload_n 0, 1) := by decide +kernel
theorem dX11_kMask_1 : decode cX11_kMask 1 = .ok (.bipush 6, 2) := by decide +kernel
theorem dX11_kMask_3 : decode cX11_kMask 3 = .ok (.if_icmp .ne 9, 3) := by decide +kernel
theorem dX11_kMask_6 : decode cX11_kMask 6 = .ok (.ldc2_w 91, 3) := by decide +kernel
theorem dX11_kMask_9 : decode cX11_kMask 9 = .ok (.goto 6, 3) := by decide +kernel
theorem dX11_kMask_12 : decode cX11_kMask 12 = .ok (.ldc2_w 95, 3) := by decide +kernel
theorem dX11_kMask_15 : decode cX11_kMask 15 = .ok (.lreturn, 1) := by decide +kernel
theorem dX11_kEndless_0 : decode cX11_kEndless 0 = .ok (.iload_n 0, 1) := by decide +kernel
theorem dX11_kEndless_1 : decode cX11_kEndless 1 = .ok (.bipush 6, 2) := by decide +kernel
theorem dX11_kEndless_3 : decode cX11_kEndless 3 = .ok (.if_icmp .ne 9, 3) := by decide +kernel
theorem dX11_kEndless_6 : decode cX11_kEndless 6 = .ok (.ldc2_w 93, 3) := by decide +kernel
theorem dX11_kEndless_9 : decode cX11_kEndless 9 = .ok (.goto 6, 3) := by decide +kernel
theorem dX11_kEndless_12 : decode cX11_kEndless 12 = .ok (.ldc2_w 97, 3) := by decide +kernel
theorem dX11_kEndless_15 : decode cX11_kEndless 15 = .ok (.lreturn, 1) := by decide +kernel
theorem dX11_most_0 : decode cX11_most 0 = .ok (.aload_n 0, 1) := by decide +kernel
theorem dX11_most_1 : decode cX11_most 1 = .ok (.iload_n 1, 1) := by decide +kernel
theorem dX11_most_2 : decode cX11_most 2 = .ok (.invokevirtual 154, 3) := by decide +kernel
theorem dX11_most_5 : decode cX11_most 5 = .ok (.ifCond .ne 6, 3) := by decide +kernel
theorem dX11_most_8 : decode cX11_most 8 = .ok (.bipush (-101), 2) := by decide +kernel
theorem dX11_most_10 : decode cX11_most 10 = .ok (.ireturn, 1) := by decide +kernel
theorem dX11_most_11 : decode cX11_most 11 = .ok (.iload_n 2, 1) := by decide +kernel
theorem dX11_most_12 : decode cX11_most 12 = .ok (.i2l, 1) := by decide +kernel
theorem dX11_most_13 : decode cX11_most 13 = .ok (.lconst 0, 1) := by decide +kernel
theorem dX11_most_14 : decode cX11_most 14 = .ok (.ldc2_w 207, 3) := by decide +kernel
theorem dX11_most_17 : decode cX11_most 17 = .ok (.invokestatic 140, 3) := by decide +kernel
theorem dX11_most_20 : decode cX11_most 20 = .ok (.ifCond .ne 6, 3) := by decide +kernel
theorem dX11_most_23 : decode cX11_most 23 = .ok (.bipush (-102), 2) := by decide +kernel
theorem dX11_most_25 : decode cX11_most 25 = .ok (.ireturn, 1) := by decide +kernel
theorem dX11_most_26 : decode cX11_most 26 = .ok (.aload_n 0, 1) := by decide +kernel
theorem dX11_most_27 : decode cX11_most 27 = .ok (.getfield 19, 3) := by decide +kernel
theorem dX11_most_30 : decode cX11_most 30 = .ok (.iload_n 1, 1) := by decide +kernel
theorem dX11_most_31 : decode cX11_most 31 = .ok (.baload, 1) := by decide +kernel
theorem dX11_most_32 : decode cX11_most 32 = .ok (.ifCond .eq 9, 3) := by decide +kernel
theorem dX11_most_35 : decode cX11_most 35 = .ok (.aload_n 0, 1) := by decide +kernel
theorem dX11_most_36 : decode cX11_most 36 = .ok (.iconst 1, 1) := by decide +kernel
theorem dX11_most_37 : decode cX11_most 37 = .ok (.invokevirtual 146, 3) := by decide +kernel
theorem dX11_most_40 : decode cX11_most 40 = .ok (.ireturn, 1) := by decide +kernel
theorem dX11_most_41 : decode cX11_most 41 = .ok (.aload_n 0, 1) := by decide +kernel
theorem dX11_most_42 : decode cX11_most 42 = .ok (.getfield 13, 3) := by decide +kernel
theorem dX11_most_45 : decode cX11_most 45 = .ok (.iload_n 1, 1) := by decide +kernel
theorem dX11_most_46 : decode cX11_most 46 = .ok (.iaload, 1) := by decide +kernel
theorem dX11_most_47 : decode cX11_most 47 = .ok (.istore_n 3, 1) := by decide +kernel
theorem dX11_most_48 : decode cX11_most 48 = .ok (.iconst 0, 1) := by decide +kernel
theorem dX11_most_49 : decode cX11_most 49 = .ok (.istore 4, 2) := by decide +kernel
theorem dX11_most_51 : decode cX11_most 51 = .ok (.iconst (-1), 1) := by decide +kernel
theorem dX11_most_52 : decode cX11_most 52 = .ok (.istore 5, 2) := by decide +kernel
theorem dX11_most_54 : decode cX11_most 54 = .ok (.iconst 0, 1) := by decide +kernel
theorem dX11_most_55 : decode cX11_most 55 = .ok (.istore 6, 2) := by decide +kernel
theorem dX11_most_57 : decode cX11_most 57 = .ok (.iload 6, 2) := by decide +kernel
theorem dX11_most_59 : decode cX11_most 59 = .ok (.aload_n 0, 1) := by decide +kernel
theorem dX11_most_60 : decode cX11_most 60 = .ok (.getfield 16, 3) := by decide +kernel
theorem dX11_most_63 : decode cX11_most 63 = .ok (.iload_n 1, 1) := by decide +kernel
theorem dX11_most_64 : decode cX11_most 64 = .ok (.iaload, 1) := by decide +kernel
theorem dX11_most_65 : decode cX11_most 65 = .ok (.if_icmp .ge 107, 3) := by decide +kernel
theorem dX11_most_68 : decode cX11_most 68 = .ok (.aload_n 0, 1) := by decide +kernel
theorem dX11_most_69 : decode cX11_most 69 = .ok (.getfield 23, 3) := by decide +kernel
theorem dX11_most_72 : decode cX11_most 72 = .ok (.bipush 24, 2) := by decide +kernel
theorem dX11_most_74 : decode cX11_most 74 = .ok (.iload_n 1, 1) := by decide +kernel
theorem dX11_most_75 : decode cX11_most 75 = .ok (.imul, 1) := by decide +kernel
theorem dX11_most_76 : decode cX11_most 76 = .ok (.iload 6, 2) := by decide +kernel
theorem dX11_most_78 : decode cX11_most 78 = .ok (.iadd, 1) := by decide +kernel
theorem dX11_most_79 : decode cX11_most 79 = .ok (.laload, 1) := by decide +kernel
theorem dX11_most_80 : decode cX11_most 80 = .ok (.lstore 7, 2) := by decide +kernel
theorem dX11_most_82 : decode cX11_most 82 = .ok (.iload_n 3, 1) := by decide +kernel
theorem dX11_most_83 : decode cX11_most 83 = .ok (.lload 7, 2) := by decide +kernel
theorem dX11_most_85 : decode cX11_most 85 = .ok (.invokestatic 99, 3) := by decide +kernel
theorem dX11_most_88 : decode cX11_most 88 = .ok (.ifCond .eq 9, 3) := by decide +kernel
theorem dX11_most_91 : decode cX11_most 91 = .ok (.iinc 4 1, 3) := by decide +kernel
theorem dX11_most_94 : decode cX11_most 94 = .ok (.goto 72, 3) := by decide +kernel
theorem dX11_most_97 : decode cX11_most 97 = .ok (.iload 5, 2) := by decide +kernel
theorem dX11_most_99 : decode cX11_most 99 = .ok (.iconst (-1), 1) := by decide +kernel
theorem dX11_most_100 : decode cX11_most 100 = .ok (.if_icmp .eq 62, 3) := by decide +kernel
theorem dX11_most_103 : decode cX11_most 103 = .ok (.iload_n 2, 1) := by decide +kernel
theorem dX11_most_104 : decode cX11_most 104 = .ok (.ifCond .ne 32, 3) := by decide +kernel
theorem dX11_most_107 : decode cX11_most 107 = .ok (.iload_n 3, 1) := by decide +kernel
theorem dX11_most_108 : decode cX11_most 108 = .ok (.lload 7, 2) := by decide +kernel
theorem dX11_most_110 : decode cX11_most 110 = .ok (.invokestatic 209, 3) := by decide +kernel
theorem dX11_most_113 : decode cX11_most 113 = .ok (.iload_n 3, 1) := by decide +kernel
theorem dX11_most_114 : decode cX11_most 114 = .ok (.aload_n 0, 1) := by decide +kernel
theorem dX11_most_115 : decode cX11_most 115 = .ok (.getfield 23, 3) := by decide +kernel
theorem dX11_most_118 : decode cX11_most 118 = .ok (.bipush 24, 2) := by decide +kernel
theorem dX11_most_120 : decode cX11_most 120 = .ok (.iload_n 1, 1) := by decide +kernel
theorem dX11_most_121 : decode cX11_most 121 = .ok (.imul, 1) := by decide +kernel
theorem dX11_most_122 : decode cX11_most 122 = .ok (.iload 5, 2) := by decide +kernel
theorem dX11_most_124 : decode cX11_most 124 = .ok (.iadd, 1) := by decide +kernel
theorem dX11_most_125 : decode cX11_most 125 = .ok (.laload, 1) := by decide +kernel
theorem dX11_most_126 : decode cX11_most 126 = .ok (.invokestatic 209, 3) := by decide +kernel
theorem dX11_most_129 : decode cX11_most 129 = .ok (.lcmp, 1) := by decide +kernel
theorem dX11_most_130 : decode cX11_most 130 = .ok (.ifCond .le 36, 3) := by decide +kernel
theorem dX11_most_133 : decode cX11_most 133 = .ok (.goto 29, 3) := by decide +kernel
theorem dX11_most_136 : decode cX11_most 136 = .ok (.iload_n 3, 1) := by decide +kernel
theorem dX11_most_137 : decode cX11_most 137 = .ok (.lload 7, 2) := by decide +kernel
theorem dX11_most_139 : decode cX11_most 139 = .ok (.invokestatic 209, 3) := by decide +kernel
theorem dX11_most_142 : decode cX11_most 142 = .ok (.iload_n 3, 1) := by decide +kernel
theorem dX11_most_143 : decode cX11_most 143 = .ok (.aload_n 0, 1) := by decide +kernel
theorem dX11_most_144 : decode cX11_most 144 = .ok (.getfield 23, 3) := by decide +kernel
theorem dX11_most_147 : decode cX11_most 147 = .ok (.bipush 24, 2) := by decide +kernel
theorem dX11_most_149 : decode cX11_most 149 = .ok (.iload_n 1, 1) := by decide +kernel
theorem dX11_most_150 : decode cX11_most 150 = .ok (.imul, 1) := by decide +kernel
theorem dX11_most_151 : decode cX11_most 151 = .ok (.iload 5, 2) := by decide +kernel
theorem dX11_most_153 : decode cX11_most 153 = .ok (.iadd, 1) := by decide +kernel
theorem dX11_most_154 : decode cX11_most 154 = .ok (.laload, 1) := by decide +kernel
theorem dX11_most_155 : decode cX11_most 155 = .ok (.invokestatic 209, 3) := by decide +kernel
theorem dX11_most_158 : decode cX11_most 158 = .ok (.lcmp, 1) := by decide +kernel
theorem dX11_most_159 : decode cX11_most 159 = .ok (.ifCond .ge 7, 3) := by decide +kernel
theorem dX11_most_162 : decode cX11_most 162 = .ok (.iload 6, 2) := by decide +kernel
theorem dX11_most_164 : decode cX11_most 164 = .ok (.istore 5, 2) := by decide +kernel
theorem dX11_most_166 : decode cX11_most 166 = .ok (.iinc 6 1, 3) := by decide +kernel
theorem dX11_most_169 : decode cX11_most 169 = .ok (.goto (-112), 3) := by decide +kernel
theorem dX11_most_172 : decode cX11_most 172 = .ok (.iload_n 2, 1) := by decide +kernel
theorem dX11_most_173 : decode cX11_most 173 = .ok (.iconst 2, 1) := by decide +kernel
theorem dX11_most_174 : decode cX11_most 174 = .ok (.if_icmp .ne 12, 3) := by decide +kernel
theorem dX11_most_177 : decode cX11_most 177 = .ok (.aload_n 0, 1) := by decide +kernel
theorem dX11_most_178 : decode cX11_most 178 = .ok (.iload 4, 2) := by decide +kernel
theorem dX11_most_180 : decode cX11_most 180 = .ok (.i2l, 1) := by decide +kernel
theorem dX11_most_181 : decode cX11_most 181 = .ok (.putfield 161, 3) := by decide +kernel
theorem dX11_most_184 : decode cX11_most 184 = .ok (.iconst 0, 1) := by decide +kernel
theorem dX11_most_185 : decode cX11_most 185 = .ok (.ireturn, 1) := by decide +kernel
theorem dX11_most_186 : decode cX11_most 186 = .ok (.iload 5, 2) := by decide +kernel
theorem dX11_most_188 : decode cX11_most 188 = .ok (.iconst (-1), 1) := by decide +kernel
theorem dX11_most_189 : decode cX11_most 189 = .ok (.if_icmp .ne 9, 3) := by decide +kernel
theorem dX11_most_192 : decode cX11_most 192 = .ok (.aload_n 0, 1) := by decide +kernel
theorem dX11_most_193 : decode cX11_most 193 = .ok (.iconst 5, 1) := by decide +kernel
theorem dX11_most_194 : decode cX11_most 194 = .ok (.invokevirtual 146, 3) := by decide +kernel
theorem dX11_most_197 : decode cX11_most 197 = .ok (.ireturn, 1) := by decide +kernel
theorem dX11_most_198 : decode cX11_most 198 = .ok (.aload_n 0, 1) := by decide +kernel
theorem dX11_most_199 : decode cX11_most 199 = .ok (.aload_n 0, 1) := by decide +kernel
theorem dX11_most_200 : decode cX11_most 200 = .ok (.getfield 23, 3) := by decide +kernel
theorem dX11_most_203 : decode cX11_most 203 = .ok (.bipush 24, 2) := by decide +kernel
theorem dX11_most_205 : decode cX11_most 205 = .ok (.iload_n 1, 1) := by decide +kernel
theorem dX11_most_206 : decode cX11_most 206 = .ok (.imul, 1) := by decide +kernel
theorem dX11_most_207 : decode cX11_most 207 = .ok (.iload 5, 2) := by decide +kernel
theorem dX11_most_209 : decode cX11_most 209 = .ok (.iadd, 1) := by decide +kernel
theorem dX11_most_210 : decode cX11_most 210 = .ok (.laload, 1) := by decide +kernel
theorem dX11_most_211 : decode cX11_most 211 = .ok (.putfield 161, 3) := by decide +kernel
theorem dX11_most_214 : decode cX11_most 214 = .ok (.iconst 0, 1) := by decide +kernel
theorem dX11_most_215 : decode cX11_most 215 = .ok (.ireturn, 1) := by decide +kernel
theorem dX11_seen_0 : decode cX11_seen 0 = .ok (.aload_n 0, 1) := by decide +kernel
theorem dX11_seen_1 : decode cX11_seen 1 = .ok (.getfield 161, 3) := by decide +kernel
theorem dX11_seen_4 : decode cX11_seen 4 = .ok (.lreturn, 1) := by decide +kernel
theorem dX11_plain_0 : decode cX11_plain 0 = .ok (.lload_n 1, 1) := by decide +kernel
theorem dX11_plain_1 : decode cX11_plain 1 = .ok (.iconst 1, 1) := by decide +kernel
theorem dX11_plain_2 : decode cX11_plain 2 = .ok (.lshl, 1) := by decide +kernel
theorem dX11_plain_3 : decode cX11_plain 3 = .ok (.lload_n 1, 1) := by decide +kernel
theorem dX11_plain_4 : decode cX11_plain 4 = .ok (.bipush 63, 2) := by decide +kernel
theorem dX11_plain_6 : decode cX11_plain 6 = .ok (.lshr, 1) := by decide +kernel
theorem dX11_plain_7 : decode cX11_plain 7 = .ok (.lxor, 1) := by decide +kernel
theorem dX11_plain_8 : decode cX11_plain 8 = .ok (.lstore_n 3, 1) := by decide +kernel
theorem dX11_plain_9 : decode cX11_plain 9 = .ok (.lload_n 3, 1) := by decide +kernel
theorem dX11_plain_10 : decode cX11_plain 10 = .ok (.ldc2_w 212, 3) := by decide +kernel
theorem dX11_plain_13 : decode cX11_plain 13 = .ok (.land, 1) := by decide +kernel
theorem dX11_plain_14 : decode cX11_plain 14 = .ok (.lconst 0, 1) := by decide +kernel
theorem dX11_plain_15 : decode cX11_plain 15 = .ok (.lcmp, 1) := by decide +kernel
theorem dX11_plain_16 : decode cX11_plain 16 = .ok (.ifCond .eq 40, 3) := by decide +kernel
theorem dX11_plain_19 : decode cX11_plain 19 = .ok (.aload_n 0, 1) := by decide +kernel
theorem dX11_plain_20 : decode cX11_plain 20 = .ok (.getfield 33, 3) := by decide +kernel
theorem dX11_plain_23 : decode cX11_plain 23 = .ok (.aload_n 0, 1) := by decide +kernel
theorem dX11_plain_24 : decode cX11_plain 24 = .ok (.getfield 214, 3) := by decide +kernel
theorem dX11_plain_27 : decode cX11_plain 27 = .ok (.lload_n 3, 1) := by decide +kernel
theorem dX11_plain_28 : decode cX11_plain 28 = .ok (.ldc2_w 217, 3) := by decide +kernel
theorem dX11_plain_31 : decode cX11_plain 31 = .ok (.land, 1) := by decide +kernel
theorem dX11_plain_32 : decode cX11_plain 32 = .ok (.l2i, 1) := by decide +kernel
theorem dX11_plain_33 : decode cX11_plain 33 = .ok (.sipush 128, 3) := by decide +kernel
theorem dX11_plain_36 : decode cX11_plain 36 = .ok (.ior, 1) := by decide +kernel
theorem dX11_plain_37 : decode cX11_plain 37 = .ok (.iastore, 1) := by decide +kernel
theorem dX11_plain_38 : decode cX11_plain 38 = .ok (.aload_n 0, 1) := by decide +kernel
theorem dX11_plain_39 : decode cX11_plain 39 = .ok (.dup, 1) := by decide +kernel
theorem dX11_plain_40 : decode cX11_plain 40 = .ok (.getfield 214, 3) := by decide +kernel
theorem dX11_plain_43 : decode cX11_plain 43 = .ok (.iconst 1, 1) := by decide +kernel
theorem dX11_plain_44 : decode cX11_plain 44 = .ok (.iadd, 1) := by decide +kernel
theorem dX11_plain_45 : decode cX11_plain 45 = .ok (.putfield 214, 3) := by decide +kernel
theorem dX11_plain_48 : decode cX11_plain 48 = .ok (.lload_n 3, 1) := by decide +kernel
theorem dX11_plain_49 : decode cX11_plain 49 = .ok (.bipush 7, 2) := by decide +kernel
theorem dX11_plain_51 : decode cX11_plain 51 = .ok (.lushr, 1) := by decide +kernel
theorem dX11_plain_52 : decode cX11_plain 52 = .ok (.lstore_n 3, 1) := by decide +kernel
theorem dX11_plain_53 : decode cX11_plain 53 = .ok (.goto (-44), 3) := by decide +kernel
theorem dX11_plain_56 : decode cX11_plain 56 = .ok (.aload_n 0, 1) := by decide +kernel
theorem dX11_plain_57 : decode cX11_plain 57 = .ok (.getfield 33, 3) := by decide +kernel
theorem dX11_plain_60 : decode cX11_plain 60 = .ok (.aload_n 0, 1) := by decide +kernel
theorem dX11_plain_61 : decode cX11_plain 61 = .ok (.getfield 214, 3) := by decide +kernel
theorem dX11_plain_64 : decode cX11_plain 64 = .ok (.lload_n 3, 1) := by decide +kernel
theorem dX11_plain_65 : decode cX11_plain 65 = .ok (.l2i, 1) := by decide +kernel
theorem dX11_plain_66 : decode cX11_plain 66 = .ok (.iastore, 1) := by decide +kernel
theorem dX11_plain_67 : decode cX11_plain 67 = .ok (.aload_n 0, 1) := by decide +kernel
theorem dX11_plain_68 : decode cX11_plain 68 = .ok (.dup, 1) := by decide +kernel
theorem dX11_plain_69 : decode cX11_plain 69 = .ok (.getfield 214, 3) := by decide +kernel
theorem dX11_plain_72 : decode cX11_plain 72 = .ok (.iconst 1, 1) := by decide +kernel
theorem dX11_plain_73 : decode cX11_plain 73 = .ok (.iadd, 1) := by decide +kernel
theorem dX11_plain_74 : decode cX11_plain 74 = .ok (.putfield 214, 3) := by decide +kernel
theorem dX11_plain_77 : decode cX11_plain 77 = .ok (.return_, 1) := by decide +kernel
theorem dX11_differences_0 : decode cX11_differences 0 = .ok (.aload_n 0, 1) := by decide +kernel
theorem dX11_differences_1 : decode cX11_differences 1 = .ok (.getfield 219, 3) := by decide +kernel
theorem dX11_differences_4 : decode cX11_differences 4 = .ok (.iconst 1, 1) := by decide +kernel
theorem dX11_differences_5 : decode cX11_differences 5 = .ok (.isub, 1) := by decide +kernel
theorem dX11_differences_6 : decode cX11_differences 6 = .ok (.istore_n 1, 1) := by decide +kernel
theorem dX11_differences_7 : decode cX11_differences 7 = .ok (.iload_n 1, 1) := by decide +kernel
theorem dX11_differences_8 : decode cX11_differences 8 = .ok (.ifCond .le 26, 3) := by decide +kernel
theorem dX11_differences_11 : decode cX11_differences 11 = .ok (.aload_n 0, 1) := by decide +kernel
theorem dX11_differences_12 : decode cX11_differences 12 = .ok (.getfield 30, 3) := by decide +kernel
theorem dX11_differences_15 : decode cX11_differences 15 = .ok (.iload_n 1, 1) := by decide +kernel
theorem dX11_differences_16 : decode cX11_differences 16 = .ok (.dup2, 1) := by decide +kernel
theorem dX11_differences_17 : decode cX11_differences 17 = .ok (.laload, 1) := by decide +kernel
theorem dX11_differences_18 : decode cX11_differences 18 = .ok (.aload_n 0, 1) := by decide +kernel
theorem dX11_differences_19 : decode cX11_differences 19 = .ok (.getfield 30, 3) := by decide +kernel
theorem dX11_differences_22 : decode cX11_differences 22 = .ok (.iload_n 1, 1) := by decide +kernel
theorem dX11_differences_23 : decode cX11_differences 23 = .ok (.iconst 1, 1) := by decide +kernel
theorem dX11_differences_24 : decode cX11_differences 24 = .ok (.isub, 1) := by decide +kernel
theorem dX11_differences_25 : decode cX11_differences 25 = .ok (.laload, 1) := by decide +kernel
theorem dX11_differences_26 : decode cX11_differences 26 = .ok (.lsub, 1) := by decide +kernel
theorem dX11_differences_27 : decode cX11_differences 27 = .ok (.lastore, 1) := by decide +kernel
theorem dX11_differences_28 : decode cX11_differences 28 = .ok (.iinc 1 (-1), 3) := by decide +kernel
theorem dX11_differences_31 : decode cX11_differences 31 = .ok (.goto (-24), 3) := by decide +kernel
theorem dX11_differences_34 : decode cX11_differences 34 = .ok (.return_, 1) := by decide +kernel
theorem dX11_sums_0 : decode cX11_sums 0 = .ok (.iconst 1, 1) := by decide +kernel
theorem dX11_sums_1 : decode cX11_sums 1 = .ok (.istore_n 1, 1) := by decide +kernel
theorem dX11_sums_2 : decode cX11_sums 2 = .ok (.iload_n 1, 1) := by decide +kernel
theorem dX11_sums_3 : decode cX11_sums 3 = .ok (.aload_n 0, 1) := by decide +kernel
theorem dX11_sums_4 : decode cX11_sums 4 = .ok (.getfield 219, 3) := by decide +kernel
theorem dX11_sums_7 : decode cX11_sums 7 = .ok (.if_icmp .ge 26, 3) := by decide +kernel
theorem dX11_sums_10 : decode cX11_sums 10 = .ok (.aload_n 0, 1) := by decide +kernel
theorem dX11_sums_11 : decode cX11_sums 11 = .ok (.getfield 30, 3) := by decide +kernel
theorem dX11_sums_14 : decode cX11_sums 14 = .ok (.iload_n 1, 1) := by decide +kernel
theorem dX11_sums_15 : decode cX11_sums 15 = .ok (.dup2, 1) := by decide +kernel
theorem dX11_sums_16 : decode cX11_sums 16 = .ok (.laload, 1) := by decide +kernel
theorem dX11_sums_17 : decode cX11_sums 17 = .ok (.aload_n 0, 1) := by decide +kernel
theorem dX11_sums_18 : decode cX11_sums 18 = .ok (.getfield 30, 3) := by decide +kernel
theorem dX11_sums_21 : decode cX11_sums 21 = .ok (.iload_n 1, 1) := by decide +kernel
theorem dX11_sums_22 : decode cX11_sums 22 = .ok (.iconst 1, 1) := by decide +kernel
theorem dX11_sums_23 : decode cX11_sums 23 = .ok (.isub, 1) := by decide +kernel
theorem dX11_sums_24 : decode cX11_sums 24 = .ok (.laload, 1) := by decide +kernel
theorem dX11_sums_25 : decode cX11_sums 25 = .ok (.ladd, 1) := by decide +kernel
theorem dX11_sums_26 : decode cX11_sums 26 = .ok (.lastore, 1) := by decide +kernel
theorem dX11_sums_27 : decode cX11_sums 27 = .ok (.iinc 1 1, 3) := by decide +kernel
theorem dX11_sums_30 : decode cX11_sums 30 = .ok (.goto (-28), 3) := by decide +kernel
theorem dX11_sums_33 : decode cX11_sums 33 = .ok (.return_, 1) := by decide +kernel
theorem dX11_code_0 : decode cX11_code 0 = .ok (.aload_n 0, 1) := by decide +kernel
theorem dX11_code_1 : decode cX11_code 1 = .ok (.iconst 0, 1) := by decide +kernel
theorem dX11_code_2 : decode cX11_code 2 = .ok (.putfield 214, 3) := by decide +kernel
theorem dX11_code_5 : decode cX11_code 5 = .ok (.iload_n 1, 1) := by decide +kernel
theorem dX11_code_6 : decode cX11_code 6 = .ok (.iconst 3, 1) := by decide +kernel
theorem dX11_code_7 : decode cX11_code 7 = .ok (.if_icmp .ne 75, 3) := by decide +kernel
theorem dX11_code_10 : decode cX11_code 10 = .ok (.iconst 0, 1) := by decide +kernel
theorem dX11_code_11 : decode cX11_code 11 = .ok (.istore_n 2, 1) := by decide +kernel
theorem dX11_code_12 : decode cX11_code 12 = .ok (.iload_n 2, 1) := by decide +kernel
theorem dX11_code_13 : decode cX11_code 13 = .ok (.aload_n 0, 1) := by decide +kernel
theorem dX11_code_14 : decode cX11_code 14 = .ok (.getfield 219, 3) := by decide +kernel
theorem dX11_code_17 : decode cX11_code 17 = .ok (.if_icmp .ge 64, 3) := by decide +kernel
theorem dX11_code_20 : decode cX11_code 20 = .ok (.iconst 1, 1) := by decide +kernel
theorem dX11_code_21 : decode cX11_code 21 = .ok (.istore_n 3, 1) := by decide +kernel
theorem dX11_code_22 : decode cX11_code 22 = .ok (.iload_n 2, 1) := by decide +kernel
theorem dX11_code_23 : decode cX11_code 23 = .ok (.iload_n 3, 1) := by decide +kernel
theorem dX11_code_24 : decode cX11_code 24 = .ok (.iadd, 1) := by decide +kernel
theorem dX11_code_25 : decode cX11_code 25 = .ok (.aload_n 0, 1) := by decide +kernel
theorem dX11_code_26 : decode cX11_code 26 = .ok (.getfield 219, 3) := by decide +kernel
theorem dX11_code_29 : decode cX11_code 29 = .ok (.if_icmp .ge 27, 3) := by decide +kernel
theorem dX11_code_32 : decode cX11_code 32 = .ok (.aload_n 0, 1) := by decide +kernel
theorem dX11_code_33 : decode cX11_code 33 = .ok (.getfield 30, 3) := by decide +kernel
theorem dX11_code_36 : decode cX11_code 36 = .ok (.iload_n 2, 1) := by decide +kernel
theorem dX11_code_37 : decode cX11_code 37 = .ok (.iload_n 3, 1) := by decide +kernel
theorem dX11_code_38 : decode cX11_code 38 = .ok (.iadd, 1) := by decide +kernel
theorem dX11_code_39 : decode cX11_code 39 = .ok (.laload, 1) := by decide +kernel
theorem dX11_code_40 : decode cX11_code 40 = .ok (.aload_n 0, 1) := by decide +kernel
theorem dX11_code_41 : decode cX11_code 41 = .ok (.getfield 30, 3) := by decide +kernel
theorem dX11_code_44 : decode cX11_code 44 = .ok (.iload_n 2, 1) := by decide +kernel
theorem dX11_code_45 : decode cX11_code 45 = .ok (.laload, 1) := by decide +kernel
theorem dX11_code_46 : decode cX11_code 46 = .ok (.lcmp, 1) := by decide +kernel
theorem dX11_code_47 : decode cX11_code 47 = .ok (.ifCond .ne 9, 3) := by decide +kernel
theorem dX11_code_50 : decode cX11_code 50 = .ok (.iinc 3 1, 3) := by decide +kernel
theorem dX11_code_53 : decode cX11_code 53 = .ok (.goto (-31), 3) := by decide +kernel
theorem dX11_code_56 : decode cX11_code 56 = .ok (.aload_n 0, 1) := by decide +kernel
theorem dX11_code_57 : decode cX11_code 57 = .ok (.aload_n 0, 1) := by decide +kernel
theorem dX11_code_58 : decode cX11_code 58 = .ok (.getfield 30, 3) := by decide +kernel
theorem dX11_code_61 : decode cX11_code 61 = .ok (.iload_n 2, 1) := by decide +kernel
theorem dX11_code_62 : decode cX11_code 62 = .ok (.laload, 1) := by decide +kernel
theorem dX11_code_63 : decode cX11_code 63 = .ok (.invokevirtual 222, 3) := by decide +kernel
theorem dX11_code_66 : decode cX11_code 66 = .ok (.aload_n 0, 1) := by decide +kernel
theorem dX11_code_67 : decode cX11_code 67 = .ok (.iload_n 3, 1) := by decide +kernel
theorem dX11_code_68 : decode cX11_code 68 = .ok (.iconst 1, 1) := by decide +kernel
theorem dX11_code_69 : decode cX11_code 69 = .ok (.isub, 1) := by decide +kernel
theorem dX11_code_70 : decode cX11_code 70 = .ok (.i2l, 1) := by decide +kernel
theorem dX11_code_71 : decode cX11_code 71 = .ok (.invokevirtual 222, 3) := by decide +kernel
theorem dX11_code_74 : decode cX11_code 74 = .ok (.iload_n 2, 1) := by decide +kernel
theorem dX11_code_75 : decode cX11_code 75 = .ok (.iload_n 3, 1) := by decide +kernel
theorem dX11_code_76 : decode cX11_code 76 = .ok (.iadd, 1) := by decide +kernel
theorem dX11_code_77 : decode cX11_code 77 = .ok (.istore_n 2, 1) := by decide +kernel
theorem dX11_code_78 : decode cX11_code 78 = .ok (.goto (-66), 3) := by decide +kernel
theorem dX11_code_81 : decode cX11_code 81 = .ok (.return_, 1) := by decide +kernel
theorem dX11_code_82 : decode cX11_code 82 = .ok (.iload_n 1, 1) := by decide +kernel
theorem dX11_code_83 : decode cX11_code 83 = .ok (.ifCond .le 7, 3) := by decide +kernel
theorem dX11_code_86 : decode cX11_code 86 = .ok (.aload_n 0, 1) := by decide +kernel
theorem dX11_code_87 : decode cX11_code 87 = .ok (.invokevirtual 226, 3) := by decide +kernel
theorem dX11_code_90 : decode cX11_code 90 = .ok (.iload_n 1, 1) := by decide +kernel
theorem dX11_code_91 : decode cX11_code 91 = .ok (.iconst 2, 1) := by decide +kernel
theorem dX11_code_92 : decode cX11_code 92 = .ok (.if_icmp .ne 7, 3) := by decide +kernel
theorem dX11_code_95 : decode cX11_code 95 = .ok (.aload_n 0, 1) := by decide +kernel
theorem dX11_code_96 : decode cX11_code 96 = .ok (.invokevirtual 226, 3) := by decide +kernel
theorem dX11_code_99 : decode cX11_code 99 = .ok (.iload_n 1, 1) := by decide +kernel
theorem dX11_code_100 : decode cX11_code 100 = .ok (.iconst 4, 1) := by decide +kernel
theorem dX11_code_101 : decode cX11_code 101 = .ok (.if_icmp .ge 32, 3) := by decide +kernel
theorem dX11_code_104 : decode cX11_code 104 = .ok (.iconst 0, 1) := by decide +kernel
theorem dX11_code_105 : decode cX11_code 105 = .ok (.istore_n 2, 1) := by decide +kernel
theorem dX11_code_106 : decode cX11_code 106 = .ok (.iload_n 2, 1) := by decide +kernel
theorem dX11_code_107 : decode cX11_code 107 = .ok (.aload_n 0, 1) := by decide +kernel
theorem dX11_code_108 : decode cX11_code 108 = .ok (.getfield 219, 3) := by decide +kernel
theorem dX11_code_111 : decode cX11_code 111 = .ok (.if_icmp .ge 19, 3) := by decide +kernel
theorem dX11_code_114 : decode cX11_code 114 = .ok (.aload_n 0, 1) := by decide +kernel
theorem dX11_code_115 : decode cX11_code 115 = .ok (.aload_n 0, 1) := by decide +kernel
theorem dX11_code_116 : decode cX11_code 116 = .ok (.getfield 30, 3) := by decide +kernel
theorem dX11_code_119 : decode cX11_code 119 = .ok (.iload_n 2, 1) := by decide +kernel
theorem dX11_code_120 : decode cX11_code 120 = .ok (.laload, 1) := by decide +kernel
theorem dX11_code_121 : decode cX11_code 121 = .ok (.invokevirtual 222, 3) := by decide +kernel
theorem dX11_code_124 : decode cX11_code 124 = .ok (.iinc 2 1, 3) := by decide +kernel
theorem dX11_code_127 : decode cX11_code 127 = .ok (.goto (-21), 3) := by decide +kernel
theorem dX11_code_130 : decode cX11_code 130 = .ok (.goto 7, 3) := by decide +kernel
theorem dX11_code_133 : decode cX11_code 133 = .ok (.aload_n 0, 1) := by decide +kernel
theorem dX11_code_134 : decode cX11_code 134 = .ok (.invokevirtual 229, 3) := by decide +kernel
theorem dX11_code_137 : decode cX11_code 137 = .ok (.iload_n 1, 1) := by decide +kernel
theorem dX11_code_138 : decode cX11_code 138 = .ok (.iconst 2, 1) := by decide +kernel
theorem dX11_code_139 : decode cX11_code 139 = .ok (.if_icmp .ne 7, 3) := by decide +kernel
theorem dX11_code_142 : decode cX11_code 142 = .ok (.aload_n 0, 1) := by decide +kernel
theorem dX11_code_143 : decode cX11_code 143 = .ok (.invokevirtual 232, 3) := by decide +kernel
theorem dX11_code_146 : decode cX11_code 146 = .ok (.iload_n 1, 1) := by decide +kernel
theorem dX11_code_147 : decode cX11_code 147 = .ok (.ifCond .le 7, 3) := by decide +kernel
theorem dX11_code_150 : decode cX11_code 150 = .ok (.aload_n 0, 1) := by decide +kernel
theorem dX11_code_151 : decode cX11_code 151 = .ok (.invokevirtual 232, 3) := by decide +kernel
theorem dX11_code_154 : decode cX11_code 154 = .ok (.return_, 1) := by decide +kernel
theorem dX11_wide_0 : decode cX11_wide 0 = .ok (.iconst 1, 1) := by decide +kernel
theorem dX11_wide_1 : decode cX11_wide 1 = .ok (.istore_n 1, 1) := by decide +kernel
theorem dX11_wide_2 : decode cX11_wide 2 = .ok (.iconst 0, 1) := by decide +kernel
theorem dX11_wide_3 : decode cX11_wide 3 = .ok (.istore_n 2, 1) := by decide +kernel
theorem dX11_wide_4 : decode cX11_wide 4 = .ok (.iload_n 2, 1) := by decide +kernel
theorem dX11_wide_5 : decode cX11_wide 5 = .ok (.aload_n 0, 1) := by decide +kernel
theorem dX11_wide_6 : decode cX11_wide 6 = .ok (.getfield 219, 3) := by decide +kernel
theorem dX11_wide_9 : decode cX11_wide 9 = .ok (.if_icmp .ge 53, 3) := by decide +kernel
theorem dX11_wide_12 : decode cX11_wide 12 = .ok (.iload_n 1, 1) := by decide +kernel
theorem dX11_wide_13 : decode cX11_wide 13 = .ok (.bipush 8, 2) := by decide +kernel
theorem dX11_wide_15 : decode cX11_wide 15 = .ok (.if_icmp .ge 41, 3) := by decide +kernel
theorem dX11_wide_18 : decode cX11_wide 18 = .ok (.aload_n 0, 1) := by decide +kernel
theorem dX11_wide_19 : decode cX11_wide 19 = .ok (.getfield 30, 3) := by decide +kernel
theorem dX11_wide_22 : decode cX11_wide 22 = .ok (.iload_n 2, 1) := by decide +kernel
theorem dX11_wide_23 : decode cX11_wide 23 = .ok (.laload, 1) := by decide +kernel
theorem dX11_wide_24 : decode cX11_wide 24 = .ok (.bipush 64, 2) := by decide +kernel
theorem dX11_wide_26 : decode cX11_wide 26 = .ok (.bipush 8, 2) := by decide +kernel
theorem dX11_wide_28 : decode cX11_wide 28 = .ok (.iload_n 1, 1) := by decide +kernel
theorem dX11_wide_29 : decode cX11_wide 29 = .ok (.imul, 1) := by decide +kernel
theorem dX11_wide_30 : decode cX11_wide 30 = .ok (.isub, 1) := by decide +kernel
theorem dX11_wide_31 : decode cX11_wide 31 = .ok (.lshl, 1) := by decide +kernel
theorem dX11_wide_32 : decode cX11_wide 32 = .ok (.bipush 64, 2) := by decide +kernel
theorem dX11_wide_34 : decode cX11_wide 34 = .ok (.bipush 8, 2) := by decide +kernel
theorem dX11_wide_36 : decode cX11_wide 36 = .ok (.iload_n 1, 1) := by decide +kernel
theorem dX11_wide_37 : decode cX11_wide 37 = .ok (.imul, 1) := by decide +kernel
theorem dX11_wide_38 : decode cX11_wide 38 = .ok (.isub, 1) := by decide +kernel
theorem dX11_wide_39 : decode cX11_wide 39 = .ok (.lshr, 1) := by decide +kernel
theorem dX11_wide_40 : decode cX11_wide 40 = .ok (.aload_n 0, 1) := by decide +kernel
theorem dX11_wide_41 : decode cX11_wide 41 = .ok (.getfield 30, 3) := by decide +kernel
theorem dX11_wide_44 : decode cX11_wide 44 = .ok (.iload_n 2, 1) := by decide +kernel
theorem dX11_wide_45 : decode cX11_wide 45 = .ok (.laload, 1) := by decide +kernel
theorem dX11_wide_46 : decode cX11_wide 46 = .ok (.lcmp, 1) := by decide +kernel
theorem dX11_wide_47 : decode cX11_wide 47 = .ok (.ifCond .eq 9, 3) := by decide +kernel
theorem dX11_wide_50 : decode cX11_wide 50 = .ok (.iinc 1 1, 3) := by decide +kernel
theorem dX11_wide_53 : decode cX11_wide 53 = .ok (.goto (-41), 3) := by decide +kernel
theorem dX11_wide_56 : decode cX11_wide 56 = .ok (.iinc 2 1, 3) := by decide +kernel
theorem dX11_wide_59 : decode cX11_wide 59 = .ok (.goto (-55), 3) := by decide +kernel
theorem dX11_wide_62 : decode cX11_wide 62 = .ok (.aload_n 0, 1) := by decide +kernel
theorem dX11_wide_63 : decode cX11_wide 63 = .ok (.getfield 33, 3) := by decide +kernel
theorem dX11_wide_66 : decode cX11_wide 66 = .ok (.iconst 0, 1) := by decide +kernel
theorem dX11_wide_67 : decode cX11_wide 67 = .ok (.iload_n 1, 1) := by decide +kernel
theorem dX11_wide_68 : decode cX11_wide 68 = .ok (.iastore, 1) := by decide +kernel
theorem dX11_wide_69 : decode cX11_wide 69 = .ok (.aload_n 0, 1) := by decide +kernel
theorem dX11_wide_70 : decode cX11_wide 70 = .ok (.iconst 1, 1) := by decide +kernel
theorem dX11_wide_71 : decode cX11_wide 71 = .ok (.putfield 214, 3) := by decide +kernel
theorem dX11_wide_74 : decode cX11_wide 74 = .ok (.iconst 0, 1) := by decide +kernel
theorem dX11_wide_75 : decode cX11_wide 75 = .ok (.istore_n 2, 1) := by decide +kernel
theorem dX11_wide_76 : decode cX11_wide 76 = .ok (.iload_n 2, 1) := by decide +kernel
theorem dX11_wide_77 : decode cX11_wide 77 = .ok (.aload_n 0, 1) := by decide +kernel
theorem dX11_wide_78 : decode cX11_wide 78 = .ok (.getfield 219, 3) := by decide +kernel
theorem dX11_wide_81 : decode cX11_wide 81 = .ok (.if_icmp .ge 57, 3) := by decide +kernel
theorem dX11_wide_84 : decode cX11_wide 84 = .ok (.iconst 0, 1) := by decide +kernel
theorem dX11_wide_85 : decode cX11_wide 85 = .ok (.istore_n 3, 1) := by decide +kernel
theorem dX11_wide_86 : decode cX11_wide 86 = .ok (.iload_n 3, 1) := by decide +kernel
theorem dX11_wide_87 : decode cX11_wide 87 = .ok (.iload_n 1, 1) := by decide +kernel
theorem dX11_wide_88 : decode cX11_wide 88 = .ok (.if_icmp .ge 44, 3) := by decide +kernel
theorem dX11_wide_91 : decode cX11_wide 91 = .ok (.aload_n 0, 1) := by decide +kernel
theorem dX11_wide_92 : decode cX11_wide 92 = .ok (.getfield 33, 3) := by decide +kernel
theorem dX11_wide_95 : decode cX11_wide 95 = .ok (.aload_n 0, 1) := by decide +kernel
theorem dX11_wide_96 : decode cX11_wide 96 = .ok (.getfield 214, 3) := by decide +kernel
theorem dX11_wide_99 : decode cX11_wide 99 = .ok (.aload_n 0, 1) := by decide +kernel
theorem dX11_wide_100 : decode cX11_wide 100 = .ok (.getfield 30, 3) := by decide +kernel
theorem dX11_wide_103 : decode cX11_wide 103 = .ok (.iload_n 2, 1) := by decide +kernel
theorem dX11_wide_104 : decode cX11_wide 104 = .ok (.laload, 1) := by decide +kernel
theorem dX11_wide_105 : decode cX11_wide 105 = .ok (.bipush 8, 2) := by decide +kernel
theorem dX11_wide_107 : decode cX11_wide 107 = .ok (.iload_n 3, 1) := by decide +kernel
theorem dX11_wide_108 : decode cX11_wide 108 = .ok (.imul, 1) := by decide +kernel
theorem dX11_wide_109 : decode cX11_wide 109 = .ok (.lshr, 1) := by decide +kernel
theorem dX11_wide_110 : decode cX11_wide 110 = .ok (.l2i, 1) := by decide +kernel
theorem dX11_wide_111 : decode cX11_wide 111 = .ok (.sipush 255, 3) := by decide +kernel
theorem dX11_wide_114 : decode cX11_wide 114 = .ok (.iand, 1) := by decide +kernel
theorem dX11_wide_115 : decode cX11_wide 115 = .ok (.iastore, 1) := by decide +kernel
theorem dX11_wide_116 : decode cX11_wide 116 = .ok (.aload_n 0, 1) := by decide +kernel
theorem dX11_wide_117 : decode cX11_wide 117 = .ok (.dup, 1) := by decide +kernel
theorem dX11_wide_118 : decode cX11_wide 118 = .ok (.getfield 214, 3) := by decide +kernel
theorem dX11_wide_121 : decode cX11_wide 121 = .ok (.iconst 1, 1) := by decide +kernel
theorem dX11_wide_122 : decode cX11_wide 122 = .ok (.iadd, 1) := by decide +kernel
theorem dX11_wide_123 : decode cX11_wide 123 = .ok (.putfield 214, 3) := by decide +kernel
theorem dX11_wide_126 : decode cX11_wide 126 = .ok (.iinc 3 1, 3) := by decide +kernel
theorem dX11_wide_129 : decode cX11_wide 129 = .ok (.goto (-43), 3) := by decide +kernel
theorem dX11_wide_132 : decode cX11_wide 132 = .ok (.iinc 2 1, 3) := by decide +kernel
theorem dX11_wide_135 : decode cX11_wide 135 = .ok (.goto (-59), 3) := by decide +kernel
theorem dX11_wide_138 : decode cX11_wide 138 = .ok (.return_, 1) := by decide +kernel
theorem dX11_codeRow_0 : decode cX11_codeRow 0 = .ok (.aload_n 0, 1) := by decide +kernel
theorem dX11_codeRow_1 : decode cX11_codeRow 1 = .ok (.aload_n 0, 1) := by decide +kernel
theorem dX11_codeRow_2 : decode cX11_codeRow 2 = .ok (.getfield 16, 3) := by decide +kernel
theorem dX11_codeRow_5 : decode cX11_codeRow 5 = .ok (.iload_n 1, 1) := by decide +kernel
theorem dX11_codeRow_6 : decode cX11_codeRow 6 = .ok (.iaload, 1) := by decide +kernel
theorem dX11_codeRow_7 : decode cX11_codeRow 7 = .ok (.putfield 219, 3) := by decide +kernel
theorem dX11_codeRow_10 : decode cX11_codeRow 10 = .ok (.iconst 0, 1) := by decide +kernel
theorem dX11_codeRow_11 : decode cX11_codeRow 11 = .ok (.istore_n 3, 1) := by decide +kernel
theorem dX11_codeRow_12 : decode cX11_codeRow 12 = .ok (.iload_n 3, 1) := by decide +kernel
theorem dX11_codeRow_13 : decode cX11_codeRow 13 = .ok (.aload_n 0, 1) := by decide +kernel
theorem dX11_codeRow_14 : decode cX11_codeRow 14 = .ok (.getfield 219, 3) := by decide +kernel
theorem dX11_codeRow_17 : decode cX11_codeRow 17 = .ok (.if_icmp .ge 26, 3) := by decide +kernel
theorem dX11_codeRow_20 : decode cX11_codeRow 20 = .ok (.aload_n 0, 1) := by decide +kernel
theorem dX11_codeRow_21 : decode cX11_codeRow 21 = .ok (.getfield 30, 3) := by decide +kernel
theorem dX11_codeRow_24 : decode cX11_codeRow 24 = .ok (.iload_n 3, 1) := by decide +kernel
theorem dX11_codeRow_25 : decode cX11_codeRow 25 = .ok (.aload_n 0, 1) := by decide +kernel
theorem dX11_codeRow_26 : decode cX11_codeRow 26 = .ok (.getfield 23, 3) := by decide +kernel
theorem dX11_codeRow_29 : decode cX11_codeRow 29 = .ok (.bipush 24, 2) := by decide +kernel
theorem dX11_codeRow_31 : decode cX11_codeRow 31 = .ok (.iload_n 1, 1) := by decide +kernel
theorem dX11_codeRow_32 : decode cX11_codeRow 32 = .ok (.imul, 1) := by decide +kernel
theorem dX11_codeRow_33 : decode cX11_codeRow 33 = .ok (.iload_n 3, 1) := by decide +kernel
theorem dX11_codeRow_34 : decode cX11_codeRow 34 = .ok (.iadd, 1) := by decide +kernel
theorem dX11_codeRow_35 : decode cX11_codeRow 35 = .ok (.laload, 1) := by decide +kernel
theorem dX11_codeRow_36 : decode cX11_codeRow 36 = .ok (.lastore, 1) := by decide +kernel
theorem dX11_codeRow_37 : decode cX11_codeRow 37 = .ok (.iinc 3 1, 3) := by decide +kernel
theorem dX11_codeRow_40 : decode cX11_codeRow 40 = .ok (.goto (-28), 3) := by decide +kernel
theorem dX11_codeRow_43 : decode cX11_codeRow 43 = .ok (.aload_n 0, 1) := by decide +kernel
theorem dX11_codeRow_44 : decode cX11_codeRow 44 = .ok (.iload_n 2, 1) := by decide +kernel
theorem dX11_codeRow_45 : decode cX11_codeRow 45 = .ok (.invokevirtual 235, 3) := by decide +kernel
theorem dX11_codeRow_48 : decode cX11_codeRow 48 = .ok (.return_, 1) := by decide +kernel
theorem dX11_isStream_0 : decode cX11_isStream 0 = .ok (.iload_n 1, 1) := by decide +kernel
theorem dX11_isStream_1 : decode cX11_isStream 1 = .ok (.i2l, 1) := by decide +kernel
theorem dX11_isStream_2 : decode cX11_isStream 2 = .ok (.lconst 0, 1) := by decide +kernel
theorem dX11_isStream_3 : decode cX11_isStream 3 = .ok (.aload_n 0, 1) := by decide +kernel
theorem dX11_isStream_4 : decode cX11_isStream 4 = .ok (.getfield 239, 3) := by decide +kernel
theorem dX11_isStream_7 : decode cX11_isStream 7 = .ok (.iconst 1, 1) := by decide +kernel
theorem dX11_isStream_8 : decode cX11_isStream 8 = .ok (.isub, 1) := by decide +kernel
theorem dX11_isStream_9 : decode cX11_isStream 9 = .ok (.i2l, 1) := by decide +kernel
theorem dX11_isStream_10 : decode cX11_isStream 10 = .ok (.invokestatic 140, 3) := by decide +kernel
theorem dX11_isStream_13 : decode cX11_isStream 13 = .ok (.ireturn, 1) := by decide +kernel
theorem dX11_newStream_0 : decode cX11_newStream 0 = .ok (.aload_n 0, 1) := by decide +kernel
theorem dX11_newStream_1 : decode cX11_newStream 1 = .ok (.getfield 39, 3) := by decide +kernel
theorem dX11_newStream_4 : decode cX11_newStream 4 = .ok (.aload_n 0, 1) := by decide +kernel
theorem dX11_newStream_5 : decode cX11_newStream 5 = .ok (.getfield 239, 3) := by decide +kernel
theorem dX11_newStream_8 : decode cX11_newStream 8 = .ok (.iconst 0, 1) := by decide +kernel
theorem dX11_newStream_9 : decode cX11_newStream 9 = .ok (.iastore, 1) := by decide +kernel
theorem dX11_newStream_10 : decode cX11_newStream 10 = .ok (.aload_n 0, 1) := by decide +kernel
theorem dX11_newStream_11 : decode cX11_newStream 11 = .ok (.getfield 42, 3) := by decide +kernel
theorem dX11_newStream_14 : decode cX11_newStream 14 = .ok (.aload_n 0, 1) := by decide +kernel
theorem dX11_newStream_15 : decode cX11_newStream 15 = .ok (.getfield 239, 3) := by decide +kernel
theorem dX11_newStream_18 : decode cX11_newStream 18 = .ok (.iconst 0, 1) := by decide +kernel
theorem dX11_newStream_19 : decode cX11_newStream 19 = .ok (.iastore, 1) := by decide +kernel
theorem dX11_newStream_20 : decode cX11_newStream 20 = .ok (.aload_n 0, 1) := by decide +kernel
theorem dX11_newStream_21 : decode cX11_newStream 21 = .ok (.getfield 45, 3) := by decide +kernel
theorem dX11_newStream_24 : decode cX11_newStream 24 = .ok (.aload_n 0, 1) := by decide +kernel
theorem dX11_newStream_25 : decode cX11_newStream 25 = .ok (.getfield 239, 3) := by decide +kernel
theorem dX11_newStream_28 : decode cX11_newStream 28 = .ok (.iconst 0, 1) := by decide +kernel
theorem dX11_newStream_29 : decode cX11_newStream 29 = .ok (.bastore, 1) := by decide +kernel
theorem dX11_newStream_30 : decode cX11_newStream 30 = .ok (.aload_n 0, 1) := by decide +kernel
theorem dX11_newStream_31 : decode cX11_newStream 31 = .ok (.dup, 1) := by decide +kernel
theorem dX11_newStream_32 : decode cX11_newStream 32 = .ok (.getfield 239, 3) := by decide +kernel
theorem dX11_newStream_35 : decode cX11_newStream 35 = .ok (.iconst 1, 1) := by decide +kernel
theorem dX11_newStream_36 : decode cX11_newStream 36 = .ok (.iadd, 1) := by decide +kernel
theorem dX11_newStream_37 : decode cX11_newStream 37 = .ok (.putfield 239, 3) := by decide +kernel
theorem dX11_newStream_40 : decode cX11_newStream 40 = .ok (.aload_n 0, 1) := by decide +kernel
theorem dX11_newStream_41 : decode cX11_newStream 41 = .ok (.getfield 239, 3) := by decide +kernel
theorem dX11_newStream_44 : decode cX11_newStream 44 = .ok (.iconst 1, 1) := by decide +kernel
theorem dX11_newStream_45 : decode cX11_newStream 45 = .ok (.isub, 1) := by decide +kernel
theorem dX11_newStream_46 : decode cX11_newStream 46 = .ok (.ireturn, 1) := by decide +kernel
theorem dX11_lay_0 : decode cX11_lay 0 = .ok (.aload_n 0, 1) := by decide +kernel
theorem dX11_lay_1 : decode cX11_lay 1 = .ok (.getfield 36, 3) := by decide +kernel
theorem dX11_lay_4 : decode cX11_lay 4 = .ok (.sipush 400, 3) := by decide +kernel
theorem dX11_lay_7 : decode cX11_lay 7 = .ok (.iload_n 1, 1) := by decide +kernel
theorem dX11_lay_8 : decode cX11_lay 8 = .ok (.imul, 1) := by decide +kernel
theorem dX11_lay_9 : decode cX11_lay 9 = .ok (.aload_n 0, 1) := by decide +kernel
theorem dX11_lay_10 : decode cX11_lay 10 = .ok (.getfield 39, 3) := by decide +kernel
theorem dX11_lay_13 : decode cX11_lay 13 = .ok (.iload_n 1, 1) := by decide +kernel
theorem dX11_lay_14 : decode cX11_lay 14 = .ok (.iaload, 1) := by decide +kernel
theorem dX11_lay_15 : decode cX11_lay 15 = .ok (.iadd, 1) := by decide +kernel
theorem dX11_lay_16 : decode cX11_lay 16 = .ok (.iload_n 2, 1) := by decide +kernel
theorem dX11_lay_17 : decode cX11_lay 17 = .ok (.iastore, 1) := by decide +kernel
theorem dX11_lay_18 : decode cX11_lay 18 = .ok (.aload_n 0, 1) := by decide +kernel
theorem dX11_lay_19 : decode cX11_lay 19 = .ok (.getfield 39, 3) := by decide +kernel
theorem dX11_lay_22 : decode cX11_lay 22 = .ok (.iload_n 1, 1) := by decide +kernel
theorem dX11_lay_23 : decode cX11_lay 23 = .ok (.dup2, 1) := by decide +kernel
theorem dX11_lay_24 : decode cX11_lay 24 = .ok (.iaload, 1) := by decide +kernel
theorem dX11_lay_25 : decode cX11_lay 25 = .ok (.iconst 1, 1) := by decide +kernel
theorem dX11_lay_26 : decode cX11_lay 26 = .ok (.iadd, 1) := by decide +kernel
theorem dX11_lay_27 : decode cX11_lay 27 = .ok (.iastore, 1) := by decide +kernel
theorem dX11_lay_28 : decode cX11_lay 28 = .ok (.return_, 1) := by decide +kernel
theorem dX11_sumOf_0 : decode cX11_sumOf 0 = .ok (.iconst 0, 1) := by decide +kernel
theorem dX11_sumOf_1 : decode cX11_sumOf 1 = .ok (.istore 4, 2) := by decide +kernel
theorem dX11_sumOf_3 : decode cX11_sumOf 3 = .ok (.iload_n 2, 1) := by decide +kernel
theorem dX11_sumOf_4 : decode cX11_sumOf 4 = .ok (.istore 5, 2) := by decide +kernel
theorem dX11_sumOf_6 : decode cX11_sumOf 6 = .ok (.iload 5, 2) := by decide +kernel
theorem dX11_sumOf_8 : decode cX11_sumOf 8 = .ok (.iload_n 3, 1) := by decide +kernel
theorem dX11_sumOf_9 : decode cX11_sumOf 9 = .ok (.if_icmp .ge 33, 3) := by decide +kernel
theorem dX11_sumOf_12 : decode cX11_sumOf 12 = .ok (.bipush 31, 2) := by decide +kernel
theorem dX11_sumOf_14 : decode cX11_sumOf 14 = .ok (.iload 4, 2) := by decide +kernel
theorem dX11_sumOf_16 : decode cX11_sumOf 16 = .ok (.imul, 1) := by decide +kernel
theorem dX11_sumOf_17 : decode cX11_sumOf 17 = .ok (.aload_n 0, 1) := by decide +kernel
theorem dX11_sumOf_18 : decode cX11_sumOf 18 = .ok (.getfield 36, 3) := by decide +kernel
theorem dX11_sumOf_21 : decode cX11_sumOf 21 = .ok (.sipush 400, 3) := by decide +kernel
theorem dX11_sumOf_24 : decode cX11_sumOf 24 = .ok (.iload_n 1, 1) := by decide +kernel
theorem dX11_sumOf_25 : decode cX11_sumOf 25 = .ok (.imul, 1) := by decide +kernel
theorem dX11_sumOf_26 : decode cX11_sumOf 26 = .ok (.iload 5, 2) := by decide +kernel
theorem dX11_sumOf_28 : decode cX11_sumOf 28 = .ok (.iadd, 1) := by decide +kernel
theorem dX11_sumOf_29 : decode cX11_sumOf 29 = .ok (.iaload, 1) := by decide +kernel
theorem dX11_sumOf_30 : decode cX11_sumOf 30 = .ok (.iadd, 1) := by decide +kernel
theorem dX11_sumOf_31 : decode cX11_sumOf 31 = .ok (.ldc 242, 2) := by decide +kernel
theorem dX11_sumOf_33 : decode cX11_sumOf 33 = .ok (.iand, 1) := by decide +kernel
theorem dX11_sumOf_34 : decode cX11_sumOf 34 = .ok (.istore 4, 2) := by decide +kernel
theorem dX11_sumOf_36 : decode cX11_sumOf 36 = .ok (.iinc 5 1, 3) := by decide +kernel
theorem dX11_sumOf_39 : decode cX11_sumOf 39 = .ok (.goto (-33), 3) := by decide +kernel
theorem dX11_sumOf_42 : decode cX11_sumOf 42 = .ok (.iload 4, 2) := by decide +kernel
theorem dX11_sumOf_44 : decode cX11_sumOf 44 = .ok (.ireturn, 1) := by decide +kernel
theorem dX11_stream_0 : decode cX11_stream 0 = .ok (.aload_n 0, 1) := by decide +kernel
theorem dX11_stream_1 : decode cX11_stream 1 = .ok (.getfield 239, 3) := by decide +kernel
theorem dX11_stream_4 : decode cX11_stream 4 = .ok (.bipush 24, 2) := by decide +kernel
theorem dX11_stream_6 : decode cX11_stream 6 = .ok (.if_icmp .ne 8, 3) := by decide +kernel
theorem dX11_stream_9 : decode cX11_stream 9 = .ok (.bipush (-104), 2) := by decide +kernel
theorem dX11_stream_11 : decode cX11_stream 11 = .ok (.goto 7, 3) := by decide +kernel
theorem dX11_stream_14 : decode cX11_stream 14 = .ok (.aload_n 0, 1) := by decide +kernel
theorem dX11_stream_15 : decode cX11_stream 15 = .ok (.invokevirtual 243, 3) := by decide +kernel
theorem dX11_stream_18 : decode cX11_stream 18 = .ok (.ireturn, 1) := by decide +kernel
theorem dX11_write_0 : decode cX11_write 0 = .ok (.aload_n 0, 1) := by decide +kernel
theorem dX11_write_1 : decode cX11_write 1 = .ok (.iload_n 1, 1) := by decide +kernel
theorem dX11_write_2 : decode cX11_write 2 = .ok (.invokevirtual 247, 3) := by decide +kernel
theorem dX11_write_5 : decode cX11_write 5 = .ok (.ifCond .eq 11, 3) := by decide +kernel
theorem dX11_write_8 : decode cX11_write 8 = .ok (.aload_n 0, 1) := by decide +kernel
theorem dX11_write_9 : decode cX11_write 9 = .ok (.iload_n 2, 1) := by decide +kernel
theorem dX11_write_10 : decode cX11_write 10 = .ok (.invokevirtual 154, 3) := by decide +kernel
theorem dX11_write_13 : decode cX11_write 13 = .ok (.ifCond .ne 6, 3) := by decide +kernel
theorem dX11_write_16 : decode cX11_write 16 = .ok (.bipush (-101), 2) := by decide +kernel
theorem dX11_write_18 : decode cX11_write 18 = .ok (.ireturn, 1) := by decide +kernel
theorem dX11_write_19 : decode cX11_write 19 = .ok (.iload_n 3, 1) := by decide +kernel
theorem dX11_write_20 : decode cX11_write 20 = .ok (.i2l, 1) := by decide +kernel
theorem dX11_write_21 : decode cX11_write 21 = .ok (.lconst 0, 1) := by decide +kernel
theorem dX11_write_22 : decode cX11_write 22 = .ok (.ldc2_w 250, 3) := by decide +kernel
theorem dX11_write_25 : decode cX11_write 25 = .ok (.invokestatic 140, 3) := by decide +kernel
theorem dX11_write_28 : decode cX11_write 28 = .ok (.ifCond .ne 6, 3) := by decide +kernel
theorem dX11_write_31 : decode cX11_write 31 = .ok (.bipush (-102), 2) := by decide +kernel
theorem dX11_write_33 : decode cX11_write 33 = .ok (.ireturn, 1) := by decide +kernel
theorem dX11_write_34 : decode cX11_write 34 = .ok (.aload_n 0, 1) := by decide +kernel
theorem dX11_write_35 : decode cX11_write 35 = .ok (.getfield 45, 3) := by decide +kernel
theorem dX11_write_38 : decode cX11_write 38 = .ok (.iload_n 1, 1) := by decide +kernel
theorem dX11_write_39 : decode cX11_write 39 = .ok (.baload, 1) := by decide +kernel
theorem dX11_write_40 : decode cX11_write 40 = .ok (.ifCond .eq 6, 3) := by decide +kernel
theorem dX11_write_43 : decode cX11_write 43 = .ok (.bipush (-103), 2) := by decide +kernel
theorem dX11_write_45 : decode cX11_write 45 = .ok (.ireturn, 1) := by decide +kernel
theorem dX11_write_46 : decode cX11_write 46 = .ok (.aload_n 0, 1) := by decide +kernel
theorem dX11_write_47 : decode cX11_write 47 = .ok (.getfield 19, 3) := by decide +kernel
theorem dX11_write_50 : decode cX11_write 50 = .ok (.iload_n 2, 1) := by decide +kernel
theorem dX11_write_51 : decode cX11_write 51 = .ok (.baload, 1) := by decide +kernel
theorem dX11_write_52 : decode cX11_write 52 = .ok (.ifCond .eq 9, 3) := by decide +kernel
theorem dX11_write_55 : decode cX11_write 55 = .ok (.aload_n 0, 1) := by decide +kernel
theorem dX11_write_56 : decode cX11_write 56 = .ok (.iconst 1, 1) := by decide +kernel
theorem dX11_write_57 : decode cX11_write 57 = .ok (.invokevirtual 146, 3) := by decide +kernel
theorem dX11_write_60 : decode cX11_write 60 = .ok (.ireturn, 1) := by decide +kernel
theorem dX11_write_61 : decode cX11_write 61 = .ok (.aload_n 0, 1) := by decide +kernel
theorem dX11_write_62 : decode cX11_write 62 = .ok (.iload_n 2, 1) := by decide +kernel
theorem dX11_write_63 : decode cX11_write 63 = .ok (.iload_n 3, 1) := by decide +kernel
theorem dX11_write_64 : decode cX11_write 64 = .ok (.invokevirtual 252, 3) := by decide +kernel
theorem dX11_write_67 : decode cX11_write 67 = .ok (.aload_n 0, 1) := by decide +kernel
theorem dX11_write_68 : decode cX11_write 68 = .ok (.getfield 39, 3) := by decide +kernel
theorem dX11_write_71 : decode cX11_write 71 = .ok (.iload_n 1, 1) := by decide +kernel
theorem dX11_write_72 : decode cX11_write 72 = .ok (.iaload, 1) := by decide +kernel
theorem dX11_write_73 : decode cX11_write 73 = .ok (.aload_n 0, 1) := by decide +kernel
theorem dX11_write_74 : decode cX11_write 74 = .ok (.getfield 214, 3) := by decide +kernel
theorem dX11_write_77 : decode cX11_write 77 = .ok (.iadd, 1) := by decide +kernel
theorem dX11_write_78 : decode cX11_write 78 = .ok (.bipush 7, 2) := by decide +kernel
theorem dX11_write_80 : decode cX11_write 80 = .ok (.iadd, 1) := by decide +kernel
theorem dX11_write_81 : decode cX11_write 81 = .ok (.sipush 400, 3) := by decide +kernel
theorem dX11_write_84 : decode cX11_write 84 = .ok (.if_icmp .le 6, 3) := by decide +kernel
theorem dX11_write_87 : decode cX11_write 87 = .ok (.bipush (-104), 2) := by decide +kernel
theorem dX11_write_89 : decode cX11_write 89 = .ok (.ireturn, 1) := by decide +kernel
theorem dX11_write_90 : decode cX11_write 90 = .ok (.aload_n 0, 1) := by decide +kernel
theorem dX11_write_91 : decode cX11_write 91 = .ok (.getfield 39, 3) := by decide +kernel
theorem dX11_write_94 : decode cX11_write 94 = .ok (.iload_n 1, 1) := by decide +kernel
theorem dX11_write_95 : decode cX11_write 95 = .ok (.iaload, 1) := by decide +kernel
theorem dX11_write_96 : decode cX11_write 96 = .ok (.istore 4, 2) := by decide +kernel
theorem dX11_write_98 : decode cX11_write 98 = .ok (.aload_n 0, 1) := by decide +kernel
theorem dX11_write_99 : decode cX11_write 99 = .ok (.iload_n 1, 1) := by decide +kernel
theorem dX11_write_100 : decode cX11_write 100 = .ok (.sipush 160, 3) := by decide +kernel
theorem dX11_write_103 : decode cX11_write 103 = .ok (.iload_n 3, 1) := by decide +kernel
theorem dX11_write_104 : decode cX11_write 104 = .ok (.iadd, 1) := by decide +kernel
theorem dX11_write_105 : decode cX11_write 105 = .ok (.invokevirtual 256, 3) := by decide +kernel
theorem dX11_write_108 : decode cX11_write 108 = .ok (.aload_n 0, 1) := by decide +kernel
theorem dX11_write_109 : decode cX11_write 109 = .ok (.iload_n 1, 1) := by decide +kernel
theorem dX11_write_110 : decode cX11_write 110 = .ok (.aload_n 0, 1) := by decide +kernel
theorem dX11_write_111 : decode cX11_write 111 = .ok (.getfield 13, 3) := by decide +kernel
theorem dX11_write_114 : decode cX11_write 114 = .ok (.iload_n 2, 1) := by decide +kernel
theorem dX11_write_115 : decode cX11_write 115 = .ok (.iaload, 1) := by decide +kernel
theorem dX11_write_116 : decode cX11_write 116 = .ok (.invokevirtual 256, 3) := by decide +kernel
theorem dX11_write_119 : decode cX11_write 119 = .ok (.aload_n 0, 1) := by decide +kernel
theorem dX11_write_120 : decode cX11_write 120 = .ok (.iload_n 1, 1) := by decide +kernel
theorem dX11_write_121 : decode cX11_write 121 = .ok (.aload_n 0, 1) := by decide +kernel
theorem dX11_write_122 : decode cX11_write 122 = .ok (.getfield 16, 3) := by decide +kernel
theorem dX11_write_125 : decode cX11_write 125 = .ok (.iload_n 2, 1) := by decide +kernel
theorem dX11_write_126 : decode cX11_write 126 = .ok (.iaload, 1) := by decide +kernel
theorem dX11_write_127 : decode cX11_write 127 = .ok (.invokevirtual 256, 3) := by decide +kernel
theorem dX11_write_130 : decode cX11_write 130 = .ok (.aload_n 0, 1) := by decide +kernel
theorem dX11_write_131 : decode cX11_write 131 = .ok (.iload_n 1, 1) := by decide +kernel
theorem dX11_write_132 : decode cX11_write 132 = .ok (.aload_n 0, 1) := by decide +kernel
theorem dX11_write_133 : decode cX11_write 133 = .ok (.getfield 214, 3) := by decide +kernel
theorem dX11_write_136 : decode cX11_write 136 = .ok (.sipush 255, 3) := by decide +kernel
theorem dX11_write_139 : decode cX11_write 139 = .ok (.iand, 1) := by decide +kernel
theorem dX11_write_140 : decode cX11_write 140 = .ok (.invokevirtual 256, 3) := by decide +kernel
theorem dX11_write_143 : decode cX11_write 143 = .ok (.aload_n 0, 1) := by decide +kernel
theorem dX11_write_144 : decode cX11_write 144 = .ok (.iload_n 1, 1) := by decide +kernel
theorem dX11_write_145 : decode cX11_write 145 = .ok (.aload_n 0, 1) := by decide +kernel
theorem dX11_write_146 : decode cX11_write 146 = .ok (.getfield 214, 3) := by decide +kernel
theorem dX11_write_149 : decode cX11_write 149 = .ok (.bipush 8, 2) := by decide +kernel
theorem dX11_write_151 : decode cX11_write 151 = .ok (.ishr, 1) := by decide +kernel
theorem dX11_write_152 : decode cX11_write 152 = .ok (.invokevirtual 256, 3) := by decide +kernel
theorem dX11_write_155 : decode cX11_write 155 = .ok (.iconst 0, 1) := by decide +kernel
theorem dX11_write_156 : decode cX11_write 156 = .ok (.istore 5, 2) := by decide +kernel
theorem dX11_write_158 : decode cX11_write 158 = .ok (.iload 5, 2) := by decide +kernel
theorem dX11_write_160 : decode cX11_write 160 = .ok (.aload_n 0, 1) := by decide +kernel
theorem dX11_write_161 : decode cX11_write 161 = .ok (.getfield 214, 3) := by decide +kernel
theorem dX11_write_164 : decode cX11_write 164 = .ok (.if_icmp .ge 21, 3) := by decide +kernel
theorem dX11_write_167 : decode cX11_write 167 = .ok (.aload_n 0, 1) := by decide +kernel
theorem dX11_write_168 : decode cX11_write 168 = .ok (.iload_n 1, 1) := by decide +kernel
theorem dX11_write_169 : decode cX11_write 169 = .ok (.aload_n 0, 1) := by decide +kernel
theorem dX11_write_170 : decode cX11_write 170 = .ok (.getfield 33, 3) := by decide +kernel
theorem dX11_write_173 : decode cX11_write 173 = .ok (.iload 5, 2) := by decide +kernel
theorem dX11_write_175 : decode cX11_write 175 = .ok (.iaload, 1) := by decide +kernel
theorem dX11_write_176 : decode cX11_write 176 = .ok (.invokevirtual 256, 3) := by decide +kernel
theorem dX11_write_179 : decode cX11_write 179 = .ok (.iinc 5 1, 3) := by decide +kernel
theorem dX11_write_182 : decode cX11_write 182 = .ok (.goto (-24), 3) := by decide +kernel
theorem dX11_write_185 : decode cX11_write 185 = .ok (.aload_n 0, 1) := by decide +kernel
theorem dX11_write_186 : decode cX11_write 186 = .ok (.iload_n 1, 1) := by decide +kernel
theorem dX11_write_187 : decode cX11_write 187 = .ok (.iload 4, 2) := by decide +kernel
theorem dX11_write_189 : decode cX11_write 189 = .ok (.aload_n 0, 1) := by decide +kernel
theorem dX11_write_190 : decode cX11_write 190 = .ok (.getfield 39, 3) := by decide +kernel
theorem dX11_write_193 : decode cX11_write 193 = .ok (.iload_n 1, 1) := by decide +kernel
theorem dX11_write_194 : decode cX11_write 194 = .ok (.iaload, 1) := by decide +kernel
theorem dX11_write_195 : decode cX11_write 195 = .ok (.invokevirtual 259, 3) := by decide +kernel
theorem dX11_write_198 : decode cX11_write 198 = .ok (.istore 5, 2) := by decide +kernel
theorem dX11_write_200 : decode cX11_write 200 = .ok (.aload_n 0, 1) := by decide +kernel
theorem dX11_write_201 : decode cX11_write 201 = .ok (.iload_n 1, 1) := by decide +kernel
theorem dX11_write_202 : decode cX11_write 202 = .ok (.iload 5, 2) := by decide +kernel
theorem dX11_write_204 : decode cX11_write 204 = .ok (.sipush 255, 3) := by decide +kernel
theorem dX11_write_207 : decode cX11_write 207 = .ok (.iand, 1) := by decide +kernel
theorem dX11_write_208 : decode cX11_write 208 = .ok (.invokevirtual 256, 3) := by decide +kernel
theorem dX11_write_211 : decode cX11_write 211 = .ok (.aload_n 0, 1) := by decide +kernel
theorem dX11_write_212 : decode cX11_write 212 = .ok (.iload_n 1, 1) := by decide +kernel
theorem dX11_write_213 : decode cX11_write 213 = .ok (.iload 5, 2) := by decide +kernel
theorem dX11_write_215 : decode cX11_write 215 = .ok (.bipush 8, 2) := by decide +kernel
theorem dX11_write_217 : decode cX11_write 217 = .ok (.ishr, 1) := by decide +kernel
theorem dX11_write_218 : decode cX11_write 218 = .ok (.invokevirtual 256, 3) := by decide +kernel
theorem dX11_write_221 : decode cX11_write 221 = .ok (.aload_n 0, 1) := by decide +kernel
theorem dX11_write_222 : decode cX11_write 222 = .ok (.getfield 39, 3) := by decide +kernel
theorem dX11_write_225 : decode cX11_write 225 = .ok (.iload_n 1, 1) := by decide +kernel
theorem dX11_write_226 : decode cX11_write 226 = .ok (.iaload, 1) := by decide +kernel
theorem dX11_write_227 : decode cX11_write 227 = .ok (.ireturn, 1) := by decide +kernel
theorem dX11_cost_0 : decode cX11_cost 0 = .ok (.aload_n 0, 1) := by decide +kernel
theorem dX11_cost_1 : decode cX11_cost 1 = .ok (.iload_n 1, 1) := by decide +kernel
theorem dX11_cost_2 : decode cX11_cost 2 = .ok (.invokevirtual 154, 3) := by decide +kernel
theorem dX11_cost_5 : decode cX11_cost 5 = .ok (.ifCond .ne 6, 3) := by decide +kernel
theorem dX11_cost_8 : decode cX11_cost 8 = .ok (.bipush (-101), 2) := by decide +kernel
theorem dX11_cost_10 : decode cX11_cost 10 = .ok (.ireturn, 1) := by decide +kernel
theorem dX11_cost_11 : decode cX11_cost 11 = .ok (.iload_n 2, 1) := by decide +kernel
theorem dX11_cost_12 : decode cX11_cost 12 = .ok (.i2l, 1) := by decide +kernel
theorem dX11_cost_13 : decode cX11_cost 13 = .ok (.lconst 0, 1) := by decide +kernel
theorem dX11_cost_14 : decode cX11_cost 14 = .ok (.ldc2_w 250, 3) := by decide +kernel
theorem dX11_cost_17 : decode cX11_cost 17 = .ok (.invokestatic 140, 3) := by decide +kernel
theorem dX11_cost_20 : decode cX11_cost 20 = .ok (.ifCond .ne 6, 3) := by decide +kernel
theorem dX11_cost_23 : decode cX11_cost 23 = .ok (.bipush (-102), 2) := by decide +kernel
theorem dX11_cost_25 : decode cX11_cost 25 = .ok (.ireturn, 1) := by decide +kernel
theorem dX11_cost_26 : decode cX11_cost 26 = .ok (.aload_n 0, 1) := by decide +kernel
theorem dX11_cost_27 : decode cX11_cost 27 = .ok (.getfield 19, 3) := by decide +kernel
theorem dX11_cost_30 : decode cX11_cost 30 = .ok (.iload_n 1, 1) := by decide +kernel
theorem dX11_cost_31 : decode cX11_cost 31 = .ok (.baload, 1) := by decide +kernel
theorem dX11_cost_32 : decode cX11_cost 32 = .ok (.ifCond .eq 9, 3) := by decide +kernel
theorem dX11_cost_35 : decode cX11_cost 35 = .ok (.aload_n 0, 1) := by decide +kernel
theorem dX11_cost_36 : decode cX11_cost 36 = .ok (.iconst 1, 1) := by decide +kernel
theorem dX11_cost_37 : decode cX11_cost 37 = .ok (.invokevirtual 146, 3) := by decide +kernel
theorem dX11_cost_40 : decode cX11_cost 40 = .ok (.ireturn, 1) := by decide +kernel
theorem dX11_cost_41 : decode cX11_cost 41 = .ok (.aload_n 0, 1) := by decide +kernel
theorem dX11_cost_42 : decode cX11_cost 42 = .ok (.iload_n 1, 1) := by decide +kernel
theorem dX11_cost_43 : decode cX11_cost 43 = .ok (.iload_n 2, 1) := by decide +kernel
theorem dX11_cost_44 : decode cX11_cost 44 = .ok (.invokevirtual 252, 3) := by decide +kernel
theorem dX11_cost_47 : decode cX11_cost 47 = .ok (.aload_n 0, 1) := by decide +kernel
theorem dX11_cost_48 : decode cX11_cost 48 = .ok (.getfield 214, 3) := by decide +kernel
theorem dX11_cost_51 : decode cX11_cost 51 = .ok (.ireturn, 1) := by decide +kernel
theorem dX11_best_0 : decode cX11_best 0 = .ok (.aload_n 0, 1) := by decide +kernel
theorem dX11_best_1 : decode cX11_best 1 = .ok (.iload_n 1, 1) := by decide +kernel
theorem dX11_best_2 : decode cX11_best 2 = .ok (.invokevirtual 154, 3) := by decide +kernel
theorem dX11_best_5 : decode cX11_best 5 = .ok (.ifCond .ne 6, 3) := by decide +kernel
theorem dX11_best_8 : decode cX11_best 8 = .ok (.bipush (-101), 2) := by decide +kernel
theorem dX11_best_10 : decode cX11_best 10 = .ok (.ireturn, 1) := by decide +kernel
theorem dX11_best_11 : decode cX11_best 11 = .ok (.aload_n 0, 1) := by decide +kernel
theorem dX11_best_12 : decode cX11_best 12 = .ok (.getfield 19, 3) := by decide +kernel
theorem dX11_best_15 : decode cX11_best 15 = .ok (.iload_n 1, 1) := by decide +kernel
theorem dX11_best_16 : decode cX11_best 16 = .ok (.baload, 1) := by decide +kernel
theorem dX11_best_17 : decode cX11_best 17 = .ok (.ifCond .eq 9, 3) := by decide +kernel
theorem dX11_best_20 : decode cX11_best 20 = .ok (.aload_n 0, 1) := by decide +kernel
theorem dX11_best_21 : decode cX11_best 21 = .ok (.iconst 1, 1) := by decide +kernel
theorem dX11_best_22 : decode cX11_best 22 = .ok (.invokevirtual 146, 3) := by decide +kernel
theorem dX11_best_25 : decode cX11_best 25 = .ok (.ireturn, 1) := by decide +kernel
theorem dX11_best_26 : decode cX11_best 26 = .ok (.iconst 0, 1) := by decide +kernel
theorem dX11_best_27 : decode cX11_best 27 = .ok (.istore_n 2, 1) := by decide +kernel
theorem dX11_best_28 : decode cX11_best 28 = .ok (.sipush 1000, 3) := by decide +kernel
theorem dX11_best_31 : decode cX11_best 31 = .ok (.istore_n 3, 1) := by decide +kernel
theorem dX11_best_32 : decode cX11_best 32 = .ok (.iconst 0, 1) := by decide +kernel
theorem dX11_best_33 : decode cX11_best 33 = .ok (.istore 4, 2) := by decide +kernel
theorem dX11_best_35 : decode cX11_best 35 = .ok (.iload 4, 2) := by decide +kernel
theorem dX11_best_37 : decode cX11_best 37 = .ok (.iconst 5, 1) := by decide +kernel
theorem dX11_best_38 : decode cX11_best 38 = .ok (.if_icmp .ge 32, 3) := by decide +kernel
theorem dX11_best_41 : decode cX11_best 41 = .ok (.aload_n 0, 1) := by decide +kernel
theorem dX11_best_42 : decode cX11_best 42 = .ok (.iload_n 1, 1) := by decide +kernel
theorem dX11_best_43 : decode cX11_best 43 = .ok (.iload 4, 2) := by decide +kernel
theorem dX11_best_45 : decode cX11_best 45 = .ok (.invokevirtual 252, 3) := by decide +kernel
theorem dX11_best_48 : decode cX11_best 48 = .ok (.aload_n 0, 1) := by decide +kernel
theorem dX11_best_49 : decode cX11_best 49 = .ok (.getfield 214, 3) := by decide +kernel
theorem dX11_best_52 : decode cX11_best 52 = .ok (.iload_n 3, 1) := by decide +kernel
theorem dX11_best_53 : decode cX11_best 53 = .ok (.if_icmp .ge 11, 3) := by decide +kernel
theorem dX11_best_56 : decode cX11_best 56 = .ok (.aload_n 0, 1) := by decide +kernel
theorem dX11_best_57 : decode cX11_best 57 = .ok (.getfield 214, 3) := by decide +kernel
theorem dX11_best_60 : decode cX11_best 60 = .ok (.istore_n 3, 1) := by decide +kernel
theorem dX11_best_61 : decode cX11_best 61 = .ok (.iload 4, 2) := by decide +kernel
theorem dX11_best_63 : decode cX11_best 63 = .ok (.istore_n 2, 1) := by decide +kernel
theorem dX11_best_64 : decode cX11_best 64 = .ok (.iinc 4 1, 3) := by decide +kernel
theorem dX11_best_67 : decode cX11_best 67 = .ok (.goto (-32), 3) := by decide +kernel
theorem dX11_best_70 : decode cX11_best 70 = .ok (.iload_n 2, 1) := by decide +kernel
theorem dX11_best_71 : decode cX11_best 71 = .ok (.ireturn, 1) := by decide +kernel
theorem dX11_add_0 : decode cX11_add 0 = .ok (.aload_n 0, 1) := by decide +kernel
theorem dX11_add_1 : decode cX11_add 1 = .ok (.iload_n 1, 1) := by decide +kernel
theorem dX11_add_2 : decode cX11_add 2 = .ok (.invokevirtual 247, 3) := by decide +kernel
theorem dX11_add_5 : decode cX11_add 5 = .ok (.ifCond .ne 6, 3) := by decide +kernel
theorem dX11_add_8 : decode cX11_add 8 = .ok (.bipush (-101), 2) := by decide +kernel
theorem dX11_add_10 : decode cX11_add 10 = .ok (.ireturn, 1) := by decide +kernel
theorem dX11_add_11 : decode cX11_add 11 = .ok (.aload_n 0, 1) := by decide +kernel
theorem dX11_add_12 : decode cX11_add 12 = .ok (.getfield 45, 3) := by decide +kernel
theorem dX11_add_15 : decode cX11_add 15 = .ok (.iload_n 1, 1) := by decide +kernel
theorem dX11_add_16 : decode cX11_add 16 = .ok (.baload, 1) := by decide +kernel
theorem dX11_add_17 : decode cX11_add 17 = .ok (.ifCond .eq 6, 3) := by decide +kernel
theorem dX11_add_20 : decode cX11_add 20 = .ok (.bipush (-103), 2) := by decide +kernel
theorem dX11_add_22 : decode cX11_add 22 = .ok (.ireturn, 1) := by decide +kernel
theorem dX11_add_23 : decode cX11_add 23 = .ok (.aload_n 0, 1) := by decide +kernel
theorem dX11_add_24 : decode cX11_add 24 = .ok (.getfield 39, 3) := by decide +kernel
theorem dX11_add_27 : decode cX11_add 27 = .ok (.iload_n 1, 1) := by decide +kernel
theorem dX11_add_28 : decode cX11_add 28 = .ok (.iaload, 1) := by decide +kernel
theorem dX11_add_29 : decode cX11_add 29 = .ok (.sipush 400, 3) := by decide +kernel
theorem dX11_add_32 : decode cX11_add 32 = .ok (.if_icmp .ne 6, 3) := by decide +kernel
theorem dX11_add_35 : decode cX11_add 35 = .ok (.bipush (-104), 2) := by decide +kernel
theorem dX11_add_37 : decode cX11_add 37 = .ok (.ireturn, 1) := by decide +kernel
theorem dX11_add_38 : decode cX11_add 38 = .ok (.aload_n 0, 1) := by decide +kernel
theorem dX11_add_39 : decode cX11_add 39 = .ok (.iload_n 1, 1) := by decide +kernel
theorem dX11_add_40 : decode cX11_add 40 = .ok (.iload_n 2, 1) := by decide +kernel
theorem dX11_add_41 : decode cX11_add 41 = .ok (.sipush 255, 3) := by decide +kernel
theorem dX11_add_44 : decode cX11_add 44 = .ok (.iand, 1) := by decide +kernel
theorem dX11_add_45 : decode cX11_add 45 = .ok (.invokevirtual 256, 3) := by decide +kernel
theorem dX11_add_48 : decode cX11_add 48 = .ok (.aload_n 0, 1) := by decide +kernel
theorem dX11_add_49 : decode cX11_add 49 = .ok (.getfield 39, 3) := by decide +kernel
theorem dX11_add_52 : decode cX11_add 52 = .ok (.iload_n 1, 1) := by decide +kernel
theorem dX11_add_53 : decode cX11_add 53 = .ok (.iaload, 1) := by decide +kernel
theorem dX11_add_54 : decode cX11_add 54 = .ok (.ireturn, 1) := by decide +kernel
theorem dX11_end_0 : decode cX11_end 0 = .ok (.aload_n 0, 1) := by decide +kernel
theorem dX11_end_1 : decode cX11_end 1 = .ok (.iload_n 1, 1) := by decide +kernel
theorem dX11_end_2 : decode cX11_end 2 = .ok (.invokevirtual 247, 3) := by decide +kernel
theorem dX11_end_5 : decode cX11_end 5 = .ok (.ifCond .ne 6, 3) := by decide +kernel
theorem dX11_end_8 : decode cX11_end 8 = .ok (.bipush (-101), 2) := by decide +kernel
theorem dX11_end_10 : decode cX11_end 10 = .ok (.ireturn, 1) := by decide +kernel
theorem dX11_end_11 : decode cX11_end 11 = .ok (.aload_n 0, 1) := by decide +kernel
theorem dX11_end_12 : decode cX11_end 12 = .ok (.getfield 45, 3) := by decide +kernel
theorem dX11_end_15 : decode cX11_end 15 = .ok (.iload_n 1, 1) := by decide +kernel
theorem dX11_end_16 : decode cX11_end 16 = .ok (.baload, 1) := by decide +kernel
theorem dX11_end_17 : decode cX11_end 17 = .ok (.ifCond .eq 6, 3) := by decide +kernel
theorem dX11_end_20 : decode cX11_end 20 = .ok (.bipush (-103), 2) := by decide +kernel
theorem dX11_end_22 : decode cX11_end 22 = .ok (.ireturn, 1) := by decide +kernel
theorem dX11_end_23 : decode cX11_end 23 = .ok (.aload_n 0, 1) := by decide +kernel
theorem dX11_end_24 : decode cX11_end 24 = .ok (.getfield 45, 3) := by decide +kernel
theorem dX11_end_27 : decode cX11_end 27 = .ok (.iload_n 1, 1) := by decide +kernel
theorem dX11_end_28 : decode cX11_end 28 = .ok (.iconst 1, 1) := by decide +kernel
theorem dX11_end_29 : decode cX11_end 29 = .ok (.bastore, 1) := by decide +kernel
theorem dX11_end_30 : decode cX11_end 30 = .ok (.aload_n 0, 1) := by decide +kernel
theorem dX11_end_31 : decode cX11_end 31 = .ok (.getfield 39, 3) := by decide +kernel
theorem dX11_end_34 : decode cX11_end 34 = .ok (.iload_n 1, 1) := by decide +kernel
theorem dX11_end_35 : decode cX11_end 35 = .ok (.iaload, 1) := by decide +kernel
theorem dX11_end_36 : decode cX11_end 36 = .ok (.ireturn, 1) := by decide +kernel
theorem dX11_about_0 : decode cX11_about 0 = .ok (.aload_n 0, 1) := by decide +kernel
theorem dX11_about_1 : decode cX11_about 1 = .ok (.iload_n 1, 1) := by decide +kernel
theorem dX11_about_2 : decode cX11_about 2 = .ok (.invokevirtual 247, 3) := by decide +kernel
theorem dX11_about_5 : decode cX11_about 5 = .ok (.ifCond .ne 6, 3) := by decide +kernel
theorem dX11_about_8 : decode cX11_about 8 = .ok (.bipush (-101), 2) := by decide +kernel
theorem dX11_about_10 : decode cX11_about 10 = .ok (.ireturn, 1) := by decide +kernel
theorem dX11_about_11 : decode cX11_about 11 = .ok (.iload_n 2, 1) := by decide +kernel
theorem dX11_about_12 : decode cX11_about 12 = .ok (.ifCond .ne 12, 3) := by decide +kernel
theorem dX11_about_15 : decode cX11_about 15 = .ok (.aload_n 0, 1) := by decide +kernel
theorem dX11_about_16 : decode cX11_about 16 = .ok (.getfield 39, 3) := by decide +kernel
theorem dX11_about_19 : decode cX11_about 19 = .ok (.iload_n 1, 1) := by decide +kernel
theorem dX11_about_20 : decode cX11_about 20 = .ok (.iaload, 1) := by decide +kernel
theorem dX11_about_21 : decode cX11_about 21 = .ok (.goto 61, 3) := by decide +kernel
theorem dX11_about_24 : decode cX11_about 24 = .ok (.iload_n 2, 1) := by decide +kernel
theorem dX11_about_25 : decode cX11_about 25 = .ok (.iconst 1, 1) := by decide +kernel
theorem dX11_about_26 : decode cX11_about 26 = .ok (.if_icmp .ne 12, 3) := by decide +kernel
theorem dX11_about_29 : decode cX11_about 29 = .ok (.aload_n 0, 1) := by decide +kernel
theorem dX11_about_30 : decode cX11_about 30 = .ok (.getfield 42, 3) := by decide +kernel
theorem dX11_about_33 : decode cX11_about 33 = .ok (.iload_n 1, 1) := by decide +kernel
theorem dX11_about_34 : decode cX11_about 34 = .ok (.iaload, 1) := by decide +kernel
theorem dX11_about_35 : decode cX11_about 35 = .ok (.goto 47, 3) := by decide +kernel
theorem dX11_about_38 : decode cX11_about 38 = .ok (.iload_n 2, 1) := by decide +kernel
theorem dX11_about_39 : decode cX11_about 39 = .ok (.iconst 2, 1) := by decide +kernel
theorem dX11_about_40 : decode cX11_about 40 = .ok (.if_icmp .ne 20, 3) := by decide +kernel
theorem dX11_about_43 : decode cX11_about 43 = .ok (.aload_n 0, 1) := by decide +kernel
theorem dX11_about_44 : decode cX11_about 44 = .ok (.getfield 45, 3) := by decide +kernel
theorem dX11_about_47 : decode cX11_about 47 = .ok (.iload_n 1, 1) := by decide +kernel
theorem dX11_about_48 : decode cX11_about 48 = .ok (.baload, 1) := by decide +kernel
theorem dX11_about_49 : decode cX11_about 49 = .ok (.ifCond .eq 7, 3) := by decide +kernel
theorem dX11_about_52 : decode cX11_about 52 = .ok (.iconst 1, 1) := by decide +kernel
theorem dX11_about_53 : decode cX11_about 53 = .ok (.goto 29, 3) := by decide +kernel
theorem dX11_about_56 : decode cX11_about 56 = .ok (.iconst 0, 1) := by decide +kernel
theorem dX11_about_57 : decode cX11_about 57 = .ok (.goto 25, 3) := by decide +kernel
theorem dX11_about_60 : decode cX11_about 60 = .ok (.iload_n 2, 1) := by decide +kernel
theorem dX11_about_61 : decode cX11_about 61 = .ok (.iconst 3, 1) := by decide +kernel
theorem dX11_about_62 : decode cX11_about 62 = .ok (.if_icmp .ne 18, 3) := by decide +kernel
theorem dX11_about_65 : decode cX11_about 65 = .ok (.aload_n 0, 1) := by decide +kernel
theorem dX11_about_66 : decode cX11_about 66 = .ok (.iload_n 1, 1) := by decide +kernel
theorem dX11_about_67 : decode cX11_about 67 = .ok (.iconst 0, 1) := by decide +kernel
theorem dX11_about_68 : decode cX11_about 68 = .ok (.aload_n 0, 1) := by decide +kernel
theorem dX11_about_69 : decode cX11_about 69 = .ok (.getfield 39, 3) := by decide +kernel
theorem dX11_about_72 : decode cX11_about 72 = .ok (.iload_n 1, 1) := by decide +kernel
theorem dX11_about_73 : decode cX11_about 73 = .ok (.iaload, 1) := by decide +kernel
theorem dX11_about_74 : decode cX11_about 74 = .ok (.invokevirtual 259, 3) := by decide +kernel
theorem dX11_about_77 : decode cX11_about 77 = .ok (.goto 5, 3) := by decide +kernel
theorem dX11_about_80 : decode cX11_about 80 = .ok (.bipush (-102), 2) := by decide +kernel
theorem dX11_about_82 : decode cX11_about 82 = .ok (.ireturn, 1) := by decide +kernel
theorem dX11_at_0 : decode cX11_at 0 = .ok (.aload_n 0, 1) := by decide +kernel
theorem dX11_at_1 : decode cX11_at 1 = .ok (.iload_n 1, 1) := by decide +kernel
theorem dX11_at_2 : decode cX11_at 2 = .ok (.invokevirtual 247, 3) := by decide +kernel
theorem dX11_at_5 : decode cX11_at 5 = .ok (.ifCond .ne 6, 3) := by decide +kernel
theorem dX11_at_8 : decode cX11_at 8 = .ok (.bipush (-101), 2) := by decide +kernel
theorem dX11_at_10 : decode cX11_at 10 = .ok (.ireturn, 1) := by decide +kernel
theorem dX11_at_11 : decode cX11_at 11 = .ok (.iload_n 2, 1) := by decide +kernel
theorem dX11_at_12 : decode cX11_at 12 = .ok (.i2l, 1) := by decide +kernel
theorem dX11_at_13 : decode cX11_at 13 = .ok (.lconst 0, 1) := by decide +kernel
theorem dX11_at_14 : decode cX11_at 14 = .ok (.aload_n 0, 1) := by decide +kernel
theorem dX11_at_15 : decode cX11_at 15 = .ok (.getfield 39, 3) := by decide +kernel
theorem dX11_at_18 : decode cX11_at 18 = .ok (.iload_n 1, 1) := by decide +kernel
theorem dX11_at_19 : decode cX11_at 19 = .ok (.iaload, 1) := by decide +kernel
theorem dX11_at_20 : decode cX11_at 20 = .ok (.iconst 1, 1) := by decide +kernel
theorem dX11_at_21 : decode cX11_at 21 = .ok (.isub, 1) := by decide +kernel
theorem dX11_at_22 : decode cX11_at 22 = .ok (.i2l, 1) := by decide +kernel
theorem dX11_at_23 : decode cX11_at 23 = .ok (.invokestatic 140, 3) := by decide +kernel
theorem dX11_at_26 : decode cX11_at 26 = .ok (.ifCond .eq 18, 3) := by decide +kernel
theorem dX11_at_29 : decode cX11_at 29 = .ok (.aload_n 0, 1) := by decide +kernel
theorem dX11_at_30 : decode cX11_at 30 = .ok (.getfield 36, 3) := by decide +kernel
theorem dX11_at_33 : decode cX11_at 33 = .ok (.sipush 400, 3) := by decide +kernel
theorem dX11_at_36 : decode cX11_at 36 = .ok (.iload_n 1, 1) := by decide +kernel
theorem dX11_at_37 : decode cX11_at 37 = .ok (.imul, 1) := by decide +kernel
theorem dX11_at_38 : decode cX11_at 38 = .ok (.iload_n 2, 1) := by decide +kernel
theorem dX11_at_39 : decode cX11_at 39 = .ok (.iadd, 1) := by decide +kernel
theorem dX11_at_40 : decode cX11_at 40 = .ok (.iaload, 1) := by decide +kernel
theorem dX11_at_41 : decode cX11_at 41 = .ok (.goto 8, 3) := by decide +kernel
theorem dX11_at_44 : decode cX11_at 44 = .ok (.aload_n 0, 1) := by decide +kernel
theorem dX11_at_45 : decode cX11_at 45 = .ok (.iconst 2, 1) := by decide +kernel
theorem dX11_at_46 : decode cX11_at 46 = .ok (.invokevirtual 146, 3) := by decide +kernel
theorem dX11_at_49 : decode cX11_at 49 = .ok (.ireturn, 1) := by decide +kernel
theorem dX11_harm_0 : decode cX11_harm 0 = .ok (.aload_n 0, 1) := by decide +kernel
theorem dX11_harm_1 : decode cX11_harm 1 = .ok (.iload_n 1, 1) := by decide +kernel
theorem dX11_harm_2 : decode cX11_harm 2 = .ok (.invokevirtual 247, 3) := by decide +kernel
theorem dX11_harm_5 : decode cX11_harm 5 = .ok (.ifCond .ne 6, 3) := by decide +kernel
theorem dX11_harm_8 : decode cX11_harm 8 = .ok (.bipush (-101), 2) := by decide +kernel
theorem dX11_harm_10 : decode cX11_harm 10 = .ok (.ireturn, 1) := by decide +kernel
theorem dX11_harm_11 : decode cX11_harm 11 = .ok (.iload_n 2, 1) := by decide +kernel
theorem dX11_harm_12 : decode cX11_harm 12 = .ok (.i2l, 1) := by decide +kernel
theorem dX11_harm_13 : decode cX11_harm 13 = .ok (.lconst 0, 1) := by decide +kernel
theorem dX11_harm_14 : decode cX11_harm 14 = .ok (.aload_n 0, 1) := by decide +kernel
theorem dX11_harm_15 : decode cX11_harm 15 = .ok (.getfield 39, 3) := by decide +kernel
theorem dX11_harm_18 : decode cX11_harm 18 = .ok (.iload_n 1, 1) := by decide +kernel
theorem dX11_harm_19 : decode cX11_harm 19 = .ok (.iaload, 1) := by decide +kernel
theorem dX11_harm_20 : decode cX11_harm 20 = .ok (.iconst 1, 1) := by decide +kernel
theorem dX11_harm_21 : decode cX11_harm 21 = .ok (.isub, 1) := by decide +kernel
theorem dX11_harm_22 : decode cX11_harm 22 = .ok (.i2l, 1) := by decide +kernel
theorem dX11_harm_23 : decode cX11_harm 23 = .ok (.invokestatic 140, 3) := by decide +kernel
theorem dX11_harm_26 : decode cX11_harm 26 = .ok (.ifCond .ne 9, 3) := by decide +kernel
theorem dX11_harm_29 : decode cX11_harm 29 = .ok (.aload_n 0, 1) := by decide +kernel
theorem dX11_harm_30 : decode cX11_harm 30 = .ok (.iconst 2, 1) := by decide +kernel
theorem dX11_harm_31 : decode cX11_harm 31 = .ok (.invokevirtual 146, 3) := by decide +kernel
theorem dX11_harm_34 : decode cX11_harm 34 = .ok (.ireturn, 1) := by decide +kernel
theorem dX11_harm_35 : decode cX11_harm 35 = .ok (.aload_n 0, 1) := by decide +kernel
theorem dX11_harm_36 : decode cX11_harm 36 = .ok (.getfield 36, 3) := by decide +kernel
theorem dX11_harm_39 : decode cX11_harm 39 = .ok (.sipush 400, 3) := by decide +kernel
theorem dX11_harm_42 : decode cX11_harm 42 = .ok (.iload_n 1, 1) := by decide +kernel
theorem dX11_harm_43 : decode cX11_harm 43 = .ok (.imul, 1) := by decide +kernel
theorem dX11_harm_44 : decode cX11_harm 44 = .ok (.iload_n 2, 1) := by decide +kernel
theorem dX11_harm_45 : decode cX11_harm 45 = .ok (.iadd, 1) := by decide +kernel
theorem dX11_harm_46 : decode cX11_harm 46 = .ok (.dup2, 1) := by decide +kernel
theorem dX11_harm_47 : decode cX11_harm 47 = .ok (.iaload, 1) := by decide +kernel
theorem dX11_harm_48 : decode cX11_harm 48 = .ok (.iload_n 3, 1) := by decide +kernel
theorem dX11_harm_49 : decode cX11_harm 49 = .ok (.sipush 255, 3) := by decide +kernel
theorem dX11_harm_52 : decode cX11_harm 52 = .ok (.iand, 1) := by decide +kernel
theorem dX11_harm_53 : decode cX11_harm 53 = .ok (.ixor, 1) := by decide +kernel
theorem dX11_harm_54 : decode cX11_harm 54 = .ok (.iastore, 1) := by decide +kernel
theorem dX11_harm_55 : decode cX11_harm 55 = .ok (.aload_n 0, 1) := by decide +kernel
theorem dX11_harm_56 : decode cX11_harm 56 = .ok (.getfield 36, 3) := by decide +kernel
theorem dX11_harm_59 : decode cX11_harm 59 = .ok (.sipush 400, 3) := by decide +kernel
theorem dX11_harm_62 : decode cX11_harm 62 = .ok (.iload_n 1, 1) := by decide +kernel
theorem dX11_harm_63 : decode cX11_harm 63 = .ok (.imul, 1) := by decide +kernel
theorem dX11_harm_64 : decode cX11_harm 64 = .ok (.iload_n 2, 1) := by decide +kernel
theorem dX11_harm_65 : decode cX11_harm 65 = .ok (.iadd, 1) := by decide +kernel
theorem dX11_harm_66 : decode cX11_harm 66 = .ok (.iaload, 1) := by decide +kernel
theorem dX11_harm_67 : decode cX11_harm 67 = .ok (.ireturn, 1) := by decide +kernel
theorem dX11_seek_0 : decode cX11_seek 0 = .ok (.aload_n 0, 1) := by decide +kernel
theorem dX11_seek_1 : decode cX11_seek 1 = .ok (.iload_n 1, 1) := by decide +kernel
theorem dX11_seek_2 : decode cX11_seek 2 = .ok (.invokevirtual 247, 3) := by decide +kernel
theorem dX11_seek_5 : decode cX11_seek 5 = .ok (.ifCond .ne 6, 3) := by decide +kernel
theorem dX11_seek_8 : decode cX11_seek 8 = .ok (.bipush (-101), 2) := by decide +kernel
theorem dX11_seek_10 : decode cX11_seek 10 = .ok (.ireturn, 1) := by decide +kernel
theorem dX11_seek_11 : decode cX11_seek 11 = .ok (.iload_n 2, 1) := by decide +kernel
theorem dX11_seek_12 : decode cX11_seek 12 = .ok (.i2l, 1) := by decide +kernel
theorem dX11_seek_13 : decode cX11_seek 13 = .ok (.lconst 0, 1) := by decide +kernel
theorem dX11_seek_14 : decode cX11_seek 14 = .ok (.aload_n 0, 1) := by decide +kernel
theorem dX11_seek_15 : decode cX11_seek 15 = .ok (.getfield 39, 3) := by decide +kernel
theorem dX11_seek_18 : decode cX11_seek 18 = .ok (.iload_n 1, 1) := by decide +kernel
theorem dX11_seek_19 : decode cX11_seek 19 = .ok (.iaload, 1) := by decide +kernel
theorem dX11_seek_20 : decode cX11_seek 20 = .ok (.i2l, 1) := by decide +kernel
theorem dX11_seek_21 : decode cX11_seek 21 = .ok (.invokestatic 140, 3) := by decide +kernel
theorem dX11_seek_24 : decode cX11_seek 24 = .ok (.ifCond .ne 9, 3) := by decide +kernel
theorem dX11_seek_27 : decode cX11_seek 27 = .ok (.aload_n 0, 1) := by decide +kernel
theorem dX11_seek_28 : decode cX11_seek 28 = .ok (.iconst 2, 1) := by decide +kernel
theorem dX11_seek_29 : decode cX11_seek 29 = .ok (.invokevirtual 146, 3) := by decide +kernel
theorem dX11_seek_32 : decode cX11_seek 32 = .ok (.ireturn, 1) := by decide +kernel
theorem dX11_seek_33 : decode cX11_seek 33 = .ok (.aload_n 0, 1) := by decide +kernel
theorem dX11_seek_34 : decode cX11_seek 34 = .ok (.getfield 42, 3) := by decide +kernel
theorem dX11_seek_37 : decode cX11_seek 37 = .ok (.iload_n 1, 1) := by decide +kernel
theorem dX11_seek_38 : decode cX11_seek 38 = .ok (.iaload, 1) := by decide +kernel
theorem dX11_seek_39 : decode cX11_seek 39 = .ok (.istore_n 3, 1) := by decide +kernel
theorem dX11_seek_40 : decode cX11_seek 40 = .ok (.aload_n 0, 1) := by decide +kernel
theorem dX11_seek_41 : decode cX11_seek 41 = .ok (.getfield 42, 3) := by decide +kernel
theorem dX11_seek_44 : decode cX11_seek 44 = .ok (.iload_n 1, 1) := by decide +kernel
theorem dX11_seek_45 : decode cX11_seek 45 = .ok (.iload_n 2, 1) := by decide +kernel
theorem dX11_seek_46 : decode cX11_seek 46 = .ok (.iastore, 1) := by decide +kernel
theorem dX11_seek_47 : decode cX11_seek 47 = .ok (.iload_n 3, 1) := by decide +kernel
theorem dX11_seek_48 : decode cX11_seek 48 = .ok (.ireturn, 1) := by decide +kernel
theorem dX11_takes_0 : decode cX11_takes 0 = .ok (.lconst 0, 1) := by decide +kernel
theorem dX11_takes_1 : decode cX11_takes 1 = .ok (.lstore_n 2, 1) := by decide +kernel
theorem dX11_takes_2 : decode cX11_takes 2 = .ok (.iconst 0, 1) := by decide +kernel
theorem dX11_takes_3 : decode cX11_takes 3 = .ok (.istore 4, 2) := by decide +kernel
theorem dX11_takes_5 : decode cX11_takes 5 = .ok (.iload 4, 2) := by decide +kernel
theorem dX11_takes_7 : decode cX11_takes 7 = .ok (.bipush 10, 2) := by decide +kernel
theorem dX11_takes_9 : decode cX11_takes 9 = .ok (.if_icmp .ge 84, 3) := by decide +kernel
theorem dX11_takes_12 : decode cX11_takes 12 = .ok (.aload_n 0, 1) := by decide +kernel
theorem dX11_takes_13 : decode cX11_takes 13 = .ok (.getfield 263, 3) := by decide +kernel
theorem dX11_takes_16 : decode cX11_takes 16 = .ok (.aload_n 0, 1) := by decide +kernel
theorem dX11_takes_17 : decode cX11_takes 17 = .ok (.getfield 266, 3) := by decide +kernel
theorem dX11_takes_20 : decode cX11_takes 20 = .ok (.if_icmp .ge 73, 3) := by decide +kernel
theorem dX11_takes_23 : decode cX11_takes 23 = .ok (.aload_n 0, 1) := by decide +kernel
theorem dX11_takes_24 : decode cX11_takes 24 = .ok (.getfield 36, 3) := by decide +kernel
theorem dX11_takes_27 : decode cX11_takes 27 = .ok (.sipush 400, 3) := by decide +kernel
theorem dX11_takes_30 : decode cX11_takes 30 = .ok (.iload_n 1, 1) := by decide +kernel
theorem dX11_takes_31 : decode cX11_takes 31 = .ok (.imul, 1) := by decide +kernel
theorem dX11_takes_32 : decode cX11_takes 32 = .ok (.aload_n 0, 1) := by decide +kernel
theorem dX11_takes_33 : decode cX11_takes 33 = .ok (.getfield 263, 3) := by decide +kernel
theorem dX11_takes_36 : decode cX11_takes 36 = .ok (.iadd, 1) := by decide +kernel
theorem dX11_takes_37 : decode cX11_takes 37 = .ok (.iaload, 1) := by decide +kernel
theorem dX11_takes_38 : decode cX11_takes 38 = .ok (.istore 5, 2) := by decide +kernel
theorem dX11_takes_40 : decode cX11_takes 40 = .ok (.aload_n 0, 1) := by decide +kernel
theorem dX11_takes_41 : decode cX11_takes 41 = .ok (.dup, 1) := by decide +kernel
theorem dX11_takes_42 : decode cX11_takes 42 = .ok (.getfield 263, 3) := by decide +kernel
theorem dX11_takes_45 : decode cX11_takes 45 = .ok (.iconst 1, 1) := by decide +kernel
theorem dX11_takes_46 : decode cX11_takes 46 = .ok (.iadd, 1) := by decide +kernel
theorem dX11_takes_47 : decode cX11_takes 47 = .ok (.putfield 263, 3) := by decide +kernel
theorem dX11_takes_50 : decode cX11_takes 50 = .ok (.lload_n 2, 1) := by decide +kernel
theorem dX11_takes_51 : decode cX11_takes 51 = .ok (.iload 5, 2) := by decide +kernel
theorem dX11_takes_53 : decode cX11_takes 53 = .ok (.bipush 127, 2) := by decide +kernel
theorem dX11_takes_55 : decode cX11_takes 55 = .ok (.iand, 1) := by decide +kernel
theorem dX11_takes_56 : decode cX11_takes 56 = .ok (.i2l, 1) := by decide +kernel
theorem dX11_takes_57 : decode cX11_takes 57 = .ok (.bipush 7, 2) := by decide +kernel
theorem dX11_takes_59 : decode cX11_takes 59 = .ok (.iload 4, 2) := by decide +kernel
theorem dX11_takes_61 : decode cX11_takes 61 = .ok (.imul, 1) := by decide +kernel
theorem dX11_takes_62 : decode cX11_takes 62 = .ok (.lshl, 1) := by decide +kernel
theorem dX11_takes_63 : decode cX11_takes 63 = .ok (.lor, 1) := by decide +kernel
theorem dX11_takes_64 : decode cX11_takes 64 = .ok (.lstore_n 2, 1) := by decide +kernel
theorem dX11_takes_65 : decode cX11_takes 65 = .ok (.iload 5, 2) := by decide +kernel
theorem dX11_takes_67 : decode cX11_takes 67 = .ok (.sipush 128, 3) := by decide +kernel
theorem dX11_takes_70 : decode cX11_takes 70 = .ok (.if_icmp .ge 17, 3) := by decide +kernel
theorem dX11_takes_73 : decode cX11_takes 73 = .ok (.aload_n 0, 1) := by decide +kernel
theorem dX11_takes_74 : decode cX11_takes 74 = .ok (.lload_n 2, 1) := by decide +kernel
theorem dX11_takes_75 : decode cX11_takes 75 = .ok (.iconst 1, 1) := by decide +kernel
theorem dX11_takes_76 : decode cX11_takes 76 = .ok (.lushr, 1) := by decide +kernel
theorem dX11_takes_77 : decode cX11_takes 77 = .ok (.lload_n 2, 1) := by decide +kernel
theorem dX11_takes_78 : decode cX11_takes 78 = .ok (.lconst 1, 1) := by decide +kernel
theorem dX11_takes_79 : decode cX11_takes 79 = .ok (.land, 1) := by decide +kernel
theorem dX11_takes_80 : decode cX11_takes 80 = .ok (.lneg, 1) := by decide +kernel
theorem dX11_takes_81 : decode cX11_takes 81 = .ok (.lxor, 1) := by decide +kernel
theorem dX11_takes_82 : decode cX11_takes 82 = .ok (.putfield 269, 3) := by decide +kernel
theorem dX11_takes_85 : decode cX11_takes 85 = .ok (.iconst 1, 1) := by decide +kernel
theorem dX11_takes_86 : decode cX11_takes 86 = .ok (.ireturn, 1) := by decide +kernel
theorem dX11_takes_87 : decode cX11_takes 87 = .ok (.iinc 4 1, 3) := by decide +kernel
theorem dX11_takes_90 : decode cX11_takes 90 = .ok (.goto (-85), 3) := by decide +kernel
theorem dX11_takes_93 : decode cX11_takes 93 = .ok (.iconst 0, 1) := by decide +kernel
theorem dX11_takes_94 : decode cX11_takes 94 = .ok (.ireturn, 1) := by decide +kernel
theorem dX11_decode_0 : decode cX11_decode 0 = .ok (.aload_n 0, 1) := by decide +kernel
theorem dX11_decode_1 : decode cX11_decode 1 = .ok (.iconst 0, 1) := by decide +kernel
theorem dX11_decode_2 : decode cX11_decode 2 = .ok (.putfield 219, 3) := by decide +kernel
theorem dX11_decode_5 : decode cX11_decode 5 = .ok (.iload_n 2, 1) := by decide +kernel
theorem dX11_decode_6 : decode cX11_decode 6 = .ok (.iconst 4, 1) := by decide +kernel
theorem dX11_decode_7 : decode cX11_decode 7 = .ok (.if_icmp .ne 184, 3) := by decide +kernel
theorem dX11_decode_10 : decode cX11_decode 10 = .ok (.aload_n 0, 1) := by decide +kernel
theorem dX11_decode_11 : decode cX11_decode 11 = .ok (.getfield 263, 3) := by decide +kernel
theorem dX11_decode_14 : decode cX11_decode 14 = .ok (.aload_n 0, 1) := by decide +kernel
theorem dX11_decode_15 : decode cX11_decode 15 = .ok (.getfield 266, 3) := by decide +kernel
theorem dX11_decode_18 : decode cX11_decode 18 = .ok (.if_icmp .ge 21, 3) := by decide +kernel
theorem dX11_decode_21 : decode cX11_decode 21 = .ok (.aload_n 0, 1) := by decide +kernel
theorem dX11_decode_22 : decode cX11_decode 22 = .ok (.getfield 36, 3) := by decide +kernel
theorem dX11_decode_25 : decode cX11_decode 25 = .ok (.sipush 400, 3) := by decide +kernel
theorem dX11_decode_28 : decode cX11_decode 28 = .ok (.iload_n 1, 1) := by decide +kernel
theorem dX11_decode_29 : decode cX11_decode 29 = .ok (.imul, 1) := by decide +kernel
theorem dX11_decode_30 : decode cX11_decode 30 = .ok (.aload_n 0, 1) := by decide +kernel
theorem dX11_decode_31 : decode cX11_decode 31 = .ok (.getfield 263, 3) := by decide +kernel
theorem dX11_decode_34 : decode cX11_decode 34 = .ok (.iadd, 1) := by decide +kernel
theorem dX11_decode_35 : decode cX11_decode 35 = .ok (.iaload, 1) := by decide +kernel
theorem dX11_decode_36 : decode cX11_decode 36 = .ok (.goto 4, 3) := by decide +kernel
theorem dX11_decode_39 : decode cX11_decode 39 = .ok (.iconst 0, 1) := by decide +kernel
theorem dX11_decode_40 : decode cX11_decode 40 = .ok (.istore 4, 2) := by decide +kernel
theorem dX11_decode_42 : decode cX11_decode 42 = .ok (.iload 4, 2) := by decide +kernel
theorem dX11_decode_44 : decode cX11_decode 44 = .ok (.i2l, 1) := by decide +kernel
theorem dX11_decode_45 : decode cX11_decode 45 = .ok (.lconst 1, 1) := by decide +kernel
theorem dX11_decode_46 : decode cX11_decode 46 = .ok (.ldc2_w 272, 3) := by decide +kernel
theorem dX11_decode_49 : decode cX11_decode 49 = .ok (.invokestatic 140, 3) := by decide +kernel
theorem dX11_decode_52 : decode cX11_decode 52 = .ok (.ifCond .eq 21, 3) := by decide +kernel
theorem dX11_decode_55 : decode cX11_decode 55 = .ok (.aload_n 0, 1) := by decide +kernel
theorem dX11_decode_56 : decode cX11_decode 56 = .ok (.getfield 266, 3) := by decide +kernel
theorem dX11_decode_59 : decode cX11_decode 59 = .ok (.aload_n 0, 1) := by decide +kernel
theorem dX11_decode_60 : decode cX11_decode 60 = .ok (.getfield 263, 3) := by decide +kernel
theorem dX11_decode_63 : decode cX11_decode 63 = .ok (.isub, 1) := by decide +kernel
theorem dX11_decode_64 : decode cX11_decode 64 = .ok (.iconst 1, 1) := by decide +kernel
theorem dX11_decode_65 : decode cX11_decode 65 = .ok (.iload_n 3, 1) := by decide +kernel
theorem dX11_decode_66 : decode cX11_decode 66 = .ok (.iload 4, 2) := by decide +kernel
theorem dX11_decode_68 : decode cX11_decode 68 = .ok (.imul, 1) := by decide +kernel
theorem dX11_decode_69 : decode cX11_decode 69 = .ok (.iadd, 1) := by decide +kernel
theorem dX11_decode_70 : decode cX11_decode 70 = .ok (.if_icmp .eq 5, 3) := by decide +kernel
theorem dX11_decode_73 : decode cX11_decode 73 = .ok (.iconst 0, 1) := by decide +kernel
theorem dX11_decode_74 : decode cX11_decode 74 = .ok (.ireturn, 1) := by decide +kernel
theorem dX11_decode_75 : decode cX11_decode 75 = .ok (.aload_n 0, 1) := by decide +kernel
theorem dX11_decode_76 : decode cX11_decode 76 = .ok (.dup, 1) := by decide +kernel
theorem dX11_decode_77 : decode cX11_decode 77 = .ok (.getfield 263, 3) := by decide +kernel
theorem dX11_decode_80 : decode cX11_decode 80 = .ok (.iconst 1, 1) := by decide +kernel
theorem dX11_decode_81 : decode cX11_decode 81 = .ok (.iadd, 1) := by decide +kernel
theorem dX11_decode_82 : decode cX11_decode 82 = .ok (.putfield 263, 3) := by decide +kernel
theorem dX11_decode_85 : decode cX11_decode 85 = .ok (.aload_n 0, 1) := by decide +kernel
theorem dX11_decode_86 : decode cX11_decode 86 = .ok (.getfield 219, 3) := by decide +kernel
theorem dX11_decode_89 : decode cX11_decode 89 = .ok (.iload_n 3, 1) := by decide +kernel
theorem dX11_decode_90 : decode cX11_decode 90 = .ok (.if_icmp .ge 101, 3) := by decide +kernel
theorem dX11_decode_93 : decode cX11_decode 93 = .ok (.lconst 0, 1) := by decide +kernel
theorem dX11_decode_94 : decode cX11_decode 94 = .ok (.lstore 5, 2) := by decide +kernel
theorem dX11_decode_96 : decode cX11_decode 96 = .ok (.iconst 0, 1) := by decide +kernel
theorem dX11_decode_97 : decode cX11_decode 97 = .ok (.istore 7, 2) := by decide +kernel
theorem dX11_decode_99 : decode cX11_decode 99 = .ok (.iload 7, 2) := by decide +kernel
theorem dX11_decode_101 : decode cX11_decode 101 = .ok (.iload 4, 2) := by decide +kernel
theorem dX11_decode_103 : decode cX11_decode 103 = .ok (.if_icmp .ge 46, 3) := by decide +kernel
theorem dX11_decode_106 : decode cX11_decode 106 = .ok (.lload 5, 2) := by decide +kernel
theorem dX11_decode_108 : decode cX11_decode 108 = .ok (.aload_n 0, 1) := by decide +kernel
theorem dX11_decode_109 : decode cX11_decode 109 = .ok (.getfield 36, 3) := by decide +kernel
theorem dX11_decode_112 : decode cX11_decode 112 = .ok (.sipush 400, 3) := by decide +kernel
theorem dX11_decode_115 : decode cX11_decode 115 = .ok (.iload_n 1, 1) := by decide +kernel
theorem dX11_decode_116 : decode cX11_decode 116 = .ok (.imul, 1) := by decide +kernel
theorem dX11_decode_117 : decode cX11_decode 117 = .ok (.aload_n 0, 1) := by decide +kernel
theorem dX11_decode_118 : decode cX11_decode 118 = .ok (.getfield 263, 3) := by decide +kernel
theorem dX11_decode_121 : decode cX11_decode 121 = .ok (.iadd, 1) := by decide +kernel
theorem dX11_decode_122 : decode cX11_decode 122 = .ok (.iaload, 1) := by decide +kernel
theorem dX11_decode_123 : decode cX11_decode 123 = .ok (.i2l, 1) := by decide +kernel
theorem dX11_decode_124 : decode cX11_decode 124 = .ok (.bipush 8, 2) := by decide +kernel
theorem dX11_decode_126 : decode cX11_decode 126 = .ok (.iload 7, 2) := by decide +kernel
theorem dX11_decode_128 : decode cX11_decode 128 = .ok (.imul, 1) := by decide +kernel
theorem dX11_decode_129 : decode cX11_decode 129 = .ok (.lshl, 1) := by decide +kernel
theorem dX11_decode_130 : decode cX11_decode 130 = .ok (.lor, 1) := by decide +kernel
theorem dX11_decode_131 : decode cX11_decode 131 = .ok (.lstore 5, 2) := by decide +kernel
theorem dX11_decode_133 : decode cX11_decode 133 = .ok (.aload_n 0, 1) := by decide +kernel
theorem dX11_decode_134 : decode cX11_decode 134 = .ok (.dup, 1) := by decide +kernel
theorem dX11_decode_135 : decode cX11_decode 135 = .ok (.getfield 263, 3) := by decide +kernel
theorem dX11_decode_138 : decode cX11_decode 138 = .ok (.iconst 1, 1) := by decide +kernel
theorem dX11_decode_139 : decode cX11_decode 139 = .ok (.iadd, 1) := by decide +kernel
theorem dX11_decode_140 : decode cX11_decode 140 = .ok (.putfield 263, 3) := by decide +kernel
theorem dX11_decode_143 : decode cX11_decode 143 = .ok (.iinc 7 1, 3) := by decide +kernel
theorem dX11_decode_146 : decode cX11_decode 146 = .ok (.goto (-47), 3) := by decide +kernel
theorem dX11_decode_149 : decode cX11_decode 149 = .ok (.aload_n 0, 1) := by decide +kernel
theorem dX11_decode_150 : decode cX11_decode 150 = .ok (.getfield 30, 3) := by decide +kernel
theorem dX11_decode_153 : decode cX11_decode 153 = .ok (.aload_n 0, 1) := by decide +kernel
theorem dX11_decode_154 : decode cX11_decode 154 = .ok (.getfield 219, 3) := by decide +kernel
theorem dX11_decode_157 : decode cX11_decode 157 = .ok (.lload 5, 2) := by decide +kernel
theorem dX11_decode_159 : decode cX11_decode 159 = .ok (.bipush 64, 2) := by decide +kernel
theorem dX11_decode_161 : decode cX11_decode 161 = .ok (.bipush 8, 2) := by decide +kernel
theorem dX11_decode_163 : decode cX11_decode 163 = .ok (.iload 4, 2) := by decide +kernel
theorem dX11_decode_165 : decode cX11_decode 165 = .ok (.imul, 1) := by decide +kernel
theorem dX11_decode_166 : decode cX11_decode 166 = .ok (.isub, 1) := by decide +kernel
theorem dX11_decode_167 : decode cX11_decode 167 = .ok (.lshl, 1) := by decide +kernel
theorem dX11_decode_168 : decode cX11_decode 168 = .ok (.bipush 64, 2) := by decide +kernel
theorem dX11_decode_170 : decode cX11_decode 170 = .ok (.bipush 8, 2) := by decide +kernel
theorem dX11_decode_172 : decode cX11_decode 172 = .ok (.iload 4, 2) := by decide +kernel
theorem dX11_decode_174 : decode cX11_decode 174 = .ok (.imul, 1) := by decide +kernel
theorem dX11_decode_175 : decode cX11_decode 175 = .ok (.isub, 1) := by decide +kernel
theorem dX11_decode_176 : decode cX11_decode 176 = .ok (.lshr, 1) := by decide +kernel
theorem dX11_decode_177 : decode cX11_decode 177 = .ok (.lastore, 1) := by decide +kernel
theorem dX11_decode_178 : decode cX11_decode 178 = .ok (.aload_n 0, 1) := by decide +kernel
theorem dX11_decode_179 : decode cX11_decode 179 = .ok (.dup, 1) := by decide +kernel
theorem dX11_decode_180 : decode cX11_decode 180 = .ok (.getfield 219, 3) := by decide +kernel
theorem dX11_decode_183 : decode cX11_decode 183 = .ok (.iconst 1, 1) := by decide +kernel
theorem dX11_decode_184 : decode cX11_decode 184 = .ok (.iadd, 1) := by decide +kernel
theorem dX11_decode_185 : decode cX11_decode 185 = .ok (.putfield 219, 3) := by decide +kernel
theorem dX11_decode_188 : decode cX11_decode 188 = .ok (.goto (-103), 3) := by decide +kernel
theorem dX11_decode_191 : decode cX11_decode 191 = .ok (.aload_n 0, 1) := by decide +kernel
theorem dX11_decode_192 : decode cX11_decode 192 = .ok (.getfield 219, 3) := by decide +kernel
theorem dX11_decode_195 : decode cX11_decode 195 = .ok (.iload_n 3, 1) := by decide +kernel
theorem dX11_decode_196 : decode cX11_decode 196 = .ok (.if_icmp .ge 106, 3) := by decide +kernel
theorem dX11_decode_199 : decode cX11_decode 199 = .ok (.aload_n 0, 1) := by decide +kernel
theorem dX11_decode_200 : decode cX11_decode 200 = .ok (.iload_n 1, 1) := by decide +kernel
theorem dX11_decode_201 : decode cX11_decode 201 = .ok (.invokevirtual 274, 3) := by decide +kernel
theorem dX11_decode_204 : decode cX11_decode 204 = .ok (.ifCond .ne 5, 3) := by decide +kernel
theorem dX11_decode_207 : decode cX11_decode 207 = .ok (.iconst 0, 1) := by decide +kernel
theorem dX11_decode_208 : decode cX11_decode 208 = .ok (.ireturn, 1) := by decide +kernel
theorem dX11_decode_209 : decode cX11_decode 209 = .ok (.aload_n 0, 1) := by decide +kernel
theorem dX11_decode_210 : decode cX11_decode 210 = .ok (.getfield 269, 3) := by decide +kernel
theorem dX11_decode_213 : decode cX11_decode 213 = .ok (.lstore 4, 2) := by decide +kernel
theorem dX11_decode_215 : decode cX11_decode 215 = .ok (.iconst 1, 1) := by decide +kernel
theorem dX11_decode_216 : decode cX11_decode 216 = .ok (.istore 6, 2) := by decide +kernel
theorem dX11_decode_218 : decode cX11_decode 218 = .ok (.iload_n 2, 1) := by decide +kernel
theorem dX11_decode_219 : decode cX11_decode 219 = .ok (.iconst 3, 1) := by decide +kernel
theorem dX11_decode_220 : decode cX11_decode 220 = .ok (.if_icmp .ne 42, 3) := by decide +kernel
theorem dX11_decode_223 : decode cX11_decode 223 = .ok (.aload_n 0, 1) := by decide +kernel
theorem dX11_decode_224 : decode cX11_decode 224 = .ok (.iload_n 1, 1) := by decide +kernel
theorem dX11_decode_225 : decode cX11_decode 225 = .ok (.invokevirtual 274, 3) := by decide +kernel
theorem dX11_decode_228 : decode cX11_decode 228 = .ok (.ifCond .eq 23, 3) := by decide +kernel
theorem dX11_decode_231 : decode cX11_decode 231 = .ok (.aload_n 0, 1) := by decide +kernel
theorem dX11_decode_232 : decode cX11_decode 232 = .ok (.getfield 269, 3) := by decide +kernel
theorem dX11_decode_235 : decode cX11_decode 235 = .ok (.lconst 0, 1) := by decide +kernel
theorem dX11_decode_236 : decode cX11_decode 236 = .ok (.iload_n 3, 1) := by decide +kernel
theorem dX11_decode_237 : decode cX11_decode 237 = .ok (.aload_n 0, 1) := by decide +kernel
theorem dX11_decode_238 : decode cX11_decode 238 = .ok (.getfield 219, 3) := by decide +kernel
theorem dX11_decode_241 : decode cX11_decode 241 = .ok (.isub, 1) := by decide +kernel
theorem dX11_decode_242 : decode cX11_decode 242 = .ok (.iconst 1, 1) := by decide +kernel
theorem dX11_decode_243 : decode cX11_decode 243 = .ok (.isub, 1) := by decide +kernel
theorem dX11_decode_244 : decode cX11_decode 244 = .ok (.i2l, 1) := by decide +kernel
theorem dX11_decode_245 : decode cX11_decode 245 = .ok (.invokestatic 140, 3) := by decide +kernel
theorem dX11_decode_248 : decode cX11_decode 248 = .ok (.ifCond .ne 5, 3) := by decide +kernel
theorem dX11_decode_251 : decode cX11_decode 251 = .ok (.iconst 0, 1) := by decide +kernel
theorem dX11_decode_252 : decode cX11_decode 252 = .ok (.ireturn, 1) := by decide +kernel
theorem dX11_decode_253 : decode cX11_decode 253 = .ok (.aload_n 0, 1) := by decide +kernel
theorem dX11_decode_254 : decode cX11_decode 254 = .ok (.getfield 269, 3) := by decide +kernel
theorem dX11_decode_257 : decode cX11_decode 257 = .ok (.l2i, 1) := by decide +kernel
theorem dX11_decode_258 : decode cX11_decode 258 = .ok (.iconst 1, 1) := by decide +kernel
theorem dX11_decode_259 : decode cX11_decode 259 = .ok (.iadd, 1) := by decide +kernel
