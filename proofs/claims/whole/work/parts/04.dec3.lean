theorem dX8_read_41 : decode cX8_read 41 = .ok (.ldc 95, 2) := by decide +kernel
theorem dX8_read_43 : decode cX8_read 43 = .ok (.ldc 96, 2) := by decide +kernel
theorem dX8_read_45 : decode cX8_read 45 = .ok (.invokestatic 91, 3) := by decide +kernel
theorem dX8_read_48 : decode cX8_read 48 = .ok (.ifCond .eq 12, 3) := by decide +kernel
theorem dX8_read_51 : decode cX8_read 51 = .ok (.iload 4, 2) := by decide +kernel
theorem dX8_read_53 : decode cX8_read 53 = .ok (.ifCond .eq 7, 3) := by decide +kernel
theorem dX8_read_56 : decode cX8_read 56 = .ok (.iconst 1, 1) := by decide +kernel
theorem dX8_read_57 : decode cX8_read 57 = .ok (.goto 4, 3) := by decide +kernel
theorem dX8_read_60 : decode cX8_read 60 = .ok (.iconst 0, 1) := by decide +kernel
theorem dX8_read_61 : decode cX8_read 61 = .ok (.istore 5, 2) := by decide +kernel
theorem dX8_read_63 : decode cX8_read 63 = .ok (.aload_n 0, 1) := by decide +kernel
theorem dX8_read_64 : decode cX8_read 64 = .ok (.iload_n 1, 1) := by decide +kernel
theorem dX8_read_65 : decode cX8_read 65 = .ok (.invokestatic 178, 3) := by decide +kernel
theorem dX8_read_68 : decode cX8_read 68 = .ok (.ifCond .ne 7, 3) := by decide +kernel
theorem dX8_read_71 : decode cX8_read 71 = .ok (.iconst 1, 1) := by decide +kernel
theorem dX8_read_72 : decode cX8_read 72 = .ok (.goto 26, 3) := by decide +kernel
theorem dX8_read_75 : decode cX8_read 75 = .ok (.iload 5, 2) := by decide +kernel
theorem dX8_read_77 : decode cX8_read 77 = .ok (.ifCond .ne 7, 3) := by decide +kernel
theorem dX8_read_80 : decode cX8_read 80 = .ok (.iconst 2, 1) := by decide +kernel
theorem dX8_read_81 : decode cX8_read 81 = .ok (.goto 17, 3) := by decide +kernel
theorem dX8_read_84 : decode cX8_read 84 = .ok (.aload_n 0, 1) := by decide +kernel
theorem dX8_read_85 : decode cX8_read 85 = .ok (.getfield 187, 3) := by decide +kernel
theorem dX8_read_88 : decode cX8_read 88 = .ok (.bipush 12, 2) := by decide +kernel
theorem dX8_read_90 : decode cX8_read 90 = .ok (.if_icmp .ne 7, 3) := by decide +kernel
theorem dX8_read_93 : decode cX8_read 93 = .ok (.iconst 3, 1) := by decide +kernel
theorem dX8_read_94 : decode cX8_read 94 = .ok (.goto 4, 3) := by decide +kernel
theorem dX8_read_97 : decode cX8_read 97 = .ok (.iconst 0, 1) := by decide +kernel
theorem dX8_read_98 : decode cX8_read 98 = .ok (.putfield 85, 3) := by decide +kernel
theorem dX8_read_101 : decode cX8_read 101 = .ok (.aload_n 0, 1) := by decide +kernel
theorem dX8_read_102 : decode cX8_read 102 = .ok (.getfield 85, 3) := by decide +kernel
theorem dX8_read_105 : decode cX8_read 105 = .ok (.ifCond .le 5, 3) := by decide +kernel
theorem dX8_read_108 : decode cX8_read 108 = .ok (.iconst 0, 1) := by decide +kernel
theorem dX8_read_109 : decode cX8_read 109 = .ok (.ireturn, 1) := by decide +kernel
theorem dX8_read_110 : decode cX8_read 110 = .ok (.aload_n 0, 1) := by decide +kernel
theorem dX8_read_111 : decode cX8_read 111 = .ok (.getfield 46, 3) := by decide +kernel
theorem dX8_read_114 : decode cX8_read 114 = .ok (.aload_n 0, 1) := by decide +kernel
theorem dX8_read_115 : decode cX8_read 115 = .ok (.getfield 187, 3) := by decide +kernel
theorem dX8_read_118 : decode cX8_read 118 = .ok (.iload_n 1, 1) := by decide +kernel
theorem dX8_read_119 : decode cX8_read 119 = .ok (.iastore, 1) := by decide +kernel
theorem dX8_read_120 : decode cX8_read 120 = .ok (.aload_n 0, 1) := by decide +kernel
theorem dX8_read_121 : decode cX8_read 121 = .ok (.getfield 49, 3) := by decide +kernel
theorem dX8_read_124 : decode cX8_read 124 = .ok (.aload_n 0, 1) := by decide +kernel
theorem dX8_read_125 : decode cX8_read 125 = .ok (.getfield 187, 3) := by decide +kernel
theorem dX8_read_128 : decode cX8_read 128 = .ok (.iload_n 2, 1) := by decide +kernel
theorem dX8_read_129 : decode cX8_read 129 = .ok (.iastore, 1) := by decide +kernel
theorem dX8_read_130 : decode cX8_read 130 = .ok (.aload_n 0, 1) := by decide +kernel
theorem dX8_read_131 : decode cX8_read 131 = .ok (.getfield 52, 3) := by decide +kernel
theorem dX8_read_134 : decode cX8_read 134 = .ok (.aload_n 0, 1) := by decide +kernel
theorem dX8_read_135 : decode cX8_read 135 = .ok (.getfield 187, 3) := by decide +kernel
theorem dX8_read_138 : decode cX8_read 138 = .ok (.iload_n 3, 1) := by decide +kernel
theorem dX8_read_139 : decode cX8_read 139 = .ok (.iastore, 1) := by decide +kernel
theorem dX8_read_140 : decode cX8_read 140 = .ok (.aload_n 0, 1) := by decide +kernel
theorem dX8_read_141 : decode cX8_read 141 = .ok (.dup, 1) := by decide +kernel
theorem dX8_read_142 : decode cX8_read 142 = .ok (.getfield 187, 3) := by decide +kernel
theorem dX8_read_145 : decode cX8_read 145 = .ok (.iconst 1, 1) := by decide +kernel
theorem dX8_read_146 : decode cX8_read 146 = .ok (.iadd, 1) := by decide +kernel
theorem dX8_read_147 : decode cX8_read 147 = .ok (.putfield 187, 3) := by decide +kernel
theorem dX8_read_150 : decode cX8_read 150 = .ok (.aload_n 0, 1) := by decide +kernel
theorem dX8_read_151 : decode cX8_read 151 = .ok (.getfield 187, 3) := by decide +kernel
theorem dX8_read_154 : decode cX8_read 154 = .ok (.ireturn, 1) := by decide +kernel
theorem dX8_canClose_0 : decode cX8_canClose 0 = .ok (.aload_n 0, 1) := by decide +kernel
theorem dX8_canClose_1 : decode cX8_canClose 1 = .ok (.getfield 187, 3) := by decide +kernel
theorem dX8_canClose_4 : decode cX8_canClose 4 = .ok (.iconst 3, 1) := by decide +kernel
theorem dX8_canClose_5 : decode cX8_canClose 5 = .ok (.if_icmp .lt 27, 3) := by decide +kernel
theorem dX8_canClose_8 : decode cX8_canClose 8 = .ok (.aload_n 0, 1) := by decide +kernel
theorem dX8_canClose_9 : decode cX8_canClose 9 = .ok (.getfield 46, 3) := by decide +kernel
theorem dX8_canClose_12 : decode cX8_canClose 12 = .ok (.iconst 0, 1) := by decide +kernel
theorem dX8_canClose_13 : decode cX8_canClose 13 = .ok (.iaload, 1) := by decide +kernel
theorem dX8_canClose_14 : decode cX8_canClose 14 = .ok (.aload_n 0, 1) := by decide +kernel
theorem dX8_canClose_15 : decode cX8_canClose 15 = .ok (.getfield 46, 3) := by decide +kernel
theorem dX8_canClose_18 : decode cX8_canClose 18 = .ok (.aload_n 0, 1) := by decide +kernel
theorem dX8_canClose_19 : decode cX8_canClose 19 = .ok (.getfield 187, 3) := by decide +kernel
theorem dX8_canClose_22 : decode cX8_canClose 22 = .ok (.iconst 1, 1) := by decide +kernel
theorem dX8_canClose_23 : decode cX8_canClose 23 = .ok (.isub, 1) := by decide +kernel
theorem dX8_canClose_24 : decode cX8_canClose 24 = .ok (.iaload, 1) := by decide +kernel
theorem dX8_canClose_25 : decode cX8_canClose 25 = .ok (.if_icmp .ne 7, 3) := by decide +kernel
theorem dX8_canClose_28 : decode cX8_canClose 28 = .ok (.iconst 1, 1) := by decide +kernel
theorem dX8_canClose_29 : decode cX8_canClose 29 = .ok (.goto 4, 3) := by decide +kernel
theorem dX8_canClose_32 : decode cX8_canClose 32 = .ok (.iconst 0, 1) := by decide +kernel
theorem dX8_canClose_33 : decode cX8_canClose 33 = .ok (.istore_n 1, 1) := by decide +kernel
theorem dX8_canClose_34 : decode cX8_canClose 34 = .ok (.iconst 1, 1) := by decide +kernel
theorem dX8_canClose_35 : decode cX8_canClose 35 = .ok (.istore_n 2, 1) := by decide +kernel
theorem dX8_canClose_36 : decode cX8_canClose 36 = .ok (.iload_n 2, 1) := by decide +kernel
theorem dX8_canClose_37 : decode cX8_canClose 37 = .ok (.aload_n 0, 1) := by decide +kernel
theorem dX8_canClose_38 : decode cX8_canClose 38 = .ok (.getfield 187, 3) := by decide +kernel
theorem dX8_canClose_41 : decode cX8_canClose 41 = .ok (.if_icmp .ge 36, 3) := by decide +kernel
theorem dX8_canClose_44 : decode cX8_canClose 44 = .ok (.iload_n 1, 1) := by decide +kernel
theorem dX8_canClose_45 : decode cX8_canClose 45 = .ok (.ifCond .eq 24, 3) := by decide +kernel
theorem dX8_canClose_48 : decode cX8_canClose 48 = .ok (.aload_n 0, 1) := by decide +kernel
theorem dX8_canClose_49 : decode cX8_canClose 49 = .ok (.getfield 46, 3) := by decide +kernel
theorem dX8_canClose_52 : decode cX8_canClose 52 = .ok (.iload_n 2, 1) := by decide +kernel
theorem dX8_canClose_53 : decode cX8_canClose 53 = .ok (.iaload, 1) := by decide +kernel
theorem dX8_canClose_54 : decode cX8_canClose 54 = .ok (.aload_n 0, 1) := by decide +kernel
theorem dX8_canClose_55 : decode cX8_canClose 55 = .ok (.getfield 46, 3) := by decide +kernel
theorem dX8_canClose_58 : decode cX8_canClose 58 = .ok (.iload_n 2, 1) := by decide +kernel
theorem dX8_canClose_59 : decode cX8_canClose 59 = .ok (.iconst 1, 1) := by decide +kernel
theorem dX8_canClose_60 : decode cX8_canClose 60 = .ok (.isub, 1) := by decide +kernel
theorem dX8_canClose_61 : decode cX8_canClose 61 = .ok (.iaload, 1) := by decide +kernel
theorem dX8_canClose_62 : decode cX8_canClose 62 = .ok (.if_icmp .eq 7, 3) := by decide +kernel
theorem dX8_canClose_65 : decode cX8_canClose 65 = .ok (.iconst 1, 1) := by decide +kernel
theorem dX8_canClose_66 : decode cX8_canClose 66 = .ok (.goto 4, 3) := by decide +kernel
theorem dX8_canClose_69 : decode cX8_canClose 69 = .ok (.iconst 0, 1) := by decide +kernel
theorem dX8_canClose_70 : decode cX8_canClose 70 = .ok (.istore_n 1, 1) := by decide +kernel
theorem dX8_canClose_71 : decode cX8_canClose 71 = .ok (.iinc 2 1, 3) := by decide +kernel
theorem dX8_canClose_74 : decode cX8_canClose 74 = .ok (.goto (-38), 3) := by decide +kernel
theorem dX8_canClose_77 : decode cX8_canClose 77 = .ok (.iload_n 1, 1) := by decide +kernel
theorem dX8_canClose_78 : decode cX8_canClose 78 = .ok (.ireturn, 1) := by decide +kernel
set_option maxRecDepth 20000 in
theorem ggX8_without_X8_floor : GoodIn wsX8_without wsX8_floor := goodIn_r _ [7] (by decide +kernel) (by decide +kernel)
set_option maxRecDepth 20000 in
theorem gX8_without_X8_floor : GoodIn wsX8_without (va_wsS RX8 105 yX8_floor wsX8_floor) := goodIn_app (goodIn_of _ (by decide +kernel)) ggX8_without_X8_floor
theorem dX8_without_0 : decode cX8_without 0 = .ok (.aload_n 0, 1) := by decide +kernel
theorem dX8_without_1 : decode cX8_without 1 = .ok (.getfield 52, 3) := by decide +kernel
theorem dX8_without_4 : decode cX8_without 4 = .ok (.aload_n 0, 1) := by decide +kernel
theorem dX8_without_5 : decode cX8_without 5 = .ok (.getfield 187, 3) := by decide +kernel
theorem dX8_without_8 : decode cX8_without 8 = .ok (.iconst 1, 1) := by decide +kernel
theorem dX8_without_9 : decode cX8_without 9 = .ok (.isub, 1) := by decide +kernel
theorem dX8_without_10 : decode cX8_without 10 = .ok (.iaload, 1) := by decide +kernel
theorem dX8_without_11 : decode cX8_without 11 = .ok (.i2l, 1) := by decide +kernel
theorem dX8_without_12 : decode cX8_without 12 = .ok (.aload_n 0, 1) := by decide +kernel
theorem dX8_without_13 : decode cX8_without 13 = .ok (.getfield 52, 3) := by decide +kernel
theorem dX8_without_16 : decode cX8_without 16 = .ok (.iconst 0, 1) := by decide +kernel
theorem dX8_without_17 : decode cX8_without 17 = .ok (.iaload, 1) := by decide +kernel
theorem dX8_without_18 : decode cX8_without 18 = .ok (.i2l, 1) := by decide +kernel
theorem dX8_without_19 : decode cX8_without 19 = .ok (.lsub, 1) := by decide +kernel
theorem dX8_without_20 : decode cX8_without 20 = .ok (.lstore_n 2, 1) := by decide +kernel
theorem dX8_without_21 : decode cX8_without 21 = .ok (.aload_n 0, 1) := by decide +kernel
theorem dX8_without_22 : decode cX8_without 22 = .ok (.getfield 49, 3) := by decide +kernel
theorem dX8_without_25 : decode cX8_without 25 = .ok (.iload_n 1, 1) := by decide +kernel
theorem dX8_without_26 : decode cX8_without 26 = .ok (.iaload, 1) := by decide +kernel
theorem dX8_without_27 : decode cX8_without 27 = .ok (.aload_n 0, 1) := by decide +kernel
theorem dX8_without_28 : decode cX8_without 28 = .ok (.getfield 49, 3) := by decide +kernel
theorem dX8_without_31 : decode cX8_without 31 = .ok (.iconst 0, 1) := by decide +kernel
theorem dX8_without_32 : decode cX8_without 32 = .ok (.iaload, 1) := by decide +kernel
theorem dX8_without_33 : decode cX8_without 33 = .ok (.isub, 1) := by decide +kernel
theorem dX8_without_34 : decode cX8_without 34 = .ok (.i2l, 1) := by decide +kernel
theorem dX8_without_35 : decode cX8_without 35 = .ok (.lstore 4, 2) := by decide +kernel
theorem dX8_without_37 : decode cX8_without 37 = .ok (.aload_n 0, 1) := by decide +kernel
theorem dX8_without_38 : decode cX8_without 38 = .ok (.getfield 52, 3) := by decide +kernel
theorem dX8_without_41 : decode cX8_without 41 = .ok (.iload_n 1, 1) := by decide +kernel
theorem dX8_without_42 : decode cX8_without 42 = .ok (.iaload, 1) := by decide +kernel
theorem dX8_without_43 : decode cX8_without 43 = .ok (.lload_n 2, 1) := by decide +kernel
theorem dX8_without_44 : decode cX8_without 44 = .ok (.lload 4, 2) := by decide +kernel
theorem dX8_without_46 : decode cX8_without 46 = .ok (.lmul, 1) := by decide +kernel
theorem dX8_without_47 : decode cX8_without 47 = .ok (.aload_n 0, 1) := by decide +kernel
theorem dX8_without_48 : decode cX8_without 48 = .ok (.getfield 49, 3) := by decide +kernel
theorem dX8_without_51 : decode cX8_without 51 = .ok (.aload_n 0, 1) := by decide +kernel
theorem dX8_without_52 : decode cX8_without 52 = .ok (.getfield 187, 3) := by decide +kernel
theorem dX8_without_55 : decode cX8_without 55 = .ok (.iconst 1, 1) := by decide +kernel
theorem dX8_without_56 : decode cX8_without 56 = .ok (.isub, 1) := by decide +kernel
theorem dX8_without_57 : decode cX8_without 57 = .ok (.iaload, 1) := by decide +kernel
theorem dX8_without_58 : decode cX8_without 58 = .ok (.aload_n 0, 1) := by decide +kernel
theorem dX8_without_59 : decode cX8_without 59 = .ok (.getfield 49, 3) := by decide +kernel
theorem dX8_without_62 : decode cX8_without 62 = .ok (.iconst 0, 1) := by decide +kernel
theorem dX8_without_63 : decode cX8_without 63 = .ok (.iaload, 1) := by decide +kernel
theorem dX8_without_64 : decode cX8_without 64 = .ok (.isub, 1) := by decide +kernel
theorem dX8_without_65 : decode cX8_without 65 = .ok (.i2l, 1) := by decide +kernel
theorem dX8_without_66 : decode cX8_without 66 = .ok (.invokestatic 105, 3) := by decide +kernel
theorem dX8_without_69 : decode cX8_without 69 = .ok (.l2i, 1) := by decide +kernel
theorem dX8_without_70 : decode cX8_without 70 = .ok (.isub, 1) := by decide +kernel
theorem dX8_without_71 : decode cX8_without 71 = .ok (.ireturn, 1) := by decide +kernel
set_option maxRecDepth 20000 in
theorem ggX8_close_X8_canClose : GoodIn wsX8_close wsX8_canClose := goodIn_r _ [10, 2, 3, 20, 21, 22, 23, 24, 25, 26, 27, 28, 29, 30, 31, 32, 33, 34, 35, 36, 37, 38, 39, 40, 41, 42, 43, 44, 45, 46, 47, 48, 49, 50, 51, 52, 53, 54, 55, 56, 57] (by decide +kernel) (by decide +kernel)
set_option maxRecDepth 20000 in
theorem gX8_close_X8_canClose : GoodIn wsX8_close (wsV RX8 190 RX8 yX8_canClose wsX8_canClose) := goodIn_app (goodIn_of _ (by decide +kernel)) ggX8_close_X8_canClose
set_option maxRecDepth 20000 in
theorem ggX8_close_X8_without : GoodIn wsX8_close wsX8_without := goodIn_r _ [14, 15, 2, 16, 17, 18, 9, 19, 20, 21, 22, 23, 24, 25, 26, 27, 28, 29, 30, 31, 32, 33, 34, 35, 36, 37, 38, 39, 40, 41, 42, 43, 44, 45, 46, 47, 48, 49, 50, 51, 52, 53, 54, 55, 56, 57] (by decide +kernel) (by decide +kernel)
set_option maxRecDepth 20000 in
theorem gX8_close_X8_without : GoodIn wsX8_close (wsV RX8 194 RX8 yX8_without wsX8_without) := goodIn_app (goodIn_of _ (by decide +kernel)) ggX8_close_X8_without
theorem dX8_close_0 : decode cX8_close 0 = .ok (.aload_n 0, 1) := by decide +kernel
theorem dX8_close_1 : decode cX8_close 1 = .ok (.aload_n 0, 1) := by decide +kernel
theorem dX8_close_2 : decode cX8_close 2 = .ok (.invokevirtual 190, 3) := by decide +kernel
theorem dX8_close_5 : decode cX8_close 5 = .ok (.ifCond .eq 7, 3) := by decide +kernel
theorem dX8_close_8 : decode cX8_close 8 = .ok (.iconst 0, 1) := by decide +kernel
theorem dX8_close_9 : decode cX8_close 9 = .ok (.goto 4, 3) := by decide +kernel
theorem dX8_close_12 : decode cX8_close 12 = .ok (.iconst 1, 1) := by decide +kernel
theorem dX8_close_13 : decode cX8_close 13 = .ok (.putfield 85, 3) := by decide +kernel
theorem dX8_close_16 : decode cX8_close 16 = .ok (.aload_n 0, 1) := by decide +kernel
theorem dX8_close_17 : decode cX8_close 17 = .ok (.getfield 85, 3) := by decide +kernel
theorem dX8_close_20 : decode cX8_close 20 = .ok (.ifCond .le 5, 3) := by decide +kernel
theorem dX8_close_23 : decode cX8_close 23 = .ok (.iconst 0, 1) := by decide +kernel
theorem dX8_close_24 : decode cX8_close 24 = .ok (.ireturn, 1) := by decide +kernel
theorem dX8_close_25 : decode cX8_close 25 = .ok (.iconst 1, 1) := by decide +kernel
theorem dX8_close_26 : decode cX8_close 26 = .ok (.istore_n 1, 1) := by decide +kernel
theorem dX8_close_27 : decode cX8_close 27 = .ok (.iload_n 1, 1) := by decide +kernel
theorem dX8_close_28 : decode cX8_close 28 = .ok (.aload_n 0, 1) := by decide +kernel
theorem dX8_close_29 : decode cX8_close 29 = .ok (.getfield 187, 3) := by decide +kernel
theorem dX8_close_32 : decode cX8_close 32 = .ok (.if_icmp .ge 93, 3) := by decide +kernel
theorem dX8_close_35 : decode cX8_close 35 = .ok (.aload_n 0, 1) := by decide +kernel
theorem dX8_close_36 : decode cX8_close 36 = .ok (.iload_n 1, 1) := by decide +kernel
theorem dX8_close_37 : decode cX8_close 37 = .ok (.invokevirtual 194, 3) := by decide +kernel
theorem dX8_close_40 : decode cX8_close 40 = .ok (.aload_n 0, 1) := by decide +kernel
theorem dX8_close_41 : decode cX8_close 41 = .ok (.iload_n 1, 1) := by decide +kernel
theorem dX8_close_42 : decode cX8_close 42 = .ok (.iconst 1, 1) := by decide +kernel
theorem dX8_close_43 : decode cX8_close 43 = .ok (.isub, 1) := by decide +kernel
theorem dX8_close_44 : decode cX8_close 44 = .ok (.invokevirtual 194, 3) := by decide +kernel
theorem dX8_close_47 : decode cX8_close 47 = .ok (.isub, 1) := by decide +kernel
theorem dX8_close_48 : decode cX8_close 48 = .ok (.istore_n 2, 1) := by decide +kernel
theorem dX8_close_49 : decode cX8_close 49 = .ok (.aload_n 0, 1) := by decide +kernel
theorem dX8_close_50 : decode cX8_close 50 = .ok (.getfield 46, 3) := by decide +kernel
theorem dX8_close_53 : decode cX8_close 53 = .ok (.iload_n 1, 1) := by decide +kernel
theorem dX8_close_54 : decode cX8_close 54 = .ok (.iconst 1, 1) := by decide +kernel
theorem dX8_close_55 : decode cX8_close 55 = .ok (.isub, 1) := by decide +kernel
theorem dX8_close_56 : decode cX8_close 56 = .ok (.iaload, 1) := by decide +kernel
theorem dX8_close_57 : decode cX8_close 57 = .ok (.istore_n 3, 1) := by decide +kernel
theorem dX8_close_58 : decode cX8_close 58 = .ok (.aload_n 0, 1) := by decide +kernel
theorem dX8_close_59 : decode cX8_close 59 = .ok (.getfield 46, 3) := by decide +kernel
theorem dX8_close_62 : decode cX8_close 62 = .ok (.iload_n 1, 1) := by decide +kernel
theorem dX8_close_63 : decode cX8_close 63 = .ok (.iaload, 1) := by decide +kernel
theorem dX8_close_64 : decode cX8_close 64 = .ok (.istore 4, 2) := by decide +kernel
theorem dX8_close_66 : decode cX8_close 66 = .ok (.aload_n 0, 1) := by decide +kernel
theorem dX8_close_67 : decode cX8_close 67 = .ok (.getfield 55, 3) := by decide +kernel
theorem dX8_close_70 : decode cX8_close 70 = .ok (.bipush 10, 2) := by decide +kernel
theorem dX8_close_72 : decode cX8_close 72 = .ok (.iload_n 3, 1) := by decide +kernel
theorem dX8_close_73 : decode cX8_close 73 = .ok (.imul, 1) := by decide +kernel
theorem dX8_close_74 : decode cX8_close 74 = .ok (.iload 4, 2) := by decide +kernel
theorem dX8_close_76 : decode cX8_close 76 = .ok (.iadd, 1) := by decide +kernel
theorem dX8_close_77 : decode cX8_close 77 = .ok (.iconst 1, 1) := by decide +kernel
theorem dX8_close_78 : decode cX8_close 78 = .ok (.bastore, 1) := by decide +kernel
theorem dX8_close_79 : decode cX8_close 79 = .ok (.aload_n 0, 1) := by decide +kernel
theorem dX8_close_80 : decode cX8_close 80 = .ok (.getfield 55, 3) := by decide +kernel
theorem dX8_close_83 : decode cX8_close 83 = .ok (.bipush 10, 2) := by decide +kernel
theorem dX8_close_85 : decode cX8_close 85 = .ok (.iload 4, 2) := by decide +kernel
theorem dX8_close_87 : decode cX8_close 87 = .ok (.imul, 1) := by decide +kernel
theorem dX8_close_88 : decode cX8_close 88 = .ok (.iload_n 3, 1) := by decide +kernel
theorem dX8_close_89 : decode cX8_close 89 = .ok (.iadd, 1) := by decide +kernel
theorem dX8_close_90 : decode cX8_close 90 = .ok (.iconst 1, 1) := by decide +kernel
theorem dX8_close_91 : decode cX8_close 91 = .ok (.bastore, 1) := by decide +kernel
theorem dX8_close_92 : decode cX8_close 92 = .ok (.aload_n 0, 1) := by decide +kernel
theorem dX8_close_93 : decode cX8_close 93 = .ok (.getfield 58, 3) := by decide +kernel
theorem dX8_close_96 : decode cX8_close 96 = .ok (.bipush 10, 2) := by decide +kernel
theorem dX8_close_98 : decode cX8_close 98 = .ok (.iload_n 3, 1) := by decide +kernel
theorem dX8_close_99 : decode cX8_close 99 = .ok (.imul, 1) := by decide +kernel
theorem dX8_close_100 : decode cX8_close 100 = .ok (.iload 4, 2) := by decide +kernel
theorem dX8_close_102 : decode cX8_close 102 = .ok (.iadd, 1) := by decide +kernel
theorem dX8_close_103 : decode cX8_close 103 = .ok (.iload_n 2, 1) := by decide +kernel
theorem dX8_close_104 : decode cX8_close 104 = .ok (.iastore, 1) := by decide +kernel
theorem dX8_close_105 : decode cX8_close 105 = .ok (.aload_n 0, 1) := by decide +kernel
theorem dX8_close_106 : decode cX8_close 106 = .ok (.getfield 58, 3) := by decide +kernel
theorem dX8_close_109 : decode cX8_close 109 = .ok (.bipush 10, 2) := by decide +kernel
theorem dX8_close_111 : decode cX8_close 111 = .ok (.iload 4, 2) := by decide +kernel
theorem dX8_close_113 : decode cX8_close 113 = .ok (.imul, 1) := by decide +kernel
theorem dX8_close_114 : decode cX8_close 114 = .ok (.iload_n 3, 1) := by decide +kernel
theorem dX8_close_115 : decode cX8_close 115 = .ok (.iadd, 1) := by decide +kernel
theorem dX8_close_116 : decode cX8_close 116 = .ok (.iload_n 2, 1) := by decide +kernel
theorem dX8_close_117 : decode cX8_close 117 = .ok (.ineg, 1) := by decide +kernel
theorem dX8_close_118 : decode cX8_close 118 = .ok (.iastore, 1) := by decide +kernel
theorem dX8_close_119 : decode cX8_close 119 = .ok (.iinc 1 1, 3) := by decide +kernel
theorem dX8_close_122 : decode cX8_close 122 = .ok (.goto (-95), 3) := by decide +kernel
theorem dX8_close_125 : decode cX8_close 125 = .ok (.aload_n 0, 1) := by decide +kernel
theorem dX8_close_126 : decode cX8_close 126 = .ok (.getfield 187, 3) := by decide +kernel
theorem dX8_close_129 : decode cX8_close 129 = .ok (.iconst 1, 1) := by decide +kernel
theorem dX8_close_130 : decode cX8_close 130 = .ok (.isub, 1) := by decide +kernel
theorem dX8_close_131 : decode cX8_close 131 = .ok (.istore_n 1, 1) := by decide +kernel
theorem dX8_close_132 : decode cX8_close 132 = .ok (.aload_n 0, 1) := by decide +kernel
theorem dX8_close_133 : decode cX8_close 133 = .ok (.iconst 0, 1) := by decide +kernel
theorem dX8_close_134 : decode cX8_close 134 = .ok (.putfield 187, 3) := by decide +kernel
theorem dX8_close_137 : decode cX8_close 137 = .ok (.iload_n 1, 1) := by decide +kernel
theorem dX8_close_138 : decode cX8_close 138 = .ok (.ireturn, 1) := by decide +kernel
theorem dX8_forget_0 : decode cX8_forget 0 = .ok (.aload_n 0, 1) := by decide +kernel
theorem dX8_forget_1 : decode cX8_forget 1 = .ok (.iconst 0, 1) := by decide +kernel
theorem dX8_forget_2 : decode cX8_forget 2 = .ok (.putfield 85, 3) := by decide +kernel
theorem dX8_forget_5 : decode cX8_forget 5 = .ok (.aload_n 0, 1) := by decide +kernel
theorem dX8_forget_6 : decode cX8_forget 6 = .ok (.getfield 187, 3) := by decide +kernel
theorem dX8_forget_9 : decode cX8_forget 9 = .ok (.istore_n 1, 1) := by decide +kernel
theorem dX8_forget_10 : decode cX8_forget 10 = .ok (.aload_n 0, 1) := by decide +kernel
theorem dX8_forget_11 : decode cX8_forget 11 = .ok (.iconst 0, 1) := by decide +kernel
theorem dX8_forget_12 : decode cX8_forget 12 = .ok (.putfield 187, 3) := by decide +kernel
theorem dX8_forget_15 : decode cX8_forget 15 = .ok (.iload_n 1, 1) := by decide +kernel
theorem dX8_forget_16 : decode cX8_forget 16 = .ok (.ireturn, 1) := by decide +kernel
set_option maxRecDepth 20000 in
theorem ggX8_tie_X8_isStation : GoodIn wsX8_tie wsX8_isStation := goodIn_r _ [7, 8, 9, 6, 10] (by decide +kernel) (by decide +kernel)
set_option maxRecDepth 20000 in
theorem gX8_tie_X8_isStation : GoodIn wsX8_tie (va_wsS RX8 178 yX8_isStation wsX8_isStation) := goodIn_app (goodIn_of _ (by decide +kernel)) ggX8_tie_X8_isStation
theorem dX8_tie_0 : decode cX8_tie 0 = .ok (.iload_n 1, 1) := by decide +kernel
theorem dX8_tie_1 : decode cX8_tie 1 = .ok (.invokestatic 178, 3) := by decide +kernel
theorem dX8_tie_4 : decode cX8_tie 4 = .ok (.ifCond .eq 14, 3) := by decide +kernel
theorem dX8_tie_7 : decode cX8_tie 7 = .ok (.iload_n 2, 1) := by decide +kernel
theorem dX8_tie_8 : decode cX8_tie 8 = .ok (.invokestatic 178, 3) := by decide +kernel
theorem dX8_tie_11 : decode cX8_tie 11 = .ok (.ifCond .eq 7, 3) := by decide +kernel
theorem dX8_tie_14 : decode cX8_tie 14 = .ok (.iconst 1, 1) := by decide +kernel
theorem dX8_tie_15 : decode cX8_tie 15 = .ok (.goto 4, 3) := by decide +kernel
theorem dX8_tie_18 : decode cX8_tie 18 = .ok (.iconst 0, 1) := by decide +kernel
theorem dX8_tie_19 : decode cX8_tie 19 = .ok (.istore_n 3, 1) := by decide +kernel
theorem dX8_tie_20 : decode cX8_tie 20 = .ok (.aload_n 0, 1) := by decide +kernel
theorem dX8_tie_21 : decode cX8_tie 21 = .ok (.iload_n 3, 1) := by decide +kernel
theorem dX8_tie_22 : decode cX8_tie 22 = .ok (.ifCond .ne 7, 3) := by decide +kernel
theorem dX8_tie_25 : decode cX8_tie 25 = .ok (.iconst 1, 1) := by decide +kernel
theorem dX8_tie_26 : decode cX8_tie 26 = .ok (.goto 22, 3) := by decide +kernel
theorem dX8_tie_29 : decode cX8_tie 29 = .ok (.aload_n 0, 1) := by decide +kernel
theorem dX8_tie_30 : decode cX8_tie 30 = .ok (.getfield 55, 3) := by decide +kernel
theorem dX8_tie_33 : decode cX8_tie 33 = .ok (.bipush 10, 2) := by decide +kernel
theorem dX8_tie_35 : decode cX8_tie 35 = .ok (.iload_n 1, 1) := by decide +kernel
theorem dX8_tie_36 : decode cX8_tie 36 = .ok (.imul, 1) := by decide +kernel
theorem dX8_tie_37 : decode cX8_tie 37 = .ok (.iload_n 2, 1) := by decide +kernel
theorem dX8_tie_38 : decode cX8_tie 38 = .ok (.iadd, 1) := by decide +kernel
theorem dX8_tie_39 : decode cX8_tie 39 = .ok (.baload, 1) := by decide +kernel
theorem dX8_tie_40 : decode cX8_tie 40 = .ok (.ifCond .ne 7, 3) := by decide +kernel
theorem dX8_tie_43 : decode cX8_tie 43 = .ok (.iconst 2, 1) := by decide +kernel
theorem dX8_tie_44 : decode cX8_tie 44 = .ok (.goto 4, 3) := by decide +kernel
theorem dX8_tie_47 : decode cX8_tie 47 = .ok (.iconst 0, 1) := by decide +kernel
theorem dX8_tie_48 : decode cX8_tie 48 = .ok (.putfield 85, 3) := by decide +kernel
theorem dX8_tie_51 : decode cX8_tie 51 = .ok (.aload_n 0, 1) := by decide +kernel
theorem dX8_tie_52 : decode cX8_tie 52 = .ok (.getfield 85, 3) := by decide +kernel
theorem dX8_tie_55 : decode cX8_tie 55 = .ok (.ifCond .le 7, 3) := by decide +kernel
theorem dX8_tie_58 : decode cX8_tie 58 = .ok (.iconst 0, 1) := by decide +kernel
theorem dX8_tie_59 : decode cX8_tie 59 = .ok (.goto 14, 3) := by decide +kernel
theorem dX8_tie_62 : decode cX8_tie 62 = .ok (.aload_n 0, 1) := by decide +kernel
theorem dX8_tie_63 : decode cX8_tie 63 = .ok (.getfield 58, 3) := by decide +kernel
theorem dX8_tie_66 : decode cX8_tie 66 = .ok (.bipush 10, 2) := by decide +kernel
theorem dX8_tie_68 : decode cX8_tie 68 = .ok (.iload_n 1, 1) := by decide +kernel
theorem dX8_tie_69 : decode cX8_tie 69 = .ok (.imul, 1) := by decide +kernel
theorem dX8_tie_70 : decode cX8_tie 70 = .ok (.iload_n 2, 1) := by decide +kernel
theorem dX8_tie_71 : decode cX8_tie 71 = .ok (.iadd, 1) := by decide +kernel
theorem dX8_tie_72 : decode cX8_tie 72 = .ok (.iaload, 1) := by decide +kernel
theorem dX8_tie_73 : decode cX8_tie 73 = .ok (.ireturn, 1) := by decide +kernel
theorem dX8_weighs_0 : decode cX8_weighs 0 = .ok (.iconst 0, 1) := by decide +kernel
theorem dX8_weighs_1 : decode cX8_weighs 1 = .ok (.istore_n 1, 1) := by decide +kernel
theorem dX8_weighs_2 : decode cX8_weighs 2 = .ok (.iload_n 1, 1) := by decide +kernel
theorem dX8_weighs_3 : decode cX8_weighs 3 = .ok (.bipush 10, 2) := by decide +kernel
theorem dX8_weighs_5 : decode cX8_weighs 5 = .ok (.if_icmp .ge 39, 3) := by decide +kernel
theorem dX8_weighs_8 : decode cX8_weighs 8 = .ok (.aload_n 0, 1) := by decide +kernel
theorem dX8_weighs_9 : decode cX8_weighs 9 = .ok (.getfield 61, 3) := by decide +kernel
theorem dX8_weighs_12 : decode cX8_weighs 12 = .ok (.iload_n 1, 1) := by decide +kernel
theorem dX8_weighs_13 : decode cX8_weighs 13 = .ok (.iload_n 1, 1) := by decide +kernel
theorem dX8_weighs_14 : decode cX8_weighs 14 = .ok (.aload_n 0, 1) := by decide +kernel
theorem dX8_weighs_15 : decode cX8_weighs 15 = .ok (.getfield 181, 3) := by decide +kernel
theorem dX8_weighs_18 : decode cX8_weighs 18 = .ok (.if_icmp .ne 7, 3) := by decide +kernel
theorem dX8_weighs_21 : decode cX8_weighs 21 = .ok (.iconst 0, 1) := by decide +kernel
theorem dX8_weighs_22 : decode cX8_weighs 22 = .ok (.goto 4, 3) := by decide +kernel
theorem dX8_weighs_25 : decode cX8_weighs 25 = .ok (.iconst (-1), 1) := by decide +kernel
theorem dX8_weighs_26 : decode cX8_weighs 26 = .ok (.iastore, 1) := by decide +kernel
theorem dX8_weighs_27 : decode cX8_weighs 27 = .ok (.aload_n 0, 1) := by decide +kernel
theorem dX8_weighs_28 : decode cX8_weighs 28 = .ok (.getfield 64, 3) := by decide +kernel
theorem dX8_weighs_31 : decode cX8_weighs 31 = .ok (.iload_n 1, 1) := by decide +kernel
theorem dX8_weighs_32 : decode cX8_weighs 32 = .ok (.aload_n 0, 1) := by decide +kernel
theorem dX8_weighs_33 : decode cX8_weighs 33 = .ok (.getfield 184, 3) := by decide +kernel
theorem dX8_weighs_36 : decode cX8_weighs 36 = .ok (.i2l, 1) := by decide +kernel
theorem dX8_weighs_37 : decode cX8_weighs 37 = .ok (.lastore, 1) := by decide +kernel
theorem dX8_weighs_38 : decode cX8_weighs 38 = .ok (.iinc 1 1, 3) := by decide +kernel
theorem dX8_weighs_41 : decode cX8_weighs 41 = .ok (.goto (-39), 3) := by decide +kernel
theorem dX8_weighs_44 : decode cX8_weighs 44 = .ok (.iconst 1, 1) := by decide +kernel
theorem dX8_weighs_45 : decode cX8_weighs 45 = .ok (.istore_n 1, 1) := by decide +kernel
theorem dX8_weighs_46 : decode cX8_weighs 46 = .ok (.iload_n 1, 1) := by decide +kernel
theorem dX8_weighs_47 : decode cX8_weighs 47 = .ok (.bipush 10, 2) := by decide +kernel
theorem dX8_weighs_49 : decode cX8_weighs 49 = .ok (.if_icmp .ge 126, 3) := by decide +kernel
theorem dX8_weighs_52 : decode cX8_weighs 52 = .ok (.iconst 0, 1) := by decide +kernel
theorem dX8_weighs_53 : decode cX8_weighs 53 = .ok (.istore_n 2, 1) := by decide +kernel
theorem dX8_weighs_54 : decode cX8_weighs 54 = .ok (.iload_n 2, 1) := by decide +kernel
theorem dX8_weighs_55 : decode cX8_weighs 55 = .ok (.bipush 10, 2) := by decide +kernel
theorem dX8_weighs_57 : decode cX8_weighs 57 = .ok (.if_icmp .ge 112, 3) := by decide +kernel
theorem dX8_weighs_60 : decode cX8_weighs 60 = .ok (.bipush 9, 2) := by decide +kernel
theorem dX8_weighs_62 : decode cX8_weighs 62 = .ok (.istore_n 3, 1) := by decide +kernel
theorem dX8_weighs_63 : decode cX8_weighs 63 = .ok (.iload_n 3, 1) := by decide +kernel
theorem dX8_weighs_64 : decode cX8_weighs 64 = .ok (.ifCond .lt 99, 3) := by decide +kernel
theorem dX8_weighs_67 : decode cX8_weighs 67 = .ok (.aload_n 0, 1) := by decide +kernel
theorem dX8_weighs_68 : decode cX8_weighs 68 = .ok (.getfield 55, 3) := by decide +kernel
theorem dX8_weighs_71 : decode cX8_weighs 71 = .ok (.bipush 10, 2) := by decide +kernel
theorem dX8_weighs_73 : decode cX8_weighs 73 = .ok (.iload_n 3, 1) := by decide +kernel
theorem dX8_weighs_74 : decode cX8_weighs 74 = .ok (.imul, 1) := by decide +kernel
theorem dX8_weighs_75 : decode cX8_weighs 75 = .ok (.iload_n 2, 1) := by decide +kernel
theorem dX8_weighs_76 : decode cX8_weighs 76 = .ok (.iadd, 1) := by decide +kernel
theorem dX8_weighs_77 : decode cX8_weighs 77 = .ok (.baload, 1) := by decide +kernel
theorem dX8_weighs_78 : decode cX8_weighs 78 = .ok (.ifCond .eq 39, 3) := by decide +kernel
theorem dX8_weighs_81 : decode cX8_weighs 81 = .ok (.aload_n 0, 1) := by decide +kernel
theorem dX8_weighs_82 : decode cX8_weighs 82 = .ok (.getfield 61, 3) := by decide +kernel
theorem dX8_weighs_85 : decode cX8_weighs 85 = .ok (.iload_n 3, 1) := by decide +kernel
theorem dX8_weighs_86 : decode cX8_weighs 86 = .ok (.iaload, 1) := by decide +kernel
theorem dX8_weighs_87 : decode cX8_weighs 87 = .ok (.iload_n 1, 1) := by decide +kernel
theorem dX8_weighs_88 : decode cX8_weighs 88 = .ok (.iconst 1, 1) := by decide +kernel
theorem dX8_weighs_89 : decode cX8_weighs 89 = .ok (.isub, 1) := by decide +kernel
theorem dX8_weighs_90 : decode cX8_weighs 90 = .ok (.if_icmp .ne 27, 3) := by decide +kernel
theorem dX8_weighs_93 : decode cX8_weighs 93 = .ok (.aload_n 0, 1) := by decide +kernel
theorem dX8_weighs_94 : decode cX8_weighs 94 = .ok (.getfield 61, 3) := by decide +kernel
theorem dX8_weighs_97 : decode cX8_weighs 97 = .ok (.iload_n 2, 1) := by decide +kernel
theorem dX8_weighs_98 : decode cX8_weighs 98 = .ok (.iaload, 1) := by decide +kernel
theorem dX8_weighs_99 : decode cX8_weighs 99 = .ok (.iconst (-1), 1) := by decide +kernel
theorem dX8_weighs_100 : decode cX8_weighs 100 = .ok (.if_icmp .eq 13, 3) := by decide +kernel
theorem dX8_weighs_103 : decode cX8_weighs 103 = .ok (.aload_n 0, 1) := by decide +kernel
theorem dX8_weighs_104 : decode cX8_weighs 104 = .ok (.getfield 61, 3) := by decide +kernel
theorem dX8_weighs_107 : decode cX8_weighs 107 = .ok (.iload_n 2, 1) := by decide +kernel
theorem dX8_weighs_108 : decode cX8_weighs 108 = .ok (.iaload, 1) := by decide +kernel
theorem dX8_weighs_109 : decode cX8_weighs 109 = .ok (.iload_n 1, 1) := by decide +kernel
theorem dX8_weighs_110 : decode cX8_weighs 110 = .ok (.if_icmp .ne 7, 3) := by decide +kernel
theorem dX8_weighs_113 : decode cX8_weighs 113 = .ok (.iconst 1, 1) := by decide +kernel
theorem dX8_weighs_114 : decode cX8_weighs 114 = .ok (.goto 4, 3) := by decide +kernel
theorem dX8_weighs_117 : decode cX8_weighs 117 = .ok (.iconst 0, 1) := by decide +kernel
theorem dX8_weighs_118 : decode cX8_weighs 118 = .ok (.istore 4, 2) := by decide +kernel
theorem dX8_weighs_120 : decode cX8_weighs 120 = .ok (.iload 4, 2) := by decide +kernel
theorem dX8_weighs_122 : decode cX8_weighs 122 = .ok (.ifCond .eq 35, 3) := by decide +kernel
theorem dX8_weighs_125 : decode cX8_weighs 125 = .ok (.aload_n 0, 1) := by decide +kernel
theorem dX8_weighs_126 : decode cX8_weighs 126 = .ok (.getfield 61, 3) := by decide +kernel
theorem dX8_weighs_129 : decode cX8_weighs 129 = .ok (.iload_n 2, 1) := by decide +kernel
theorem dX8_weighs_130 : decode cX8_weighs 130 = .ok (.iload_n 1, 1) := by decide +kernel
theorem dX8_weighs_131 : decode cX8_weighs 131 = .ok (.iastore, 1) := by decide +kernel
theorem dX8_weighs_132 : decode cX8_weighs 132 = .ok (.aload_n 0, 1) := by decide +kernel
theorem dX8_weighs_133 : decode cX8_weighs 133 = .ok (.getfield 64, 3) := by decide +kernel
theorem dX8_weighs_136 : decode cX8_weighs 136 = .ok (.iload_n 2, 1) := by decide +kernel
theorem dX8_weighs_137 : decode cX8_weighs 137 = .ok (.aload_n 0, 1) := by decide +kernel
theorem dX8_weighs_138 : decode cX8_weighs 138 = .ok (.getfield 64, 3) := by decide +kernel
theorem dX8_weighs_141 : decode cX8_weighs 141 = .ok (.iload_n 3, 1) := by decide +kernel
theorem dX8_weighs_142 : decode cX8_weighs 142 = .ok (.laload, 1) := by decide +kernel
theorem dX8_weighs_143 : decode cX8_weighs 143 = .ok (.aload_n 0, 1) := by decide +kernel
theorem dX8_weighs_144 : decode cX8_weighs 144 = .ok (.getfield 58, 3) := by decide +kernel
theorem dX8_weighs_147 : decode cX8_weighs 147 = .ok (.bipush 10, 2) := by decide +kernel
theorem dX8_weighs_149 : decode cX8_weighs 149 = .ok (.iload_n 3, 1) := by decide +kernel
theorem dX8_weighs_150 : decode cX8_weighs 150 = .ok (.imul, 1) := by decide +kernel
theorem dX8_weighs_151 : decode cX8_weighs 151 = .ok (.iload_n 2, 1) := by decide +kernel
theorem dX8_weighs_152 : decode cX8_weighs 152 = .ok (.iadd, 1) := by decide +kernel
theorem dX8_weighs_153 : decode cX8_weighs 153 = .ok (.iaload, 1) := by decide +kernel
theorem dX8_weighs_154 : decode cX8_weighs 154 = .ok (.i2l, 1) := by decide +kernel
theorem dX8_weighs_155 : decode cX8_weighs 155 = .ok (.ladd, 1) := by decide +kernel
theorem dX8_weighs_156 : decode cX8_weighs 156 = .ok (.lastore, 1) := by decide +kernel
theorem dX8_weighs_157 : decode cX8_weighs 157 = .ok (.iinc 3 (-1), 3) := by decide +kernel
theorem dX8_weighs_160 : decode cX8_weighs 160 = .ok (.goto (-97), 3) := by decide +kernel
theorem dX8_weighs_163 : decode cX8_weighs 163 = .ok (.iinc 2 1, 3) := by decide +kernel
theorem dX8_weighs_166 : decode cX8_weighs 166 = .ok (.goto (-112), 3) := by decide +kernel
theorem dX8_weighs_169 : decode cX8_weighs 169 = .ok (.iinc 1 1, 3) := by decide +kernel
theorem dX8_weighs_172 : decode cX8_weighs 172 = .ok (.goto (-126), 3) := by decide +kernel
theorem dX8_weighs_175 : decode cX8_weighs 175 = .ok (.return_, 1) := by decide +kernel
set_option maxRecDepth 20000 in
theorem ggX8_gravity_X8_isStation : GoodIn wsX8_gravity wsX8_isStation := goodIn_r _ [7, 8, 9, 6, 10] (by decide +kernel) (by decide +kernel)
set_option maxRecDepth 20000 in
theorem gX8_gravity_X8_isStation : GoodIn wsX8_gravity (va_wsS RX8 178 yX8_isStation wsX8_isStation) := goodIn_app (goodIn_of _ (by decide +kernel)) ggX8_gravity_X8_isStation
set_option maxRecDepth 20000 in
theorem ggX8_gravity_X8_weighs : GoodIn wsX8_gravity wsX8_weighs := goodIn_r _ [14, 1, 15, 3, 16, 17, 18, 19, 20, 21, 22, 23, 24, 25, 26, 27, 28, 29, 30, 31, 32, 33, 34, 35, 36, 37, 38, 39, 40, 41, 42, 43, 44, 45, 46, 47, 48, 49, 50, 51, 52, 53, 54, 55, 56] (by decide +kernel) (by decide +kernel)
set_option maxRecDepth 20000 in
theorem gX8_gravity_X8_weighs : GoodIn wsX8_gravity (wsV RX8 197 RX8 yX8_weighs wsX8_weighs) := goodIn_app (goodIn_of _ (by decide +kernel)) ggX8_gravity_X8_weighs
theorem dX8_gravity_0 : decode cX8_gravity 0 = .ok (.iload_n 1, 1) := by decide +kernel
theorem dX8_gravity_1 : decode cX8_gravity 1 = .ok (.invokestatic 178, 3) := by decide +kernel
theorem dX8_gravity_4 : decode cX8_gravity 4 = .ok (.istore_n 2, 1) := by decide +kernel
theorem dX8_gravity_5 : decode cX8_gravity 5 = .ok (.aload_n 0, 1) := by decide +kernel
theorem dX8_gravity_6 : decode cX8_gravity 6 = .ok (.invokevirtual 197, 3) := by decide +kernel
theorem dX8_gravity_9 : decode cX8_gravity 9 = .ok (.aload_n 0, 1) := by decide +kernel
theorem dX8_gravity_10 : decode cX8_gravity 10 = .ok (.iload_n 2, 1) := by decide +kernel
theorem dX8_gravity_11 : decode cX8_gravity 11 = .ok (.ifCond .ne 7, 3) := by decide +kernel
theorem dX8_gravity_14 : decode cX8_gravity 14 = .ok (.iconst 1, 1) := by decide +kernel
theorem dX8_gravity_15 : decode cX8_gravity 15 = .ok (.goto 18, 3) := by decide +kernel
theorem dX8_gravity_18 : decode cX8_gravity 18 = .ok (.aload_n 0, 1) := by decide +kernel
theorem dX8_gravity_19 : decode cX8_gravity 19 = .ok (.getfield 61, 3) := by decide +kernel
theorem dX8_gravity_22 : decode cX8_gravity 22 = .ok (.iload_n 1, 1) := by decide +kernel
theorem dX8_gravity_23 : decode cX8_gravity 23 = .ok (.iaload, 1) := by decide +kernel
theorem dX8_gravity_24 : decode cX8_gravity 24 = .ok (.iconst (-1), 1) := by decide +kernel
theorem dX8_gravity_25 : decode cX8_gravity 25 = .ok (.if_icmp .ne 7, 3) := by decide +kernel
theorem dX8_gravity_28 : decode cX8_gravity 28 = .ok (.iconst 2, 1) := by decide +kernel
theorem dX8_gravity_29 : decode cX8_gravity 29 = .ok (.goto 4, 3) := by decide +kernel
theorem dX8_gravity_32 : decode cX8_gravity 32 = .ok (.iconst 0, 1) := by decide +kernel
theorem dX8_gravity_33 : decode cX8_gravity 33 = .ok (.putfield 85, 3) := by decide +kernel
theorem dX8_gravity_36 : decode cX8_gravity 36 = .ok (.aload_n 0, 1) := by decide +kernel
theorem dX8_gravity_37 : decode cX8_gravity 37 = .ok (.getfield 85, 3) := by decide +kernel
theorem dX8_gravity_40 : decode cX8_gravity 40 = .ok (.ifCond .le 7, 3) := by decide +kernel
theorem dX8_gravity_43 : decode cX8_gravity 43 = .ok (.lconst 0, 1) := by decide +kernel
theorem dX8_gravity_44 : decode cX8_gravity 44 = .ok (.goto 9, 3) := by decide +kernel
theorem dX8_gravity_47 : decode cX8_gravity 47 = .ok (.aload_n 0, 1) := by decide +kernel
theorem dX8_gravity_48 : decode cX8_gravity 48 = .ok (.getfield 64, 3) := by decide +kernel
theorem dX8_gravity_51 : decode cX8_gravity 51 = .ok (.iload_n 1, 1) := by decide +kernel
theorem dX8_gravity_52 : decode cX8_gravity 52 = .ok (.laload, 1) := by decide +kernel
theorem dX8_gravity_53 : decode cX8_gravity 53 = .ok (.lreturn, 1) := by decide +kernel
set_option maxRecDepth 20000 in
theorem ggX8_loop_X8_isStation : GoodIn wsX8_loop wsX8_isStation := goodIn_r _ [7, 8, 9, 6, 10] (by decide +kernel) (by decide +kernel)
set_option maxRecDepth 20000 in
theorem gX8_loop_X8_isStation : GoodIn wsX8_loop (va_wsS RX8 178 yX8_isStation wsX8_isStation) := goodIn_app (goodIn_of _ (by decide +kernel)) ggX8_loop_X8_isStation
theorem dX8_loop_0 : decode cX8_loop 0 = .ok (.iload_n 1, 1) := by decide +kernel
theorem dX8_loop_1 : decode cX8_loop 1 = .ok (.invokestatic 178, 3) := by decide +kernel
theorem dX8_loop_4 : decode cX8_loop 4 = .ok (.ifCond .eq 21, 3) := by decide +kernel
theorem dX8_loop_7 : decode cX8_loop 7 = .ok (.iload_n 2, 1) := by decide +kernel
theorem dX8_loop_8 : decode cX8_loop 8 = .ok (.invokestatic 178, 3) := by decide +kernel
theorem dX8_loop_11 : decode cX8_loop 11 = .ok (.ifCond .eq 14, 3) := by decide +kernel
theorem dX8_loop_14 : decode cX8_loop 14 = .ok (.iload_n 3, 1) := by decide +kernel
theorem dX8_loop_15 : decode cX8_loop 15 = .ok (.invokestatic 178, 3) := by decide +kernel
theorem dX8_loop_18 : decode cX8_loop 18 = .ok (.ifCond .eq 7, 3) := by decide +kernel
theorem dX8_loop_21 : decode cX8_loop 21 = .ok (.iconst 1, 1) := by decide +kernel
theorem dX8_loop_22 : decode cX8_loop 22 = .ok (.goto 4, 3) := by decide +kernel
theorem dX8_loop_25 : decode cX8_loop 25 = .ok (.iconst 0, 1) := by decide +kernel
theorem dX8_loop_26 : decode cX8_loop 26 = .ok (.istore 4, 2) := by decide +kernel
theorem dX8_loop_28 : decode cX8_loop 28 = .ok (.iload 4, 2) := by decide +kernel
theorem dX8_loop_30 : decode cX8_loop 30 = .ok (.ifCond .eq 49, 3) := by decide +kernel
theorem dX8_loop_33 : decode cX8_loop 33 = .ok (.aload_n 0, 1) := by decide +kernel
theorem dX8_loop_34 : decode cX8_loop 34 = .ok (.getfield 55, 3) := by decide +kernel
theorem dX8_loop_37 : decode cX8_loop 37 = .ok (.bipush 10, 2) := by decide +kernel
theorem dX8_loop_39 : decode cX8_loop 39 = .ok (.iload_n 1, 1) := by decide +kernel
theorem dX8_loop_40 : decode cX8_loop 40 = .ok (.imul, 1) := by decide +kernel
theorem dX8_loop_41 : decode cX8_loop 41 = .ok (.iload_n 2, 1) := by decide +kernel
theorem dX8_loop_42 : decode cX8_loop 42 = .ok (.iadd, 1) := by decide +kernel
theorem dX8_loop_43 : decode cX8_loop 43 = .ok (.baload, 1) := by decide +kernel
theorem dX8_loop_44 : decode cX8_loop 44 = .ok (.ifCond .eq 35, 3) := by decide +kernel
theorem dX8_loop_47 : decode cX8_loop 47 = .ok (.aload_n 0, 1) := by decide +kernel
theorem dX8_loop_48 : decode cX8_loop 48 = .ok (.getfield 55, 3) := by decide +kernel
theorem dX8_loop_51 : decode cX8_loop 51 = .ok (.bipush 10, 2) := by decide +kernel
theorem dX8_loop_53 : decode cX8_loop 53 = .ok (.iload_n 2, 1) := by decide +kernel
theorem dX8_loop_54 : decode cX8_loop 54 = .ok (.imul, 1) := by decide +kernel
theorem dX8_loop_55 : decode cX8_loop 55 = .ok (.iload_n 3, 1) := by decide +kernel
theorem dX8_loop_56 : decode cX8_loop 56 = .ok (.iadd, 1) := by decide +kernel
theorem dX8_loop_57 : decode cX8_loop 57 = .ok (.baload, 1) := by decide +kernel
theorem dX8_loop_58 : decode cX8_loop 58 = .ok (.ifCond .eq 21, 3) := by decide +kernel
theorem dX8_loop_61 : decode cX8_loop 61 = .ok (.aload_n 0, 1) := by decide +kernel
theorem dX8_loop_62 : decode cX8_loop 62 = .ok (.getfield 55, 3) := by decide +kernel
theorem dX8_loop_65 : decode cX8_loop 65 = .ok (.bipush 10, 2) := by decide +kernel
theorem dX8_loop_67 : decode cX8_loop 67 = .ok (.iload_n 3, 1) := by decide +kernel
theorem dX8_loop_68 : decode cX8_loop 68 = .ok (.imul, 1) := by decide +kernel
theorem dX8_loop_69 : decode cX8_loop 69 = .ok (.iload_n 1, 1) := by decide +kernel
theorem dX8_loop_70 : decode cX8_loop 70 = .ok (.iadd, 1) := by decide +kernel
theorem dX8_loop_71 : decode cX8_loop 71 = .ok (.baload, 1) := by decide +kernel
theorem dX8_loop_72 : decode cX8_loop 72 = .ok (.ifCond .eq 7, 3) := by decide +kernel
theorem dX8_loop_75 : decode cX8_loop 75 = .ok (.iconst 1, 1) := by decide +kernel
theorem dX8_loop_76 : decode cX8_loop 76 = .ok (.goto 4, 3) := by decide +kernel
theorem dX8_loop_79 : decode cX8_loop 79 = .ok (.iconst 0, 1) := by decide +kernel
theorem dX8_loop_80 : decode cX8_loop 80 = .ok (.istore 5, 2) := by decide +kernel
theorem dX8_loop_82 : decode cX8_loop 82 = .ok (.aload_n 0, 1) := by decide +kernel
theorem dX8_loop_83 : decode cX8_loop 83 = .ok (.iload 4, 2) := by decide +kernel
theorem dX8_loop_85 : decode cX8_loop 85 = .ok (.ifCond .ne 7, 3) := by decide +kernel
theorem dX8_loop_88 : decode cX8_loop 88 = .ok (.iconst 1, 1) := by decide +kernel
theorem dX8_loop_89 : decode cX8_loop 89 = .ok (.goto 13, 3) := by decide +kernel
theorem dX8_loop_92 : decode cX8_loop 92 = .ok (.iload 5, 2) := by decide +kernel
theorem dX8_loop_94 : decode cX8_loop 94 = .ok (.ifCond .ne 7, 3) := by decide +kernel
theorem dX8_loop_97 : decode cX8_loop 97 = .ok (.iconst 2, 1) := by decide +kernel
theorem dX8_loop_98 : decode cX8_loop 98 = .ok (.goto 4, 3) := by decide +kernel
theorem dX8_loop_101 : decode cX8_loop 101 = .ok (.iconst 0, 1) := by decide +kernel
theorem dX8_loop_102 : decode cX8_loop 102 = .ok (.putfield 85, 3) := by decide +kernel
theorem dX8_loop_105 : decode cX8_loop 105 = .ok (.aload_n 0, 1) := by decide +kernel
theorem dX8_loop_106 : decode cX8_loop 106 = .ok (.getfield 85, 3) := by decide +kernel
theorem dX8_loop_109 : decode cX8_loop 109 = .ok (.ifCond .le 7, 3) := by decide +kernel
theorem dX8_loop_112 : decode cX8_loop 112 = .ok (.iconst 0, 1) := by decide +kernel
theorem dX8_loop_113 : decode cX8_loop 113 = .ok (.goto 38, 3) := by decide +kernel
theorem dX8_loop_116 : decode cX8_loop 116 = .ok (.aload_n 0, 1) := by decide +kernel
theorem dX8_loop_117 : decode cX8_loop 117 = .ok (.getfield 58, 3) := by decide +kernel
theorem dX8_loop_120 : decode cX8_loop 120 = .ok (.bipush 10, 2) := by decide +kernel
theorem dX8_loop_122 : decode cX8_loop 122 = .ok (.iload_n 1, 1) := by decide +kernel
theorem dX8_loop_123 : decode cX8_loop 123 = .ok (.imul, 1) := by decide +kernel
theorem dX8_loop_124 : decode cX8_loop 124 = .ok (.iload_n 2, 1) := by decide +kernel
theorem dX8_loop_125 : decode cX8_loop 125 = .ok (.iadd, 1) := by decide +kernel
theorem dX8_loop_126 : decode cX8_loop 126 = .ok (.iaload, 1) := by decide +kernel
theorem dX8_loop_127 : decode cX8_loop 127 = .ok (.aload_n 0, 1) := by decide +kernel
theorem dX8_loop_128 : decode cX8_loop 128 = .ok (.getfield 58, 3) := by decide +kernel
theorem dX8_loop_131 : decode cX8_loop 131 = .ok (.bipush 10, 2) := by decide +kernel
theorem dX8_loop_133 : decode cX8_loop 133 = .ok (.iload_n 2, 1) := by decide +kernel
theorem dX8_loop_134 : decode cX8_loop 134 = .ok (.imul, 1) := by decide +kernel
theorem dX8_loop_135 : decode cX8_loop 135 = .ok (.iload_n 3, 1) := by decide +kernel
theorem dX8_loop_136 : decode cX8_loop 136 = .ok (.iadd, 1) := by decide +kernel
theorem dX8_loop_137 : decode cX8_loop 137 = .ok (.iaload, 1) := by decide +kernel
theorem dX8_loop_138 : decode cX8_loop 138 = .ok (.iadd, 1) := by decide +kernel
theorem dX8_loop_139 : decode cX8_loop 139 = .ok (.aload_n 0, 1) := by decide +kernel
theorem dX8_loop_140 : decode cX8_loop 140 = .ok (.getfield 58, 3) := by decide +kernel
theorem dX8_loop_143 : decode cX8_loop 143 = .ok (.bipush 10, 2) := by decide +kernel
theorem dX8_loop_145 : decode cX8_loop 145 = .ok (.iload_n 3, 1) := by decide +kernel
theorem dX8_loop_146 : decode cX8_loop 146 = .ok (.imul, 1) := by decide +kernel
theorem dX8_loop_147 : decode cX8_loop 147 = .ok (.iload_n 1, 1) := by decide +kernel
theorem dX8_loop_148 : decode cX8_loop 148 = .ok (.iadd, 1) := by decide +kernel
theorem dX8_loop_149 : decode cX8_loop 149 = .ok (.iaload, 1) := by decide +kernel
theorem dX8_loop_150 : decode cX8_loop 150 = .ok (.iadd, 1) := by decide +kernel
theorem dX8_loop_151 : decode cX8_loop 151 = .ok (.ireturn, 1) := by decide +kernel
theorem dX8_turnedAt_0 : decode cX8_turnedAt 0 = .ok (.iload_n 0, 1) := by decide +kernel
theorem dX8_turnedAt_1 : decode cX8_turnedAt 1 = .ok (.ifCond .ge 8, 3) := by decide +kernel
theorem dX8_turnedAt_4 : decode cX8_turnedAt 4 = .ok (.iload_n 0, 1) := by decide +kernel
theorem dX8_turnedAt_5 : decode cX8_turnedAt 5 = .ok (.ineg, 1) := by decide +kernel
theorem dX8_turnedAt_6 : decode cX8_turnedAt 6 = .ok (.goto 4, 3) := by decide +kernel
theorem dX8_turnedAt_9 : decode cX8_turnedAt 9 = .ok (.iload_n 0, 1) := by decide +kernel
theorem dX8_turnedAt_10 : decode cX8_turnedAt 10 = .ok (.istore_n 2, 1) := by decide +kernel
theorem dX8_turnedAt_11 : decode cX8_turnedAt 11 = .ok (.iload_n 2, 1) := by decide +kernel
theorem dX8_turnedAt_12 : decode cX8_turnedAt 12 = .ok (.sipush 180, 3) := by decide +kernel
theorem dX8_turnedAt_15 : decode cX8_turnedAt 15 = .ok (.iload_n 2, 1) := by decide +kernel
theorem dX8_turnedAt_16 : decode cX8_turnedAt 16 = .ok (.isub, 1) := by decide +kernel
theorem dX8_turnedAt_17 : decode cX8_turnedAt 17 = .ok (.imul, 1) := by decide +kernel
theorem dX8_turnedAt_18 : decode cX8_turnedAt 18 = .ok (.istore_n 3, 1) := by decide +kernel
theorem dX8_turnedAt_19 : decode cX8_turnedAt 19 = .ok (.ldc 200, 2) := by decide +kernel
theorem dX8_turnedAt_21 : decode cX8_turnedAt 21 = .ok (.iload_n 3, 1) := by decide +kernel
theorem dX8_turnedAt_22 : decode cX8_turnedAt 22 = .ok (.i2f, 1) := by decide +kernel
theorem dX8_turnedAt_23 : decode cX8_turnedAt 23 = .ok (.fmul, 1) := by decide +kernel
theorem dX8_turnedAt_24 : decode cX8_turnedAt 24 = .ok (.ldc 201, 2) := by decide +kernel
theorem dX8_turnedAt_26 : decode cX8_turnedAt 26 = .ok (.iload_n 3, 1) := by decide +kernel
theorem dX8_turnedAt_27 : decode cX8_turnedAt 27 = .ok (.i2f, 1) := by decide +kernel
theorem dX8_turnedAt_28 : decode cX8_turnedAt 28 = .ok (.fsub, 1) := by decide +kernel
theorem dX8_turnedAt_29 : decode cX8_turnedAt 29 = .ok (.fdiv, 1) := by decide +kernel
theorem dX8_turnedAt_30 : decode cX8_turnedAt 30 = .ok (.fstore 4, 2) := by decide +kernel
theorem dX8_turnedAt_32 : decode cX8_turnedAt 32 = .ok (.fload 4, 2) := by decide +kernel
theorem dX8_turnedAt_34 : decode cX8_turnedAt 34 = .ok (.iload_n 1, 1) := by decide +kernel
theorem dX8_turnedAt_35 : decode cX8_turnedAt 35 = .ok (.i2f, 1) := by decide +kernel
theorem dX8_turnedAt_36 : decode cX8_turnedAt 36 = .ok (.fmul, 1) := by decide +kernel
theorem dX8_turnedAt_37 : decode cX8_turnedAt 37 = .ok (.ldc 202, 2) := by decide +kernel
theorem dX8_turnedAt_39 : decode cX8_turnedAt 39 = .ok (.fmul, 1) := by decide +kernel
theorem dX8_turnedAt_40 : decode cX8_turnedAt 40 = .ok (.fstore 5, 2) := by decide +kernel
theorem dX8_turnedAt_42 : decode cX8_turnedAt 42 = .ok (.iload_n 0, 1) := by decide +kernel
theorem dX8_turnedAt_43 : decode cX8_turnedAt 43 = .ok (.ifCond .ge 10, 3) := by decide +kernel
theorem dX8_turnedAt_46 : decode cX8_turnedAt 46 = .ok (.fconst 0, 1) := by decide +kernel
theorem dX8_turnedAt_47 : decode cX8_turnedAt 47 = .ok (.fload 5, 2) := by decide +kernel
theorem dX8_turnedAt_49 : decode cX8_turnedAt 49 = .ok (.fsub, 1) := by decide +kernel
theorem dX8_turnedAt_50 : decode cX8_turnedAt 50 = .ok (.goto 5, 3) := by decide +kernel
theorem dX8_turnedAt_53 : decode cX8_turnedAt 53 = .ok (.fload 5, 2) := by decide +kernel
theorem dX8_turnedAt_55 : decode cX8_turnedAt 55 = .ok (.freturn, 1) := by decide +kernel
set_option maxRecDepth 20000 in
theorem ggX8_turned_X8_isIn : GoodIn wsX8_turned wsX8_isIn := goodIn_r _ [6] (by decide +kernel) (by decide +kernel)
set_option maxRecDepth 20000 in
theorem gX8_turned_X8_isIn : GoodIn wsX8_turned (va_wsS RX8 91 yX8_isIn wsX8_isIn) := goodIn_app (goodIn_of _ (by decide +kernel)) ggX8_turned_X8_isIn
set_option maxRecDepth 20000 in
theorem ggX8_turned_X8_turnedAt : GoodIn wsX8_turned wsX8_turnedAt := goodIn_r _ [9, 10, 11, 12] (by decide +kernel) (by decide +kernel)
set_option maxRecDepth 20000 in
theorem gX8_turned_X8_turnedAt : GoodIn wsX8_turned (va_wsS RX8 203 yX8_turnedAt wsX8_turnedAt) := goodIn_app (goodIn_of _ (by decide +kernel)) ggX8_turned_X8_turnedAt
theorem dX8_turned_0 : decode cX8_turned 0 = .ok (.aload_n 0, 1) := by decide +kernel
theorem dX8_turned_1 : decode cX8_turned 1 = .ok (.iload_n 1, 1) := by decide +kernel
theorem dX8_turned_2 : decode cX8_turned 2 = .ok (.bipush (-90), 2) := by decide +kernel
theorem dX8_turned_4 : decode cX8_turned 4 = .ok (.bipush 90, 2) := by decide +kernel
theorem dX8_turned_6 : decode cX8_turned 6 = .ok (.invokestatic 91, 3) := by decide +kernel
theorem dX8_turned_9 : decode cX8_turned 9 = .ok (.ifCond .eq 17, 3) := by decide +kernel
theorem dX8_turned_12 : decode cX8_turned 12 = .ok (.iload_n 2, 1) := by decide +kernel
theorem dX8_turned_13 : decode cX8_turned 13 = .ok (.iconst 0, 1) := by decide +kernel
theorem dX8_turned_14 : decode cX8_turned 14 = .ok (.ldc 177, 2) := by decide +kernel
theorem dX8_turned_16 : decode cX8_turned 16 = .ok (.invokestatic 91, 3) := by decide +kernel
theorem dX8_turned_19 : decode cX8_turned 19 = .ok (.ifCond .eq 7, 3) := by decide +kernel
theorem dX8_turned_22 : decode cX8_turned 22 = .ok (.iconst 0, 1) := by decide +kernel
theorem dX8_turned_23 : decode cX8_turned 23 = .ok (.goto 4, 3) := by decide +kernel
theorem dX8_turned_26 : decode cX8_turned 26 = .ok (.iconst 1, 1) := by decide +kernel
theorem dX8_turned_27 : decode cX8_turned 27 = .ok (.putfield 85, 3) := by decide +kernel
theorem dX8_turned_30 : decode cX8_turned 30 = .ok (.aload_n 0, 1) := by decide +kernel
theorem dX8_turned_31 : decode cX8_turned 31 = .ok (.getfield 85, 3) := by decide +kernel
theorem dX8_turned_34 : decode cX8_turned 34 = .ok (.ifCond .le 7, 3) := by decide +kernel
theorem dX8_turned_37 : decode cX8_turned 37 = .ok (.fconst 0, 1) := by decide +kernel
theorem dX8_turned_38 : decode cX8_turned 38 = .ok (.goto 8, 3) := by decide +kernel
theorem dX8_turned_41 : decode cX8_turned 41 = .ok (.iload_n 1, 1) := by decide +kernel
theorem dX8_turned_42 : decode cX8_turned 42 = .ok (.iload_n 2, 1) := by decide +kernel
theorem dX8_turned_43 : decode cX8_turned 43 = .ok (.invokestatic 203, 3) := by decide +kernel
theorem dX8_turned_46 : decode cX8_turned 46 = .ok (.freturn, 1) := by decide +kernel
set_option maxRecDepth 20000 in
theorem ggX8_latitude_X8_isIn : GoodIn wsX8_latitude wsX8_isIn := goodIn_r _ [6] (by decide +kernel) (by decide +kernel)
set_option maxRecDepth 20000 in
theorem gX8_latitude_X8_isIn : GoodIn wsX8_latitude (va_wsS RX8 91 yX8_isIn wsX8_isIn) := goodIn_app (goodIn_of _ (by decide +kernel)) ggX8_latitude_X8_isIn
set_option maxRecDepth 20000 in
theorem ggX8_latitude_X8_turnedAt : GoodIn wsX8_latitude wsX8_turnedAt := goodIn_r _ [9, 10, 11, 12] (by decide +kernel) (by decide +kernel)
set_option maxRecDepth 20000 in
theorem gX8_latitude_X8_turnedAt : GoodIn wsX8_latitude (va_wsS RX8 203 yX8_turnedAt wsX8_turnedAt) := goodIn_app (goodIn_of _ (by decide +kernel)) ggX8_latitude_X8_turnedAt
theorem dX8_latitude_0 : decode cX8_latitude 0 = .ok (.aload_n 0, 1) := by decide +kernel
theorem dX8_latitude_1 : decode cX8_latitude 1 = .ok (.iload_n 1, 1) := by decide +kernel
theorem dX8_latitude_2 : decode cX8_latitude 2 = .ok (.sipush (-2000), 3) := by decide +kernel
theorem dX8_latitude_5 : decode cX8_latitude 5 = .ok (.sipush 2000, 3) := by decide +kernel
theorem dX8_latitude_8 : decode cX8_latitude 8 = .ok (.invokestatic 91, 3) := by decide +kernel
theorem dX8_latitude_11 : decode cX8_latitude 11 = .ok (.ifCond .eq 7, 3) := by decide +kernel
theorem dX8_latitude_14 : decode cX8_latitude 14 = .ok (.iconst 0, 1) := by decide +kernel
theorem dX8_latitude_15 : decode cX8_latitude 15 = .ok (.goto 4, 3) := by decide +kernel
theorem dX8_latitude_18 : decode cX8_latitude 18 = .ok (.iconst 1, 1) := by decide +kernel
theorem dX8_latitude_19 : decode cX8_latitude 19 = .ok (.putfield 85, 3) := by decide +kernel
theorem dX8_latitude_22 : decode cX8_latitude 22 = .ok (.bipush (-90), 2) := by decide +kernel
theorem dX8_latitude_24 : decode cX8_latitude 24 = .ok (.istore_n 2, 1) := by decide +kernel
theorem dX8_latitude_25 : decode cX8_latitude 25 = .ok (.fconst 0, 1) := by decide +kernel
theorem dX8_latitude_26 : decode cX8_latitude 26 = .ok (.fstore_n 3, 1) := by decide +kernel
theorem dX8_latitude_27 : decode cX8_latitude 27 = .ok (.bipush (-90), 2) := by decide +kernel
theorem dX8_latitude_29 : decode cX8_latitude 29 = .ok (.istore 4, 2) := by decide +kernel
theorem dX8_latitude_31 : decode cX8_latitude 31 = .ok (.iload 4, 2) := by decide +kernel
theorem dX8_latitude_33 : decode cX8_latitude 33 = .ok (.bipush 90, 2) := by decide +kernel
theorem dX8_latitude_35 : decode cX8_latitude 35 = .ok (.if_icmp .gt 91, 3) := by decide +kernel
theorem dX8_latitude_38 : decode cX8_latitude 38 = .ok (.aload_n 0, 1) := by decide +kernel
theorem dX8_latitude_39 : decode cX8_latitude 39 = .ok (.getfield 85, 3) := by decide +kernel
theorem dX8_latitude_42 : decode cX8_latitude 42 = .ok (.ifCond .ne 84, 3) := by decide +kernel
theorem dX8_latitude_45 : decode cX8_latitude 45 = .ok (.iload 4, 2) := by decide +kernel
theorem dX8_latitude_47 : decode cX8_latitude 47 = .ok (.bipush 60, 2) := by decide +kernel
theorem dX8_latitude_49 : decode cX8_latitude 49 = .ok (.invokestatic 203, 3) := by decide +kernel
theorem dX8_latitude_52 : decode cX8_latitude 52 = .ok (.ldc 207, 2) := by decide +kernel
theorem dX8_latitude_54 : decode cX8_latitude 54 = .ok (.fmul, 1) := by decide +kernel
theorem dX8_latitude_55 : decode cX8_latitude 55 = .ok (.iload_n 1, 1) := by decide +kernel
theorem dX8_latitude_56 : decode cX8_latitude 56 = .ok (.i2f, 1) := by decide +kernel
theorem dX8_latitude_57 : decode cX8_latitude 57 = .ok (.fsub, 1) := by decide +kernel
theorem dX8_latitude_58 : decode cX8_latitude 58 = .ok (.fstore 5, 2) := by decide +kernel
theorem dX8_latitude_60 : decode cX8_latitude 60 = .ok (.fload 5, 2) := by decide +kernel
theorem dX8_latitude_62 : decode cX8_latitude 62 = .ok (.fconst 0, 1) := by decide +kernel
theorem dX8_latitude_63 : decode cX8_latitude 63 = .ok (.fcmp .g, 1) := by decide +kernel
theorem dX8_latitude_64 : decode cX8_latitude 64 = .ok (.ifCond .ge 10, 3) := by decide +kernel
theorem dX8_latitude_67 : decode cX8_latitude 67 = .ok (.fconst 0, 1) := by decide +kernel
theorem dX8_latitude_68 : decode cX8_latitude 68 = .ok (.fload 5, 2) := by decide +kernel
theorem dX8_latitude_70 : decode cX8_latitude 70 = .ok (.fsub, 1) := by decide +kernel
theorem dX8_latitude_71 : decode cX8_latitude 71 = .ok (.goto 5, 3) := by decide +kernel
theorem dX8_latitude_74 : decode cX8_latitude 74 = .ok (.fload 5, 2) := by decide +kernel
theorem dX8_latitude_76 : decode cX8_latitude 76 = .ok (.fstore 5, 2) := by decide +kernel
theorem dX8_latitude_78 : decode cX8_latitude 78 = .ok (.iload 4, 2) := by decide +kernel
theorem dX8_latitude_80 : decode cX8_latitude 80 = .ok (.bipush (-90), 2) := by decide +kernel
theorem dX8_latitude_82 : decode cX8_latitude 82 = .ok (.if_icmp .eq 10, 3) := by decide +kernel
theorem dX8_latitude_85 : decode cX8_latitude 85 = .ok (.fload 5, 2) := by decide +kernel
theorem dX8_latitude_87 : decode cX8_latitude 87 = .ok (.fload_n 3, 1) := by decide +kernel
theorem dX8_latitude_88 : decode cX8_latitude 88 = .ok (.fcmp .g, 1) := by decide +kernel
theorem dX8_latitude_89 : decode cX8_latitude 89 = .ok (.ifCond .ge 8, 3) := by decide +kernel
theorem dX8_latitude_92 : decode cX8_latitude 92 = .ok (.iload 4, 2) := by decide +kernel
theorem dX8_latitude_94 : decode cX8_latitude 94 = .ok (.goto 4, 3) := by decide +kernel
theorem dX8_latitude_97 : decode cX8_latitude 97 = .ok (.iload_n 2, 1) := by decide +kernel
theorem dX8_latitude_98 : decode cX8_latitude 98 = .ok (.istore_n 2, 1) := by decide +kernel
theorem dX8_latitude_99 : decode cX8_latitude 99 = .ok (.iload 4, 2) := by decide +kernel
theorem dX8_latitude_101 : decode cX8_latitude 101 = .ok (.bipush (-90), 2) := by decide +kernel
theorem dX8_latitude_103 : decode cX8_latitude 103 = .ok (.if_icmp .eq 10, 3) := by decide +kernel
theorem dX8_latitude_106 : decode cX8_latitude 106 = .ok (.fload 5, 2) := by decide +kernel
theorem dX8_latitude_108 : decode cX8_latitude 108 = .ok (.fload_n 3, 1) := by decide +kernel
theorem dX8_latitude_109 : decode cX8_latitude 109 = .ok (.fcmp .g, 1) := by decide +kernel
theorem dX8_latitude_110 : decode cX8_latitude 110 = .ok (.ifCond .ge 8, 3) := by decide +kernel
theorem dX8_latitude_113 : decode cX8_latitude 113 = .ok (.fload 5, 2) := by decide +kernel
theorem dX8_latitude_115 : decode cX8_latitude 115 = .ok (.goto 4, 3) := by decide +kernel
theorem dX8_latitude_118 : decode cX8_latitude 118 = .ok (.fload_n 3, 1) := by decide +kernel
theorem dX8_latitude_119 : decode cX8_latitude 119 = .ok (.fstore_n 3, 1) := by decide +kernel
theorem dX8_latitude_120 : decode cX8_latitude 120 = .ok (.iinc 4 1, 3) := by decide +kernel
theorem dX8_latitude_123 : decode cX8_latitude 123 = .ok (.goto (-92), 3) := by decide +kernel
theorem dX8_latitude_126 : decode cX8_latitude 126 = .ok (.aload_n 0, 1) := by decide +kernel
theorem dX8_latitude_127 : decode cX8_latitude 127 = .ok (.getfield 85, 3) := by decide +kernel
theorem dX8_latitude_130 : decode cX8_latitude 130 = .ok (.ifCond .le 7, 3) := by decide +kernel
theorem dX8_latitude_133 : decode cX8_latitude 133 = .ok (.iconst 0, 1) := by decide +kernel
theorem dX8_latitude_134 : decode cX8_latitude 134 = .ok (.goto 4, 3) := by decide +kernel
theorem dX8_latitude_137 : decode cX8_latitude 137 = .ok (.iload_n 2, 1) := by decide +kernel
theorem dX8_latitude_138 : decode cX8_latitude 138 = .ok (.ireturn, 1) := by decide +kernel
theorem dX8_shake_0 : decode cX8_shake 0 = .ok (.iload_n 0, 1) := by decide +kernel
theorem dX8_shake_1 : decode cX8_shake 1 = .ok (.bipush 32, 2) := by decide +kernel
theorem dX8_shake_3 : decode cX8_shake 3 = .ok (.if_icmp .ge 15, 3) := by decide +kernel
theorem dX8_shake_6 : decode cX8_shake 6 = .ok (.iload_n 0, 1) := by decide +kernel
theorem dX8_shake_7 : decode cX8_shake 7 = .ok (.bipush 32, 2) := by decide +kernel
theorem dX8_shake_9 : decode cX8_shake 9 = .ok (.iload_n 0, 1) := by decide +kernel
theorem dX8_shake_10 : decode cX8_shake 10 = .ok (.isub, 1) := by decide +kernel
theorem dX8_shake_11 : decode cX8_shake 11 = .ok (.imul, 1) := by decide +kernel
theorem dX8_shake_12 : decode cX8_shake 12 = .ok (.bipush 8, 2) := by decide +kernel
theorem dX8_shake_14 : decode cX8_shake 14 = .ok (.idiv, 1) := by decide +kernel
theorem dX8_shake_15 : decode cX8_shake 15 = .ok (.goto 16, 3) := by decide +kernel
theorem dX8_shake_18 : decode cX8_shake 18 = .ok (.iload_n 0, 1) := by decide +kernel
theorem dX8_shake_19 : decode cX8_shake 19 = .ok (.bipush 32, 2) := by decide +kernel
theorem dX8_shake_21 : decode cX8_shake 21 = .ok (.isub, 1) := by decide +kernel
theorem dX8_shake_22 : decode cX8_shake 22 = .ok (.bipush 64, 2) := by decide +kernel
theorem dX8_shake_24 : decode cX8_shake 24 = .ok (.iload_n 0, 1) := by decide +kernel
theorem dX8_shake_25 : decode cX8_shake 25 = .ok (.isub, 1) := by decide +kernel
theorem dX8_shake_26 : decode cX8_shake 26 = .ok (.imul, 1) := by decide +kernel
theorem dX8_shake_27 : decode cX8_shake 27 = .ok (.bipush 8, 2) := by decide +kernel
theorem dX8_shake_29 : decode cX8_shake 29 = .ok (.idiv, 1) := by decide +kernel
theorem dX8_shake_30 : decode cX8_shake 30 = .ok (.ineg, 1) := by decide +kernel
theorem dX8_shake_31 : decode cX8_shake 31 = .ok (.ireturn, 1) := by decide +kernel
set_option maxRecDepth 20000 in
theorem ggX8_kick_X8_shake : GoodIn wsX8_kick wsX8_shake := goodIn_r _ [5] (by decide +kernel) (by decide +kernel)
set_option maxRecDepth 20000 in
theorem gX8_kick_X8_shake : GoodIn wsX8_kick (va_wsS RX8 208 yX8_shake wsX8_shake) := goodIn_app (goodIn_of _ (by decide +kernel)) ggX8_kick_X8_shake
set_option maxRecDepth 20000 in
theorem ggX8_kick_X8_floor : GoodIn wsX8_kick wsX8_floor := goodIn_r _ [8] (by decide +kernel) (by decide +kernel)
set_option maxRecDepth 20000 in
theorem gX8_kick_X8_floor : GoodIn wsX8_kick (va_wsS RX8 105 yX8_floor wsX8_floor) := goodIn_app (goodIn_of _ (by decide +kernel)) ggX8_kick_X8_floor
theorem dX8_kick_0 : decode cX8_kick 0 = .ok (.iload_n 1, 1) := by decide +kernel
theorem dX8_kick_1 : decode cX8_kick 1 = .ok (.iload_n 0, 1) := by decide +kernel
theorem dX8_kick_2 : decode cX8_kick 2 = .ok (.invokestatic 208, 3) := by decide +kernel
theorem dX8_kick_5 : decode cX8_kick 5 = .ok (.imul, 1) := by decide +kernel
theorem dX8_kick_6 : decode cX8_kick 6 = .ok (.i2l, 1) := by decide +kernel
theorem dX8_kick_7 : decode cX8_kick 7 = .ok (.ldc2_w 211, 3) := by decide +kernel
theorem dX8_kick_10 : decode cX8_kick 10 = .ok (.invokestatic 105, 3) := by decide +kernel
theorem dX8_kick_13 : decode cX8_kick 13 = .ok (.l2i, 1) := by decide +kernel
theorem dX8_kick_14 : decode cX8_kick 14 = .ok (.ireturn, 1) := by decide +kernel
set_option maxRecDepth 20000 in
theorem ggX8_moved_X8_kick : GoodIn wsX8_moved wsX8_kick := goodIn_r _ [4, 5, 6, 7, 3, 8, 9, 10, 11] (by decide +kernel) (by decide +kernel)
set_option maxRecDepth 20000 in
theorem gX8_moved_X8_kick : GoodIn wsX8_moved (va_wsS RX8 213 yX8_kick wsX8_kick) := goodIn_app (goodIn_of _ (by decide +kernel)) ggX8_moved_X8_kick
set_option maxRecDepth 20000 in
theorem ggX8_moved_X8_rest : GoodIn wsX8_moved wsX8_rest := goodIn_r _ [14] (by decide +kernel) (by decide +kernel)
set_option maxRecDepth 20000 in
theorem gX8_moved_X8_rest : GoodIn wsX8_moved (va_wsS RX8 150 yX8_rest wsX8_rest) := goodIn_app (goodIn_of _ (by decide +kernel)) ggX8_moved_X8_rest
theorem dX8_moved_0 : decode cX8_moved 0 = .ok (.iload_n 0, 1) := by decide +kernel
theorem dX8_moved_1 : decode cX8_moved 1 = .ok (.bipush 64, 2) := by decide +kernel
theorem dX8_moved_3 : decode cX8_moved 3 = .ok (.irem, 1) := by decide +kernel
theorem dX8_moved_4 : decode cX8_moved 4 = .ok (.iload_n 0, 1) := by decide +kernel
theorem dX8_moved_5 : decode cX8_moved 5 = .ok (.bipush 64, 2) := by decide +kernel
theorem dX8_moved_7 : decode cX8_moved 7 = .ok (.idiv, 1) := by decide +kernel
theorem dX8_moved_8 : decode cX8_moved 8 = .ok (.iload_n 1, 1) := by decide +kernel
theorem dX8_moved_9 : decode cX8_moved 9 = .ok (.invokestatic 213, 3) := by decide +kernel
theorem dX8_moved_12 : decode cX8_moved 12 = .ok (.iadd, 1) := by decide +kernel
theorem dX8_moved_13 : decode cX8_moved 13 = .ok (.bipush 64, 2) := by decide +kernel
theorem dX8_moved_15 : decode cX8_moved 15 = .ok (.invokestatic 150, 3) := by decide +kernel
theorem dX8_moved_18 : decode cX8_moved 18 = .ok (.istore_n 2, 1) := by decide +kernel
theorem dX8_moved_19 : decode cX8_moved 19 = .ok (.bipush 64, 2) := by decide +kernel
theorem dX8_moved_21 : decode cX8_moved 21 = .ok (.iload_n 0, 1) := by decide +kernel
theorem dX8_moved_22 : decode cX8_moved 22 = .ok (.bipush 64, 2) := by decide +kernel
theorem dX8_moved_24 : decode cX8_moved 24 = .ok (.idiv, 1) := by decide +kernel
theorem dX8_moved_25 : decode cX8_moved 25 = .ok (.iload_n 2, 1) := by decide +kernel
theorem dX8_moved_26 : decode cX8_moved 26 = .ok (.iadd, 1) := by decide +kernel
theorem dX8_moved_27 : decode cX8_moved 27 = .ok (.bipush 64, 2) := by decide +kernel
theorem dX8_moved_29 : decode cX8_moved 29 = .ok (.invokestatic 150, 3) := by decide +kernel
theorem dX8_moved_32 : decode cX8_moved 32 = .ok (.imul, 1) := by decide +kernel
theorem dX8_moved_33 : decode cX8_moved 33 = .ok (.iload_n 2, 1) := by decide +kernel
theorem dX8_moved_34 : decode cX8_moved 34 = .ok (.iadd, 1) := by decide +kernel
theorem dX8_moved_35 : decode cX8_moved 35 = .ok (.ireturn, 1) := by decide +kernel
set_option maxRecDepth 20000 in
theorem ggX8_undone_X8_rest : GoodIn wsX8_undone wsX8_rest := goodIn_r _ [4] (by decide +kernel) (by decide +kernel)
set_option maxRecDepth 20000 in
theorem gX8_undone_X8_rest : GoodIn wsX8_undone (va_wsS RX8 150 yX8_rest wsX8_rest) := goodIn_app (goodIn_of _ (by decide +kernel)) ggX8_undone_X8_rest
set_option maxRecDepth 20000 in
theorem ggX8_undone_X8_kick : GoodIn wsX8_undone wsX8_kick := goodIn_r _ [7, 8, 9, 10, 3, 11, 12, 13, 14] (by decide +kernel) (by decide +kernel)
set_option maxRecDepth 20000 in
theorem gX8_undone_X8_kick : GoodIn wsX8_undone (va_wsS RX8 213 yX8_kick wsX8_kick) := goodIn_app (goodIn_of _ (by decide +kernel)) ggX8_undone_X8_kick
theorem dX8_undone_0 : decode cX8_undone 0 = .ok (.iload_n 0, 1) := by decide +kernel
theorem dX8_undone_1 : decode cX8_undone 1 = .ok (.bipush 64, 2) := by decide +kernel
theorem dX8_undone_3 : decode cX8_undone 3 = .ok (.idiv, 1) := by decide +kernel
theorem dX8_undone_4 : decode cX8_undone 4 = .ok (.iload_n 0, 1) := by decide +kernel
theorem dX8_undone_5 : decode cX8_undone 5 = .ok (.bipush 64, 2) := by decide +kernel
theorem dX8_undone_7 : decode cX8_undone 7 = .ok (.irem, 1) := by decide +kernel
theorem dX8_undone_8 : decode cX8_undone 8 = .ok (.isub, 1) := by decide +kernel
theorem dX8_undone_9 : decode cX8_undone 9 = .ok (.bipush 64, 2) := by decide +kernel
theorem dX8_undone_11 : decode cX8_undone 11 = .ok (.invokestatic 150, 3) := by decide +kernel
theorem dX8_undone_14 : decode cX8_undone 14 = .ok (.istore_n 2, 1) := by decide +kernel
theorem dX8_undone_15 : decode cX8_undone 15 = .ok (.bipush 64, 2) := by decide +kernel
theorem dX8_undone_17 : decode cX8_undone 17 = .ok (.iload_n 2, 1) := by decide +kernel
theorem dX8_undone_18 : decode cX8_undone 18 = .ok (.imul, 1) := by decide +kernel
theorem dX8_undone_19 : decode cX8_undone 19 = .ok (.iload_n 0, 1) := by decide +kernel
theorem dX8_undone_20 : decode cX8_undone 20 = .ok (.bipush 64, 2) := by decide +kernel
theorem dX8_undone_22 : decode cX8_undone 22 = .ok (.irem, 1) := by decide +kernel
theorem dX8_undone_23 : decode cX8_undone 23 = .ok (.iload_n 2, 1) := by decide +kernel
theorem dX8_undone_24 : decode cX8_undone 24 = .ok (.iload_n 1, 1) := by decide +kernel
theorem dX8_undone_25 : decode cX8_undone 25 = .ok (.invokestatic 213, 3) := by decide +kernel
theorem dX8_undone_28 : decode cX8_undone 28 = .ok (.isub, 1) := by decide +kernel
theorem dX8_undone_29 : decode cX8_undone 29 = .ok (.bipush 64, 2) := by decide +kernel
theorem dX8_undone_31 : decode cX8_undone 31 = .ok (.invokestatic 150, 3) := by decide +kernel
theorem dX8_undone_34 : decode cX8_undone 34 = .ok (.iadd, 1) := by decide +kernel
theorem dX8_undone_35 : decode cX8_undone 35 = .ok (.ireturn, 1) := by decide +kernel
set_option maxRecDepth 20000 in
theorem ggX8_isState_X8_isIn : GoodIn wsX8_isState wsX8_isIn := goodIn_r _ [4] (by decide +kernel) (by decide +kernel)
set_option maxRecDepth 20000 in
theorem gX8_isState_X8_isIn : GoodIn wsX8_isState (va_wsS RX8 91 yX8_isIn wsX8_isIn) := goodIn_app (goodIn_of _ (by decide +kernel)) ggX8_isState_X8_isIn
theorem dX8_isState_0 : decode cX8_isState 0 = .ok (.iload_n 0, 1) := by decide +kernel
theorem dX8_isState_1 : decode cX8_isState 1 = .ok (.iconst 0, 1) := by decide +kernel
theorem dX8_isState_2 : decode cX8_isState 2 = .ok (.bipush 63, 2) := by decide +kernel
theorem dX8_isState_4 : decode cX8_isState 4 = .ok (.invokestatic 91, 3) := by decide +kernel
theorem dX8_isState_7 : decode cX8_isState 7 = .ok (.ifCond .eq 28, 3) := by decide +kernel
theorem dX8_isState_10 : decode cX8_isState 10 = .ok (.iload_n 1, 1) := by decide +kernel
theorem dX8_isState_11 : decode cX8_isState 11 = .ok (.iconst 0, 1) := by decide +kernel
theorem dX8_isState_12 : decode cX8_isState 12 = .ok (.bipush 63, 2) := by decide +kernel
theorem dX8_isState_14 : decode cX8_isState 14 = .ok (.invokestatic 91, 3) := by decide +kernel
theorem dX8_isState_17 : decode cX8_isState 17 = .ok (.ifCond .eq 18, 3) := by decide +kernel
theorem dX8_isState_20 : decode cX8_isState 20 = .ok (.iload_n 2, 1) := by decide +kernel
theorem dX8_isState_21 : decode cX8_isState 21 = .ok (.iconst 0, 1) := by decide +kernel
theorem dX8_isState_22 : decode cX8_isState 22 = .ok (.sipush 200, 3) := by decide +kernel
theorem dX8_isState_25 : decode cX8_isState 25 = .ok (.invokestatic 91, 3) := by decide +kernel
theorem dX8_isState_28 : decode cX8_isState 28 = .ok (.ifCond .eq 7, 3) := by decide +kernel
theorem dX8_isState_31 : decode cX8_isState 31 = .ok (.iconst 1, 1) := by decide +kernel
theorem dX8_isState_32 : decode cX8_isState 32 = .ok (.goto 4, 3) := by decide +kernel
theorem dX8_isState_35 : decode cX8_isState 35 = .ok (.iconst 0, 1) := by decide +kernel
theorem dX8_isState_36 : decode cX8_isState 36 = .ok (.ireturn, 1) := by decide +kernel
set_option maxRecDepth 20000 in
theorem ggX8_driven_X8_isState : GoodIn wsX8_driven wsX8_isState := goodIn_r _ [5, 6, 7, 4, 8] (by decide +kernel) (by decide +kernel)
set_option maxRecDepth 20000 in
theorem gX8_driven_X8_isState : GoodIn wsX8_driven (va_wsS RX8 216 yX8_isState wsX8_isState) := goodIn_app (goodIn_of _ (by decide +kernel)) ggX8_driven_X8_isState
set_option maxRecDepth 20000 in
theorem ggX8_driven_X8_isIn : GoodIn wsX8_driven wsX8_isIn := goodIn_r _ [8] (by decide +kernel) (by decide +kernel)
set_option maxRecDepth 20000 in
theorem gX8_driven_X8_isIn : GoodIn wsX8_driven (va_wsS RX8 91 yX8_isIn wsX8_isIn) := goodIn_app (goodIn_of _ (by decide +kernel)) ggX8_driven_X8_isIn
set_option maxRecDepth 20000 in
theorem ggX8_driven_X8_moved : GoodIn wsX8_driven wsX8_moved := goodIn_r _ [11, 12, 13, 4, 14, 15, 16, 17, 18, 19, 20, 21, 22, 23, 24] (by decide +kernel) (by decide +kernel)
set_option maxRecDepth 20000 in
theorem gX8_driven_X8_moved : GoodIn wsX8_driven (va_wsS RX8 219 yX8_moved wsX8_moved) := goodIn_app (goodIn_of _ (by decide +kernel)) ggX8_driven_X8_moved
set_option maxRecDepth 20000 in
theorem ggX8_driven_X8_undone : GoodIn wsX8_driven wsX8_undone := goodIn_r _ [27, 22, 23, 4, 24, 12, 13, 14, 15, 16, 17, 18, 19, 20, 21] (by decide +kernel) (by decide +kernel)
set_option maxRecDepth 20000 in
theorem gX8_driven_X8_undone : GoodIn wsX8_driven (va_wsS RX8 222 yX8_undone wsX8_undone) := goodIn_app (goodIn_of _ (by decide +kernel)) ggX8_driven_X8_undone
theorem dX8_driven_0 : decode cX8_driven 0 = .ok (.aload_n 0, 1) := by decide +kernel
theorem dX8_driven_1 : decode cX8_driven 1 = .ok (.iload_n 1, 1) := by decide +kernel
theorem dX8_driven_2 : decode cX8_driven 2 = .ok (.iload_n 2, 1) := by decide +kernel
theorem dX8_driven_3 : decode cX8_driven 3 = .ok (.iload_n 3, 1) := by decide +kernel
theorem dX8_driven_4 : decode cX8_driven 4 = .ok (.invokestatic 216, 3) := by decide +kernel
theorem dX8_driven_7 : decode cX8_driven 7 = .ok (.ifCond .eq 21, 3) := by decide +kernel
theorem dX8_driven_10 : decode cX8_driven 10 = .ok (.iload 4, 2) := by decide +kernel
theorem dX8_driven_12 : decode cX8_driven 12 = .ok (.sipush (-10000), 3) := by decide +kernel
theorem dX8_driven_15 : decode cX8_driven 15 = .ok (.sipush 10000, 3) := by decide +kernel
theorem dX8_driven_18 : decode cX8_driven 18 = .ok (.invokestatic 91, 3) := by decide +kernel
theorem dX8_driven_21 : decode cX8_driven 21 = .ok (.ifCond .eq 7, 3) := by decide +kernel
theorem dX8_driven_24 : decode cX8_driven 24 = .ok (.iconst 0, 1) := by decide +kernel
theorem dX8_driven_25 : decode cX8_driven 25 = .ok (.goto 4, 3) := by decide +kernel
theorem dX8_driven_28 : decode cX8_driven 28 = .ok (.iconst 1, 1) := by decide +kernel
theorem dX8_driven_29 : decode cX8_driven 29 = .ok (.putfield 85, 3) := by decide +kernel
theorem dX8_driven_32 : decode cX8_driven 32 = .ok (.aload_n 0, 1) := by decide +kernel
theorem dX8_driven_33 : decode cX8_driven 33 = .ok (.getfield 85, 3) := by decide +kernel
theorem dX8_driven_36 : decode cX8_driven 36 = .ok (.ifCond .le 5, 3) := by decide +kernel
theorem dX8_driven_39 : decode cX8_driven 39 = .ok (.iconst 0, 1) := by decide +kernel
theorem dX8_driven_40 : decode cX8_driven 40 = .ok (.ireturn, 1) := by decide +kernel
theorem dX8_driven_41 : decode cX8_driven 41 = .ok (.bipush 64, 2) := by decide +kernel
theorem dX8_driven_43 : decode cX8_driven 43 = .ok (.iload_n 1, 1) := by decide +kernel
theorem dX8_driven_44 : decode cX8_driven 44 = .ok (.imul, 1) := by decide +kernel
theorem dX8_driven_45 : decode cX8_driven 45 = .ok (.iload_n 2, 1) := by decide +kernel
theorem dX8_driven_46 : decode cX8_driven 46 = .ok (.iadd, 1) := by decide +kernel
theorem dX8_driven_47 : decode cX8_driven 47 = .ok (.istore 5, 2) := by decide +kernel
theorem dX8_driven_49 : decode cX8_driven 49 = .ok (.iconst 0, 1) := by decide +kernel
theorem dX8_driven_50 : decode cX8_driven 50 = .ok (.istore 6, 2) := by decide +kernel
theorem dX8_driven_52 : decode cX8_driven 52 = .ok (.iload 6, 2) := by decide +kernel
theorem dX8_driven_54 : decode cX8_driven 54 = .ok (.iload 4, 2) := by decide +kernel
theorem dX8_driven_56 : decode cX8_driven 56 = .ok (.if_icmp .ge 17, 3) := by decide +kernel
theorem dX8_driven_59 : decode cX8_driven 59 = .ok (.iload 5, 2) := by decide +kernel
theorem dX8_driven_61 : decode cX8_driven 61 = .ok (.iload_n 3, 1) := by decide +kernel
theorem dX8_driven_62 : decode cX8_driven 62 = .ok (.invokestatic 219, 3) := by decide +kernel
theorem dX8_driven_65 : decode cX8_driven 65 = .ok (.istore 5, 2) := by decide +kernel
theorem dX8_driven_67 : decode cX8_driven 67 = .ok (.iinc 6 1, 3) := by decide +kernel
theorem dX8_driven_70 : decode cX8_driven 70 = .ok (.goto (-18), 3) := by decide +kernel
theorem dX8_driven_73 : decode cX8_driven 73 = .ok (.iconst 0, 1) := by decide +kernel
theorem dX8_driven_74 : decode cX8_driven 74 = .ok (.istore 6, 2) := by decide +kernel
theorem dX8_driven_76 : decode cX8_driven 76 = .ok (.iload 6, 2) := by decide +kernel
theorem dX8_driven_78 : decode cX8_driven 78 = .ok (.iload 4, 2) := by decide +kernel
theorem dX8_driven_80 : decode cX8_driven 80 = .ok (.if_icmp .le 17, 3) := by decide +kernel
theorem dX8_driven_83 : decode cX8_driven 83 = .ok (.iload 5, 2) := by decide +kernel
theorem dX8_driven_85 : decode cX8_driven 85 = .ok (.iload_n 3, 1) := by decide +kernel
theorem dX8_driven_86 : decode cX8_driven 86 = .ok (.invokestatic 222, 3) := by decide +kernel
theorem dX8_driven_89 : decode cX8_driven 89 = .ok (.istore 5, 2) := by decide +kernel
theorem dX8_driven_91 : decode cX8_driven 91 = .ok (.iinc 6 (-1), 3) := by decide +kernel
theorem dX8_driven_94 : decode cX8_driven 94 = .ok (.goto (-18), 3) := by decide +kernel
theorem dX8_driven_97 : decode cX8_driven 97 = .ok (.iload 5, 2) := by decide +kernel
theorem dX8_driven_99 : decode cX8_driven 99 = .ok (.ireturn, 1) := by decide +kernel
set_option maxRecDepth 20000 in
theorem ggX8_through_X8_moved : GoodIn wsX8_through wsX8_moved := goodIn_r _ [5, 6, 7, 4, 8, 9, 10, 11, 12, 13, 14, 15, 16, 17, 18] (by decide +kernel) (by decide +kernel)
set_option maxRecDepth 20000 in
theorem gX8_through_X8_moved : GoodIn wsX8_through (va_wsS RX8 219 yX8_moved wsX8_moved) := goodIn_app (goodIn_of _ (by decide +kernel)) ggX8_through_X8_moved
theorem dX8_through_0 : decode cX8_through 0 = .ok (.iconst 0, 1) := by decide +kernel
theorem dX8_through_1 : decode cX8_through 1 = .ok (.istore_n 3, 1) := by decide +kernel
theorem dX8_through_2 : decode cX8_through 2 = .ok (.iload_n 1, 1) := by decide +kernel
theorem dX8_through_3 : decode cX8_through 3 = .ok (.istore 4, 2) := by decide +kernel
theorem dX8_through_5 : decode cX8_through 5 = .ok (.aload_n 0, 1) := by decide +kernel
theorem dX8_through_6 : decode cX8_through 6 = .ok (.getfield 67, 3) := by decide +kernel
theorem dX8_through_9 : decode cX8_through 9 = .ok (.iload 4, 2) := by decide +kernel
theorem dX8_through_11 : decode cX8_through 11 = .ok (.baload, 1) := by decide +kernel
theorem dX8_through_12 : decode cX8_through 12 = .ok (.ifCond .ne 25, 3) := by decide +kernel
theorem dX8_through_15 : decode cX8_through 15 = .ok (.aload_n 0, 1) := by decide +kernel
theorem dX8_through_16 : decode cX8_through 16 = .ok (.getfield 67, 3) := by decide +kernel
theorem dX8_through_19 : decode cX8_through 19 = .ok (.iload 4, 2) := by decide +kernel
theorem dX8_through_21 : decode cX8_through 21 = .ok (.iconst 1, 1) := by decide +kernel
theorem dX8_through_22 : decode cX8_through 22 = .ok (.bastore, 1) := by decide +kernel
theorem dX8_through_23 : decode cX8_through 23 = .ok (.iload 4, 2) := by decide +kernel
theorem dX8_through_25 : decode cX8_through 25 = .ok (.iload_n 2, 1) := by decide +kernel
theorem dX8_through_26 : decode cX8_through 26 = .ok (.invokestatic 219, 3) := by decide +kernel
theorem dX8_through_29 : decode cX8_through 29 = .ok (.istore 4, 2) := by decide +kernel
theorem dX8_through_31 : decode cX8_through 31 = .ok (.iinc 3 1, 3) := by decide +kernel
theorem dX8_through_34 : decode cX8_through 34 = .ok (.goto (-29), 3) := by decide +kernel
theorem dX8_through_37 : decode cX8_through 37 = .ok (.iload_n 3, 1) := by decide +kernel
theorem dX8_through_38 : decode cX8_through 38 = .ok (.ireturn, 1) := by decide +kernel
theorem dX8_none_0 : decode cX8_none 0 = .ok (.iconst 0, 1) := by decide +kernel
theorem dX8_none_1 : decode cX8_none 1 = .ok (.istore_n 1, 1) := by decide +kernel
theorem dX8_none_2 : decode cX8_none 2 = .ok (.iload_n 1, 1) := by decide +kernel
theorem dX8_none_3 : decode cX8_none 3 = .ok (.sipush 4096, 3) := by decide +kernel
theorem dX8_none_6 : decode cX8_none 6 = .ok (.if_icmp .ge 16, 3) := by decide +kernel
theorem dX8_none_9 : decode cX8_none 9 = .ok (.aload_n 0, 1) := by decide +kernel
theorem dX8_none_10 : decode cX8_none 10 = .ok (.getfield 67, 3) := by decide +kernel
theorem dX8_none_13 : decode cX8_none 13 = .ok (.iload_n 1, 1) := by decide +kernel
theorem dX8_none_14 : decode cX8_none 14 = .ok (.iconst 0, 1) := by decide +kernel
theorem dX8_none_15 : decode cX8_none 15 = .ok (.bastore, 1) := by decide +kernel
theorem dX8_none_16 : decode cX8_none 16 = .ok (.iinc 1 1, 3) := by decide +kernel
theorem dX8_none_19 : decode cX8_none 19 = .ok (.goto (-17), 3) := by decide +kernel
theorem dX8_none_22 : decode cX8_none 22 = .ok (.return_, 1) := by decide +kernel
set_option maxRecDepth 20000 in
theorem ggX8_returns_X8_isState : GoodIn wsX8_returns wsX8_isState := goodIn_r _ [5, 6, 7, 4, 8] (by decide +kernel) (by decide +kernel)
set_option maxRecDepth 20000 in
theorem gX8_returns_X8_isState : GoodIn wsX8_returns (va_wsS RX8 216 yX8_isState wsX8_isState) := goodIn_app (goodIn_of _ (by decide +kernel)) ggX8_returns_X8_isState
set_option maxRecDepth 20000 in
theorem ggX8_returns_X8_none : GoodIn wsX8_returns wsX8_none := goodIn_r _ [12, 13, 34, 35, 36, 37, 38, 39, 40, 41, 42, 43, 44, 45, 46, 47, 48, 49, 50, 51, 52, 53, 54, 55, 56, 57, 58, 59, 60, 61, 62, 63, 64, 65, 66, 67, 68, 69, 70, 71] (by decide +kernel) (by decide +kernel)
set_option maxRecDepth 20000 in
theorem gX8_returns_X8_none : GoodIn wsX8_returns (wsV RX8 225 RX8 yX8_none wsX8_none) := goodIn_app (goodIn_of _ (by decide +kernel)) ggX8_returns_X8_none
set_option maxRecDepth 20000 in
theorem ggX8_returns_X8_through : GoodIn wsX8_returns wsX8_through := goodIn_r _ [17, 13, 18, 19, 4, 20, 21, 22, 23, 24, 25, 26, 27, 28, 29, 30, 31, 32, 33, 34, 35, 36, 37, 38, 39, 40, 41, 42, 43, 44, 45, 46, 47, 48, 49, 50, 51, 52, 53, 54, 55, 56, 57, 58, 59, 60, 61, 62, 63, 64, 65, 66, 67, 68, 69, 70, 71] (by decide +kernel) (by decide +kernel)
set_option maxRecDepth 20000 in
theorem gX8_returns_X8_through : GoodIn wsX8_returns (wsV RX8 228 RX8 yX8_through wsX8_through) := goodIn_app (goodIn_of _ (by decide +kernel)) ggX8_returns_X8_through
theorem dX8_returns_0 : decode cX8_returns 0 = .ok (.aload_n 0, 1) := by decide +kernel
theorem dX8_returns_1 : decode cX8_returns 1 = .ok (.iload_n 1, 1) := by decide +kernel
theorem dX8_returns_2 : decode cX8_returns 2 = .ok (.iload_n 2, 1) := by decide +kernel
theorem dX8_returns_3 : decode cX8_returns 3 = .ok (.iload_n 3, 1) := by decide +kernel
theorem dX8_returns_4 : decode cX8_returns 4 = .ok (.invokestatic 216, 3) := by decide +kernel
theorem dX8_returns_7 : decode cX8_returns 7 = .ok (.ifCond .eq 7, 3) := by decide +kernel
theorem dX8_returns_10 : decode cX8_returns 10 = .ok (.iconst 0, 1) := by decide +kernel
theorem dX8_returns_11 : decode cX8_returns 11 = .ok (.goto 4, 3) := by decide +kernel
theorem dX8_returns_14 : decode cX8_returns 14 = .ok (.iconst 1, 1) := by decide +kernel
theorem dX8_returns_15 : decode cX8_returns 15 = .ok (.putfield 85, 3) := by decide +kernel
theorem dX8_returns_18 : decode cX8_returns 18 = .ok (.aload_n 0, 1) := by decide +kernel
theorem dX8_returns_19 : decode cX8_returns 19 = .ok (.getfield 85, 3) := by decide +kernel
theorem dX8_returns_22 : decode cX8_returns 22 = .ok (.ifCond .le 5, 3) := by decide +kernel
theorem dX8_returns_25 : decode cX8_returns 25 = .ok (.iconst 0, 1) := by decide +kernel
theorem dX8_returns_26 : decode cX8_returns 26 = .ok (.ireturn, 1) := by decide +kernel
theorem dX8_returns_27 : decode cX8_returns 27 = .ok (.aload_n 0, 1) := by decide +kernel
theorem dX8_returns_28 : decode cX8_returns 28 = .ok (.invokevirtual 225, 3) := by decide +kernel
theorem dX8_returns_31 : decode cX8_returns 31 = .ok (.aload_n 0, 1) := by decide +kernel
theorem dX8_returns_32 : decode cX8_returns 32 = .ok (.bipush 64, 2) := by decide +kernel
theorem dX8_returns_34 : decode cX8_returns 34 = .ok (.iload_n 1, 1) := by decide +kernel
theorem dX8_returns_35 : decode cX8_returns 35 = .ok (.imul, 1) := by decide +kernel
theorem dX8_returns_36 : decode cX8_returns 36 = .ok (.iload_n 2, 1) := by decide +kernel
theorem dX8_returns_37 : decode cX8_returns 37 = .ok (.iadd, 1) := by decide +kernel
theorem dX8_returns_38 : decode cX8_returns 38 = .ok (.iload_n 3, 1) := by decide +kernel
theorem dX8_returns_39 : decode cX8_returns 39 = .ok (.invokevirtual 228, 3) := by decide +kernel
theorem dX8_returns_42 : decode cX8_returns 42 = .ok (.ireturn, 1) := by decide +kernel
set_option maxRecDepth 20000 in
theorem ggX8_rounds_X8_isIn : GoodIn wsX8_rounds wsX8_isIn := goodIn_r _ [5] (by decide +kernel) (by decide +kernel)
set_option maxRecDepth 20000 in
theorem gX8_rounds_X8_isIn : GoodIn wsX8_rounds (va_wsS RX8 91 yX8_isIn wsX8_isIn) := goodIn_app (goodIn_of _ (by decide +kernel)) ggX8_rounds_X8_isIn
set_option maxRecDepth 20000 in
theorem ggX8_rounds_X8_none : GoodIn wsX8_rounds wsX8_none := goodIn_r _ [9, 10, 31, 32, 33, 34, 35, 36, 37, 38, 39, 40, 41, 42, 43, 44, 45, 46, 47, 48, 49, 50, 51, 52, 53, 54, 55, 56, 57, 58, 59, 60, 61, 62, 63, 64, 65, 66, 67, 68] (by decide +kernel) (by decide +kernel)
set_option maxRecDepth 20000 in
theorem gX8_rounds_X8_none : GoodIn wsX8_rounds (wsV RX8 225 RX8 yX8_none wsX8_none) := goodIn_app (goodIn_of _ (by decide +kernel)) ggX8_rounds_X8_none
set_option maxRecDepth 20000 in
theorem ggX8_rounds_X8_through : GoodIn wsX8_rounds wsX8_through := goodIn_r _ [14, 10, 15, 16, 4, 17, 18, 19, 20, 21, 22, 23, 24, 25, 26, 27, 28, 29, 30, 31, 32, 33, 34, 35, 36, 37, 38, 39, 40, 41, 42, 43, 44, 45, 46, 47, 48, 49, 50, 51, 52, 53, 54, 55, 56, 57, 58, 59, 60, 61, 62, 63, 64, 65, 66, 67, 68] (by decide +kernel) (by decide +kernel)
set_option maxRecDepth 20000 in
theorem gX8_rounds_X8_through : GoodIn wsX8_rounds (wsV RX8 228 RX8 yX8_through wsX8_through) := goodIn_app (goodIn_of _ (by decide +kernel)) ggX8_rounds_X8_through
theorem dX8_rounds_0 : decode cX8_rounds 0 = .ok (.aload_n 0, 1) := by decide +kernel
theorem dX8_rounds_1 : decode cX8_rounds 1 = .ok (.iload_n 1, 1) := by decide +kernel
theorem dX8_rounds_2 : decode cX8_rounds 2 = .ok (.iconst 0, 1) := by decide +kernel
theorem dX8_rounds_3 : decode cX8_rounds 3 = .ok (.sipush 200, 3) := by decide +kernel
theorem dX8_rounds_6 : decode cX8_rounds 6 = .ok (.invokestatic 91, 3) := by decide +kernel
theorem dX8_rounds_9 : decode cX8_rounds 9 = .ok (.ifCond .eq 23, 3) := by decide +kernel
theorem dX8_rounds_12 : decode cX8_rounds 12 = .ok (.iload_n 2, 1) := by decide +kernel
theorem dX8_rounds_13 : decode cX8_rounds 13 = .ok (.iconst (-1), 1) := by decide +kernel
theorem dX8_rounds_14 : decode cX8_rounds 14 = .ok (.if_icmp .eq 14, 3) := by decide +kernel
theorem dX8_rounds_17 : decode cX8_rounds 17 = .ok (.iload_n 2, 1) := by decide +kernel
theorem dX8_rounds_18 : decode cX8_rounds 18 = .ok (.iconst 1, 1) := by decide +kernel
theorem dX8_rounds_19 : decode cX8_rounds 19 = .ok (.sipush 4096, 3) := by decide +kernel
theorem dX8_rounds_22 : decode cX8_rounds 22 = .ok (.invokestatic 91, 3) := by decide +kernel
theorem dX8_rounds_25 : decode cX8_rounds 25 = .ok (.ifCond .eq 7, 3) := by decide +kernel
theorem dX8_rounds_28 : decode cX8_rounds 28 = .ok (.iconst 0, 1) := by decide +kernel
theorem dX8_rounds_29 : decode cX8_rounds 29 = .ok (.goto 4, 3) := by decide +kernel
theorem dX8_rounds_32 : decode cX8_rounds 32 = .ok (.iconst 1, 1) := by decide +kernel
theorem dX8_rounds_33 : decode cX8_rounds 33 = .ok (.putfield 85, 3) := by decide +kernel
theorem dX8_rounds_36 : decode cX8_rounds 36 = .ok (.aload_n 0, 1) := by decide +kernel
theorem dX8_rounds_37 : decode cX8_rounds 37 = .ok (.getfield 85, 3) := by decide +kernel
theorem dX8_rounds_40 : decode cX8_rounds 40 = .ok (.ifCond .le 5, 3) := by decide +kernel
theorem dX8_rounds_43 : decode cX8_rounds 43 = .ok (.iconst 0, 1) := by decide +kernel
theorem dX8_rounds_44 : decode cX8_rounds 44 = .ok (.ireturn, 1) := by decide +kernel
theorem dX8_rounds_45 : decode cX8_rounds 45 = .ok (.aload_n 0, 1) := by decide +kernel
theorem dX8_rounds_46 : decode cX8_rounds 46 = .ok (.invokevirtual 225, 3) := by decide +kernel
theorem dX8_rounds_49 : decode cX8_rounds 49 = .ok (.iconst 0, 1) := by decide +kernel
theorem dX8_rounds_50 : decode cX8_rounds 50 = .ok (.istore_n 3, 1) := by decide +kernel
theorem dX8_rounds_51 : decode cX8_rounds 51 = .ok (.iconst 0, 1) := by decide +kernel
theorem dX8_rounds_52 : decode cX8_rounds 52 = .ok (.istore 4, 2) := by decide +kernel
theorem dX8_rounds_54 : decode cX8_rounds 54 = .ok (.iload 4, 2) := by decide +kernel
theorem dX8_rounds_56 : decode cX8_rounds 56 = .ok (.sipush 4096, 3) := by decide +kernel
theorem dX8_rounds_59 : decode cX8_rounds 59 = .ok (.if_icmp .ge 42, 3) := by decide +kernel
theorem dX8_rounds_62 : decode cX8_rounds 62 = .ok (.aload_n 0, 1) := by decide +kernel
theorem dX8_rounds_63 : decode cX8_rounds 63 = .ok (.iload 4, 2) := by decide +kernel
theorem dX8_rounds_65 : decode cX8_rounds 65 = .ok (.iload_n 1, 1) := by decide +kernel
theorem dX8_rounds_66 : decode cX8_rounds 66 = .ok (.invokevirtual 228, 3) := by decide +kernel
theorem dX8_rounds_69 : decode cX8_rounds 69 = .ok (.istore 5, 2) := by decide +kernel
theorem dX8_rounds_71 : decode cX8_rounds 71 = .ok (.iload_n 3, 1) := by decide +kernel
theorem dX8_rounds_72 : decode cX8_rounds 72 = .ok (.iload 5, 2) := by decide +kernel
theorem dX8_rounds_74 : decode cX8_rounds 74 = .ok (.ifCond .le 18, 3) := by decide +kernel
theorem dX8_rounds_77 : decode cX8_rounds 77 = .ok (.iload_n 2, 1) := by decide +kernel
theorem dX8_rounds_78 : decode cX8_rounds 78 = .ok (.iconst (-1), 1) := by decide +kernel
theorem dX8_rounds_79 : decode cX8_rounds 79 = .ok (.if_icmp .eq 9, 3) := by decide +kernel
theorem dX8_rounds_82 : decode cX8_rounds 82 = .ok (.iload 5, 2) := by decide +kernel
theorem dX8_rounds_84 : decode cX8_rounds 84 = .ok (.iload_n 2, 1) := by decide +kernel
theorem dX8_rounds_85 : decode cX8_rounds 85 = .ok (.if_icmp .ne 7, 3) := by decide +kernel
theorem dX8_rounds_88 : decode cX8_rounds 88 = .ok (.iconst 1, 1) := by decide +kernel
theorem dX8_rounds_89 : decode cX8_rounds 89 = .ok (.goto 4, 3) := by decide +kernel
theorem dX8_rounds_92 : decode cX8_rounds 92 = .ok (.iconst 0, 1) := by decide +kernel
theorem dX8_rounds_93 : decode cX8_rounds 93 = .ok (.iadd, 1) := by decide +kernel
theorem dX8_rounds_94 : decode cX8_rounds 94 = .ok (.istore_n 3, 1) := by decide +kernel
theorem dX8_rounds_95 : decode cX8_rounds 95 = .ok (.iinc 4 1, 3) := by decide +kernel
theorem dX8_rounds_98 : decode cX8_rounds 98 = .ok (.goto (-44), 3) := by decide +kernel
theorem dX8_rounds_101 : decode cX8_rounds 101 = .ok (.iload_n 3, 1) := by decide +kernel
theorem dX8_rounds_102 : decode cX8_rounds 102 = .ok (.ireturn, 1) := by decide +kernel
set_option maxRecDepth 20000 in
theorem ggX8_apart_X8_rest : GoodIn wsX8_apart wsX8_rest := goodIn_r _ [4] (by decide +kernel) (by decide +kernel)
set_option maxRecDepth 20000 in
theorem gX8_apart_X8_rest : GoodIn wsX8_apart (va_wsS RX8 150 yX8_rest wsX8_rest) := goodIn_app (goodIn_of _ (by decide +kernel)) ggX8_apart_X8_rest
theorem dX8_apart_0 : decode cX8_apart 0 = .ok (.iload_n 0, 1) := by decide +kernel
theorem dX8_apart_1 : decode cX8_apart 1 = .ok (.iload_n 1, 1) := by decide +kernel
theorem dX8_apart_2 : decode cX8_apart 2 = .ok (.isub, 1) := by decide +kernel
theorem dX8_apart_3 : decode cX8_apart 3 = .ok (.bipush 64, 2) := by decide +kernel
theorem dX8_apart_5 : decode cX8_apart 5 = .ok (.invokestatic 150, 3) := by decide +kernel
theorem dX8_apart_8 : decode cX8_apart 8 = .ok (.istore_n 2, 1) := by decide +kernel
theorem dX8_apart_9 : decode cX8_apart 9 = .ok (.iload_n 2, 1) := by decide +kernel
theorem dX8_apart_10 : decode cX8_apart 10 = .ok (.bipush 32, 2) := by decide +kernel
theorem dX8_apart_12 : decode cX8_apart 12 = .ok (.if_icmp .le 10, 3) := by decide +kernel
theorem dX8_apart_15 : decode cX8_apart 15 = .ok (.bipush 64, 2) := by decide +kernel
theorem dX8_apart_17 : decode cX8_apart 17 = .ok (.iload_n 2, 1) := by decide +kernel
theorem dX8_apart_18 : decode cX8_apart 18 = .ok (.isub, 1) := by decide +kernel
theorem dX8_apart_19 : decode cX8_apart 19 = .ok (.goto 4, 3) := by decide +kernel
theorem dX8_apart_22 : decode cX8_apart 22 = .ok (.iload_n 2, 1) := by decide +kernel
theorem dX8_apart_23 : decode cX8_apart 23 = .ok (.ireturn, 1) := by decide +kernel
set_option maxRecDepth 20000 in
theorem ggX8_parting_X8_isState : GoodIn wsX8_parting wsX8_isState := goodIn_r _ [5, 6, 7, 4, 8] (by decide +kernel) (by decide +kernel)
set_option maxRecDepth 20000 in
theorem gX8_parting_X8_isState : GoodIn wsX8_parting (va_wsS RX8 216 yX8_isState wsX8_isState) := goodIn_app (goodIn_of _ (by decide +kernel)) ggX8_parting_X8_isState
set_option maxRecDepth 20000 in
theorem ggX8_parting_X8_isIn : GoodIn wsX8_parting wsX8_isIn := goodIn_r _ [8] (by decide +kernel) (by decide +kernel)
set_option maxRecDepth 20000 in
theorem gX8_parting_X8_isIn : GoodIn wsX8_parting (va_wsS RX8 91 yX8_isIn wsX8_isIn) := goodIn_app (goodIn_of _ (by decide +kernel)) ggX8_parting_X8_isIn
set_option maxRecDepth 20000 in
theorem ggX8_parting_X8_rest : GoodIn wsX8_parting wsX8_rest := goodIn_r _ [11] (by decide +kernel) (by decide +kernel)
set_option maxRecDepth 20000 in
theorem gX8_parting_X8_rest : GoodIn wsX8_parting (va_wsS RX8 150 yX8_rest wsX8_rest) := goodIn_app (goodIn_of _ (by decide +kernel)) ggX8_parting_X8_rest
set_option maxRecDepth 20000 in
theorem ggX8_parting_X8_moved : GoodIn wsX8_parting wsX8_moved := goodIn_r _ [14, 15, 16, 4, 17, 18, 19, 20, 21, 22, 23, 24, 9, 10, 11] (by decide +kernel) (by decide +kernel)
set_option maxRecDepth 20000 in
theorem gX8_parting_X8_moved : GoodIn wsX8_parting (va_wsS RX8 219 yX8_moved wsX8_moved) := goodIn_app (goodIn_of _ (by decide +kernel)) ggX8_parting_X8_moved
set_option maxRecDepth 20000 in
theorem ggX8_parting_X8_apart : GoodIn wsX8_parting wsX8_apart := goodIn_r _ [27, 9, 10, 4, 11] (by decide +kernel) (by decide +kernel)
set_option maxRecDepth 20000 in
theorem gX8_parting_X8_apart : GoodIn wsX8_parting (va_wsS RX8 231 yX8_apart wsX8_apart) := goodIn_app (goodIn_of _ (by decide +kernel)) ggX8_parting_X8_apart
theorem dX8_parting_0 : decode cX8_parting 0 = .ok (.aload_n 0, 1) := by decide +kernel
theorem dX8_parting_1 : decode cX8_parting 1 = .ok (.iload_n 1, 1) := by decide +kernel
theorem dX8_parting_2 : decode cX8_parting 2 = .ok (.iload_n 2, 1) := by decide +kernel
theorem dX8_parting_3 : decode cX8_parting 3 = .ok (.iload_n 3, 1) := by decide +kernel
theorem dX8_parting_4 : decode cX8_parting 4 = .ok (.invokestatic 216, 3) := by decide +kernel
theorem dX8_parting_7 : decode cX8_parting 7 = .ok (.ifCond .eq 19, 3) := by decide +kernel
theorem dX8_parting_10 : decode cX8_parting 10 = .ok (.iload 4, 2) := by decide +kernel
theorem dX8_parting_12 : decode cX8_parting 12 = .ok (.iconst 0, 1) := by decide +kernel
theorem dX8_parting_13 : decode cX8_parting 13 = .ok (.sipush 10000, 3) := by decide +kernel
theorem dX8_parting_16 : decode cX8_parting 16 = .ok (.invokestatic 91, 3) := by decide +kernel
theorem dX8_parting_19 : decode cX8_parting 19 = .ok (.ifCond .eq 7, 3) := by decide +kernel
theorem dX8_parting_22 : decode cX8_parting 22 = .ok (.iconst 0, 1) := by decide +kernel
theorem dX8_parting_23 : decode cX8_parting 23 = .ok (.goto 4, 3) := by decide +kernel
theorem dX8_parting_26 : decode cX8_parting 26 = .ok (.iconst 1, 1) := by decide +kernel
theorem dX8_parting_27 : decode cX8_parting 27 = .ok (.putfield 85, 3) := by decide +kernel
theorem dX8_parting_30 : decode cX8_parting 30 = .ok (.aload_n 0, 1) := by decide +kernel
theorem dX8_parting_31 : decode cX8_parting 31 = .ok (.getfield 85, 3) := by decide +kernel
theorem dX8_parting_34 : decode cX8_parting 34 = .ok (.ifCond .le 5, 3) := by decide +kernel
theorem dX8_parting_37 : decode cX8_parting 37 = .ok (.iconst 0, 1) := by decide +kernel
theorem dX8_parting_38 : decode cX8_parting 38 = .ok (.ireturn, 1) := by decide +kernel
theorem dX8_parting_39 : decode cX8_parting 39 = .ok (.bipush 64, 2) := by decide +kernel
theorem dX8_parting_41 : decode cX8_parting 41 = .ok (.iload_n 1, 1) := by decide +kernel
theorem dX8_parting_42 : decode cX8_parting 42 = .ok (.imul, 1) := by decide +kernel
theorem dX8_parting_43 : decode cX8_parting 43 = .ok (.iload_n 2, 1) := by decide +kernel
theorem dX8_parting_44 : decode cX8_parting 44 = .ok (.iadd, 1) := by decide +kernel
theorem dX8_parting_45 : decode cX8_parting 45 = .ok (.istore 5, 2) := by decide +kernel
theorem dX8_parting_47 : decode cX8_parting 47 = .ok (.bipush 64, 2) := by decide +kernel
theorem dX8_parting_49 : decode cX8_parting 49 = .ok (.iload_n 1, 1) := by decide +kernel
theorem dX8_parting_50 : decode cX8_parting 50 = .ok (.iconst 1, 1) := by decide +kernel
theorem dX8_parting_51 : decode cX8_parting 51 = .ok (.iadd, 1) := by decide +kernel
theorem dX8_parting_52 : decode cX8_parting 52 = .ok (.bipush 64, 2) := by decide +kernel
theorem dX8_parting_54 : decode cX8_parting 54 = .ok (.invokestatic 150, 3) := by decide +kernel
theorem dX8_parting_57 : decode cX8_parting 57 = .ok (.imul, 1) := by decide +kernel
theorem dX8_parting_58 : decode cX8_parting 58 = .ok (.iload_n 2, 1) := by decide +kernel
theorem dX8_parting_59 : decode cX8_parting 59 = .ok (.iadd, 1) := by decide +kernel
theorem dX8_parting_60 : decode cX8_parting 60 = .ok (.istore 6, 2) := by decide +kernel
theorem dX8_parting_62 : decode cX8_parting 62 = .ok (.iconst 0, 1) := by decide +kernel
theorem dX8_parting_63 : decode cX8_parting 63 = .ok (.istore 7, 2) := by decide +kernel
theorem dX8_parting_65 : decode cX8_parting 65 = .ok (.iload 7, 2) := by decide +kernel
theorem dX8_parting_67 : decode cX8_parting 67 = .ok (.iload 4, 2) := by decide +kernel
theorem dX8_parting_69 : decode cX8_parting 69 = .ok (.if_icmp .ge 25, 3) := by decide +kernel
theorem dX8_parting_72 : decode cX8_parting 72 = .ok (.iload 5, 2) := by decide +kernel
theorem dX8_parting_74 : decode cX8_parting 74 = .ok (.iload_n 3, 1) := by decide +kernel
theorem dX8_parting_75 : decode cX8_parting 75 = .ok (.invokestatic 219, 3) := by decide +kernel
theorem dX8_parting_78 : decode cX8_parting 78 = .ok (.istore 5, 2) := by decide +kernel
theorem dX8_parting_80 : decode cX8_parting 80 = .ok (.iload 6, 2) := by decide +kernel
theorem dX8_parting_82 : decode cX8_parting 82 = .ok (.iload_n 3, 1) := by decide +kernel
theorem dX8_parting_83 : decode cX8_parting 83 = .ok (.invokestatic 219, 3) := by decide +kernel
theorem dX8_parting_86 : decode cX8_parting 86 = .ok (.istore 6, 2) := by decide +kernel
theorem dX8_parting_88 : decode cX8_parting 88 = .ok (.iinc 7 1, 3) := by decide +kernel
theorem dX8_parting_91 : decode cX8_parting 91 = .ok (.goto (-26), 3) := by decide +kernel
theorem dX8_parting_94 : decode cX8_parting 94 = .ok (.iload 5, 2) := by decide +kernel
theorem dX8_parting_96 : decode cX8_parting 96 = .ok (.bipush 64, 2) := by decide +kernel
theorem dX8_parting_98 : decode cX8_parting 98 = .ok (.idiv, 1) := by decide +kernel
theorem dX8_parting_99 : decode cX8_parting 99 = .ok (.iload 6, 2) := by decide +kernel
theorem dX8_parting_101 : decode cX8_parting 101 = .ok (.bipush 64, 2) := by decide +kernel
theorem dX8_parting_103 : decode cX8_parting 103 = .ok (.idiv, 1) := by decide +kernel
theorem dX8_parting_104 : decode cX8_parting 104 = .ok (.invokestatic 231, 3) := by decide +kernel
theorem dX8_parting_107 : decode cX8_parting 107 = .ok (.iload 5, 2) := by decide +kernel
theorem dX8_parting_109 : decode cX8_parting 109 = .ok (.bipush 64, 2) := by decide +kernel
theorem dX8_parting_111 : decode cX8_parting 111 = .ok (.irem, 1) := by decide +kernel
theorem dX8_parting_112 : decode cX8_parting 112 = .ok (.iload 6, 2) := by decide +kernel
theorem dX8_parting_114 : decode cX8_parting 114 = .ok (.bipush 64, 2) := by decide +kernel
theorem dX8_parting_116 : decode cX8_parting 116 = .ok (.irem, 1) := by decide +kernel
theorem dX8_parting_117 : decode cX8_parting 117 = .ok (.invokestatic 231, 3) := by decide +kernel
theorem dX8_parting_120 : decode cX8_parting 120 = .ok (.iadd, 1) := by decide +kernel
theorem dX8_parting_121 : decode cX8_parting 121 = .ok (.ireturn, 1) := by decide +kernel
set_option maxRecDepth 20000 in
theorem ggX8_chain_X8_isIn : GoodIn wsX8_chain wsX8_isIn := goodIn_r _ [10] (by decide +kernel) (by decide +kernel)
set_option maxRecDepth 20000 in
theorem gX8_chain_X8_isIn : GoodIn wsX8_chain (va_wsS RX8 91 yX8_isIn wsX8_isIn) := goodIn_app (goodIn_of _ (by decide +kernel)) ggX8_chain_X8_isIn
theorem dX8_chain_0 : decode cX8_chain 0 = .ok (.aload_n 0, 1) := by decide +kernel
theorem dX8_chain_1 : decode cX8_chain 1 = .ok (.iload_n 1, 1) := by decide +kernel
theorem dX8_chain_2 : decode cX8_chain 2 = .ok (.iconst 1, 1) := by decide +kernel
theorem dX8_chain_3 : decode cX8_chain 3 = .ok (.bipush 8, 2) := by decide +kernel
theorem dX8_chain_5 : decode cX8_chain 5 = .ok (.invokestatic 91, 3) := by decide +kernel
theorem dX8_chain_8 : decode cX8_chain 8 = .ok (.ifCond .eq 27, 3) := by decide +kernel
theorem dX8_chain_11 : decode cX8_chain 11 = .ok (.iload_n 2, 1) := by decide +kernel
theorem dX8_chain_12 : decode cX8_chain 12 = .ok (.iconst 0, 1) := by decide +kernel
theorem dX8_chain_13 : decode cX8_chain 13 = .ok (.bipush 15, 2) := by decide +kernel
theorem dX8_chain_15 : decode cX8_chain 15 = .ok (.invokestatic 91, 3) := by decide +kernel
theorem dX8_chain_18 : decode cX8_chain 18 = .ok (.ifCond .eq 17, 3) := by decide +kernel
theorem dX8_chain_21 : decode cX8_chain 21 = .ok (.iload_n 3, 1) := by decide +kernel
theorem dX8_chain_22 : decode cX8_chain 22 = .ok (.iconst 0, 1) := by decide +kernel
theorem dX8_chain_23 : decode cX8_chain 23 = .ok (.bipush 15, 2) := by decide +kernel
theorem dX8_chain_25 : decode cX8_chain 25 = .ok (.invokestatic 91, 3) := by decide +kernel
theorem dX8_chain_28 : decode cX8_chain 28 = .ok (.ifCond .eq 7, 3) := by decide +kernel
theorem dX8_chain_31 : decode cX8_chain 31 = .ok (.iconst 0, 1) := by decide +kernel
theorem dX8_chain_32 : decode cX8_chain 32 = .ok (.goto 4, 3) := by decide +kernel
theorem dX8_chain_35 : decode cX8_chain 35 = .ok (.iconst 1, 1) := by decide +kernel
theorem dX8_chain_36 : decode cX8_chain 36 = .ok (.putfield 85, 3) := by decide +kernel
theorem dX8_chain_39 : decode cX8_chain 39 = .ok (.aload_n 0, 1) := by decide +kernel
theorem dX8_chain_40 : decode cX8_chain 40 = .ok (.getfield 85, 3) := by decide +kernel
theorem dX8_chain_43 : decode cX8_chain 43 = .ok (.ifCond .le 5, 3) := by decide +kernel
theorem dX8_chain_46 : decode cX8_chain 46 = .ok (.iconst 0, 1) := by decide +kernel
theorem dX8_chain_47 : decode cX8_chain 47 = .ok (.ireturn, 1) := by decide +kernel
theorem dX8_chain_48 : decode cX8_chain 48 = .ok (.aload_n 0, 1) := by decide +kernel
theorem dX8_chain_49 : decode cX8_chain 49 = .ok (.getfield 70, 3) := by decide +kernel
theorem dX8_chain_52 : decode cX8_chain 52 = .ok (.istore 4, 2) := by decide +kernel
theorem dX8_chain_54 : decode cX8_chain 54 = .ok (.aload_n 0, 1) := by decide +kernel
theorem dX8_chain_55 : decode cX8_chain 55 = .ok (.iload_n 1, 1) := by decide +kernel
theorem dX8_chain_56 : decode cX8_chain 56 = .ok (.putfield 70, 3) := by decide +kernel
theorem dX8_chain_59 : decode cX8_chain 59 = .ok (.aload_n 0, 1) := by decide +kernel
theorem dX8_chain_60 : decode cX8_chain 60 = .ok (.iload_n 2, 1) := by decide +kernel
theorem dX8_chain_61 : decode cX8_chain 61 = .ok (.putfield 234, 3) := by decide +kernel
theorem dX8_chain_64 : decode cX8_chain 64 = .ok (.aload_n 0, 1) := by decide +kernel
theorem dX8_chain_65 : decode cX8_chain 65 = .ok (.iload_n 3, 1) := by decide +kernel
theorem dX8_chain_66 : decode cX8_chain 66 = .ok (.putfield 237, 3) := by decide +kernel
theorem dX8_chain_69 : decode cX8_chain 69 = .ok (.iconst 0, 1) := by decide +kernel
theorem dX8_chain_70 : decode cX8_chain 70 = .ok (.istore 5, 2) := by decide +kernel
theorem dX8_chain_72 : decode cX8_chain 72 = .ok (.iload 5, 2) := by decide +kernel
theorem dX8_chain_74 : decode cX8_chain 74 = .ok (.bipush 8, 2) := by decide +kernel
theorem dX8_chain_76 : decode cX8_chain 76 = .ok (.if_icmp .ge 25, 3) := by decide +kernel
theorem dX8_chain_79 : decode cX8_chain 79 = .ok (.aload_n 0, 1) := by decide +kernel
theorem dX8_chain_80 : decode cX8_chain 80 = .ok (.getfield 73, 3) := by decide +kernel
theorem dX8_chain_83 : decode cX8_chain 83 = .ok (.iload 5, 2) := by decide +kernel
theorem dX8_chain_85 : decode cX8_chain 85 = .ok (.iconst 0, 1) := by decide +kernel
theorem dX8_chain_86 : decode cX8_chain 86 = .ok (.iastore, 1) := by decide +kernel
theorem dX8_chain_87 : decode cX8_chain 87 = .ok (.aload_n 0, 1) := by decide +kernel
theorem dX8_chain_88 : decode cX8_chain 88 = .ok (.getfield 76, 3) := by decide +kernel
theorem dX8_chain_91 : decode cX8_chain 91 = .ok (.iload 5, 2) := by decide +kernel
theorem dX8_chain_93 : decode cX8_chain 93 = .ok (.iconst 0, 1) := by decide +kernel
theorem dX8_chain_94 : decode cX8_chain 94 = .ok (.iastore, 1) := by decide +kernel
theorem dX8_chain_95 : decode cX8_chain 95 = .ok (.iinc 5 1, 3) := by decide +kernel
theorem dX8_chain_98 : decode cX8_chain 98 = .ok (.goto (-26), 3) := by decide +kernel
theorem dX8_chain_101 : decode cX8_chain 101 = .ok (.iload 4, 2) := by decide +kernel
theorem dX8_chain_103 : decode cX8_chain 103 = .ok (.ireturn, 1) := by decide +kernel
set_option maxRecDepth 20000 in
theorem ggX8_isBob_X8_isIn : GoodIn wsX8_isBob wsX8_isIn := goodIn_r _ [5] (by decide +kernel) (by decide +kernel)
set_option maxRecDepth 20000 in
theorem gX8_isBob_X8_isIn : GoodIn wsX8_isBob (va_wsS RX8 91 yX8_isIn wsX8_isIn) := goodIn_app (goodIn_of _ (by decide +kernel)) ggX8_isBob_X8_isIn
theorem dX8_isBob_0 : decode cX8_isBob 0 = .ok (.iload_n 1, 1) := by decide +kernel
theorem dX8_isBob_1 : decode cX8_isBob 1 = .ok (.iconst 0, 1) := by decide +kernel
theorem dX8_isBob_2 : decode cX8_isBob 2 = .ok (.aload_n 0, 1) := by decide +kernel
theorem dX8_isBob_3 : decode cX8_isBob 3 = .ok (.getfield 70, 3) := by decide +kernel
theorem dX8_isBob_6 : decode cX8_isBob 6 = .ok (.iconst 1, 1) := by decide +kernel
theorem dX8_isBob_7 : decode cX8_isBob 7 = .ok (.isub, 1) := by decide +kernel
theorem dX8_isBob_8 : decode cX8_isBob 8 = .ok (.invokestatic 91, 3) := by decide +kernel
theorem dX8_isBob_11 : decode cX8_isBob 11 = .ok (.ireturn, 1) := by decide +kernel
set_option maxRecDepth 20000 in
theorem ggX8_pull_X8_isIn : GoodIn wsX8_pull wsX8_isIn := goodIn_r _ [9] (by decide +kernel) (by decide +kernel)
set_option maxRecDepth 20000 in
theorem gX8_pull_X8_isIn : GoodIn wsX8_pull (va_wsS RX8 91 yX8_isIn wsX8_isIn) := goodIn_app (goodIn_of _ (by decide +kernel)) ggX8_pull_X8_isIn
set_option maxRecDepth 20000 in
theorem ggX8_pull_X8_isBob : GoodIn wsX8_pull wsX8_isBob := goodIn_r _ [13, 14, 6, 7, 8, 9, 15, 16, 17, 18, 19, 20, 21, 22, 23, 24, 25, 26, 27, 28, 29, 30, 31, 32, 33, 34, 35, 36, 37, 38, 39, 40, 41, 42, 43, 44, 45, 46, 47, 48, 49, 50, 51, 52] (by decide +kernel) (by decide +kernel)
set_option maxRecDepth 20000 in
theorem gX8_pull_X8_isBob : GoodIn wsX8_pull (wsV RX8 241 RX8 yX8_isBob wsX8_isBob) := goodIn_app (goodIn_of _ (by decide +kernel)) ggX8_pull_X8_isBob
theorem dX8_pull_0 : decode cX8_pull 0 = .ok (.iload_n 2, 1) := by decide +kernel
theorem dX8_pull_1 : decode cX8_pull 1 = .ok (.ldc 240, 2) := by decide +kernel
theorem dX8_pull_3 : decode cX8_pull 3 = .ok (.ldc 177, 2) := by decide +kernel
theorem dX8_pull_5 : decode cX8_pull 5 = .ok (.invokestatic 91, 3) := by decide +kernel
theorem dX8_pull_8 : decode cX8_pull 8 = .ok (.ifCond .eq 18, 3) := by decide +kernel
theorem dX8_pull_11 : decode cX8_pull 11 = .ok (.iload_n 3, 1) := by decide +kernel
theorem dX8_pull_12 : decode cX8_pull 12 = .ok (.ldc 240, 2) := by decide +kernel
theorem dX8_pull_14 : decode cX8_pull 14 = .ok (.ldc 177, 2) := by decide +kernel
theorem dX8_pull_16 : decode cX8_pull 16 = .ok (.invokestatic 91, 3) := by decide +kernel
theorem dX8_pull_19 : decode cX8_pull 19 = .ok (.ifCond .eq 7, 3) := by decide +kernel
theorem dX8_pull_22 : decode cX8_pull 22 = .ok (.iconst 1, 1) := by decide +kernel
theorem dX8_pull_23 : decode cX8_pull 23 = .ok (.goto 4, 3) := by decide +kernel
theorem dX8_pull_26 : decode cX8_pull 26 = .ok (.iconst 0, 1) := by decide +kernel
theorem dX8_pull_27 : decode cX8_pull 27 = .ok (.istore 4, 2) := by decide +kernel
theorem dX8_pull_29 : decode cX8_pull 29 = .ok (.aload_n 0, 1) := by decide +kernel
theorem dX8_pull_30 : decode cX8_pull 30 = .ok (.aload_n 0, 1) := by decide +kernel
theorem dX8_pull_31 : decode cX8_pull 31 = .ok (.iload_n 1, 1) := by decide +kernel
theorem dX8_pull_32 : decode cX8_pull 32 = .ok (.invokevirtual 241, 3) := by decide +kernel
theorem dX8_pull_35 : decode cX8_pull 35 = .ok (.ifCond .ne 7, 3) := by decide +kernel
theorem dX8_pull_38 : decode cX8_pull 38 = .ok (.iconst 1, 1) := by decide +kernel
theorem dX8_pull_39 : decode cX8_pull 39 = .ok (.goto 13, 3) := by decide +kernel
theorem dX8_pull_42 : decode cX8_pull 42 = .ok (.iload 4, 2) := by decide +kernel
theorem dX8_pull_44 : decode cX8_pull 44 = .ok (.ifCond .ne 7, 3) := by decide +kernel
theorem dX8_pull_47 : decode cX8_pull 47 = .ok (.iconst 2, 1) := by decide +kernel
theorem dX8_pull_48 : decode cX8_pull 48 = .ok (.goto 4, 3) := by decide +kernel
theorem dX8_pull_51 : decode cX8_pull 51 = .ok (.iconst 0, 1) := by decide +kernel
theorem dX8_pull_52 : decode cX8_pull 52 = .ok (.putfield 85, 3) := by decide +kernel
theorem dX8_pull_55 : decode cX8_pull 55 = .ok (.aload_n 0, 1) := by decide +kernel
theorem dX8_pull_56 : decode cX8_pull 56 = .ok (.getfield 85, 3) := by decide +kernel
theorem dX8_pull_59 : decode cX8_pull 59 = .ok (.ifCond .ne 17, 3) := by decide +kernel
theorem dX8_pull_62 : decode cX8_pull 62 = .ok (.aload_n 0, 1) := by decide +kernel
theorem dX8_pull_63 : decode cX8_pull 63 = .ok (.getfield 73, 3) := by decide +kernel
theorem dX8_pull_66 : decode cX8_pull 66 = .ok (.iload_n 1, 1) := by decide +kernel
theorem dX8_pull_67 : decode cX8_pull 67 = .ok (.iload_n 2, 1) := by decide +kernel
theorem dX8_pull_68 : decode cX8_pull 68 = .ok (.iastore, 1) := by decide +kernel
theorem dX8_pull_69 : decode cX8_pull 69 = .ok (.aload_n 0, 1) := by decide +kernel
theorem dX8_pull_70 : decode cX8_pull 70 = .ok (.getfield 76, 3) := by decide +kernel
theorem dX8_pull_73 : decode cX8_pull 73 = .ok (.iload_n 1, 1) := by decide +kernel
theorem dX8_pull_74 : decode cX8_pull 74 = .ok (.iload_n 3, 1) := by decide +kernel
theorem dX8_pull_75 : decode cX8_pull 75 = .ok (.iastore, 1) := by decide +kernel
theorem dX8_pull_76 : decode cX8_pull 76 = .ok (.return_, 1) := by decide +kernel
set_option maxRecDepth 20000 in
theorem ggX8_drive_X8_isIn : GoodIn wsX8_drive wsX8_isIn := goodIn_r _ [7] (by decide +kernel) (by decide +kernel)
set_option maxRecDepth 20000 in
theorem gX8_drive_X8_isIn : GoodIn wsX8_drive (va_wsS RX8 91 yX8_isIn wsX8_isIn) := goodIn_app (goodIn_of _ (by decide +kernel)) ggX8_drive_X8_isIn
theorem dX8_drive_0 : decode cX8_drive 0 = .ok (.aload_n 0, 1) := by decide +kernel
theorem dX8_drive_1 : decode cX8_drive 1 = .ok (.iload_n 1, 1) := by decide +kernel
theorem dX8_drive_2 : decode cX8_drive 2 = .ok (.iconst 0, 1) := by decide +kernel
theorem dX8_drive_3 : decode cX8_drive 3 = .ok (.bipush 100, 2) := by decide +kernel
theorem dX8_drive_5 : decode cX8_drive 5 = .ok (.invokestatic 91, 3) := by decide +kernel
theorem dX8_drive_8 : decode cX8_drive 8 = .ok (.ifCond .eq 20, 3) := by decide +kernel
theorem dX8_drive_11 : decode cX8_drive 11 = .ok (.iload_n 2, 1) := by decide +kernel
theorem dX8_drive_12 : decode cX8_drive 12 = .ok (.sipush (-1000), 3) := by decide +kernel
theorem dX8_drive_15 : decode cX8_drive 15 = .ok (.sipush 1000, 3) := by decide +kernel
theorem dX8_drive_18 : decode cX8_drive 18 = .ok (.invokestatic 91, 3) := by decide +kernel
theorem dX8_drive_21 : decode cX8_drive 21 = .ok (.ifCond .eq 7, 3) := by decide +kernel
theorem dX8_drive_24 : decode cX8_drive 24 = .ok (.iconst 0, 1) := by decide +kernel
theorem dX8_drive_25 : decode cX8_drive 25 = .ok (.goto 4, 3) := by decide +kernel
theorem dX8_drive_28 : decode cX8_drive 28 = .ok (.iconst 1, 1) := by decide +kernel
theorem dX8_drive_29 : decode cX8_drive 29 = .ok (.putfield 85, 3) := by decide +kernel
theorem dX8_drive_32 : decode cX8_drive 32 = .ok (.aload_n 0, 1) := by decide +kernel
theorem dX8_drive_33 : decode cX8_drive 33 = .ok (.getfield 85, 3) := by decide +kernel
theorem dX8_drive_36 : decode cX8_drive 36 = .ok (.ifCond .ne 13, 3) := by decide +kernel
theorem dX8_drive_39 : decode cX8_drive 39 = .ok (.aload_n 0, 1) := by decide +kernel
theorem dX8_drive_40 : decode cX8_drive 40 = .ok (.iload_n 1, 1) := by decide +kernel
theorem dX8_drive_41 : decode cX8_drive 41 = .ok (.putfield 244, 3) := by decide +kernel
theorem dX8_drive_44 : decode cX8_drive 44 = .ok (.aload_n 0, 1) := by decide +kernel
theorem dX8_drive_45 : decode cX8_drive 45 = .ok (.iload_n 2, 1) := by decide +kernel
theorem dX8_drive_46 : decode cX8_drive 46 = .ok (.putfield 247, 3) := by decide +kernel
theorem dX8_drive_49 : decode cX8_drive 49 = .ok (.return_, 1) := by decide +kernel
set_option maxRecDepth 20000 in
theorem ggX8_drawn_X8_floor : GoodIn wsX8_drawn wsX8_floor := goodIn_r _ [8] (by decide +kernel) (by decide +kernel)
set_option maxRecDepth 20000 in
theorem gX8_drawn_X8_floor : GoodIn wsX8_drawn (va_wsS RX8 105 yX8_floor wsX8_floor) := goodIn_app (goodIn_of _ (by decide +kernel)) ggX8_drawn_X8_floor
theorem dX8_drawn_0 : decode cX8_drawn 0 = .ok (.iload_n 2, 1) := by decide +kernel
theorem dX8_drawn_1 : decode cX8_drawn 1 = .ok (.ifCond .le 17, 3) := by decide +kernel
theorem dX8_drawn_4 : decode cX8_drawn 4 = .ok (.aload_n 1, 1) := by decide +kernel
theorem dX8_drawn_5 : decode cX8_drawn 5 = .ok (.iload_n 2, 1) := by decide +kernel
theorem dX8_drawn_6 : decode cX8_drawn 6 = .ok (.iconst 1, 1) := by decide +kernel
theorem dX8_drawn_7 : decode cX8_drawn 7 = .ok (.isub, 1) := by decide +kernel
theorem dX8_drawn_8 : decode cX8_drawn 8 = .ok (.iaload, 1) := by decide +kernel
theorem dX8_drawn_9 : decode cX8_drawn 9 = .ok (.i2l, 1) := by decide +kernel
theorem dX8_drawn_10 : decode cX8_drawn 10 = .ok (.aload_n 1, 1) := by decide +kernel
theorem dX8_drawn_11 : decode cX8_drawn 11 = .ok (.iload_n 2, 1) := by decide +kernel
theorem dX8_drawn_12 : decode cX8_drawn 12 = .ok (.iaload, 1) := by decide +kernel
theorem dX8_drawn_13 : decode cX8_drawn 13 = .ok (.i2l, 1) := by decide +kernel
theorem dX8_drawn_14 : decode cX8_drawn 14 = .ok (.lsub, 1) := by decide +kernel
theorem dX8_drawn_15 : decode cX8_drawn 15 = .ok (.goto 4, 3) := by decide +kernel
theorem dX8_drawn_18 : decode cX8_drawn 18 = .ok (.lconst 0, 1) := by decide +kernel
theorem dX8_drawn_19 : decode cX8_drawn 19 = .ok (.lstore_n 3, 1) := by decide +kernel
theorem dX8_drawn_20 : decode cX8_drawn 20 = .ok (.lload_n 3, 1) := by decide +kernel
theorem dX8_drawn_21 : decode cX8_drawn 21 = .ok (.iload_n 2, 1) := by decide +kernel
theorem dX8_drawn_22 : decode cX8_drawn 22 = .ok (.aload_n 0, 1) := by decide +kernel
theorem dX8_drawn_23 : decode cX8_drawn 23 = .ok (.getfield 70, 3) := by decide +kernel
theorem dX8_drawn_26 : decode cX8_drawn 26 = .ok (.iconst 1, 1) := by decide +kernel
theorem dX8_drawn_27 : decode cX8_drawn 27 = .ok (.isub, 1) := by decide +kernel
theorem dX8_drawn_28 : decode cX8_drawn 28 = .ok (.if_icmp .ge 17, 3) := by decide +kernel
theorem dX8_drawn_31 : decode cX8_drawn 31 = .ok (.aload_n 1, 1) := by decide +kernel
theorem dX8_drawn_32 : decode cX8_drawn 32 = .ok (.iload_n 2, 1) := by decide +kernel
theorem dX8_drawn_33 : decode cX8_drawn 33 = .ok (.iconst 1, 1) := by decide +kernel
theorem dX8_drawn_34 : decode cX8_drawn 34 = .ok (.iadd, 1) := by decide +kernel
theorem dX8_drawn_35 : decode cX8_drawn 35 = .ok (.iaload, 1) := by decide +kernel
theorem dX8_drawn_36 : decode cX8_drawn 36 = .ok (.i2l, 1) := by decide +kernel
theorem dX8_drawn_37 : decode cX8_drawn 37 = .ok (.aload_n 1, 1) := by decide +kernel
theorem dX8_drawn_38 : decode cX8_drawn 38 = .ok (.iload_n 2, 1) := by decide +kernel
theorem dX8_drawn_39 : decode cX8_drawn 39 = .ok (.iaload, 1) := by decide +kernel
theorem dX8_drawn_40 : decode cX8_drawn 40 = .ok (.i2l, 1) := by decide +kernel
theorem dX8_drawn_41 : decode cX8_drawn 41 = .ok (.lsub, 1) := by decide +kernel
theorem dX8_drawn_42 : decode cX8_drawn 42 = .ok (.goto 4, 3) := by decide +kernel
theorem dX8_drawn_45 : decode cX8_drawn 45 = .ok (.lconst 0, 1) := by decide +kernel
theorem dX8_drawn_46 : decode cX8_drawn 46 = .ok (.ladd, 1) := by decide +kernel
theorem dX8_drawn_47 : decode cX8_drawn 47 = .ok (.lstore_n 3, 1) := by decide +kernel
theorem dX8_drawn_48 : decode cX8_drawn 48 = .ok (.aload_n 0, 1) := by decide +kernel
theorem dX8_drawn_49 : decode cX8_drawn 49 = .ok (.getfield 237, 3) := by decide +kernel
theorem dX8_drawn_52 : decode cX8_drawn 52 = .ok (.i2l, 1) := by decide +kernel
theorem dX8_drawn_53 : decode cX8_drawn 53 = .ok (.lload_n 3, 1) := by decide +kernel
theorem dX8_drawn_54 : decode cX8_drawn 54 = .ok (.lmul, 1) := by decide +kernel
theorem dX8_drawn_55 : decode cX8_drawn 55 = .ok (.ldc2_w 211, 3) := by decide +kernel
theorem dX8_drawn_58 : decode cX8_drawn 58 = .ok (.invokestatic 105, 3) := by decide +kernel
theorem dX8_drawn_61 : decode cX8_drawn 61 = .ok (.aload_n 0, 1) := by decide +kernel
theorem dX8_drawn_62 : decode cX8_drawn 62 = .ok (.getfield 234, 3) := by decide +kernel
theorem dX8_drawn_65 : decode cX8_drawn 65 = .ok (.i2l, 1) := by decide +kernel
theorem dX8_drawn_66 : decode cX8_drawn 66 = .ok (.aload_n 1, 1) := by decide +kernel
theorem dX8_drawn_67 : decode cX8_drawn 67 = .ok (.iload_n 2, 1) := by decide +kernel
theorem dX8_drawn_68 : decode cX8_drawn 68 = .ok (.iaload, 1) := by decide +kernel
theorem dX8_drawn_69 : decode cX8_drawn 69 = .ok (.i2l, 1) := by decide +kernel
theorem dX8_drawn_70 : decode cX8_drawn 70 = .ok (.lmul, 1) := by decide +kernel
theorem dX8_drawn_71 : decode cX8_drawn 71 = .ok (.ldc2_w 211, 3) := by decide +kernel
theorem dX8_drawn_74 : decode cX8_drawn 74 = .ok (.invokestatic 105, 3) := by decide +kernel
theorem dX8_drawn_77 : decode cX8_drawn 77 = .ok (.lsub, 1) := by decide +kernel
theorem dX8_drawn_78 : decode cX8_drawn 78 = .ok (.l2i, 1) := by decide +kernel
theorem dX8_drawn_79 : decode cX8_drawn 79 = .ok (.ireturn, 1) := by decide +kernel
theorem dX8_keeps_0 : decode cX8_keeps 0 = .ok (.iconst 0, 1) := by decide +kernel
theorem dX8_keeps_1 : decode cX8_keeps 1 = .ok (.istore_n 1, 1) := by decide +kernel
theorem dX8_keeps_2 : decode cX8_keeps 2 = .ok (.iload_n 1, 1) := by decide +kernel
theorem dX8_keeps_3 : decode cX8_keeps 3 = .ok (.aload_n 0, 1) := by decide +kernel
theorem dX8_keeps_4 : decode cX8_keeps 4 = .ok (.getfield 70, 3) := by decide +kernel
theorem dX8_keeps_7 : decode cX8_keeps 7 = .ok (.if_icmp .ge 33, 3) := by decide +kernel
theorem dX8_keeps_10 : decode cX8_keeps 10 = .ok (.aload_n 0, 1) := by decide +kernel
theorem dX8_keeps_11 : decode cX8_keeps 11 = .ok (.getfield 79, 3) := by decide +kernel
theorem dX8_keeps_14 : decode cX8_keeps 14 = .ok (.iload_n 1, 1) := by decide +kernel
theorem dX8_keeps_15 : decode cX8_keeps 15 = .ok (.aload_n 0, 1) := by decide +kernel
theorem dX8_keeps_16 : decode cX8_keeps 16 = .ok (.getfield 73, 3) := by decide +kernel
theorem dX8_keeps_19 : decode cX8_keeps 19 = .ok (.iload_n 1, 1) := by decide +kernel
theorem dX8_keeps_20 : decode cX8_keeps 20 = .ok (.iaload, 1) := by decide +kernel
theorem dX8_keeps_21 : decode cX8_keeps 21 = .ok (.iastore, 1) := by decide +kernel
theorem dX8_keeps_22 : decode cX8_keeps 22 = .ok (.aload_n 0, 1) := by decide +kernel
theorem dX8_keeps_23 : decode cX8_keeps 23 = .ok (.getfield 82, 3) := by decide +kernel
theorem dX8_keeps_26 : decode cX8_keeps 26 = .ok (.iload_n 1, 1) := by decide +kernel
theorem dX8_keeps_27 : decode cX8_keeps 27 = .ok (.aload_n 0, 1) := by decide +kernel
theorem dX8_keeps_28 : decode cX8_keeps 28 = .ok (.getfield 76, 3) := by decide +kernel
theorem dX8_keeps_31 : decode cX8_keeps 31 = .ok (.iload_n 1, 1) := by decide +kernel
theorem dX8_keeps_32 : decode cX8_keeps 32 = .ok (.iaload, 1) := by decide +kernel
theorem dX8_keeps_33 : decode cX8_keeps 33 = .ok (.iastore, 1) := by decide +kernel
theorem dX8_keeps_34 : decode cX8_keeps 34 = .ok (.iinc 1 1, 3) := by decide +kernel
theorem dX8_keeps_37 : decode cX8_keeps 37 = .ok (.goto (-35), 3) := by decide +kernel
theorem dX8_keeps_40 : decode cX8_keeps 40 = .ok (.return_, 1) := by decide +kernel
set_option maxRecDepth 20000 in
theorem ggX8_isDone_X8_size : GoodIn wsX8_isDone wsX8_size := goodIn_r _ [10] (by decide +kernel) (by decide +kernel)
set_option maxRecDepth 20000 in
theorem gX8_isDone_X8_size : GoodIn wsX8_isDone (va_wsS RX8 128 yX8_size wsX8_size) := goodIn_app (goodIn_of _ (by decide +kernel)) ggX8_isDone_X8_size
theorem dX8_isDone_0 : decode cX8_isDone 0 = .ok (.iconst 1, 1) := by decide +kernel
theorem dX8_isDone_1 : decode cX8_isDone 1 = .ok (.istore_n 1, 1) := by decide +kernel
theorem dX8_isDone_2 : decode cX8_isDone 2 = .ok (.iconst 0, 1) := by decide +kernel
theorem dX8_isDone_3 : decode cX8_isDone 3 = .ok (.istore_n 2, 1) := by decide +kernel
theorem dX8_isDone_4 : decode cX8_isDone 4 = .ok (.iload_n 2, 1) := by decide +kernel
theorem dX8_isDone_5 : decode cX8_isDone 5 = .ok (.aload_n 0, 1) := by decide +kernel
theorem dX8_isDone_6 : decode cX8_isDone 6 = .ok (.getfield 70, 3) := by decide +kernel
theorem dX8_isDone_9 : decode cX8_isDone 9 = .ok (.if_icmp .ge 53, 3) := by decide +kernel
theorem dX8_isDone_12 : decode cX8_isDone 12 = .ok (.iload_n 1, 1) := by decide +kernel
theorem dX8_isDone_13 : decode cX8_isDone 13 = .ok (.ifCond .eq 41, 3) := by decide +kernel
theorem dX8_isDone_16 : decode cX8_isDone 16 = .ok (.aload_n 0, 1) := by decide +kernel
theorem dX8_isDone_17 : decode cX8_isDone 17 = .ok (.getfield 73, 3) := by decide +kernel
theorem dX8_isDone_20 : decode cX8_isDone 20 = .ok (.iload_n 2, 1) := by decide +kernel
theorem dX8_isDone_21 : decode cX8_isDone 21 = .ok (.iaload, 1) := by decide +kernel
theorem dX8_isDone_22 : decode cX8_isDone 22 = .ok (.i2l, 1) := by decide +kernel
theorem dX8_isDone_23 : decode cX8_isDone 23 = .ok (.invokestatic 128, 3) := by decide +kernel
theorem dX8_isDone_26 : decode cX8_isDone 26 = .ok (.ldc2_w 250, 3) := by decide +kernel
theorem dX8_isDone_29 : decode cX8_isDone 29 = .ok (.lcmp, 1) := by decide +kernel
theorem dX8_isDone_30 : decode cX8_isDone 30 = .ok (.ifCond .gt 24, 3) := by decide +kernel
theorem dX8_isDone_33 : decode cX8_isDone 33 = .ok (.aload_n 0, 1) := by decide +kernel
theorem dX8_isDone_34 : decode cX8_isDone 34 = .ok (.getfield 76, 3) := by decide +kernel
theorem dX8_isDone_37 : decode cX8_isDone 37 = .ok (.iload_n 2, 1) := by decide +kernel
theorem dX8_isDone_38 : decode cX8_isDone 38 = .ok (.iaload, 1) := by decide +kernel
theorem dX8_isDone_39 : decode cX8_isDone 39 = .ok (.i2l, 1) := by decide +kernel
theorem dX8_isDone_40 : decode cX8_isDone 40 = .ok (.invokestatic 128, 3) := by decide +kernel
theorem dX8_isDone_43 : decode cX8_isDone 43 = .ok (.ldc2_w 250, 3) := by decide +kernel
theorem dX8_isDone_46 : decode cX8_isDone 46 = .ok (.lcmp, 1) := by decide +kernel
theorem dX8_isDone_47 : decode cX8_isDone 47 = .ok (.ifCond .gt 7, 3) := by decide +kernel
theorem dX8_isDone_50 : decode cX8_isDone 50 = .ok (.iconst 1, 1) := by decide +kernel
theorem dX8_isDone_51 : decode cX8_isDone 51 = .ok (.goto 4, 3) := by decide +kernel
theorem dX8_isDone_54 : decode cX8_isDone 54 = .ok (.iconst 0, 1) := by decide +kernel
theorem dX8_isDone_55 : decode cX8_isDone 55 = .ok (.istore_n 1, 1) := by decide +kernel
theorem dX8_isDone_56 : decode cX8_isDone 56 = .ok (.iinc 2 1, 3) := by decide +kernel
theorem dX8_isDone_59 : decode cX8_isDone 59 = .ok (.goto (-55), 3) := by decide +kernel
theorem dX8_isDone_62 : decode cX8_isDone 62 = .ok (.iconst 0, 1) := by decide +kernel
theorem dX8_isDone_63 : decode cX8_isDone 63 = .ok (.istore_n 2, 1) := by decide +kernel
theorem dX8_isDone_64 : decode cX8_isDone 64 = .ok (.iload_n 2, 1) := by decide +kernel
theorem dX8_isDone_65 : decode cX8_isDone 65 = .ok (.aload_n 0, 1) := by decide +kernel
theorem dX8_isDone_66 : decode cX8_isDone 66 = .ok (.getfield 70, 3) := by decide +kernel
theorem dX8_isDone_69 : decode cX8_isDone 69 = .ok (.if_icmp .ge 37, 3) := by decide +kernel
theorem dX8_isDone_72 : decode cX8_isDone 72 = .ok (.iload_n 1, 1) := by decide +kernel
theorem dX8_isDone_73 : decode cX8_isDone 73 = .ok (.ifCond .ne 33, 3) := by decide +kernel
theorem dX8_isDone_76 : decode cX8_isDone 76 = .ok (.aload_n 0, 1) := by decide +kernel
theorem dX8_isDone_77 : decode cX8_isDone 77 = .ok (.getfield 73, 3) := by decide +kernel
theorem dX8_isDone_80 : decode cX8_isDone 80 = .ok (.iload_n 2, 1) := by decide +kernel
theorem dX8_isDone_81 : decode cX8_isDone 81 = .ok (.aload_n 0, 1) := by decide +kernel
theorem dX8_isDone_82 : decode cX8_isDone 82 = .ok (.getfield 79, 3) := by decide +kernel
theorem dX8_isDone_85 : decode cX8_isDone 85 = .ok (.iload_n 2, 1) := by decide +kernel
theorem dX8_isDone_86 : decode cX8_isDone 86 = .ok (.iaload, 1) := by decide +kernel
theorem dX8_isDone_87 : decode cX8_isDone 87 = .ok (.iastore, 1) := by decide +kernel
theorem dX8_isDone_88 : decode cX8_isDone 88 = .ok (.aload_n 0, 1) := by decide +kernel
theorem dX8_isDone_89 : decode cX8_isDone 89 = .ok (.getfield 76, 3) := by decide +kernel
theorem dX8_isDone_92 : decode cX8_isDone 92 = .ok (.iload_n 2, 1) := by decide +kernel
theorem dX8_isDone_93 : decode cX8_isDone 93 = .ok (.aload_n 0, 1) := by decide +kernel
theorem dX8_isDone_94 : decode cX8_isDone 94 = .ok (.getfield 82, 3) := by decide +kernel
theorem dX8_isDone_97 : decode cX8_isDone 97 = .ok (.iload_n 2, 1) := by decide +kernel
theorem dX8_isDone_98 : decode cX8_isDone 98 = .ok (.iaload, 1) := by decide +kernel
theorem dX8_isDone_99 : decode cX8_isDone 99 = .ok (.iastore, 1) := by decide +kernel
theorem dX8_isDone_100 : decode cX8_isDone 100 = .ok (.iinc 2 1, 3) := by decide +kernel
theorem dX8_isDone_103 : decode cX8_isDone 103 = .ok (.goto (-39), 3) := by decide +kernel
theorem dX8_isDone_106 : decode cX8_isDone 106 = .ok (.iload_n 1, 1) := by decide +kernel
theorem dX8_isDone_107 : decode cX8_isDone 107 = .ok (.ireturn, 1) := by decide +kernel
set_option maxRecDepth 20000 in
theorem ggX8_steps_X8_keeps : GoodIn wsX8_steps wsX8_keeps := goodIn_r _ [13, 1, 3, 7, 2, 6, 32, 33, 34, 35, 36, 37, 38, 39, 40, 41, 42, 43, 44, 45, 46, 47, 48, 49, 50, 51, 52, 53, 54, 55, 56, 57, 58, 59, 60, 61, 62, 63, 64, 65, 66, 67, 68, 69] (by decide +kernel) (by decide +kernel)
set_option maxRecDepth 20000 in
theorem gX8_steps_X8_keeps : GoodIn wsX8_steps (wsV RX8 252 RX8 yX8_keeps wsX8_keeps) := goodIn_app (goodIn_of _ (by decide +kernel)) ggX8_steps_X8_keeps
set_option maxRecDepth 20000 in
theorem ggX8_steps_X8_drawn : GoodIn wsX8_steps wsX8_drawn := goodIn_r _ [17, 1, 18, 19, 20, 21, 22, 12, 23, 32, 33, 34, 35, 36, 37, 38, 39, 40, 41, 42, 43, 44, 45, 46, 47, 48, 49, 50, 51, 52, 53, 54, 55, 56, 57, 58, 59, 60, 61, 62, 63, 64, 65, 66, 67, 68, 69] (by decide +kernel) (by decide +kernel)
set_option maxRecDepth 20000 in
theorem gX8_steps_X8_drawn : GoodIn wsX8_steps (wsV RX8 255 RX8 yX8_drawn wsX8_drawn) := goodIn_app (goodIn_of _ (by decide +kernel)) ggX8_steps_X8_drawn
set_option maxRecDepth 20000 in
theorem ggX8_steps_X8_isDone : GoodIn wsX8_steps wsX8_isDone := goodIn_r _ [27, 1, 7, 28, 6, 3, 2, 29, 30, 12, 31, 32, 33, 34, 35, 36, 37, 38, 39, 40, 41, 42, 43, 44, 45, 46, 47, 48, 49, 50, 51, 52, 53, 54, 55, 56, 57, 58, 59, 60, 61, 62, 63, 64, 65, 66, 67, 68, 69] (by decide +kernel) (by decide +kernel)
set_option maxRecDepth 20000 in
theorem gX8_steps_X8_isDone : GoodIn wsX8_steps (wsV RX8 259 RX8 yX8_isDone wsX8_isDone) := goodIn_app (goodIn_of _ (by decide +kernel)) ggX8_steps_X8_isDone
theorem dX8_steps_0 : decode cX8_steps 0 = .ok (.aload_n 0, 1) := by decide +kernel
theorem dX8_steps_1 : decode cX8_steps 1 = .ok (.invokevirtual 252, 3) := by decide +kernel
theorem dX8_steps_4 : decode cX8_steps 4 = .ok (.iconst 0, 1) := by decide +kernel
theorem dX8_steps_5 : decode cX8_steps 5 = .ok (.istore_n 1, 1) := by decide +kernel
theorem dX8_steps_6 : decode cX8_steps 6 = .ok (.iload_n 1, 1) := by decide +kernel
theorem dX8_steps_7 : decode cX8_steps 7 = .ok (.aload_n 0, 1) := by decide +kernel
theorem dX8_steps_8 : decode cX8_steps 8 = .ok (.getfield 70, 3) := by decide +kernel
theorem dX8_steps_11 : decode cX8_steps 11 = .ok (.if_icmp .ge 69, 3) := by decide +kernel
theorem dX8_steps_14 : decode cX8_steps 14 = .ok (.aload_n 0, 1) := by decide +kernel
theorem dX8_steps_15 : decode cX8_steps 15 = .ok (.getfield 82, 3) := by decide +kernel
theorem dX8_steps_18 : decode cX8_steps 18 = .ok (.iload_n 1, 1) := by decide +kernel
theorem dX8_steps_19 : decode cX8_steps 19 = .ok (.iaload, 1) := by decide +kernel
theorem dX8_steps_20 : decode cX8_steps 20 = .ok (.i2l, 1) := by decide +kernel
theorem dX8_steps_21 : decode cX8_steps 21 = .ok (.aload_n 0, 1) := by decide +kernel
theorem dX8_steps_22 : decode cX8_steps 22 = .ok (.aload_n 0, 1) := by decide +kernel
theorem dX8_steps_23 : decode cX8_steps 23 = .ok (.getfield 79, 3) := by decide +kernel
theorem dX8_steps_26 : decode cX8_steps 26 = .ok (.iload_n 1, 1) := by decide +kernel
theorem dX8_steps_27 : decode cX8_steps 27 = .ok (.invokevirtual 255, 3) := by decide +kernel
theorem dX8_steps_30 : decode cX8_steps 30 = .ok (.i2l, 1) := by decide +kernel
theorem dX8_steps_31 : decode cX8_steps 31 = .ok (.ladd, 1) := by decide +kernel
theorem dX8_steps_32 : decode cX8_steps 32 = .ok (.lstore_n 2, 1) := by decide +kernel
theorem dX8_steps_33 : decode cX8_steps 33 = .ok (.lload_n 2, 1) := by decide +kernel
theorem dX8_steps_34 : decode cX8_steps 34 = .ok (.lload_n 2, 1) := by decide +kernel
theorem dX8_steps_35 : decode cX8_steps 35 = .ok (.aload_n 0, 1) := by decide +kernel
theorem dX8_steps_36 : decode cX8_steps 36 = .ok (.getfield 244, 3) := by decide +kernel
theorem dX8_steps_39 : decode cX8_steps 39 = .ok (.i2l, 1) := by decide +kernel
theorem dX8_steps_40 : decode cX8_steps 40 = .ok (.lmul, 1) := by decide +kernel
theorem dX8_steps_41 : decode cX8_steps 41 = .ok (.ldc2_w 140, 3) := by decide +kernel
theorem dX8_steps_44 : decode cX8_steps 44 = .ok (.ldiv, 1) := by decide +kernel
theorem dX8_steps_45 : decode cX8_steps 45 = .ok (.lsub, 1) := by decide +kernel
theorem dX8_steps_46 : decode cX8_steps 46 = .ok (.lstore_n 2, 1) := by decide +kernel
theorem dX8_steps_47 : decode cX8_steps 47 = .ok (.aload_n 0, 1) := by decide +kernel
theorem dX8_steps_48 : decode cX8_steps 48 = .ok (.getfield 76, 3) := by decide +kernel
theorem dX8_steps_51 : decode cX8_steps 51 = .ok (.iload_n 1, 1) := by decide +kernel
theorem dX8_steps_52 : decode cX8_steps 52 = .ok (.lload_n 2, 1) := by decide +kernel
theorem dX8_steps_53 : decode cX8_steps 53 = .ok (.l2i, 1) := by decide +kernel
theorem dX8_steps_54 : decode cX8_steps 54 = .ok (.iastore, 1) := by decide +kernel
theorem dX8_steps_55 : decode cX8_steps 55 = .ok (.aload_n 0, 1) := by decide +kernel
theorem dX8_steps_56 : decode cX8_steps 56 = .ok (.getfield 73, 3) := by decide +kernel
theorem dX8_steps_59 : decode cX8_steps 59 = .ok (.iload_n 1, 1) := by decide +kernel
theorem dX8_steps_60 : decode cX8_steps 60 = .ok (.aload_n 0, 1) := by decide +kernel
theorem dX8_steps_61 : decode cX8_steps 61 = .ok (.getfield 79, 3) := by decide +kernel
theorem dX8_steps_64 : decode cX8_steps 64 = .ok (.iload_n 1, 1) := by decide +kernel
theorem dX8_steps_65 : decode cX8_steps 65 = .ok (.iaload, 1) := by decide +kernel
theorem dX8_steps_66 : decode cX8_steps 66 = .ok (.aload_n 0, 1) := by decide +kernel
theorem dX8_steps_67 : decode cX8_steps 67 = .ok (.getfield 76, 3) := by decide +kernel
theorem dX8_steps_70 : decode cX8_steps 70 = .ok (.iload_n 1, 1) := by decide +kernel
theorem dX8_steps_71 : decode cX8_steps 71 = .ok (.iaload, 1) := by decide +kernel
theorem dX8_steps_72 : decode cX8_steps 72 = .ok (.iadd, 1) := by decide +kernel
theorem dX8_steps_73 : decode cX8_steps 73 = .ok (.iastore, 1) := by decide +kernel
theorem dX8_steps_74 : decode cX8_steps 74 = .ok (.iinc 1 1, 3) := by decide +kernel
theorem dX8_steps_77 : decode cX8_steps 77 = .ok (.goto (-71), 3) := by decide +kernel
theorem dX8_steps_80 : decode cX8_steps 80 = .ok (.aload_n 0, 1) := by decide +kernel
theorem dX8_steps_81 : decode cX8_steps 81 = .ok (.getfield 76, 3) := by decide +kernel
theorem dX8_steps_84 : decode cX8_steps 84 = .ok (.iconst 0, 1) := by decide +kernel
theorem dX8_steps_85 : decode cX8_steps 85 = .ok (.dup2, 1) := by decide +kernel
theorem dX8_steps_86 : decode cX8_steps 86 = .ok (.iaload, 1) := by decide +kernel
theorem dX8_steps_87 : decode cX8_steps 87 = .ok (.aload_n 0, 1) := by decide +kernel
theorem dX8_steps_88 : decode cX8_steps 88 = .ok (.getfield 79, 3) := by decide +kernel
theorem dX8_steps_91 : decode cX8_steps 91 = .ok (.iconst 0, 1) := by decide +kernel
theorem dX8_steps_92 : decode cX8_steps 92 = .ok (.iaload, 1) := by decide +kernel
theorem dX8_steps_93 : decode cX8_steps 93 = .ok (.ifCond .ge 19, 3) := by decide +kernel
theorem dX8_steps_96 : decode cX8_steps 96 = .ok (.aload_n 0, 1) := by decide +kernel
theorem dX8_steps_97 : decode cX8_steps 97 = .ok (.getfield 73, 3) := by decide +kernel
theorem dX8_steps_100 : decode cX8_steps 100 = .ok (.iconst 0, 1) := by decide +kernel
theorem dX8_steps_101 : decode cX8_steps 101 = .ok (.iaload, 1) := by decide +kernel
theorem dX8_steps_102 : decode cX8_steps 102 = .ok (.ifCond .lt 10, 3) := by decide +kernel
theorem dX8_steps_105 : decode cX8_steps 105 = .ok (.aload_n 0, 1) := by decide +kernel
theorem dX8_steps_106 : decode cX8_steps 106 = .ok (.getfield 247, 3) := by decide +kernel
theorem dX8_steps_109 : decode cX8_steps 109 = .ok (.goto 4, 3) := by decide +kernel
theorem dX8_steps_112 : decode cX8_steps 112 = .ok (.iconst 0, 1) := by decide +kernel
theorem dX8_steps_113 : decode cX8_steps 113 = .ok (.iadd, 1) := by decide +kernel
theorem dX8_steps_114 : decode cX8_steps 114 = .ok (.iastore, 1) := by decide +kernel
theorem dX8_steps_115 : decode cX8_steps 115 = .ok (.aload_n 0, 1) := by decide +kernel
theorem dX8_steps_116 : decode cX8_steps 116 = .ok (.invokevirtual 259, 3) := by decide +kernel
theorem dX8_steps_119 : decode cX8_steps 119 = .ok (.ireturn, 1) := by decide +kernel
set_option maxRecDepth 20000 in
theorem ggX8_stepsBack_X8_keeps : GoodIn wsX8_stepsBack wsX8_keeps := goodIn_r _ [10, 1, 3, 2, 4, 5, 29, 30, 31, 32, 33, 34, 35, 36, 37, 38, 39, 40, 41, 42, 43, 44, 45, 46, 47, 48, 49, 50, 51, 52, 53, 54, 55, 56, 57, 58, 59, 60, 61, 62, 63, 64, 65, 66] (by decide +kernel) (by decide +kernel)
set_option maxRecDepth 20000 in
theorem gX8_stepsBack_X8_keeps : GoodIn wsX8_stepsBack (wsV RX8 252 RX8 yX8_keeps wsX8_keeps) := goodIn_app (goodIn_of _ (by decide +kernel)) ggX8_stepsBack_X8_keeps
set_option maxRecDepth 20000 in
theorem ggX8_stepsBack_X8_drawn : GoodIn wsX8_stepsBack wsX8_drawn := goodIn_r _ [14, 1, 15, 16, 17, 18, 19, 9, 20, 29, 30, 31, 32, 33, 34, 35, 36, 37, 38, 39, 40, 41, 42, 43, 44, 45, 46, 47, 48, 49, 50, 51, 52, 53, 54, 55, 56, 57, 58, 59, 60, 61, 62, 63, 64, 65, 66] (by decide +kernel) (by decide +kernel)
set_option maxRecDepth 20000 in
theorem gX8_stepsBack_X8_drawn : GoodIn wsX8_stepsBack (wsV RX8 255 RX8 yX8_drawn wsX8_drawn) := goodIn_app (goodIn_of _ (by decide +kernel)) ggX8_stepsBack_X8_drawn
set_option maxRecDepth 20000 in
theorem ggX8_stepsBack_X8_isDone : GoodIn wsX8_stepsBack wsX8_isDone := goodIn_r _ [24, 1, 2, 25, 5, 3, 4, 26, 27, 9, 28, 29, 30, 31, 32, 33, 34, 35, 36, 37, 38, 39, 40, 41, 42, 43, 44, 45, 46, 47, 48, 49, 50, 51, 52, 53, 54, 55, 56, 57, 58, 59, 60, 61, 62, 63, 64, 65, 66] (by decide +kernel) (by decide +kernel)
set_option maxRecDepth 20000 in
theorem gX8_stepsBack_X8_isDone : GoodIn wsX8_stepsBack (wsV RX8 259 RX8 yX8_isDone wsX8_isDone) := goodIn_app (goodIn_of _ (by decide +kernel)) ggX8_stepsBack_X8_isDone
theorem dX8_stepsBack_0 : decode cX8_stepsBack 0 = .ok (.aload_n 0, 1) := by decide +kernel
theorem dX8_stepsBack_1 : decode cX8_stepsBack 1 = .ok (.invokevirtual 252, 3) := by decide +kernel
theorem dX8_stepsBack_4 : decode cX8_stepsBack 4 = .ok (.iconst 0, 1) := by decide +kernel
theorem dX8_stepsBack_5 : decode cX8_stepsBack 5 = .ok (.istore_n 1, 1) := by decide +kernel
theorem dX8_stepsBack_6 : decode cX8_stepsBack 6 = .ok (.iload_n 1, 1) := by decide +kernel
theorem dX8_stepsBack_7 : decode cX8_stepsBack 7 = .ok (.aload_n 0, 1) := by decide +kernel
theorem dX8_stepsBack_8 : decode cX8_stepsBack 8 = .ok (.getfield 70, 3) := by decide +kernel
theorem dX8_stepsBack_11 : decode cX8_stepsBack 11 = .ok (.if_icmp .ge 28, 3) := by decide +kernel
theorem dX8_stepsBack_14 : decode cX8_stepsBack 14 = .ok (.aload_n 0, 1) := by decide +kernel
theorem dX8_stepsBack_15 : decode cX8_stepsBack 15 = .ok (.getfield 73, 3) := by decide +kernel
theorem dX8_stepsBack_18 : decode cX8_stepsBack 18 = .ok (.iload_n 1, 1) := by decide +kernel
theorem dX8_stepsBack_19 : decode cX8_stepsBack 19 = .ok (.aload_n 0, 1) := by decide +kernel
theorem dX8_stepsBack_20 : decode cX8_stepsBack 20 = .ok (.getfield 79, 3) := by decide +kernel
theorem dX8_stepsBack_23 : decode cX8_stepsBack 23 = .ok (.iload_n 1, 1) := by decide +kernel
theorem dX8_stepsBack_24 : decode cX8_stepsBack 24 = .ok (.iaload, 1) := by decide +kernel
theorem dX8_stepsBack_25 : decode cX8_stepsBack 25 = .ok (.aload_n 0, 1) := by decide +kernel
theorem dX8_stepsBack_26 : decode cX8_stepsBack 26 = .ok (.getfield 82, 3) := by decide +kernel
theorem dX8_stepsBack_29 : decode cX8_stepsBack 29 = .ok (.iload_n 1, 1) := by decide +kernel
theorem dX8_stepsBack_30 : decode cX8_stepsBack 30 = .ok (.iaload, 1) := by decide +kernel
theorem dX8_stepsBack_31 : decode cX8_stepsBack 31 = .ok (.isub, 1) := by decide +kernel
theorem dX8_stepsBack_32 : decode cX8_stepsBack 32 = .ok (.iastore, 1) := by decide +kernel
theorem dX8_stepsBack_33 : decode cX8_stepsBack 33 = .ok (.iinc 1 1, 3) := by decide +kernel
theorem dX8_stepsBack_36 : decode cX8_stepsBack 36 = .ok (.goto (-30), 3) := by decide +kernel
theorem dX8_stepsBack_39 : decode cX8_stepsBack 39 = .ok (.iconst 0, 1) := by decide +kernel
theorem dX8_stepsBack_40 : decode cX8_stepsBack 40 = .ok (.istore_n 1, 1) := by decide +kernel
theorem dX8_stepsBack_41 : decode cX8_stepsBack 41 = .ok (.iload_n 1, 1) := by decide +kernel
theorem dX8_stepsBack_42 : decode cX8_stepsBack 42 = .ok (.aload_n 0, 1) := by decide +kernel
theorem dX8_stepsBack_43 : decode cX8_stepsBack 43 = .ok (.getfield 70, 3) := by decide +kernel
theorem dX8_stepsBack_46 : decode cX8_stepsBack 46 = .ok (.if_icmp .ge 31, 3) := by decide +kernel
theorem dX8_stepsBack_49 : decode cX8_stepsBack 49 = .ok (.aload_n 0, 1) := by decide +kernel
theorem dX8_stepsBack_50 : decode cX8_stepsBack 50 = .ok (.getfield 76, 3) := by decide +kernel
theorem dX8_stepsBack_53 : decode cX8_stepsBack 53 = .ok (.iload_n 1, 1) := by decide +kernel
theorem dX8_stepsBack_54 : decode cX8_stepsBack 54 = .ok (.aload_n 0, 1) := by decide +kernel
theorem dX8_stepsBack_55 : decode cX8_stepsBack 55 = .ok (.getfield 82, 3) := by decide +kernel
theorem dX8_stepsBack_58 : decode cX8_stepsBack 58 = .ok (.iload_n 1, 1) := by decide +kernel
theorem dX8_stepsBack_59 : decode cX8_stepsBack 59 = .ok (.iaload, 1) := by decide +kernel
theorem dX8_stepsBack_60 : decode cX8_stepsBack 60 = .ok (.aload_n 0, 1) := by decide +kernel
theorem dX8_stepsBack_61 : decode cX8_stepsBack 61 = .ok (.aload_n 0, 1) := by decide +kernel
theorem dX8_stepsBack_62 : decode cX8_stepsBack 62 = .ok (.getfield 73, 3) := by decide +kernel
theorem dX8_stepsBack_65 : decode cX8_stepsBack 65 = .ok (.iload_n 1, 1) := by decide +kernel
theorem dX8_stepsBack_66 : decode cX8_stepsBack 66 = .ok (.invokevirtual 255, 3) := by decide +kernel
theorem dX8_stepsBack_69 : decode cX8_stepsBack 69 = .ok (.isub, 1) := by decide +kernel
theorem dX8_stepsBack_70 : decode cX8_stepsBack 70 = .ok (.iastore, 1) := by decide +kernel
theorem dX8_stepsBack_71 : decode cX8_stepsBack 71 = .ok (.iinc 1 1, 3) := by decide +kernel
theorem dX8_stepsBack_74 : decode cX8_stepsBack 74 = .ok (.goto (-33), 3) := by decide +kernel
theorem dX8_stepsBack_77 : decode cX8_stepsBack 77 = .ok (.aload_n 0, 1) := by decide +kernel
theorem dX8_stepsBack_78 : decode cX8_stepsBack 78 = .ok (.invokevirtual 259, 3) := by decide +kernel
theorem dX8_stepsBack_81 : decode cX8_stepsBack 81 = .ok (.ireturn, 1) := by decide +kernel
set_option maxRecDepth 20000 in
theorem ggX8_step_X8_isIn : GoodIn wsX8_step wsX8_isIn := goodIn_r _ [5] (by decide +kernel) (by decide +kernel)
set_option maxRecDepth 20000 in
theorem gX8_step_X8_isIn : GoodIn wsX8_step (va_wsS RX8 91 yX8_isIn wsX8_isIn) := goodIn_app (goodIn_of _ (by decide +kernel)) ggX8_step_X8_isIn
set_option maxRecDepth 20000 in
theorem ggX8_step_X8_steps : GoodIn wsX8_step wsX8_steps := goodIn_r _ [9, 10, 11, 12, 13, 14, 15, 16, 17, 18, 19, 20, 4, 21, 22, 23, 24, 25, 26, 27, 28, 29, 30, 31, 32, 33, 34, 35, 36, 37, 38, 39, 40, 41, 42, 43, 44, 45, 46, 47, 48, 49, 50, 51, 52, 53, 54, 55, 56, 57, 58, 59, 60, 61, 62, 63, 64, 65, 66, 67, 68, 69, 70, 71, 72, 73, 74, 75, 76, 77] (by decide +kernel) (by decide +kernel)
set_option maxRecDepth 20000 in
theorem gX8_step_X8_steps : GoodIn wsX8_step (wsV RX8 262 RX8 yX8_steps wsX8_steps) := goodIn_app (goodIn_of _ (by decide +kernel)) ggX8_step_X8_steps
theorem dX8_step_0 : decode cX8_step 0 = .ok (.aload_n 0, 1) := by decide +kernel
theorem dX8_step_1 : decode cX8_step 1 = .ok (.iload_n 1, 1) := by decide +kernel
theorem dX8_step_2 : decode cX8_step 2 = .ok (.iconst 1, 1) := by decide +kernel
theorem dX8_step_3 : decode cX8_step 3 = .ok (.sipush 1000, 3) := by decide +kernel
theorem dX8_step_6 : decode cX8_step 6 = .ok (.invokestatic 91, 3) := by decide +kernel
theorem dX8_step_9 : decode cX8_step 9 = .ok (.ifCond .eq 7, 3) := by decide +kernel
theorem dX8_step_12 : decode cX8_step 12 = .ok (.iconst 0, 1) := by decide +kernel
theorem dX8_step_13 : decode cX8_step 13 = .ok (.goto 4, 3) := by decide +kernel
theorem dX8_step_16 : decode cX8_step 16 = .ok (.iconst 1, 1) := by decide +kernel
theorem dX8_step_17 : decode cX8_step 17 = .ok (.putfield 85, 3) := by decide +kernel
theorem dX8_step_20 : decode cX8_step 20 = .ok (.iconst 0, 1) := by decide +kernel
theorem dX8_step_21 : decode cX8_step 21 = .ok (.istore_n 2, 1) := by decide +kernel
theorem dX8_step_22 : decode cX8_step 22 = .ok (.aload_n 0, 1) := by decide +kernel
theorem dX8_step_23 : decode cX8_step 23 = .ok (.getfield 85, 3) := by decide +kernel
theorem dX8_step_26 : decode cX8_step 26 = .ok (.ifCond .ne 21, 3) := by decide +kernel
theorem dX8_step_29 : decode cX8_step 29 = .ok (.iload_n 2, 1) := by decide +kernel
theorem dX8_step_30 : decode cX8_step 30 = .ok (.iload_n 1, 1) := by decide +kernel
theorem dX8_step_31 : decode cX8_step 31 = .ok (.if_icmp .ge 16, 3) := by decide +kernel
theorem dX8_step_34 : decode cX8_step 34 = .ok (.aload_n 0, 1) := by decide +kernel
theorem dX8_step_35 : decode cX8_step 35 = .ok (.invokevirtual 262, 3) := by decide +kernel
theorem dX8_step_38 : decode cX8_step 38 = .ok (.ifCond .eq 9, 3) := by decide +kernel
theorem dX8_step_41 : decode cX8_step 41 = .ok (.iinc 2 1, 3) := by decide +kernel
theorem dX8_step_44 : decode cX8_step 44 = .ok (.goto (-22), 3) := by decide +kernel
theorem dX8_step_47 : decode cX8_step 47 = .ok (.iload_n 2, 1) := by decide +kernel
theorem dX8_step_48 : decode cX8_step 48 = .ok (.ireturn, 1) := by decide +kernel
set_option maxRecDepth 20000 in
theorem ggX8_back_X8_isIn : GoodIn wsX8_back wsX8_isIn := goodIn_r _ [7] (by decide +kernel) (by decide +kernel)
set_option maxRecDepth 20000 in
theorem gX8_back_X8_isIn : GoodIn wsX8_back (va_wsS RX8 91 yX8_isIn wsX8_isIn) := goodIn_app (goodIn_of _ (by decide +kernel)) ggX8_back_X8_isIn
set_option maxRecDepth 20000 in
theorem ggX8_back_X8_stepsBack : GoodIn wsX8_back wsX8_stepsBack := goodIn_r _ [11, 12, 13, 14, 15, 16, 17, 18, 19, 6, 20, 21, 22, 23, 24, 25, 26, 27, 28, 29, 30, 31, 32, 33, 34, 35, 36, 37, 38, 39, 40, 41, 42, 43, 44, 45, 46, 47, 48, 49, 50, 51, 52, 53, 54, 55, 56, 57, 58, 59, 60, 61, 62, 63, 64, 65, 66, 67, 68, 69, 70, 71, 72, 73, 74, 75, 76] (by decide +kernel) (by decide +kernel)
set_option maxRecDepth 20000 in
theorem gX8_back_X8_stepsBack : GoodIn wsX8_back (wsV RX8 264 RX8 yX8_stepsBack wsX8_stepsBack) := goodIn_app (goodIn_of _ (by decide +kernel)) ggX8_back_X8_stepsBack
theorem dX8_back_0 : decode cX8_back 0 = .ok (.aload_n 0, 1) := by decide +kernel
theorem dX8_back_1 : decode cX8_back 1 = .ok (.iload_n 1, 1) := by decide +kernel
theorem dX8_back_2 : decode cX8_back 2 = .ok (.iconst 1, 1) := by decide +kernel
theorem dX8_back_3 : decode cX8_back 3 = .ok (.sipush 1000, 3) := by decide +kernel
theorem dX8_back_6 : decode cX8_back 6 = .ok (.invokestatic 91, 3) := by decide +kernel
theorem dX8_back_9 : decode cX8_back 9 = .ok (.ifCond .ne 7, 3) := by decide +kernel
theorem dX8_back_12 : decode cX8_back 12 = .ok (.iconst 1, 1) := by decide +kernel
theorem dX8_back_13 : decode cX8_back 13 = .ok (.goto 22, 3) := by decide +kernel
theorem dX8_back_16 : decode cX8_back 16 = .ok (.aload_n 0, 1) := by decide +kernel
theorem dX8_back_17 : decode cX8_back 17 = .ok (.getfield 244, 3) := by decide +kernel
theorem dX8_back_20 : decode cX8_back 20 = .ok (.ifCond .ne 10, 3) := by decide +kernel
theorem dX8_back_23 : decode cX8_back 23 = .ok (.aload_n 0, 1) := by decide +kernel
theorem dX8_back_24 : decode cX8_back 24 = .ok (.getfield 247, 3) := by decide +kernel
theorem dX8_back_27 : decode cX8_back 27 = .ok (.ifCond .eq 7, 3) := by decide +kernel
theorem dX8_back_30 : decode cX8_back 30 = .ok (.iconst 2, 1) := by decide +kernel
theorem dX8_back_31 : decode cX8_back 31 = .ok (.goto 4, 3) := by decide +kernel
theorem dX8_back_34 : decode cX8_back 34 = .ok (.iconst 0, 1) := by decide +kernel
theorem dX8_back_35 : decode cX8_back 35 = .ok (.putfield 85, 3) := by decide +kernel
theorem dX8_back_38 : decode cX8_back 38 = .ok (.iconst 0, 1) := by decide +kernel
theorem dX8_back_39 : decode cX8_back 39 = .ok (.istore_n 2, 1) := by decide +kernel
theorem dX8_back_40 : decode cX8_back 40 = .ok (.aload_n 0, 1) := by decide +kernel
theorem dX8_back_41 : decode cX8_back 41 = .ok (.getfield 85, 3) := by decide +kernel
theorem dX8_back_44 : decode cX8_back 44 = .ok (.ifCond .ne 21, 3) := by decide +kernel
theorem dX8_back_47 : decode cX8_back 47 = .ok (.iload_n 2, 1) := by decide +kernel
theorem dX8_back_48 : decode cX8_back 48 = .ok (.iload_n 1, 1) := by decide +kernel
theorem dX8_back_49 : decode cX8_back 49 = .ok (.if_icmp .ge 16, 3) := by decide +kernel
theorem dX8_back_52 : decode cX8_back 52 = .ok (.aload_n 0, 1) := by decide +kernel
theorem dX8_back_53 : decode cX8_back 53 = .ok (.invokevirtual 264, 3) := by decide +kernel
theorem dX8_back_56 : decode cX8_back 56 = .ok (.ifCond .eq 9, 3) := by decide +kernel
theorem dX8_back_59 : decode cX8_back 59 = .ok (.iinc 2 1, 3) := by decide +kernel
theorem dX8_back_62 : decode cX8_back 62 = .ok (.goto (-22), 3) := by decide +kernel
theorem dX8_back_65 : decode cX8_back 65 = .ok (.iload_n 2, 1) := by decide +kernel
theorem dX8_back_66 : decode cX8_back 66 = .ok (.ireturn, 1) := by decide +kernel
set_option maxRecDepth 20000 in
theorem ggX8_bob_X8_isBob : GoodIn wsX8_bob wsX8_isBob := goodIn_r _ [8, 9, 10, 11, 7, 12, 13, 14, 15, 16, 17, 18, 19, 20, 21, 22, 23, 24, 25, 26, 27, 28, 29, 30, 31, 32, 33, 34, 35, 36, 37, 38, 39, 40, 41, 42, 43, 44, 45, 46, 47, 48, 49, 50] (by decide +kernel) (by decide +kernel)
set_option maxRecDepth 20000 in
theorem gX8_bob_X8_isBob : GoodIn wsX8_bob (wsV RX8 241 RX8 yX8_isBob wsX8_isBob) := goodIn_app (goodIn_of _ (by decide +kernel)) ggX8_bob_X8_isBob
theorem dX8_bob_0 : decode cX8_bob 0 = .ok (.aload_n 0, 1) := by decide +kernel
theorem dX8_bob_1 : decode cX8_bob 1 = .ok (.aload_n 0, 1) := by decide +kernel
theorem dX8_bob_2 : decode cX8_bob 2 = .ok (.iload_n 1, 1) := by decide +kernel
theorem dX8_bob_3 : decode cX8_bob 3 = .ok (.invokevirtual 241, 3) := by decide +kernel
theorem dX8_bob_6 : decode cX8_bob 6 = .ok (.ifCond .eq 7, 3) := by decide +kernel
theorem dX8_bob_9 : decode cX8_bob 9 = .ok (.iconst 0, 1) := by decide +kernel
theorem dX8_bob_10 : decode cX8_bob 10 = .ok (.goto 4, 3) := by decide +kernel
theorem dX8_bob_13 : decode cX8_bob 13 = .ok (.iconst 1, 1) := by decide +kernel
theorem dX8_bob_14 : decode cX8_bob 14 = .ok (.putfield 85, 3) := by decide +kernel
theorem dX8_bob_17 : decode cX8_bob 17 = .ok (.aload_n 0, 1) := by decide +kernel
theorem dX8_bob_18 : decode cX8_bob 18 = .ok (.getfield 85, 3) := by decide +kernel
theorem dX8_bob_21 : decode cX8_bob 21 = .ok (.ifCond .le 5, 3) := by decide +kernel
theorem dX8_bob_24 : decode cX8_bob 24 = .ok (.iconst 0, 1) := by decide +kernel
theorem dX8_bob_25 : decode cX8_bob 25 = .ok (.ireturn, 1) := by decide +kernel
theorem dX8_bob_26 : decode cX8_bob 26 = .ok (.iload_n 2, 1) := by decide +kernel
theorem dX8_bob_27 : decode cX8_bob 27 = .ok (.ifCond .eq 12, 3) := by decide +kernel
theorem dX8_bob_30 : decode cX8_bob 30 = .ok (.aload_n 0, 1) := by decide +kernel
theorem dX8_bob_31 : decode cX8_bob 31 = .ok (.getfield 76, 3) := by decide +kernel
theorem dX8_bob_34 : decode cX8_bob 34 = .ok (.iload_n 1, 1) := by decide +kernel
theorem dX8_bob_35 : decode cX8_bob 35 = .ok (.iaload, 1) := by decide +kernel
theorem dX8_bob_36 : decode cX8_bob 36 = .ok (.goto 9, 3) := by decide +kernel
theorem dX8_bob_39 : decode cX8_bob 39 = .ok (.aload_n 0, 1) := by decide +kernel
theorem dX8_bob_40 : decode cX8_bob 40 = .ok (.getfield 73, 3) := by decide +kernel
theorem dX8_bob_43 : decode cX8_bob 43 = .ok (.iload_n 1, 1) := by decide +kernel
theorem dX8_bob_44 : decode cX8_bob 44 = .ok (.iaload, 1) := by decide +kernel
theorem dX8_bob_45 : decode cX8_bob 45 = .ok (.ireturn, 1) := by decide +kernel
theorem dX8_energyNow_0 : decode cX8_energyNow 0 = .ok (.lconst 0, 1) := by decide +kernel
theorem dX8_energyNow_1 : decode cX8_energyNow 1 = .ok (.lstore_n 1, 1) := by decide +kernel
theorem dX8_energyNow_2 : decode cX8_energyNow 2 = .ok (.iconst 0, 1) := by decide +kernel
theorem dX8_energyNow_3 : decode cX8_energyNow 3 = .ok (.istore_n 3, 1) := by decide +kernel
theorem dX8_energyNow_4 : decode cX8_energyNow 4 = .ok (.iload_n 3, 1) := by decide +kernel
theorem dX8_energyNow_5 : decode cX8_energyNow 5 = .ok (.aload_n 0, 1) := by decide +kernel
theorem dX8_energyNow_6 : decode cX8_energyNow 6 = .ok (.getfield 70, 3) := by decide +kernel
theorem dX8_energyNow_9 : decode cX8_energyNow 9 = .ok (.if_icmp .ge 94, 3) := by decide +kernel
theorem dX8_energyNow_12 : decode cX8_energyNow 12 = .ok (.lload_n 1, 1) := by decide +kernel
theorem dX8_energyNow_13 : decode cX8_energyNow 13 = .ok (.ldc2_w 211, 3) := by decide +kernel
theorem dX8_energyNow_16 : decode cX8_energyNow 16 = .ok (.aload_n 0, 1) := by decide +kernel
theorem dX8_energyNow_17 : decode cX8_energyNow 17 = .ok (.getfield 76, 3) := by decide +kernel
theorem dX8_energyNow_20 : decode cX8_energyNow 20 = .ok (.iload_n 3, 1) := by decide +kernel
theorem dX8_energyNow_21 : decode cX8_energyNow 21 = .ok (.iaload, 1) := by decide +kernel
theorem dX8_energyNow_22 : decode cX8_energyNow 22 = .ok (.i2l, 1) := by decide +kernel
theorem dX8_energyNow_23 : decode cX8_energyNow 23 = .ok (.lmul, 1) := by decide +kernel
theorem dX8_energyNow_24 : decode cX8_energyNow 24 = .ok (.aload_n 0, 1) := by decide +kernel
theorem dX8_energyNow_25 : decode cX8_energyNow 25 = .ok (.getfield 76, 3) := by decide +kernel
theorem dX8_energyNow_28 : decode cX8_energyNow 28 = .ok (.iload_n 3, 1) := by decide +kernel
theorem dX8_energyNow_29 : decode cX8_energyNow 29 = .ok (.iaload, 1) := by decide +kernel
theorem dX8_energyNow_30 : decode cX8_energyNow 30 = .ok (.i2l, 1) := by decide +kernel
theorem dX8_energyNow_31 : decode cX8_energyNow 31 = .ok (.lmul, 1) := by decide +kernel
theorem dX8_energyNow_32 : decode cX8_energyNow 32 = .ok (.aload_n 0, 1) := by decide +kernel
theorem dX8_energyNow_33 : decode cX8_energyNow 33 = .ok (.getfield 234, 3) := by decide +kernel
theorem dX8_energyNow_36 : decode cX8_energyNow 36 = .ok (.i2l, 1) := by decide +kernel
theorem dX8_energyNow_37 : decode cX8_energyNow 37 = .ok (.aload_n 0, 1) := by decide +kernel
theorem dX8_energyNow_38 : decode cX8_energyNow 38 = .ok (.getfield 73, 3) := by decide +kernel
theorem dX8_energyNow_41 : decode cX8_energyNow 41 = .ok (.iload_n 3, 1) := by decide +kernel
theorem dX8_energyNow_42 : decode cX8_energyNow 42 = .ok (.iaload, 1) := by decide +kernel
theorem dX8_energyNow_43 : decode cX8_energyNow 43 = .ok (.i2l, 1) := by decide +kernel
theorem dX8_energyNow_44 : decode cX8_energyNow 44 = .ok (.lmul, 1) := by decide +kernel
theorem dX8_energyNow_45 : decode cX8_energyNow 45 = .ok (.aload_n 0, 1) := by decide +kernel
theorem dX8_energyNow_46 : decode cX8_energyNow 46 = .ok (.getfield 73, 3) := by decide +kernel
theorem dX8_energyNow_49 : decode cX8_energyNow 49 = .ok (.iload_n 3, 1) := by decide +kernel
theorem dX8_energyNow_50 : decode cX8_energyNow 50 = .ok (.iaload, 1) := by decide +kernel
theorem dX8_energyNow_51 : decode cX8_energyNow 51 = .ok (.i2l, 1) := by decide +kernel
theorem dX8_energyNow_52 : decode cX8_energyNow 52 = .ok (.lmul, 1) := by decide +kernel
theorem dX8_energyNow_53 : decode cX8_energyNow 53 = .ok (.ladd, 1) := by decide +kernel
theorem dX8_energyNow_54 : decode cX8_energyNow 54 = .ok (.ladd, 1) := by decide +kernel
theorem dX8_energyNow_55 : decode cX8_energyNow 55 = .ok (.lstore_n 1, 1) := by decide +kernel
theorem dX8_energyNow_56 : decode cX8_energyNow 56 = .ok (.iload_n 3, 1) := by decide +kernel
theorem dX8_energyNow_57 : decode cX8_energyNow 57 = .ok (.ifCond .le 23, 3) := by decide +kernel
theorem dX8_energyNow_60 : decode cX8_energyNow 60 = .ok (.aload_n 0, 1) := by decide +kernel
theorem dX8_energyNow_61 : decode cX8_energyNow 61 = .ok (.getfield 73, 3) := by decide +kernel
theorem dX8_energyNow_64 : decode cX8_energyNow 64 = .ok (.iload_n 3, 1) := by decide +kernel
theorem dX8_energyNow_65 : decode cX8_energyNow 65 = .ok (.iaload, 1) := by decide +kernel
theorem dX8_energyNow_66 : decode cX8_energyNow 66 = .ok (.i2l, 1) := by decide +kernel
theorem dX8_energyNow_67 : decode cX8_energyNow 67 = .ok (.aload_n 0, 1) := by decide +kernel
theorem dX8_energyNow_68 : decode cX8_energyNow 68 = .ok (.getfield 73, 3) := by decide +kernel
theorem dX8_energyNow_71 : decode cX8_energyNow 71 = .ok (.iload_n 3, 1) := by decide +kernel
theorem dX8_energyNow_72 : decode cX8_energyNow 72 = .ok (.iconst 1, 1) := by decide +kernel
theorem dX8_energyNow_73 : decode cX8_energyNow 73 = .ok (.isub, 1) := by decide +kernel
theorem dX8_energyNow_74 : decode cX8_energyNow 74 = .ok (.iaload, 1) := by decide +kernel
theorem dX8_energyNow_75 : decode cX8_energyNow 75 = .ok (.i2l, 1) := by decide +kernel
theorem dX8_energyNow_76 : decode cX8_energyNow 76 = .ok (.lsub, 1) := by decide +kernel
theorem dX8_energyNow_77 : decode cX8_energyNow 77 = .ok (.goto 4, 3) := by decide +kernel
theorem dX8_energyNow_80 : decode cX8_energyNow 80 = .ok (.lconst 0, 1) := by decide +kernel
theorem dX8_energyNow_81 : decode cX8_energyNow 81 = .ok (.lstore 4, 2) := by decide +kernel
theorem dX8_energyNow_83 : decode cX8_energyNow 83 = .ok (.lload_n 1, 1) := by decide +kernel
theorem dX8_energyNow_84 : decode cX8_energyNow 84 = .ok (.aload_n 0, 1) := by decide +kernel
theorem dX8_energyNow_85 : decode cX8_energyNow 85 = .ok (.getfield 237, 3) := by decide +kernel
theorem dX8_energyNow_88 : decode cX8_energyNow 88 = .ok (.i2l, 1) := by decide +kernel
theorem dX8_energyNow_89 : decode cX8_energyNow 89 = .ok (.lload 4, 2) := by decide +kernel
theorem dX8_energyNow_91 : decode cX8_energyNow 91 = .ok (.lmul, 1) := by decide +kernel
theorem dX8_energyNow_92 : decode cX8_energyNow 92 = .ok (.lload 4, 2) := by decide +kernel
theorem dX8_energyNow_94 : decode cX8_energyNow 94 = .ok (.lmul, 1) := by decide +kernel
theorem dX8_energyNow_95 : decode cX8_energyNow 95 = .ok (.ladd, 1) := by decide +kernel
theorem dX8_energyNow_96 : decode cX8_energyNow 96 = .ok (.lstore_n 1, 1) := by decide +kernel
theorem dX8_energyNow_97 : decode cX8_energyNow 97 = .ok (.iinc 3 1, 3) := by decide +kernel
theorem dX8_energyNow_100 : decode cX8_energyNow 100 = .ok (.goto (-96), 3) := by decide +kernel
theorem dX8_energyNow_103 : decode cX8_energyNow 103 = .ok (.lload_n 1, 1) := by decide +kernel
theorem dX8_energyNow_104 : decode cX8_energyNow 104 = .ok (.lreturn, 1) := by decide +kernel
set_option maxRecDepth 20000 in
theorem ggX8_energy_X8_energyNow : GoodIn wsX8_energy wsX8_energyNow := goodIn_r _ [6, 7, 8, 9, 10, 11, 12, 13, 14, 15, 16, 17, 18, 19, 20, 21, 22, 23, 24, 25, 26, 27, 28, 29, 30, 31, 32, 33, 34, 35, 36, 37, 38, 39, 40, 41, 42, 43, 44, 45, 46, 47, 48, 49, 50] (by decide +kernel) (by decide +kernel)
set_option maxRecDepth 20000 in
theorem gX8_energy_X8_energyNow : GoodIn wsX8_energy (wsV RX8 267 RX8 yX8_energyNow wsX8_energyNow) := goodIn_app (goodIn_of _ (by decide +kernel)) ggX8_energy_X8_energyNow
theorem dX8_energy_0 : decode cX8_energy 0 = .ok (.aload_n 0, 1) := by decide +kernel
theorem dX8_energy_1 : decode cX8_energy 1 = .ok (.iconst 0, 1) := by decide +kernel
theorem dX8_energy_2 : decode cX8_energy 2 = .ok (.putfield 85, 3) := by decide +kernel
theorem dX8_energy_5 : decode cX8_energy 5 = .ok (.aload_n 0, 1) := by decide +kernel
theorem dX8_energy_6 : decode cX8_energy 6 = .ok (.invokevirtual 267, 3) := by decide +kernel
theorem dX8_energy_9 : decode cX8_energy 9 = .ok (.lreturn, 1) := by decide +kernel
set_option maxRecDepth 20000 in
theorem ggX8_share_X8_energyNow : GoodIn wsX8_share wsX8_energyNow := goodIn_r _ [7, 2, 8, 9, 10, 11, 12, 13, 14, 15, 16, 17, 18, 19, 20, 21, 22, 23, 24, 25, 26, 27, 28, 29, 30, 31, 32, 33, 34, 35, 36, 37, 38, 39, 40, 41, 42, 43, 44, 45, 46, 47, 48, 49, 50] (by decide +kernel) (by decide +kernel)
set_option maxRecDepth 20000 in
theorem gX8_share_X8_energyNow : GoodIn wsX8_share (wsV RX8 267 RX8 yX8_energyNow wsX8_energyNow) := goodIn_app (goodIn_of _ (by decide +kernel)) ggX8_share_X8_energyNow
theorem dX8_share_0 : decode cX8_share 0 = .ok (.aload_n 0, 1) := by decide +kernel
theorem dX8_share_1 : decode cX8_share 1 = .ok (.iconst 0, 1) := by decide +kernel
theorem dX8_share_2 : decode cX8_share 2 = .ok (.putfield 85, 3) := by decide +kernel
theorem dX8_share_5 : decode cX8_share 5 = .ok (.aload_n 0, 1) := by decide +kernel
theorem dX8_share_6 : decode cX8_share 6 = .ok (.invokevirtual 267, 3) := by decide +kernel
theorem dX8_share_9 : decode cX8_share 9 = .ok (.l2f, 1) := by decide +kernel
theorem dX8_share_10 : decode cX8_share 10 = .ok (.aload_n 0, 1) := by decide +kernel
theorem dX8_share_11 : decode cX8_share 11 = .ok (.getfield 70, 3) := by decide +kernel
theorem dX8_share_14 : decode cX8_share 14 = .ok (.i2f, 1) := by decide +kernel
theorem dX8_share_15 : decode cX8_share 15 = .ok (.fdiv, 1) := by decide +kernel
theorem dX8_share_16 : decode cX8_share 16 = .ok (.freturn, 1) := by decide +kernel
set_option maxRecDepth 20000 in
theorem ggX8_trusted_X8_trusts : GoodIn wsX8_trusted wsX8_trusts := goodIn_r _ [6, 7, 8, 9, 10, 11, 5, 12, 1, 13, 14, 15, 16, 17, 18, 19, 20, 21, 22, 23, 24, 25, 26, 27, 28, 29, 30, 31, 32, 33, 34, 35, 36, 37, 38, 39, 40, 41, 42, 43, 44, 45, 46, 47, 48, 49, 50, 51, 52, 53, 54, 55, 56, 57, 58] (by decide +kernel) (by decide +kernel)
set_option maxRecDepth 20000 in
theorem gX8_trusted_X8_trusts : GoodIn wsX8_trusted (wsV RX8 134 RX8 yX8_trusts wsX8_trusts) := goodIn_app (goodIn_of _ (by decide +kernel)) ggX8_trusted_X8_trusts
theorem dX8_trusted_0 : decode cX8_trusted 0 = .ok (.iconst 0, 1) := by decide +kernel
theorem dX8_trusted_1 : decode cX8_trusted 1 = .ok (.istore_n 1, 1) := by decide +kernel
theorem dX8_trusted_2 : decode cX8_trusted 2 = .ok (.iconst 0, 1) := by decide +kernel
theorem dX8_trusted_3 : decode cX8_trusted 3 = .ok (.istore_n 2, 1) := by decide +kernel
theorem dX8_trusted_4 : decode cX8_trusted 4 = .ok (.iload_n 2, 1) := by decide +kernel
theorem dX8_trusted_5 : decode cX8_trusted 5 = .ok (.aload_n 0, 1) := by decide +kernel
theorem dX8_trusted_6 : decode cX8_trusted 6 = .ok (.getfield 88, 3) := by decide +kernel
theorem dX8_trusted_9 : decode cX8_trusted 9 = .ok (.if_icmp .ge 25, 3) := by decide +kernel
theorem dX8_trusted_12 : decode cX8_trusted 12 = .ok (.iload_n 1, 1) := by decide +kernel
theorem dX8_trusted_13 : decode cX8_trusted 13 = .ok (.aload_n 0, 1) := by decide +kernel
theorem dX8_trusted_14 : decode cX8_trusted 14 = .ok (.iload_n 2, 1) := by decide +kernel
theorem dX8_trusted_15 : decode cX8_trusted 15 = .ok (.invokevirtual 134, 3) := by decide +kernel
theorem dX8_trusted_18 : decode cX8_trusted 18 = .ok (.ifCond .eq 7, 3) := by decide +kernel
theorem dX8_trusted_21 : decode cX8_trusted 21 = .ok (.iconst 1, 1) := by decide +kernel
theorem dX8_trusted_22 : decode cX8_trusted 22 = .ok (.goto 4, 3) := by decide +kernel
theorem dX8_trusted_25 : decode cX8_trusted 25 = .ok (.iconst 0, 1) := by decide +kernel
theorem dX8_trusted_26 : decode cX8_trusted 26 = .ok (.iadd, 1) := by decide +kernel
theorem dX8_trusted_27 : decode cX8_trusted 27 = .ok (.istore_n 1, 1) := by decide +kernel
theorem dX8_trusted_28 : decode cX8_trusted 28 = .ok (.iinc 2 1, 3) := by decide +kernel
theorem dX8_trusted_31 : decode cX8_trusted 31 = .ok (.goto (-27), 3) := by decide +kernel
theorem dX8_trusted_34 : decode cX8_trusted 34 = .ok (.iload_n 1, 1) := by decide +kernel
theorem dX8_trusted_35 : decode cX8_trusted 35 = .ok (.ireturn, 1) := by decide +kernel
theorem dX8_tied_0 : decode cX8_tied 0 = .ok (.iconst 0, 1) := by decide +kernel
theorem dX8_tied_1 : decode cX8_tied 1 = .ok (.istore_n 1, 1) := by decide +kernel
theorem dX8_tied_2 : decode cX8_tied 2 = .ok (.iconst 0, 1) := by decide +kernel
theorem dX8_tied_3 : decode cX8_tied 3 = .ok (.istore_n 2, 1) := by decide +kernel
theorem dX8_tied_4 : decode cX8_tied 4 = .ok (.iload_n 2, 1) := by decide +kernel
theorem dX8_tied_5 : decode cX8_tied 5 = .ok (.bipush 100, 2) := by decide +kernel
theorem dX8_tied_7 : decode cX8_tied 7 = .ok (.if_icmp .ge 26, 3) := by decide +kernel
theorem dX8_tied_10 : decode cX8_tied 10 = .ok (.iload_n 1, 1) := by decide +kernel
theorem dX8_tied_11 : decode cX8_tied 11 = .ok (.aload_n 0, 1) := by decide +kernel
theorem dX8_tied_12 : decode cX8_tied 12 = .ok (.getfield 55, 3) := by decide +kernel
theorem dX8_tied_15 : decode cX8_tied 15 = .ok (.iload_n 2, 1) := by decide +kernel
theorem dX8_tied_16 : decode cX8_tied 16 = .ok (.baload, 1) := by decide +kernel
theorem dX8_tied_17 : decode cX8_tied 17 = .ok (.ifCond .eq 7, 3) := by decide +kernel
theorem dX8_tied_20 : decode cX8_tied 20 = .ok (.iconst 1, 1) := by decide +kernel
theorem dX8_tied_21 : decode cX8_tied 21 = .ok (.goto 4, 3) := by decide +kernel
theorem dX8_tied_24 : decode cX8_tied 24 = .ok (.iconst 0, 1) := by decide +kernel
theorem dX8_tied_25 : decode cX8_tied 25 = .ok (.iadd, 1) := by decide +kernel
theorem dX8_tied_26 : decode cX8_tied 26 = .ok (.istore_n 1, 1) := by decide +kernel
theorem dX8_tied_27 : decode cX8_tied 27 = .ok (.iinc 2 1, 3) := by decide +kernel
theorem dX8_tied_30 : decode cX8_tied 30 = .ok (.goto (-26), 3) := by decide +kernel
theorem dX8_tied_33 : decode cX8_tied 33 = .ok (.iload_n 1, 1) := by decide +kernel
theorem dX8_tied_34 : decode cX8_tied 34 = .ok (.iconst 2, 1) := by decide +kernel
theorem dX8_tied_35 : decode cX8_tied 35 = .ok (.idiv, 1) := by decide +kernel
theorem dX8_tied_36 : decode cX8_tied 36 = .ok (.ireturn, 1) := by decide +kernel
set_option maxRecDepth 20000 in
theorem ggX8_led_X8_weighs : GoodIn wsX8_led wsX8_weighs := goodIn_r _ [6, 1, 7, 8, 9, 10, 11, 12, 13, 14, 15, 16, 17, 18, 19, 20, 21, 22, 23, 24, 25, 26, 27, 28, 29, 30, 31, 32, 33, 34, 35, 36, 37, 38, 39, 40, 41, 42, 43, 44, 45, 46, 47, 48, 49] (by decide +kernel) (by decide +kernel)
set_option maxRecDepth 20000 in
theorem gX8_led_X8_weighs : GoodIn wsX8_led (wsV RX8 197 RX8 yX8_weighs wsX8_weighs) := goodIn_app (goodIn_of _ (by decide +kernel)) ggX8_led_X8_weighs
theorem dX8_led_0 : decode cX8_led 0 = .ok (.aload_n 0, 1) := by decide +kernel
theorem dX8_led_1 : decode cX8_led 1 = .ok (.invokevirtual 197, 3) := by decide +kernel
theorem dX8_led_4 : decode cX8_led 4 = .ok (.iconst 0, 1) := by decide +kernel
theorem dX8_led_5 : decode cX8_led 5 = .ok (.istore_n 1, 1) := by decide +kernel
theorem dX8_led_6 : decode cX8_led 6 = .ok (.iconst 0, 1) := by decide +kernel
theorem dX8_led_7 : decode cX8_led 7 = .ok (.istore_n 2, 1) := by decide +kernel
theorem dX8_led_8 : decode cX8_led 8 = .ok (.iload_n 2, 1) := by decide +kernel
theorem dX8_led_9 : decode cX8_led 9 = .ok (.bipush 10, 2) := by decide +kernel
theorem dX8_led_11 : decode cX8_led 11 = .ok (.if_icmp .ge 27, 3) := by decide +kernel
theorem dX8_led_14 : decode cX8_led 14 = .ok (.iload_n 1, 1) := by decide +kernel
theorem dX8_led_15 : decode cX8_led 15 = .ok (.aload_n 0, 1) := by decide +kernel
theorem dX8_led_16 : decode cX8_led 16 = .ok (.getfield 61, 3) := by decide +kernel
theorem dX8_led_19 : decode cX8_led 19 = .ok (.iload_n 2, 1) := by decide +kernel
theorem dX8_led_20 : decode cX8_led 20 = .ok (.iaload, 1) := by decide +kernel
theorem dX8_led_21 : decode cX8_led 21 = .ok (.iconst (-1), 1) := by decide +kernel
theorem dX8_led_22 : decode cX8_led 22 = .ok (.if_icmp .eq 7, 3) := by decide +kernel
theorem dX8_led_25 : decode cX8_led 25 = .ok (.iconst 1, 1) := by decide +kernel
theorem dX8_led_26 : decode cX8_led 26 = .ok (.goto 4, 3) := by decide +kernel
theorem dX8_led_29 : decode cX8_led 29 = .ok (.iconst 0, 1) := by decide +kernel
theorem dX8_led_30 : decode cX8_led 30 = .ok (.iadd, 1) := by decide +kernel
theorem dX8_led_31 : decode cX8_led 31 = .ok (.istore_n 1, 1) := by decide +kernel
theorem dX8_led_32 : decode cX8_led 32 = .ok (.iinc 2 1, 3) := by decide +kernel
theorem dX8_led_35 : decode cX8_led 35 = .ok (.goto (-27), 3) := by decide +kernel
theorem dX8_led_38 : decode cX8_led 38 = .ok (.iload_n 1, 1) := by decide +kernel
theorem dX8_led_39 : decode cX8_led 39 = .ok (.ireturn, 1) := by decide +kernel
set_option maxRecDepth 20000 in
theorem ggX8_count_X8_isIn : GoodIn wsX8_count wsX8_isIn := goodIn_r _ [8] (by decide +kernel) (by decide +kernel)
set_option maxRecDepth 20000 in
theorem gX8_count_X8_isIn : GoodIn wsX8_count (va_wsS RX8 91 yX8_isIn wsX8_isIn) := goodIn_app (goodIn_of _ (by decide +kernel)) ggX8_count_X8_isIn
set_option maxRecDepth 20000 in
theorem ggX8_count_X8_trusted : GoodIn wsX8_count wsX8_trusted := goodIn_r _ [12, 2, 13, 14, 15, 7, 16, 17, 18, 19, 20, 21, 22, 23, 24, 25, 26, 27, 28, 29, 30, 49, 50, 51, 52, 53, 54, 55, 56, 57, 58, 59, 60, 61, 62, 63, 64, 65, 66, 67, 68, 69, 70, 71, 72, 73, 74, 75, 76, 77, 78, 79, 80, 81, 82, 83, 84, 85, 86] (by decide +kernel) (by decide +kernel)
set_option maxRecDepth 20000 in
theorem gX8_count_X8_trusted : GoodIn wsX8_count (wsV RX8 270 RX8 yX8_trusted wsX8_trusted) := goodIn_app (goodIn_of _ (by decide +kernel)) ggX8_count_X8_trusted
set_option maxRecDepth 20000 in
theorem ggX8_count_X8_tied : GoodIn wsX8_count wsX8_tied := goodIn_r _ [34, 35, 49, 50, 51, 52, 53, 54, 55, 56, 57, 58, 59, 60, 61, 62, 63, 64, 65, 66, 67, 68, 69, 70, 71, 72, 73, 74, 75, 76, 77, 78, 79, 80, 81, 82, 83, 84, 85, 86] (by decide +kernel) (by decide +kernel)
set_option maxRecDepth 20000 in
theorem gX8_count_X8_tied : GoodIn wsX8_count (wsV RX8 274 RX8 yX8_tied wsX8_tied) := goodIn_app (goodIn_of _ (by decide +kernel)) ggX8_count_X8_tied
set_option maxRecDepth 20000 in
theorem ggX8_count_X8_led : GoodIn wsX8_count wsX8_led := goodIn_r _ [39, 40, 41, 42, 43, 7, 44, 45, 46, 47, 35, 48, 49, 50, 51, 52, 53, 54, 55, 56, 57, 58, 59, 60, 61, 62, 63, 64, 65, 66, 67, 68, 69, 70, 71, 72, 73, 74, 75, 76, 77, 78, 79, 80, 81, 82, 83, 84, 85, 86] (by decide +kernel) (by decide +kernel)
set_option maxRecDepth 20000 in
theorem gX8_count_X8_led : GoodIn wsX8_count (wsV RX8 277 RX8 yX8_led wsX8_led) := goodIn_app (goodIn_of _ (by decide +kernel)) ggX8_count_X8_led
theorem dX8_count_0 : decode cX8_count 0 = .ok (.aload_n 0, 1) := by decide +kernel
theorem dX8_count_1 : decode cX8_count 1 = .ok (.iload_n 1, 1) := by decide +kernel
theorem dX8_count_2 : decode cX8_count 2 = .ok (.iconst 0, 1) := by decide +kernel
theorem dX8_count_3 : decode cX8_count 3 = .ok (.iconst 5, 1) := by decide +kernel
theorem dX8_count_4 : decode cX8_count 4 = .ok (.invokestatic 91, 3) := by decide +kernel
theorem dX8_count_7 : decode cX8_count 7 = .ok (.ifCond .eq 7, 3) := by decide +kernel
theorem dX8_count_10 : decode cX8_count 10 = .ok (.iconst 0, 1) := by decide +kernel
theorem dX8_count_11 : decode cX8_count 11 = .ok (.goto 4, 3) := by decide +kernel
theorem dX8_count_14 : decode cX8_count 14 = .ok (.iconst 1, 1) := by decide +kernel
theorem dX8_count_15 : decode cX8_count 15 = .ok (.putfield 85, 3) := by decide +kernel
theorem dX8_count_18 : decode cX8_count 18 = .ok (.aload_n 0, 1) := by decide +kernel
theorem dX8_count_19 : decode cX8_count 19 = .ok (.getfield 85, 3) := by decide +kernel
theorem dX8_count_22 : decode cX8_count 22 = .ok (.ifCond .le 5, 3) := by decide +kernel
theorem dX8_count_25 : decode cX8_count 25 = .ok (.iconst 0, 1) := by decide +kernel
theorem dX8_count_26 : decode cX8_count 26 = .ok (.ireturn, 1) := by decide +kernel
theorem dX8_count_27 : decode cX8_count 27 = .ok (.iload_n 1, 1) := by decide +kernel
theorem dX8_count_28 : decode cX8_count 28 = .ok (.tableswitch 61 0 4 #[36, 41, 46, 51, 56], 36) := by decide +kernel
theorem dX8_count_64 : decode cX8_count 64 = .ok (.aload_n 0, 1) := by decide +kernel
theorem dX8_count_65 : decode cX8_count 65 = .ok (.getfield 88, 3) := by decide +kernel
theorem dX8_count_68 : decode cX8_count 68 = .ok (.ireturn, 1) := by decide +kernel
theorem dX8_count_69 : decode cX8_count 69 = .ok (.aload_n 0, 1) := by decide +kernel
theorem dX8_count_70 : decode cX8_count 70 = .ok (.invokevirtual 270, 3) := by decide +kernel
theorem dX8_count_73 : decode cX8_count 73 = .ok (.ireturn, 1) := by decide +kernel
theorem dX8_count_74 : decode cX8_count 74 = .ok (.aload_n 0, 1) := by decide +kernel
theorem dX8_count_75 : decode cX8_count 75 = .ok (.getfield 187, 3) := by decide +kernel
theorem dX8_count_78 : decode cX8_count 78 = .ok (.ireturn, 1) := by decide +kernel
theorem dX8_count_79 : decode cX8_count 79 = .ok (.aload_n 0, 1) := by decide +kernel
theorem dX8_count_80 : decode cX8_count 80 = .ok (.invokevirtual 274, 3) := by decide +kernel
theorem dX8_count_83 : decode cX8_count 83 = .ok (.ireturn, 1) := by decide +kernel
theorem dX8_count_84 : decode cX8_count 84 = .ok (.aload_n 0, 1) := by decide +kernel
theorem dX8_count_85 : decode cX8_count 85 = .ok (.invokevirtual 277, 3) := by decide +kernel
theorem dX8_count_88 : decode cX8_count 88 = .ok (.ireturn, 1) := by decide +kernel
theorem dX8_count_89 : decode cX8_count 89 = .ok (.aload_n 0, 1) := by decide +kernel
theorem dX8_count_90 : decode cX8_count 90 = .ok (.getfield 70, 3) := by decide +kernel
theorem dX8_count_93 : decode cX8_count 93 = .ok (.ireturn, 1) := by decide +kernel
theorem dJ9_floorDiv_7cf53_0 : decode cJ9_floorDiv_7cf53 0 = .ok (.iload_n 0, 1) := by decide +kernel
theorem dJ9_floorDiv_7cf53_1 : decode cJ9_floorDiv_7cf53 1 = .ok (.iload_n 1, 1) := by decide +kernel
theorem dJ9_floorDiv_7cf53_2 : decode cJ9_floorDiv_7cf53 2 = .ok (.idiv, 1) := by decide +kernel
theorem dJ9_floorDiv_7cf53_3 : decode cJ9_floorDiv_7cf53 3 = .ok (.istore_n 2, 1) := by decide +kernel
theorem dJ9_floorDiv_7cf53_4 : decode cJ9_floorDiv_7cf53 4 = .ok (.iload_n 0, 1) := by decide +kernel
theorem dJ9_floorDiv_7cf53_5 : decode cJ9_floorDiv_7cf53 5 = .ok (.iload_n 1, 1) := by decide +kernel
theorem dJ9_floorDiv_7cf53_6 : decode cJ9_floorDiv_7cf53 6 = .ok (.ixor, 1) := by decide +kernel
theorem dJ9_floorDiv_7cf53_7 : decode cJ9_floorDiv_7cf53 7 = .ok (.ifCond .ge 14, 3) := by decide +kernel
theorem dJ9_floorDiv_7cf53_10 : decode cJ9_floorDiv_7cf53 10 = .ok (.iload_n 2, 1) := by decide +kernel
theorem dJ9_floorDiv_7cf53_11 : decode cJ9_floorDiv_7cf53 11 = .ok (.iload_n 1, 1) := by decide +kernel
theorem dJ9_floorDiv_7cf53_12 : decode cJ9_floorDiv_7cf53 12 = .ok (.imul, 1) := by decide +kernel
theorem dJ9_floorDiv_7cf53_13 : decode cJ9_floorDiv_7cf53 13 = .ok (.iload_n 0, 1) := by decide +kernel
theorem dJ9_floorDiv_7cf53_14 : decode cJ9_floorDiv_7cf53 14 = .ok (.if_icmp .eq 7, 3) := by decide +kernel
theorem dJ9_floorDiv_7cf53_17 : decode cJ9_floorDiv_7cf53 17 = .ok (.iload_n 2, 1) := by decide +kernel
theorem dJ9_floorDiv_7cf53_18 : decode cJ9_floorDiv_7cf53 18 = .ok (.iconst 1, 1) := by decide +kernel
theorem dJ9_floorDiv_7cf53_19 : decode cJ9_floorDiv_7cf53 19 = .ok (.isub, 1) := by decide +kernel
theorem dJ9_floorDiv_7cf53_20 : decode cJ9_floorDiv_7cf53 20 = .ok (.ireturn, 1) := by decide +kernel
theorem dJ9_floorDiv_7cf53_21 : decode cJ9_floorDiv_7cf53 21 = .ok (.iload_n 2, 1) := by decide +kernel
theorem dJ9_floorDiv_7cf53_22 : decode cJ9_floorDiv_7cf53 22 = .ok (.ireturn, 1) := by decide +kernel
theorem dJ9_floorDiv_f86c9_0 : decode cJ9_floorDiv_f86c9 0 = .ok (.lload_n 0, 1) := by decide +kernel
theorem dJ9_floorDiv_f86c9_1 : decode cJ9_floorDiv_f86c9 1 = .ok (.lload_n 2, 1) := by decide +kernel
theorem dJ9_floorDiv_f86c9_2 : decode cJ9_floorDiv_f86c9 2 = .ok (.ldiv, 1) := by decide +kernel
theorem dJ9_floorDiv_f86c9_3 : decode cJ9_floorDiv_f86c9 3 = .ok (.lstore 4, 2) := by decide +kernel
theorem dJ9_floorDiv_f86c9_5 : decode cJ9_floorDiv_f86c9 5 = .ok (.lload_n 0, 1) := by decide +kernel
theorem dJ9_floorDiv_f86c9_6 : decode cJ9_floorDiv_f86c9 6 = .ok (.lload_n 2, 1) := by decide +kernel
theorem dJ9_floorDiv_f86c9_7 : decode cJ9_floorDiv_f86c9 7 = .ok (.lxor, 1) := by decide +kernel
theorem dJ9_floorDiv_f86c9_8 : decode cJ9_floorDiv_f86c9 8 = .ok (.lconst 0, 1) := by decide +kernel
theorem dJ9_floorDiv_f86c9_9 : decode cJ9_floorDiv_f86c9 9 = .ok (.lcmp, 1) := by decide +kernel
theorem dJ9_floorDiv_f86c9_10 : decode cJ9_floorDiv_f86c9 10 = .ok (.ifCond .ge 17, 3) := by decide +kernel
theorem dJ9_floorDiv_f86c9_13 : decode cJ9_floorDiv_f86c9 13 = .ok (.lload 4, 2) := by decide +kernel
theorem dJ9_floorDiv_f86c9_15 : decode cJ9_floorDiv_f86c9 15 = .ok (.lload_n 2, 1) := by decide +kernel
theorem dJ9_floorDiv_f86c9_16 : decode cJ9_floorDiv_f86c9 16 = .ok (.lmul, 1) := by decide +kernel
theorem dJ9_floorDiv_f86c9_17 : decode cJ9_floorDiv_f86c9 17 = .ok (.lload_n 0, 1) := by decide +kernel
theorem dJ9_floorDiv_f86c9_18 : decode cJ9_floorDiv_f86c9 18 = .ok (.lcmp, 1) := by decide +kernel
theorem dJ9_floorDiv_f86c9_19 : decode cJ9_floorDiv_f86c9 19 = .ok (.ifCond .eq 8, 3) := by decide +kernel
theorem dJ9_floorDiv_f86c9_22 : decode cJ9_floorDiv_f86c9 22 = .ok (.lload 4, 2) := by decide +kernel
theorem dJ9_floorDiv_f86c9_24 : decode cJ9_floorDiv_f86c9 24 = .ok (.lconst 1, 1) := by decide +kernel
theorem dJ9_floorDiv_f86c9_25 : decode cJ9_floorDiv_f86c9 25 = .ok (.lsub, 1) := by decide +kernel
theorem dJ9_floorDiv_f86c9_26 : decode cJ9_floorDiv_f86c9 26 = .ok (.lreturn, 1) := by decide +kernel
theorem dJ9_floorDiv_f86c9_27 : decode cJ9_floorDiv_f86c9 27 = .ok (.lload 4, 2) := by decide +kernel
theorem dJ9_floorDiv_f86c9_29 : decode cJ9_floorDiv_f86c9 29 = .ok (.lreturn, 1) := by decide +kernel
theorem dJ9_floorMod_7cf53_0 : decode cJ9_floorMod_7cf53 0 = .ok (.iload_n 0, 1) := by decide +kernel
theorem dJ9_floorMod_7cf53_1 : decode cJ9_floorMod_7cf53 1 = .ok (.iload_n 1, 1) := by decide +kernel
theorem dJ9_floorMod_7cf53_2 : decode cJ9_floorMod_7cf53 2 = .ok (.irem, 1) := by decide +kernel
theorem dJ9_floorMod_7cf53_3 : decode cJ9_floorMod_7cf53 3 = .ok (.istore_n 2, 1) := by decide +kernel
theorem dJ9_floorMod_7cf53_4 : decode cJ9_floorMod_7cf53 4 = .ok (.iload_n 0, 1) := by decide +kernel
theorem dJ9_floorMod_7cf53_5 : decode cJ9_floorMod_7cf53 5 = .ok (.iload_n 1, 1) := by decide +kernel
theorem dJ9_floorMod_7cf53_6 : decode cJ9_floorMod_7cf53 6 = .ok (.ixor, 1) := by decide +kernel
theorem dJ9_floorMod_7cf53_7 : decode cJ9_floorMod_7cf53 7 = .ok (.ifCond .ge 11, 3) := by decide +kernel
theorem dJ9_floorMod_7cf53_10 : decode cJ9_floorMod_7cf53 10 = .ok (.iload_n 2, 1) := by decide +kernel
theorem dJ9_floorMod_7cf53_11 : decode cJ9_floorMod_7cf53 11 = .ok (.ifCond .eq 7, 3) := by decide +kernel
theorem dJ9_floorMod_7cf53_14 : decode cJ9_floorMod_7cf53 14 = .ok (.iload_n 2, 1) := by decide +kernel
theorem dJ9_floorMod_7cf53_15 : decode cJ9_floorMod_7cf53 15 = .ok (.iload_n 1, 1) := by decide +kernel
theorem dJ9_floorMod_7cf53_16 : decode cJ9_floorMod_7cf53 16 = .ok (.iadd, 1) := by decide +kernel
theorem dJ9_floorMod_7cf53_17 : decode cJ9_floorMod_7cf53 17 = .ok (.ireturn, 1) := by decide +kernel
theorem dJ9_floorMod_7cf53_18 : decode cJ9_floorMod_7cf53 18 = .ok (.iload_n 2, 1) := by decide +kernel
theorem dJ9_floorMod_7cf53_19 : decode cJ9_floorMod_7cf53 19 = .ok (.ireturn, 1) := by decide +kernel
theorem dJ9_min_7cf53_0 : decode cJ9_min_7cf53 0 = .ok (.iload_n 0, 1) := by decide +kernel
theorem dJ9_min_7cf53_1 : decode cJ9_min_7cf53 1 = .ok (.iload_n 1, 1) := by decide +kernel
theorem dJ9_min_7cf53_2 : decode cJ9_min_7cf53 2 = .ok (.if_icmp .gt 7, 3) := by decide +kernel
theorem dJ9_min_7cf53_5 : decode cJ9_min_7cf53 5 = .ok (.iload_n 0, 1) := by decide +kernel
theorem dJ9_min_7cf53_6 : decode cJ9_min_7cf53 6 = .ok (.goto 4, 3) := by decide +kernel
theorem dJ9_min_7cf53_9 : decode cJ9_min_7cf53 9 = .ok (.iload_n 1, 1) := by decide +kernel
theorem dJ9_min_7cf53_10 : decode cJ9_min_7cf53 10 = .ok (.ireturn, 1) := by decide +kernel
theorem dJ7_fill_d0a16_0 : decode cJ7_fill_d0a16 0 = .ok (.iconst 0, 1) := by decide +kernel
theorem dJ7_fill_d0a16_1 : decode cJ7_fill_d0a16 1 = .ok (.istore_n 3, 1) := by decide +kernel
theorem dJ7_fill_d0a16_2 : decode cJ7_fill_d0a16 2 = .ok (.aload_n 0, 1) := by decide +kernel
theorem dJ7_fill_d0a16_3 : decode cJ7_fill_d0a16 3 = .ok (.arraylength, 1) := by decide +kernel
theorem dJ7_fill_d0a16_4 : decode cJ7_fill_d0a16 4 = .ok (.istore 4, 2) := by decide +kernel
theorem dJ7_fill_d0a16_6 : decode cJ7_fill_d0a16 6 = .ok (.iload_n 3, 1) := by decide +kernel
theorem dJ7_fill_d0a16_7 : decode cJ7_fill_d0a16 7 = .ok (.iload 4, 2) := by decide +kernel
theorem dJ7_fill_d0a16_9 : decode cJ7_fill_d0a16 9 = .ok (.if_icmp .ge 13, 3) := by decide +kernel
theorem dJ7_fill_d0a16_12 : decode cJ7_fill_d0a16 12 = .ok (.aload_n 0, 1) := by decide +kernel
theorem dJ7_fill_d0a16_13 : decode cJ7_fill_d0a16 13 = .ok (.iload_n 3, 1) := by decide +kernel
theorem dJ7_fill_d0a16_14 : decode cJ7_fill_d0a16 14 = .ok (.lload_n 1, 1) := by decide +kernel
theorem dJ7_fill_d0a16_15 : decode cJ7_fill_d0a16 15 = .ok (.lastore, 1) := by decide +kernel
theorem dJ7_fill_d0a16_16 : decode cJ7_fill_d0a16 16 = .ok (.iinc 3 1, 3) := by decide +kernel
theorem dJ7_fill_d0a16_19 : decode cJ7_fill_d0a16 19 = .ok (.goto (-13), 3) := by decide +kernel
theorem dJ7_fill_d0a16_22 : decode cJ7_fill_d0a16 22 = .ok (.return_, 1) := by decide +kernel
theorem dJ7_fill_53178_0 : decode cJ7_fill_53178 0 = .ok (.iconst 0, 1) := by decide +kernel
theorem dJ7_fill_53178_1 : decode cJ7_fill_53178 1 = .ok (.istore_n 2, 1) := by decide +kernel
theorem dJ7_fill_53178_2 : decode cJ7_fill_53178 2 = .ok (.aload_n 0, 1) := by decide +kernel
theorem dJ7_fill_53178_3 : decode cJ7_fill_53178 3 = .ok (.arraylength, 1) := by decide +kernel
theorem dJ7_fill_53178_4 : decode cJ7_fill_53178 4 = .ok (.istore_n 3, 1) := by decide +kernel
theorem dJ7_fill_53178_5 : decode cJ7_fill_53178 5 = .ok (.iload_n 2, 1) := by decide +kernel
theorem dJ7_fill_53178_6 : decode cJ7_fill_53178 6 = .ok (.iload_n 3, 1) := by decide +kernel
theorem dJ7_fill_53178_7 : decode cJ7_fill_53178 7 = .ok (.if_icmp .ge 13, 3) := by decide +kernel
theorem dJ7_fill_53178_10 : decode cJ7_fill_53178 10 = .ok (.aload_n 0, 1) := by decide +kernel
theorem dJ7_fill_53178_11 : decode cJ7_fill_53178 11 = .ok (.iload_n 2, 1) := by decide +kernel
theorem dJ7_fill_53178_12 : decode cJ7_fill_53178 12 = .ok (.iload_n 1, 1) := by decide +kernel
theorem dJ7_fill_53178_13 : decode cJ7_fill_53178 13 = .ok (.iastore, 1) := by decide +kernel
theorem dJ7_fill_53178_14 : decode cJ7_fill_53178 14 = .ok (.iinc 2 1, 3) := by decide +kernel
theorem dJ7_fill_53178_17 : decode cJ7_fill_53178 17 = .ok (.goto (-12), 3) := by decide +kernel
theorem dJ7_fill_53178_20 : decode cJ7_fill_53178 20 = .ok (.return_, 1) := by decide +kernel
set_option maxRecDepth 20000 in
theorem ggL_heat_X7_heat : GoodIn wsL_heat wsX7_heat := goodIn_ca (goodIn_r _ [6, 7, 8, 9, 10, 11, 5, 12, 13, 14, 15, 16, 17, 18, 19, 20, 21, 22, 23, 24, 25, 26, 27, 28, 29, 30, 31, 32, 33] (by decide +kernel) (by decide +kernel)) (goodIn_sub (fun _ h => List.mem_cons_of_mem _ (List.mem_append_right _ h)) (by decide +kernel))
set_option maxRecDepth 20000 in
theorem gL_heat_X7_heat : GoodIn wsL_heat (wsV RL 7 RX7 yX7_heat wsX7_heat) := goodIn_app (goodIn_of _ (by decide +kernel)) ggL_heat_X7_heat
theorem dL_heat_0 : decode cL_heat 0 = .ok (.aload_n 2, 1) := by decide +kernel
theorem dL_heat_1 : decode cL_heat 1 = .ok (.iconst 0, 1) := by decide +kernel
theorem dL_heat_2 : decode cL_heat 2 = .ok (.aload_n 0, 1) := by decide +kernel
theorem dL_heat_3 : decode cL_heat 3 = .ok (.iload_n 1, 1) := by decide +kernel
theorem dL_heat_4 : decode cL_heat 4 = .ok (.invokevirtual 7, 3) := by decide +kernel
theorem dL_heat_7 : decode cL_heat 7 = .ok (.i2l, 1) := by decide +kernel
theorem dL_heat_8 : decode cL_heat 8 = .ok (.lastore, 1) := by decide +kernel
theorem dL_heat_9 : decode cL_heat 9 = .ok (.goto 6, 3) := by decide +kernel
theorem dL_heat_12 : decode cL_heat 12 = .ok (.astore_n 3, 1) := by decide +kernel
theorem dL_heat_13 : decode cL_heat 13 = .ok (.iconst 1, 1) := by decide +kernel
theorem dL_heat_14 : decode cL_heat 14 = .ok (.ireturn, 1) := by decide +kernel
theorem dL_heat_15 : decode cL_heat 15 = .ok (.iconst 0, 1) := by decide +kernel
theorem dL_heat_16 : decode cL_heat 16 = .ok (.ireturn, 1) := by decide +kernel
set_option maxRecDepth 20000 in
theorem ggL_pressure_X7_pressure : GoodIn wsL_pressure wsX7_pressure := goodIn_ca (goodIn_r _ [6, 7, 8, 9, 10, 11, 5, 12, 13, 14, 15, 16, 17, 18, 19, 20, 21, 22, 23, 24, 25, 26, 27, 28, 29, 30, 31, 32, 33] (by decide +kernel) (by decide +kernel)) (goodIn_sub (fun _ h => List.mem_cons_of_mem _ (List.mem_append_right _ h)) (by decide +kernel))
set_option maxRecDepth 20000 in
theorem gL_pressure_X7_pressure : GoodIn wsL_pressure (wsV RL 15 RX7 yX7_pressure wsX7_pressure) := goodIn_app (goodIn_of _ (by decide +kernel)) ggL_pressure_X7_pressure
theorem dL_pressure_0 : decode cL_pressure 0 = .ok (.aload_n 2, 1) := by decide +kernel
theorem dL_pressure_1 : decode cL_pressure 1 = .ok (.iconst 0, 1) := by decide +kernel
theorem dL_pressure_2 : decode cL_pressure 2 = .ok (.aload_n 0, 1) := by decide +kernel
theorem dL_pressure_3 : decode cL_pressure 3 = .ok (.iload_n 1, 1) := by decide +kernel
theorem dL_pressure_4 : decode cL_pressure 4 = .ok (.invokevirtual 15, 3) := by decide +kernel
theorem dL_pressure_7 : decode cL_pressure 7 = .ok (.i2l, 1) := by decide +kernel
theorem dL_pressure_8 : decode cL_pressure 8 = .ok (.lastore, 1) := by decide +kernel
theorem dL_pressure_9 : decode cL_pressure 9 = .ok (.goto 6, 3) := by decide +kernel
theorem dL_pressure_12 : decode cL_pressure 12 = .ok (.astore_n 3, 1) := by decide +kernel
theorem dL_pressure_13 : decode cL_pressure 13 = .ok (.iconst 1, 1) := by decide +kernel
theorem dL_pressure_14 : decode cL_pressure 14 = .ok (.ireturn, 1) := by decide +kernel
theorem dL_pressure_15 : decode cL_pressure 15 = .ok (.iconst 0, 1) := by decide +kernel
theorem dL_pressure_16 : decode cL_pressure 16 = .ok (.ireturn, 1) := by decide +kernel
set_option maxRecDepth 20000 in
theorem ggL_clock_X7_clock : GoodIn wsL_clock wsX7_clock := goodIn_ca (goodIn_ca (goodIn_r _ [6, 7, 8, 9, 10, 11, 12, 13, 5, 14, 15, 16, 17, 18, 19, 20, 21, 22, 23, 24, 25, 26, 27, 28, 29, 30, 31, 32, 33, 34, 35, 36, 37, 38, 39, 40, 41, 42, 43, 44, 45, 46, 47, 48, 49] (by decide +kernel) (by decide +kernel)) (goodIn_sub (fun _ h => List.mem_cons_of_mem _ (List.mem_append_left _ (List.mem_append_right _ h))) (by decide +kernel))) (goodIn_sub (fun _ h => List.mem_cons_of_mem _ (List.mem_append_right _ h)) (by decide +kernel))
set_option maxRecDepth 20000 in
theorem gL_clock_X7_clock : GoodIn wsL_clock (wsV RL 18 RX7 yX7_clock wsX7_clock) := goodIn_app (goodIn_of _ (by decide +kernel)) ggL_clock_X7_clock
theorem dL_clock_0 : decode cL_clock 0 = .ok (.aload 5, 2) := by decide +kernel
theorem dL_clock_2 : decode cL_clock 2 = .ok (.iconst 0, 1) := by decide +kernel
theorem dL_clock_3 : decode cL_clock 3 = .ok (.aload_n 0, 1) := by decide +kernel
theorem dL_clock_4 : decode cL_clock 4 = .ok (.iload_n 1, 1) := by decide +kernel
theorem dL_clock_5 : decode cL_clock 5 = .ok (.iload_n 2, 1) := by decide +kernel
theorem dL_clock_6 : decode cL_clock 6 = .ok (.iload_n 3, 1) := by decide +kernel
theorem dL_clock_7 : decode cL_clock 7 = .ok (.iload 4, 2) := by decide +kernel
theorem dL_clock_9 : decode cL_clock 9 = .ok (.invokevirtual 18, 3) := by decide +kernel
theorem dL_clock_12 : decode cL_clock 12 = .ok (.i2l, 1) := by decide +kernel
theorem dL_clock_13 : decode cL_clock 13 = .ok (.lastore, 1) := by decide +kernel
theorem dL_clock_14 : decode cL_clock 14 = .ok (.goto 11, 3) := by decide +kernel
theorem dL_clock_17 : decode cL_clock 17 = .ok (.astore 6, 2) := by decide +kernel
theorem dL_clock_19 : decode cL_clock 19 = .ok (.iconst 1, 1) := by decide +kernel
theorem dL_clock_20 : decode cL_clock 20 = .ok (.ireturn, 1) := by decide +kernel
theorem dL_clock_21 : decode cL_clock 21 = .ok (.astore 6, 2) := by decide +kernel
theorem dL_clock_23 : decode cL_clock 23 = .ok (.iconst 2, 1) := by decide +kernel
theorem dL_clock_24 : decode cL_clock 24 = .ok (.ireturn, 1) := by decide +kernel
theorem dL_clock_25 : decode cL_clock 25 = .ok (.iconst 0, 1) := by decide +kernel
theorem dL_clock_26 : decode cL_clock 26 = .ok (.ireturn, 1) := by decide +kernel
set_option maxRecDepth 20000 in
theorem ggL_regulate_X7_regulate : GoodIn wsL_regulate wsX7_regulate := goodIn_ca (goodIn_ca (goodIn_r _ [6, 7, 8, 9, 10, 11, 12, 13, 14, 15, 16, 17, 18, 19, 5, 20, 21, 22, 23, 24, 25, 26, 27, 28, 29, 30, 31, 32, 33, 34, 35, 36, 37, 38, 39, 40, 41, 42, 43, 44, 45, 46, 47, 48, 49, 50, 51, 52, 53, 54, 55, 56, 57, 58] (by decide +kernel) (by decide +kernel)) (goodIn_sub (fun _ h => List.mem_cons_of_mem _ (List.mem_append_left _ (List.mem_append_right _ h))) (by decide +kernel))) (goodIn_sub (fun _ h => List.mem_cons_of_mem _ (List.mem_append_right _ h)) (by decide +kernel))
set_option maxRecDepth 20000 in
theorem gL_regulate_X7_regulate : GoodIn wsL_regulate (wsV RL 24 RX7 yX7_regulate wsX7_regulate) := goodIn_app (goodIn_of _ (by decide +kernel)) ggL_regulate_X7_regulate
theorem dL_regulate_0 : decode cL_regulate 0 = .ok (.aload 4, 2) := by decide +kernel
theorem dL_regulate_2 : decode cL_regulate 2 = .ok (.iconst 0, 1) := by decide +kernel
theorem dL_regulate_3 : decode cL_regulate 3 = .ok (.aload_n 0, 1) := by decide +kernel
theorem dL_regulate_4 : decode cL_regulate 4 = .ok (.iload_n 1, 1) := by decide +kernel
theorem dL_regulate_5 : decode cL_regulate 5 = .ok (.iload_n 2, 1) := by decide +kernel
theorem dL_regulate_6 : decode cL_regulate 6 = .ok (.iload_n 3, 1) := by decide +kernel
theorem dL_regulate_7 : decode cL_regulate 7 = .ok (.invokevirtual 24, 3) := by decide +kernel
theorem dL_regulate_10 : decode cL_regulate 10 = .ok (.i2l, 1) := by decide +kernel
theorem dL_regulate_11 : decode cL_regulate 11 = .ok (.lastore, 1) := by decide +kernel
theorem dL_regulate_12 : decode cL_regulate 12 = .ok (.goto 11, 3) := by decide +kernel
theorem dL_regulate_15 : decode cL_regulate 15 = .ok (.astore 5, 2) := by decide +kernel
theorem dL_regulate_17 : decode cL_regulate 17 = .ok (.iconst 1, 1) := by decide +kernel
theorem dL_regulate_18 : decode cL_regulate 18 = .ok (.ireturn, 1) := by decide +kernel
theorem dL_regulate_19 : decode cL_regulate 19 = .ok (.astore 5, 2) := by decide +kernel
theorem dL_regulate_21 : decode cL_regulate 21 = .ok (.iconst 2, 1) := by decide +kernel
theorem dL_regulate_22 : decode cL_regulate 22 = .ok (.ireturn, 1) := by decide +kernel
theorem dL_regulate_23 : decode cL_regulate 23 = .ok (.iconst 0, 1) := by decide +kernel
theorem dL_regulate_24 : decode cL_regulate 24 = .ok (.ireturn, 1) := by decide +kernel
set_option maxRecDepth 20000 in
theorem ggL_set_X7_set : GoodIn wsL_set wsX7_set := goodIn_ca (goodIn_ca (goodIn_r _ [6, 7, 8, 9, 10, 11, 12, 13, 14, 15, 16, 17, 18, 19, 20, 21, 5, 22, 23, 24, 25, 26, 27, 28, 29, 30, 31, 32, 33, 34, 35, 36, 37, 38, 39, 40, 41, 42] (by decide +kernel) (by decide +kernel)) (goodIn_sub (fun _ h => List.mem_cons_of_mem _ (List.mem_append_left _ (List.mem_append_right _ h))) (by decide +kernel))) (goodIn_sub (fun _ h => List.mem_cons_of_mem _ (List.mem_append_right _ h)) (by decide +kernel))
set_option maxRecDepth 20000 in
theorem gL_set_X7_set : GoodIn wsL_set (wsV RL 30 RX7 yX7_set wsX7_set) := goodIn_app (goodIn_of _ (by decide +kernel)) ggL_set_X7_set
theorem dL_set_0 : decode cL_set 0 = .ok (.aload_n 3, 1) := by decide +kernel
theorem dL_set_1 : decode cL_set 1 = .ok (.iconst 0, 1) := by decide +kernel
theorem dL_set_2 : decode cL_set 2 = .ok (.aload_n 0, 1) := by decide +kernel
theorem dL_set_3 : decode cL_set 3 = .ok (.iload_n 1, 1) := by decide +kernel
theorem dL_set_4 : decode cL_set 4 = .ok (.iload_n 2, 1) := by decide +kernel
theorem dL_set_5 : decode cL_set 5 = .ok (.invokevirtual 30, 3) := by decide +kernel
theorem dL_set_8 : decode cL_set 8 = .ok (.lastore, 1) := by decide +kernel
theorem dL_set_9 : decode cL_set 9 = .ok (.goto 11, 3) := by decide +kernel
theorem dL_set_12 : decode cL_set 12 = .ok (.astore 4, 2) := by decide +kernel
theorem dL_set_14 : decode cL_set 14 = .ok (.iconst 1, 1) := by decide +kernel
theorem dL_set_15 : decode cL_set 15 = .ok (.ireturn, 1) := by decide +kernel
theorem dL_set_16 : decode cL_set 16 = .ok (.astore 4, 2) := by decide +kernel
theorem dL_set_18 : decode cL_set 18 = .ok (.iconst 2, 1) := by decide +kernel
theorem dL_set_19 : decode cL_set 19 = .ok (.ireturn, 1) := by decide +kernel
theorem dL_set_20 : decode cL_set 20 = .ok (.iconst 0, 1) := by decide +kernel
theorem dL_set_21 : decode cL_set 21 = .ok (.ireturn, 1) := by decide +kernel
set_option maxRecDepth 20000 in
theorem ggL_days_X7_days : GoodIn wsL_days wsX7_days := goodIn_ca (goodIn_r _ [6, 7, 8, 9, 10, 11, 5, 12, 13, 14, 15, 16, 17, 18, 19, 20, 21, 22, 23, 24, 25, 26, 27, 28, 29, 30, 31, 32, 33, 34, 35, 36, 37, 38, 39, 40, 41, 42, 43, 44, 45, 46, 47, 48, 49] (by decide +kernel) (by decide +kernel)) (goodIn_sub (fun _ h => List.mem_cons_of_mem _ (List.mem_append_right _ h)) (by decide +kernel))
set_option maxRecDepth 20000 in
theorem gL_days_X7_days : GoodIn wsL_days (wsV RL 34 RX7 yX7_days wsX7_days) := goodIn_app (goodIn_of _ (by decide +kernel)) ggL_days_X7_days
theorem dL_days_0 : decode cL_days 0 = .ok (.aload_n 2, 1) := by decide +kernel
theorem dL_days_1 : decode cL_days 1 = .ok (.iconst 0, 1) := by decide +kernel
theorem dL_days_2 : decode cL_days 2 = .ok (.aload_n 0, 1) := by decide +kernel
theorem dL_days_3 : decode cL_days 3 = .ok (.iload_n 1, 1) := by decide +kernel
theorem dL_days_4 : decode cL_days 4 = .ok (.invokevirtual 34, 3) := by decide +kernel
theorem dL_days_7 : decode cL_days 7 = .ok (.lastore, 1) := by decide +kernel
theorem dL_days_8 : decode cL_days 8 = .ok (.goto 6, 3) := by decide +kernel
theorem dL_days_11 : decode cL_days 11 = .ok (.astore_n 3, 1) := by decide +kernel
theorem dL_days_12 : decode cL_days 12 = .ok (.iconst 1, 1) := by decide +kernel
theorem dL_days_13 : decode cL_days 13 = .ok (.ireturn, 1) := by decide +kernel
theorem dL_days_14 : decode cL_days 14 = .ok (.iconst 0, 1) := by decide +kernel
theorem dL_days_15 : decode cL_days 15 = .ok (.ireturn, 1) := by decide +kernel
set_option maxRecDepth 20000 in
theorem ggL_rate_X7_rate : GoodIn wsL_rate wsX7_rate := goodIn_ca (goodIn_r _ [6, 7, 8, 9, 10, 11, 12, 13, 14, 15, 16, 17, 18, 19, 20, 21, 22, 23, 24, 25, 26, 27, 28, 29, 30, 31, 32, 33, 34, 35, 36, 37, 38, 39, 40, 41, 42, 43, 44] (by decide +kernel) (by decide +kernel)) (goodIn_sub (fun _ h => List.mem_cons_of_mem _ (List.mem_append_right _ h)) (by decide +kernel))
set_option maxRecDepth 20000 in
theorem gL_rate_X7_rate : GoodIn wsL_rate (wsV RL 38 RX7 yX7_rate wsX7_rate) := goodIn_app (goodIn_of _ (by decide +kernel)) ggL_rate_X7_rate
theorem dL_rate_0 : decode cL_rate 0 = .ok (.aload_n 2, 1) := by decide +kernel
theorem dL_rate_1 : decode cL_rate 1 = .ok (.iconst 0, 1) := by decide +kernel
theorem dL_rate_2 : decode cL_rate 2 = .ok (.aload_n 0, 1) := by decide +kernel
theorem dL_rate_3 : decode cL_rate 3 = .ok (.iload_n 1, 1) := by decide +kernel
theorem dL_rate_4 : decode cL_rate 4 = .ok (.invokevirtual 38, 3) := by decide +kernel
theorem dL_rate_7 : decode cL_rate 7 = .ok (.i2l, 1) := by decide +kernel
theorem dL_rate_8 : decode cL_rate 8 = .ok (.lastore, 1) := by decide +kernel
theorem dL_rate_9 : decode cL_rate 9 = .ok (.goto 6, 3) := by decide +kernel
theorem dL_rate_12 : decode cL_rate 12 = .ok (.astore_n 3, 1) := by decide +kernel
theorem dL_rate_13 : decode cL_rate 13 = .ok (.iconst 1, 1) := by decide +kernel
theorem dL_rate_14 : decode cL_rate 14 = .ok (.ireturn, 1) := by decide +kernel
theorem dL_rate_15 : decode cL_rate 15 = .ok (.iconst 0, 1) := by decide +kernel
theorem dL_rate_16 : decode cL_rate 16 = .ok (.ireturn, 1) := by decide +kernel
set_option maxRecDepth 20000 in
theorem ggL_off_X7_off : GoodIn wsL_off wsX7_off := goodIn_ca (goodIn_r _ [6, 7, 8, 9, 10, 11, 12, 13, 14, 15, 16, 17, 18, 19, 20, 21, 22, 23, 24, 25, 26, 27, 28, 29, 30, 31, 32, 33, 34, 35] (by decide +kernel) (by decide +kernel)) (goodIn_sub (fun _ h => List.mem_cons_of_mem _ (List.mem_append_right _ h)) (by decide +kernel))
set_option maxRecDepth 20000 in
theorem gL_off_X7_off : GoodIn wsL_off (wsV RL 41 RX7 yX7_off wsX7_off) := goodIn_app (goodIn_of _ (by decide +kernel)) ggL_off_X7_off
theorem dL_off_0 : decode cL_off 0 = .ok (.aload_n 2, 1) := by decide +kernel
theorem dL_off_1 : decode cL_off 1 = .ok (.iconst 0, 1) := by decide +kernel
theorem dL_off_2 : decode cL_off 2 = .ok (.aload_n 0, 1) := by decide +kernel
theorem dL_off_3 : decode cL_off 3 = .ok (.iload_n 1, 1) := by decide +kernel
theorem dL_off_4 : decode cL_off 4 = .ok (.invokevirtual 41, 3) := by decide +kernel
theorem dL_off_7 : decode cL_off 7 = .ok (.lastore, 1) := by decide +kernel
theorem dL_off_8 : decode cL_off 8 = .ok (.goto 6, 3) := by decide +kernel
theorem dL_off_11 : decode cL_off 11 = .ok (.astore_n 3, 1) := by decide +kernel
theorem dL_off_12 : decode cL_off 12 = .ok (.iconst 1, 1) := by decide +kernel
theorem dL_off_13 : decode cL_off 13 = .ok (.ireturn, 1) := by decide +kernel
theorem dL_off_14 : decode cL_off 14 = .ok (.iconst 0, 1) := by decide +kernel
theorem dL_off_15 : decode cL_off 15 = .ok (.ireturn, 1) := by decide +kernel
set_option maxRecDepth 20000 in
theorem ggL_time_X7_time : GoodIn wsL_time wsX7_time := goodIn_ca (goodIn_r _ [6, 7, 8, 9, 10, 11, 12, 13, 14, 15, 16, 17, 18, 19, 20, 21, 22, 23, 24, 25, 26, 27, 28, 29, 30, 31, 32, 33, 34, 35, 36, 37, 38, 39, 40, 41, 42, 43, 44, 45] (by decide +kernel) (by decide +kernel)) (goodIn_sub (fun _ h => List.mem_cons_of_mem _ (List.mem_append_right _ h)) (by decide +kernel))
set_option maxRecDepth 20000 in
theorem gL_time_X7_time : GoodIn wsL_time (wsV RL 44 RX7 yX7_time wsX7_time) := goodIn_app (goodIn_of _ (by decide +kernel)) ggL_time_X7_time
theorem dL_time_0 : decode cL_time 0 = .ok (.aload_n 1, 1) := by decide +kernel
theorem dL_time_1 : decode cL_time 1 = .ok (.iconst 0, 1) := by decide +kernel
theorem dL_time_2 : decode cL_time 2 = .ok (.aload_n 0, 1) := by decide +kernel
theorem dL_time_3 : decode cL_time 3 = .ok (.invokevirtual 44, 3) := by decide +kernel
theorem dL_time_6 : decode cL_time 6 = .ok (.lastore, 1) := by decide +kernel
theorem dL_time_7 : decode cL_time 7 = .ok (.goto 6, 3) := by decide +kernel
theorem dL_time_10 : decode cL_time 10 = .ok (.astore_n 2, 1) := by decide +kernel
theorem dL_time_11 : decode cL_time 11 = .ok (.iconst 1, 1) := by decide +kernel
theorem dL_time_12 : decode cL_time 12 = .ok (.ireturn, 1) := by decide +kernel
theorem dL_time_13 : decode cL_time 13 = .ok (.iconst 0, 1) := by decide +kernel
theorem dL_time_14 : decode cL_time 14 = .ok (.ireturn, 1) := by decide +kernel
set_option maxRecDepth 20000 in
theorem ggL_isTrusted_X7_isTrusted : GoodIn wsL_isTrusted wsX7_isTrusted := goodIn_ca (goodIn_r _ [6, 7, 8, 9, 10, 11, 12, 13, 14, 15, 16, 17, 18, 19, 20, 21, 22, 23, 24, 25, 26, 27, 28, 29, 30, 31, 32, 33, 34, 35, 36, 37, 38, 39, 40, 41, 42, 43, 44, 45, 46, 47, 48, 49, 50, 51] (by decide +kernel) (by decide +kernel)) (goodIn_sub (fun _ h => List.mem_cons_of_mem _ (List.mem_append_right _ h)) (by decide +kernel))
set_option maxRecDepth 20000 in
theorem gL_isTrusted_X7_isTrusted : GoodIn wsL_isTrusted (wsV RL 48 RX7 yX7_isTrusted wsX7_isTrusted) := goodIn_app (goodIn_of _ (by decide +kernel)) ggL_isTrusted_X7_isTrusted
theorem dL_isTrusted_0 : decode cL_isTrusted 0 = .ok (.aload_n 2, 1) := by decide +kernel
theorem dL_isTrusted_1 : decode cL_isTrusted 1 = .ok (.iconst 0, 1) := by decide +kernel
theorem dL_isTrusted_2 : decode cL_isTrusted 2 = .ok (.aload_n 0, 1) := by decide +kernel
theorem dL_isTrusted_3 : decode cL_isTrusted 3 = .ok (.iload_n 1, 1) := by decide +kernel
theorem dL_isTrusted_4 : decode cL_isTrusted 4 = .ok (.invokevirtual 48, 3) := by decide +kernel
theorem dL_isTrusted_7 : decode cL_isTrusted 7 = .ok (.ifCond .eq 7, 3) := by decide +kernel
theorem dL_isTrusted_10 : decode cL_isTrusted 10 = .ok (.lconst 1, 1) := by decide +kernel
theorem dL_isTrusted_11 : decode cL_isTrusted 11 = .ok (.goto 4, 3) := by decide +kernel
theorem dL_isTrusted_14 : decode cL_isTrusted 14 = .ok (.lconst 0, 1) := by decide +kernel
theorem dL_isTrusted_15 : decode cL_isTrusted 15 = .ok (.lastore, 1) := by decide +kernel
theorem dL_isTrusted_16 : decode cL_isTrusted 16 = .ok (.goto 6, 3) := by decide +kernel
theorem dL_isTrusted_19 : decode cL_isTrusted 19 = .ok (.astore_n 3, 1) := by decide +kernel
theorem dL_isTrusted_20 : decode cL_isTrusted 20 = .ok (.iconst 1, 1) := by decide +kernel
theorem dL_isTrusted_21 : decode cL_isTrusted 21 = .ok (.ireturn, 1) := by decide +kernel
theorem dL_isTrusted_22 : decode cL_isTrusted 22 = .ok (.iconst 0, 1) := by decide +kernel
theorem dL_isTrusted_23 : decode cL_isTrusted 23 = .ok (.ireturn, 1) := by decide +kernel
set_option maxRecDepth 20000 in
theorem ggL_phase_X7_phase : GoodIn wsL_phase wsX7_phase := goodIn_ca (goodIn_r _ [6, 7, 8, 9, 10, 11, 5, 12, 13, 14, 15, 16, 17, 18, 19, 20, 21, 22, 23, 24, 25, 26, 27, 28, 29, 30, 31, 32, 33, 34, 35, 36, 37, 38] (by decide +kernel) (by decide +kernel)) (goodIn_sub (fun _ h => List.mem_cons_of_mem _ (List.mem_append_right _ h)) (by decide +kernel))
set_option maxRecDepth 20000 in
theorem gL_phase_X7_phase : GoodIn wsL_phase (wsV RL 52 RX7 yX7_phase wsX7_phase) := goodIn_app (goodIn_of _ (by decide +kernel)) ggL_phase_X7_phase
theorem dL_phase_0 : decode cL_phase 0 = .ok (.aload 5, 2) := by decide +kernel
theorem dL_phase_2 : decode cL_phase 2 = .ok (.iconst 0, 1) := by decide +kernel
theorem dL_phase_3 : decode cL_phase 3 = .ok (.aload_n 0, 1) := by decide +kernel
theorem dL_phase_4 : decode cL_phase 4 = .ok (.iload_n 1, 1) := by decide +kernel
theorem dL_phase_5 : decode cL_phase 5 = .ok (.iload_n 2, 1) := by decide +kernel
theorem dL_phase_6 : decode cL_phase 6 = .ok (.iload_n 3, 1) := by decide +kernel
theorem dL_phase_7 : decode cL_phase 7 = .ok (.iload 4, 2) := by decide +kernel
theorem dL_phase_9 : decode cL_phase 9 = .ok (.invokevirtual 52, 3) := by decide +kernel
theorem dL_phase_12 : decode cL_phase 12 = .ok (.i2l, 1) := by decide +kernel
theorem dL_phase_13 : decode cL_phase 13 = .ok (.lastore, 1) := by decide +kernel
theorem dL_phase_14 : decode cL_phase 14 = .ok (.goto 7, 3) := by decide +kernel
theorem dL_phase_17 : decode cL_phase 17 = .ok (.astore 6, 2) := by decide +kernel
theorem dL_phase_19 : decode cL_phase 19 = .ok (.iconst 1, 1) := by decide +kernel
theorem dL_phase_20 : decode cL_phase 20 = .ok (.ireturn, 1) := by decide +kernel
theorem dL_phase_21 : decode cL_phase 21 = .ok (.iconst 0, 1) := by decide +kernel
theorem dL_phase_22 : decode cL_phase 22 = .ok (.ireturn, 1) := by decide +kernel
set_option maxRecDepth 20000 in
theorem ggL_round_X7_round : GoodIn wsL_round wsX7_round := goodIn_ca (goodIn_r _ [6, 7, 8, 9, 10, 11, 5, 12, 13, 14, 15, 16, 17, 18, 19, 20, 21, 22, 23, 24, 25, 26, 27, 28, 29, 30, 31, 32, 33, 34, 35, 36, 37, 38, 39, 40, 41, 42, 43, 44, 45, 46, 47, 48, 49, 50, 51, 52, 53, 54, 55, 56, 57, 58, 59, 60, 61, 62, 63, 64] (by decide +kernel) (by decide +kernel)) (goodIn_sub (fun _ h => List.mem_cons_of_mem _ (List.mem_append_right _ h)) (by decide +kernel))
set_option maxRecDepth 20000 in
theorem gL_round_X7_round : GoodIn wsL_round (wsV RL 56 RX7 yX7_round wsX7_round) := goodIn_app (goodIn_of _ (by decide +kernel)) ggL_round_X7_round
theorem dL_round_0 : decode cL_round 0 = .ok (.aload 5, 2) := by decide +kernel
theorem dL_round_2 : decode cL_round 2 = .ok (.iconst 0, 1) := by decide +kernel
theorem dL_round_3 : decode cL_round 3 = .ok (.aload_n 0, 1) := by decide +kernel
theorem dL_round_4 : decode cL_round 4 = .ok (.iload_n 1, 1) := by decide +kernel
theorem dL_round_5 : decode cL_round 5 = .ok (.iload_n 2, 1) := by decide +kernel
theorem dL_round_6 : decode cL_round 6 = .ok (.iload_n 3, 1) := by decide +kernel
theorem dL_round_7 : decode cL_round 7 = .ok (.iload 4, 2) := by decide +kernel
theorem dL_round_9 : decode cL_round 9 = .ok (.invokevirtual 56, 3) := by decide +kernel
theorem dL_round_12 : decode cL_round 12 = .ok (.i2l, 1) := by decide +kernel
theorem dL_round_13 : decode cL_round 13 = .ok (.lastore, 1) := by decide +kernel
theorem dL_round_14 : decode cL_round 14 = .ok (.goto 7, 3) := by decide +kernel
theorem dL_round_17 : decode cL_round 17 = .ok (.astore 6, 2) := by decide +kernel
theorem dL_round_19 : decode cL_round 19 = .ok (.iconst 1, 1) := by decide +kernel
theorem dL_round_20 : decode cL_round 20 = .ok (.ireturn, 1) := by decide +kernel
theorem dL_round_21 : decode cL_round 21 = .ok (.iconst 0, 1) := by decide +kernel
theorem dL_round_22 : decode cL_round 22 = .ok (.ireturn, 1) := by decide +kernel
set_option maxRecDepth 20000 in
theorem ggL_tongue_X7_tongue : GoodIn wsL_tongue wsX7_tongue := goodIn_ca (goodIn_r _ [6, 7, 8, 9, 10, 11, 5, 12, 13, 14, 15, 16, 17, 18, 19, 20, 21, 22, 23, 24, 25, 26, 27, 28, 29, 30, 31, 32, 33, 34, 35, 36, 37, 38, 39, 40, 41, 42, 43, 44, 45, 46, 47, 48, 49, 50, 51, 52, 53] (by decide +kernel) (by decide +kernel)) (goodIn_sub (fun _ h => List.mem_cons_of_mem _ (List.mem_append_right _ h)) (by decide +kernel))
set_option maxRecDepth 20000 in
theorem gL_tongue_X7_tongue : GoodIn wsL_tongue (wsV RL 59 RX7 yX7_tongue wsX7_tongue) := goodIn_app (goodIn_of _ (by decide +kernel)) ggL_tongue_X7_tongue
theorem dL_tongue_0 : decode cL_tongue 0 = .ok (.aload 4, 2) := by decide +kernel
theorem dL_tongue_2 : decode cL_tongue 2 = .ok (.iconst 0, 1) := by decide +kernel
theorem dL_tongue_3 : decode cL_tongue 3 = .ok (.aload_n 0, 1) := by decide +kernel
theorem dL_tongue_4 : decode cL_tongue 4 = .ok (.iload_n 1, 1) := by decide +kernel
theorem dL_tongue_5 : decode cL_tongue 5 = .ok (.iload_n 2, 1) := by decide +kernel
theorem dL_tongue_6 : decode cL_tongue 6 = .ok (.iload_n 3, 1) := by decide +kernel
theorem dL_tongue_7 : decode cL_tongue 7 = .ok (.invokevirtual 59, 3) := by decide +kernel
theorem dL_tongue_10 : decode cL_tongue 10 = .ok (.i2l, 1) := by decide +kernel
theorem dL_tongue_11 : decode cL_tongue 11 = .ok (.lastore, 1) := by decide +kernel
theorem dL_tongue_12 : decode cL_tongue 12 = .ok (.goto 7, 3) := by decide +kernel
theorem dL_tongue_15 : decode cL_tongue 15 = .ok (.astore 5, 2) := by decide +kernel
theorem dL_tongue_17 : decode cL_tongue 17 = .ok (.iconst 1, 1) := by decide +kernel
theorem dL_tongue_18 : decode cL_tongue 18 = .ok (.ireturn, 1) := by decide +kernel
theorem dL_tongue_19 : decode cL_tongue 19 = .ok (.iconst 0, 1) := by decide +kernel
theorem dL_tongue_20 : decode cL_tongue 20 = .ok (.ireturn, 1) := by decide +kernel
set_option maxRecDepth 20000 in
theorem ggL_together_X7_together : GoodIn wsL_together wsX7_together := goodIn_ca (goodIn_r _ [6, 7, 8, 9, 10, 5, 11, 12, 13, 14, 15, 16, 17, 18, 19, 20] (by decide +kernel) (by decide +kernel)) (goodIn_sub (fun _ h => List.mem_cons_of_mem _ (List.mem_append_right _ h)) (by decide +kernel))
set_option maxRecDepth 20000 in
theorem gL_together_X7_together : GoodIn wsL_together (wsV RL 62 RX7 yX7_together wsX7_together) := goodIn_app (goodIn_of _ (by decide +kernel)) ggL_together_X7_together
theorem dL_together_0 : decode cL_together 0 = .ok (.aload 4, 2) := by decide +kernel
theorem dL_together_2 : decode cL_together 2 = .ok (.iconst 0, 1) := by decide +kernel
theorem dL_together_3 : decode cL_together 3 = .ok (.aload_n 0, 1) := by decide +kernel
theorem dL_together_4 : decode cL_together 4 = .ok (.iload_n 1, 1) := by decide +kernel
theorem dL_together_5 : decode cL_together 5 = .ok (.iload_n 2, 1) := by decide +kernel
theorem dL_together_6 : decode cL_together 6 = .ok (.iload_n 3, 1) := by decide +kernel
theorem dL_together_7 : decode cL_together 7 = .ok (.invokevirtual 62, 3) := by decide +kernel
theorem dL_together_10 : decode cL_together 10 = .ok (.i2l, 1) := by decide +kernel
theorem dL_together_11 : decode cL_together 11 = .ok (.lastore, 1) := by decide +kernel
theorem dL_together_12 : decode cL_together 12 = .ok (.goto 7, 3) := by decide +kernel
theorem dL_together_15 : decode cL_together 15 = .ok (.astore 5, 2) := by decide +kernel
theorem dL_together_17 : decode cL_together 17 = .ok (.iconst 1, 1) := by decide +kernel
theorem dL_together_18 : decode cL_together 18 = .ok (.ireturn, 1) := by decide +kernel
theorem dL_together_19 : decode cL_together 19 = .ok (.iconst 0, 1) := by decide +kernel
theorem dL_together_20 : decode cL_together 20 = .ok (.ireturn, 1) := by decide +kernel
set_option maxRecDepth 20000 in
theorem ggL_togetherAnew_X7_togetherAnew : GoodIn wsL_togetherAnew wsX7_togetherAnew := goodIn_ca (goodIn_r _ [6, 7, 8, 9, 10, 11, 5, 12, 13, 14, 15, 16, 17, 18, 19, 20, 21, 22] (by decide +kernel) (by decide +kernel)) (goodIn_sub (fun _ h => List.mem_cons_of_mem _ (List.mem_append_right _ h)) (by decide +kernel))
set_option maxRecDepth 20000 in
theorem gL_togetherAnew_X7_togetherAnew : GoodIn wsL_togetherAnew (wsV RL 65 RX7 yX7_togetherAnew wsX7_togetherAnew) := goodIn_app (goodIn_of _ (by decide +kernel)) ggL_togetherAnew_X7_togetherAnew
theorem dL_togetherAnew_0 : decode cL_togetherAnew 0 = .ok (.aload 4, 2) := by decide +kernel
theorem dL_togetherAnew_2 : decode cL_togetherAnew 2 = .ok (.iconst 0, 1) := by decide +kernel
theorem dL_togetherAnew_3 : decode cL_togetherAnew 3 = .ok (.aload_n 0, 1) := by decide +kernel
theorem dL_togetherAnew_4 : decode cL_togetherAnew 4 = .ok (.iload_n 1, 1) := by decide +kernel
theorem dL_togetherAnew_5 : decode cL_togetherAnew 5 = .ok (.iload_n 2, 1) := by decide +kernel
theorem dL_togetherAnew_6 : decode cL_togetherAnew 6 = .ok (.iload_n 3, 1) := by decide +kernel
theorem dL_togetherAnew_7 : decode cL_togetherAnew 7 = .ok (.invokevirtual 65, 3) := by decide +kernel
theorem dL_togetherAnew_10 : decode cL_togetherAnew 10 = .ok (.i2l, 1) := by decide +kernel
theorem dL_togetherAnew_11 : decode cL_togetherAnew 11 = .ok (.lastore, 1) := by decide +kernel
theorem dL_togetherAnew_12 : decode cL_togetherAnew 12 = .ok (.goto 7, 3) := by decide +kernel
