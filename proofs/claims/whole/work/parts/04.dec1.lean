theorem dX0_init_0 : decode cX0_init 0 = .ok (.aload_n 0, 1) := by decide +kernel
theorem dX0_init_1 : decode cX0_init 1 = .ok (.invokespecial 1, 3) := by decide +kernel
theorem dX0_init_4 : decode cX0_init 4 = .ok (.aload_n 0, 1) := by decide +kernel
theorem dX0_init_5 : decode cX0_init 5 = .ok (.sipush 1000, 3) := by decide +kernel
theorem dX0_init_8 : decode cX0_init 8 = .ok (.newarray .int, 2) := by decide +kernel
theorem dX0_init_10 : decode cX0_init 10 = .ok (.putfield 9, 3) := by decide +kernel
theorem dX0_init_13 : decode cX0_init 13 = .ok (.aload_n 0, 1) := by decide +kernel
theorem dX0_init_14 : decode cX0_init 14 = .ok (.sipush 1000, 3) := by decide +kernel
theorem dX0_init_17 : decode cX0_init 17 = .ok (.newarray .int, 2) := by decide +kernel
theorem dX0_init_19 : decode cX0_init 19 = .ok (.putfield 13, 3) := by decide +kernel
theorem dX0_init_22 : decode cX0_init 22 = .ok (.aload_n 0, 1) := by decide +kernel
theorem dX0_init_23 : decode cX0_init 23 = .ok (.sipush 1000, 3) := by decide +kernel
theorem dX0_init_26 : decode cX0_init 26 = .ok (.newarray .int, 2) := by decide +kernel
theorem dX0_init_28 : decode cX0_init 28 = .ok (.putfield 16, 3) := by decide +kernel
theorem dX0_init_31 : decode cX0_init 31 = .ok (.return_, 1) := by decide +kernel
theorem dX0_periodFound_0 : decode cX0_periodFound 0 = .ok (.aload_n 0, 1) := by decide +kernel
theorem dX0_periodFound_1 : decode cX0_periodFound 1 = .ok (.getfield 19, 3) := by decide +kernel
theorem dX0_periodFound_4 : decode cX0_periodFound 4 = .ok (.ireturn, 1) := by decide +kernel
theorem dX0_turnsFound_0 : decode cX0_turnsFound 0 = .ok (.aload_n 0, 1) := by decide +kernel
theorem dX0_turnsFound_1 : decode cX0_turnsFound 1 = .ok (.getfield 23, 3) := by decide +kernel
theorem dX0_turnsFound_4 : decode cX0_turnsFound 4 = .ok (.ireturn, 1) := by decide +kernel
theorem dX0_leadFound_0 : decode cX0_leadFound 0 = .ok (.aload_n 0, 1) := by decide +kernel
theorem dX0_leadFound_1 : decode cX0_leadFound 1 = .ok (.getfield 26, 3) := by decide +kernel
theorem dX0_leadFound_4 : decode cX0_leadFound 4 = .ok (.ireturn, 1) := by decide +kernel
theorem dX0_pullOf_0 : decode cX0_pullOf 0 = .ok (.iload_n 0, 1) := by decide +kernel
theorem dX0_pullOf_1 : decode cX0_pullOf 1 = .ok (.sipush 250, 3) := by decide +kernel
theorem dX0_pullOf_4 : decode cX0_pullOf 4 = .ok (.if_icmp .ge 5, 3) := by decide +kernel
theorem dX0_pullOf_7 : decode cX0_pullOf 7 = .ok (.iload_n 0, 1) := by decide +kernel
theorem dX0_pullOf_8 : decode cX0_pullOf 8 = .ok (.ireturn, 1) := by decide +kernel
theorem dX0_pullOf_9 : decode cX0_pullOf 9 = .ok (.iload_n 0, 1) := by decide +kernel
theorem dX0_pullOf_10 : decode cX0_pullOf 10 = .ok (.sipush 750, 3) := by decide +kernel
theorem dX0_pullOf_13 : decode cX0_pullOf 13 = .ok (.if_icmp .ge 11, 3) := by decide +kernel
theorem dX0_pullOf_16 : decode cX0_pullOf 16 = .ok (.sipush 500, 3) := by decide +kernel
theorem dX0_pullOf_19 : decode cX0_pullOf 19 = .ok (.iload_n 0, 1) := by decide +kernel
theorem dX0_pullOf_20 : decode cX0_pullOf 20 = .ok (.isub, 1) := by decide +kernel
theorem dX0_pullOf_21 : decode cX0_pullOf 21 = .ok (.goto 8, 3) := by decide +kernel
theorem dX0_pullOf_24 : decode cX0_pullOf 24 = .ok (.iload_n 0, 1) := by decide +kernel
theorem dX0_pullOf_25 : decode cX0_pullOf 25 = .ok (.sipush 1000, 3) := by decide +kernel
theorem dX0_pullOf_28 : decode cX0_pullOf 28 = .ok (.isub, 1) := by decide +kernel
theorem dX0_pullOf_29 : decode cX0_pullOf 29 = .ok (.ireturn, 1) := by decide +kernel
set_option maxRecDepth 20000 in
theorem ggX0_tick_X0_pullOf : GoodIn wsX0_tick wsX0_pullOf := goodIn_r _ [4] (by decide +kernel) (by decide +kernel)
set_option maxRecDepth 20000 in
theorem gX0_tick_X0_pullOf : GoodIn wsX0_tick (va_wsS RX0 29 yX0_pullOf wsX0_pullOf) := goodIn_app (goodIn_of _ (by decide +kernel)) ggX0_tick_X0_pullOf
set_option maxRecDepth 20000 in
theorem ggX0_tick_J9_floorDiv_7cf53 : GoodIn wsX0_tick wsJ9_floorDiv_7cf53 := goodIn_r _ [8] (by decide +kernel) (by decide +kernel)
set_option maxRecDepth 20000 in
theorem gX0_tick_J9_floorDiv_7cf53 : GoodIn wsX0_tick (va_wsS RX0 33 yJ9_floorDiv_7cf53 wsJ9_floorDiv_7cf53) := goodIn_app (goodIn_of _ (by decide +kernel)) ggX0_tick_J9_floorDiv_7cf53
theorem dX0_tick_0 : decode cX0_tick 0 = .ok (.iload_n 2, 1) := by decide +kernel
theorem dX0_tick_1 : decode cX0_tick 1 = .ok (.iload_n 0, 1) := by decide +kernel
theorem dX0_tick_2 : decode cX0_tick 2 = .ok (.iadd, 1) := by decide +kernel
theorem dX0_tick_3 : decode cX0_tick 3 = .ok (.iload_n 1, 1) := by decide +kernel
theorem dX0_tick_4 : decode cX0_tick 4 = .ok (.iload_n 2, 1) := by decide +kernel
theorem dX0_tick_5 : decode cX0_tick 5 = .ok (.invokestatic 29, 3) := by decide +kernel
theorem dX0_tick_8 : decode cX0_tick 8 = .ok (.imul, 1) := by decide +kernel
theorem dX0_tick_9 : decode cX0_tick 9 = .ok (.bipush 100, 2) := by decide +kernel
theorem dX0_tick_11 : decode cX0_tick 11 = .ok (.invokestatic 33, 3) := by decide +kernel
theorem dX0_tick_14 : decode cX0_tick 14 = .ok (.isub, 1) := by decide +kernel
theorem dX0_tick_15 : decode cX0_tick 15 = .ok (.ireturn, 1) := by decide +kernel
set_option maxRecDepth 20000 in
theorem ggX0_phaseBehind_X0_tick : GoodIn wsX0_phaseBehind wsX0_tick := goodIn_r _ [4, 5, 6, 3, 7, 8, 9, 10, 11] (by decide +kernel) (by decide +kernel)
set_option maxRecDepth 20000 in
theorem gX0_phaseBehind_X0_tick : GoodIn wsX0_phaseBehind (va_wsS RX0 39 yX0_tick wsX0_tick) := goodIn_app (goodIn_of _ (by decide +kernel)) ggX0_phaseBehind_X0_tick
set_option maxRecDepth 20000 in
theorem ggX0_phaseBehind_J9_floorMod_7cf53 : GoodIn wsX0_phaseBehind wsJ9_floorMod_7cf53 := goodIn_r _ [14] (by decide +kernel) (by decide +kernel)
set_option maxRecDepth 20000 in
theorem gX0_phaseBehind_J9_floorMod_7cf53 : GoodIn wsX0_phaseBehind (va_wsS RX0 43 yJ9_floorMod_7cf53 wsJ9_floorMod_7cf53) := goodIn_app (goodIn_of _ (by decide +kernel)) ggX0_phaseBehind_J9_floorMod_7cf53
theorem dX0_phaseBehind_0 : decode cX0_phaseBehind 0 = .ok (.iload_n 3, 1) := by decide +kernel
theorem dX0_phaseBehind_1 : decode cX0_phaseBehind 1 = .ok (.istore 5, 2) := by decide +kernel
theorem dX0_phaseBehind_3 : decode cX0_phaseBehind 3 = .ok (.iconst 0, 1) := by decide +kernel
theorem dX0_phaseBehind_4 : decode cX0_phaseBehind 4 = .ok (.istore 6, 2) := by decide +kernel
theorem dX0_phaseBehind_6 : decode cX0_phaseBehind 6 = .ok (.iload 6, 2) := by decide +kernel
theorem dX0_phaseBehind_8 : decode cX0_phaseBehind 8 = .ok (.iload 4, 2) := by decide +kernel
theorem dX0_phaseBehind_10 : decode cX0_phaseBehind 10 = .ok (.if_icmp .ge 24, 3) := by decide +kernel
theorem dX0_phaseBehind_13 : decode cX0_phaseBehind 13 = .ok (.iload_n 1, 1) := by decide +kernel
theorem dX0_phaseBehind_14 : decode cX0_phaseBehind 14 = .ok (.iload_n 2, 1) := by decide +kernel
theorem dX0_phaseBehind_15 : decode cX0_phaseBehind 15 = .ok (.iload 5, 2) := by decide +kernel
theorem dX0_phaseBehind_17 : decode cX0_phaseBehind 17 = .ok (.invokestatic 39, 3) := by decide +kernel
theorem dX0_phaseBehind_20 : decode cX0_phaseBehind 20 = .ok (.sipush 1000, 3) := by decide +kernel
theorem dX0_phaseBehind_23 : decode cX0_phaseBehind 23 = .ok (.invokestatic 43, 3) := by decide +kernel
theorem dX0_phaseBehind_26 : decode cX0_phaseBehind 26 = .ok (.istore 5, 2) := by decide +kernel
theorem dX0_phaseBehind_28 : decode cX0_phaseBehind 28 = .ok (.iinc 6 1, 3) := by decide +kernel
theorem dX0_phaseBehind_31 : decode cX0_phaseBehind 31 = .ok (.goto (-25), 3) := by decide +kernel
theorem dX0_phaseBehind_34 : decode cX0_phaseBehind 34 = .ok (.iload 5, 2) := by decide +kernel
theorem dX0_phaseBehind_36 : decode cX0_phaseBehind 36 = .ok (.ireturn, 1) := by decide +kernel
set_option maxRecDepth 20000 in
theorem ggX0_seekRound_X0_tick : GoodIn wsX0_seekRound wsX0_tick := goodIn_r _ [11, 12, 13, 10, 14, 15, 16, 17, 18] (by decide +kernel) (by decide +kernel)
set_option maxRecDepth 20000 in
theorem gX0_seekRound_X0_tick : GoodIn wsX0_seekRound (va_wsS RX0 39 yX0_tick wsX0_tick) := goodIn_app (goodIn_of _ (by decide +kernel)) ggX0_seekRound_X0_tick
set_option maxRecDepth 20000 in
theorem ggX0_seekRound_J9_floorDiv_7cf53 : GoodIn wsX0_seekRound wsJ9_floorDiv_7cf53 := goodIn_r _ [18] (by decide +kernel) (by decide +kernel)
set_option maxRecDepth 20000 in
theorem gX0_seekRound_J9_floorDiv_7cf53 : GoodIn wsX0_seekRound (va_wsS RX0 33 yJ9_floorDiv_7cf53 wsJ9_floorDiv_7cf53) := goodIn_app (goodIn_of _ (by decide +kernel)) ggX0_seekRound_J9_floorDiv_7cf53
set_option maxRecDepth 20000 in
theorem ggX0_seekRound_J9_floorMod_7cf53 : GoodIn wsX0_seekRound wsJ9_floorMod_7cf53 := goodIn_r _ [21] (by decide +kernel) (by decide +kernel)
set_option maxRecDepth 20000 in
theorem gX0_seekRound_J9_floorMod_7cf53 : GoodIn wsX0_seekRound (va_wsS RX0 43 yJ9_floorMod_7cf53 wsJ9_floorMod_7cf53) := goodIn_app (goodIn_of _ (by decide +kernel)) ggX0_seekRound_J9_floorMod_7cf53
theorem dX0_seekRound_0 : decode cX0_seekRound 0 = .ok (.aload_n 0, 1) := by decide +kernel
theorem dX0_seekRound_1 : decode cX0_seekRound 1 = .ok (.dup, 1) := by decide +kernel
theorem dX0_seekRound_2 : decode cX0_seekRound 2 = .ok (.getfield 46, 3) := by decide +kernel
theorem dX0_seekRound_5 : decode cX0_seekRound 5 = .ok (.iconst 1, 1) := by decide +kernel
theorem dX0_seekRound_6 : decode cX0_seekRound 6 = .ok (.iadd, 1) := by decide +kernel
theorem dX0_seekRound_7 : decode cX0_seekRound 7 = .ok (.putfield 46, 3) := by decide +kernel
theorem dX0_seekRound_10 : decode cX0_seekRound 10 = .ok (.iload_n 3, 1) := by decide +kernel
theorem dX0_seekRound_11 : decode cX0_seekRound 11 = .ok (.istore 4, 2) := by decide +kernel
theorem dX0_seekRound_13 : decode cX0_seekRound 13 = .ok (.iconst 0, 1) := by decide +kernel
theorem dX0_seekRound_14 : decode cX0_seekRound 14 = .ok (.istore 5, 2) := by decide +kernel
theorem dX0_seekRound_16 : decode cX0_seekRound 16 = .ok (.iconst 0, 1) := by decide +kernel
theorem dX0_seekRound_17 : decode cX0_seekRound 17 = .ok (.istore 6, 2) := by decide +kernel
theorem dX0_seekRound_19 : decode cX0_seekRound 19 = .ok (.iload 6, 2) := by decide +kernel
theorem dX0_seekRound_21 : decode cX0_seekRound 21 = .ok (.sipush 1000, 3) := by decide +kernel
theorem dX0_seekRound_24 : decode cX0_seekRound 24 = .ok (.if_icmp .gt 124, 3) := by decide +kernel
theorem dX0_seekRound_27 : decode cX0_seekRound 27 = .ok (.aload_n 0, 1) := by decide +kernel
theorem dX0_seekRound_28 : decode cX0_seekRound 28 = .ok (.getfield 9, 3) := by decide +kernel
theorem dX0_seekRound_31 : decode cX0_seekRound 31 = .ok (.iload 4, 2) := by decide +kernel
theorem dX0_seekRound_33 : decode cX0_seekRound 33 = .ok (.iaload, 1) := by decide +kernel
theorem dX0_seekRound_34 : decode cX0_seekRound 34 = .ok (.aload_n 0, 1) := by decide +kernel
theorem dX0_seekRound_35 : decode cX0_seekRound 35 = .ok (.getfield 46, 3) := by decide +kernel
theorem dX0_seekRound_38 : decode cX0_seekRound 38 = .ok (.if_icmp .ne 43, 3) := by decide +kernel
theorem dX0_seekRound_41 : decode cX0_seekRound 41 = .ok (.aload_n 0, 1) := by decide +kernel
theorem dX0_seekRound_42 : decode cX0_seekRound 42 = .ok (.aload_n 0, 1) := by decide +kernel
theorem dX0_seekRound_43 : decode cX0_seekRound 43 = .ok (.getfield 13, 3) := by decide +kernel
theorem dX0_seekRound_46 : decode cX0_seekRound 46 = .ok (.iload 4, 2) := by decide +kernel
theorem dX0_seekRound_48 : decode cX0_seekRound 48 = .ok (.iaload, 1) := by decide +kernel
theorem dX0_seekRound_49 : decode cX0_seekRound 49 = .ok (.putfield 26, 3) := by decide +kernel
theorem dX0_seekRound_52 : decode cX0_seekRound 52 = .ok (.aload_n 0, 1) := by decide +kernel
theorem dX0_seekRound_53 : decode cX0_seekRound 53 = .ok (.iload 6, 2) := by decide +kernel
theorem dX0_seekRound_55 : decode cX0_seekRound 55 = .ok (.aload_n 0, 1) := by decide +kernel
theorem dX0_seekRound_56 : decode cX0_seekRound 56 = .ok (.getfield 13, 3) := by decide +kernel
theorem dX0_seekRound_59 : decode cX0_seekRound 59 = .ok (.iload 4, 2) := by decide +kernel
theorem dX0_seekRound_61 : decode cX0_seekRound 61 = .ok (.iaload, 1) := by decide +kernel
theorem dX0_seekRound_62 : decode cX0_seekRound 62 = .ok (.isub, 1) := by decide +kernel
theorem dX0_seekRound_63 : decode cX0_seekRound 63 = .ok (.putfield 19, 3) := by decide +kernel
theorem dX0_seekRound_66 : decode cX0_seekRound 66 = .ok (.aload_n 0, 1) := by decide +kernel
theorem dX0_seekRound_67 : decode cX0_seekRound 67 = .ok (.iload 5, 2) := by decide +kernel
theorem dX0_seekRound_69 : decode cX0_seekRound 69 = .ok (.aload_n 0, 1) := by decide +kernel
theorem dX0_seekRound_70 : decode cX0_seekRound 70 = .ok (.getfield 16, 3) := by decide +kernel
theorem dX0_seekRound_73 : decode cX0_seekRound 73 = .ok (.iload 4, 2) := by decide +kernel
theorem dX0_seekRound_75 : decode cX0_seekRound 75 = .ok (.iaload, 1) := by decide +kernel
theorem dX0_seekRound_76 : decode cX0_seekRound 76 = .ok (.isub, 1) := by decide +kernel
theorem dX0_seekRound_77 : decode cX0_seekRound 77 = .ok (.putfield 23, 3) := by decide +kernel
theorem dX0_seekRound_80 : decode cX0_seekRound 80 = .ok (.return_, 1) := by decide +kernel
theorem dX0_seekRound_81 : decode cX0_seekRound 81 = .ok (.aload_n 0, 1) := by decide +kernel
theorem dX0_seekRound_82 : decode cX0_seekRound 82 = .ok (.getfield 9, 3) := by decide +kernel
theorem dX0_seekRound_85 : decode cX0_seekRound 85 = .ok (.iload 4, 2) := by decide +kernel
theorem dX0_seekRound_87 : decode cX0_seekRound 87 = .ok (.aload_n 0, 1) := by decide +kernel
theorem dX0_seekRound_88 : decode cX0_seekRound 88 = .ok (.getfield 46, 3) := by decide +kernel
theorem dX0_seekRound_91 : decode cX0_seekRound 91 = .ok (.iastore, 1) := by decide +kernel
theorem dX0_seekRound_92 : decode cX0_seekRound 92 = .ok (.aload_n 0, 1) := by decide +kernel
theorem dX0_seekRound_93 : decode cX0_seekRound 93 = .ok (.getfield 13, 3) := by decide +kernel
theorem dX0_seekRound_96 : decode cX0_seekRound 96 = .ok (.iload 4, 2) := by decide +kernel
theorem dX0_seekRound_98 : decode cX0_seekRound 98 = .ok (.iload 6, 2) := by decide +kernel
theorem dX0_seekRound_100 : decode cX0_seekRound 100 = .ok (.iastore, 1) := by decide +kernel
theorem dX0_seekRound_101 : decode cX0_seekRound 101 = .ok (.aload_n 0, 1) := by decide +kernel
theorem dX0_seekRound_102 : decode cX0_seekRound 102 = .ok (.getfield 16, 3) := by decide +kernel
theorem dX0_seekRound_105 : decode cX0_seekRound 105 = .ok (.iload 4, 2) := by decide +kernel
theorem dX0_seekRound_107 : decode cX0_seekRound 107 = .ok (.iload 5, 2) := by decide +kernel
theorem dX0_seekRound_109 : decode cX0_seekRound 109 = .ok (.iastore, 1) := by decide +kernel
theorem dX0_seekRound_110 : decode cX0_seekRound 110 = .ok (.iload_n 1, 1) := by decide +kernel
theorem dX0_seekRound_111 : decode cX0_seekRound 111 = .ok (.iload_n 2, 1) := by decide +kernel
theorem dX0_seekRound_112 : decode cX0_seekRound 112 = .ok (.iload 4, 2) := by decide +kernel
theorem dX0_seekRound_114 : decode cX0_seekRound 114 = .ok (.invokestatic 39, 3) := by decide +kernel
theorem dX0_seekRound_117 : decode cX0_seekRound 117 = .ok (.istore 7, 2) := by decide +kernel
theorem dX0_seekRound_119 : decode cX0_seekRound 119 = .ok (.iload 5, 2) := by decide +kernel
theorem dX0_seekRound_121 : decode cX0_seekRound 121 = .ok (.iload 7, 2) := by decide +kernel
theorem dX0_seekRound_123 : decode cX0_seekRound 123 = .ok (.sipush 1000, 3) := by decide +kernel
theorem dX0_seekRound_126 : decode cX0_seekRound 126 = .ok (.invokestatic 33, 3) := by decide +kernel
theorem dX0_seekRound_129 : decode cX0_seekRound 129 = .ok (.iadd, 1) := by decide +kernel
theorem dX0_seekRound_130 : decode cX0_seekRound 130 = .ok (.istore 5, 2) := by decide +kernel
theorem dX0_seekRound_132 : decode cX0_seekRound 132 = .ok (.iload 7, 2) := by decide +kernel
theorem dX0_seekRound_134 : decode cX0_seekRound 134 = .ok (.sipush 1000, 3) := by decide +kernel
theorem dX0_seekRound_137 : decode cX0_seekRound 137 = .ok (.invokestatic 43, 3) := by decide +kernel
theorem dX0_seekRound_140 : decode cX0_seekRound 140 = .ok (.istore 4, 2) := by decide +kernel
theorem dX0_seekRound_142 : decode cX0_seekRound 142 = .ok (.iinc 6 1, 3) := by decide +kernel
theorem dX0_seekRound_145 : decode cX0_seekRound 145 = .ok (.goto (-126), 3) := by decide +kernel
theorem dX0_seekRound_148 : decode cX0_seekRound 148 = .ok (.return_, 1) := by decide +kernel
set_option maxRecDepth 20000 in
theorem ggX0_countLocks_X0_seekRound : GoodIn wsX0_countLocks wsX0_seekRound := goodIn_r _ [7, 8, 9, 10, 11, 2, 12, 1, 13, 14, 6, 15, 16, 17, 18, 19, 20, 21, 22, 23, 24, 25, 26, 27, 28, 29, 30, 31, 32] (by decide +kernel) (by decide +kernel)
set_option maxRecDepth 20000 in
theorem gX0_countLocks_X0_seekRound : GoodIn wsX0_countLocks (wsV RX0 49 RX0 yX0_seekRound wsX0_seekRound) := goodIn_app (goodIn_of _ (by decide +kernel)) ggX0_countLocks_X0_seekRound
theorem dX0_countLocks_0 : decode cX0_countLocks 0 = .ok (.iconst 0, 1) := by decide +kernel
theorem dX0_countLocks_1 : decode cX0_countLocks 1 = .ok (.istore 4, 2) := by decide +kernel
theorem dX0_countLocks_3 : decode cX0_countLocks 3 = .ok (.iconst 0, 1) := by decide +kernel
theorem dX0_countLocks_4 : decode cX0_countLocks 4 = .ok (.istore 5, 2) := by decide +kernel
theorem dX0_countLocks_6 : decode cX0_countLocks 6 = .ok (.iload 5, 2) := by decide +kernel
theorem dX0_countLocks_8 : decode cX0_countLocks 8 = .ok (.sipush 1000, 3) := by decide +kernel
theorem dX0_countLocks_11 : decode cX0_countLocks 11 = .ok (.if_icmp .ge 35, 3) := by decide +kernel
theorem dX0_countLocks_14 : decode cX0_countLocks 14 = .ok (.aload_n 0, 1) := by decide +kernel
theorem dX0_countLocks_15 : decode cX0_countLocks 15 = .ok (.iload 5, 2) := by decide +kernel
theorem dX0_countLocks_17 : decode cX0_countLocks 17 = .ok (.iload_n 1, 1) := by decide +kernel
theorem dX0_countLocks_18 : decode cX0_countLocks 18 = .ok (.iconst 0, 1) := by decide +kernel
theorem dX0_countLocks_19 : decode cX0_countLocks 19 = .ok (.invokevirtual 49, 3) := by decide +kernel
theorem dX0_countLocks_22 : decode cX0_countLocks 22 = .ok (.aload_n 0, 1) := by decide +kernel
theorem dX0_countLocks_23 : decode cX0_countLocks 23 = .ok (.getfield 23, 3) := by decide +kernel
theorem dX0_countLocks_26 : decode cX0_countLocks 26 = .ok (.iload_n 3, 1) := by decide +kernel
theorem dX0_countLocks_27 : decode cX0_countLocks 27 = .ok (.imul, 1) := by decide +kernel
theorem dX0_countLocks_28 : decode cX0_countLocks 28 = .ok (.iload_n 2, 1) := by decide +kernel
theorem dX0_countLocks_29 : decode cX0_countLocks 29 = .ok (.aload_n 0, 1) := by decide +kernel
theorem dX0_countLocks_30 : decode cX0_countLocks 30 = .ok (.getfield 19, 3) := by decide +kernel
theorem dX0_countLocks_33 : decode cX0_countLocks 33 = .ok (.imul, 1) := by decide +kernel
theorem dX0_countLocks_34 : decode cX0_countLocks 34 = .ok (.if_icmp .ne 6, 3) := by decide +kernel
theorem dX0_countLocks_37 : decode cX0_countLocks 37 = .ok (.iinc 4 1, 3) := by decide +kernel
theorem dX0_countLocks_40 : decode cX0_countLocks 40 = .ok (.iinc 5 1, 3) := by decide +kernel
theorem dX0_countLocks_43 : decode cX0_countLocks 43 = .ok (.goto (-37), 3) := by decide +kernel
theorem dX0_countLocks_46 : decode cX0_countLocks 46 = .ok (.iload 4, 2) := by decide +kernel
theorem dX0_countLocks_48 : decode cX0_countLocks 48 = .ok (.ireturn, 1) := by decide +kernel
theorem dX1_byRemainders_0 : decode cX1_byRemainders 0 = .ok (.iconst 1, 1) := by decide +kernel
theorem dX1_byRemainders_1 : decode cX1_byRemainders 1 = .ok (.istore_n 3, 1) := by decide +kernel
theorem dX1_byRemainders_2 : decode cX1_byRemainders 2 = .ok (.iload_n 3, 1) := by decide +kernel
theorem dX1_byRemainders_3 : decode cX1_byRemainders 3 = .ok (.sipush 5000, 3) := by decide +kernel
theorem dX1_byRemainders_6 : decode cX1_byRemainders 6 = .ok (.if_icmp .gt 40, 3) := by decide +kernel
theorem dX1_byRemainders_9 : decode cX1_byRemainders 9 = .ok (.iload_n 3, 1) := by decide +kernel
theorem dX1_byRemainders_10 : decode cX1_byRemainders 10 = .ok (.i2l, 1) := by decide +kernel
theorem dX1_byRemainders_11 : decode cX1_byRemainders 11 = .ok (.iload_n 0, 1) := by decide +kernel
theorem dX1_byRemainders_12 : decode cX1_byRemainders 12 = .ok (.i2l, 1) := by decide +kernel
theorem dX1_byRemainders_13 : decode cX1_byRemainders 13 = .ok (.lmul, 1) := by decide +kernel
theorem dX1_byRemainders_14 : decode cX1_byRemainders 14 = .ok (.iload_n 1, 1) := by decide +kernel
theorem dX1_byRemainders_15 : decode cX1_byRemainders 15 = .ok (.i2l, 1) := by decide +kernel
theorem dX1_byRemainders_16 : decode cX1_byRemainders 16 = .ok (.lrem, 1) := by decide +kernel
theorem dX1_byRemainders_17 : decode cX1_byRemainders 17 = .ok (.lstore 4, 2) := by decide +kernel
theorem dX1_byRemainders_19 : decode cX1_byRemainders 19 = .ok (.lload 4, 2) := by decide +kernel
theorem dX1_byRemainders_21 : decode cX1_byRemainders 21 = .ok (.iload_n 2, 1) := by decide +kernel
theorem dX1_byRemainders_22 : decode cX1_byRemainders 22 = .ok (.i2l, 1) := by decide +kernel
theorem dX1_byRemainders_23 : decode cX1_byRemainders 23 = .ok (.lcmp, 1) := by decide +kernel
theorem dX1_byRemainders_24 : decode cX1_byRemainders 24 = .ok (.ifCond .le 14, 3) := by decide +kernel
theorem dX1_byRemainders_27 : decode cX1_byRemainders 27 = .ok (.iload_n 1, 1) := by decide +kernel
theorem dX1_byRemainders_28 : decode cX1_byRemainders 28 = .ok (.i2l, 1) := by decide +kernel
theorem dX1_byRemainders_29 : decode cX1_byRemainders 29 = .ok (.lload 4, 2) := by decide +kernel
theorem dX1_byRemainders_31 : decode cX1_byRemainders 31 = .ok (.lsub, 1) := by decide +kernel
theorem dX1_byRemainders_32 : decode cX1_byRemainders 32 = .ok (.iload_n 2, 1) := by decide +kernel
theorem dX1_byRemainders_33 : decode cX1_byRemainders 33 = .ok (.i2l, 1) := by decide +kernel
theorem dX1_byRemainders_34 : decode cX1_byRemainders 34 = .ok (.lcmp, 1) := by decide +kernel
theorem dX1_byRemainders_35 : decode cX1_byRemainders 35 = .ok (.ifCond .gt 5, 3) := by decide +kernel
theorem dX1_byRemainders_38 : decode cX1_byRemainders 38 = .ok (.iload_n 3, 1) := by decide +kernel
theorem dX1_byRemainders_39 : decode cX1_byRemainders 39 = .ok (.ireturn, 1) := by decide +kernel
theorem dX1_byRemainders_40 : decode cX1_byRemainders 40 = .ok (.iinc 3 1, 3) := by decide +kernel
theorem dX1_byRemainders_43 : decode cX1_byRemainders 43 = .ok (.goto (-41), 3) := by decide +kernel
theorem dX1_byRemainders_46 : decode cX1_byRemainders 46 = .ok (.iconst (-1), 1) := by decide +kernel
theorem dX1_byRemainders_47 : decode cX1_byRemainders 47 = .ok (.ireturn, 1) := by decide +kernel
theorem dX1_byCounting_0 : decode cX1_byCounting 0 = .ok (.lconst 0, 1) := by decide +kernel
theorem dX1_byCounting_1 : decode cX1_byCounting 1 = .ok (.lstore_n 3, 1) := by decide +kernel
theorem dX1_byCounting_2 : decode cX1_byCounting 2 = .ok (.lconst 0, 1) := by decide +kernel
theorem dX1_byCounting_3 : decode cX1_byCounting 3 = .ok (.lstore 5, 2) := by decide +kernel
theorem dX1_byCounting_5 : decode cX1_byCounting 5 = .ok (.iconst 0, 1) := by decide +kernel
theorem dX1_byCounting_6 : decode cX1_byCounting 6 = .ok (.istore 7, 2) := by decide +kernel
theorem dX1_byCounting_8 : decode cX1_byCounting 8 = .ok (.iconst 1, 1) := by decide +kernel
theorem dX1_byCounting_9 : decode cX1_byCounting 9 = .ok (.istore 8, 2) := by decide +kernel
theorem dX1_byCounting_11 : decode cX1_byCounting 11 = .ok (.iload 8, 2) := by decide +kernel
theorem dX1_byCounting_13 : decode cX1_byCounting 13 = .ok (.sipush 5000, 3) := by decide +kernel
theorem dX1_byCounting_16 : decode cX1_byCounting 16 = .ok (.if_icmp .gt 70, 3) := by decide +kernel
theorem dX1_byCounting_19 : decode cX1_byCounting 19 = .ok (.lload_n 3, 1) := by decide +kernel
theorem dX1_byCounting_20 : decode cX1_byCounting 20 = .ok (.iload_n 0, 1) := by decide +kernel
theorem dX1_byCounting_21 : decode cX1_byCounting 21 = .ok (.i2l, 1) := by decide +kernel
theorem dX1_byCounting_22 : decode cX1_byCounting 22 = .ok (.ladd, 1) := by decide +kernel
theorem dX1_byCounting_23 : decode cX1_byCounting 23 = .ok (.lstore_n 3, 1) := by decide +kernel
theorem dX1_byCounting_24 : decode cX1_byCounting 24 = .ok (.lload 5, 2) := by decide +kernel
theorem dX1_byCounting_26 : decode cX1_byCounting 26 = .ok (.iload_n 1, 1) := by decide +kernel
theorem dX1_byCounting_27 : decode cX1_byCounting 27 = .ok (.i2l, 1) := by decide +kernel
theorem dX1_byCounting_28 : decode cX1_byCounting 28 = .ok (.ladd, 1) := by decide +kernel
theorem dX1_byCounting_29 : decode cX1_byCounting 29 = .ok (.lload_n 3, 1) := by decide +kernel
theorem dX1_byCounting_30 : decode cX1_byCounting 30 = .ok (.lcmp, 1) := by decide +kernel
theorem dX1_byCounting_31 : decode cX1_byCounting 31 = .ok (.ifCond .gt 23, 3) := by decide +kernel
theorem dX1_byCounting_34 : decode cX1_byCounting 34 = .ok (.iload 7, 2) := by decide +kernel
theorem dX1_byCounting_36 : decode cX1_byCounting 36 = .ok (.ldc 11, 2) := by decide +kernel
theorem dX1_byCounting_38 : decode cX1_byCounting 38 = .ok (.if_icmp .ge 16, 3) := by decide +kernel
theorem dX1_byCounting_41 : decode cX1_byCounting 41 = .ok (.lload 5, 2) := by decide +kernel
theorem dX1_byCounting_43 : decode cX1_byCounting 43 = .ok (.iload_n 1, 1) := by decide +kernel
theorem dX1_byCounting_44 : decode cX1_byCounting 44 = .ok (.i2l, 1) := by decide +kernel
theorem dX1_byCounting_45 : decode cX1_byCounting 45 = .ok (.ladd, 1) := by decide +kernel
theorem dX1_byCounting_46 : decode cX1_byCounting 46 = .ok (.lstore 5, 2) := by decide +kernel
theorem dX1_byCounting_48 : decode cX1_byCounting 48 = .ok (.iinc 7 1, 3) := by decide +kernel
theorem dX1_byCounting_51 : decode cX1_byCounting 51 = .ok (.goto (-27), 3) := by decide +kernel
theorem dX1_byCounting_54 : decode cX1_byCounting 54 = .ok (.lload_n 3, 1) := by decide +kernel
theorem dX1_byCounting_55 : decode cX1_byCounting 55 = .ok (.lload 5, 2) := by decide +kernel
theorem dX1_byCounting_57 : decode cX1_byCounting 57 = .ok (.lsub, 1) := by decide +kernel
theorem dX1_byCounting_58 : decode cX1_byCounting 58 = .ok (.iload_n 2, 1) := by decide +kernel
theorem dX1_byCounting_59 : decode cX1_byCounting 59 = .ok (.i2l, 1) := by decide +kernel
theorem dX1_byCounting_60 : decode cX1_byCounting 60 = .ok (.lcmp, 1) := by decide +kernel
theorem dX1_byCounting_61 : decode cX1_byCounting 61 = .ok (.ifCond .le 16, 3) := by decide +kernel
theorem dX1_byCounting_64 : decode cX1_byCounting 64 = .ok (.lload 5, 2) := by decide +kernel
theorem dX1_byCounting_66 : decode cX1_byCounting 66 = .ok (.iload_n 1, 1) := by decide +kernel
theorem dX1_byCounting_67 : decode cX1_byCounting 67 = .ok (.i2l, 1) := by decide +kernel
theorem dX1_byCounting_68 : decode cX1_byCounting 68 = .ok (.ladd, 1) := by decide +kernel
theorem dX1_byCounting_69 : decode cX1_byCounting 69 = .ok (.lload_n 3, 1) := by decide +kernel
theorem dX1_byCounting_70 : decode cX1_byCounting 70 = .ok (.lsub, 1) := by decide +kernel
theorem dX1_byCounting_71 : decode cX1_byCounting 71 = .ok (.iload_n 2, 1) := by decide +kernel
theorem dX1_byCounting_72 : decode cX1_byCounting 72 = .ok (.i2l, 1) := by decide +kernel
theorem dX1_byCounting_73 : decode cX1_byCounting 73 = .ok (.lcmp, 1) := by decide +kernel
theorem dX1_byCounting_74 : decode cX1_byCounting 74 = .ok (.ifCond .gt 6, 3) := by decide +kernel
theorem dX1_byCounting_77 : decode cX1_byCounting 77 = .ok (.iload 8, 2) := by decide +kernel
theorem dX1_byCounting_79 : decode cX1_byCounting 79 = .ok (.ireturn, 1) := by decide +kernel
theorem dX1_byCounting_80 : decode cX1_byCounting 80 = .ok (.iinc 8 1, 3) := by decide +kernel
theorem dX1_byCounting_83 : decode cX1_byCounting 83 = .ok (.goto (-72), 3) := by decide +kernel
theorem dX1_byCounting_86 : decode cX1_byCounting 86 = .ok (.iconst (-1), 1) := by decide +kernel
theorem dX1_byCounting_87 : decode cX1_byCounting 87 = .ok (.ireturn, 1) := by decide +kernel
theorem dX2_init_0 : decode cX2_init 0 = .ok (.aload_n 0, 1) := by decide +kernel
theorem dX2_init_1 : decode cX2_init 1 = .ok (.invokespecial 3, 3) := by decide +kernel
theorem dX2_init_4 : decode cX2_init 4 = .ok (.aload_n 0, 1) := by decide +kernel
theorem dX2_init_5 : decode cX2_init 5 = .ok (.bipush 8, 2) := by decide +kernel
theorem dX2_init_7 : decode cX2_init 7 = .ok (.newarray .int, 2) := by decide +kernel
theorem dX2_init_9 : decode cX2_init 9 = .ok (.putfield 11, 3) := by decide +kernel
theorem dX2_init_12 : decode cX2_init 12 = .ok (.aload_n 0, 1) := by decide +kernel
theorem dX2_init_13 : decode cX2_init 13 = .ok (.bipush 8, 2) := by decide +kernel
theorem dX2_init_15 : decode cX2_init 15 = .ok (.newarray .int, 2) := by decide +kernel
theorem dX2_init_17 : decode cX2_init 17 = .ok (.putfield 15, 3) := by decide +kernel
theorem dX2_init_20 : decode cX2_init 20 = .ok (.aload_n 0, 1) := by decide +kernel
theorem dX2_init_21 : decode cX2_init 21 = .ok (.bipush 8, 2) := by decide +kernel
theorem dX2_init_23 : decode cX2_init 23 = .ok (.newarray .int, 2) := by decide +kernel
theorem dX2_init_25 : decode cX2_init 25 = .ok (.putfield 18, 3) := by decide +kernel
theorem dX2_init_28 : decode cX2_init 28 = .ok (.aload_n 0, 1) := by decide +kernel
theorem dX2_init_29 : decode cX2_init 29 = .ok (.bipush 8, 2) := by decide +kernel
theorem dX2_init_31 : decode cX2_init 31 = .ok (.newarray .int, 2) := by decide +kernel
theorem dX2_init_33 : decode cX2_init 33 = .ok (.putfield 21, 3) := by decide +kernel
theorem dX2_init_36 : decode cX2_init 36 = .ok (.aload_n 0, 1) := by decide +kernel
theorem dX2_init_37 : decode cX2_init 37 = .ok (.iconst 1, 1) := by decide +kernel
theorem dX2_init_38 : decode cX2_init 38 = .ok (.putfield 24, 3) := by decide +kernel
theorem dX2_init_41 : decode cX2_init 41 = .ok (.return_, 1) := by decide +kernel
theorem dX2_number_0 : decode cX2_number 0 = .ok (.aload_n 0, 1) := by decide +kernel
theorem dX2_number_1 : decode cX2_number 1 = .ok (.getfield 24, 3) := by decide +kernel
theorem dX2_number_4 : decode cX2_number 4 = .ok (.ireturn, 1) := by decide +kernel
theorem dX2_has_0 : decode cX2_has 0 = .ok (.iload_n 1, 1) := by decide +kernel
theorem dX2_has_1 : decode cX2_has 1 = .ok (.ifCond .lt 15, 3) := by decide +kernel
theorem dX2_has_4 : decode cX2_has 4 = .ok (.iload_n 1, 1) := by decide +kernel
theorem dX2_has_5 : decode cX2_has 5 = .ok (.aload_n 0, 1) := by decide +kernel
theorem dX2_has_6 : decode cX2_has 6 = .ok (.getfield 24, 3) := by decide +kernel
theorem dX2_has_9 : decode cX2_has 9 = .ok (.if_icmp .ge 7, 3) := by decide +kernel
theorem dX2_has_12 : decode cX2_has 12 = .ok (.iconst 1, 1) := by decide +kernel
theorem dX2_has_13 : decode cX2_has 13 = .ok (.goto 4, 3) := by decide +kernel
theorem dX2_has_16 : decode cX2_has 16 = .ok (.iconst 0, 1) := by decide +kernel
theorem dX2_has_17 : decode cX2_has 17 = .ok (.ireturn, 1) := by decide +kernel
set_option maxRecDepth 20000 in
theorem ggX2_hang_J7_fill_53178 : GoodIn wsX2_hang wsJ7_fill_53178 := goodIn_r _ [9] (by decide +kernel) (by decide +kernel)
set_option maxRecDepth 20000 in
theorem gX2_hang_J7_fill_53178 : GoodIn wsX2_hang (va_wsS RX2 34 yJ7_fill_53178 wsJ7_fill_53178) := goodIn_app (goodIn_of _ (by decide +kernel)) ggX2_hang_J7_fill_53178
theorem dX2_hang_0 : decode cX2_hang 0 = .ok (.aload_n 0, 1) := by decide +kernel
theorem dX2_hang_1 : decode cX2_hang 1 = .ok (.getfield 24, 3) := by decide +kernel
theorem dX2_hang_4 : decode cX2_hang 4 = .ok (.istore 4, 2) := by decide +kernel
theorem dX2_hang_6 : decode cX2_hang 6 = .ok (.aload_n 0, 1) := by decide +kernel
theorem dX2_hang_7 : decode cX2_hang 7 = .ok (.iload_n 1, 1) := by decide +kernel
theorem dX2_hang_8 : decode cX2_hang 8 = .ok (.putfield 24, 3) := by decide +kernel
theorem dX2_hang_11 : decode cX2_hang 11 = .ok (.aload_n 0, 1) := by decide +kernel
theorem dX2_hang_12 : decode cX2_hang 12 = .ok (.iload_n 2, 1) := by decide +kernel
theorem dX2_hang_13 : decode cX2_hang 13 = .ok (.putfield 28, 3) := by decide +kernel
theorem dX2_hang_16 : decode cX2_hang 16 = .ok (.aload_n 0, 1) := by decide +kernel
theorem dX2_hang_17 : decode cX2_hang 17 = .ok (.iload_n 3, 1) := by decide +kernel
theorem dX2_hang_18 : decode cX2_hang 18 = .ok (.putfield 31, 3) := by decide +kernel
theorem dX2_hang_21 : decode cX2_hang 21 = .ok (.aload_n 0, 1) := by decide +kernel
theorem dX2_hang_22 : decode cX2_hang 22 = .ok (.getfield 11, 3) := by decide +kernel
theorem dX2_hang_25 : decode cX2_hang 25 = .ok (.iconst 0, 1) := by decide +kernel
theorem dX2_hang_26 : decode cX2_hang 26 = .ok (.invokestatic 34, 3) := by decide +kernel
theorem dX2_hang_29 : decode cX2_hang 29 = .ok (.aload_n 0, 1) := by decide +kernel
theorem dX2_hang_30 : decode cX2_hang 30 = .ok (.getfield 15, 3) := by decide +kernel
theorem dX2_hang_33 : decode cX2_hang 33 = .ok (.iconst 0, 1) := by decide +kernel
theorem dX2_hang_34 : decode cX2_hang 34 = .ok (.invokestatic 34, 3) := by decide +kernel
theorem dX2_hang_37 : decode cX2_hang 37 = .ok (.iload 4, 2) := by decide +kernel
theorem dX2_hang_39 : decode cX2_hang 39 = .ok (.ireturn, 1) := by decide +kernel
theorem dX2_put_0 : decode cX2_put 0 = .ok (.aload_n 0, 1) := by decide +kernel
theorem dX2_put_1 : decode cX2_put 1 = .ok (.getfield 11, 3) := by decide +kernel
theorem dX2_put_4 : decode cX2_put 4 = .ok (.iload_n 1, 1) := by decide +kernel
theorem dX2_put_5 : decode cX2_put 5 = .ok (.iload_n 2, 1) := by decide +kernel
theorem dX2_put_6 : decode cX2_put 6 = .ok (.iastore, 1) := by decide +kernel
theorem dX2_put_7 : decode cX2_put 7 = .ok (.aload_n 0, 1) := by decide +kernel
theorem dX2_put_8 : decode cX2_put 8 = .ok (.getfield 15, 3) := by decide +kernel
theorem dX2_put_11 : decode cX2_put 11 = .ok (.iload_n 1, 1) := by decide +kernel
theorem dX2_put_12 : decode cX2_put 12 = .ok (.iload_n 3, 1) := by decide +kernel
theorem dX2_put_13 : decode cX2_put 13 = .ok (.iastore, 1) := by decide +kernel
theorem dX2_put_14 : decode cX2_put 14 = .ok (.return_, 1) := by decide +kernel
theorem dX2_setDrive_0 : decode cX2_setDrive 0 = .ok (.aload_n 0, 1) := by decide +kernel
theorem dX2_setDrive_1 : decode cX2_setDrive 1 = .ok (.iload_n 1, 1) := by decide +kernel
theorem dX2_setDrive_2 : decode cX2_setDrive 2 = .ok (.putfield 40, 3) := by decide +kernel
theorem dX2_setDrive_5 : decode cX2_setDrive 5 = .ok (.aload_n 0, 1) := by decide +kernel
theorem dX2_setDrive_6 : decode cX2_setDrive 6 = .ok (.iload_n 2, 1) := by decide +kernel
theorem dX2_setDrive_7 : decode cX2_setDrive 7 = .ok (.putfield 43, 3) := by decide +kernel
theorem dX2_setDrive_10 : decode cX2_setDrive 10 = .ok (.return_, 1) := by decide +kernel
theorem dX2_isDriven_0 : decode cX2_isDriven 0 = .ok (.aload_n 0, 1) := by decide +kernel
theorem dX2_isDriven_1 : decode cX2_isDriven 1 = .ok (.getfield 40, 3) := by decide +kernel
theorem dX2_isDriven_4 : decode cX2_isDriven 4 = .ok (.ifCond .ne 10, 3) := by decide +kernel
theorem dX2_isDriven_7 : decode cX2_isDriven 7 = .ok (.aload_n 0, 1) := by decide +kernel
theorem dX2_isDriven_8 : decode cX2_isDriven 8 = .ok (.getfield 43, 3) := by decide +kernel
theorem dX2_isDriven_11 : decode cX2_isDriven 11 = .ok (.ifCond .eq 7, 3) := by decide +kernel
theorem dX2_isDriven_14 : decode cX2_isDriven 14 = .ok (.iconst 1, 1) := by decide +kernel
theorem dX2_isDriven_15 : decode cX2_isDriven 15 = .ok (.goto 4, 3) := by decide +kernel
theorem dX2_isDriven_18 : decode cX2_isDriven 18 = .ok (.iconst 0, 1) := by decide +kernel
theorem dX2_isDriven_19 : decode cX2_isDriven 19 = .ok (.ireturn, 1) := by decide +kernel
theorem dX2_placeOf_0 : decode cX2_placeOf 0 = .ok (.aload_n 0, 1) := by decide +kernel
theorem dX2_placeOf_1 : decode cX2_placeOf 1 = .ok (.getfield 11, 3) := by decide +kernel
theorem dX2_placeOf_4 : decode cX2_placeOf 4 = .ok (.iload_n 1, 1) := by decide +kernel
theorem dX2_placeOf_5 : decode cX2_placeOf 5 = .ok (.iaload, 1) := by decide +kernel
theorem dX2_placeOf_6 : decode cX2_placeOf 6 = .ok (.ireturn, 1) := by decide +kernel
theorem dX2_speedOf_0 : decode cX2_speedOf 0 = .ok (.aload_n 0, 1) := by decide +kernel
theorem dX2_speedOf_1 : decode cX2_speedOf 1 = .ok (.getfield 15, 3) := by decide +kernel
theorem dX2_speedOf_4 : decode cX2_speedOf 4 = .ok (.iload_n 1, 1) := by decide +kernel
theorem dX2_speedOf_5 : decode cX2_speedOf 5 = .ok (.iaload, 1) := by decide +kernel
theorem dX2_speedOf_6 : decode cX2_speedOf 6 = .ok (.ireturn, 1) := by decide +kernel
set_option maxRecDepth 20000 in
theorem ggX2_stepMany_X2_planStepBack : GoodIn wsX2_stepMany wsX2_planStepBack := goodIn_r _ [5, 6, 7, 8, 9, 10, 11, 12, 13, 4, 14, 15, 16, 17, 18, 19, 20, 44, 45, 46, 47, 48, 49, 50, 51, 52] (by decide +kernel) (by decide +kernel)
set_option maxRecDepth 20000 in
theorem gX2_stepMany_X2_planStepBack : GoodIn wsX2_stepMany (wsV RX2 46 RX2 yX2_planStepBack wsX2_planStepBack) := goodIn_app (goodIn_of _ (by decide +kernel)) ggX2_stepMany_X2_planStepBack
set_option maxRecDepth 20000 in
theorem ggX2_stepMany_X2_planStep : GoodIn wsX2_stepMany wsX2_planStep := goodIn_r _ [24, 6, 9, 8, 25, 10, 7, 26, 11, 12, 13, 4, 14, 15, 16, 17, 18, 19, 20, 44, 45, 46, 47, 48, 49, 50, 51, 52] (by decide +kernel) (by decide +kernel)
set_option maxRecDepth 20000 in
theorem gX2_stepMany_X2_planStep : GoodIn wsX2_stepMany (wsV RX2 49 RX2 yX2_planStep wsX2_planStep) := goodIn_app (goodIn_of _ (by decide +kernel)) ggX2_stepMany_X2_planStep
set_option maxRecDepth 20000 in
theorem ggX2_stepMany_X2_isPlanWithin : GoodIn wsX2_stepMany wsX2_isPlanWithin := goodIn_r _ [30, 6, 7, 31, 32, 10, 33, 34, 35, 44, 45, 46, 47, 48, 49, 50, 51, 52] (by decide +kernel) (by decide +kernel)
set_option maxRecDepth 20000 in
theorem gX2_stepMany_X2_isPlanWithin : GoodIn wsX2_stepMany (wsV RX2 52 RX2 yX2_isPlanWithin wsX2_isPlanWithin) := goodIn_app (goodIn_of _ (by decide +kernel)) ggX2_stepMany_X2_isPlanWithin
set_option maxRecDepth 20000 in
theorem ggX2_stepMany_X2_takePlan : GoodIn wsX2_stepMany wsX2_takePlan := goodIn_r _ [39, 7, 8, 6, 40, 41, 42, 43, 10, 9, 44, 45, 46, 47, 48, 49, 50, 51, 52] (by decide +kernel) (by decide +kernel)
set_option maxRecDepth 20000 in
theorem gX2_stepMany_X2_takePlan : GoodIn wsX2_stepMany (wsV RX2 56 RX2 yX2_takePlan wsX2_takePlan) := goodIn_app (goodIn_of _ (by decide +kernel)) ggX2_stepMany_X2_takePlan
theorem dX2_stepMany_0 : decode cX2_stepMany 0 = .ok (.iconst 0, 1) := by decide +kernel
theorem dX2_stepMany_1 : decode cX2_stepMany 1 = .ok (.istore_n 3, 1) := by decide +kernel
theorem dX2_stepMany_2 : decode cX2_stepMany 2 = .ok (.iload_n 3, 1) := by decide +kernel
theorem dX2_stepMany_3 : decode cX2_stepMany 3 = .ok (.iload_n 1, 1) := by decide +kernel
theorem dX2_stepMany_4 : decode cX2_stepMany 4 = .ok (.if_icmp .ge 37, 3) := by decide +kernel
theorem dX2_stepMany_7 : decode cX2_stepMany 7 = .ok (.iload_n 2, 1) := by decide +kernel
theorem dX2_stepMany_8 : decode cX2_stepMany 8 = .ok (.ifCond .eq 10, 3) := by decide +kernel
theorem dX2_stepMany_11 : decode cX2_stepMany 11 = .ok (.aload_n 0, 1) := by decide +kernel
theorem dX2_stepMany_12 : decode cX2_stepMany 12 = .ok (.invokevirtual 46, 3) := by decide +kernel
theorem dX2_stepMany_15 : decode cX2_stepMany 15 = .ok (.goto 7, 3) := by decide +kernel
theorem dX2_stepMany_18 : decode cX2_stepMany 18 = .ok (.aload_n 0, 1) := by decide +kernel
theorem dX2_stepMany_19 : decode cX2_stepMany 19 = .ok (.invokevirtual 49, 3) := by decide +kernel
theorem dX2_stepMany_22 : decode cX2_stepMany 22 = .ok (.aload_n 0, 1) := by decide +kernel
theorem dX2_stepMany_23 : decode cX2_stepMany 23 = .ok (.invokevirtual 52, 3) := by decide +kernel
theorem dX2_stepMany_26 : decode cX2_stepMany 26 = .ok (.ifCond .ne 5, 3) := by decide +kernel
theorem dX2_stepMany_29 : decode cX2_stepMany 29 = .ok (.iload_n 3, 1) := by decide +kernel
theorem dX2_stepMany_30 : decode cX2_stepMany 30 = .ok (.ireturn, 1) := by decide +kernel
theorem dX2_stepMany_31 : decode cX2_stepMany 31 = .ok (.aload_n 0, 1) := by decide +kernel
theorem dX2_stepMany_32 : decode cX2_stepMany 32 = .ok (.invokevirtual 56, 3) := by decide +kernel
theorem dX2_stepMany_35 : decode cX2_stepMany 35 = .ok (.iinc 3 1, 3) := by decide +kernel
theorem dX2_stepMany_38 : decode cX2_stepMany 38 = .ok (.goto (-36), 3) := by decide +kernel
theorem dX2_stepMany_41 : decode cX2_stepMany 41 = .ok (.iload_n 1, 1) := by decide +kernel
theorem dX2_stepMany_42 : decode cX2_stepMany 42 = .ok (.ireturn, 1) := by decide +kernel
set_option maxRecDepth 20000 in
theorem ggX2_planStep_X2_gainAt : GoodIn wsX2_planStep wsX2_gainAt := goodIn_r _ [12, 1, 13, 14, 15, 16, 17, 18, 19, 20, 21, 22, 23, 24, 25, 26, 27] (by decide +kernel) (by decide +kernel)
set_option maxRecDepth 20000 in
theorem gX2_planStep_X2_gainAt : GoodIn wsX2_planStep (wsV RX2 59 RX2 yX2_gainAt wsX2_gainAt) := goodIn_app (goodIn_of _ (by decide +kernel)) ggX2_planStep_X2_gainAt
theorem dX2_planStep_0 : decode cX2_planStep 0 = .ok (.iconst 0, 1) := by decide +kernel
theorem dX2_planStep_1 : decode cX2_planStep 1 = .ok (.istore_n 1, 1) := by decide +kernel
theorem dX2_planStep_2 : decode cX2_planStep 2 = .ok (.iload_n 1, 1) := by decide +kernel
theorem dX2_planStep_3 : decode cX2_planStep 3 = .ok (.aload_n 0, 1) := by decide +kernel
theorem dX2_planStep_4 : decode cX2_planStep 4 = .ok (.getfield 24, 3) := by decide +kernel
theorem dX2_planStep_7 : decode cX2_planStep 7 = .ok (.if_icmp .ge 59, 3) := by decide +kernel
theorem dX2_planStep_10 : decode cX2_planStep 10 = .ok (.aload_n 0, 1) := by decide +kernel
theorem dX2_planStep_11 : decode cX2_planStep 11 = .ok (.getfield 15, 3) := by decide +kernel
theorem dX2_planStep_14 : decode cX2_planStep 14 = .ok (.iload_n 1, 1) := by decide +kernel
theorem dX2_planStep_15 : decode cX2_planStep 15 = .ok (.iaload, 1) := by decide +kernel
theorem dX2_planStep_16 : decode cX2_planStep 16 = .ok (.aload_n 0, 1) := by decide +kernel
theorem dX2_planStep_17 : decode cX2_planStep 17 = .ok (.aload_n 0, 1) := by decide +kernel
theorem dX2_planStep_18 : decode cX2_planStep 18 = .ok (.getfield 11, 3) := by decide +kernel
theorem dX2_planStep_21 : decode cX2_planStep 21 = .ok (.iload_n 1, 1) := by decide +kernel
theorem dX2_planStep_22 : decode cX2_planStep 22 = .ok (.invokevirtual 59, 3) := by decide +kernel
theorem dX2_planStep_25 : decode cX2_planStep 25 = .ok (.iadd, 1) := by decide +kernel
theorem dX2_planStep_26 : decode cX2_planStep 26 = .ok (.istore_n 2, 1) := by decide +kernel
theorem dX2_planStep_27 : decode cX2_planStep 27 = .ok (.iload_n 2, 1) := by decide +kernel
theorem dX2_planStep_28 : decode cX2_planStep 28 = .ok (.iload_n 2, 1) := by decide +kernel
theorem dX2_planStep_29 : decode cX2_planStep 29 = .ok (.aload_n 0, 1) := by decide +kernel
theorem dX2_planStep_30 : decode cX2_planStep 30 = .ok (.getfield 40, 3) := by decide +kernel
theorem dX2_planStep_33 : decode cX2_planStep 33 = .ok (.imul, 1) := by decide +kernel
theorem dX2_planStep_34 : decode cX2_planStep 34 = .ok (.bipush 100, 2) := by decide +kernel
theorem dX2_planStep_36 : decode cX2_planStep 36 = .ok (.idiv, 1) := by decide +kernel
theorem dX2_planStep_37 : decode cX2_planStep 37 = .ok (.isub, 1) := by decide +kernel
theorem dX2_planStep_38 : decode cX2_planStep 38 = .ok (.istore_n 2, 1) := by decide +kernel
theorem dX2_planStep_39 : decode cX2_planStep 39 = .ok (.aload_n 0, 1) := by decide +kernel
theorem dX2_planStep_40 : decode cX2_planStep 40 = .ok (.getfield 21, 3) := by decide +kernel
theorem dX2_planStep_43 : decode cX2_planStep 43 = .ok (.iload_n 1, 1) := by decide +kernel
theorem dX2_planStep_44 : decode cX2_planStep 44 = .ok (.iload_n 2, 1) := by decide +kernel
theorem dX2_planStep_45 : decode cX2_planStep 45 = .ok (.iastore, 1) := by decide +kernel
theorem dX2_planStep_46 : decode cX2_planStep 46 = .ok (.aload_n 0, 1) := by decide +kernel
theorem dX2_planStep_47 : decode cX2_planStep 47 = .ok (.getfield 18, 3) := by decide +kernel
theorem dX2_planStep_50 : decode cX2_planStep 50 = .ok (.iload_n 1, 1) := by decide +kernel
theorem dX2_planStep_51 : decode cX2_planStep 51 = .ok (.aload_n 0, 1) := by decide +kernel
theorem dX2_planStep_52 : decode cX2_planStep 52 = .ok (.getfield 11, 3) := by decide +kernel
theorem dX2_planStep_55 : decode cX2_planStep 55 = .ok (.iload_n 1, 1) := by decide +kernel
theorem dX2_planStep_56 : decode cX2_planStep 56 = .ok (.iaload, 1) := by decide +kernel
theorem dX2_planStep_57 : decode cX2_planStep 57 = .ok (.iload_n 2, 1) := by decide +kernel
theorem dX2_planStep_58 : decode cX2_planStep 58 = .ok (.iadd, 1) := by decide +kernel
theorem dX2_planStep_59 : decode cX2_planStep 59 = .ok (.iastore, 1) := by decide +kernel
theorem dX2_planStep_60 : decode cX2_planStep 60 = .ok (.iinc 1 1, 3) := by decide +kernel
theorem dX2_planStep_63 : decode cX2_planStep 63 = .ok (.goto (-61), 3) := by decide +kernel
theorem dX2_planStep_66 : decode cX2_planStep 66 = .ok (.aload_n 0, 1) := by decide +kernel
theorem dX2_planStep_67 : decode cX2_planStep 67 = .ok (.getfield 11, 3) := by decide +kernel
theorem dX2_planStep_70 : decode cX2_planStep 70 = .ok (.iconst 0, 1) := by decide +kernel
theorem dX2_planStep_71 : decode cX2_planStep 71 = .ok (.iaload, 1) := by decide +kernel
theorem dX2_planStep_72 : decode cX2_planStep 72 = .ok (.ifCond .ge 25, 3) := by decide +kernel
theorem dX2_planStep_75 : decode cX2_planStep 75 = .ok (.aload_n 0, 1) := by decide +kernel
theorem dX2_planStep_76 : decode cX2_planStep 76 = .ok (.getfield 18, 3) := by decide +kernel
theorem dX2_planStep_79 : decode cX2_planStep 79 = .ok (.iconst 0, 1) := by decide +kernel
theorem dX2_planStep_80 : decode cX2_planStep 80 = .ok (.iaload, 1) := by decide +kernel
theorem dX2_planStep_81 : decode cX2_planStep 81 = .ok (.ifCond .lt 16, 3) := by decide +kernel
theorem dX2_planStep_84 : decode cX2_planStep 84 = .ok (.aload_n 0, 1) := by decide +kernel
theorem dX2_planStep_85 : decode cX2_planStep 85 = .ok (.getfield 21, 3) := by decide +kernel
theorem dX2_planStep_88 : decode cX2_planStep 88 = .ok (.iconst 0, 1) := by decide +kernel
theorem dX2_planStep_89 : decode cX2_planStep 89 = .ok (.dup2, 1) := by decide +kernel
theorem dX2_planStep_90 : decode cX2_planStep 90 = .ok (.iaload, 1) := by decide +kernel
theorem dX2_planStep_91 : decode cX2_planStep 91 = .ok (.aload_n 0, 1) := by decide +kernel
theorem dX2_planStep_92 : decode cX2_planStep 92 = .ok (.getfield 43, 3) := by decide +kernel
theorem dX2_planStep_95 : decode cX2_planStep 95 = .ok (.iadd, 1) := by decide +kernel
theorem dX2_planStep_96 : decode cX2_planStep 96 = .ok (.iastore, 1) := by decide +kernel
theorem dX2_planStep_97 : decode cX2_planStep 97 = .ok (.return_, 1) := by decide +kernel
set_option maxRecDepth 20000 in
theorem ggX2_planStepBack_X2_gainAt : GoodIn wsX2_planStepBack wsX2_gainAt := goodIn_r _ [10, 1, 11, 12, 13, 14, 15, 16, 17, 18, 19, 20, 21, 22, 23, 24, 25] (by decide +kernel) (by decide +kernel)
set_option maxRecDepth 20000 in
theorem gX2_planStepBack_X2_gainAt : GoodIn wsX2_planStepBack (wsV RX2 59 RX2 yX2_gainAt wsX2_gainAt) := goodIn_app (goodIn_of _ (by decide +kernel)) ggX2_planStepBack_X2_gainAt
theorem dX2_planStepBack_0 : decode cX2_planStepBack 0 = .ok (.iconst 0, 1) := by decide +kernel
theorem dX2_planStepBack_1 : decode cX2_planStepBack 1 = .ok (.istore_n 1, 1) := by decide +kernel
theorem dX2_planStepBack_2 : decode cX2_planStepBack 2 = .ok (.iload_n 1, 1) := by decide +kernel
theorem dX2_planStepBack_3 : decode cX2_planStepBack 3 = .ok (.aload_n 0, 1) := by decide +kernel
theorem dX2_planStepBack_4 : decode cX2_planStepBack 4 = .ok (.getfield 24, 3) := by decide +kernel
theorem dX2_planStepBack_7 : decode cX2_planStepBack 7 = .ok (.if_icmp .ge 28, 3) := by decide +kernel
theorem dX2_planStepBack_10 : decode cX2_planStepBack 10 = .ok (.aload_n 0, 1) := by decide +kernel
theorem dX2_planStepBack_11 : decode cX2_planStepBack 11 = .ok (.getfield 18, 3) := by decide +kernel
theorem dX2_planStepBack_14 : decode cX2_planStepBack 14 = .ok (.iload_n 1, 1) := by decide +kernel
theorem dX2_planStepBack_15 : decode cX2_planStepBack 15 = .ok (.aload_n 0, 1) := by decide +kernel
theorem dX2_planStepBack_16 : decode cX2_planStepBack 16 = .ok (.getfield 11, 3) := by decide +kernel
theorem dX2_planStepBack_19 : decode cX2_planStepBack 19 = .ok (.iload_n 1, 1) := by decide +kernel
theorem dX2_planStepBack_20 : decode cX2_planStepBack 20 = .ok (.iaload, 1) := by decide +kernel
theorem dX2_planStepBack_21 : decode cX2_planStepBack 21 = .ok (.aload_n 0, 1) := by decide +kernel
theorem dX2_planStepBack_22 : decode cX2_planStepBack 22 = .ok (.getfield 15, 3) := by decide +kernel
theorem dX2_planStepBack_25 : decode cX2_planStepBack 25 = .ok (.iload_n 1, 1) := by decide +kernel
theorem dX2_planStepBack_26 : decode cX2_planStepBack 26 = .ok (.iaload, 1) := by decide +kernel
theorem dX2_planStepBack_27 : decode cX2_planStepBack 27 = .ok (.isub, 1) := by decide +kernel
theorem dX2_planStepBack_28 : decode cX2_planStepBack 28 = .ok (.iastore, 1) := by decide +kernel
theorem dX2_planStepBack_29 : decode cX2_planStepBack 29 = .ok (.iinc 1 1, 3) := by decide +kernel
theorem dX2_planStepBack_32 : decode cX2_planStepBack 32 = .ok (.goto (-30), 3) := by decide +kernel
theorem dX2_planStepBack_35 : decode cX2_planStepBack 35 = .ok (.iconst 0, 1) := by decide +kernel
theorem dX2_planStepBack_36 : decode cX2_planStepBack 36 = .ok (.istore_n 1, 1) := by decide +kernel
theorem dX2_planStepBack_37 : decode cX2_planStepBack 37 = .ok (.iload_n 1, 1) := by decide +kernel
theorem dX2_planStepBack_38 : decode cX2_planStepBack 38 = .ok (.aload_n 0, 1) := by decide +kernel
theorem dX2_planStepBack_39 : decode cX2_planStepBack 39 = .ok (.getfield 24, 3) := by decide +kernel
theorem dX2_planStepBack_42 : decode cX2_planStepBack 42 = .ok (.if_icmp .ge 31, 3) := by decide +kernel
theorem dX2_planStepBack_45 : decode cX2_planStepBack 45 = .ok (.aload_n 0, 1) := by decide +kernel
theorem dX2_planStepBack_46 : decode cX2_planStepBack 46 = .ok (.getfield 21, 3) := by decide +kernel
theorem dX2_planStepBack_49 : decode cX2_planStepBack 49 = .ok (.iload_n 1, 1) := by decide +kernel
theorem dX2_planStepBack_50 : decode cX2_planStepBack 50 = .ok (.aload_n 0, 1) := by decide +kernel
theorem dX2_planStepBack_51 : decode cX2_planStepBack 51 = .ok (.getfield 15, 3) := by decide +kernel
theorem dX2_planStepBack_54 : decode cX2_planStepBack 54 = .ok (.iload_n 1, 1) := by decide +kernel
theorem dX2_planStepBack_55 : decode cX2_planStepBack 55 = .ok (.iaload, 1) := by decide +kernel
theorem dX2_planStepBack_56 : decode cX2_planStepBack 56 = .ok (.aload_n 0, 1) := by decide +kernel
theorem dX2_planStepBack_57 : decode cX2_planStepBack 57 = .ok (.aload_n 0, 1) := by decide +kernel
theorem dX2_planStepBack_58 : decode cX2_planStepBack 58 = .ok (.getfield 18, 3) := by decide +kernel
theorem dX2_planStepBack_61 : decode cX2_planStepBack 61 = .ok (.iload_n 1, 1) := by decide +kernel
theorem dX2_planStepBack_62 : decode cX2_planStepBack 62 = .ok (.invokevirtual 59, 3) := by decide +kernel
theorem dX2_planStepBack_65 : decode cX2_planStepBack 65 = .ok (.isub, 1) := by decide +kernel
theorem dX2_planStepBack_66 : decode cX2_planStepBack 66 = .ok (.iastore, 1) := by decide +kernel
theorem dX2_planStepBack_67 : decode cX2_planStepBack 67 = .ok (.iinc 1 1, 3) := by decide +kernel
theorem dX2_planStepBack_70 : decode cX2_planStepBack 70 = .ok (.goto (-33), 3) := by decide +kernel
theorem dX2_planStepBack_73 : decode cX2_planStepBack 73 = .ok (.return_, 1) := by decide +kernel
set_option maxRecDepth 20000 in
theorem ggX2_gainAt_J9_floorDiv_7cf53 : GoodIn wsX2_gainAt wsJ9_floorDiv_7cf53 := goodIn_r _ [7] (by decide +kernel) (by decide +kernel)
set_option maxRecDepth 20000 in
theorem gX2_gainAt_J9_floorDiv_7cf53 : GoodIn wsX2_gainAt (va_wsS RX2 63 yJ9_floorDiv_7cf53 wsJ9_floorDiv_7cf53) := goodIn_app (goodIn_of _ (by decide +kernel)) ggX2_gainAt_J9_floorDiv_7cf53
theorem dX2_gainAt_0 : decode cX2_gainAt 0 = .ok (.iconst 0, 1) := by decide +kernel
theorem dX2_gainAt_1 : decode cX2_gainAt 1 = .ok (.istore_n 3, 1) := by decide +kernel
theorem dX2_gainAt_2 : decode cX2_gainAt 2 = .ok (.iload_n 2, 1) := by decide +kernel
theorem dX2_gainAt_3 : decode cX2_gainAt 3 = .ok (.ifCond .le 15, 3) := by decide +kernel
theorem dX2_gainAt_6 : decode cX2_gainAt 6 = .ok (.iload_n 3, 1) := by decide +kernel
theorem dX2_gainAt_7 : decode cX2_gainAt 7 = .ok (.aload_n 1, 1) := by decide +kernel
theorem dX2_gainAt_8 : decode cX2_gainAt 8 = .ok (.iload_n 2, 1) := by decide +kernel
theorem dX2_gainAt_9 : decode cX2_gainAt 9 = .ok (.iconst 1, 1) := by decide +kernel
theorem dX2_gainAt_10 : decode cX2_gainAt 10 = .ok (.isub, 1) := by decide +kernel
theorem dX2_gainAt_11 : decode cX2_gainAt 11 = .ok (.iaload, 1) := by decide +kernel
theorem dX2_gainAt_12 : decode cX2_gainAt 12 = .ok (.aload_n 1, 1) := by decide +kernel
theorem dX2_gainAt_13 : decode cX2_gainAt 13 = .ok (.iload_n 2, 1) := by decide +kernel
theorem dX2_gainAt_14 : decode cX2_gainAt 14 = .ok (.iaload, 1) := by decide +kernel
theorem dX2_gainAt_15 : decode cX2_gainAt 15 = .ok (.isub, 1) := by decide +kernel
theorem dX2_gainAt_16 : decode cX2_gainAt 16 = .ok (.iadd, 1) := by decide +kernel
theorem dX2_gainAt_17 : decode cX2_gainAt 17 = .ok (.istore_n 3, 1) := by decide +kernel
theorem dX2_gainAt_18 : decode cX2_gainAt 18 = .ok (.iload_n 2, 1) := by decide +kernel
theorem dX2_gainAt_19 : decode cX2_gainAt 19 = .ok (.iconst 1, 1) := by decide +kernel
theorem dX2_gainAt_20 : decode cX2_gainAt 20 = .ok (.iadd, 1) := by decide +kernel
theorem dX2_gainAt_21 : decode cX2_gainAt 21 = .ok (.aload_n 0, 1) := by decide +kernel
theorem dX2_gainAt_22 : decode cX2_gainAt 22 = .ok (.getfield 24, 3) := by decide +kernel
theorem dX2_gainAt_25 : decode cX2_gainAt 25 = .ok (.if_icmp .ge 15, 3) := by decide +kernel
theorem dX2_gainAt_28 : decode cX2_gainAt 28 = .ok (.iload_n 3, 1) := by decide +kernel
theorem dX2_gainAt_29 : decode cX2_gainAt 29 = .ok (.aload_n 1, 1) := by decide +kernel
theorem dX2_gainAt_30 : decode cX2_gainAt 30 = .ok (.iload_n 2, 1) := by decide +kernel
theorem dX2_gainAt_31 : decode cX2_gainAt 31 = .ok (.iconst 1, 1) := by decide +kernel
theorem dX2_gainAt_32 : decode cX2_gainAt 32 = .ok (.iadd, 1) := by decide +kernel
theorem dX2_gainAt_33 : decode cX2_gainAt 33 = .ok (.iaload, 1) := by decide +kernel
theorem dX2_gainAt_34 : decode cX2_gainAt 34 = .ok (.aload_n 1, 1) := by decide +kernel
theorem dX2_gainAt_35 : decode cX2_gainAt 35 = .ok (.iload_n 2, 1) := by decide +kernel
theorem dX2_gainAt_36 : decode cX2_gainAt 36 = .ok (.iaload, 1) := by decide +kernel
theorem dX2_gainAt_37 : decode cX2_gainAt 37 = .ok (.isub, 1) := by decide +kernel
theorem dX2_gainAt_38 : decode cX2_gainAt 38 = .ok (.iadd, 1) := by decide +kernel
theorem dX2_gainAt_39 : decode cX2_gainAt 39 = .ok (.istore_n 3, 1) := by decide +kernel
theorem dX2_gainAt_40 : decode cX2_gainAt 40 = .ok (.aload_n 0, 1) := by decide +kernel
theorem dX2_gainAt_41 : decode cX2_gainAt 41 = .ok (.getfield 31, 3) := by decide +kernel
theorem dX2_gainAt_44 : decode cX2_gainAt 44 = .ok (.iload_n 3, 1) := by decide +kernel
theorem dX2_gainAt_45 : decode cX2_gainAt 45 = .ok (.imul, 1) := by decide +kernel
theorem dX2_gainAt_46 : decode cX2_gainAt 46 = .ok (.bipush 16, 2) := by decide +kernel
theorem dX2_gainAt_48 : decode cX2_gainAt 48 = .ok (.invokestatic 63, 3) := by decide +kernel
theorem dX2_gainAt_51 : decode cX2_gainAt 51 = .ok (.aload_n 0, 1) := by decide +kernel
theorem dX2_gainAt_52 : decode cX2_gainAt 52 = .ok (.getfield 28, 3) := by decide +kernel
theorem dX2_gainAt_55 : decode cX2_gainAt 55 = .ok (.aload_n 1, 1) := by decide +kernel
theorem dX2_gainAt_56 : decode cX2_gainAt 56 = .ok (.iload_n 2, 1) := by decide +kernel
theorem dX2_gainAt_57 : decode cX2_gainAt 57 = .ok (.iaload, 1) := by decide +kernel
theorem dX2_gainAt_58 : decode cX2_gainAt 58 = .ok (.imul, 1) := by decide +kernel
theorem dX2_gainAt_59 : decode cX2_gainAt 59 = .ok (.bipush 16, 2) := by decide +kernel
theorem dX2_gainAt_61 : decode cX2_gainAt 61 = .ok (.invokestatic 63, 3) := by decide +kernel
theorem dX2_gainAt_64 : decode cX2_gainAt 64 = .ok (.isub, 1) := by decide +kernel
theorem dX2_gainAt_65 : decode cX2_gainAt 65 = .ok (.ireturn, 1) := by decide +kernel
set_option maxRecDepth 20000 in
theorem ggX2_isPlanWithin_X7_isOutside : GoodIn wsX2_isPlanWithin wsX7_isOutside := goodIn_r _ [8] (by decide +kernel) (by decide +kernel)
set_option maxRecDepth 20000 in
theorem gX2_isPlanWithin_X7_isOutside_n71 : GoodIn wsX2_isPlanWithin (wsX7_isOutside) := ggX2_isPlanWithin_X7_isOutside
theorem dX2_isPlanWithin_0 : decode cX2_isPlanWithin 0 = .ok (.iconst 0, 1) := by decide +kernel
theorem dX2_isPlanWithin_1 : decode cX2_isPlanWithin 1 = .ok (.istore_n 1, 1) := by decide +kernel
theorem dX2_isPlanWithin_2 : decode cX2_isPlanWithin 2 = .ok (.iload_n 1, 1) := by decide +kernel
theorem dX2_isPlanWithin_3 : decode cX2_isPlanWithin 3 = .ok (.aload_n 0, 1) := by decide +kernel
theorem dX2_isPlanWithin_4 : decode cX2_isPlanWithin 4 = .ok (.getfield 24, 3) := by decide +kernel
theorem dX2_isPlanWithin_7 : decode cX2_isPlanWithin 7 = .ok (.if_icmp .ge 43, 3) := by decide +kernel
theorem dX2_isPlanWithin_10 : decode cX2_isPlanWithin 10 = .ok (.aload_n 0, 1) := by decide +kernel
theorem dX2_isPlanWithin_11 : decode cX2_isPlanWithin 11 = .ok (.getfield 18, 3) := by decide +kernel
theorem dX2_isPlanWithin_14 : decode cX2_isPlanWithin 14 = .ok (.iload_n 1, 1) := by decide +kernel
theorem dX2_isPlanWithin_15 : decode cX2_isPlanWithin 15 = .ok (.iaload, 1) := by decide +kernel
theorem dX2_isPlanWithin_16 : decode cX2_isPlanWithin 16 = .ok (.ldc 69, 2) := by decide +kernel
theorem dX2_isPlanWithin_18 : decode cX2_isPlanWithin 18 = .ok (.ldc 70, 2) := by decide +kernel
theorem dX2_isPlanWithin_20 : decode cX2_isPlanWithin 20 = .ok (.invokestatic 71, 3) := by decide +kernel
theorem dX2_isPlanWithin_23 : decode cX2_isPlanWithin 23 = .ok (.ifCond .ne 19, 3) := by decide +kernel
theorem dX2_isPlanWithin_26 : decode cX2_isPlanWithin 26 = .ok (.aload_n 0, 1) := by decide +kernel
theorem dX2_isPlanWithin_27 : decode cX2_isPlanWithin 27 = .ok (.getfield 21, 3) := by decide +kernel
theorem dX2_isPlanWithin_30 : decode cX2_isPlanWithin 30 = .ok (.iload_n 1, 1) := by decide +kernel
theorem dX2_isPlanWithin_31 : decode cX2_isPlanWithin 31 = .ok (.iaload, 1) := by decide +kernel
theorem dX2_isPlanWithin_32 : decode cX2_isPlanWithin 32 = .ok (.ldc 69, 2) := by decide +kernel
theorem dX2_isPlanWithin_34 : decode cX2_isPlanWithin 34 = .ok (.ldc 70, 2) := by decide +kernel
theorem dX2_isPlanWithin_36 : decode cX2_isPlanWithin 36 = .ok (.invokestatic 71, 3) := by decide +kernel
theorem dX2_isPlanWithin_39 : decode cX2_isPlanWithin 39 = .ok (.ifCond .eq 5, 3) := by decide +kernel
theorem dX2_isPlanWithin_42 : decode cX2_isPlanWithin 42 = .ok (.iconst 0, 1) := by decide +kernel
theorem dX2_isPlanWithin_43 : decode cX2_isPlanWithin 43 = .ok (.ireturn, 1) := by decide +kernel
theorem dX2_isPlanWithin_44 : decode cX2_isPlanWithin 44 = .ok (.iinc 1 1, 3) := by decide +kernel
theorem dX2_isPlanWithin_47 : decode cX2_isPlanWithin 47 = .ok (.goto (-45), 3) := by decide +kernel
theorem dX2_isPlanWithin_50 : decode cX2_isPlanWithin 50 = .ok (.iconst 1, 1) := by decide +kernel
theorem dX2_isPlanWithin_51 : decode cX2_isPlanWithin 51 = .ok (.ireturn, 1) := by decide +kernel
theorem dX2_takePlan_0 : decode cX2_takePlan 0 = .ok (.aload_n 0, 1) := by decide +kernel
theorem dX2_takePlan_1 : decode cX2_takePlan 1 = .ok (.getfield 18, 3) := by decide +kernel
theorem dX2_takePlan_4 : decode cX2_takePlan 4 = .ok (.iconst 0, 1) := by decide +kernel
theorem dX2_takePlan_5 : decode cX2_takePlan 5 = .ok (.aload_n 0, 1) := by decide +kernel
theorem dX2_takePlan_6 : decode cX2_takePlan 6 = .ok (.getfield 11, 3) := by decide +kernel
theorem dX2_takePlan_9 : decode cX2_takePlan 9 = .ok (.iconst 0, 1) := by decide +kernel
theorem dX2_takePlan_10 : decode cX2_takePlan 10 = .ok (.aload_n 0, 1) := by decide +kernel
theorem dX2_takePlan_11 : decode cX2_takePlan 11 = .ok (.getfield 24, 3) := by decide +kernel
theorem dX2_takePlan_14 : decode cX2_takePlan 14 = .ok (.invokestatic 75, 3) := by decide +kernel
theorem dX2_takePlan_17 : decode cX2_takePlan 17 = .ok (.aload_n 0, 1) := by decide +kernel
theorem dX2_takePlan_18 : decode cX2_takePlan 18 = .ok (.getfield 21, 3) := by decide +kernel
theorem dX2_takePlan_21 : decode cX2_takePlan 21 = .ok (.iconst 0, 1) := by decide +kernel
theorem dX2_takePlan_22 : decode cX2_takePlan 22 = .ok (.aload_n 0, 1) := by decide +kernel
theorem dX2_takePlan_23 : decode cX2_takePlan 23 = .ok (.getfield 15, 3) := by decide +kernel
theorem dX2_takePlan_26 : decode cX2_takePlan 26 = .ok (.iconst 0, 1) := by decide +kernel
theorem dX2_takePlan_27 : decode cX2_takePlan 27 = .ok (.aload_n 0, 1) := by decide +kernel
theorem dX2_takePlan_28 : decode cX2_takePlan 28 = .ok (.getfield 24, 3) := by decide +kernel
theorem dX2_takePlan_31 : decode cX2_takePlan 31 = .ok (.invokestatic 75, 3) := by decide +kernel
theorem dX2_takePlan_34 : decode cX2_takePlan 34 = .ok (.return_, 1) := by decide +kernel
set_option maxRecDepth 20000 in
theorem ggX2_totalEnergy_X2_square : GoodIn wsX2_totalEnergy wsX2_square := goodIn_r _ [10] (by decide +kernel) (by decide +kernel)
set_option maxRecDepth 20000 in
theorem gX2_totalEnergy_X2_square : GoodIn wsX2_totalEnergy (va_wsS RX2 81 yX2_square wsX2_square) := goodIn_app (goodIn_of _ (by decide +kernel)) ggX2_totalEnergy_X2_square
theorem dX2_totalEnergy_0 : decode cX2_totalEnergy 0 = .ok (.lconst 0, 1) := by decide +kernel
theorem dX2_totalEnergy_1 : decode cX2_totalEnergy 1 = .ok (.lstore_n 1, 1) := by decide +kernel
theorem dX2_totalEnergy_2 : decode cX2_totalEnergy 2 = .ok (.lconst 0, 1) := by decide +kernel
theorem dX2_totalEnergy_3 : decode cX2_totalEnergy 3 = .ok (.lstore_n 3, 1) := by decide +kernel
theorem dX2_totalEnergy_4 : decode cX2_totalEnergy 4 = .ok (.lconst 0, 1) := by decide +kernel
theorem dX2_totalEnergy_5 : decode cX2_totalEnergy 5 = .ok (.lstore 5, 2) := by decide +kernel
theorem dX2_totalEnergy_7 : decode cX2_totalEnergy 7 = .ok (.iconst 0, 1) := by decide +kernel
theorem dX2_totalEnergy_8 : decode cX2_totalEnergy 8 = .ok (.istore 7, 2) := by decide +kernel
theorem dX2_totalEnergy_10 : decode cX2_totalEnergy 10 = .ok (.iload 7, 2) := by decide +kernel
theorem dX2_totalEnergy_12 : decode cX2_totalEnergy 12 = .ok (.aload_n 0, 1) := by decide +kernel
theorem dX2_totalEnergy_13 : decode cX2_totalEnergy 13 = .ok (.getfield 24, 3) := by decide +kernel
theorem dX2_totalEnergy_16 : decode cX2_totalEnergy 16 = .ok (.if_icmp .ge 68, 3) := by decide +kernel
theorem dX2_totalEnergy_19 : decode cX2_totalEnergy 19 = .ok (.lload_n 1, 1) := by decide +kernel
theorem dX2_totalEnergy_20 : decode cX2_totalEnergy 20 = .ok (.aload_n 0, 1) := by decide +kernel
theorem dX2_totalEnergy_21 : decode cX2_totalEnergy 21 = .ok (.getfield 15, 3) := by decide +kernel
theorem dX2_totalEnergy_24 : decode cX2_totalEnergy 24 = .ok (.iload 7, 2) := by decide +kernel
theorem dX2_totalEnergy_26 : decode cX2_totalEnergy 26 = .ok (.iaload, 1) := by decide +kernel
theorem dX2_totalEnergy_27 : decode cX2_totalEnergy 27 = .ok (.i2l, 1) := by decide +kernel
theorem dX2_totalEnergy_28 : decode cX2_totalEnergy 28 = .ok (.invokestatic 81, 3) := by decide +kernel
theorem dX2_totalEnergy_31 : decode cX2_totalEnergy 31 = .ok (.ladd, 1) := by decide +kernel
theorem dX2_totalEnergy_32 : decode cX2_totalEnergy 32 = .ok (.lstore_n 1, 1) := by decide +kernel
theorem dX2_totalEnergy_33 : decode cX2_totalEnergy 33 = .ok (.lload_n 3, 1) := by decide +kernel
theorem dX2_totalEnergy_34 : decode cX2_totalEnergy 34 = .ok (.aload_n 0, 1) := by decide +kernel
theorem dX2_totalEnergy_35 : decode cX2_totalEnergy 35 = .ok (.getfield 11, 3) := by decide +kernel
theorem dX2_totalEnergy_38 : decode cX2_totalEnergy 38 = .ok (.iload 7, 2) := by decide +kernel
theorem dX2_totalEnergy_40 : decode cX2_totalEnergy 40 = .ok (.iaload, 1) := by decide +kernel
theorem dX2_totalEnergy_41 : decode cX2_totalEnergy 41 = .ok (.i2l, 1) := by decide +kernel
theorem dX2_totalEnergy_42 : decode cX2_totalEnergy 42 = .ok (.invokestatic 81, 3) := by decide +kernel
theorem dX2_totalEnergy_45 : decode cX2_totalEnergy 45 = .ok (.ladd, 1) := by decide +kernel
theorem dX2_totalEnergy_46 : decode cX2_totalEnergy 46 = .ok (.lstore_n 3, 1) := by decide +kernel
theorem dX2_totalEnergy_47 : decode cX2_totalEnergy 47 = .ok (.iload 7, 2) := by decide +kernel
theorem dX2_totalEnergy_49 : decode cX2_totalEnergy 49 = .ok (.ifCond .le 29, 3) := by decide +kernel
theorem dX2_totalEnergy_52 : decode cX2_totalEnergy 52 = .ok (.lload 5, 2) := by decide +kernel
theorem dX2_totalEnergy_54 : decode cX2_totalEnergy 54 = .ok (.aload_n 0, 1) := by decide +kernel
theorem dX2_totalEnergy_55 : decode cX2_totalEnergy 55 = .ok (.getfield 11, 3) := by decide +kernel
theorem dX2_totalEnergy_58 : decode cX2_totalEnergy 58 = .ok (.iload 7, 2) := by decide +kernel
theorem dX2_totalEnergy_60 : decode cX2_totalEnergy 60 = .ok (.iaload, 1) := by decide +kernel
theorem dX2_totalEnergy_61 : decode cX2_totalEnergy 61 = .ok (.aload_n 0, 1) := by decide +kernel
theorem dX2_totalEnergy_62 : decode cX2_totalEnergy 62 = .ok (.getfield 11, 3) := by decide +kernel
theorem dX2_totalEnergy_65 : decode cX2_totalEnergy 65 = .ok (.iload 7, 2) := by decide +kernel
theorem dX2_totalEnergy_67 : decode cX2_totalEnergy 67 = .ok (.iconst 1, 1) := by decide +kernel
theorem dX2_totalEnergy_68 : decode cX2_totalEnergy 68 = .ok (.isub, 1) := by decide +kernel
theorem dX2_totalEnergy_69 : decode cX2_totalEnergy 69 = .ok (.iaload, 1) := by decide +kernel
theorem dX2_totalEnergy_70 : decode cX2_totalEnergy 70 = .ok (.isub, 1) := by decide +kernel
theorem dX2_totalEnergy_71 : decode cX2_totalEnergy 71 = .ok (.i2l, 1) := by decide +kernel
theorem dX2_totalEnergy_72 : decode cX2_totalEnergy 72 = .ok (.invokestatic 81, 3) := by decide +kernel
theorem dX2_totalEnergy_75 : decode cX2_totalEnergy 75 = .ok (.ladd, 1) := by decide +kernel
theorem dX2_totalEnergy_76 : decode cX2_totalEnergy 76 = .ok (.lstore 5, 2) := by decide +kernel
theorem dX2_totalEnergy_78 : decode cX2_totalEnergy 78 = .ok (.iinc 7 1, 3) := by decide +kernel
theorem dX2_totalEnergy_81 : decode cX2_totalEnergy 81 = .ok (.goto (-71), 3) := by decide +kernel
theorem dX2_totalEnergy_84 : decode cX2_totalEnergy 84 = .ok (.ldc2_w 85, 3) := by decide +kernel
theorem dX2_totalEnergy_87 : decode cX2_totalEnergy 87 = .ok (.lload_n 1, 1) := by decide +kernel
theorem dX2_totalEnergy_88 : decode cX2_totalEnergy 88 = .ok (.lmul, 1) := by decide +kernel
theorem dX2_totalEnergy_89 : decode cX2_totalEnergy 89 = .ok (.aload_n 0, 1) := by decide +kernel
theorem dX2_totalEnergy_90 : decode cX2_totalEnergy 90 = .ok (.getfield 28, 3) := by decide +kernel
theorem dX2_totalEnergy_93 : decode cX2_totalEnergy 93 = .ok (.i2l, 1) := by decide +kernel
theorem dX2_totalEnergy_94 : decode cX2_totalEnergy 94 = .ok (.lload_n 3, 1) := by decide +kernel
theorem dX2_totalEnergy_95 : decode cX2_totalEnergy 95 = .ok (.lmul, 1) := by decide +kernel
theorem dX2_totalEnergy_96 : decode cX2_totalEnergy 96 = .ok (.ladd, 1) := by decide +kernel
theorem dX2_totalEnergy_97 : decode cX2_totalEnergy 97 = .ok (.aload_n 0, 1) := by decide +kernel
theorem dX2_totalEnergy_98 : decode cX2_totalEnergy 98 = .ok (.getfield 31, 3) := by decide +kernel
theorem dX2_totalEnergy_101 : decode cX2_totalEnergy 101 = .ok (.i2l, 1) := by decide +kernel
theorem dX2_totalEnergy_102 : decode cX2_totalEnergy 102 = .ok (.lload 5, 2) := by decide +kernel
theorem dX2_totalEnergy_104 : decode cX2_totalEnergy 104 = .ok (.lmul, 1) := by decide +kernel
theorem dX2_totalEnergy_105 : decode cX2_totalEnergy 105 = .ok (.ladd, 1) := by decide +kernel
theorem dX2_totalEnergy_106 : decode cX2_totalEnergy 106 = .ok (.lreturn, 1) := by decide +kernel
theorem dX2_square_0 : decode cX2_square 0 = .ok (.lload_n 0, 1) := by decide +kernel
theorem dX2_square_1 : decode cX2_square 1 = .ok (.lload_n 0, 1) := by decide +kernel
theorem dX2_square_2 : decode cX2_square 2 = .ok (.lmul, 1) := by decide +kernel
theorem dX2_square_3 : decode cX2_square 3 = .ok (.lreturn, 1) := by decide +kernel
theorem dX3_init_0 : decode cX3_init 0 = .ok (.aload_n 0, 1) := by decide +kernel
theorem dX3_init_1 : decode cX3_init 1 = .ok (.invokespecial 1, 3) := by decide +kernel
theorem dX3_init_4 : decode cX3_init 4 = .ok (.aload_n 0, 1) := by decide +kernel
theorem dX3_init_5 : decode cX3_init 5 = .ok (.bipush 10, 2) := by decide +kernel
theorem dX3_init_7 : decode cX3_init 7 = .ok (.newarray .int, 2) := by decide +kernel
theorem dX3_init_9 : decode cX3_init 9 = .ok (.putfield 9, 3) := by decide +kernel
theorem dX3_init_12 : decode cX3_init 12 = .ok (.aload_n 0, 1) := by decide +kernel
theorem dX3_init_13 : decode cX3_init 13 = .ok (.bipush 10, 2) := by decide +kernel
theorem dX3_init_15 : decode cX3_init 15 = .ok (.newarray .int, 2) := by decide +kernel
theorem dX3_init_17 : decode cX3_init 17 = .ok (.putfield 13, 3) := by decide +kernel
theorem dX3_init_20 : decode cX3_init 20 = .ok (.aload_n 0, 1) := by decide +kernel
theorem dX3_init_21 : decode cX3_init 21 = .ok (.bipush 10, 2) := by decide +kernel
theorem dX3_init_23 : decode cX3_init 23 = .ok (.newarray .boolean, 2) := by decide +kernel
theorem dX3_init_25 : decode cX3_init 25 = .ok (.putfield 16, 3) := by decide +kernel
theorem dX3_init_28 : decode cX3_init 28 = .ok (.aload_n 0, 1) := by decide +kernel
theorem dX3_init_29 : decode cX3_init 29 = .ok (.bipush 10, 2) := by decide +kernel
theorem dX3_init_31 : decode cX3_init 31 = .ok (.newarray .int, 2) := by decide +kernel
theorem dX3_init_33 : decode cX3_init 33 = .ok (.putfield 20, 3) := by decide +kernel
theorem dX3_init_36 : decode cX3_init 36 = .ok (.aload_n 0, 1) := by decide +kernel
theorem dX3_init_37 : decode cX3_init 37 = .ok (.bipush 10, 2) := by decide +kernel
theorem dX3_init_39 : decode cX3_init 39 = .ok (.newarray .long, 2) := by decide +kernel
theorem dX3_init_41 : decode cX3_init 41 = .ok (.putfield 23, 3) := by decide +kernel
theorem dX3_init_44 : decode cX3_init 44 = .ok (.aload_n 0, 1) := by decide +kernel
theorem dX3_init_45 : decode cX3_init 45 = .ok (.bipush 10, 2) := by decide +kernel
theorem dX3_init_47 : decode cX3_init 47 = .ok (.newarray .long, 2) := by decide +kernel
theorem dX3_init_49 : decode cX3_init 49 = .ok (.putfield 27, 3) := by decide +kernel
theorem dX3_init_52 : decode cX3_init 52 = .ok (.aload_n 0, 1) := by decide +kernel
theorem dX3_init_53 : decode cX3_init 53 = .ok (.bipush 20, 2) := by decide +kernel
theorem dX3_init_55 : decode cX3_init 55 = .ok (.putfield 30, 3) := by decide +kernel
theorem dX3_init_58 : decode cX3_init 58 = .ok (.aload_n 0, 1) := by decide +kernel
theorem dX3_init_59 : decode cX3_init 59 = .ok (.sipush 1013, 3) := by decide +kernel
theorem dX3_init_62 : decode cX3_init 62 = .ok (.putfield 34, 3) := by decide +kernel
theorem dX3_init_65 : decode cX3_init 65 = .ok (.return_, 1) := by decide +kernel
theorem dX3_number_0 : decode cX3_number 0 = .ok (.aload_n 0, 1) := by decide +kernel
theorem dX3_number_1 : decode cX3_number 1 = .ok (.getfield 37, 3) := by decide +kernel
theorem dX3_number_4 : decode cX3_number 4 = .ok (.ireturn, 1) := by decide +kernel
theorem dX3_has_0 : decode cX3_has 0 = .ok (.iload_n 1, 1) := by decide +kernel
theorem dX3_has_1 : decode cX3_has 1 = .ok (.ifCond .lt 15, 3) := by decide +kernel
theorem dX3_has_4 : decode cX3_has 4 = .ok (.iload_n 1, 1) := by decide +kernel
theorem dX3_has_5 : decode cX3_has 5 = .ok (.aload_n 0, 1) := by decide +kernel
theorem dX3_has_6 : decode cX3_has 6 = .ok (.getfield 37, 3) := by decide +kernel
theorem dX3_has_9 : decode cX3_has 9 = .ok (.if_icmp .ge 7, 3) := by decide +kernel
theorem dX3_has_12 : decode cX3_has 12 = .ok (.iconst 1, 1) := by decide +kernel
theorem dX3_has_13 : decode cX3_has 13 = .ok (.goto 4, 3) := by decide +kernel
theorem dX3_has_16 : decode cX3_has 16 = .ok (.iconst 0, 1) := by decide +kernel
theorem dX3_has_17 : decode cX3_has 17 = .ok (.ireturn, 1) := by decide +kernel
theorem dX3_isFull_0 : decode cX3_isFull 0 = .ok (.aload_n 0, 1) := by decide +kernel
theorem dX3_isFull_1 : decode cX3_isFull 1 = .ok (.getfield 37, 3) := by decide +kernel
theorem dX3_isFull_4 : decode cX3_isFull 4 = .ok (.bipush 10, 2) := by decide +kernel
theorem dX3_isFull_6 : decode cX3_isFull 6 = .ok (.if_icmp .lt 7, 3) := by decide +kernel
theorem dX3_isFull_9 : decode cX3_isFull 9 = .ok (.iconst 1, 1) := by decide +kernel
theorem dX3_isFull_10 : decode cX3_isFull 10 = .ok (.goto 4, 3) := by decide +kernel
theorem dX3_isFull_13 : decode cX3_isFull 13 = .ok (.iconst 0, 1) := by decide +kernel
theorem dX3_isFull_14 : decode cX3_isFull 14 = .ok (.ireturn, 1) := by decide +kernel
theorem dX3_swapHeat_0 : decode cX3_swapHeat 0 = .ok (.aload_n 0, 1) := by decide +kernel
theorem dX3_swapHeat_1 : decode cX3_swapHeat 1 = .ok (.getfield 30, 3) := by decide +kernel
theorem dX3_swapHeat_4 : decode cX3_swapHeat 4 = .ok (.istore_n 2, 1) := by decide +kernel
theorem dX3_swapHeat_5 : decode cX3_swapHeat 5 = .ok (.aload_n 0, 1) := by decide +kernel
theorem dX3_swapHeat_6 : decode cX3_swapHeat 6 = .ok (.iload_n 1, 1) := by decide +kernel
theorem dX3_swapHeat_7 : decode cX3_swapHeat 7 = .ok (.putfield 30, 3) := by decide +kernel
theorem dX3_swapHeat_10 : decode cX3_swapHeat 10 = .ok (.iload_n 2, 1) := by decide +kernel
theorem dX3_swapHeat_11 : decode cX3_swapHeat 11 = .ok (.ireturn, 1) := by decide +kernel
theorem dX3_swapPressure_0 : decode cX3_swapPressure 0 = .ok (.aload_n 0, 1) := by decide +kernel
theorem dX3_swapPressure_1 : decode cX3_swapPressure 1 = .ok (.getfield 34, 3) := by decide +kernel
theorem dX3_swapPressure_4 : decode cX3_swapPressure 4 = .ok (.istore_n 2, 1) := by decide +kernel
theorem dX3_swapPressure_5 : decode cX3_swapPressure 5 = .ok (.aload_n 0, 1) := by decide +kernel
theorem dX3_swapPressure_6 : decode cX3_swapPressure 6 = .ok (.iload_n 1, 1) := by decide +kernel
theorem dX3_swapPressure_7 : decode cX3_swapPressure 7 = .ok (.putfield 34, 3) := by decide +kernel
theorem dX3_swapPressure_10 : decode cX3_swapPressure 10 = .ok (.iload_n 2, 1) := by decide +kernel
theorem dX3_swapPressure_11 : decode cX3_swapPressure 11 = .ok (.ireturn, 1) := by decide +kernel
theorem dX3_add_0 : decode cX3_add 0 = .ok (.aload_n 0, 1) := by decide +kernel
theorem dX3_add_1 : decode cX3_add 1 = .ok (.getfield 37, 3) := by decide +kernel
theorem dX3_add_4 : decode cX3_add 4 = .ok (.istore 5, 2) := by decide +kernel
theorem dX3_add_6 : decode cX3_add 6 = .ok (.aload_n 0, 1) := by decide +kernel
theorem dX3_add_7 : decode cX3_add 7 = .ok (.getfield 9, 3) := by decide +kernel
theorem dX3_add_10 : decode cX3_add 10 = .ok (.iload 5, 2) := by decide +kernel
theorem dX3_add_12 : decode cX3_add 12 = .ok (.getstatic 40, 3) := by decide +kernel
theorem dX3_add_15 : decode cX3_add 15 = .ok (.iload_n 1, 1) := by decide +kernel
theorem dX3_add_16 : decode cX3_add 16 = .ok (.iaload, 1) := by decide +kernel
theorem dX3_add_17 : decode cX3_add 17 = .ok (.iastore, 1) := by decide +kernel
theorem dX3_add_18 : decode cX3_add 18 = .ok (.aload_n 0, 1) := by decide +kernel
theorem dX3_add_19 : decode cX3_add 19 = .ok (.getfield 13, 3) := by decide +kernel
theorem dX3_add_22 : decode cX3_add 22 = .ok (.iload 5, 2) := by decide +kernel
theorem dX3_add_24 : decode cX3_add 24 = .ok (.iload_n 2, 1) := by decide +kernel
theorem dX3_add_25 : decode cX3_add 25 = .ok (.iastore, 1) := by decide +kernel
theorem dX3_add_26 : decode cX3_add 26 = .ok (.aload_n 0, 1) := by decide +kernel
theorem dX3_add_27 : decode cX3_add 27 = .ok (.getfield 16, 3) := by decide +kernel
theorem dX3_add_30 : decode cX3_add 30 = .ok (.iload 5, 2) := by decide +kernel
theorem dX3_add_32 : decode cX3_add 32 = .ok (.iload_n 3, 1) := by decide +kernel
theorem dX3_add_33 : decode cX3_add 33 = .ok (.bastore, 1) := by decide +kernel
theorem dX3_add_34 : decode cX3_add 34 = .ok (.aload_n 0, 1) := by decide +kernel
theorem dX3_add_35 : decode cX3_add 35 = .ok (.getfield 20, 3) := by decide +kernel
theorem dX3_add_38 : decode cX3_add 38 = .ok (.iload 5, 2) := by decide +kernel
theorem dX3_add_40 : decode cX3_add 40 = .ok (.iload 4, 2) := by decide +kernel
theorem dX3_add_42 : decode cX3_add 42 = .ok (.iastore, 1) := by decide +kernel
theorem dX3_add_43 : decode cX3_add 43 = .ok (.aload_n 0, 1) := by decide +kernel
theorem dX3_add_44 : decode cX3_add 44 = .ok (.dup, 1) := by decide +kernel
theorem dX3_add_45 : decode cX3_add 45 = .ok (.getfield 37, 3) := by decide +kernel
theorem dX3_add_48 : decode cX3_add 48 = .ok (.iconst 1, 1) := by decide +kernel
theorem dX3_add_49 : decode cX3_add 49 = .ok (.iadd, 1) := by decide +kernel
theorem dX3_add_50 : decode cX3_add 50 = .ok (.putfield 37, 3) := by decide +kernel
theorem dX3_add_53 : decode cX3_add 53 = .ok (.iload 5, 2) := by decide +kernel
theorem dX3_add_55 : decode cX3_add 55 = .ok (.ireturn, 1) := by decide +kernel
theorem dX3_adjust_0 : decode cX3_adjust 0 = .ok (.aload_n 0, 1) := by decide +kernel
theorem dX3_adjust_1 : decode cX3_adjust 1 = .ok (.getfield 13, 3) := by decide +kernel
theorem dX3_adjust_4 : decode cX3_adjust 4 = .ok (.iload_n 1, 1) := by decide +kernel
theorem dX3_adjust_5 : decode cX3_adjust 5 = .ok (.iload_n 2, 1) := by decide +kernel
theorem dX3_adjust_6 : decode cX3_adjust 6 = .ok (.iastore, 1) := by decide +kernel
theorem dX3_adjust_7 : decode cX3_adjust 7 = .ok (.aload_n 0, 1) := by decide +kernel
theorem dX3_adjust_8 : decode cX3_adjust 8 = .ok (.getfield 20, 3) := by decide +kernel
theorem dX3_adjust_11 : decode cX3_adjust 11 = .ok (.iload_n 1, 1) := by decide +kernel
theorem dX3_adjust_12 : decode cX3_adjust 12 = .ok (.iload_n 3, 1) := by decide +kernel
theorem dX3_adjust_13 : decode cX3_adjust 13 = .ok (.iastore, 1) := by decide +kernel
theorem dX3_adjust_14 : decode cX3_adjust 14 = .ok (.return_, 1) := by decide +kernel
theorem dX3_swapOff_0 : decode cX3_swapOff 0 = .ok (.aload_n 0, 1) := by decide +kernel
theorem dX3_swapOff_1 : decode cX3_swapOff 1 = .ok (.getfield 23, 3) := by decide +kernel
theorem dX3_swapOff_4 : decode cX3_swapOff 4 = .ok (.iload_n 1, 1) := by decide +kernel
theorem dX3_swapOff_5 : decode cX3_swapOff 5 = .ok (.laload, 1) := by decide +kernel
theorem dX3_swapOff_6 : decode cX3_swapOff 6 = .ok (.lstore_n 3, 1) := by decide +kernel
theorem dX3_swapOff_7 : decode cX3_swapOff 7 = .ok (.aload_n 0, 1) := by decide +kernel
theorem dX3_swapOff_8 : decode cX3_swapOff 8 = .ok (.getfield 23, 3) := by decide +kernel
theorem dX3_swapOff_11 : decode cX3_swapOff 11 = .ok (.iload_n 1, 1) := by decide +kernel
theorem dX3_swapOff_12 : decode cX3_swapOff 12 = .ok (.iload_n 2, 1) := by decide +kernel
theorem dX3_swapOff_13 : decode cX3_swapOff 13 = .ok (.i2l, 1) := by decide +kernel
theorem dX3_swapOff_14 : decode cX3_swapOff 14 = .ok (.lastore, 1) := by decide +kernel
theorem dX3_swapOff_15 : decode cX3_swapOff 15 = .ok (.lload_n 3, 1) := by decide +kernel
theorem dX3_swapOff_16 : decode cX3_swapOff 16 = .ok (.lreturn, 1) := by decide +kernel
theorem dX3_offOf_0 : decode cX3_offOf 0 = .ok (.aload_n 0, 1) := by decide +kernel
theorem dX3_offOf_1 : decode cX3_offOf 1 = .ok (.getfield 23, 3) := by decide +kernel
theorem dX3_offOf_4 : decode cX3_offOf 4 = .ok (.iload_n 1, 1) := by decide +kernel
theorem dX3_offOf_5 : decode cX3_offOf 5 = .ok (.laload, 1) := by decide +kernel
theorem dX3_offOf_6 : decode cX3_offOf 6 = .ok (.lreturn, 1) := by decide +kernel
set_option maxRecDepth 20000 in
theorem ggX3_rateOf_J9_floorDiv_7cf53 : GoodIn wsX3_rateOf wsJ9_floorDiv_7cf53 := goodIn_r _ [10] (by decide +kernel) (by decide +kernel)
set_option maxRecDepth 20000 in
theorem gX3_rateOf_J9_floorDiv_7cf53 : GoodIn wsX3_rateOf (va_wsS RX3 43 yJ9_floorDiv_7cf53 wsJ9_floorDiv_7cf53) := goodIn_app (goodIn_of _ (by decide +kernel)) ggX3_rateOf_J9_floorDiv_7cf53
theorem dX3_rateOf_0 : decode cX3_rateOf 0 = .ok (.sipush 432, 3) := by decide +kernel
theorem dX3_rateOf_3 : decode cX3_rateOf 3 = .ok (.aload_n 0, 1) := by decide +kernel
theorem dX3_rateOf_4 : decode cX3_rateOf 4 = .ok (.getfield 9, 3) := by decide +kernel
theorem dX3_rateOf_7 : decode cX3_rateOf 7 = .ok (.iload_n 1, 1) := by decide +kernel
theorem dX3_rateOf_8 : decode cX3_rateOf 8 = .ok (.iaload, 1) := by decide +kernel
theorem dX3_rateOf_9 : decode cX3_rateOf 9 = .ok (.imul, 1) := by decide +kernel
theorem dX3_rateOf_10 : decode cX3_rateOf 10 = .ok (.aload_n 0, 1) := by decide +kernel
theorem dX3_rateOf_11 : decode cX3_rateOf 11 = .ok (.getfield 30, 3) := by decide +kernel
theorem dX3_rateOf_14 : decode cX3_rateOf 14 = .ok (.bipush 20, 2) := by decide +kernel
theorem dX3_rateOf_16 : decode cX3_rateOf 16 = .ok (.isub, 1) := by decide +kernel
theorem dX3_rateOf_17 : decode cX3_rateOf 17 = .ok (.imul, 1) := by decide +kernel
theorem dX3_rateOf_18 : decode cX3_rateOf 18 = .ok (.bipush 10, 2) := by decide +kernel
theorem dX3_rateOf_20 : decode cX3_rateOf 20 = .ok (.invokestatic 43, 3) := by decide +kernel
theorem dX3_rateOf_23 : decode cX3_rateOf 23 = .ok (.istore_n 2, 1) := by decide +kernel
theorem dX3_rateOf_24 : decode cX3_rateOf 24 = .ok (.aload_n 0, 1) := by decide +kernel
theorem dX3_rateOf_25 : decode cX3_rateOf 25 = .ok (.getfield 16, 3) := by decide +kernel
theorem dX3_rateOf_28 : decode cX3_rateOf 28 = .ok (.iload_n 1, 1) := by decide +kernel
theorem dX3_rateOf_29 : decode cX3_rateOf 29 = .ok (.baload, 1) := by decide +kernel
theorem dX3_rateOf_30 : decode cX3_rateOf 30 = .ok (.ifCond .ne 27, 3) := by decide +kernel
theorem dX3_rateOf_33 : decode cX3_rateOf 33 = .ok (.iload_n 2, 1) := by decide +kernel
theorem dX3_rateOf_34 : decode cX3_rateOf 34 = .ok (.bipush 54, 2) := by decide +kernel
theorem dX3_rateOf_36 : decode cX3_rateOf 36 = .ok (.aload_n 0, 1) := by decide +kernel
theorem dX3_rateOf_37 : decode cX3_rateOf 37 = .ok (.getfield 13, 3) := by decide +kernel
theorem dX3_rateOf_40 : decode cX3_rateOf 40 = .ok (.iload_n 1, 1) := by decide +kernel
theorem dX3_rateOf_41 : decode cX3_rateOf 41 = .ok (.iaload, 1) := by decide +kernel
theorem dX3_rateOf_42 : decode cX3_rateOf 42 = .ok (.imul, 1) := by decide +kernel
theorem dX3_rateOf_43 : decode cX3_rateOf 43 = .ok (.aload_n 0, 1) := by decide +kernel
theorem dX3_rateOf_44 : decode cX3_rateOf 44 = .ok (.getfield 13, 3) := by decide +kernel
theorem dX3_rateOf_47 : decode cX3_rateOf 47 = .ok (.iload_n 1, 1) := by decide +kernel
theorem dX3_rateOf_48 : decode cX3_rateOf 48 = .ok (.iaload, 1) := by decide +kernel
theorem dX3_rateOf_49 : decode cX3_rateOf 49 = .ok (.imul, 1) := by decide +kernel
theorem dX3_rateOf_50 : decode cX3_rateOf 50 = .ok (.bipush 10, 2) := by decide +kernel
theorem dX3_rateOf_52 : decode cX3_rateOf 52 = .ok (.invokestatic 43, 3) := by decide +kernel
theorem dX3_rateOf_55 : decode cX3_rateOf 55 = .ok (.iadd, 1) := by decide +kernel
theorem dX3_rateOf_56 : decode cX3_rateOf 56 = .ok (.istore_n 2, 1) := by decide +kernel
theorem dX3_rateOf_57 : decode cX3_rateOf 57 = .ok (.aload_n 0, 1) := by decide +kernel
theorem dX3_rateOf_58 : decode cX3_rateOf 58 = .ok (.getfield 20, 3) := by decide +kernel
theorem dX3_rateOf_61 : decode cX3_rateOf 61 = .ok (.iload_n 1, 1) := by decide +kernel
theorem dX3_rateOf_62 : decode cX3_rateOf 62 = .ok (.iaload, 1) := by decide +kernel
theorem dX3_rateOf_63 : decode cX3_rateOf 63 = .ok (.iload_n 2, 1) := by decide +kernel
theorem dX3_rateOf_64 : decode cX3_rateOf 64 = .ok (.isub, 1) := by decide +kernel
theorem dX3_rateOf_65 : decode cX3_rateOf 65 = .ok (.bipush 12, 2) := by decide +kernel
theorem dX3_rateOf_67 : decode cX3_rateOf 67 = .ok (.aload_n 0, 1) := by decide +kernel
theorem dX3_rateOf_68 : decode cX3_rateOf 68 = .ok (.getfield 34, 3) := by decide +kernel
theorem dX3_rateOf_71 : decode cX3_rateOf 71 = .ok (.sipush 1013, 3) := by decide +kernel
theorem dX3_rateOf_74 : decode cX3_rateOf 74 = .ok (.isub, 1) := by decide +kernel
theorem dX3_rateOf_75 : decode cX3_rateOf 75 = .ok (.imul, 1) := by decide +kernel
theorem dX3_rateOf_76 : decode cX3_rateOf 76 = .ok (.isub, 1) := by decide +kernel
theorem dX3_rateOf_77 : decode cX3_rateOf 77 = .ok (.ireturn, 1) := by decide +kernel
set_option maxRecDepth 20000 in
theorem ggX3_goOn_X3_rateOf : GoodIn wsX3_goOn wsX3_rateOf := goodIn_r _ [8, 9, 10, 11, 12, 13, 14, 15, 16, 17, 18, 19, 20, 21, 22, 23, 24, 25, 26, 27, 28] (by decide +kernel) (by decide +kernel)
set_option maxRecDepth 20000 in
theorem gX3_goOn_X3_rateOf : GoodIn wsX3_goOn (wsV RX3 49 RX3 yX3_rateOf wsX3_rateOf) := goodIn_app (goodIn_of _ (by decide +kernel)) ggX3_goOn_X3_rateOf
theorem dX3_goOn_0 : decode cX3_goOn 0 = .ok (.iconst 0, 1) := by decide +kernel
theorem dX3_goOn_1 : decode cX3_goOn 1 = .ok (.istore_n 2, 1) := by decide +kernel
theorem dX3_goOn_2 : decode cX3_goOn 2 = .ok (.iload_n 2, 1) := by decide +kernel
theorem dX3_goOn_3 : decode cX3_goOn 3 = .ok (.aload_n 0, 1) := by decide +kernel
theorem dX3_goOn_4 : decode cX3_goOn 4 = .ok (.getfield 37, 3) := by decide +kernel
theorem dX3_goOn_7 : decode cX3_goOn 7 = .ok (.if_icmp .ge 27, 3) := by decide +kernel
theorem dX3_goOn_10 : decode cX3_goOn 10 = .ok (.aload_n 0, 1) := by decide +kernel
theorem dX3_goOn_11 : decode cX3_goOn 11 = .ok (.getfield 23, 3) := by decide +kernel
theorem dX3_goOn_14 : decode cX3_goOn 14 = .ok (.iload_n 2, 1) := by decide +kernel
theorem dX3_goOn_15 : decode cX3_goOn 15 = .ok (.dup2, 1) := by decide +kernel
theorem dX3_goOn_16 : decode cX3_goOn 16 = .ok (.laload, 1) := by decide +kernel
theorem dX3_goOn_17 : decode cX3_goOn 17 = .ok (.aload_n 0, 1) := by decide +kernel
theorem dX3_goOn_18 : decode cX3_goOn 18 = .ok (.iload_n 2, 1) := by decide +kernel
theorem dX3_goOn_19 : decode cX3_goOn 19 = .ok (.invokevirtual 49, 3) := by decide +kernel
theorem dX3_goOn_22 : decode cX3_goOn 22 = .ok (.i2l, 1) := by decide +kernel
theorem dX3_goOn_23 : decode cX3_goOn 23 = .ok (.iload_n 1, 1) := by decide +kernel
theorem dX3_goOn_24 : decode cX3_goOn 24 = .ok (.i2l, 1) := by decide +kernel
theorem dX3_goOn_25 : decode cX3_goOn 25 = .ok (.lmul, 1) := by decide +kernel
theorem dX3_goOn_26 : decode cX3_goOn 26 = .ok (.ladd, 1) := by decide +kernel
theorem dX3_goOn_27 : decode cX3_goOn 27 = .ok (.lastore, 1) := by decide +kernel
theorem dX3_goOn_28 : decode cX3_goOn 28 = .ok (.iinc 2 1, 3) := by decide +kernel
theorem dX3_goOn_31 : decode cX3_goOn 31 = .ok (.goto (-29), 3) := by decide +kernel
theorem dX3_goOn_34 : decode cX3_goOn 34 = .ok (.aload_n 0, 1) := by decide +kernel
theorem dX3_goOn_35 : decode cX3_goOn 35 = .ok (.dup, 1) := by decide +kernel
theorem dX3_goOn_36 : decode cX3_goOn 36 = .ok (.getfield 53, 3) := by decide +kernel
theorem dX3_goOn_39 : decode cX3_goOn 39 = .ok (.iload_n 1, 1) := by decide +kernel
theorem dX3_goOn_40 : decode cX3_goOn 40 = .ok (.i2l, 1) := by decide +kernel
theorem dX3_goOn_41 : decode cX3_goOn 41 = .ok (.ladd, 1) := by decide +kernel
theorem dX3_goOn_42 : decode cX3_goOn 42 = .ok (.putfield 53, 3) := by decide +kernel
theorem dX3_goOn_45 : decode cX3_goOn 45 = .ok (.aload_n 0, 1) := by decide +kernel
theorem dX3_goOn_46 : decode cX3_goOn 46 = .ok (.getfield 53, 3) := by decide +kernel
theorem dX3_goOn_49 : decode cX3_goOn 49 = .ok (.lreturn, 1) := by decide +kernel
set_option maxRecDepth 20000 in
theorem ggX3_middle_X3_sortOffs : GoodIn wsX3_middle wsX3_sortOffs := goodIn_r _ [8, 1, 2, 9, 14, 15, 16, 17, 18, 19, 20, 21, 22, 23] (by decide +kernel) (by decide +kernel)
set_option maxRecDepth 20000 in
theorem gX3_middle_X3_sortOffs : GoodIn wsX3_middle (wsV RX3 57 RX3 yX3_sortOffs wsX3_sortOffs) := goodIn_app (goodIn_of _ (by decide +kernel)) ggX3_middle_X3_sortOffs
set_option maxRecDepth 20000 in
theorem ggX3_middle_J9_floorDiv_f86c9 : GoodIn wsX3_middle wsJ9_floorDiv_f86c9 := goodIn_r _ [13] (by decide +kernel) (by decide +kernel)
set_option maxRecDepth 20000 in
theorem gX3_middle_J9_floorDiv_f86c9 : GoodIn wsX3_middle (va_wsS RX3 62 yJ9_floorDiv_f86c9 wsJ9_floorDiv_f86c9) := goodIn_app (goodIn_of _ (by decide +kernel)) ggX3_middle_J9_floorDiv_f86c9
theorem dX3_middle_0 : decode cX3_middle 0 = .ok (.aload_n 0, 1) := by decide +kernel
theorem dX3_middle_1 : decode cX3_middle 1 = .ok (.invokevirtual 57, 3) := by decide +kernel
theorem dX3_middle_4 : decode cX3_middle 4 = .ok (.aload_n 0, 1) := by decide +kernel
theorem dX3_middle_5 : decode cX3_middle 5 = .ok (.getfield 37, 3) := by decide +kernel
theorem dX3_middle_8 : decode cX3_middle 8 = .ok (.iconst 1, 1) := by decide +kernel
theorem dX3_middle_9 : decode cX3_middle 9 = .ok (.isub, 1) := by decide +kernel
theorem dX3_middle_10 : decode cX3_middle 10 = .ok (.iconst 2, 1) := by decide +kernel
theorem dX3_middle_11 : decode cX3_middle 11 = .ok (.idiv, 1) := by decide +kernel
theorem dX3_middle_12 : decode cX3_middle 12 = .ok (.istore_n 1, 1) := by decide +kernel
theorem dX3_middle_13 : decode cX3_middle 13 = .ok (.aload_n 0, 1) := by decide +kernel
theorem dX3_middle_14 : decode cX3_middle 14 = .ok (.getfield 37, 3) := by decide +kernel
theorem dX3_middle_17 : decode cX3_middle 17 = .ok (.iconst 2, 1) := by decide +kernel
theorem dX3_middle_18 : decode cX3_middle 18 = .ok (.idiv, 1) := by decide +kernel
theorem dX3_middle_19 : decode cX3_middle 19 = .ok (.istore_n 2, 1) := by decide +kernel
theorem dX3_middle_20 : decode cX3_middle 20 = .ok (.aload_n 0, 1) := by decide +kernel
theorem dX3_middle_21 : decode cX3_middle 21 = .ok (.getfield 27, 3) := by decide +kernel
theorem dX3_middle_24 : decode cX3_middle 24 = .ok (.iload_n 1, 1) := by decide +kernel
theorem dX3_middle_25 : decode cX3_middle 25 = .ok (.laload, 1) := by decide +kernel
theorem dX3_middle_26 : decode cX3_middle 26 = .ok (.aload_n 0, 1) := by decide +kernel
theorem dX3_middle_27 : decode cX3_middle 27 = .ok (.getfield 27, 3) := by decide +kernel
theorem dX3_middle_30 : decode cX3_middle 30 = .ok (.iload_n 2, 1) := by decide +kernel
theorem dX3_middle_31 : decode cX3_middle 31 = .ok (.laload, 1) := by decide +kernel
theorem dX3_middle_32 : decode cX3_middle 32 = .ok (.ladd, 1) := by decide +kernel
theorem dX3_middle_33 : decode cX3_middle 33 = .ok (.ldc2_w 60, 3) := by decide +kernel
theorem dX3_middle_36 : decode cX3_middle 36 = .ok (.invokestatic 62, 3) := by decide +kernel
theorem dX3_middle_39 : decode cX3_middle 39 = .ok (.lreturn, 1) := by decide +kernel
theorem dX3_sortOffs_0 : decode cX3_sortOffs 0 = .ok (.iconst 0, 1) := by decide +kernel
theorem dX3_sortOffs_1 : decode cX3_sortOffs 1 = .ok (.istore_n 1, 1) := by decide +kernel
theorem dX3_sortOffs_2 : decode cX3_sortOffs 2 = .ok (.iload_n 1, 1) := by decide +kernel
theorem dX3_sortOffs_3 : decode cX3_sortOffs 3 = .ok (.aload_n 0, 1) := by decide +kernel
theorem dX3_sortOffs_4 : decode cX3_sortOffs 4 = .ok (.getfield 37, 3) := by decide +kernel
theorem dX3_sortOffs_7 : decode cX3_sortOffs 7 = .ok (.if_icmp .ge 65, 3) := by decide +kernel
theorem dX3_sortOffs_10 : decode cX3_sortOffs 10 = .ok (.iload_n 1, 1) := by decide +kernel
theorem dX3_sortOffs_11 : decode cX3_sortOffs 11 = .ok (.istore_n 2, 1) := by decide +kernel
theorem dX3_sortOffs_12 : decode cX3_sortOffs 12 = .ok (.iload_n 2, 1) := by decide +kernel
theorem dX3_sortOffs_13 : decode cX3_sortOffs 13 = .ok (.ifCond .le 41, 3) := by decide +kernel
theorem dX3_sortOffs_16 : decode cX3_sortOffs 16 = .ok (.aload_n 0, 1) := by decide +kernel
theorem dX3_sortOffs_17 : decode cX3_sortOffs 17 = .ok (.getfield 27, 3) := by decide +kernel
theorem dX3_sortOffs_20 : decode cX3_sortOffs 20 = .ok (.iload_n 2, 1) := by decide +kernel
theorem dX3_sortOffs_21 : decode cX3_sortOffs 21 = .ok (.iconst 1, 1) := by decide +kernel
theorem dX3_sortOffs_22 : decode cX3_sortOffs 22 = .ok (.isub, 1) := by decide +kernel
theorem dX3_sortOffs_23 : decode cX3_sortOffs 23 = .ok (.laload, 1) := by decide +kernel
theorem dX3_sortOffs_24 : decode cX3_sortOffs 24 = .ok (.aload_n 0, 1) := by decide +kernel
theorem dX3_sortOffs_25 : decode cX3_sortOffs 25 = .ok (.getfield 23, 3) := by decide +kernel
theorem dX3_sortOffs_28 : decode cX3_sortOffs 28 = .ok (.iload_n 1, 1) := by decide +kernel
theorem dX3_sortOffs_29 : decode cX3_sortOffs 29 = .ok (.laload, 1) := by decide +kernel
theorem dX3_sortOffs_30 : decode cX3_sortOffs 30 = .ok (.lcmp, 1) := by decide +kernel
theorem dX3_sortOffs_31 : decode cX3_sortOffs 31 = .ok (.ifCond .le 23, 3) := by decide +kernel
theorem dX3_sortOffs_34 : decode cX3_sortOffs 34 = .ok (.aload_n 0, 1) := by decide +kernel
theorem dX3_sortOffs_35 : decode cX3_sortOffs 35 = .ok (.getfield 27, 3) := by decide +kernel
theorem dX3_sortOffs_38 : decode cX3_sortOffs 38 = .ok (.iload_n 2, 1) := by decide +kernel
theorem dX3_sortOffs_39 : decode cX3_sortOffs 39 = .ok (.aload_n 0, 1) := by decide +kernel
theorem dX3_sortOffs_40 : decode cX3_sortOffs 40 = .ok (.getfield 27, 3) := by decide +kernel
theorem dX3_sortOffs_43 : decode cX3_sortOffs 43 = .ok (.iload_n 2, 1) := by decide +kernel
theorem dX3_sortOffs_44 : decode cX3_sortOffs 44 = .ok (.iconst 1, 1) := by decide +kernel
theorem dX3_sortOffs_45 : decode cX3_sortOffs 45 = .ok (.isub, 1) := by decide +kernel
theorem dX3_sortOffs_46 : decode cX3_sortOffs 46 = .ok (.laload, 1) := by decide +kernel
theorem dX3_sortOffs_47 : decode cX3_sortOffs 47 = .ok (.lastore, 1) := by decide +kernel
theorem dX3_sortOffs_48 : decode cX3_sortOffs 48 = .ok (.iinc 2 (-1), 3) := by decide +kernel
theorem dX3_sortOffs_51 : decode cX3_sortOffs 51 = .ok (.goto (-39), 3) := by decide +kernel
theorem dX3_sortOffs_54 : decode cX3_sortOffs 54 = .ok (.aload_n 0, 1) := by decide +kernel
theorem dX3_sortOffs_55 : decode cX3_sortOffs 55 = .ok (.getfield 27, 3) := by decide +kernel
theorem dX3_sortOffs_58 : decode cX3_sortOffs 58 = .ok (.iload_n 2, 1) := by decide +kernel
theorem dX3_sortOffs_59 : decode cX3_sortOffs 59 = .ok (.aload_n 0, 1) := by decide +kernel
theorem dX3_sortOffs_60 : decode cX3_sortOffs 60 = .ok (.getfield 23, 3) := by decide +kernel
theorem dX3_sortOffs_63 : decode cX3_sortOffs 63 = .ok (.iload_n 1, 1) := by decide +kernel
theorem dX3_sortOffs_64 : decode cX3_sortOffs 64 = .ok (.laload, 1) := by decide +kernel
theorem dX3_sortOffs_65 : decode cX3_sortOffs 65 = .ok (.lastore, 1) := by decide +kernel
theorem dX3_sortOffs_66 : decode cX3_sortOffs 66 = .ok (.iinc 1 1, 3) := by decide +kernel
theorem dX3_sortOffs_69 : decode cX3_sortOffs 69 = .ok (.goto (-67), 3) := by decide +kernel
theorem dX3_sortOffs_72 : decode cX3_sortOffs 72 = .ok (.return_, 1) := by decide +kernel
theorem dX3_isNear_0 : decode cX3_isNear 0 = .ok (.aload_n 0, 1) := by decide +kernel
theorem dX3_isNear_1 : decode cX3_isNear 1 = .ok (.getfield 23, 3) := by decide +kernel
theorem dX3_isNear_4 : decode cX3_isNear 4 = .ok (.iload_n 1, 1) := by decide +kernel
theorem dX3_isNear_5 : decode cX3_isNear 5 = .ok (.laload, 1) := by decide +kernel
theorem dX3_isNear_6 : decode cX3_isNear 6 = .ok (.lload_n 2, 1) := by decide +kernel
theorem dX3_isNear_7 : decode cX3_isNear 7 = .ok (.lsub, 1) := by decide +kernel
theorem dX3_isNear_8 : decode cX3_isNear 8 = .ok (.lstore 4, 2) := by decide +kernel
theorem dX3_isNear_10 : decode cX3_isNear 10 = .ok (.lload 4, 2) := by decide +kernel
theorem dX3_isNear_12 : decode cX3_isNear 12 = .ok (.ldc2_w 65, 3) := by decide +kernel
theorem dX3_isNear_15 : decode cX3_isNear 15 = .ok (.lcmp, 1) := by decide +kernel
theorem dX3_isNear_16 : decode cX3_isNear 16 = .ok (.ifCond .lt 16, 3) := by decide +kernel
theorem dX3_isNear_19 : decode cX3_isNear 19 = .ok (.lload 4, 2) := by decide +kernel
theorem dX3_isNear_21 : decode cX3_isNear 21 = .ok (.ldc2_w 67, 3) := by decide +kernel
theorem dX3_isNear_24 : decode cX3_isNear 24 = .ok (.lcmp, 1) := by decide +kernel
theorem dX3_isNear_25 : decode cX3_isNear 25 = .ok (.ifCond .gt 7, 3) := by decide +kernel
theorem dX3_isNear_28 : decode cX3_isNear 28 = .ok (.iconst 1, 1) := by decide +kernel
theorem dX3_isNear_29 : decode cX3_isNear 29 = .ok (.goto 4, 3) := by decide +kernel
theorem dX3_isNear_32 : decode cX3_isNear 32 = .ok (.iconst 0, 1) := by decide +kernel
theorem dX3_isNear_33 : decode cX3_isNear 33 = .ok (.ireturn, 1) := by decide +kernel
set_option maxRecDepth 20000 in
theorem ggX3_countNear_X3_middle : GoodIn wsX3_countNear wsX3_middle := goodIn_r _ [6, 1, 7, 8, 9, 10, 11, 5, 12, 13, 14, 15, 16, 17, 24, 25, 26, 27, 28, 29, 30, 31, 32, 33] (by decide +kernel) (by decide +kernel)
set_option maxRecDepth 20000 in
theorem gX3_countNear_X3_middle : GoodIn wsX3_countNear (wsV RX3 69 RX3 yX3_middle wsX3_middle) := goodIn_app (goodIn_of _ (by decide +kernel)) ggX3_countNear_X3_middle
set_option maxRecDepth 20000 in
theorem ggX3_countNear_X3_isNear : GoodIn wsX3_countNear wsX3_isNear := goodIn_r _ [21, 13, 22, 23, 24, 25, 26, 27, 28, 29, 30, 31, 32, 33] (by decide +kernel) (by decide +kernel)
set_option maxRecDepth 20000 in
theorem gX3_countNear_X3_isNear : GoodIn wsX3_countNear (wsV RX3 73 RX3 yX3_isNear wsX3_isNear) := goodIn_app (goodIn_of _ (by decide +kernel)) ggX3_countNear_X3_isNear
theorem dX3_countNear_0 : decode cX3_countNear 0 = .ok (.aload_n 0, 1) := by decide +kernel
theorem dX3_countNear_1 : decode cX3_countNear 1 = .ok (.invokevirtual 69, 3) := by decide +kernel
theorem dX3_countNear_4 : decode cX3_countNear 4 = .ok (.lstore_n 1, 1) := by decide +kernel
theorem dX3_countNear_5 : decode cX3_countNear 5 = .ok (.iconst 0, 1) := by decide +kernel
theorem dX3_countNear_6 : decode cX3_countNear 6 = .ok (.istore_n 3, 1) := by decide +kernel
theorem dX3_countNear_7 : decode cX3_countNear 7 = .ok (.iconst 0, 1) := by decide +kernel
theorem dX3_countNear_8 : decode cX3_countNear 8 = .ok (.istore 4, 2) := by decide +kernel
theorem dX3_countNear_10 : decode cX3_countNear 10 = .ok (.iload 4, 2) := by decide +kernel
theorem dX3_countNear_12 : decode cX3_countNear 12 = .ok (.aload_n 0, 1) := by decide +kernel
theorem dX3_countNear_13 : decode cX3_countNear 13 = .ok (.getfield 37, 3) := by decide +kernel
theorem dX3_countNear_16 : decode cX3_countNear 16 = .ok (.if_icmp .ge 22, 3) := by decide +kernel
theorem dX3_countNear_19 : decode cX3_countNear 19 = .ok (.aload_n 0, 1) := by decide +kernel
theorem dX3_countNear_20 : decode cX3_countNear 20 = .ok (.iload 4, 2) := by decide +kernel
theorem dX3_countNear_22 : decode cX3_countNear 22 = .ok (.lload_n 1, 1) := by decide +kernel
theorem dX3_countNear_23 : decode cX3_countNear 23 = .ok (.invokevirtual 73, 3) := by decide +kernel
theorem dX3_countNear_26 : decode cX3_countNear 26 = .ok (.ifCond .eq 6, 3) := by decide +kernel
theorem dX3_countNear_29 : decode cX3_countNear 29 = .ok (.iinc 3 1, 3) := by decide +kernel
theorem dX3_countNear_32 : decode cX3_countNear 32 = .ok (.iinc 4 1, 3) := by decide +kernel
theorem dX3_countNear_35 : decode cX3_countNear 35 = .ok (.goto (-25), 3) := by decide +kernel
theorem dX3_countNear_38 : decode cX3_countNear 38 = .ok (.iload_n 3, 1) := by decide +kernel
theorem dX3_countNear_39 : decode cX3_countNear 39 = .ok (.ireturn, 1) := by decide +kernel
theorem dX4_turn_0 : decode cX4_turn 0 = .ok (.iload_n 0, 1) := by decide +kernel
theorem dX4_turn_1 : decode cX4_turn 1 = .ok (.ifCond .ge 8, 3) := by decide +kernel
theorem dX4_turn_4 : decode cX4_turn 4 = .ok (.iload_n 0, 1) := by decide +kernel
theorem dX4_turn_5 : decode cX4_turn 5 = .ok (.ineg, 1) := by decide +kernel
theorem dX4_turn_6 : decode cX4_turn 6 = .ok (.goto 4, 3) := by decide +kernel
theorem dX4_turn_9 : decode cX4_turn 9 = .ok (.iload_n 0, 1) := by decide +kernel
theorem dX4_turn_10 : decode cX4_turn 10 = .ok (.istore_n 2, 1) := by decide +kernel
theorem dX4_turn_11 : decode cX4_turn 11 = .ok (.iload_n 2, 1) := by decide +kernel
theorem dX4_turn_12 : decode cX4_turn 12 = .ok (.sipush 180, 3) := by decide +kernel
theorem dX4_turn_15 : decode cX4_turn 15 = .ok (.iload_n 2, 1) := by decide +kernel
theorem dX4_turn_16 : decode cX4_turn 16 = .ok (.isub, 1) := by decide +kernel
theorem dX4_turn_17 : decode cX4_turn 17 = .ok (.imul, 1) := by decide +kernel
theorem dX4_turn_18 : decode cX4_turn 18 = .ok (.i2f, 1) := by decide +kernel
theorem dX4_turn_19 : decode cX4_turn 19 = .ok (.fstore_n 3, 1) := by decide +kernel
theorem dX4_turn_20 : decode cX4_turn 20 = .ok (.ldc 7, 2) := by decide +kernel
theorem dX4_turn_22 : decode cX4_turn 22 = .ok (.fload_n 3, 1) := by decide +kernel
theorem dX4_turn_23 : decode cX4_turn 23 = .ok (.fmul, 1) := by decide +kernel
theorem dX4_turn_24 : decode cX4_turn 24 = .ok (.ldc 8, 2) := by decide +kernel
theorem dX4_turn_26 : decode cX4_turn 26 = .ok (.fload_n 3, 1) := by decide +kernel
theorem dX4_turn_27 : decode cX4_turn 27 = .ok (.fsub, 1) := by decide +kernel
theorem dX4_turn_28 : decode cX4_turn 28 = .ok (.fdiv, 1) := by decide +kernel
theorem dX4_turn_29 : decode cX4_turn 29 = .ok (.fstore 4, 2) := by decide +kernel
theorem dX4_turn_31 : decode cX4_turn 31 = .ok (.fload 4, 2) := by decide +kernel
theorem dX4_turn_33 : decode cX4_turn 33 = .ok (.iload_n 1, 1) := by decide +kernel
theorem dX4_turn_34 : decode cX4_turn 34 = .ok (.i2f, 1) := by decide +kernel
theorem dX4_turn_35 : decode cX4_turn 35 = .ok (.fmul, 1) := by decide +kernel
theorem dX4_turn_36 : decode cX4_turn 36 = .ok (.ldc 9, 2) := by decide +kernel
theorem dX4_turn_38 : decode cX4_turn 38 = .ok (.fmul, 1) := by decide +kernel
theorem dX4_turn_39 : decode cX4_turn 39 = .ok (.fstore 5, 2) := by decide +kernel
theorem dX4_turn_41 : decode cX4_turn 41 = .ok (.iload_n 0, 1) := by decide +kernel
theorem dX4_turn_42 : decode cX4_turn 42 = .ok (.ifCond .ge 10, 3) := by decide +kernel
theorem dX4_turn_45 : decode cX4_turn 45 = .ok (.fconst 0, 1) := by decide +kernel
theorem dX4_turn_46 : decode cX4_turn 46 = .ok (.fload 5, 2) := by decide +kernel
theorem dX4_turn_48 : decode cX4_turn 48 = .ok (.fsub, 1) := by decide +kernel
theorem dX4_turn_49 : decode cX4_turn 49 = .ok (.goto 5, 3) := by decide +kernel
theorem dX4_turn_52 : decode cX4_turn 52 = .ok (.fload 5, 2) := by decide +kernel
theorem dX4_turn_54 : decode cX4_turn 54 = .ok (.freturn, 1) := by decide +kernel
set_option maxRecDepth 20000 in
theorem ggX4_nearestLatitude_X4_missAt : GoodIn wsX4_nearestLatitude wsX4_missAt := goodIn_r _ [4, 5, 6, 7, 3, 8, 9, 10, 11] (by decide +kernel) (by decide +kernel)
set_option maxRecDepth 20000 in
theorem gX4_nearestLatitude_X4_missAt : GoodIn wsX4_nearestLatitude (va_wsS RX4 10 yX4_missAt wsX4_missAt) := goodIn_app (goodIn_of _ (by decide +kernel)) ggX4_nearestLatitude_X4_missAt
theorem dX4_nearestLatitude_0 : decode cX4_nearestLatitude 0 = .ok (.bipush (-90), 2) := by decide +kernel
theorem dX4_nearestLatitude_2 : decode cX4_nearestLatitude 2 = .ok (.istore_n 1, 1) := by decide +kernel
theorem dX4_nearestLatitude_3 : decode cX4_nearestLatitude 3 = .ok (.bipush (-90), 2) := by decide +kernel
theorem dX4_nearestLatitude_5 : decode cX4_nearestLatitude 5 = .ok (.fload_n 0, 1) := by decide +kernel
theorem dX4_nearestLatitude_6 : decode cX4_nearestLatitude 6 = .ok (.invokestatic 10, 3) := by decide +kernel
theorem dX4_nearestLatitude_9 : decode cX4_nearestLatitude 9 = .ok (.fstore_n 2, 1) := by decide +kernel
theorem dX4_nearestLatitude_10 : decode cX4_nearestLatitude 10 = .ok (.bipush (-89), 2) := by decide +kernel
theorem dX4_nearestLatitude_12 : decode cX4_nearestLatitude 12 = .ok (.istore_n 3, 1) := by decide +kernel
theorem dX4_nearestLatitude_13 : decode cX4_nearestLatitude 13 = .ok (.iload_n 3, 1) := by decide +kernel
theorem dX4_nearestLatitude_14 : decode cX4_nearestLatitude 14 = .ok (.bipush 90, 2) := by decide +kernel
theorem dX4_nearestLatitude_16 : decode cX4_nearestLatitude 16 = .ok (.if_icmp .gt 28, 3) := by decide +kernel
theorem dX4_nearestLatitude_19 : decode cX4_nearestLatitude 19 = .ok (.iload_n 3, 1) := by decide +kernel
theorem dX4_nearestLatitude_20 : decode cX4_nearestLatitude 20 = .ok (.fload_n 0, 1) := by decide +kernel
theorem dX4_nearestLatitude_21 : decode cX4_nearestLatitude 21 = .ok (.invokestatic 10, 3) := by decide +kernel
theorem dX4_nearestLatitude_24 : decode cX4_nearestLatitude 24 = .ok (.fstore 4, 2) := by decide +kernel
theorem dX4_nearestLatitude_26 : decode cX4_nearestLatitude 26 = .ok (.fload 4, 2) := by decide +kernel
theorem dX4_nearestLatitude_28 : decode cX4_nearestLatitude 28 = .ok (.fload_n 2, 1) := by decide +kernel
theorem dX4_nearestLatitude_29 : decode cX4_nearestLatitude 29 = .ok (.fcmp .g, 1) := by decide +kernel
theorem dX4_nearestLatitude_30 : decode cX4_nearestLatitude 30 = .ok (.ifCond .ge 8, 3) := by decide +kernel
theorem dX4_nearestLatitude_33 : decode cX4_nearestLatitude 33 = .ok (.fload 4, 2) := by decide +kernel
theorem dX4_nearestLatitude_35 : decode cX4_nearestLatitude 35 = .ok (.fstore_n 2, 1) := by decide +kernel
theorem dX4_nearestLatitude_36 : decode cX4_nearestLatitude 36 = .ok (.iload_n 3, 1) := by decide +kernel
theorem dX4_nearestLatitude_37 : decode cX4_nearestLatitude 37 = .ok (.istore_n 1, 1) := by decide +kernel
theorem dX4_nearestLatitude_38 : decode cX4_nearestLatitude 38 = .ok (.iinc 3 1, 3) := by decide +kernel
theorem dX4_nearestLatitude_41 : decode cX4_nearestLatitude 41 = .ok (.goto (-28), 3) := by decide +kernel
theorem dX4_nearestLatitude_44 : decode cX4_nearestLatitude 44 = .ok (.iload_n 1, 1) := by decide +kernel
theorem dX4_nearestLatitude_45 : decode cX4_nearestLatitude 45 = .ok (.ireturn, 1) := by decide +kernel
set_option maxRecDepth 20000 in
theorem ggX4_missAt_X4_turn : GoodIn wsX4_missAt wsX4_turn := goodIn_r _ [5, 6, 7, 8] (by decide +kernel) (by decide +kernel)
set_option maxRecDepth 20000 in
theorem gX4_missAt_X4_turn : GoodIn wsX4_missAt (va_wsS RX4 16 yX4_turn wsX4_turn) := goodIn_app (goodIn_of _ (by decide +kernel)) ggX4_missAt_X4_turn
theorem dX4_missAt_0 : decode cX4_missAt 0 = .ok (.iload_n 0, 1) := by decide +kernel
theorem dX4_missAt_1 : decode cX4_missAt 1 = .ok (.bipush 60, 2) := by decide +kernel
theorem dX4_missAt_3 : decode cX4_missAt 3 = .ok (.invokestatic 16, 3) := by decide +kernel
theorem dX4_missAt_6 : decode cX4_missAt 6 = .ok (.ldc 20, 2) := by decide +kernel
theorem dX4_missAt_8 : decode cX4_missAt 8 = .ok (.fmul, 1) := by decide +kernel
theorem dX4_missAt_9 : decode cX4_missAt 9 = .ok (.fload_n 1, 1) := by decide +kernel
theorem dX4_missAt_10 : decode cX4_missAt 10 = .ok (.fsub, 1) := by decide +kernel
theorem dX4_missAt_11 : decode cX4_missAt 11 = .ok (.fstore_n 2, 1) := by decide +kernel
theorem dX4_missAt_12 : decode cX4_missAt 12 = .ok (.fload_n 2, 1) := by decide +kernel
theorem dX4_missAt_13 : decode cX4_missAt 13 = .ok (.fconst 0, 1) := by decide +kernel
theorem dX4_missAt_14 : decode cX4_missAt 14 = .ok (.fcmp .g, 1) := by decide +kernel
theorem dX4_missAt_15 : decode cX4_missAt 15 = .ok (.ifCond .ge 9, 3) := by decide +kernel
theorem dX4_missAt_18 : decode cX4_missAt 18 = .ok (.fconst 0, 1) := by decide +kernel
theorem dX4_missAt_19 : decode cX4_missAt 19 = .ok (.fload_n 2, 1) := by decide +kernel
theorem dX4_missAt_20 : decode cX4_missAt 20 = .ok (.fsub, 1) := by decide +kernel
theorem dX4_missAt_21 : decode cX4_missAt 21 = .ok (.goto 4, 3) := by decide +kernel
theorem dX4_missAt_24 : decode cX4_missAt 24 = .ok (.fload_n 2, 1) := by decide +kernel
theorem dX4_missAt_25 : decode cX4_missAt 25 = .ok (.freturn, 1) := by decide +kernel
theorem dX5_init_0 : decode cX5_init 0 = .ok (.aload_n 0, 1) := by decide +kernel
theorem dX5_init_1 : decode cX5_init 1 = .ok (.invokespecial 3, 3) := by decide +kernel
theorem dX5_init_4 : decode cX5_init 4 = .ok (.aload_n 0, 1) := by decide +kernel
theorem dX5_init_5 : decode cX5_init 5 = .ok (.bipush 12, 2) := by decide +kernel
theorem dX5_init_7 : decode cX5_init 7 = .ok (.newarray .int, 2) := by decide +kernel
theorem dX5_init_9 : decode cX5_init 9 = .ok (.putfield 11, 3) := by decide +kernel
theorem dX5_init_12 : decode cX5_init 12 = .ok (.aload_n 0, 1) := by decide +kernel
theorem dX5_init_13 : decode cX5_init 13 = .ok (.bipush 12, 2) := by decide +kernel
theorem dX5_init_15 : decode cX5_init 15 = .ok (.newarray .int, 2) := by decide +kernel
theorem dX5_init_17 : decode cX5_init 17 = .ok (.putfield 15, 3) := by decide +kernel
theorem dX5_init_20 : decode cX5_init 20 = .ok (.aload_n 0, 1) := by decide +kernel
theorem dX5_init_21 : decode cX5_init 21 = .ok (.bipush 12, 2) := by decide +kernel
theorem dX5_init_23 : decode cX5_init 23 = .ok (.newarray .int, 2) := by decide +kernel
theorem dX5_init_25 : decode cX5_init 25 = .ok (.putfield 18, 3) := by decide +kernel
theorem dX5_init_28 : decode cX5_init 28 = .ok (.aload_n 0, 1) := by decide +kernel
theorem dX5_init_29 : decode cX5_init 29 = .ok (.bipush 100, 2) := by decide +kernel
theorem dX5_init_31 : decode cX5_init 31 = .ok (.newarray .int, 2) := by decide +kernel
theorem dX5_init_33 : decode cX5_init 33 = .ok (.putfield 21, 3) := by decide +kernel
theorem dX5_init_36 : decode cX5_init 36 = .ok (.aload_n 0, 1) := by decide +kernel
theorem dX5_init_37 : decode cX5_init 37 = .ok (.bipush 100, 2) := by decide +kernel
theorem dX5_init_39 : decode cX5_init 39 = .ok (.newarray .boolean, 2) := by decide +kernel
theorem dX5_init_41 : decode cX5_init 41 = .ok (.putfield 24, 3) := by decide +kernel
theorem dX5_init_44 : decode cX5_init 44 = .ok (.aload_n 0, 1) := by decide +kernel
theorem dX5_init_45 : decode cX5_init 45 = .ok (.bipush 10, 2) := by decide +kernel
theorem dX5_init_47 : decode cX5_init 47 = .ok (.newarray .int, 2) := by decide +kernel
theorem dX5_init_49 : decode cX5_init 49 = .ok (.putfield 28, 3) := by decide +kernel
theorem dX5_init_52 : decode cX5_init 52 = .ok (.return_, 1) := by decide +kernel
theorem dX5_moveDatum_0 : decode cX5_moveDatum 0 = .ok (.aload_n 0, 1) := by decide +kernel
theorem dX5_moveDatum_1 : decode cX5_moveDatum 1 = .ok (.iload_n 1, 1) := by decide +kernel
theorem dX5_moveDatum_2 : decode cX5_moveDatum 2 = .ok (.putfield 31, 3) := by decide +kernel
theorem dX5_moveDatum_5 : decode cX5_moveDatum 5 = .ok (.aload_n 0, 1) := by decide +kernel
theorem dX5_moveDatum_6 : decode cX5_moveDatum 6 = .ok (.iload_n 2, 1) := by decide +kernel
theorem dX5_moveDatum_7 : decode cX5_moveDatum 7 = .ok (.putfield 35, 3) := by decide +kernel
theorem dX5_moveDatum_10 : decode cX5_moveDatum 10 = .ok (.return_, 1) := by decide +kernel
theorem dX5_readingCount_0 : decode cX5_readingCount 0 = .ok (.aload_n 0, 1) := by decide +kernel
theorem dX5_readingCount_1 : decode cX5_readingCount 1 = .ok (.getfield 38, 3) := by decide +kernel
theorem dX5_readingCount_4 : decode cX5_readingCount 4 = .ok (.ireturn, 1) := by decide +kernel
theorem dX5_isFull_0 : decode cX5_isFull 0 = .ok (.aload_n 0, 1) := by decide +kernel
theorem dX5_isFull_1 : decode cX5_isFull 1 = .ok (.getfield 38, 3) := by decide +kernel
theorem dX5_isFull_4 : decode cX5_isFull 4 = .ok (.bipush 12, 2) := by decide +kernel
theorem dX5_isFull_6 : decode cX5_isFull 6 = .ok (.if_icmp .lt 7, 3) := by decide +kernel
theorem dX5_isFull_9 : decode cX5_isFull 9 = .ok (.iconst 1, 1) := by decide +kernel
theorem dX5_isFull_10 : decode cX5_isFull 10 = .ok (.goto 4, 3) := by decide +kernel
theorem dX5_isFull_13 : decode cX5_isFull 13 = .ok (.iconst 0, 1) := by decide +kernel
theorem dX5_isFull_14 : decode cX5_isFull 14 = .ok (.ireturn, 1) := by decide +kernel
theorem dX5_isLater_0 : decode cX5_isLater 0 = .ok (.aload_n 0, 1) := by decide +kernel
theorem dX5_isLater_1 : decode cX5_isLater 1 = .ok (.getfield 38, 3) := by decide +kernel
theorem dX5_isLater_4 : decode cX5_isLater 4 = .ok (.ifCond .eq 18, 3) := by decide +kernel
theorem dX5_isLater_7 : decode cX5_isLater 7 = .ok (.iload_n 1, 1) := by decide +kernel
theorem dX5_isLater_8 : decode cX5_isLater 8 = .ok (.aload_n 0, 1) := by decide +kernel
theorem dX5_isLater_9 : decode cX5_isLater 9 = .ok (.getfield 15, 3) := by decide +kernel
theorem dX5_isLater_12 : decode cX5_isLater 12 = .ok (.aload_n 0, 1) := by decide +kernel
theorem dX5_isLater_13 : decode cX5_isLater 13 = .ok (.getfield 38, 3) := by decide +kernel
theorem dX5_isLater_16 : decode cX5_isLater 16 = .ok (.iconst 1, 1) := by decide +kernel
theorem dX5_isLater_17 : decode cX5_isLater 17 = .ok (.isub, 1) := by decide +kernel
theorem dX5_isLater_18 : decode cX5_isLater 18 = .ok (.iaload, 1) := by decide +kernel
theorem dX5_isLater_19 : decode cX5_isLater 19 = .ok (.if_icmp .le 7, 3) := by decide +kernel
theorem dX5_isLater_22 : decode cX5_isLater 22 = .ok (.iconst 1, 1) := by decide +kernel
theorem dX5_isLater_23 : decode cX5_isLater 23 = .ok (.goto 4, 3) := by decide +kernel
theorem dX5_isLater_26 : decode cX5_isLater 26 = .ok (.iconst 0, 1) := by decide +kernel
theorem dX5_isLater_27 : decode cX5_isLater 27 = .ok (.ireturn, 1) := by decide +kernel
theorem dX5_add_0 : decode cX5_add 0 = .ok (.aload_n 0, 1) := by decide +kernel
theorem dX5_add_1 : decode cX5_add 1 = .ok (.getfield 11, 3) := by decide +kernel
theorem dX5_add_4 : decode cX5_add 4 = .ok (.aload_n 0, 1) := by decide +kernel
theorem dX5_add_5 : decode cX5_add 5 = .ok (.getfield 38, 3) := by decide +kernel
theorem dX5_add_8 : decode cX5_add 8 = .ok (.iload_n 1, 1) := by decide +kernel
theorem dX5_add_9 : decode cX5_add 9 = .ok (.iastore, 1) := by decide +kernel
theorem dX5_add_10 : decode cX5_add 10 = .ok (.aload_n 0, 1) := by decide +kernel
theorem dX5_add_11 : decode cX5_add 11 = .ok (.getfield 15, 3) := by decide +kernel
theorem dX5_add_14 : decode cX5_add 14 = .ok (.aload_n 0, 1) := by decide +kernel
theorem dX5_add_15 : decode cX5_add 15 = .ok (.getfield 38, 3) := by decide +kernel
theorem dX5_add_18 : decode cX5_add 18 = .ok (.iload_n 2, 1) := by decide +kernel
theorem dX5_add_19 : decode cX5_add 19 = .ok (.iastore, 1) := by decide +kernel
theorem dX5_add_20 : decode cX5_add 20 = .ok (.aload_n 0, 1) := by decide +kernel
theorem dX5_add_21 : decode cX5_add 21 = .ok (.getfield 18, 3) := by decide +kernel
theorem dX5_add_24 : decode cX5_add 24 = .ok (.aload_n 0, 1) := by decide +kernel
theorem dX5_add_25 : decode cX5_add 25 = .ok (.getfield 38, 3) := by decide +kernel
theorem dX5_add_28 : decode cX5_add 28 = .ok (.iload_n 3, 1) := by decide +kernel
theorem dX5_add_29 : decode cX5_add 29 = .ok (.iastore, 1) := by decide +kernel
theorem dX5_add_30 : decode cX5_add 30 = .ok (.aload_n 0, 1) := by decide +kernel
theorem dX5_add_31 : decode cX5_add 31 = .ok (.dup, 1) := by decide +kernel
theorem dX5_add_32 : decode cX5_add 32 = .ok (.getfield 38, 3) := by decide +kernel
theorem dX5_add_35 : decode cX5_add 35 = .ok (.iconst 1, 1) := by decide +kernel
theorem dX5_add_36 : decode cX5_add 36 = .ok (.iadd, 1) := by decide +kernel
theorem dX5_add_37 : decode cX5_add 37 = .ok (.putfield 38, 3) := by decide +kernel
theorem dX5_add_40 : decode cX5_add 40 = .ok (.aload_n 0, 1) := by decide +kernel
theorem dX5_add_41 : decode cX5_add 41 = .ok (.getfield 38, 3) := by decide +kernel
theorem dX5_add_44 : decode cX5_add 44 = .ok (.ireturn, 1) := by decide +kernel
theorem dX5_dropReadings_0 : decode cX5_dropReadings 0 = .ok (.aload_n 0, 1) := by decide +kernel
theorem dX5_dropReadings_1 : decode cX5_dropReadings 1 = .ok (.getfield 38, 3) := by decide +kernel
theorem dX5_dropReadings_4 : decode cX5_dropReadings 4 = .ok (.istore_n 1, 1) := by decide +kernel
theorem dX5_dropReadings_5 : decode cX5_dropReadings 5 = .ok (.aload_n 0, 1) := by decide +kernel
theorem dX5_dropReadings_6 : decode cX5_dropReadings 6 = .ok (.iconst 0, 1) := by decide +kernel
theorem dX5_dropReadings_7 : decode cX5_dropReadings 7 = .ok (.putfield 38, 3) := by decide +kernel
theorem dX5_dropReadings_10 : decode cX5_dropReadings 10 = .ok (.iload_n 1, 1) := by decide +kernel
theorem dX5_dropReadings_11 : decode cX5_dropReadings 11 = .ok (.ireturn, 1) := by decide +kernel
theorem dX5_canClose_0 : decode cX5_canClose 0 = .ok (.aload_n 0, 1) := by decide +kernel
theorem dX5_canClose_1 : decode cX5_canClose 1 = .ok (.getfield 38, 3) := by decide +kernel
theorem dX5_canClose_4 : decode cX5_canClose 4 = .ok (.iconst 3, 1) := by decide +kernel
theorem dX5_canClose_5 : decode cX5_canClose 5 = .ok (.if_icmp .lt 43, 3) := by decide +kernel
theorem dX5_canClose_8 : decode cX5_canClose 8 = .ok (.aload_n 0, 1) := by decide +kernel
theorem dX5_canClose_9 : decode cX5_canClose 9 = .ok (.getfield 11, 3) := by decide +kernel
theorem dX5_canClose_12 : decode cX5_canClose 12 = .ok (.aload_n 0, 1) := by decide +kernel
theorem dX5_canClose_13 : decode cX5_canClose 13 = .ok (.getfield 38, 3) := by decide +kernel
theorem dX5_canClose_16 : decode cX5_canClose 16 = .ok (.iconst 1, 1) := by decide +kernel
theorem dX5_canClose_17 : decode cX5_canClose 17 = .ok (.isub, 1) := by decide +kernel
theorem dX5_canClose_18 : decode cX5_canClose 18 = .ok (.iaload, 1) := by decide +kernel
theorem dX5_canClose_19 : decode cX5_canClose 19 = .ok (.aload_n 0, 1) := by decide +kernel
theorem dX5_canClose_20 : decode cX5_canClose 20 = .ok (.getfield 11, 3) := by decide +kernel
theorem dX5_canClose_23 : decode cX5_canClose 23 = .ok (.iconst 0, 1) := by decide +kernel
theorem dX5_canClose_24 : decode cX5_canClose 24 = .ok (.iaload, 1) := by decide +kernel
theorem dX5_canClose_25 : decode cX5_canClose 25 = .ok (.if_icmp .ne 23, 3) := by decide +kernel
theorem dX5_canClose_28 : decode cX5_canClose 28 = .ok (.aload_n 0, 1) := by decide +kernel
theorem dX5_canClose_29 : decode cX5_canClose 29 = .ok (.getfield 15, 3) := by decide +kernel
theorem dX5_canClose_32 : decode cX5_canClose 32 = .ok (.aload_n 0, 1) := by decide +kernel
theorem dX5_canClose_33 : decode cX5_canClose 33 = .ok (.getfield 38, 3) := by decide +kernel
theorem dX5_canClose_36 : decode cX5_canClose 36 = .ok (.iconst 1, 1) := by decide +kernel
theorem dX5_canClose_37 : decode cX5_canClose 37 = .ok (.isub, 1) := by decide +kernel
theorem dX5_canClose_38 : decode cX5_canClose 38 = .ok (.iaload, 1) := by decide +kernel
theorem dX5_canClose_39 : decode cX5_canClose 39 = .ok (.aload_n 0, 1) := by decide +kernel
theorem dX5_canClose_40 : decode cX5_canClose 40 = .ok (.getfield 15, 3) := by decide +kernel
theorem dX5_canClose_43 : decode cX5_canClose 43 = .ok (.iconst 0, 1) := by decide +kernel
theorem dX5_canClose_44 : decode cX5_canClose 44 = .ok (.iaload, 1) := by decide +kernel
theorem dX5_canClose_45 : decode cX5_canClose 45 = .ok (.if_icmp .gt 5, 3) := by decide +kernel
theorem dX5_canClose_48 : decode cX5_canClose 48 = .ok (.iconst 0, 1) := by decide +kernel
theorem dX5_canClose_49 : decode cX5_canClose 49 = .ok (.ireturn, 1) := by decide +kernel
theorem dX5_canClose_50 : decode cX5_canClose 50 = .ok (.iconst 1, 1) := by decide +kernel
theorem dX5_canClose_51 : decode cX5_canClose 51 = .ok (.istore_n 1, 1) := by decide +kernel
theorem dX5_canClose_52 : decode cX5_canClose 52 = .ok (.iload_n 1, 1) := by decide +kernel
theorem dX5_canClose_53 : decode cX5_canClose 53 = .ok (.aload_n 0, 1) := by decide +kernel
theorem dX5_canClose_54 : decode cX5_canClose 54 = .ok (.getfield 38, 3) := by decide +kernel
theorem dX5_canClose_57 : decode cX5_canClose 57 = .ok (.if_icmp .ge 28, 3) := by decide +kernel
theorem dX5_canClose_60 : decode cX5_canClose 60 = .ok (.aload_n 0, 1) := by decide +kernel
theorem dX5_canClose_61 : decode cX5_canClose 61 = .ok (.getfield 11, 3) := by decide +kernel
theorem dX5_canClose_64 : decode cX5_canClose 64 = .ok (.iload_n 1, 1) := by decide +kernel
theorem dX5_canClose_65 : decode cX5_canClose 65 = .ok (.iaload, 1) := by decide +kernel
theorem dX5_canClose_66 : decode cX5_canClose 66 = .ok (.aload_n 0, 1) := by decide +kernel
theorem dX5_canClose_67 : decode cX5_canClose 67 = .ok (.getfield 11, 3) := by decide +kernel
theorem dX5_canClose_70 : decode cX5_canClose 70 = .ok (.iload_n 1, 1) := by decide +kernel
theorem dX5_canClose_71 : decode cX5_canClose 71 = .ok (.iconst 1, 1) := by decide +kernel
theorem dX5_canClose_72 : decode cX5_canClose 72 = .ok (.isub, 1) := by decide +kernel
theorem dX5_canClose_73 : decode cX5_canClose 73 = .ok (.iaload, 1) := by decide +kernel
theorem dX5_canClose_74 : decode cX5_canClose 74 = .ok (.if_icmp .ne 5, 3) := by decide +kernel
theorem dX5_canClose_77 : decode cX5_canClose 77 = .ok (.iconst 0, 1) := by decide +kernel
theorem dX5_canClose_78 : decode cX5_canClose 78 = .ok (.ireturn, 1) := by decide +kernel
theorem dX5_canClose_79 : decode cX5_canClose 79 = .ok (.iinc 1 1, 3) := by decide +kernel
theorem dX5_canClose_82 : decode cX5_canClose 82 = .ok (.goto (-30), 3) := by decide +kernel
theorem dX5_canClose_85 : decode cX5_canClose 85 = .ok (.iconst 1, 1) := by decide +kernel
theorem dX5_canClose_86 : decode cX5_canClose 86 = .ok (.ireturn, 1) := by decide +kernel
set_option maxRecDepth 20000 in
theorem ggX5_tellTies_X5_driftBy : GoodIn wsX5_tellTies wsX5_driftBy := goodIn_r _ [8, 9, 10, 11, 12] (by decide +kernel) (by decide +kernel)
set_option maxRecDepth 20000 in
theorem gX5_tellTies_X5_driftBy : GoodIn wsX5_tellTies (va_wsS RX5 41 yX5_driftBy wsX5_driftBy) := goodIn_app (goodIn_of _ (by decide +kernel)) ggX5_tellTies_X5_driftBy
set_option maxRecDepth 20000 in
theorem ggX5_tellTies_X5_putTie : GoodIn wsX5_tellTies wsX5_putTie := goodIn_r _ [16, 17, 18, 19, 20, 7, 21, 22, 23, 24, 25, 26, 27, 28, 29, 30] (by decide +kernel) (by decide +kernel)
set_option maxRecDepth 20000 in
theorem gX5_tellTies_X5_putTie : GoodIn wsX5_tellTies (wsV RX5 45 RX5 yX5_putTie wsX5_putTie) := goodIn_app (goodIn_of _ (by decide +kernel)) ggX5_tellTies_X5_putTie
theorem dX5_tellTies_0 : decode cX5_tellTies 0 = .ok (.aload_n 0, 1) := by decide +kernel
theorem dX5_tellTies_1 : decode cX5_tellTies 1 = .ok (.getfield 38, 3) := by decide +kernel
theorem dX5_tellTies_4 : decode cX5_tellTies 4 = .ok (.iconst 1, 1) := by decide +kernel
theorem dX5_tellTies_5 : decode cX5_tellTies 5 = .ok (.isub, 1) := by decide +kernel
theorem dX5_tellTies_6 : decode cX5_tellTies 6 = .ok (.istore_n 1, 1) := by decide +kernel
theorem dX5_tellTies_7 : decode cX5_tellTies 7 = .ok (.aload_n 0, 1) := by decide +kernel
theorem dX5_tellTies_8 : decode cX5_tellTies 8 = .ok (.getfield 18, 3) := by decide +kernel
theorem dX5_tellTies_11 : decode cX5_tellTies 11 = .ok (.iload_n 1, 1) := by decide +kernel
theorem dX5_tellTies_12 : decode cX5_tellTies 12 = .ok (.iaload, 1) := by decide +kernel
theorem dX5_tellTies_13 : decode cX5_tellTies 13 = .ok (.i2l, 1) := by decide +kernel
theorem dX5_tellTies_14 : decode cX5_tellTies 14 = .ok (.aload_n 0, 1) := by decide +kernel
theorem dX5_tellTies_15 : decode cX5_tellTies 15 = .ok (.getfield 18, 3) := by decide +kernel
theorem dX5_tellTies_18 : decode cX5_tellTies 18 = .ok (.iconst 0, 1) := by decide +kernel
theorem dX5_tellTies_19 : decode cX5_tellTies 19 = .ok (.iaload, 1) := by decide +kernel
theorem dX5_tellTies_20 : decode cX5_tellTies 20 = .ok (.i2l, 1) := by decide +kernel
theorem dX5_tellTies_21 : decode cX5_tellTies 21 = .ok (.lsub, 1) := by decide +kernel
theorem dX5_tellTies_22 : decode cX5_tellTies 22 = .ok (.lstore_n 2, 1) := by decide +kernel
theorem dX5_tellTies_23 : decode cX5_tellTies 23 = .ok (.aload_n 0, 1) := by decide +kernel
theorem dX5_tellTies_24 : decode cX5_tellTies 24 = .ok (.getfield 15, 3) := by decide +kernel
theorem dX5_tellTies_27 : decode cX5_tellTies 27 = .ok (.iload_n 1, 1) := by decide +kernel
theorem dX5_tellTies_28 : decode cX5_tellTies 28 = .ok (.iaload, 1) := by decide +kernel
theorem dX5_tellTies_29 : decode cX5_tellTies 29 = .ok (.i2l, 1) := by decide +kernel
theorem dX5_tellTies_30 : decode cX5_tellTies 30 = .ok (.aload_n 0, 1) := by decide +kernel
theorem dX5_tellTies_31 : decode cX5_tellTies 31 = .ok (.getfield 15, 3) := by decide +kernel
theorem dX5_tellTies_34 : decode cX5_tellTies 34 = .ok (.iconst 0, 1) := by decide +kernel
theorem dX5_tellTies_35 : decode cX5_tellTies 35 = .ok (.iaload, 1) := by decide +kernel
theorem dX5_tellTies_36 : decode cX5_tellTies 36 = .ok (.i2l, 1) := by decide +kernel
theorem dX5_tellTies_37 : decode cX5_tellTies 37 = .ok (.lsub, 1) := by decide +kernel
theorem dX5_tellTies_38 : decode cX5_tellTies 38 = .ok (.lstore 4, 2) := by decide +kernel
theorem dX5_tellTies_40 : decode cX5_tellTies 40 = .ok (.aload_n 0, 1) := by decide +kernel
theorem dX5_tellTies_41 : decode cX5_tellTies 41 = .ok (.getfield 18, 3) := by decide +kernel
theorem dX5_tellTies_44 : decode cX5_tellTies 44 = .ok (.iconst 0, 1) := by decide +kernel
theorem dX5_tellTies_45 : decode cX5_tellTies 45 = .ok (.iaload, 1) := by decide +kernel
theorem dX5_tellTies_46 : decode cX5_tellTies 46 = .ok (.istore 6, 2) := by decide +kernel
theorem dX5_tellTies_48 : decode cX5_tellTies 48 = .ok (.iconst 1, 1) := by decide +kernel
theorem dX5_tellTies_49 : decode cX5_tellTies 49 = .ok (.istore 7, 2) := by decide +kernel
theorem dX5_tellTies_51 : decode cX5_tellTies 51 = .ok (.iload 7, 2) := by decide +kernel
theorem dX5_tellTies_53 : decode cX5_tellTies 53 = .ok (.iload_n 1, 1) := by decide +kernel
theorem dX5_tellTies_54 : decode cX5_tellTies 54 = .ok (.if_icmp .gt 69, 3) := by decide +kernel
theorem dX5_tellTies_57 : decode cX5_tellTies 57 = .ok (.aload_n 0, 1) := by decide +kernel
theorem dX5_tellTies_58 : decode cX5_tellTies 58 = .ok (.getfield 18, 3) := by decide +kernel
theorem dX5_tellTies_61 : decode cX5_tellTies 61 = .ok (.iload 7, 2) := by decide +kernel
theorem dX5_tellTies_63 : decode cX5_tellTies 63 = .ok (.iaload, 1) := by decide +kernel
theorem dX5_tellTies_64 : decode cX5_tellTies 64 = .ok (.lload_n 2, 1) := by decide +kernel
theorem dX5_tellTies_65 : decode cX5_tellTies 65 = .ok (.aload_n 0, 1) := by decide +kernel
theorem dX5_tellTies_66 : decode cX5_tellTies 66 = .ok (.getfield 15, 3) := by decide +kernel
theorem dX5_tellTies_69 : decode cX5_tellTies 69 = .ok (.iload 7, 2) := by decide +kernel
theorem dX5_tellTies_71 : decode cX5_tellTies 71 = .ok (.iaload, 1) := by decide +kernel
theorem dX5_tellTies_72 : decode cX5_tellTies 72 = .ok (.aload_n 0, 1) := by decide +kernel
theorem dX5_tellTies_73 : decode cX5_tellTies 73 = .ok (.getfield 15, 3) := by decide +kernel
theorem dX5_tellTies_76 : decode cX5_tellTies 76 = .ok (.iconst 0, 1) := by decide +kernel
theorem dX5_tellTies_77 : decode cX5_tellTies 77 = .ok (.iaload, 1) := by decide +kernel
theorem dX5_tellTies_78 : decode cX5_tellTies 78 = .ok (.isub, 1) := by decide +kernel
theorem dX5_tellTies_79 : decode cX5_tellTies 79 = .ok (.i2l, 1) := by decide +kernel
theorem dX5_tellTies_80 : decode cX5_tellTies 80 = .ok (.lload 4, 2) := by decide +kernel
theorem dX5_tellTies_82 : decode cX5_tellTies 82 = .ok (.invokestatic 41, 3) := by decide +kernel
theorem dX5_tellTies_85 : decode cX5_tellTies 85 = .ok (.isub, 1) := by decide +kernel
theorem dX5_tellTies_86 : decode cX5_tellTies 86 = .ok (.istore 8, 2) := by decide +kernel
theorem dX5_tellTies_88 : decode cX5_tellTies 88 = .ok (.aload_n 0, 1) := by decide +kernel
theorem dX5_tellTies_89 : decode cX5_tellTies 89 = .ok (.aload_n 0, 1) := by decide +kernel
theorem dX5_tellTies_90 : decode cX5_tellTies 90 = .ok (.getfield 11, 3) := by decide +kernel
theorem dX5_tellTies_93 : decode cX5_tellTies 93 = .ok (.iload 7, 2) := by decide +kernel
theorem dX5_tellTies_95 : decode cX5_tellTies 95 = .ok (.iconst 1, 1) := by decide +kernel
theorem dX5_tellTies_96 : decode cX5_tellTies 96 = .ok (.isub, 1) := by decide +kernel
theorem dX5_tellTies_97 : decode cX5_tellTies 97 = .ok (.iaload, 1) := by decide +kernel
theorem dX5_tellTies_98 : decode cX5_tellTies 98 = .ok (.aload_n 0, 1) := by decide +kernel
theorem dX5_tellTies_99 : decode cX5_tellTies 99 = .ok (.getfield 11, 3) := by decide +kernel
theorem dX5_tellTies_102 : decode cX5_tellTies 102 = .ok (.iload 7, 2) := by decide +kernel
theorem dX5_tellTies_104 : decode cX5_tellTies 104 = .ok (.iaload, 1) := by decide +kernel
theorem dX5_tellTies_105 : decode cX5_tellTies 105 = .ok (.iload 8, 2) := by decide +kernel
theorem dX5_tellTies_107 : decode cX5_tellTies 107 = .ok (.iload 6, 2) := by decide +kernel
theorem dX5_tellTies_109 : decode cX5_tellTies 109 = .ok (.isub, 1) := by decide +kernel
theorem dX5_tellTies_110 : decode cX5_tellTies 110 = .ok (.invokevirtual 45, 3) := by decide +kernel
theorem dX5_tellTies_113 : decode cX5_tellTies 113 = .ok (.iload 8, 2) := by decide +kernel
theorem dX5_tellTies_115 : decode cX5_tellTies 115 = .ok (.istore 6, 2) := by decide +kernel
theorem dX5_tellTies_117 : decode cX5_tellTies 117 = .ok (.iinc 7 1, 3) := by decide +kernel
theorem dX5_tellTies_120 : decode cX5_tellTies 120 = .ok (.goto (-69), 3) := by decide +kernel
theorem dX5_tellTies_123 : decode cX5_tellTies 123 = .ok (.aload_n 0, 1) := by decide +kernel
theorem dX5_tellTies_124 : decode cX5_tellTies 124 = .ok (.iconst 0, 1) := by decide +kernel
theorem dX5_tellTies_125 : decode cX5_tellTies 125 = .ok (.putfield 38, 3) := by decide +kernel
theorem dX5_tellTies_128 : decode cX5_tellTies 128 = .ok (.iload_n 1, 1) := by decide +kernel
theorem dX5_tellTies_129 : decode cX5_tellTies 129 = .ok (.ireturn, 1) := by decide +kernel
set_option maxRecDepth 20000 in
theorem ggX5_driftBy_J9_floorDiv_f86c9 : GoodIn wsX5_driftBy wsJ9_floorDiv_f86c9 := goodIn_r _ [4] (by decide +kernel) (by decide +kernel)
set_option maxRecDepth 20000 in
theorem gX5_driftBy_J9_floorDiv_f86c9 : GoodIn wsX5_driftBy (va_wsS RX5 49 yJ9_floorDiv_f86c9 wsJ9_floorDiv_f86c9) := goodIn_app (goodIn_of _ (by decide +kernel)) ggX5_driftBy_J9_floorDiv_f86c9
theorem dX5_driftBy_0 : decode cX5_driftBy 0 = .ok (.lload 4, 2) := by decide +kernel
theorem dX5_driftBy_2 : decode cX5_driftBy 2 = .ok (.lconst 1, 1) := by decide +kernel
theorem dX5_driftBy_3 : decode cX5_driftBy 3 = .ok (.lcmp, 1) := by decide +kernel
theorem dX5_driftBy_4 : decode cX5_driftBy 4 = .ok (.ifCond .ge 7, 3) := by decide +kernel
theorem dX5_driftBy_7 : decode cX5_driftBy 7 = .ok (.iconst 0, 1) := by decide +kernel
theorem dX5_driftBy_8 : decode cX5_driftBy 8 = .ok (.goto 12, 3) := by decide +kernel
theorem dX5_driftBy_11 : decode cX5_driftBy 11 = .ok (.lload_n 0, 1) := by decide +kernel
theorem dX5_driftBy_12 : decode cX5_driftBy 12 = .ok (.lload_n 2, 1) := by decide +kernel
theorem dX5_driftBy_13 : decode cX5_driftBy 13 = .ok (.lmul, 1) := by decide +kernel
theorem dX5_driftBy_14 : decode cX5_driftBy 14 = .ok (.lload 4, 2) := by decide +kernel
theorem dX5_driftBy_16 : decode cX5_driftBy 16 = .ok (.invokestatic 49, 3) := by decide +kernel
theorem dX5_driftBy_19 : decode cX5_driftBy 19 = .ok (.l2i, 1) := by decide +kernel
theorem dX5_driftBy_20 : decode cX5_driftBy 20 = .ok (.ireturn, 1) := by decide +kernel
set_option maxRecDepth 20000 in
theorem ggX5_putTie_X5_way : GoodIn wsX5_putTie wsX5_way := goodIn_r _ [6] (by decide +kernel) (by decide +kernel)
set_option maxRecDepth 20000 in
theorem gX5_putTie_X5_way : GoodIn wsX5_putTie (va_wsS RX5 55 yX5_way wsX5_way) := goodIn_app (goodIn_of _ (by decide +kernel)) ggX5_putTie_X5_way
theorem dX5_putTie_0 : decode cX5_putTie 0 = .ok (.aload_n 0, 1) := by decide +kernel
theorem dX5_putTie_1 : decode cX5_putTie 1 = .ok (.getfield 21, 3) := by decide +kernel
theorem dX5_putTie_4 : decode cX5_putTie 4 = .ok (.iload_n 1, 1) := by decide +kernel
theorem dX5_putTie_5 : decode cX5_putTie 5 = .ok (.iload_n 2, 1) := by decide +kernel
theorem dX5_putTie_6 : decode cX5_putTie 6 = .ok (.invokestatic 55, 3) := by decide +kernel
theorem dX5_putTie_9 : decode cX5_putTie 9 = .ok (.iload_n 3, 1) := by decide +kernel
theorem dX5_putTie_10 : decode cX5_putTie 10 = .ok (.iastore, 1) := by decide +kernel
theorem dX5_putTie_11 : decode cX5_putTie 11 = .ok (.aload_n 0, 1) := by decide +kernel
theorem dX5_putTie_12 : decode cX5_putTie 12 = .ok (.getfield 21, 3) := by decide +kernel
theorem dX5_putTie_15 : decode cX5_putTie 15 = .ok (.iload_n 2, 1) := by decide +kernel
theorem dX5_putTie_16 : decode cX5_putTie 16 = .ok (.iload_n 1, 1) := by decide +kernel
theorem dX5_putTie_17 : decode cX5_putTie 17 = .ok (.invokestatic 55, 3) := by decide +kernel
theorem dX5_putTie_20 : decode cX5_putTie 20 = .ok (.iload_n 3, 1) := by decide +kernel
theorem dX5_putTie_21 : decode cX5_putTie 21 = .ok (.ineg, 1) := by decide +kernel
theorem dX5_putTie_22 : decode cX5_putTie 22 = .ok (.iastore, 1) := by decide +kernel
theorem dX5_putTie_23 : decode cX5_putTie 23 = .ok (.aload_n 0, 1) := by decide +kernel
theorem dX5_putTie_24 : decode cX5_putTie 24 = .ok (.getfield 24, 3) := by decide +kernel
theorem dX5_putTie_27 : decode cX5_putTie 27 = .ok (.iload_n 1, 1) := by decide +kernel
theorem dX5_putTie_28 : decode cX5_putTie 28 = .ok (.iload_n 2, 1) := by decide +kernel
theorem dX5_putTie_29 : decode cX5_putTie 29 = .ok (.invokestatic 55, 3) := by decide +kernel
theorem dX5_putTie_32 : decode cX5_putTie 32 = .ok (.iconst 1, 1) := by decide +kernel
theorem dX5_putTie_33 : decode cX5_putTie 33 = .ok (.bastore, 1) := by decide +kernel
theorem dX5_putTie_34 : decode cX5_putTie 34 = .ok (.aload_n 0, 1) := by decide +kernel
theorem dX5_putTie_35 : decode cX5_putTie 35 = .ok (.getfield 24, 3) := by decide +kernel
theorem dX5_putTie_38 : decode cX5_putTie 38 = .ok (.iload_n 2, 1) := by decide +kernel
theorem dX5_putTie_39 : decode cX5_putTie 39 = .ok (.iload_n 1, 1) := by decide +kernel
theorem dX5_putTie_40 : decode cX5_putTie 40 = .ok (.invokestatic 55, 3) := by decide +kernel
theorem dX5_putTie_43 : decode cX5_putTie 43 = .ok (.iconst 1, 1) := by decide +kernel
theorem dX5_putTie_44 : decode cX5_putTie 44 = .ok (.bastore, 1) := by decide +kernel
theorem dX5_putTie_45 : decode cX5_putTie 45 = .ok (.return_, 1) := by decide +kernel
theorem dX5_way_0 : decode cX5_way 0 = .ok (.iload_n 0, 1) := by decide +kernel
theorem dX5_way_1 : decode cX5_way 1 = .ok (.bipush 10, 2) := by decide +kernel
theorem dX5_way_3 : decode cX5_way 3 = .ok (.imul, 1) := by decide +kernel
theorem dX5_way_4 : decode cX5_way 4 = .ok (.iload_n 1, 1) := by decide +kernel
theorem dX5_way_5 : decode cX5_way 5 = .ok (.iadd, 1) := by decide +kernel
theorem dX5_way_6 : decode cX5_way 6 = .ok (.ireturn, 1) := by decide +kernel
set_option maxRecDepth 20000 in
theorem ggX5_isTied_X5_way : GoodIn wsX5_isTied wsX5_way := goodIn_r _ [5] (by decide +kernel) (by decide +kernel)
set_option maxRecDepth 20000 in
theorem gX5_isTied_X5_way : GoodIn wsX5_isTied (va_wsS RX5 55 yX5_way wsX5_way) := goodIn_app (goodIn_of _ (by decide +kernel)) ggX5_isTied_X5_way
theorem dX5_isTied_0 : decode cX5_isTied 0 = .ok (.aload_n 0, 1) := by decide +kernel
theorem dX5_isTied_1 : decode cX5_isTied 1 = .ok (.getfield 24, 3) := by decide +kernel
theorem dX5_isTied_4 : decode cX5_isTied 4 = .ok (.iload_n 1, 1) := by decide +kernel
theorem dX5_isTied_5 : decode cX5_isTied 5 = .ok (.iload_n 2, 1) := by decide +kernel
theorem dX5_isTied_6 : decode cX5_isTied 6 = .ok (.invokestatic 55, 3) := by decide +kernel
theorem dX5_isTied_9 : decode cX5_isTied 9 = .ok (.baload, 1) := by decide +kernel
theorem dX5_isTied_10 : decode cX5_isTied 10 = .ok (.ireturn, 1) := by decide +kernel
set_option maxRecDepth 20000 in
theorem ggX5_difference_X5_way : GoodIn wsX5_difference wsX5_way := goodIn_r _ [5] (by decide +kernel) (by decide +kernel)
set_option maxRecDepth 20000 in
theorem gX5_difference_X5_way : GoodIn wsX5_difference (va_wsS RX5 55 yX5_way wsX5_way) := goodIn_app (goodIn_of _ (by decide +kernel)) ggX5_difference_X5_way
theorem dX5_difference_0 : decode cX5_difference 0 = .ok (.aload_n 0, 1) := by decide +kernel
theorem dX5_difference_1 : decode cX5_difference 1 = .ok (.getfield 21, 3) := by decide +kernel
theorem dX5_difference_4 : decode cX5_difference 4 = .ok (.iload_n 1, 1) := by decide +kernel
theorem dX5_difference_5 : decode cX5_difference 5 = .ok (.iload_n 2, 1) := by decide +kernel
theorem dX5_difference_6 : decode cX5_difference 6 = .ok (.invokestatic 55, 3) := by decide +kernel
theorem dX5_difference_9 : decode cX5_difference 9 = .ok (.iaload, 1) := by decide +kernel
theorem dX5_difference_10 : decode cX5_difference 10 = .ok (.ireturn, 1) := by decide +kernel
set_option maxRecDepth 20000 in
theorem ggX5_countTiedPairs_X5_isTied : GoodIn wsX5_countTiedPairs wsX5_isTied := goodIn_r _ [5, 6, 7, 8, 4, 9, 10, 11, 12, 13, 14, 15, 16, 17, 18] (by decide +kernel) (by decide +kernel)
set_option maxRecDepth 20000 in
theorem gX5_countTiedPairs_X5_isTied : GoodIn wsX5_countTiedPairs (wsV RX5 59 RX5 yX5_isTied wsX5_isTied) := goodIn_app (goodIn_of _ (by decide +kernel)) ggX5_countTiedPairs_X5_isTied
theorem dX5_countTiedPairs_0 : decode cX5_countTiedPairs 0 = .ok (.iconst 0, 1) := by decide +kernel
theorem dX5_countTiedPairs_1 : decode cX5_countTiedPairs 1 = .ok (.istore_n 1, 1) := by decide +kernel
theorem dX5_countTiedPairs_2 : decode cX5_countTiedPairs 2 = .ok (.iconst 0, 1) := by decide +kernel
theorem dX5_countTiedPairs_3 : decode cX5_countTiedPairs 3 = .ok (.istore_n 2, 1) := by decide +kernel
theorem dX5_countTiedPairs_4 : decode cX5_countTiedPairs 4 = .ok (.iload_n 2, 1) := by decide +kernel
theorem dX5_countTiedPairs_5 : decode cX5_countTiedPairs 5 = .ok (.bipush 10, 2) := by decide +kernel
theorem dX5_countTiedPairs_7 : decode cX5_countTiedPairs 7 = .ok (.if_icmp .ge 37, 3) := by decide +kernel
theorem dX5_countTiedPairs_10 : decode cX5_countTiedPairs 10 = .ok (.iload_n 2, 1) := by decide +kernel
theorem dX5_countTiedPairs_11 : decode cX5_countTiedPairs 11 = .ok (.iconst 1, 1) := by decide +kernel
theorem dX5_countTiedPairs_12 : decode cX5_countTiedPairs 12 = .ok (.iadd, 1) := by decide +kernel
theorem dX5_countTiedPairs_13 : decode cX5_countTiedPairs 13 = .ok (.istore_n 3, 1) := by decide +kernel
theorem dX5_countTiedPairs_14 : decode cX5_countTiedPairs 14 = .ok (.iload_n 3, 1) := by decide +kernel
theorem dX5_countTiedPairs_15 : decode cX5_countTiedPairs 15 = .ok (.bipush 10, 2) := by decide +kernel
theorem dX5_countTiedPairs_17 : decode cX5_countTiedPairs 17 = .ok (.if_icmp .ge 21, 3) := by decide +kernel
theorem dX5_countTiedPairs_20 : decode cX5_countTiedPairs 20 = .ok (.aload_n 0, 1) := by decide +kernel
theorem dX5_countTiedPairs_21 : decode cX5_countTiedPairs 21 = .ok (.iload_n 2, 1) := by decide +kernel
theorem dX5_countTiedPairs_22 : decode cX5_countTiedPairs 22 = .ok (.iload_n 3, 1) := by decide +kernel
theorem dX5_countTiedPairs_23 : decode cX5_countTiedPairs 23 = .ok (.invokevirtual 59, 3) := by decide +kernel
theorem dX5_countTiedPairs_26 : decode cX5_countTiedPairs 26 = .ok (.ifCond .eq 6, 3) := by decide +kernel
theorem dX5_countTiedPairs_29 : decode cX5_countTiedPairs 29 = .ok (.iinc 1 1, 3) := by decide +kernel
theorem dX5_countTiedPairs_32 : decode cX5_countTiedPairs 32 = .ok (.iinc 3 1, 3) := by decide +kernel
theorem dX5_countTiedPairs_35 : decode cX5_countTiedPairs 35 = .ok (.goto (-21), 3) := by decide +kernel
theorem dX5_countTiedPairs_38 : decode cX5_countTiedPairs 38 = .ok (.iinc 2 1, 3) := by decide +kernel
theorem dX5_countTiedPairs_41 : decode cX5_countTiedPairs 41 = .ok (.goto (-37), 3) := by decide +kernel
theorem dX5_countTiedPairs_44 : decode cX5_countTiedPairs 44 = .ok (.iload_n 1, 1) := by decide +kernel
theorem dX5_countTiedPairs_45 : decode cX5_countTiedPairs 45 = .ok (.ireturn, 1) := by decide +kernel
set_option maxRecDepth 20000 in
theorem ggX5_countSteps_J7_fill_53178 : GoodIn wsX5_countSteps wsJ7_fill_53178 := goodIn_r _ [6] (by decide +kernel) (by decide +kernel)
set_option maxRecDepth 20000 in
theorem gX5_countSteps_J7_fill_53178 : GoodIn wsX5_countSteps (va_wsS RX5 63 yJ7_fill_53178 wsJ7_fill_53178) := goodIn_app (goodIn_of _ (by decide +kernel)) ggX5_countSteps_J7_fill_53178
set_option maxRecDepth 20000 in
theorem ggX5_countSteps_X5_reachBeside : GoodIn wsX5_countSteps wsX5_reachBeside := goodIn_r _ [11, 1, 12, 13, 14, 10, 15, 16, 17, 18, 19, 20, 21, 22, 23, 24, 25, 26, 27, 28] (by decide +kernel) (by decide +kernel)
set_option maxRecDepth 20000 in
theorem gX5_countSteps_X5_reachBeside : GoodIn wsX5_countSteps (wsV RX5 69 RX5 yX5_reachBeside wsX5_reachBeside) := goodIn_app (goodIn_of _ (by decide +kernel)) ggX5_countSteps_X5_reachBeside
theorem dX5_countSteps_0 : decode cX5_countSteps 0 = .ok (.aload_n 0, 1) := by decide +kernel
theorem dX5_countSteps_1 : decode cX5_countSteps 1 = .ok (.getfield 28, 3) := by decide +kernel
theorem dX5_countSteps_4 : decode cX5_countSteps 4 = .ok (.iconst (-1), 1) := by decide +kernel
theorem dX5_countSteps_5 : decode cX5_countSteps 5 = .ok (.invokestatic 63, 3) := by decide +kernel
theorem dX5_countSteps_8 : decode cX5_countSteps 8 = .ok (.aload_n 0, 1) := by decide +kernel
theorem dX5_countSteps_9 : decode cX5_countSteps 9 = .ok (.getfield 28, 3) := by decide +kernel
theorem dX5_countSteps_12 : decode cX5_countSteps 12 = .ok (.aload_n 0, 1) := by decide +kernel
theorem dX5_countSteps_13 : decode cX5_countSteps 13 = .ok (.getfield 31, 3) := by decide +kernel
theorem dX5_countSteps_16 : decode cX5_countSteps 16 = .ok (.iconst 0, 1) := by decide +kernel
theorem dX5_countSteps_17 : decode cX5_countSteps 17 = .ok (.iastore, 1) := by decide +kernel
theorem dX5_countSteps_18 : decode cX5_countSteps 18 = .ok (.iconst 0, 1) := by decide +kernel
theorem dX5_countSteps_19 : decode cX5_countSteps 19 = .ok (.istore_n 1, 1) := by decide +kernel
theorem dX5_countSteps_20 : decode cX5_countSteps 20 = .ok (.iload_n 1, 1) := by decide +kernel
theorem dX5_countSteps_21 : decode cX5_countSteps 21 = .ok (.bipush 9, 2) := by decide +kernel
theorem dX5_countSteps_23 : decode cX5_countSteps 23 = .ok (.if_icmp .ge 41, 3) := by decide +kernel
theorem dX5_countSteps_26 : decode cX5_countSteps 26 = .ok (.iconst 0, 1) := by decide +kernel
theorem dX5_countSteps_27 : decode cX5_countSteps 27 = .ok (.istore_n 2, 1) := by decide +kernel
theorem dX5_countSteps_28 : decode cX5_countSteps 28 = .ok (.iload_n 2, 1) := by decide +kernel
theorem dX5_countSteps_29 : decode cX5_countSteps 29 = .ok (.bipush 10, 2) := by decide +kernel
theorem dX5_countSteps_31 : decode cX5_countSteps 31 = .ok (.if_icmp .ge 27, 3) := by decide +kernel
theorem dX5_countSteps_34 : decode cX5_countSteps 34 = .ok (.aload_n 0, 1) := by decide +kernel
theorem dX5_countSteps_35 : decode cX5_countSteps 35 = .ok (.getfield 28, 3) := by decide +kernel
theorem dX5_countSteps_38 : decode cX5_countSteps 38 = .ok (.iload_n 2, 1) := by decide +kernel
theorem dX5_countSteps_39 : decode cX5_countSteps 39 = .ok (.iaload, 1) := by decide +kernel
theorem dX5_countSteps_40 : decode cX5_countSteps 40 = .ok (.iload_n 1, 1) := by decide +kernel
theorem dX5_countSteps_41 : decode cX5_countSteps 41 = .ok (.if_icmp .ne 11, 3) := by decide +kernel
theorem dX5_countSteps_44 : decode cX5_countSteps 44 = .ok (.aload_n 0, 1) := by decide +kernel
theorem dX5_countSteps_45 : decode cX5_countSteps 45 = .ok (.iload_n 2, 1) := by decide +kernel
theorem dX5_countSteps_46 : decode cX5_countSteps 46 = .ok (.iload_n 1, 1) := by decide +kernel
theorem dX5_countSteps_47 : decode cX5_countSteps 47 = .ok (.iconst 1, 1) := by decide +kernel
theorem dX5_countSteps_48 : decode cX5_countSteps 48 = .ok (.iadd, 1) := by decide +kernel
theorem dX5_countSteps_49 : decode cX5_countSteps 49 = .ok (.invokevirtual 69, 3) := by decide +kernel
theorem dX5_countSteps_52 : decode cX5_countSteps 52 = .ok (.iinc 2 1, 3) := by decide +kernel
theorem dX5_countSteps_55 : decode cX5_countSteps 55 = .ok (.goto (-27), 3) := by decide +kernel
theorem dX5_countSteps_58 : decode cX5_countSteps 58 = .ok (.iinc 1 1, 3) := by decide +kernel
theorem dX5_countSteps_61 : decode cX5_countSteps 61 = .ok (.goto (-41), 3) := by decide +kernel
theorem dX5_countSteps_64 : decode cX5_countSteps 64 = .ok (.return_, 1) := by decide +kernel
set_option maxRecDepth 20000 in
theorem ggX5_reachBeside_X5_isTied : GoodIn wsX5_reachBeside wsX5_isTied := goodIn_r _ [6, 7, 8, 9, 5, 10, 11, 12, 13, 14, 15, 16, 17, 18, 19] (by decide +kernel) (by decide +kernel)
set_option maxRecDepth 20000 in
theorem gX5_reachBeside_X5_isTied : GoodIn wsX5_reachBeside (wsV RX5 59 RX5 yX5_isTied wsX5_isTied) := goodIn_app (goodIn_of _ (by decide +kernel)) ggX5_reachBeside_X5_isTied
theorem dX5_reachBeside_0 : decode cX5_reachBeside 0 = .ok (.iconst 0, 1) := by decide +kernel
theorem dX5_reachBeside_1 : decode cX5_reachBeside 1 = .ok (.istore_n 3, 1) := by decide +kernel
theorem dX5_reachBeside_2 : decode cX5_reachBeside 2 = .ok (.iload_n 3, 1) := by decide +kernel
theorem dX5_reachBeside_3 : decode cX5_reachBeside 3 = .ok (.bipush 10, 2) := by decide +kernel
theorem dX5_reachBeside_5 : decode cX5_reachBeside 5 = .ok (.if_icmp .ge 35, 3) := by decide +kernel
theorem dX5_reachBeside_8 : decode cX5_reachBeside 8 = .ok (.aload_n 0, 1) := by decide +kernel
theorem dX5_reachBeside_9 : decode cX5_reachBeside 9 = .ok (.getfield 28, 3) := by decide +kernel
theorem dX5_reachBeside_12 : decode cX5_reachBeside 12 = .ok (.iload_n 3, 1) := by decide +kernel
theorem dX5_reachBeside_13 : decode cX5_reachBeside 13 = .ok (.iaload, 1) := by decide +kernel
theorem dX5_reachBeside_14 : decode cX5_reachBeside 14 = .ok (.iconst (-1), 1) := by decide +kernel
theorem dX5_reachBeside_15 : decode cX5_reachBeside 15 = .ok (.if_icmp .ne 19, 3) := by decide +kernel
theorem dX5_reachBeside_18 : decode cX5_reachBeside 18 = .ok (.aload_n 0, 1) := by decide +kernel
theorem dX5_reachBeside_19 : decode cX5_reachBeside 19 = .ok (.iload_n 1, 1) := by decide +kernel
theorem dX5_reachBeside_20 : decode cX5_reachBeside 20 = .ok (.iload_n 3, 1) := by decide +kernel
theorem dX5_reachBeside_21 : decode cX5_reachBeside 21 = .ok (.invokevirtual 59, 3) := by decide +kernel
theorem dX5_reachBeside_24 : decode cX5_reachBeside 24 = .ok (.ifCond .eq 10, 3) := by decide +kernel
theorem dX5_reachBeside_27 : decode cX5_reachBeside 27 = .ok (.aload_n 0, 1) := by decide +kernel
theorem dX5_reachBeside_28 : decode cX5_reachBeside 28 = .ok (.getfield 28, 3) := by decide +kernel
theorem dX5_reachBeside_31 : decode cX5_reachBeside 31 = .ok (.iload_n 3, 1) := by decide +kernel
theorem dX5_reachBeside_32 : decode cX5_reachBeside 32 = .ok (.iload_n 2, 1) := by decide +kernel
theorem dX5_reachBeside_33 : decode cX5_reachBeside 33 = .ok (.iastore, 1) := by decide +kernel
theorem dX5_reachBeside_34 : decode cX5_reachBeside 34 = .ok (.iinc 3 1, 3) := by decide +kernel
theorem dX5_reachBeside_37 : decode cX5_reachBeside 37 = .ok (.goto (-35), 3) := by decide +kernel
theorem dX5_reachBeside_40 : decode cX5_reachBeside 40 = .ok (.return_, 1) := by decide +kernel
theorem dX5_isReached_0 : decode cX5_isReached 0 = .ok (.aload_n 0, 1) := by decide +kernel
theorem dX5_isReached_1 : decode cX5_isReached 1 = .ok (.getfield 28, 3) := by decide +kernel
theorem dX5_isReached_4 : decode cX5_isReached 4 = .ok (.iload_n 1, 1) := by decide +kernel
theorem dX5_isReached_5 : decode cX5_isReached 5 = .ok (.iaload, 1) := by decide +kernel
theorem dX5_isReached_6 : decode cX5_isReached 6 = .ok (.iconst (-1), 1) := by decide +kernel
theorem dX5_isReached_7 : decode cX5_isReached 7 = .ok (.if_icmp .eq 7, 3) := by decide +kernel
theorem dX5_isReached_10 : decode cX5_isReached 10 = .ok (.iconst 1, 1) := by decide +kernel
theorem dX5_isReached_11 : decode cX5_isReached 11 = .ok (.goto 4, 3) := by decide +kernel
theorem dX5_isReached_14 : decode cX5_isReached 14 = .ok (.iconst 0, 1) := by decide +kernel
theorem dX5_isReached_15 : decode cX5_isReached 15 = .ok (.ireturn, 1) := by decide +kernel
set_option maxRecDepth 20000 in
theorem ggX5_countReached_X5_isReached : GoodIn wsX5_countReached wsX5_isReached := goodIn_r _ [5, 6, 7, 8, 9, 10, 11, 12, 13, 14, 15] (by decide +kernel) (by decide +kernel)
set_option maxRecDepth 20000 in
theorem gX5_countReached_X5_isReached : GoodIn wsX5_countReached (wsV RX5 73 RX5 yX5_isReached wsX5_isReached) := goodIn_app (goodIn_of _ (by decide +kernel)) ggX5_countReached_X5_isReached
theorem dX5_countReached_0 : decode cX5_countReached 0 = .ok (.iconst 0, 1) := by decide +kernel
theorem dX5_countReached_1 : decode cX5_countReached 1 = .ok (.istore_n 1, 1) := by decide +kernel
theorem dX5_countReached_2 : decode cX5_countReached 2 = .ok (.iconst 0, 1) := by decide +kernel
theorem dX5_countReached_3 : decode cX5_countReached 3 = .ok (.istore_n 2, 1) := by decide +kernel
theorem dX5_countReached_4 : decode cX5_countReached 4 = .ok (.iload_n 2, 1) := by decide +kernel
theorem dX5_countReached_5 : decode cX5_countReached 5 = .ok (.bipush 10, 2) := by decide +kernel
theorem dX5_countReached_7 : decode cX5_countReached 7 = .ok (.if_icmp .ge 20, 3) := by decide +kernel
theorem dX5_countReached_10 : decode cX5_countReached 10 = .ok (.aload_n 0, 1) := by decide +kernel
theorem dX5_countReached_11 : decode cX5_countReached 11 = .ok (.iload_n 2, 1) := by decide +kernel
theorem dX5_countReached_12 : decode cX5_countReached 12 = .ok (.invokevirtual 73, 3) := by decide +kernel
theorem dX5_countReached_15 : decode cX5_countReached 15 = .ok (.ifCond .eq 6, 3) := by decide +kernel
theorem dX5_countReached_18 : decode cX5_countReached 18 = .ok (.iinc 1 1, 3) := by decide +kernel
theorem dX5_countReached_21 : decode cX5_countReached 21 = .ok (.iinc 2 1, 3) := by decide +kernel
theorem dX5_countReached_24 : decode cX5_countReached 24 = .ok (.goto (-20), 3) := by decide +kernel
theorem dX5_countReached_27 : decode cX5_countReached 27 = .ok (.iload_n 1, 1) := by decide +kernel
theorem dX5_countReached_28 : decode cX5_countReached 28 = .ok (.ireturn, 1) := by decide +kernel
set_option maxRecDepth 20000 in
theorem ggX5_carry_X5_lowestBeside : GoodIn wsX5_carry wsX5_lowestBeside := goodIn_r _ [7, 2, 8, 9, 10, 6, 11, 12, 13, 14, 15, 21, 22, 23, 24, 25, 26, 27, 28, 29] (by decide +kernel) (by decide +kernel)
set_option maxRecDepth 20000 in
theorem gX5_carry_X5_lowestBeside : GoodIn wsX5_carry (wsV RX5 77 RX5 yX5_lowestBeside wsX5_lowestBeside) := goodIn_app (goodIn_of _ (by decide +kernel)) ggX5_carry_X5_lowestBeside
set_option maxRecDepth 20000 in
theorem ggX5_carry_X5_difference : GoodIn wsX5_carry wsX5_difference := goodIn_r _ [19, 20, 13, 14, 6, 15, 21, 22, 23, 24, 25, 26, 27, 28, 29] (by decide +kernel) (by decide +kernel)
set_option maxRecDepth 20000 in
theorem gX5_carry_X5_difference : GoodIn wsX5_carry (wsV RX5 80 RX5 yX5_difference wsX5_difference) := goodIn_app (goodIn_of _ (by decide +kernel)) ggX5_carry_X5_difference
theorem dX5_carry_0 : decode cX5_carry 0 = .ok (.aload_n 0, 1) := by decide +kernel
theorem dX5_carry_1 : decode cX5_carry 1 = .ok (.getfield 35, 3) := by decide +kernel
theorem dX5_carry_4 : decode cX5_carry 4 = .ok (.i2l, 1) := by decide +kernel
theorem dX5_carry_5 : decode cX5_carry 5 = .ok (.lstore_n 2, 1) := by decide +kernel
theorem dX5_carry_6 : decode cX5_carry 6 = .ok (.iload_n 1, 1) := by decide +kernel
theorem dX5_carry_7 : decode cX5_carry 7 = .ok (.istore 4, 2) := by decide +kernel
theorem dX5_carry_9 : decode cX5_carry 9 = .ok (.aload_n 0, 1) := by decide +kernel
theorem dX5_carry_10 : decode cX5_carry 10 = .ok (.getfield 28, 3) := by decide +kernel
theorem dX5_carry_13 : decode cX5_carry 13 = .ok (.iload_n 1, 1) := by decide +kernel
theorem dX5_carry_14 : decode cX5_carry 14 = .ok (.iaload, 1) := by decide +kernel
theorem dX5_carry_15 : decode cX5_carry 15 = .ok (.istore 5, 2) := by decide +kernel
theorem dX5_carry_17 : decode cX5_carry 17 = .ok (.iload 5, 2) := by decide +kernel
theorem dX5_carry_19 : decode cX5_carry 19 = .ok (.ifCond .le 37, 3) := by decide +kernel
theorem dX5_carry_22 : decode cX5_carry 22 = .ok (.aload_n 0, 1) := by decide +kernel
theorem dX5_carry_23 : decode cX5_carry 23 = .ok (.iload 4, 2) := by decide +kernel
theorem dX5_carry_25 : decode cX5_carry 25 = .ok (.iload 5, 2) := by decide +kernel
theorem dX5_carry_27 : decode cX5_carry 27 = .ok (.iconst 1, 1) := by decide +kernel
theorem dX5_carry_28 : decode cX5_carry 28 = .ok (.isub, 1) := by decide +kernel
theorem dX5_carry_29 : decode cX5_carry 29 = .ok (.invokevirtual 77, 3) := by decide +kernel
theorem dX5_carry_32 : decode cX5_carry 32 = .ok (.istore 6, 2) := by decide +kernel
theorem dX5_carry_34 : decode cX5_carry 34 = .ok (.lload_n 2, 1) := by decide +kernel
theorem dX5_carry_35 : decode cX5_carry 35 = .ok (.aload_n 0, 1) := by decide +kernel
theorem dX5_carry_36 : decode cX5_carry 36 = .ok (.iload 6, 2) := by decide +kernel
theorem dX5_carry_38 : decode cX5_carry 38 = .ok (.iload 4, 2) := by decide +kernel
theorem dX5_carry_40 : decode cX5_carry 40 = .ok (.invokevirtual 80, 3) := by decide +kernel
theorem dX5_carry_43 : decode cX5_carry 43 = .ok (.i2l, 1) := by decide +kernel
theorem dX5_carry_44 : decode cX5_carry 44 = .ok (.ladd, 1) := by decide +kernel
theorem dX5_carry_45 : decode cX5_carry 45 = .ok (.lstore_n 2, 1) := by decide +kernel
theorem dX5_carry_46 : decode cX5_carry 46 = .ok (.iload 6, 2) := by decide +kernel
theorem dX5_carry_48 : decode cX5_carry 48 = .ok (.istore 4, 2) := by decide +kernel
theorem dX5_carry_50 : decode cX5_carry 50 = .ok (.iinc 5 (-1), 3) := by decide +kernel
theorem dX5_carry_53 : decode cX5_carry 53 = .ok (.goto (-36), 3) := by decide +kernel
theorem dX5_carry_56 : decode cX5_carry 56 = .ok (.lload_n 2, 1) := by decide +kernel
theorem dX5_carry_57 : decode cX5_carry 57 = .ok (.lreturn, 1) := by decide +kernel
set_option maxRecDepth 20000 in
theorem ggX5_lowestBeside_X5_isTied : GoodIn wsX5_lowestBeside wsX5_isTied := goodIn_r _ [6, 7, 8, 9, 5, 10, 11, 12, 13, 14, 15, 16, 17, 18, 19] (by decide +kernel) (by decide +kernel)
set_option maxRecDepth 20000 in
theorem gX5_lowestBeside_X5_isTied : GoodIn wsX5_lowestBeside (wsV RX5 59 RX5 yX5_isTied wsX5_isTied) := goodIn_app (goodIn_of _ (by decide +kernel)) ggX5_lowestBeside_X5_isTied
theorem dX5_lowestBeside_0 : decode cX5_lowestBeside 0 = .ok (.iconst 0, 1) := by decide +kernel
theorem dX5_lowestBeside_1 : decode cX5_lowestBeside 1 = .ok (.istore_n 3, 1) := by decide +kernel
theorem dX5_lowestBeside_2 : decode cX5_lowestBeside 2 = .ok (.iload_n 3, 1) := by decide +kernel
theorem dX5_lowestBeside_3 : decode cX5_lowestBeside 3 = .ok (.bipush 10, 2) := by decide +kernel
theorem dX5_lowestBeside_5 : decode cX5_lowestBeside 5 = .ok (.if_icmp .ge 30, 3) := by decide +kernel
theorem dX5_lowestBeside_8 : decode cX5_lowestBeside 8 = .ok (.aload_n 0, 1) := by decide +kernel
theorem dX5_lowestBeside_9 : decode cX5_lowestBeside 9 = .ok (.getfield 28, 3) := by decide +kernel
theorem dX5_lowestBeside_12 : decode cX5_lowestBeside 12 = .ok (.iload_n 3, 1) := by decide +kernel
theorem dX5_lowestBeside_13 : decode cX5_lowestBeside 13 = .ok (.iaload, 1) := by decide +kernel
theorem dX5_lowestBeside_14 : decode cX5_lowestBeside 14 = .ok (.iload_n 2, 1) := by decide +kernel
theorem dX5_lowestBeside_15 : decode cX5_lowestBeside 15 = .ok (.if_icmp .ne 14, 3) := by decide +kernel
theorem dX5_lowestBeside_18 : decode cX5_lowestBeside 18 = .ok (.aload_n 0, 1) := by decide +kernel
theorem dX5_lowestBeside_19 : decode cX5_lowestBeside 19 = .ok (.iload_n 3, 1) := by decide +kernel
theorem dX5_lowestBeside_20 : decode cX5_lowestBeside 20 = .ok (.iload_n 1, 1) := by decide +kernel
theorem dX5_lowestBeside_21 : decode cX5_lowestBeside 21 = .ok (.invokevirtual 59, 3) := by decide +kernel
theorem dX5_lowestBeside_24 : decode cX5_lowestBeside 24 = .ok (.ifCond .eq 5, 3) := by decide +kernel
theorem dX5_lowestBeside_27 : decode cX5_lowestBeside 27 = .ok (.iload_n 3, 1) := by decide +kernel
theorem dX5_lowestBeside_28 : decode cX5_lowestBeside 28 = .ok (.ireturn, 1) := by decide +kernel
theorem dX5_lowestBeside_29 : decode cX5_lowestBeside 29 = .ok (.iinc 3 1, 3) := by decide +kernel
theorem dX5_lowestBeside_32 : decode cX5_lowestBeside 32 = .ok (.goto (-30), 3) := by decide +kernel
theorem dX5_lowestBeside_35 : decode cX5_lowestBeside 35 = .ok (.iload_n 1, 1) := by decide +kernel
theorem dX5_lowestBeside_36 : decode cX5_lowestBeside 36 = .ok (.ireturn, 1) := by decide +kernel
theorem dX6_init_0 : decode cX6_init 0 = .ok (.aload_n 0, 1) := by decide +kernel
theorem dX6_init_1 : decode cX6_init 1 = .ok (.invokespecial 3, 3) := by decide +kernel
theorem dX6_init_4 : decode cX6_init 4 = .ok (.aload_n 0, 1) := by decide +kernel
theorem dX6_init_5 : decode cX6_init 5 = .ok (.bipush 64, 2) := by decide +kernel
theorem dX6_init_7 : decode cX6_init 7 = .ok (.newarray .long, 2) := by decide +kernel
theorem dX6_init_9 : decode cX6_init 9 = .ok (.putfield 11, 3) := by decide +kernel
theorem dX6_init_12 : decode cX6_init 12 = .ok (.return_, 1) := by decide +kernel
theorem dX6_state_0 : decode cX6_state 0 = .ok (.bipush 64, 2) := by decide +kernel
theorem dX6_state_2 : decode cX6_state 2 = .ok (.iload_n 0, 1) := by decide +kernel
theorem dX6_state_3 : decode cX6_state 3 = .ok (.imul, 1) := by decide +kernel
theorem dX6_state_4 : decode cX6_state 4 = .ok (.iload_n 1, 1) := by decide +kernel
theorem dX6_state_5 : decode cX6_state 5 = .ok (.iadd, 1) := by decide +kernel
theorem dX6_state_6 : decode cX6_state 6 = .ok (.ireturn, 1) := by decide +kernel
set_option maxRecDepth 20000 in
theorem ggX6_wrap_J9_floorMod_7cf53 : GoodIn wsX6_wrap wsJ9_floorMod_7cf53 := goodIn_r _ [4] (by decide +kernel) (by decide +kernel)
set_option maxRecDepth 20000 in
theorem gX6_wrap_J9_floorMod_7cf53 : GoodIn wsX6_wrap (va_wsS RX6 15 yJ9_floorMod_7cf53 wsJ9_floorMod_7cf53) := goodIn_app (goodIn_of _ (by decide +kernel)) ggX6_wrap_J9_floorMod_7cf53
theorem dX6_wrap_0 : decode cX6_wrap 0 = .ok (.iload_n 0, 1) := by decide +kernel
theorem dX6_wrap_1 : decode cX6_wrap 1 = .ok (.bipush 64, 2) := by decide +kernel
theorem dX6_wrap_3 : decode cX6_wrap 3 = .ok (.invokestatic 15, 3) := by decide +kernel
theorem dX6_wrap_6 : decode cX6_wrap 6 = .ok (.ireturn, 1) := by decide +kernel
set_option maxRecDepth 20000 in
theorem ggX6_shake_J9_floorDiv_7cf53 : GoodIn wsX6_shake wsJ9_floorDiv_7cf53 := goodIn_r _ [4] (by decide +kernel) (by decide +kernel)
set_option maxRecDepth 20000 in
theorem gX6_shake_J9_floorDiv_7cf53 : GoodIn wsX6_shake (va_wsS RX6 21 yJ9_floorDiv_7cf53 wsJ9_floorDiv_7cf53) := goodIn_app (goodIn_of _ (by decide +kernel)) ggX6_shake_J9_floorDiv_7cf53
theorem dX6_shake_0 : decode cX6_shake 0 = .ok (.iload_n 0, 1) := by decide +kernel
theorem dX6_shake_1 : decode cX6_shake 1 = .ok (.bipush 32, 2) := by decide +kernel
theorem dX6_shake_3 : decode cX6_shake 3 = .ok (.if_icmp .ge 15, 3) := by decide +kernel
theorem dX6_shake_6 : decode cX6_shake 6 = .ok (.iload_n 0, 1) := by decide +kernel
theorem dX6_shake_7 : decode cX6_shake 7 = .ok (.bipush 32, 2) := by decide +kernel
theorem dX6_shake_9 : decode cX6_shake 9 = .ok (.iload_n 0, 1) := by decide +kernel
theorem dX6_shake_10 : decode cX6_shake 10 = .ok (.isub, 1) := by decide +kernel
theorem dX6_shake_11 : decode cX6_shake 11 = .ok (.imul, 1) := by decide +kernel
theorem dX6_shake_12 : decode cX6_shake 12 = .ok (.bipush 8, 2) := by decide +kernel
theorem dX6_shake_14 : decode cX6_shake 14 = .ok (.invokestatic 21, 3) := by decide +kernel
theorem dX6_shake_17 : decode cX6_shake 17 = .ok (.ireturn, 1) := by decide +kernel
theorem dX6_shake_18 : decode cX6_shake 18 = .ok (.iload_n 0, 1) := by decide +kernel
theorem dX6_shake_19 : decode cX6_shake 19 = .ok (.bipush 32, 2) := by decide +kernel
theorem dX6_shake_21 : decode cX6_shake 21 = .ok (.isub, 1) := by decide +kernel
theorem dX6_shake_22 : decode cX6_shake 22 = .ok (.bipush 64, 2) := by decide +kernel
theorem dX6_shake_24 : decode cX6_shake 24 = .ok (.iload_n 0, 1) := by decide +kernel
theorem dX6_shake_25 : decode cX6_shake 25 = .ok (.isub, 1) := by decide +kernel
theorem dX6_shake_26 : decode cX6_shake 26 = .ok (.imul, 1) := by decide +kernel
theorem dX6_shake_27 : decode cX6_shake 27 = .ok (.bipush 8, 2) := by decide +kernel
theorem dX6_shake_29 : decode cX6_shake 29 = .ok (.invokestatic 21, 3) := by decide +kernel
theorem dX6_shake_32 : decode cX6_shake 32 = .ok (.ineg, 1) := by decide +kernel
theorem dX6_shake_33 : decode cX6_shake 33 = .ok (.ireturn, 1) := by decide +kernel
set_option maxRecDepth 20000 in
theorem ggX6_kick_X6_shake : GoodIn wsX6_kick wsX6_shake := goodIn_r _ [4, 5, 6, 7, 8] (by decide +kernel) (by decide +kernel)
set_option maxRecDepth 20000 in
theorem gX6_kick_X6_shake : GoodIn wsX6_kick (va_wsS RX6 24 yX6_shake wsX6_shake) := goodIn_app (goodIn_of _ (by decide +kernel)) ggX6_kick_X6_shake
set_option maxRecDepth 20000 in
theorem ggX6_kick_J9_floorDiv_7cf53 : GoodIn wsX6_kick wsJ9_floorDiv_7cf53 := goodIn_r _ [8] (by decide +kernel) (by decide +kernel)
set_option maxRecDepth 20000 in
theorem gX6_kick_J9_floorDiv_7cf53 : GoodIn wsX6_kick (va_wsS RX6 21 yJ9_floorDiv_7cf53 wsJ9_floorDiv_7cf53) := goodIn_app (goodIn_of _ (by decide +kernel)) ggX6_kick_J9_floorDiv_7cf53
theorem dX6_kick_0 : decode cX6_kick 0 = .ok (.iload_n 1, 1) := by decide +kernel
theorem dX6_kick_1 : decode cX6_kick 1 = .ok (.iload_n 0, 1) := by decide +kernel
theorem dX6_kick_2 : decode cX6_kick 2 = .ok (.invokestatic 24, 3) := by decide +kernel
theorem dX6_kick_5 : decode cX6_kick 5 = .ok (.imul, 1) := by decide +kernel
theorem dX6_kick_6 : decode cX6_kick 6 = .ok (.bipush 16, 2) := by decide +kernel
theorem dX6_kick_8 : decode cX6_kick 8 = .ok (.invokestatic 21, 3) := by decide +kernel
theorem dX6_kick_11 : decode cX6_kick 11 = .ok (.ireturn, 1) := by decide +kernel
set_option maxRecDepth 20000 in
theorem ggX6_moved_X6_kick : GoodIn wsX6_moved wsX6_kick := goodIn_r _ [4, 5, 6, 3, 7, 8, 9, 10, 11] (by decide +kernel) (by decide +kernel)
set_option maxRecDepth 20000 in
theorem gX6_moved_X6_kick : GoodIn wsX6_moved (va_wsS RX6 28 yX6_kick wsX6_kick) := goodIn_app (goodIn_of _ (by decide +kernel)) ggX6_moved_X6_kick
set_option maxRecDepth 20000 in
theorem ggX6_moved_X6_wrap : GoodIn wsX6_moved wsX6_wrap := goodIn_r _ [14, 15, 16, 10, 17] (by decide +kernel) (by decide +kernel)
set_option maxRecDepth 20000 in
theorem gX6_moved_X6_wrap : GoodIn wsX6_moved (va_wsS RX6 31 yX6_wrap wsX6_wrap) := goodIn_app (goodIn_of _ (by decide +kernel)) ggX6_moved_X6_wrap
set_option maxRecDepth 20000 in
theorem ggX6_moved_X6_state : GoodIn wsX6_moved wsX6_state := goodIn_r _ [20] (by decide +kernel) (by decide +kernel)
set_option maxRecDepth 20000 in
theorem gX6_moved_X6_state : GoodIn wsX6_moved (va_wsS RX6 34 yX6_state wsX6_state) := goodIn_app (goodIn_of _ (by decide +kernel)) ggX6_moved_X6_state
theorem dX6_moved_0 : decode cX6_moved 0 = .ok (.iload_n 0, 1) := by decide +kernel
theorem dX6_moved_1 : decode cX6_moved 1 = .ok (.bipush 64, 2) := by decide +kernel
theorem dX6_moved_3 : decode cX6_moved 3 = .ok (.idiv, 1) := by decide +kernel
theorem dX6_moved_4 : decode cX6_moved 4 = .ok (.istore_n 3, 1) := by decide +kernel
theorem dX6_moved_5 : decode cX6_moved 5 = .ok (.iload_n 0, 1) := by decide +kernel
theorem dX6_moved_6 : decode cX6_moved 6 = .ok (.bipush 64, 2) := by decide +kernel
theorem dX6_moved_8 : decode cX6_moved 8 = .ok (.irem, 1) := by decide +kernel
theorem dX6_moved_9 : decode cX6_moved 9 = .ok (.istore 4, 2) := by decide +kernel
theorem dX6_moved_11 : decode cX6_moved 11 = .ok (.iconst 0, 1) := by decide +kernel
theorem dX6_moved_12 : decode cX6_moved 12 = .ok (.istore 5, 2) := by decide +kernel
theorem dX6_moved_14 : decode cX6_moved 14 = .ok (.iload 5, 2) := by decide +kernel
theorem dX6_moved_16 : decode cX6_moved 16 = .ok (.iload_n 2, 1) := by decide +kernel
theorem dX6_moved_17 : decode cX6_moved 17 = .ok (.if_icmp .ge 30, 3) := by decide +kernel
theorem dX6_moved_20 : decode cX6_moved 20 = .ok (.iload 4, 2) := by decide +kernel
theorem dX6_moved_22 : decode cX6_moved 22 = .ok (.iload_n 3, 1) := by decide +kernel
theorem dX6_moved_23 : decode cX6_moved 23 = .ok (.iload_n 1, 1) := by decide +kernel
theorem dX6_moved_24 : decode cX6_moved 24 = .ok (.invokestatic 28, 3) := by decide +kernel
theorem dX6_moved_27 : decode cX6_moved 27 = .ok (.iadd, 1) := by decide +kernel
theorem dX6_moved_28 : decode cX6_moved 28 = .ok (.invokestatic 31, 3) := by decide +kernel
theorem dX6_moved_31 : decode cX6_moved 31 = .ok (.istore 4, 2) := by decide +kernel
theorem dX6_moved_33 : decode cX6_moved 33 = .ok (.iload_n 3, 1) := by decide +kernel
theorem dX6_moved_34 : decode cX6_moved 34 = .ok (.iload 4, 2) := by decide +kernel
theorem dX6_moved_36 : decode cX6_moved 36 = .ok (.iadd, 1) := by decide +kernel
theorem dX6_moved_37 : decode cX6_moved 37 = .ok (.invokestatic 31, 3) := by decide +kernel
theorem dX6_moved_40 : decode cX6_moved 40 = .ok (.istore_n 3, 1) := by decide +kernel
theorem dX6_moved_41 : decode cX6_moved 41 = .ok (.iinc 5 1, 3) := by decide +kernel
theorem dX6_moved_44 : decode cX6_moved 44 = .ok (.goto (-30), 3) := by decide +kernel
theorem dX6_moved_47 : decode cX6_moved 47 = .ok (.iload_n 3, 1) := by decide +kernel
theorem dX6_moved_48 : decode cX6_moved 48 = .ok (.iload 4, 2) := by decide +kernel
theorem dX6_moved_50 : decode cX6_moved 50 = .ok (.invokestatic 34, 3) := by decide +kernel
theorem dX6_moved_53 : decode cX6_moved 53 = .ok (.ireturn, 1) := by decide +kernel
set_option maxRecDepth 20000 in
theorem ggX6_undone_X6_wrap : GoodIn wsX6_undone wsX6_wrap := goodIn_r _ [4, 5, 6, 7, 8] (by decide +kernel) (by decide +kernel)
set_option maxRecDepth 20000 in
theorem gX6_undone_X6_wrap : GoodIn wsX6_undone (va_wsS RX6 31 yX6_wrap wsX6_wrap) := goodIn_app (goodIn_of _ (by decide +kernel)) ggX6_undone_X6_wrap
set_option maxRecDepth 20000 in
theorem ggX6_undone_X6_kick : GoodIn wsX6_undone wsX6_kick := goodIn_r _ [11, 12, 13, 3, 14, 15, 16, 7, 17] (by decide +kernel) (by decide +kernel)
set_option maxRecDepth 20000 in
theorem gX6_undone_X6_kick : GoodIn wsX6_undone (va_wsS RX6 28 yX6_kick wsX6_kick) := goodIn_app (goodIn_of _ (by decide +kernel)) ggX6_undone_X6_kick
set_option maxRecDepth 20000 in
theorem ggX6_undone_X6_state : GoodIn wsX6_undone wsX6_state := goodIn_r _ [20] (by decide +kernel) (by decide +kernel)
set_option maxRecDepth 20000 in
theorem gX6_undone_X6_state : GoodIn wsX6_undone (va_wsS RX6 34 yX6_state wsX6_state) := goodIn_app (goodIn_of _ (by decide +kernel)) ggX6_undone_X6_state
theorem dX6_undone_0 : decode cX6_undone 0 = .ok (.iload_n 0, 1) := by decide +kernel
theorem dX6_undone_1 : decode cX6_undone 1 = .ok (.bipush 64, 2) := by decide +kernel
theorem dX6_undone_3 : decode cX6_undone 3 = .ok (.idiv, 1) := by decide +kernel
theorem dX6_undone_4 : decode cX6_undone 4 = .ok (.istore_n 3, 1) := by decide +kernel
theorem dX6_undone_5 : decode cX6_undone 5 = .ok (.iload_n 0, 1) := by decide +kernel
theorem dX6_undone_6 : decode cX6_undone 6 = .ok (.bipush 64, 2) := by decide +kernel
theorem dX6_undone_8 : decode cX6_undone 8 = .ok (.irem, 1) := by decide +kernel
theorem dX6_undone_9 : decode cX6_undone 9 = .ok (.istore 4, 2) := by decide +kernel
theorem dX6_undone_11 : decode cX6_undone 11 = .ok (.iconst 0, 1) := by decide +kernel
theorem dX6_undone_12 : decode cX6_undone 12 = .ok (.istore 5, 2) := by decide +kernel
theorem dX6_undone_14 : decode cX6_undone 14 = .ok (.iload 5, 2) := by decide +kernel
theorem dX6_undone_16 : decode cX6_undone 16 = .ok (.iload_n 2, 1) := by decide +kernel
theorem dX6_undone_17 : decode cX6_undone 17 = .ok (.if_icmp .ge 30, 3) := by decide +kernel
theorem dX6_undone_20 : decode cX6_undone 20 = .ok (.iload_n 3, 1) := by decide +kernel
theorem dX6_undone_21 : decode cX6_undone 21 = .ok (.iload 4, 2) := by decide +kernel
theorem dX6_undone_23 : decode cX6_undone 23 = .ok (.isub, 1) := by decide +kernel
theorem dX6_undone_24 : decode cX6_undone 24 = .ok (.invokestatic 31, 3) := by decide +kernel
theorem dX6_undone_27 : decode cX6_undone 27 = .ok (.istore_n 3, 1) := by decide +kernel
theorem dX6_undone_28 : decode cX6_undone 28 = .ok (.iload 4, 2) := by decide +kernel
theorem dX6_undone_30 : decode cX6_undone 30 = .ok (.iload_n 3, 1) := by decide +kernel
theorem dX6_undone_31 : decode cX6_undone 31 = .ok (.iload_n 1, 1) := by decide +kernel
theorem dX6_undone_32 : decode cX6_undone 32 = .ok (.invokestatic 28, 3) := by decide +kernel
theorem dX6_undone_35 : decode cX6_undone 35 = .ok (.isub, 1) := by decide +kernel
theorem dX6_undone_36 : decode cX6_undone 36 = .ok (.invokestatic 31, 3) := by decide +kernel
theorem dX6_undone_39 : decode cX6_undone 39 = .ok (.istore 4, 2) := by decide +kernel
theorem dX6_undone_41 : decode cX6_undone 41 = .ok (.iinc 5 1, 3) := by decide +kernel
theorem dX6_undone_44 : decode cX6_undone 44 = .ok (.goto (-30), 3) := by decide +kernel
theorem dX6_undone_47 : decode cX6_undone 47 = .ok (.iload_n 3, 1) := by decide +kernel
theorem dX6_undone_48 : decode cX6_undone 48 = .ok (.iload 4, 2) := by decide +kernel
theorem dX6_undone_50 : decode cX6_undone 50 = .ok (.invokestatic 34, 3) := by decide +kernel
theorem dX6_undone_53 : decode cX6_undone 53 = .ok (.ireturn, 1) := by decide +kernel
theorem dX6_isSeen_0 : decode cX6_isSeen 0 = .ok (.aload_n 0, 1) := by decide +kernel
theorem dX6_isSeen_1 : decode cX6_isSeen 1 = .ok (.getfield 11, 3) := by decide +kernel
theorem dX6_isSeen_4 : decode cX6_isSeen 4 = .ok (.iload_n 1, 1) := by decide +kernel
theorem dX6_isSeen_5 : decode cX6_isSeen 5 = .ok (.bipush 64, 2) := by decide +kernel
theorem dX6_isSeen_7 : decode cX6_isSeen 7 = .ok (.idiv, 1) := by decide +kernel
theorem dX6_isSeen_8 : decode cX6_isSeen 8 = .ok (.laload, 1) := by decide +kernel
theorem dX6_isSeen_9 : decode cX6_isSeen 9 = .ok (.iload_n 1, 1) := by decide +kernel
theorem dX6_isSeen_10 : decode cX6_isSeen 10 = .ok (.bipush 64, 2) := by decide +kernel
theorem dX6_isSeen_12 : decode cX6_isSeen 12 = .ok (.irem, 1) := by decide +kernel
theorem dX6_isSeen_13 : decode cX6_isSeen 13 = .ok (.lshr, 1) := by decide +kernel
theorem dX6_isSeen_14 : decode cX6_isSeen 14 = .ok (.lconst 1, 1) := by decide +kernel
theorem dX6_isSeen_15 : decode cX6_isSeen 15 = .ok (.land, 1) := by decide +kernel
theorem dX6_isSeen_16 : decode cX6_isSeen 16 = .ok (.lconst 1, 1) := by decide +kernel
theorem dX6_isSeen_17 : decode cX6_isSeen 17 = .ok (.lcmp, 1) := by decide +kernel
theorem dX6_isSeen_18 : decode cX6_isSeen 18 = .ok (.ifCond .ne 7, 3) := by decide +kernel
theorem dX6_isSeen_21 : decode cX6_isSeen 21 = .ok (.iconst 1, 1) := by decide +kernel
theorem dX6_isSeen_22 : decode cX6_isSeen 22 = .ok (.goto 4, 3) := by decide +kernel
theorem dX6_isSeen_25 : decode cX6_isSeen 25 = .ok (.iconst 0, 1) := by decide +kernel
theorem dX6_isSeen_26 : decode cX6_isSeen 26 = .ok (.ireturn, 1) := by decide +kernel
set_option maxRecDepth 20000 in
theorem ggX6_walkRound_X6_moved : GoodIn wsX6_walkRound wsX6_moved := goodIn_r _ [5, 6, 7, 4, 8, 9, 10, 11, 12, 13, 14, 15, 16, 17, 18, 19, 20, 21, 22, 23, 24] (by decide +kernel) (by decide +kernel)
set_option maxRecDepth 20000 in
theorem gX6_walkRound_X6_moved : GoodIn wsX6_walkRound (va_wsS RX6 37 yX6_moved wsX6_moved) := goodIn_app (goodIn_of _ (by decide +kernel)) ggX6_walkRound_X6_moved
theorem dX6_walkRound_0 : decode cX6_walkRound 0 = .ok (.iload_n 1, 1) := by decide +kernel
theorem dX6_walkRound_1 : decode cX6_walkRound 1 = .ok (.istore_n 3, 1) := by decide +kernel
theorem dX6_walkRound_2 : decode cX6_walkRound 2 = .ok (.iconst 0, 1) := by decide +kernel
theorem dX6_walkRound_3 : decode cX6_walkRound 3 = .ok (.istore 4, 2) := by decide +kernel
theorem dX6_walkRound_5 : decode cX6_walkRound 5 = .ok (.aload_n 0, 1) := by decide +kernel
theorem dX6_walkRound_6 : decode cX6_walkRound 6 = .ok (.getfield 11, 3) := by decide +kernel
theorem dX6_walkRound_9 : decode cX6_walkRound 9 = .ok (.iload_n 3, 1) := by decide +kernel
theorem dX6_walkRound_10 : decode cX6_walkRound 10 = .ok (.bipush 64, 2) := by decide +kernel
theorem dX6_walkRound_12 : decode cX6_walkRound 12 = .ok (.idiv, 1) := by decide +kernel
theorem dX6_walkRound_13 : decode cX6_walkRound 13 = .ok (.dup2, 1) := by decide +kernel
theorem dX6_walkRound_14 : decode cX6_walkRound 14 = .ok (.laload, 1) := by decide +kernel
theorem dX6_walkRound_15 : decode cX6_walkRound 15 = .ok (.lconst 1, 1) := by decide +kernel
theorem dX6_walkRound_16 : decode cX6_walkRound 16 = .ok (.iload_n 3, 1) := by decide +kernel
theorem dX6_walkRound_17 : decode cX6_walkRound 17 = .ok (.bipush 64, 2) := by decide +kernel
theorem dX6_walkRound_19 : decode cX6_walkRound 19 = .ok (.irem, 1) := by decide +kernel
theorem dX6_walkRound_20 : decode cX6_walkRound 20 = .ok (.lshl, 1) := by decide +kernel
theorem dX6_walkRound_21 : decode cX6_walkRound 21 = .ok (.lor, 1) := by decide +kernel
theorem dX6_walkRound_22 : decode cX6_walkRound 22 = .ok (.lastore, 1) := by decide +kernel
theorem dX6_walkRound_23 : decode cX6_walkRound 23 = .ok (.iload_n 3, 1) := by decide +kernel
theorem dX6_walkRound_24 : decode cX6_walkRound 24 = .ok (.iload_n 2, 1) := by decide +kernel
theorem dX6_walkRound_25 : decode cX6_walkRound 25 = .ok (.iconst 1, 1) := by decide +kernel
theorem dX6_walkRound_26 : decode cX6_walkRound 26 = .ok (.invokestatic 37, 3) := by decide +kernel
theorem dX6_walkRound_29 : decode cX6_walkRound 29 = .ok (.istore_n 3, 1) := by decide +kernel
theorem dX6_walkRound_30 : decode cX6_walkRound 30 = .ok (.iinc 4 1, 3) := by decide +kernel
theorem dX6_walkRound_33 : decode cX6_walkRound 33 = .ok (.iload_n 3, 1) := by decide +kernel
theorem dX6_walkRound_34 : decode cX6_walkRound 34 = .ok (.iload_n 1, 1) := by decide +kernel
theorem dX6_walkRound_35 : decode cX6_walkRound 35 = .ok (.if_icmp .eq 11, 3) := by decide +kernel
theorem dX6_walkRound_38 : decode cX6_walkRound 38 = .ok (.iload 4, 2) := by decide +kernel
theorem dX6_walkRound_40 : decode cX6_walkRound 40 = .ok (.sipush 4096, 3) := by decide +kernel
theorem dX6_walkRound_43 : decode cX6_walkRound 43 = .ok (.if_icmp .lt (-38), 3) := by decide +kernel
theorem dX6_walkRound_46 : decode cX6_walkRound 46 = .ok (.iload 4, 2) := by decide +kernel
theorem dX6_walkRound_48 : decode cX6_walkRound 48 = .ok (.ireturn, 1) := by decide +kernel
set_option maxRecDepth 20000 in
theorem ggX6_countRounds_J7_fill_d0a16 : GoodIn wsX6_countRounds wsJ7_fill_d0a16 := goodIn_r _ [5] (by decide +kernel) (by decide +kernel)
set_option maxRecDepth 20000 in
theorem gX6_countRounds_J7_fill_d0a16 : GoodIn wsX6_countRounds (va_wsS RX6 41 yJ7_fill_d0a16 wsJ7_fill_d0a16) := goodIn_app (goodIn_of _ (by decide +kernel)) ggX6_countRounds_J7_fill_d0a16
set_option maxRecDepth 20000 in
theorem ggX6_countRounds_X6_isSeen : GoodIn wsX6_countRounds wsX6_isSeen := goodIn_r _ [10, 1, 37] (by decide +kernel) (by decide +kernel)
set_option maxRecDepth 20000 in
theorem gX6_countRounds_X6_isSeen : GoodIn wsX6_countRounds (wsV RX6 47 RX6 yX6_isSeen wsX6_isSeen) := goodIn_app (goodIn_of _ (by decide +kernel)) ggX6_countRounds_X6_isSeen
set_option maxRecDepth 20000 in
theorem ggX6_countRounds_X6_walkRound : GoodIn wsX6_countRounds wsX6_walkRound := goodIn_r _ [14, 1, 15, 16, 9, 17, 18, 19, 20, 21, 22, 23, 24, 25, 26, 27, 28, 29, 30, 31, 32, 33, 34, 35, 36, 37] (by decide +kernel) (by decide +kernel)
set_option maxRecDepth 20000 in
theorem gX6_countRounds_X6_walkRound : GoodIn wsX6_countRounds (wsV RX6 51 RX6 yX6_walkRound wsX6_walkRound) := goodIn_app (goodIn_of _ (by decide +kernel)) ggX6_countRounds_X6_walkRound
theorem dX6_countRounds_0 : decode cX6_countRounds 0 = .ok (.aload_n 0, 1) := by decide +kernel
theorem dX6_countRounds_1 : decode cX6_countRounds 1 = .ok (.getfield 11, 3) := by decide +kernel
theorem dX6_countRounds_4 : decode cX6_countRounds 4 = .ok (.lconst 0, 1) := by decide +kernel
theorem dX6_countRounds_5 : decode cX6_countRounds 5 = .ok (.invokestatic 41, 3) := by decide +kernel
theorem dX6_countRounds_8 : decode cX6_countRounds 8 = .ok (.iconst 0, 1) := by decide +kernel
theorem dX6_countRounds_9 : decode cX6_countRounds 9 = .ok (.istore_n 3, 1) := by decide +kernel
theorem dX6_countRounds_10 : decode cX6_countRounds 10 = .ok (.iconst 0, 1) := by decide +kernel
theorem dX6_countRounds_11 : decode cX6_countRounds 11 = .ok (.istore 4, 2) := by decide +kernel
theorem dX6_countRounds_13 : decode cX6_countRounds 13 = .ok (.iload 4, 2) := by decide +kernel
theorem dX6_countRounds_15 : decode cX6_countRounds 15 = .ok (.sipush 4096, 3) := by decide +kernel
theorem dX6_countRounds_18 : decode cX6_countRounds 18 = .ok (.if_icmp .ge 41, 3) := by decide +kernel
theorem dX6_countRounds_21 : decode cX6_countRounds 21 = .ok (.aload_n 0, 1) := by decide +kernel
theorem dX6_countRounds_22 : decode cX6_countRounds 22 = .ok (.iload 4, 2) := by decide +kernel
theorem dX6_countRounds_24 : decode cX6_countRounds 24 = .ok (.invokevirtual 47, 3) := by decide +kernel
theorem dX6_countRounds_27 : decode cX6_countRounds 27 = .ok (.ifCond .ne 26, 3) := by decide +kernel
theorem dX6_countRounds_30 : decode cX6_countRounds 30 = .ok (.aload_n 0, 1) := by decide +kernel
theorem dX6_countRounds_31 : decode cX6_countRounds 31 = .ok (.iload 4, 2) := by decide +kernel
theorem dX6_countRounds_33 : decode cX6_countRounds 33 = .ok (.iload_n 1, 1) := by decide +kernel
theorem dX6_countRounds_34 : decode cX6_countRounds 34 = .ok (.invokevirtual 51, 3) := by decide +kernel
theorem dX6_countRounds_37 : decode cX6_countRounds 37 = .ok (.istore 5, 2) := by decide +kernel
theorem dX6_countRounds_39 : decode cX6_countRounds 39 = .ok (.iload_n 2, 1) := by decide +kernel
theorem dX6_countRounds_40 : decode cX6_countRounds 40 = .ok (.iconst (-1), 1) := by decide +kernel
theorem dX6_countRounds_41 : decode cX6_countRounds 41 = .ok (.if_icmp .eq 9, 3) := by decide +kernel
theorem dX6_countRounds_44 : decode cX6_countRounds 44 = .ok (.iload_n 2, 1) := by decide +kernel
theorem dX6_countRounds_45 : decode cX6_countRounds 45 = .ok (.iload 5, 2) := by decide +kernel
theorem dX6_countRounds_47 : decode cX6_countRounds 47 = .ok (.if_icmp .ne 6, 3) := by decide +kernel
theorem dX6_countRounds_50 : decode cX6_countRounds 50 = .ok (.iinc 3 1, 3) := by decide +kernel
theorem dX6_countRounds_53 : decode cX6_countRounds 53 = .ok (.iinc 4 1, 3) := by decide +kernel
theorem dX6_countRounds_56 : decode cX6_countRounds 56 = .ok (.goto (-43), 3) := by decide +kernel
theorem dX6_countRounds_59 : decode cX6_countRounds 59 = .ok (.iload_n 3, 1) := by decide +kernel
theorem dX6_countRounds_60 : decode cX6_countRounds 60 = .ok (.ireturn, 1) := by decide +kernel
set_option maxRecDepth 20000 in
theorem ggX6_apart_X6_shorterWay : GoodIn wsX6_apart wsX6_shorterWay := goodIn_r _ [4, 5, 6, 7, 8, 9, 10, 3, 11, 12, 13, 14, 15] (by decide +kernel) (by decide +kernel)
set_option maxRecDepth 20000 in
theorem gX6_apart_X6_shorterWay : GoodIn wsX6_apart (va_wsS RX6 54 yX6_shorterWay wsX6_shorterWay) := goodIn_app (goodIn_of _ (by decide +kernel)) ggX6_apart_X6_shorterWay
theorem dX6_apart_0 : decode cX6_apart 0 = .ok (.iload_n 0, 1) := by decide +kernel
theorem dX6_apart_1 : decode cX6_apart 1 = .ok (.bipush 64, 2) := by decide +kernel
theorem dX6_apart_3 : decode cX6_apart 3 = .ok (.idiv, 1) := by decide +kernel
theorem dX6_apart_4 : decode cX6_apart 4 = .ok (.iload_n 1, 1) := by decide +kernel
theorem dX6_apart_5 : decode cX6_apart 5 = .ok (.bipush 64, 2) := by decide +kernel
theorem dX6_apart_7 : decode cX6_apart 7 = .ok (.idiv, 1) := by decide +kernel
theorem dX6_apart_8 : decode cX6_apart 8 = .ok (.invokestatic 54, 3) := by decide +kernel
theorem dX6_apart_11 : decode cX6_apart 11 = .ok (.iload_n 0, 1) := by decide +kernel
theorem dX6_apart_12 : decode cX6_apart 12 = .ok (.bipush 64, 2) := by decide +kernel
theorem dX6_apart_14 : decode cX6_apart 14 = .ok (.irem, 1) := by decide +kernel
theorem dX6_apart_15 : decode cX6_apart 15 = .ok (.iload_n 1, 1) := by decide +kernel
theorem dX6_apart_16 : decode cX6_apart 16 = .ok (.bipush 64, 2) := by decide +kernel
theorem dX6_apart_18 : decode cX6_apart 18 = .ok (.irem, 1) := by decide +kernel
theorem dX6_apart_19 : decode cX6_apart 19 = .ok (.invokestatic 54, 3) := by decide +kernel
theorem dX6_apart_22 : decode cX6_apart 22 = .ok (.iadd, 1) := by decide +kernel
theorem dX6_apart_23 : decode cX6_apart 23 = .ok (.ireturn, 1) := by decide +kernel
set_option maxRecDepth 20000 in
theorem ggX6_shorterWay_X6_wrap : GoodIn wsX6_shorterWay wsX6_wrap := goodIn_r _ [8, 9, 10, 11, 12] (by decide +kernel) (by decide +kernel)
set_option maxRecDepth 20000 in
theorem gX6_shorterWay_X6_wrap : GoodIn wsX6_shorterWay (va_wsS RX6 31 yX6_wrap wsX6_wrap) := goodIn_app (goodIn_of _ (by decide +kernel)) ggX6_shorterWay_X6_wrap
theorem dX6_shorterWay_0 : decode cX6_shorterWay 0 = .ok (.iload_n 1, 1) := by decide +kernel
theorem dX6_shorterWay_1 : decode cX6_shorterWay 1 = .ok (.iload_n 0, 1) := by decide +kernel
theorem dX6_shorterWay_2 : decode cX6_shorterWay 2 = .ok (.isub, 1) := by decide +kernel
theorem dX6_shorterWay_3 : decode cX6_shorterWay 3 = .ok (.invokestatic 31, 3) := by decide +kernel
theorem dX6_shorterWay_6 : decode cX6_shorterWay 6 = .ok (.istore_n 2, 1) := by decide +kernel
theorem dX6_shorterWay_7 : decode cX6_shorterWay 7 = .ok (.iload_n 2, 1) := by decide +kernel
theorem dX6_shorterWay_8 : decode cX6_shorterWay 8 = .ok (.bipush 64, 2) := by decide +kernel
theorem dX6_shorterWay_10 : decode cX6_shorterWay 10 = .ok (.iload_n 2, 1) := by decide +kernel
theorem dX6_shorterWay_11 : decode cX6_shorterWay 11 = .ok (.isub, 1) := by decide +kernel
theorem dX6_shorterWay_12 : decode cX6_shorterWay 12 = .ok (.invokestatic 57, 3) := by decide +kernel
theorem dX6_shorterWay_15 : decode cX6_shorterWay 15 = .ok (.ireturn, 1) := by decide +kernel
set_option maxRecDepth 20000 in
theorem ggX7_init_X3_init : GoodIn wsX7_init wsX3_init := goodIn_r _ [26, 27, 2, 3, 28, 29, 30, 31, 32, 33, 34, 35, 36, 37, 38, 70, 71, 72, 73, 74, 75, 76, 77, 78, 79] (by decide +kernel) (by decide +kernel)
set_option maxRecDepth 20000 in
theorem gX7_init_X3_init : GoodIn wsX7_init (wsX3_init) := ggX7_init_X3_init
set_option maxRecDepth 20000 in
theorem ggX7_init_X0_init : GoodIn wsX7_init wsX0_init := goodIn_r _ [41, 42, 2, 3, 28, 43, 44, 45, 85, 86, 87, 88, 89, 90, 91] (by decide +kernel) (by decide +kernel)
set_option maxRecDepth 20000 in
theorem gX7_init_X0_init : GoodIn wsX7_init (wsX0_init) := ggX7_init_X0_init
set_option maxRecDepth 20000 in
theorem ggX7_init_X5_init : GoodIn wsX7_init wsX5_init := goodIn_r _ [48, 49, 2, 3, 28, 50, 51, 52, 53, 31, 54, 55, 92, 93, 94, 95, 96, 97, 98, 99, 100] (by decide +kernel) (by decide +kernel)
set_option maxRecDepth 20000 in
theorem gX7_init_X5_init : GoodIn wsX7_init (wsX5_init) := ggX7_init_X5_init
set_option maxRecDepth 20000 in
theorem ggX7_init_X6_init : GoodIn wsX7_init wsX6_init := goodIn_r _ [58, 59, 2, 3, 34, 60, 101] (by decide +kernel) (by decide +kernel)
set_option maxRecDepth 20000 in
theorem gX7_init_X6_init : GoodIn wsX7_init (wsX6_init) := ggX7_init_X6_init
set_option maxRecDepth 20000 in
theorem ggX7_init_X2_init : GoodIn wsX7_init wsX2_init := goodIn_r _ [63, 64, 2, 3, 28, 65, 66, 67, 68, 69, 102, 103, 104, 105, 106, 107, 108, 109, 110] (by decide +kernel) (by decide +kernel)
set_option maxRecDepth 20000 in
theorem gX7_init_X2_init : GoodIn wsX7_init (wsX2_init) := ggX7_init_X2_init
theorem dX7_init_0 : decode cX7_init 0 = .ok (.aload_n 0, 1) := by decide +kernel
theorem dX7_init_1 : decode cX7_init 1 = .ok (.invokespecial 1, 3) := by decide +kernel
theorem dX7_init_4 : decode cX7_init 4 = .ok (.aload_n 0, 1) := by decide +kernel
theorem dX7_init_5 : decode cX7_init 5 = .ok (.new 7, 3) := by decide +kernel
theorem dX7_init_8 : decode cX7_init 8 = .ok (.dup, 1) := by decide +kernel
theorem dX7_init_9 : decode cX7_init 9 = .ok (.invokespecial 9, 3) := by decide +kernel
theorem dX7_init_12 : decode cX7_init 12 = .ok (.putfield 10, 3) := by decide +kernel
theorem dX7_init_15 : decode cX7_init 15 = .ok (.aload_n 0, 1) := by decide +kernel
theorem dX7_init_16 : decode cX7_init 16 = .ok (.new 16, 3) := by decide +kernel
theorem dX7_init_19 : decode cX7_init 19 = .ok (.dup, 1) := by decide +kernel
theorem dX7_init_20 : decode cX7_init 20 = .ok (.invokespecial 18, 3) := by decide +kernel
theorem dX7_init_23 : decode cX7_init 23 = .ok (.putfield 19, 3) := by decide +kernel
theorem dX7_init_26 : decode cX7_init 26 = .ok (.aload_n 0, 1) := by decide +kernel
theorem dX7_init_27 : decode cX7_init 27 = .ok (.new 23, 3) := by decide +kernel
theorem dX7_init_30 : decode cX7_init 30 = .ok (.dup, 1) := by decide +kernel
theorem dX7_init_31 : decode cX7_init 31 = .ok (.invokespecial 25, 3) := by decide +kernel
theorem dX7_init_34 : decode cX7_init 34 = .ok (.putfield 26, 3) := by decide +kernel
theorem dX7_init_37 : decode cX7_init 37 = .ok (.aload_n 0, 1) := by decide +kernel
theorem dX7_init_38 : decode cX7_init 38 = .ok (.new 30, 3) := by decide +kernel
theorem dX7_init_41 : decode cX7_init 41 = .ok (.dup, 1) := by decide +kernel
theorem dX7_init_42 : decode cX7_init 42 = .ok (.invokespecial 32, 3) := by decide +kernel
theorem dX7_init_45 : decode cX7_init 45 = .ok (.putfield 33, 3) := by decide +kernel
theorem dX7_init_48 : decode cX7_init 48 = .ok (.aload_n 0, 1) := by decide +kernel
theorem dX7_init_49 : decode cX7_init 49 = .ok (.new 37, 3) := by decide +kernel
theorem dX7_init_52 : decode cX7_init 52 = .ok (.dup, 1) := by decide +kernel
theorem dX7_init_53 : decode cX7_init 53 = .ok (.invokespecial 39, 3) := by decide +kernel
theorem dX7_init_56 : decode cX7_init 56 = .ok (.putfield 40, 3) := by decide +kernel
theorem dX7_init_59 : decode cX7_init 59 = .ok (.return_, 1) := by decide +kernel
set_option maxRecDepth 20000 in
theorem ggX7_heat_X7_isOutside : GoodIn wsX7_heat wsX7_isOutside := goodIn_r _ [7] (by decide +kernel) (by decide +kernel)
set_option maxRecDepth 20000 in
theorem gX7_heat_X7_isOutside : GoodIn wsX7_heat (va_wsS RX7 44 yX7_isOutside wsX7_isOutside) := goodIn_app (goodIn_of _ (by decide +kernel)) ggX7_heat_X7_isOutside
set_option maxRecDepth 20000 in
theorem ggX7_heat_X3_swapHeat : GoodIn wsX7_heat wsX3_swapHeat := goodIn_r _ [12, 13, 19, 20, 21, 22, 23, 24, 25, 26, 27, 28] (by decide +kernel) (by decide +kernel)
set_option maxRecDepth 20000 in
theorem gX7_heat_X3_swapHeat : GoodIn wsX7_heat (wsV RX7 55 RX3 yX3_swapHeat wsX3_swapHeat) := goodIn_app (goodIn_of _ (by decide +kernel)) ggX7_heat_X3_swapHeat
theorem dX7_heat_0 : decode cX7_heat 0 = .ok (.iload_n 1, 1) := by decide +kernel
theorem dX7_heat_1 : decode cX7_heat 1 = .ok (.bipush (-20), 2) := by decide +kernel
theorem dX7_heat_3 : decode cX7_heat 3 = .ok (.bipush 50, 2) := by decide +kernel
theorem dX7_heat_5 : decode cX7_heat 5 = .ok (.invokestatic 44, 3) := by decide +kernel
theorem dX7_heat_8 : decode cX7_heat 8 = .ok (.ifCond .eq 13, 3) := by decide +kernel
theorem dX7_heat_11 : decode cX7_heat 11 = .ok (.new 48, 3) := by decide +kernel
theorem dX7_heat_14 : decode cX7_heat 14 = .ok (.dup, 1) := by decide +kernel
theorem dX7_heat_15 : decode cX7_heat 15 = .ok (.ldc 50, 2) := by decide +kernel
theorem dX7_heat_17 : decode cX7_heat 17 = .ok (.invokespecial 52, 3) := by decide +kernel
theorem dX7_heat_20 : decode cX7_heat 20 = .ok (.athrow, 1) := by decide +kernel
theorem dX7_heat_21 : decode cX7_heat 21 = .ok (.aload_n 0, 1) := by decide +kernel
theorem dX7_heat_22 : decode cX7_heat 22 = .ok (.getfield 10, 3) := by decide +kernel
theorem dX7_heat_25 : decode cX7_heat 25 = .ok (.iload_n 1, 1) := by decide +kernel
theorem dX7_heat_26 : decode cX7_heat 26 = .ok (.invokevirtual 55, 3) := by decide +kernel
theorem dX7_heat_29 : decode cX7_heat 29 = .ok (.ireturn, 1) := by decide +kernel
set_option maxRecDepth 20000 in
theorem ggX7_pressure_X7_isOutside : GoodIn wsX7_pressure wsX7_isOutside := goodIn_r _ [7] (by decide +kernel) (by decide +kernel)
set_option maxRecDepth 20000 in
theorem gX7_pressure_X7_isOutside : GoodIn wsX7_pressure (va_wsS RX7 44 yX7_isOutside wsX7_isOutside) := goodIn_app (goodIn_of _ (by decide +kernel)) ggX7_pressure_X7_isOutside
set_option maxRecDepth 20000 in
theorem ggX7_pressure_X3_swapPressure : GoodIn wsX7_pressure wsX3_swapPressure := goodIn_r _ [12, 13, 19, 20, 21, 22, 23, 24, 25, 26, 27, 28] (by decide +kernel) (by decide +kernel)
set_option maxRecDepth 20000 in
theorem gX7_pressure_X3_swapPressure : GoodIn wsX7_pressure (wsV RX7 61 RX3 yX3_swapPressure wsX3_swapPressure) := goodIn_app (goodIn_of _ (by decide +kernel)) ggX7_pressure_X3_swapPressure
theorem dX7_pressure_0 : decode cX7_pressure 0 = .ok (.iload_n 1, 1) := by decide +kernel
theorem dX7_pressure_1 : decode cX7_pressure 1 = .ok (.sipush 900, 3) := by decide +kernel
theorem dX7_pressure_4 : decode cX7_pressure 4 = .ok (.sipush 1100, 3) := by decide +kernel
theorem dX7_pressure_7 : decode cX7_pressure 7 = .ok (.invokestatic 44, 3) := by decide +kernel
theorem dX7_pressure_10 : decode cX7_pressure 10 = .ok (.ifCond .eq 13, 3) := by decide +kernel
theorem dX7_pressure_13 : decode cX7_pressure 13 = .ok (.new 48, 3) := by decide +kernel
theorem dX7_pressure_16 : decode cX7_pressure 16 = .ok (.dup, 1) := by decide +kernel
theorem dX7_pressure_17 : decode cX7_pressure 17 = .ok (.ldc 59, 2) := by decide +kernel
theorem dX7_pressure_19 : decode cX7_pressure 19 = .ok (.invokespecial 52, 3) := by decide +kernel
theorem dX7_pressure_22 : decode cX7_pressure 22 = .ok (.athrow, 1) := by decide +kernel
theorem dX7_pressure_23 : decode cX7_pressure 23 = .ok (.aload_n 0, 1) := by decide +kernel
theorem dX7_pressure_24 : decode cX7_pressure 24 = .ok (.getfield 10, 3) := by decide +kernel
theorem dX7_pressure_27 : decode cX7_pressure 27 = .ok (.iload_n 1, 1) := by decide +kernel
theorem dX7_pressure_28 : decode cX7_pressure 28 = .ok (.invokevirtual 61, 3) := by decide +kernel
theorem dX7_pressure_31 : decode cX7_pressure 31 = .ok (.ireturn, 1) := by decide +kernel
set_option maxRecDepth 20000 in
theorem ggX7_clock_X7_isOutside : GoodIn wsX7_clock wsX7_isOutside := goodIn_r _ [9] (by decide +kernel) (by decide +kernel)
set_option maxRecDepth 20000 in
theorem gX7_clock_X7_isOutside : GoodIn wsX7_clock (va_wsS RX7 44 yX7_isOutside wsX7_isOutside) := goodIn_app (goodIn_of _ (by decide +kernel)) ggX7_clock_X7_isOutside
set_option maxRecDepth 20000 in
theorem ggX7_clock_X7_isBadRegulation : GoodIn wsX7_clock wsX7_isBadRegulation := goodIn_r _ [12, 13, 14, 6, 7, 8, 9] (by decide +kernel) (by decide +kernel)
set_option maxRecDepth 20000 in
theorem gX7_clock_X7_isBadRegulation : GoodIn wsX7_clock (va_wsS RX7 66 yX7_isBadRegulation wsX7_isBadRegulation) := goodIn_app (goodIn_of _ (by decide +kernel)) ggX7_clock_X7_isBadRegulation
set_option maxRecDepth 20000 in
theorem ggX7_clock_X3_isFull : GoodIn wsX7_clock wsX3_isFull := goodIn_r _ [19, 20, 35, 36, 37, 38, 39, 40, 41, 42, 43, 44] (by decide +kernel) (by decide +kernel)
set_option maxRecDepth 20000 in
theorem gX7_clock_X3_isFull : GoodIn wsX7_clock (wsV RX7 72 RX3 yX3_isFull wsX3_isFull) := goodIn_app (goodIn_of _ (by decide +kernel)) ggX7_clock_X3_isFull
set_option maxRecDepth 20000 in
theorem ggX7_clock_X3_add : GoodIn wsX7_clock wsX3_add := goodIn_r _ [24, 20, 25, 26, 27, 28, 29, 35, 36, 37, 38, 39, 40, 41, 42, 43, 44] (by decide +kernel) (by decide +kernel)
set_option maxRecDepth 20000 in
theorem gX7_clock_X3_add : GoodIn wsX7_clock (wsV RX7 81 RX3 yX3_add wsX3_add) := goodIn_app (goodIn_of _ (by decide +kernel)) ggX7_clock_X3_add
theorem dX7_clock_0 : decode cX7_clock 0 = .ok (.iload_n 1, 1) := by decide +kernel
theorem dX7_clock_1 : decode cX7_clock 1 = .ok (.iconst 0, 1) := by decide +kernel
theorem dX7_clock_2 : decode cX7_clock 2 = .ok (.iconst 3, 1) := by decide +kernel
theorem dX7_clock_3 : decode cX7_clock 3 = .ok (.invokestatic 44, 3) := by decide +kernel
theorem dX7_clock_6 : decode cX7_clock 6 = .ok (.ifCond .eq 13, 3) := by decide +kernel
theorem dX7_clock_9 : decode cX7_clock 9 = .ok (.new 48, 3) := by decide +kernel
theorem dX7_clock_12 : decode cX7_clock 12 = .ok (.dup, 1) := by decide +kernel
theorem dX7_clock_13 : decode cX7_clock 13 = .ok (.ldc 64, 2) := by decide +kernel
theorem dX7_clock_15 : decode cX7_clock 15 = .ok (.invokespecial 52, 3) := by decide +kernel
theorem dX7_clock_18 : decode cX7_clock 18 = .ok (.athrow, 1) := by decide +kernel
theorem dX7_clock_19 : decode cX7_clock 19 = .ok (.iload_n 2, 1) := by decide +kernel
theorem dX7_clock_20 : decode cX7_clock 20 = .ok (.iload 4, 2) := by decide +kernel
theorem dX7_clock_22 : decode cX7_clock 22 = .ok (.invokestatic 66, 3) := by decide +kernel
theorem dX7_clock_25 : decode cX7_clock 25 = .ok (.ifCond .eq 13, 3) := by decide +kernel
theorem dX7_clock_28 : decode cX7_clock 28 = .ok (.new 48, 3) := by decide +kernel
theorem dX7_clock_31 : decode cX7_clock 31 = .ok (.dup, 1) := by decide +kernel
theorem dX7_clock_32 : decode cX7_clock 32 = .ok (.ldc 70, 2) := by decide +kernel
theorem dX7_clock_34 : decode cX7_clock 34 = .ok (.invokespecial 52, 3) := by decide +kernel
theorem dX7_clock_37 : decode cX7_clock 37 = .ok (.athrow, 1) := by decide +kernel
theorem dX7_clock_38 : decode cX7_clock 38 = .ok (.aload_n 0, 1) := by decide +kernel
theorem dX7_clock_39 : decode cX7_clock 39 = .ok (.getfield 10, 3) := by decide +kernel
theorem dX7_clock_42 : decode cX7_clock 42 = .ok (.invokevirtual 72, 3) := by decide +kernel
theorem dX7_clock_45 : decode cX7_clock 45 = .ok (.ifCond .eq 13, 3) := by decide +kernel
theorem dX7_clock_48 : decode cX7_clock 48 = .ok (.new 76, 3) := by decide +kernel
theorem dX7_clock_51 : decode cX7_clock 51 = .ok (.dup, 1) := by decide +kernel
theorem dX7_clock_52 : decode cX7_clock 52 = .ok (.ldc 78, 2) := by decide +kernel
theorem dX7_clock_54 : decode cX7_clock 54 = .ok (.invokespecial 80, 3) := by decide +kernel
theorem dX7_clock_57 : decode cX7_clock 57 = .ok (.athrow, 1) := by decide +kernel
theorem dX7_clock_58 : decode cX7_clock 58 = .ok (.aload_n 0, 1) := by decide +kernel
theorem dX7_clock_59 : decode cX7_clock 59 = .ok (.getfield 10, 3) := by decide +kernel
theorem dX7_clock_62 : decode cX7_clock 62 = .ok (.iload_n 1, 1) := by decide +kernel
theorem dX7_clock_63 : decode cX7_clock 63 = .ok (.iload_n 2, 1) := by decide +kernel
theorem dX7_clock_64 : decode cX7_clock 64 = .ok (.iload_n 3, 1) := by decide +kernel
theorem dX7_clock_65 : decode cX7_clock 65 = .ok (.iload 4, 2) := by decide +kernel
theorem dX7_clock_67 : decode cX7_clock 67 = .ok (.invokevirtual 81, 3) := by decide +kernel
theorem dX7_clock_70 : decode cX7_clock 70 = .ok (.ireturn, 1) := by decide +kernel
set_option maxRecDepth 20000 in
theorem ggX7_regulate_X3_has : GoodIn wsX7_regulate wsX3_has := goodIn_r _ [10, 11, 44, 45, 46, 47, 48, 49, 50, 51, 52, 53] (by decide +kernel) (by decide +kernel)
set_option maxRecDepth 20000 in
theorem gX7_regulate_X3_has : GoodIn wsX7_regulate (wsV RX7 85 RX3 yX3_has wsX3_has) := goodIn_app (goodIn_of _ (by decide +kernel)) ggX7_regulate_X3_has
set_option maxRecDepth 20000 in
theorem ggX7_regulate_X7_isBadRegulation : GoodIn wsX7_regulate wsX7_isBadRegulation := goodIn_r _ [15, 16, 17, 18, 19, 14, 20] (by decide +kernel) (by decide +kernel)
set_option maxRecDepth 20000 in
theorem gX7_regulate_X7_isBadRegulation : GoodIn wsX7_regulate (va_wsS RX7 66 yX7_isBadRegulation wsX7_isBadRegulation) := goodIn_app (goodIn_of _ (by decide +kernel)) ggX7_regulate_X7_isBadRegulation
set_option maxRecDepth 20000 in
theorem ggX7_regulate_X3_adjust : GoodIn wsX7_regulate wsX3_adjust := goodIn_r _ [24, 25, 26, 44, 45, 46, 47, 48, 49, 50, 51, 52, 53] (by decide +kernel) (by decide +kernel)
set_option maxRecDepth 20000 in
theorem gX7_regulate_X3_adjust : GoodIn wsX7_regulate (wsV RX7 94 RX3 yX3_adjust wsX3_adjust) := goodIn_app (goodIn_of _ (by decide +kernel)) ggX7_regulate_X3_adjust
set_option maxRecDepth 20000 in
theorem ggX7_regulate_X3_rateOf : GoodIn wsX7_regulate wsX3_rateOf := goodIn_r _ [30, 31, 32, 33, 25, 26, 34, 35, 36, 37, 38, 44, 45, 46, 47, 48, 49, 50, 51, 52, 53] (by decide +kernel) (by decide +kernel)
set_option maxRecDepth 20000 in
theorem gX7_regulate_X3_rateOf : GoodIn wsX7_regulate (wsV RX7 98 RX3 yX3_rateOf wsX3_rateOf) := goodIn_app (goodIn_of _ (by decide +kernel)) ggX7_regulate_X3_rateOf
theorem dX7_regulate_0 : decode cX7_regulate 0 = .ok (.aload_n 0, 1) := by decide +kernel
theorem dX7_regulate_1 : decode cX7_regulate 1 = .ok (.getfield 10, 3) := by decide +kernel
theorem dX7_regulate_4 : decode cX7_regulate 4 = .ok (.iload_n 1, 1) := by decide +kernel
theorem dX7_regulate_5 : decode cX7_regulate 5 = .ok (.invokevirtual 85, 3) := by decide +kernel
theorem dX7_regulate_8 : decode cX7_regulate 8 = .ok (.ifCond .ne 13, 3) := by decide +kernel
theorem dX7_regulate_11 : decode cX7_regulate 11 = .ok (.new 89, 3) := by decide +kernel
theorem dX7_regulate_14 : decode cX7_regulate 14 = .ok (.dup, 1) := by decide +kernel
theorem dX7_regulate_15 : decode cX7_regulate 15 = .ok (.ldc 91, 2) := by decide +kernel
theorem dX7_regulate_17 : decode cX7_regulate 17 = .ok (.invokespecial 93, 3) := by decide +kernel
theorem dX7_regulate_20 : decode cX7_regulate 20 = .ok (.athrow, 1) := by decide +kernel
theorem dX7_regulate_21 : decode cX7_regulate 21 = .ok (.iload_n 2, 1) := by decide +kernel
theorem dX7_regulate_22 : decode cX7_regulate 22 = .ok (.iload_n 3, 1) := by decide +kernel
theorem dX7_regulate_23 : decode cX7_regulate 23 = .ok (.invokestatic 66, 3) := by decide +kernel
theorem dX7_regulate_26 : decode cX7_regulate 26 = .ok (.ifCond .eq 13, 3) := by decide +kernel
theorem dX7_regulate_29 : decode cX7_regulate 29 = .ok (.new 48, 3) := by decide +kernel
theorem dX7_regulate_32 : decode cX7_regulate 32 = .ok (.dup, 1) := by decide +kernel
theorem dX7_regulate_33 : decode cX7_regulate 33 = .ok (.ldc 70, 2) := by decide +kernel
theorem dX7_regulate_35 : decode cX7_regulate 35 = .ok (.invokespecial 52, 3) := by decide +kernel
theorem dX7_regulate_38 : decode cX7_regulate 38 = .ok (.athrow, 1) := by decide +kernel
theorem dX7_regulate_39 : decode cX7_regulate 39 = .ok (.aload_n 0, 1) := by decide +kernel
theorem dX7_regulate_40 : decode cX7_regulate 40 = .ok (.getfield 10, 3) := by decide +kernel
theorem dX7_regulate_43 : decode cX7_regulate 43 = .ok (.iload_n 1, 1) := by decide +kernel
theorem dX7_regulate_44 : decode cX7_regulate 44 = .ok (.iload_n 2, 1) := by decide +kernel
theorem dX7_regulate_45 : decode cX7_regulate 45 = .ok (.iload_n 3, 1) := by decide +kernel
theorem dX7_regulate_46 : decode cX7_regulate 46 = .ok (.invokevirtual 94, 3) := by decide +kernel
theorem dX7_regulate_49 : decode cX7_regulate 49 = .ok (.aload_n 0, 1) := by decide +kernel
theorem dX7_regulate_50 : decode cX7_regulate 50 = .ok (.getfield 10, 3) := by decide +kernel
theorem dX7_regulate_53 : decode cX7_regulate 53 = .ok (.iload_n 1, 1) := by decide +kernel
theorem dX7_regulate_54 : decode cX7_regulate 54 = .ok (.invokevirtual 98, 3) := by decide +kernel
theorem dX7_regulate_57 : decode cX7_regulate 57 = .ok (.ireturn, 1) := by decide +kernel
set_option maxRecDepth 20000 in
theorem ggX7_set_X3_has : GoodIn wsX7_set wsX3_has := goodIn_r _ [12, 13, 28, 29, 30, 31, 32, 33, 34, 35, 36, 37] (by decide +kernel) (by decide +kernel)
set_option maxRecDepth 20000 in
theorem gX7_set_X3_has : GoodIn wsX7_set (wsV RX7 85 RX3 yX3_has wsX3_has) := goodIn_app (goodIn_of _ (by decide +kernel)) ggX7_set_X3_has
set_option maxRecDepth 20000 in
theorem ggX7_set_X7_isOutside : GoodIn wsX7_set wsX7_isOutside := goodIn_r _ [17] (by decide +kernel) (by decide +kernel)
set_option maxRecDepth 20000 in
theorem gX7_set_X7_isOutside : GoodIn wsX7_set (va_wsS RX7 44 yX7_isOutside wsX7_isOutside) := goodIn_app (goodIn_of _ (by decide +kernel)) ggX7_set_X7_isOutside
set_option maxRecDepth 20000 in
theorem ggX7_set_X3_swapOff : GoodIn wsX7_set wsX3_swapOff := goodIn_r _ [21, 22, 28, 29, 30, 31, 32, 33, 34, 35, 36, 37] (by decide +kernel) (by decide +kernel)
set_option maxRecDepth 20000 in
theorem gX7_set_X3_swapOff : GoodIn wsX7_set (wsV RX7 105 RX3 yX3_swapOff wsX3_swapOff) := goodIn_app (goodIn_of _ (by decide +kernel)) ggX7_set_X3_swapOff
theorem dX7_set_0 : decode cX7_set 0 = .ok (.aload_n 0, 1) := by decide +kernel
theorem dX7_set_1 : decode cX7_set 1 = .ok (.getfield 10, 3) := by decide +kernel
theorem dX7_set_4 : decode cX7_set 4 = .ok (.iload_n 1, 1) := by decide +kernel
theorem dX7_set_5 : decode cX7_set 5 = .ok (.invokevirtual 85, 3) := by decide +kernel
theorem dX7_set_8 : decode cX7_set 8 = .ok (.ifCond .ne 13, 3) := by decide +kernel
theorem dX7_set_11 : decode cX7_set 11 = .ok (.new 89, 3) := by decide +kernel
theorem dX7_set_14 : decode cX7_set 14 = .ok (.dup, 1) := by decide +kernel
theorem dX7_set_15 : decode cX7_set 15 = .ok (.ldc 91, 2) := by decide +kernel
theorem dX7_set_17 : decode cX7_set 17 = .ok (.invokespecial 93, 3) := by decide +kernel
theorem dX7_set_20 : decode cX7_set 20 = .ok (.athrow, 1) := by decide +kernel
theorem dX7_set_21 : decode cX7_set 21 = .ok (.iload_n 2, 1) := by decide +kernel
theorem dX7_set_22 : decode cX7_set 22 = .ok (.ldc 101, 2) := by decide +kernel
theorem dX7_set_24 : decode cX7_set 24 = .ok (.ldc 102, 2) := by decide +kernel
theorem dX7_set_26 : decode cX7_set 26 = .ok (.invokestatic 44, 3) := by decide +kernel
theorem dX7_set_29 : decode cX7_set 29 = .ok (.ifCond .eq 13, 3) := by decide +kernel
theorem dX7_set_32 : decode cX7_set 32 = .ok (.new 48, 3) := by decide +kernel
theorem dX7_set_35 : decode cX7_set 35 = .ok (.dup, 1) := by decide +kernel
theorem dX7_set_36 : decode cX7_set 36 = .ok (.ldc 103, 2) := by decide +kernel
theorem dX7_set_38 : decode cX7_set 38 = .ok (.invokespecial 52, 3) := by decide +kernel
theorem dX7_set_41 : decode cX7_set 41 = .ok (.athrow, 1) := by decide +kernel
theorem dX7_set_42 : decode cX7_set 42 = .ok (.aload_n 0, 1) := by decide +kernel
theorem dX7_set_43 : decode cX7_set 43 = .ok (.getfield 10, 3) := by decide +kernel
theorem dX7_set_46 : decode cX7_set 46 = .ok (.iload_n 1, 1) := by decide +kernel
theorem dX7_set_47 : decode cX7_set 47 = .ok (.iload_n 2, 1) := by decide +kernel
theorem dX7_set_48 : decode cX7_set 48 = .ok (.invokevirtual 105, 3) := by decide +kernel
theorem dX7_set_51 : decode cX7_set 51 = .ok (.lreturn, 1) := by decide +kernel
set_option maxRecDepth 20000 in
theorem ggX7_days_X7_isOutside : GoodIn wsX7_days wsX7_isOutside := goodIn_r _ [7] (by decide +kernel) (by decide +kernel)
set_option maxRecDepth 20000 in
theorem gX7_days_X7_isOutside : GoodIn wsX7_days (va_wsS RX7 44 yX7_isOutside wsX7_isOutside) := goodIn_app (goodIn_of _ (by decide +kernel)) ggX7_days_X7_isOutside
set_option maxRecDepth 20000 in
theorem ggX7_days_X3_goOn : GoodIn wsX7_days wsX3_goOn := goodIn_r _ [12, 13, 14, 15, 16, 17, 18, 11, 19, 20, 21, 22, 23, 24, 25, 26, 27, 28, 29, 35, 36, 37, 38, 39, 40, 41, 42, 43, 44] (by decide +kernel) (by decide +kernel)
set_option maxRecDepth 20000 in
theorem gX7_days_X3_goOn : GoodIn wsX7_days (wsV RX7 111 RX3 yX3_goOn wsX3_goOn) := goodIn_app (goodIn_of _ (by decide +kernel)) ggX7_days_X3_goOn
theorem dX7_days_0 : decode cX7_days 0 = .ok (.iload_n 1, 1) := by decide +kernel
theorem dX7_days_1 : decode cX7_days 1 = .ok (.iconst 1, 1) := by decide +kernel
theorem dX7_days_2 : decode cX7_days 2 = .ok (.sipush 10000, 3) := by decide +kernel
theorem dX7_days_5 : decode cX7_days 5 = .ok (.invokestatic 44, 3) := by decide +kernel
theorem dX7_days_8 : decode cX7_days 8 = .ok (.ifCond .eq 13, 3) := by decide +kernel
theorem dX7_days_11 : decode cX7_days 11 = .ok (.new 48, 3) := by decide +kernel
theorem dX7_days_14 : decode cX7_days 14 = .ok (.dup, 1) := by decide +kernel
theorem dX7_days_15 : decode cX7_days 15 = .ok (.ldc 109, 2) := by decide +kernel
theorem dX7_days_17 : decode cX7_days 17 = .ok (.invokespecial 52, 3) := by decide +kernel
theorem dX7_days_20 : decode cX7_days 20 = .ok (.athrow, 1) := by decide +kernel
theorem dX7_days_21 : decode cX7_days 21 = .ok (.aload_n 0, 1) := by decide +kernel
theorem dX7_days_22 : decode cX7_days 22 = .ok (.getfield 10, 3) := by decide +kernel
theorem dX7_days_25 : decode cX7_days 25 = .ok (.iload_n 1, 1) := by decide +kernel
theorem dX7_days_26 : decode cX7_days 26 = .ok (.invokevirtual 111, 3) := by decide +kernel
theorem dX7_days_29 : decode cX7_days 29 = .ok (.lreturn, 1) := by decide +kernel
set_option maxRecDepth 20000 in
theorem ggX7_rate_X3_has : GoodIn wsX7_rate wsX3_has := goodIn_r _ [8, 9, 29, 30, 31, 32, 33, 34, 35, 36, 37, 38] (by decide +kernel) (by decide +kernel)
set_option maxRecDepth 20000 in
theorem gX7_rate_X3_has : GoodIn wsX7_rate (wsV RX7 85 RX3 yX3_has wsX3_has) := goodIn_app (goodIn_of _ (by decide +kernel)) ggX7_rate_X3_has
set_option maxRecDepth 20000 in
theorem ggX7_rate_X3_rateOf : GoodIn wsX7_rate wsX3_rateOf := goodIn_r _ [13, 14, 15, 16, 17, 18, 19, 20, 21, 22, 23, 29, 30, 31, 32, 33, 34, 35, 36, 37, 38] (by decide +kernel) (by decide +kernel)
set_option maxRecDepth 20000 in
theorem gX7_rate_X3_rateOf : GoodIn wsX7_rate (wsV RX7 98 RX3 yX3_rateOf wsX3_rateOf) := goodIn_app (goodIn_of _ (by decide +kernel)) ggX7_rate_X3_rateOf
theorem dX7_rate_0 : decode cX7_rate 0 = .ok (.aload_n 0, 1) := by decide +kernel
theorem dX7_rate_1 : decode cX7_rate 1 = .ok (.getfield 10, 3) := by decide +kernel
theorem dX7_rate_4 : decode cX7_rate 4 = .ok (.iload_n 1, 1) := by decide +kernel
theorem dX7_rate_5 : decode cX7_rate 5 = .ok (.invokevirtual 85, 3) := by decide +kernel
theorem dX7_rate_8 : decode cX7_rate 8 = .ok (.ifCond .ne 13, 3) := by decide +kernel
theorem dX7_rate_11 : decode cX7_rate 11 = .ok (.new 89, 3) := by decide +kernel
theorem dX7_rate_14 : decode cX7_rate 14 = .ok (.dup, 1) := by decide +kernel
theorem dX7_rate_15 : decode cX7_rate 15 = .ok (.ldc 91, 2) := by decide +kernel
theorem dX7_rate_17 : decode cX7_rate 17 = .ok (.invokespecial 93, 3) := by decide +kernel
theorem dX7_rate_20 : decode cX7_rate 20 = .ok (.athrow, 1) := by decide +kernel
theorem dX7_rate_21 : decode cX7_rate 21 = .ok (.aload_n 0, 1) := by decide +kernel
theorem dX7_rate_22 : decode cX7_rate 22 = .ok (.getfield 10, 3) := by decide +kernel
theorem dX7_rate_25 : decode cX7_rate 25 = .ok (.iload_n 1, 1) := by decide +kernel
theorem dX7_rate_26 : decode cX7_rate 26 = .ok (.invokevirtual 98, 3) := by decide +kernel
theorem dX7_rate_29 : decode cX7_rate 29 = .ok (.ireturn, 1) := by decide +kernel
set_option maxRecDepth 20000 in
theorem ggX7_off_X3_has : GoodIn wsX7_off wsX3_has := goodIn_r _ [8, 9, 20, 21, 22, 23, 24, 25, 26, 27, 28, 29] (by decide +kernel) (by decide +kernel)
set_option maxRecDepth 20000 in
theorem gX7_off_X3_has : GoodIn wsX7_off (wsV RX7 85 RX3 yX3_has wsX3_has) := goodIn_app (goodIn_of _ (by decide +kernel)) ggX7_off_X3_has
set_option maxRecDepth 20000 in
theorem ggX7_off_X3_offOf : GoodIn wsX7_off wsX3_offOf := goodIn_r _ [13, 14, 20, 21, 22, 23, 24, 25, 26, 27, 28, 29] (by decide +kernel) (by decide +kernel)
set_option maxRecDepth 20000 in
theorem gX7_off_X3_offOf : GoodIn wsX7_off (wsV RX7 115 RX3 yX3_offOf wsX3_offOf) := goodIn_app (goodIn_of _ (by decide +kernel)) ggX7_off_X3_offOf
theorem dX7_off_0 : decode cX7_off 0 = .ok (.aload_n 0, 1) := by decide +kernel
theorem dX7_off_1 : decode cX7_off 1 = .ok (.getfield 10, 3) := by decide +kernel
theorem dX7_off_4 : decode cX7_off 4 = .ok (.iload_n 1, 1) := by decide +kernel
theorem dX7_off_5 : decode cX7_off 5 = .ok (.invokevirtual 85, 3) := by decide +kernel
theorem dX7_off_8 : decode cX7_off 8 = .ok (.ifCond .ne 13, 3) := by decide +kernel
theorem dX7_off_11 : decode cX7_off 11 = .ok (.new 89, 3) := by decide +kernel
theorem dX7_off_14 : decode cX7_off 14 = .ok (.dup, 1) := by decide +kernel
theorem dX7_off_15 : decode cX7_off 15 = .ok (.ldc 91, 2) := by decide +kernel
theorem dX7_off_17 : decode cX7_off 17 = .ok (.invokespecial 93, 3) := by decide +kernel
theorem dX7_off_20 : decode cX7_off 20 = .ok (.athrow, 1) := by decide +kernel
theorem dX7_off_21 : decode cX7_off 21 = .ok (.aload_n 0, 1) := by decide +kernel
theorem dX7_off_22 : decode cX7_off 22 = .ok (.getfield 10, 3) := by decide +kernel
theorem dX7_off_25 : decode cX7_off 25 = .ok (.iload_n 1, 1) := by decide +kernel
theorem dX7_off_26 : decode cX7_off 26 = .ok (.invokevirtual 115, 3) := by decide +kernel
theorem dX7_off_29 : decode cX7_off 29 = .ok (.lreturn, 1) := by decide +kernel
set_option maxRecDepth 20000 in
theorem ggX7_time_X3_number : GoodIn wsX7_time wsX3_number := goodIn_r _ [8, 9, 30, 31, 32, 33, 34, 35, 36, 37, 38, 39] (by decide +kernel) (by decide +kernel)
set_option maxRecDepth 20000 in
theorem gX7_time_X3_number : GoodIn wsX7_time (wsV RX7 118 RX3 yX3_number wsX3_number) := goodIn_app (goodIn_of _ (by decide +kernel)) ggX7_time_X3_number
set_option maxRecDepth 20000 in
theorem ggX7_time_X3_middle : GoodIn wsX7_time wsX3_middle := goodIn_r _ [13, 9, 14, 15, 16, 17, 18, 7, 19, 20, 21, 22, 23, 24, 30, 31, 32, 33, 34, 35, 36, 37, 38, 39] (by decide +kernel) (by decide +kernel)
set_option maxRecDepth 20000 in
theorem gX7_time_X3_middle : GoodIn wsX7_time (wsV RX7 124 RX3 yX3_middle wsX3_middle) := goodIn_app (goodIn_of _ (by decide +kernel)) ggX7_time_X3_middle
theorem dX7_time_0 : decode cX7_time 0 = .ok (.aload_n 0, 1) := by decide +kernel
theorem dX7_time_1 : decode cX7_time 1 = .ok (.getfield 10, 3) := by decide +kernel
theorem dX7_time_4 : decode cX7_time 4 = .ok (.invokevirtual 118, 3) := by decide +kernel
theorem dX7_time_7 : decode cX7_time 7 = .ok (.ifCond .ne 13, 3) := by decide +kernel
theorem dX7_time_10 : decode cX7_time 10 = .ok (.new 76, 3) := by decide +kernel
theorem dX7_time_13 : decode cX7_time 13 = .ok (.dup, 1) := by decide +kernel
theorem dX7_time_14 : decode cX7_time 14 = .ok (.ldc 122, 2) := by decide +kernel
theorem dX7_time_16 : decode cX7_time 16 = .ok (.invokespecial 80, 3) := by decide +kernel
theorem dX7_time_19 : decode cX7_time 19 = .ok (.athrow, 1) := by decide +kernel
theorem dX7_time_20 : decode cX7_time 20 = .ok (.aload_n 0, 1) := by decide +kernel
theorem dX7_time_21 : decode cX7_time 21 = .ok (.getfield 10, 3) := by decide +kernel
theorem dX7_time_24 : decode cX7_time 24 = .ok (.invokevirtual 124, 3) := by decide +kernel
theorem dX7_time_27 : decode cX7_time 27 = .ok (.lreturn, 1) := by decide +kernel
set_option maxRecDepth 20000 in
theorem ggX7_isTrusted_X3_has : GoodIn wsX7_isTrusted wsX3_has := goodIn_r _ [8, 9, 36, 37, 38, 39, 40, 41, 42, 43, 44, 45] (by decide +kernel) (by decide +kernel)
set_option maxRecDepth 20000 in
theorem gX7_isTrusted_X3_has : GoodIn wsX7_isTrusted (wsV RX7 85 RX3 yX3_has wsX3_has) := goodIn_app (goodIn_of _ (by decide +kernel)) ggX7_isTrusted_X3_has
set_option maxRecDepth 20000 in
theorem ggX7_isTrusted_X3_middle : GoodIn wsX7_isTrusted wsX3_middle := goodIn_r _ [13, 9, 14, 15, 16, 17, 18, 7, 19, 20, 21, 22, 23, 24, 36, 37, 38, 39, 40, 41, 42, 43, 44, 45] (by decide +kernel) (by decide +kernel)
set_option maxRecDepth 20000 in
theorem gX7_isTrusted_X3_middle : GoodIn wsX7_isTrusted (wsV RX7 124 RX3 yX3_middle wsX3_middle) := goodIn_app (goodIn_of _ (by decide +kernel)) ggX7_isTrusted_X3_middle
set_option maxRecDepth 20000 in
theorem ggX7_isTrusted_X3_isNear : GoodIn wsX7_isTrusted wsX3_isNear := goodIn_r _ [28, 20, 29, 30, 36, 37, 38, 39, 40, 41, 42, 43, 44, 45] (by decide +kernel) (by decide +kernel)
