set_option maxRecDepth 20000 in
theorem gX7_isTrusted_X3_isNear : GoodIn wsX7_isTrusted (wsV RX7 128 RX3 yX3_isNear wsX3_isNear) := goodIn_app (goodIn_of _ (by decide +kernel)) ggX7_isTrusted_X3_isNear
theorem dX7_isTrusted_0 : decode cX7_isTrusted 0 = .ok (.aload_n 0, 1) := by decide +kernel
theorem dX7_isTrusted_1 : decode cX7_isTrusted 1 = .ok (.getfield 10, 3) := by decide +kernel
theorem dX7_isTrusted_4 : decode cX7_isTrusted 4 = .ok (.iload_n 1, 1) := by decide +kernel
theorem dX7_isTrusted_5 : decode cX7_isTrusted 5 = .ok (.invokevirtual 85, 3) := by decide +kernel
theorem dX7_isTrusted_8 : decode cX7_isTrusted 8 = .ok (.ifCond .ne 13, 3) := by decide +kernel
theorem dX7_isTrusted_11 : decode cX7_isTrusted 11 = .ok (.new 89, 3) := by decide +kernel
theorem dX7_isTrusted_14 : decode cX7_isTrusted 14 = .ok (.dup, 1) := by decide +kernel
theorem dX7_isTrusted_15 : decode cX7_isTrusted 15 = .ok (.ldc 91, 2) := by decide +kernel
theorem dX7_isTrusted_17 : decode cX7_isTrusted 17 = .ok (.invokespecial 93, 3) := by decide +kernel
theorem dX7_isTrusted_20 : decode cX7_isTrusted 20 = .ok (.athrow, 1) := by decide +kernel
theorem dX7_isTrusted_21 : decode cX7_isTrusted 21 = .ok (.aload_n 0, 1) := by decide +kernel
theorem dX7_isTrusted_22 : decode cX7_isTrusted 22 = .ok (.getfield 10, 3) := by decide +kernel
theorem dX7_isTrusted_25 : decode cX7_isTrusted 25 = .ok (.iload_n 1, 1) := by decide +kernel
theorem dX7_isTrusted_26 : decode cX7_isTrusted 26 = .ok (.aload_n 0, 1) := by decide +kernel
theorem dX7_isTrusted_27 : decode cX7_isTrusted 27 = .ok (.getfield 10, 3) := by decide +kernel
theorem dX7_isTrusted_30 : decode cX7_isTrusted 30 = .ok (.invokevirtual 124, 3) := by decide +kernel
theorem dX7_isTrusted_33 : decode cX7_isTrusted 33 = .ok (.invokevirtual 128, 3) := by decide +kernel
theorem dX7_isTrusted_36 : decode cX7_isTrusted 36 = .ok (.ireturn, 1) := by decide +kernel
set_option maxRecDepth 20000 in
theorem ggX7_phase_X7_isBadBeam : GoodIn wsX7_phase wsX7_isBadBeam := goodIn_r _ [7, 8, 9, 6, 10] (by decide +kernel) (by decide +kernel)
set_option maxRecDepth 20000 in
theorem gX7_phase_X7_isBadBeam : GoodIn wsX7_phase (va_wsS RX7 132 yX7_isBadBeam wsX7_isBadBeam) := goodIn_app (goodIn_of _ (by decide +kernel)) ggX7_phase_X7_isBadBeam
set_option maxRecDepth 20000 in
theorem ggX7_phase_X7_isOutside : GoodIn wsX7_phase wsX7_isOutside := goodIn_r _ [10] (by decide +kernel) (by decide +kernel)
set_option maxRecDepth 20000 in
theorem gX7_phase_X7_isOutside : GoodIn wsX7_phase (va_wsS RX7 44 yX7_isOutside wsX7_isOutside) := goodIn_app (goodIn_of _ (by decide +kernel)) ggX7_phase_X7_isOutside
set_option maxRecDepth 20000 in
theorem ggX7_phase_X0_phaseBehind : GoodIn wsX7_phase wsX0_phaseBehind := goodIn_r _ [15, 16, 17, 14, 18, 19, 20, 21, 22, 23, 24, 25, 26, 27, 28] (by decide +kernel) (by decide +kernel)
set_option maxRecDepth 20000 in
theorem gX7_phase_X0_phaseBehind : GoodIn wsX7_phase (wsV RX7 137 RX0 yX0_phaseBehind wsX0_phaseBehind) := goodIn_app (goodIn_of _ (by decide +kernel)) ggX7_phase_X0_phaseBehind
theorem dX7_phase_0 : decode cX7_phase 0 = .ok (.iload_n 1, 1) := by decide +kernel
theorem dX7_phase_1 : decode cX7_phase 1 = .ok (.iload_n 2, 1) := by decide +kernel
theorem dX7_phase_2 : decode cX7_phase 2 = .ok (.iload_n 3, 1) := by decide +kernel
theorem dX7_phase_3 : decode cX7_phase 3 = .ok (.invokestatic 132, 3) := by decide +kernel
theorem dX7_phase_6 : decode cX7_phase 6 = .ok (.ifCond .ne 15, 3) := by decide +kernel
theorem dX7_phase_9 : decode cX7_phase 9 = .ok (.iload 4, 2) := by decide +kernel
theorem dX7_phase_11 : decode cX7_phase 11 = .ok (.iconst 0, 1) := by decide +kernel
theorem dX7_phase_12 : decode cX7_phase 12 = .ok (.sipush 10000, 3) := by decide +kernel
theorem dX7_phase_15 : decode cX7_phase 15 = .ok (.invokestatic 44, 3) := by decide +kernel
theorem dX7_phase_18 : decode cX7_phase 18 = .ok (.ifCond .eq 13, 3) := by decide +kernel
theorem dX7_phase_21 : decode cX7_phase 21 = .ok (.new 48, 3) := by decide +kernel
theorem dX7_phase_24 : decode cX7_phase 24 = .ok (.dup, 1) := by decide +kernel
theorem dX7_phase_25 : decode cX7_phase 25 = .ok (.ldc 135, 2) := by decide +kernel
theorem dX7_phase_27 : decode cX7_phase 27 = .ok (.invokespecial 52, 3) := by decide +kernel
theorem dX7_phase_30 : decode cX7_phase 30 = .ok (.athrow, 1) := by decide +kernel
theorem dX7_phase_31 : decode cX7_phase 31 = .ok (.aload_n 0, 1) := by decide +kernel
theorem dX7_phase_32 : decode cX7_phase 32 = .ok (.getfield 19, 3) := by decide +kernel
theorem dX7_phase_35 : decode cX7_phase 35 = .ok (.iload_n 1, 1) := by decide +kernel
theorem dX7_phase_36 : decode cX7_phase 36 = .ok (.iload_n 2, 1) := by decide +kernel
theorem dX7_phase_37 : decode cX7_phase 37 = .ok (.iload_n 3, 1) := by decide +kernel
theorem dX7_phase_38 : decode cX7_phase 38 = .ok (.iload 4, 2) := by decide +kernel
theorem dX7_phase_40 : decode cX7_phase 40 = .ok (.invokevirtual 137, 3) := by decide +kernel
theorem dX7_phase_43 : decode cX7_phase 43 = .ok (.ireturn, 1) := by decide +kernel
set_option maxRecDepth 20000 in
theorem ggX7_round_X7_isBadBeam : GoodIn wsX7_round wsX7_isBadBeam := goodIn_r _ [7, 8, 9, 6, 10] (by decide +kernel) (by decide +kernel)
set_option maxRecDepth 20000 in
theorem gX7_round_X7_isBadBeam : GoodIn wsX7_round (va_wsS RX7 132 yX7_isBadBeam wsX7_isBadBeam) := goodIn_app (goodIn_of _ (by decide +kernel)) ggX7_round_X7_isBadBeam
set_option maxRecDepth 20000 in
theorem ggX7_round_X7_isOutside : GoodIn wsX7_round wsX7_isOutside := goodIn_r _ [10] (by decide +kernel) (by decide +kernel)
set_option maxRecDepth 20000 in
theorem gX7_round_X7_isOutside : GoodIn wsX7_round (va_wsS RX7 44 yX7_isOutside wsX7_isOutside) := goodIn_app (goodIn_of _ (by decide +kernel)) ggX7_round_X7_isOutside
set_option maxRecDepth 20000 in
theorem ggX7_round_X0_seekRound : GoodIn wsX7_round wsX0_seekRound := goodIn_r _ [15, 16, 17, 18, 19, 20, 21, 22, 23, 24, 14, 25, 26, 27, 28, 29, 30, 31, 32, 33, 34, 35, 53, 54, 55, 56, 57, 58, 59] (by decide +kernel) (by decide +kernel)
set_option maxRecDepth 20000 in
theorem gX7_round_X0_seekRound : GoodIn wsX7_round (wsV RX7 143 RX0 yX0_seekRound wsX0_seekRound) := goodIn_app (goodIn_of _ (by decide +kernel)) ggX7_round_X0_seekRound
set_option maxRecDepth 20000 in
theorem ggX7_round_X0_periodFound : GoodIn wsX7_round wsX0_periodFound := goodIn_r _ [39, 20, 53, 54, 55, 56, 57, 58, 59] (by decide +kernel) (by decide +kernel)
set_option maxRecDepth 20000 in
theorem gX7_round_X0_periodFound : GoodIn wsX7_round (wsV RX7 146 RX0 yX0_periodFound wsX0_periodFound) := goodIn_app (goodIn_of _ (by decide +kernel)) ggX7_round_X0_periodFound
set_option maxRecDepth 20000 in
theorem ggX7_round_X0_turnsFound : GoodIn wsX7_round wsX0_turnsFound := goodIn_r _ [43, 22, 53, 54, 55, 56, 57, 58, 59] (by decide +kernel) (by decide +kernel)
set_option maxRecDepth 20000 in
theorem gX7_round_X0_turnsFound : GoodIn wsX7_round (wsV RX7 149 RX0 yX0_turnsFound wsX0_turnsFound) := goodIn_app (goodIn_of _ (by decide +kernel)) ggX7_round_X0_turnsFound
set_option maxRecDepth 20000 in
theorem ggX7_round_X0_leadFound : GoodIn wsX7_round wsX0_leadFound := goodIn_r _ [47, 19, 53, 54, 55, 56, 57, 58, 59] (by decide +kernel) (by decide +kernel)
set_option maxRecDepth 20000 in
theorem gX7_round_X0_leadFound : GoodIn wsX7_round (wsV RX7 152 RX0 yX0_leadFound wsX0_leadFound) := goodIn_app (goodIn_of _ (by decide +kernel)) ggX7_round_X0_leadFound
theorem dX7_round_0 : decode cX7_round 0 = .ok (.iload_n 1, 1) := by decide +kernel
theorem dX7_round_1 : decode cX7_round 1 = .ok (.iload_n 2, 1) := by decide +kernel
theorem dX7_round_2 : decode cX7_round 2 = .ok (.iload_n 3, 1) := by decide +kernel
theorem dX7_round_3 : decode cX7_round 3 = .ok (.invokestatic 132, 3) := by decide +kernel
theorem dX7_round_6 : decode cX7_round 6 = .ok (.ifCond .ne 13, 3) := by decide +kernel
theorem dX7_round_9 : decode cX7_round 9 = .ok (.iload 4, 2) := by decide +kernel
theorem dX7_round_11 : decode cX7_round 11 = .ok (.iconst 0, 1) := by decide +kernel
theorem dX7_round_12 : decode cX7_round 12 = .ok (.iconst 2, 1) := by decide +kernel
theorem dX7_round_13 : decode cX7_round 13 = .ok (.invokestatic 44, 3) := by decide +kernel
theorem dX7_round_16 : decode cX7_round 16 = .ok (.ifCond .eq 13, 3) := by decide +kernel
theorem dX7_round_19 : decode cX7_round 19 = .ok (.new 48, 3) := by decide +kernel
theorem dX7_round_22 : decode cX7_round 22 = .ok (.dup, 1) := by decide +kernel
theorem dX7_round_23 : decode cX7_round 23 = .ok (.ldc 141, 2) := by decide +kernel
theorem dX7_round_25 : decode cX7_round 25 = .ok (.invokespecial 52, 3) := by decide +kernel
theorem dX7_round_28 : decode cX7_round 28 = .ok (.athrow, 1) := by decide +kernel
theorem dX7_round_29 : decode cX7_round 29 = .ok (.aload_n 0, 1) := by decide +kernel
theorem dX7_round_30 : decode cX7_round 30 = .ok (.getfield 19, 3) := by decide +kernel
theorem dX7_round_33 : decode cX7_round 33 = .ok (.iload_n 1, 1) := by decide +kernel
theorem dX7_round_34 : decode cX7_round 34 = .ok (.iload_n 2, 1) := by decide +kernel
theorem dX7_round_35 : decode cX7_round 35 = .ok (.iload_n 3, 1) := by decide +kernel
theorem dX7_round_36 : decode cX7_round 36 = .ok (.invokevirtual 143, 3) := by decide +kernel
theorem dX7_round_39 : decode cX7_round 39 = .ok (.iload 4, 2) := by decide +kernel
theorem dX7_round_41 : decode cX7_round 41 = .ok (.ifCond .ne 11, 3) := by decide +kernel
theorem dX7_round_44 : decode cX7_round 44 = .ok (.aload_n 0, 1) := by decide +kernel
theorem dX7_round_45 : decode cX7_round 45 = .ok (.getfield 19, 3) := by decide +kernel
theorem dX7_round_48 : decode cX7_round 48 = .ok (.invokevirtual 146, 3) := by decide +kernel
theorem dX7_round_51 : decode cX7_round 51 = .ok (.ireturn, 1) := by decide +kernel
theorem dX7_round_52 : decode cX7_round 52 = .ok (.iload 4, 2) := by decide +kernel
theorem dX7_round_54 : decode cX7_round 54 = .ok (.iconst 1, 1) := by decide +kernel
theorem dX7_round_55 : decode cX7_round 55 = .ok (.if_icmp .ne 13, 3) := by decide +kernel
theorem dX7_round_58 : decode cX7_round 58 = .ok (.aload_n 0, 1) := by decide +kernel
theorem dX7_round_59 : decode cX7_round 59 = .ok (.getfield 19, 3) := by decide +kernel
theorem dX7_round_62 : decode cX7_round 62 = .ok (.invokevirtual 149, 3) := by decide +kernel
theorem dX7_round_65 : decode cX7_round 65 = .ok (.goto 10, 3) := by decide +kernel
theorem dX7_round_68 : decode cX7_round 68 = .ok (.aload_n 0, 1) := by decide +kernel
theorem dX7_round_69 : decode cX7_round 69 = .ok (.getfield 19, 3) := by decide +kernel
theorem dX7_round_72 : decode cX7_round 72 = .ok (.invokevirtual 152, 3) := by decide +kernel
theorem dX7_round_75 : decode cX7_round 75 = .ok (.ireturn, 1) := by decide +kernel
set_option maxRecDepth 20000 in
theorem ggX7_tongue_X7_isOutside : GoodIn wsX7_tongue wsX7_isOutside := goodIn_r _ [7] (by decide +kernel) (by decide +kernel)
set_option maxRecDepth 20000 in
theorem gX7_tongue_X7_isOutside : GoodIn wsX7_tongue (va_wsS RX7 44 yX7_isOutside wsX7_isOutside) := goodIn_app (goodIn_of _ (by decide +kernel)) ggX7_tongue_X7_isOutside
set_option maxRecDepth 20000 in
theorem ggX7_tongue_X0_countLocks : GoodIn wsX7_tongue wsX0_countLocks := goodIn_r _ [12, 13, 14, 15, 16, 17, 11, 18, 19, 20, 21, 22, 23, 24, 25, 26, 27, 28, 29, 30, 31, 32, 33, 34, 35, 36, 42, 43, 44, 45, 46, 47, 48] (by decide +kernel) (by decide +kernel)
set_option maxRecDepth 20000 in
theorem gX7_tongue_X0_countLocks : GoodIn wsX7_tongue (wsV RX7 157 RX0 yX0_countLocks wsX0_countLocks) := goodIn_app (goodIn_of _ (by decide +kernel)) ggX7_tongue_X0_countLocks
theorem dX7_tongue_0 : decode cX7_tongue 0 = .ok (.iload_n 1, 1) := by decide +kernel
theorem dX7_tongue_1 : decode cX7_tongue 1 = .ok (.iconst 0, 1) := by decide +kernel
theorem dX7_tongue_2 : decode cX7_tongue 2 = .ok (.sipush 300, 3) := by decide +kernel
theorem dX7_tongue_5 : decode cX7_tongue 5 = .ok (.invokestatic 44, 3) := by decide +kernel
theorem dX7_tongue_8 : decode cX7_tongue 8 = .ok (.ifCond .ne 23, 3) := by decide +kernel
theorem dX7_tongue_11 : decode cX7_tongue 11 = .ok (.iload_n 2, 1) := by decide +kernel
theorem dX7_tongue_12 : decode cX7_tongue 12 = .ok (.iconst 0, 1) := by decide +kernel
theorem dX7_tongue_13 : decode cX7_tongue 13 = .ok (.bipush 100, 2) := by decide +kernel
theorem dX7_tongue_15 : decode cX7_tongue 15 = .ok (.invokestatic 44, 3) := by decide +kernel
theorem dX7_tongue_18 : decode cX7_tongue 18 = .ok (.ifCond .ne 13, 3) := by decide +kernel
theorem dX7_tongue_21 : decode cX7_tongue 21 = .ok (.iload_n 3, 1) := by decide +kernel
theorem dX7_tongue_22 : decode cX7_tongue 22 = .ok (.iconst 1, 1) := by decide +kernel
theorem dX7_tongue_23 : decode cX7_tongue 23 = .ok (.bipush 100, 2) := by decide +kernel
theorem dX7_tongue_25 : decode cX7_tongue 25 = .ok (.invokestatic 44, 3) := by decide +kernel
theorem dX7_tongue_28 : decode cX7_tongue 28 = .ok (.ifCond .eq 13, 3) := by decide +kernel
theorem dX7_tongue_31 : decode cX7_tongue 31 = .ok (.new 48, 3) := by decide +kernel
theorem dX7_tongue_34 : decode cX7_tongue 34 = .ok (.dup, 1) := by decide +kernel
theorem dX7_tongue_35 : decode cX7_tongue 35 = .ok (.ldc 155, 2) := by decide +kernel
theorem dX7_tongue_37 : decode cX7_tongue 37 = .ok (.invokespecial 52, 3) := by decide +kernel
theorem dX7_tongue_40 : decode cX7_tongue 40 = .ok (.athrow, 1) := by decide +kernel
theorem dX7_tongue_41 : decode cX7_tongue 41 = .ok (.aload_n 0, 1) := by decide +kernel
theorem dX7_tongue_42 : decode cX7_tongue 42 = .ok (.getfield 19, 3) := by decide +kernel
theorem dX7_tongue_45 : decode cX7_tongue 45 = .ok (.iload_n 1, 1) := by decide +kernel
theorem dX7_tongue_46 : decode cX7_tongue 46 = .ok (.iload_n 2, 1) := by decide +kernel
theorem dX7_tongue_47 : decode cX7_tongue 47 = .ok (.iload_n 3, 1) := by decide +kernel
theorem dX7_tongue_48 : decode cX7_tongue 48 = .ok (.invokevirtual 157, 3) := by decide +kernel
theorem dX7_tongue_51 : decode cX7_tongue 51 = .ok (.ireturn, 1) := by decide +kernel
set_option maxRecDepth 20000 in
theorem ggX7_together_X7_isBadBeat : GoodIn wsX7_together wsX7_isBadBeat := goodIn_r _ [6, 7, 8, 9, 10, 5, 11] (by decide +kernel) (by decide +kernel)
set_option maxRecDepth 20000 in
theorem gX7_together_X7_isBadBeat : GoodIn wsX7_together (va_wsS RX7 161 yX7_isBadBeat wsX7_isBadBeat) := goodIn_app (goodIn_of _ (by decide +kernel)) ggX7_together_X7_isBadBeat
set_option maxRecDepth 20000 in
theorem ggX7_together_X1_byRemainders : GoodIn wsX7_together wsX1_byRemainders := goodIn_r _ [15] (by decide +kernel) (by decide +kernel)
set_option maxRecDepth 20000 in
theorem gX7_together_X1_byRemainders : GoodIn wsX7_together (va_wsS RX7 167 yX1_byRemainders wsX1_byRemainders) := goodIn_app (goodIn_of _ (by decide +kernel)) ggX7_together_X1_byRemainders
theorem dX7_together_0 : decode cX7_together 0 = .ok (.iload_n 1, 1) := by decide +kernel
theorem dX7_together_1 : decode cX7_together 1 = .ok (.iload_n 2, 1) := by decide +kernel
theorem dX7_together_2 : decode cX7_together 2 = .ok (.iload_n 3, 1) := by decide +kernel
theorem dX7_together_3 : decode cX7_together 3 = .ok (.iconst 1, 1) := by decide +kernel
theorem dX7_together_4 : decode cX7_together 4 = .ok (.invokestatic 161, 3) := by decide +kernel
theorem dX7_together_7 : decode cX7_together 7 = .ok (.ifCond .eq 13, 3) := by decide +kernel
theorem dX7_together_10 : decode cX7_together 10 = .ok (.new 48, 3) := by decide +kernel
theorem dX7_together_13 : decode cX7_together 13 = .ok (.dup, 1) := by decide +kernel
theorem dX7_together_14 : decode cX7_together 14 = .ok (.ldc 165, 2) := by decide +kernel
theorem dX7_together_16 : decode cX7_together 16 = .ok (.invokespecial 52, 3) := by decide +kernel
theorem dX7_together_19 : decode cX7_together 19 = .ok (.athrow, 1) := by decide +kernel
theorem dX7_together_20 : decode cX7_together 20 = .ok (.iload_n 1, 1) := by decide +kernel
theorem dX7_together_21 : decode cX7_together 21 = .ok (.iload_n 2, 1) := by decide +kernel
theorem dX7_together_22 : decode cX7_together 22 = .ok (.iload_n 3, 1) := by decide +kernel
theorem dX7_together_23 : decode cX7_together 23 = .ok (.invokestatic 167, 3) := by decide +kernel
theorem dX7_together_26 : decode cX7_together 26 = .ok (.ireturn, 1) := by decide +kernel
set_option maxRecDepth 20000 in
theorem ggX7_togetherAnew_X7_isBadBeat : GoodIn wsX7_togetherAnew wsX7_isBadBeat := goodIn_r _ [7, 8, 9, 10, 11, 6, 12] (by decide +kernel) (by decide +kernel)
set_option maxRecDepth 20000 in
theorem gX7_togetherAnew_X7_isBadBeat : GoodIn wsX7_togetherAnew (va_wsS RX7 161 yX7_isBadBeat wsX7_isBadBeat) := goodIn_app (goodIn_of _ (by decide +kernel)) ggX7_togetherAnew_X7_isBadBeat
set_option maxRecDepth 20000 in
theorem ggX7_togetherAnew_X1_byCounting : GoodIn wsX7_togetherAnew wsX1_byCounting := goodIn_r _ [16, 17] (by decide +kernel) (by decide +kernel)
set_option maxRecDepth 20000 in
theorem gX7_togetherAnew_X1_byCounting : GoodIn wsX7_togetherAnew (va_wsS RX7 175 yX1_byCounting wsX1_byCounting) := goodIn_app (goodIn_of _ (by decide +kernel)) ggX7_togetherAnew_X1_byCounting
theorem dX7_togetherAnew_0 : decode cX7_togetherAnew 0 = .ok (.iload_n 1, 1) := by decide +kernel
theorem dX7_togetherAnew_1 : decode cX7_togetherAnew 1 = .ok (.iload_n 2, 1) := by decide +kernel
theorem dX7_togetherAnew_2 : decode cX7_togetherAnew 2 = .ok (.iload_n 3, 1) := by decide +kernel
theorem dX7_togetherAnew_3 : decode cX7_togetherAnew 3 = .ok (.ldc 172, 2) := by decide +kernel
theorem dX7_togetherAnew_5 : decode cX7_togetherAnew 5 = .ok (.invokestatic 161, 3) := by decide +kernel
theorem dX7_togetherAnew_8 : decode cX7_togetherAnew 8 = .ok (.ifCond .eq 13, 3) := by decide +kernel
theorem dX7_togetherAnew_11 : decode cX7_togetherAnew 11 = .ok (.new 48, 3) := by decide +kernel
theorem dX7_togetherAnew_14 : decode cX7_togetherAnew 14 = .ok (.dup, 1) := by decide +kernel
theorem dX7_togetherAnew_15 : decode cX7_togetherAnew 15 = .ok (.ldc 173, 2) := by decide +kernel
theorem dX7_togetherAnew_17 : decode cX7_togetherAnew 17 = .ok (.invokespecial 52, 3) := by decide +kernel
theorem dX7_togetherAnew_20 : decode cX7_togetherAnew 20 = .ok (.athrow, 1) := by decide +kernel
theorem dX7_togetherAnew_21 : decode cX7_togetherAnew 21 = .ok (.iload_n 1, 1) := by decide +kernel
theorem dX7_togetherAnew_22 : decode cX7_togetherAnew 22 = .ok (.iload_n 2, 1) := by decide +kernel
theorem dX7_togetherAnew_23 : decode cX7_togetherAnew 23 = .ok (.iload_n 3, 1) := by decide +kernel
theorem dX7_togetherAnew_24 : decode cX7_togetherAnew 24 = .ok (.invokestatic 175, 3) := by decide +kernel
theorem dX7_togetherAnew_27 : decode cX7_togetherAnew 27 = .ok (.ireturn, 1) := by decide +kernel
set_option maxRecDepth 20000 in
theorem ggX7_datum_X7_isNoStation : GoodIn wsX7_datum wsX7_isNoStation := goodIn_r _ [11, 12, 13, 10, 14] (by decide +kernel) (by decide +kernel)
set_option maxRecDepth 20000 in
theorem gX7_datum_X7_isNoStation : GoodIn wsX7_datum (va_wsS RX7 178 yX7_isNoStation wsX7_isNoStation) := goodIn_app (goodIn_of _ (by decide +kernel)) ggX7_datum_X7_isNoStation
set_option maxRecDepth 20000 in
theorem ggX7_datum_X7_isOutside : GoodIn wsX7_datum wsX7_isOutside := goodIn_r _ [14] (by decide +kernel) (by decide +kernel)
set_option maxRecDepth 20000 in
theorem gX7_datum_X7_isOutside : GoodIn wsX7_datum (va_wsS RX7 44 yX7_isOutside wsX7_isOutside) := goodIn_app (goodIn_of _ (by decide +kernel)) ggX7_datum_X7_isOutside
set_option maxRecDepth 20000 in
theorem ggX7_datum_X5_moveDatum : GoodIn wsX7_datum wsX5_moveDatum := goodIn_r _ [19, 20, 21, 27, 28, 29, 30, 31, 32, 33, 34, 35] (by decide +kernel) (by decide +kernel)
set_option maxRecDepth 20000 in
theorem gX7_datum_X5_moveDatum : GoodIn wsX7_datum (wsV RX7 187 RX5 yX5_moveDatum wsX5_moveDatum) := goodIn_app (goodIn_of _ (by decide +kernel)) ggX7_datum_X5_moveDatum
theorem dX7_datum_0 : decode cX7_datum 0 = .ok (.iload_n 1, 1) := by decide +kernel
theorem dX7_datum_1 : decode cX7_datum 1 = .ok (.invokestatic 178, 3) := by decide +kernel
theorem dX7_datum_4 : decode cX7_datum 4 = .ok (.ifCond .eq 13, 3) := by decide +kernel
theorem dX7_datum_7 : decode cX7_datum 7 = .ok (.new 89, 3) := by decide +kernel
theorem dX7_datum_10 : decode cX7_datum 10 = .ok (.dup, 1) := by decide +kernel
theorem dX7_datum_11 : decode cX7_datum 11 = .ok (.ldc 181, 2) := by decide +kernel
theorem dX7_datum_13 : decode cX7_datum 13 = .ok (.invokespecial 93, 3) := by decide +kernel
theorem dX7_datum_16 : decode cX7_datum 16 = .ok (.athrow, 1) := by decide +kernel
theorem dX7_datum_17 : decode cX7_datum 17 = .ok (.iload_n 2, 1) := by decide +kernel
theorem dX7_datum_18 : decode cX7_datum 18 = .ok (.ldc 183, 2) := by decide +kernel
theorem dX7_datum_20 : decode cX7_datum 20 = .ok (.ldc 184, 2) := by decide +kernel
theorem dX7_datum_22 : decode cX7_datum 22 = .ok (.invokestatic 44, 3) := by decide +kernel
theorem dX7_datum_25 : decode cX7_datum 25 = .ok (.ifCond .eq 13, 3) := by decide +kernel
theorem dX7_datum_28 : decode cX7_datum 28 = .ok (.new 48, 3) := by decide +kernel
theorem dX7_datum_31 : decode cX7_datum 31 = .ok (.dup, 1) := by decide +kernel
theorem dX7_datum_32 : decode cX7_datum 32 = .ok (.ldc 185, 2) := by decide +kernel
theorem dX7_datum_34 : decode cX7_datum 34 = .ok (.invokespecial 52, 3) := by decide +kernel
theorem dX7_datum_37 : decode cX7_datum 37 = .ok (.athrow, 1) := by decide +kernel
theorem dX7_datum_38 : decode cX7_datum 38 = .ok (.aload_n 0, 1) := by decide +kernel
theorem dX7_datum_39 : decode cX7_datum 39 = .ok (.getfield 26, 3) := by decide +kernel
theorem dX7_datum_42 : decode cX7_datum 42 = .ok (.iload_n 1, 1) := by decide +kernel
theorem dX7_datum_43 : decode cX7_datum 43 = .ok (.iload_n 2, 1) := by decide +kernel
theorem dX7_datum_44 : decode cX7_datum 44 = .ok (.invokevirtual 187, 3) := by decide +kernel
theorem dX7_datum_47 : decode cX7_datum 47 = .ok (.return_, 1) := by decide +kernel
set_option maxRecDepth 20000 in
theorem ggX7_read_X7_isNoStation : GoodIn wsX7_read wsX7_isNoStation := goodIn_r _ [13, 14, 15, 12, 16] (by decide +kernel) (by decide +kernel)
set_option maxRecDepth 20000 in
theorem gX7_read_X7_isNoStation : GoodIn wsX7_read (va_wsS RX7 178 yX7_isNoStation wsX7_isNoStation) := goodIn_app (goodIn_of _ (by decide +kernel)) ggX7_read_X7_isNoStation
set_option maxRecDepth 20000 in
theorem ggX7_read_X7_isOutside : GoodIn wsX7_read wsX7_isOutside := goodIn_r _ [16] (by decide +kernel) (by decide +kernel)
set_option maxRecDepth 20000 in
theorem gX7_read_X7_isOutside : GoodIn wsX7_read (va_wsS RX7 44 yX7_isOutside wsX7_isOutside) := goodIn_app (goodIn_of _ (by decide +kernel)) ggX7_read_X7_isOutside
set_option maxRecDepth 20000 in
theorem ggX7_read_X5_isLater : GoodIn wsX7_read wsX5_isLater := goodIn_r _ [21, 22, 23, 39, 40, 41, 42, 43, 44, 45, 46, 47] (by decide +kernel) (by decide +kernel)
set_option maxRecDepth 20000 in
theorem gX7_read_X5_isLater : GoodIn wsX7_read (wsV RX7 191 RX5 yX5_isLater wsX5_isLater) := goodIn_app (goodIn_of _ (by decide +kernel)) ggX7_read_X5_isLater
set_option maxRecDepth 20000 in
theorem ggX7_read_X5_isFull : GoodIn wsX7_read wsX5_isFull := goodIn_r _ [27, 22, 39, 40, 41, 42, 43, 44, 45, 46, 47] (by decide +kernel) (by decide +kernel)
set_option maxRecDepth 20000 in
theorem gX7_read_X5_isFull : GoodIn wsX7_read (wsV RX7 196 RX5 yX5_isFull wsX5_isFull) := goodIn_app (goodIn_of _ (by decide +kernel)) ggX7_read_X5_isFull
set_option maxRecDepth 20000 in
theorem ggX7_read_X5_add : GoodIn wsX7_read wsX5_add := goodIn_r _ [31, 32, 22, 23, 33, 39, 40, 41, 42, 43, 44, 45, 46, 47] (by decide +kernel) (by decide +kernel)
set_option maxRecDepth 20000 in
theorem gX7_read_X5_add : GoodIn wsX7_read (wsV RX7 199 RX5 yX5_add wsX5_add) := goodIn_app (goodIn_of _ (by decide +kernel)) ggX7_read_X5_add
theorem dX7_read_0 : decode cX7_read 0 = .ok (.iload_n 1, 1) := by decide +kernel
theorem dX7_read_1 : decode cX7_read 1 = .ok (.invokestatic 178, 3) := by decide +kernel
theorem dX7_read_4 : decode cX7_read 4 = .ok (.ifCond .eq 13, 3) := by decide +kernel
theorem dX7_read_7 : decode cX7_read 7 = .ok (.new 89, 3) := by decide +kernel
theorem dX7_read_10 : decode cX7_read 10 = .ok (.dup, 1) := by decide +kernel
theorem dX7_read_11 : decode cX7_read 11 = .ok (.ldc 181, 2) := by decide +kernel
theorem dX7_read_13 : decode cX7_read 13 = .ok (.invokespecial 93, 3) := by decide +kernel
theorem dX7_read_16 : decode cX7_read 16 = .ok (.athrow, 1) := by decide +kernel
theorem dX7_read_17 : decode cX7_read 17 = .ok (.iload_n 2, 1) := by decide +kernel
theorem dX7_read_18 : decode cX7_read 18 = .ok (.iconst 0, 1) := by decide +kernel
theorem dX7_read_19 : decode cX7_read 19 = .ok (.sipush 10000, 3) := by decide +kernel
theorem dX7_read_22 : decode cX7_read 22 = .ok (.invokestatic 44, 3) := by decide +kernel
theorem dX7_read_25 : decode cX7_read 25 = .ok (.ifCond .ne 25, 3) := by decide +kernel
theorem dX7_read_28 : decode cX7_read 28 = .ok (.iload_n 3, 1) := by decide +kernel
theorem dX7_read_29 : decode cX7_read 29 = .ok (.ldc 183, 2) := by decide +kernel
theorem dX7_read_31 : decode cX7_read 31 = .ok (.ldc 184, 2) := by decide +kernel
theorem dX7_read_33 : decode cX7_read 33 = .ok (.invokestatic 44, 3) := by decide +kernel
theorem dX7_read_36 : decode cX7_read 36 = .ok (.ifCond .ne 14, 3) := by decide +kernel
theorem dX7_read_39 : decode cX7_read 39 = .ok (.aload_n 0, 1) := by decide +kernel
theorem dX7_read_40 : decode cX7_read 40 = .ok (.getfield 26, 3) := by decide +kernel
theorem dX7_read_43 : decode cX7_read 43 = .ok (.iload_n 2, 1) := by decide +kernel
theorem dX7_read_44 : decode cX7_read 44 = .ok (.invokevirtual 191, 3) := by decide +kernel
theorem dX7_read_47 : decode cX7_read 47 = .ok (.ifCond .ne 13, 3) := by decide +kernel
theorem dX7_read_50 : decode cX7_read 50 = .ok (.new 48, 3) := by decide +kernel
theorem dX7_read_53 : decode cX7_read 53 = .ok (.dup, 1) := by decide +kernel
theorem dX7_read_54 : decode cX7_read 54 = .ok (.ldc 194, 2) := by decide +kernel
theorem dX7_read_56 : decode cX7_read 56 = .ok (.invokespecial 52, 3) := by decide +kernel
theorem dX7_read_59 : decode cX7_read 59 = .ok (.athrow, 1) := by decide +kernel
theorem dX7_read_60 : decode cX7_read 60 = .ok (.aload_n 0, 1) := by decide +kernel
theorem dX7_read_61 : decode cX7_read 61 = .ok (.getfield 26, 3) := by decide +kernel
theorem dX7_read_64 : decode cX7_read 64 = .ok (.invokevirtual 196, 3) := by decide +kernel
theorem dX7_read_67 : decode cX7_read 67 = .ok (.ifCond .eq 13, 3) := by decide +kernel
theorem dX7_read_70 : decode cX7_read 70 = .ok (.new 76, 3) := by decide +kernel
theorem dX7_read_73 : decode cX7_read 73 = .ok (.dup, 1) := by decide +kernel
theorem dX7_read_74 : decode cX7_read 74 = .ok (.ldc 197, 2) := by decide +kernel
theorem dX7_read_76 : decode cX7_read 76 = .ok (.invokespecial 80, 3) := by decide +kernel
theorem dX7_read_79 : decode cX7_read 79 = .ok (.athrow, 1) := by decide +kernel
theorem dX7_read_80 : decode cX7_read 80 = .ok (.aload_n 0, 1) := by decide +kernel
theorem dX7_read_81 : decode cX7_read 81 = .ok (.getfield 26, 3) := by decide +kernel
theorem dX7_read_84 : decode cX7_read 84 = .ok (.iload_n 1, 1) := by decide +kernel
theorem dX7_read_85 : decode cX7_read 85 = .ok (.iload_n 2, 1) := by decide +kernel
theorem dX7_read_86 : decode cX7_read 86 = .ok (.iload_n 3, 1) := by decide +kernel
theorem dX7_read_87 : decode cX7_read 87 = .ok (.invokevirtual 199, 3) := by decide +kernel
theorem dX7_read_90 : decode cX7_read 90 = .ok (.ireturn, 1) := by decide +kernel
set_option maxRecDepth 20000 in
theorem ggX7_close_X5_canClose : GoodIn wsX7_close wsX5_canClose := goodIn_r _ [8, 9, 10, 11, 38, 39, 40, 41, 42, 43, 44, 45, 46] (by decide +kernel) (by decide +kernel)
set_option maxRecDepth 20000 in
theorem gX7_close_X5_canClose : GoodIn wsX7_close (wsV RX7 201 RX5 yX5_canClose wsX5_canClose) := goodIn_app (goodIn_of _ (by decide +kernel)) ggX7_close_X5_canClose
set_option maxRecDepth 20000 in
theorem ggX7_close_X5_tellTies : GoodIn wsX7_close wsX5_tellTies := goodIn_r _ [15, 9, 16, 11, 10, 17, 18, 7, 19, 20, 21, 22, 23, 24, 25, 26, 27, 28, 29, 30, 31, 32, 38, 39, 40, 41, 42, 43, 44, 45, 46] (by decide +kernel) (by decide +kernel)
set_option maxRecDepth 20000 in
theorem gX7_close_X5_tellTies : GoodIn wsX7_close (wsV RX7 206 RX5 yX5_tellTies wsX5_tellTies) := goodIn_app (goodIn_of _ (by decide +kernel)) ggX7_close_X5_tellTies
theorem dX7_close_0 : decode cX7_close 0 = .ok (.aload_n 0, 1) := by decide +kernel
theorem dX7_close_1 : decode cX7_close 1 = .ok (.getfield 26, 3) := by decide +kernel
theorem dX7_close_4 : decode cX7_close 4 = .ok (.invokevirtual 201, 3) := by decide +kernel
theorem dX7_close_7 : decode cX7_close 7 = .ok (.ifCond .ne 13, 3) := by decide +kernel
theorem dX7_close_10 : decode cX7_close 10 = .ok (.new 76, 3) := by decide +kernel
theorem dX7_close_13 : decode cX7_close 13 = .ok (.dup, 1) := by decide +kernel
theorem dX7_close_14 : decode cX7_close 14 = .ok (.ldc 204, 2) := by decide +kernel
theorem dX7_close_16 : decode cX7_close 16 = .ok (.invokespecial 80, 3) := by decide +kernel
theorem dX7_close_19 : decode cX7_close 19 = .ok (.athrow, 1) := by decide +kernel
theorem dX7_close_20 : decode cX7_close 20 = .ok (.aload_n 0, 1) := by decide +kernel
theorem dX7_close_21 : decode cX7_close 21 = .ok (.getfield 26, 3) := by decide +kernel
theorem dX7_close_24 : decode cX7_close 24 = .ok (.invokevirtual 206, 3) := by decide +kernel
theorem dX7_close_27 : decode cX7_close 27 = .ok (.ireturn, 1) := by decide +kernel
set_option maxRecDepth 20000 in
theorem ggX7_forget_X5_dropReadings : GoodIn wsX7_forget wsX5_dropReadings := goodIn_r _ [6, 7, 13, 14, 15, 16, 17, 18, 19, 20, 21] (by decide +kernel) (by decide +kernel)
set_option maxRecDepth 20000 in
theorem gX7_forget_X5_dropReadings : GoodIn wsX7_forget (wsV RX7 209 RX5 yX5_dropReadings wsX5_dropReadings) := goodIn_app (goodIn_of _ (by decide +kernel)) ggX7_forget_X5_dropReadings
theorem dX7_forget_0 : decode cX7_forget 0 = .ok (.aload_n 0, 1) := by decide +kernel
theorem dX7_forget_1 : decode cX7_forget 1 = .ok (.getfield 26, 3) := by decide +kernel
theorem dX7_forget_4 : decode cX7_forget 4 = .ok (.invokevirtual 209, 3) := by decide +kernel
theorem dX7_forget_7 : decode cX7_forget 7 = .ok (.ireturn, 1) := by decide +kernel
set_option maxRecDepth 20000 in
theorem ggX7_tie_X7_isNoStation : GoodIn wsX7_tie wsX7_isNoStation := goodIn_r _ [9, 10, 11, 8, 12] (by decide +kernel) (by decide +kernel)
set_option maxRecDepth 20000 in
theorem gX7_tie_X7_isNoStation : GoodIn wsX7_tie (va_wsS RX7 178 yX7_isNoStation wsX7_isNoStation) := goodIn_app (goodIn_of _ (by decide +kernel)) ggX7_tie_X7_isNoStation
set_option maxRecDepth 20000 in
theorem ggX7_tie_X5_isTied : GoodIn wsX7_tie wsX5_isTied := goodIn_r _ [17, 18, 19, 20, 16, 21, 32, 33, 34, 35, 36, 37, 38, 39, 40] (by decide +kernel) (by decide +kernel)
set_option maxRecDepth 20000 in
theorem gX7_tie_X5_isTied : GoodIn wsX7_tie (wsV RX7 212 RX5 yX5_isTied wsX5_isTied) := goodIn_app (goodIn_of _ (by decide +kernel)) ggX7_tie_X5_isTied
set_option maxRecDepth 20000 in
theorem ggX7_tie_X5_difference : GoodIn wsX7_tie wsX5_difference := goodIn_r _ [25, 26, 19, 20, 16, 21, 32, 33, 34, 35, 36, 37, 38, 39, 40] (by decide +kernel) (by decide +kernel)
set_option maxRecDepth 20000 in
theorem gX7_tie_X5_difference : GoodIn wsX7_tie (wsV RX7 217 RX5 yX5_difference wsX5_difference) := goodIn_app (goodIn_of _ (by decide +kernel)) ggX7_tie_X5_difference
theorem dX7_tie_0 : decode cX7_tie 0 = .ok (.iload_n 1, 1) := by decide +kernel
theorem dX7_tie_1 : decode cX7_tie 1 = .ok (.invokestatic 178, 3) := by decide +kernel
theorem dX7_tie_4 : decode cX7_tie 4 = .ok (.ifCond .ne 10, 3) := by decide +kernel
theorem dX7_tie_7 : decode cX7_tie 7 = .ok (.iload_n 2, 1) := by decide +kernel
theorem dX7_tie_8 : decode cX7_tie 8 = .ok (.invokestatic 178, 3) := by decide +kernel
theorem dX7_tie_11 : decode cX7_tie 11 = .ok (.ifCond .eq 13, 3) := by decide +kernel
theorem dX7_tie_14 : decode cX7_tie 14 = .ok (.new 89, 3) := by decide +kernel
theorem dX7_tie_17 : decode cX7_tie 17 = .ok (.dup, 1) := by decide +kernel
theorem dX7_tie_18 : decode cX7_tie 18 = .ok (.ldc 181, 2) := by decide +kernel
theorem dX7_tie_20 : decode cX7_tie 20 = .ok (.invokespecial 93, 3) := by decide +kernel
theorem dX7_tie_23 : decode cX7_tie 23 = .ok (.athrow, 1) := by decide +kernel
theorem dX7_tie_24 : decode cX7_tie 24 = .ok (.aload_n 0, 1) := by decide +kernel
theorem dX7_tie_25 : decode cX7_tie 25 = .ok (.getfield 26, 3) := by decide +kernel
theorem dX7_tie_28 : decode cX7_tie 28 = .ok (.iload_n 1, 1) := by decide +kernel
theorem dX7_tie_29 : decode cX7_tie 29 = .ok (.iload_n 2, 1) := by decide +kernel
theorem dX7_tie_30 : decode cX7_tie 30 = .ok (.invokevirtual 212, 3) := by decide +kernel
theorem dX7_tie_33 : decode cX7_tie 33 = .ok (.ifCond .ne 13, 3) := by decide +kernel
theorem dX7_tie_36 : decode cX7_tie 36 = .ok (.new 76, 3) := by decide +kernel
theorem dX7_tie_39 : decode cX7_tie 39 = .ok (.dup, 1) := by decide +kernel
theorem dX7_tie_40 : decode cX7_tie 40 = .ok (.ldc 215, 2) := by decide +kernel
theorem dX7_tie_42 : decode cX7_tie 42 = .ok (.invokespecial 80, 3) := by decide +kernel
theorem dX7_tie_45 : decode cX7_tie 45 = .ok (.athrow, 1) := by decide +kernel
theorem dX7_tie_46 : decode cX7_tie 46 = .ok (.aload_n 0, 1) := by decide +kernel
theorem dX7_tie_47 : decode cX7_tie 47 = .ok (.getfield 26, 3) := by decide +kernel
theorem dX7_tie_50 : decode cX7_tie 50 = .ok (.iload_n 1, 1) := by decide +kernel
theorem dX7_tie_51 : decode cX7_tie 51 = .ok (.iload_n 2, 1) := by decide +kernel
theorem dX7_tie_52 : decode cX7_tie 52 = .ok (.invokevirtual 217, 3) := by decide +kernel
theorem dX7_tie_55 : decode cX7_tie 55 = .ok (.ireturn, 1) := by decide +kernel
set_option maxRecDepth 20000 in
theorem ggX7_gravity_X7_isNoStation : GoodIn wsX7_gravity wsX7_isNoStation := goodIn_r _ [9, 10, 11, 8, 12] (by decide +kernel) (by decide +kernel)
set_option maxRecDepth 20000 in
theorem gX7_gravity_X7_isNoStation : GoodIn wsX7_gravity (va_wsS RX7 178 yX7_isNoStation wsX7_isNoStation) := goodIn_app (goodIn_of _ (by decide +kernel)) ggX7_gravity_X7_isNoStation
set_option maxRecDepth 20000 in
theorem ggX7_gravity_X5_countSteps : GoodIn wsX7_gravity wsX5_countSteps := goodIn_r _ [17, 18, 19, 20, 21, 22, 23, 24, 25, 26, 16, 27, 28, 29, 30, 31, 32, 33, 34, 35, 59, 60, 61, 62, 63, 64, 65, 66, 67] (by decide +kernel) (by decide +kernel)
set_option maxRecDepth 20000 in
theorem gX7_gravity_X5_countSteps : GoodIn wsX7_gravity (wsV RX7 221 RX5 yX5_countSteps wsX5_countSteps) := goodIn_app (goodIn_of _ (by decide +kernel)) ggX7_gravity_X5_countSteps
set_option maxRecDepth 20000 in
theorem ggX7_gravity_X5_isReached : GoodIn wsX7_gravity wsX5_isReached := goodIn_r _ [39, 18, 59, 60, 61, 62, 63, 64, 65, 66, 67] (by decide +kernel) (by decide +kernel)
set_option maxRecDepth 20000 in
theorem gX7_gravity_X5_isReached : GoodIn wsX7_gravity (wsV RX7 224 RX5 yX5_isReached wsX5_isReached) := goodIn_app (goodIn_of _ (by decide +kernel)) ggX7_gravity_X5_isReached
set_option maxRecDepth 20000 in
theorem ggX7_gravity_X5_carry : GoodIn wsX7_gravity wsX5_carry := goodIn_r _ [43, 44, 18, 45, 46, 47, 16, 48, 28, 29, 30, 31, 32, 33, 34, 35, 49, 50, 51, 52, 53, 59, 60, 61, 62, 63, 64, 65, 66, 67] (by decide +kernel) (by decide +kernel)
set_option maxRecDepth 20000 in
theorem gX7_gravity_X5_carry : GoodIn wsX7_gravity (wsV RX7 229 RX5 yX5_carry wsX5_carry) := goodIn_app (goodIn_of _ (by decide +kernel)) ggX7_gravity_X5_carry
theorem dX7_gravity_0 : decode cX7_gravity 0 = .ok (.iload_n 1, 1) := by decide +kernel
theorem dX7_gravity_1 : decode cX7_gravity 1 = .ok (.invokestatic 178, 3) := by decide +kernel
theorem dX7_gravity_4 : decode cX7_gravity 4 = .ok (.ifCond .eq 13, 3) := by decide +kernel
theorem dX7_gravity_7 : decode cX7_gravity 7 = .ok (.new 89, 3) := by decide +kernel
theorem dX7_gravity_10 : decode cX7_gravity 10 = .ok (.dup, 1) := by decide +kernel
theorem dX7_gravity_11 : decode cX7_gravity 11 = .ok (.ldc 181, 2) := by decide +kernel
theorem dX7_gravity_13 : decode cX7_gravity 13 = .ok (.invokespecial 93, 3) := by decide +kernel
theorem dX7_gravity_16 : decode cX7_gravity 16 = .ok (.athrow, 1) := by decide +kernel
theorem dX7_gravity_17 : decode cX7_gravity 17 = .ok (.aload_n 0, 1) := by decide +kernel
theorem dX7_gravity_18 : decode cX7_gravity 18 = .ok (.getfield 26, 3) := by decide +kernel
theorem dX7_gravity_21 : decode cX7_gravity 21 = .ok (.invokevirtual 221, 3) := by decide +kernel
theorem dX7_gravity_24 : decode cX7_gravity 24 = .ok (.aload_n 0, 1) := by decide +kernel
theorem dX7_gravity_25 : decode cX7_gravity 25 = .ok (.getfield 26, 3) := by decide +kernel
theorem dX7_gravity_28 : decode cX7_gravity 28 = .ok (.iload_n 1, 1) := by decide +kernel
theorem dX7_gravity_29 : decode cX7_gravity 29 = .ok (.invokevirtual 224, 3) := by decide +kernel
theorem dX7_gravity_32 : decode cX7_gravity 32 = .ok (.ifCond .ne 13, 3) := by decide +kernel
theorem dX7_gravity_35 : decode cX7_gravity 35 = .ok (.new 76, 3) := by decide +kernel
theorem dX7_gravity_38 : decode cX7_gravity 38 = .ok (.dup, 1) := by decide +kernel
theorem dX7_gravity_39 : decode cX7_gravity 39 = .ok (.ldc 227, 2) := by decide +kernel
theorem dX7_gravity_41 : decode cX7_gravity 41 = .ok (.invokespecial 80, 3) := by decide +kernel
theorem dX7_gravity_44 : decode cX7_gravity 44 = .ok (.athrow, 1) := by decide +kernel
theorem dX7_gravity_45 : decode cX7_gravity 45 = .ok (.aload_n 0, 1) := by decide +kernel
theorem dX7_gravity_46 : decode cX7_gravity 46 = .ok (.getfield 26, 3) := by decide +kernel
theorem dX7_gravity_49 : decode cX7_gravity 49 = .ok (.iload_n 1, 1) := by decide +kernel
theorem dX7_gravity_50 : decode cX7_gravity 50 = .ok (.invokevirtual 229, 3) := by decide +kernel
theorem dX7_gravity_53 : decode cX7_gravity 53 = .ok (.lreturn, 1) := by decide +kernel
set_option maxRecDepth 20000 in
theorem ggX7_loop_X7_isNoStation : GoodIn wsX7_loop wsX7_isNoStation := goodIn_r _ [9, 10, 11, 8, 12] (by decide +kernel) (by decide +kernel)
set_option maxRecDepth 20000 in
theorem gX7_loop_X7_isNoStation : GoodIn wsX7_loop (va_wsS RX7 178 yX7_isNoStation wsX7_isNoStation) := goodIn_app (goodIn_of _ (by decide +kernel)) ggX7_loop_X7_isNoStation
set_option maxRecDepth 20000 in
theorem ggX7_loop_X5_isTied : GoodIn wsX7_loop wsX5_isTied := goodIn_r _ [17, 18, 19, 20, 16, 21, 32, 33, 34, 35, 36, 37, 38, 39, 40] (by decide +kernel) (by decide +kernel)
set_option maxRecDepth 20000 in
theorem gX7_loop_X5_isTied : GoodIn wsX7_loop (wsV RX7 212 RX5 yX5_isTied wsX5_isTied) := goodIn_app (goodIn_of _ (by decide +kernel)) ggX7_loop_X5_isTied
set_option maxRecDepth 20000 in
theorem ggX7_loop_X5_difference : GoodIn wsX7_loop wsX5_difference := goodIn_r _ [25, 26, 19, 20, 16, 21, 32, 33, 34, 35, 36, 37, 38, 39, 40] (by decide +kernel) (by decide +kernel)
set_option maxRecDepth 20000 in
theorem gX7_loop_X5_difference : GoodIn wsX7_loop (wsV RX7 217 RX5 yX5_difference wsX5_difference) := goodIn_app (goodIn_of _ (by decide +kernel)) ggX7_loop_X5_difference
theorem dX7_loop_0 : decode cX7_loop 0 = .ok (.iload_n 1, 1) := by decide +kernel
theorem dX7_loop_1 : decode cX7_loop 1 = .ok (.invokestatic 178, 3) := by decide +kernel
theorem dX7_loop_4 : decode cX7_loop 4 = .ok (.ifCond .ne 17, 3) := by decide +kernel
theorem dX7_loop_7 : decode cX7_loop 7 = .ok (.iload_n 2, 1) := by decide +kernel
theorem dX7_loop_8 : decode cX7_loop 8 = .ok (.invokestatic 178, 3) := by decide +kernel
theorem dX7_loop_11 : decode cX7_loop 11 = .ok (.ifCond .ne 10, 3) := by decide +kernel
theorem dX7_loop_14 : decode cX7_loop 14 = .ok (.iload_n 3, 1) := by decide +kernel
theorem dX7_loop_15 : decode cX7_loop 15 = .ok (.invokestatic 178, 3) := by decide +kernel
theorem dX7_loop_18 : decode cX7_loop 18 = .ok (.ifCond .eq 13, 3) := by decide +kernel
theorem dX7_loop_21 : decode cX7_loop 21 = .ok (.new 89, 3) := by decide +kernel
theorem dX7_loop_24 : decode cX7_loop 24 = .ok (.dup, 1) := by decide +kernel
theorem dX7_loop_25 : decode cX7_loop 25 = .ok (.ldc 181, 2) := by decide +kernel
theorem dX7_loop_27 : decode cX7_loop 27 = .ok (.invokespecial 93, 3) := by decide +kernel
theorem dX7_loop_30 : decode cX7_loop 30 = .ok (.athrow, 1) := by decide +kernel
theorem dX7_loop_31 : decode cX7_loop 31 = .ok (.aload_n 0, 1) := by decide +kernel
theorem dX7_loop_32 : decode cX7_loop 32 = .ok (.getfield 26, 3) := by decide +kernel
theorem dX7_loop_35 : decode cX7_loop 35 = .ok (.iload_n 1, 1) := by decide +kernel
theorem dX7_loop_36 : decode cX7_loop 36 = .ok (.iload_n 2, 1) := by decide +kernel
theorem dX7_loop_37 : decode cX7_loop 37 = .ok (.invokevirtual 212, 3) := by decide +kernel
theorem dX7_loop_40 : decode cX7_loop 40 = .ok (.ifCond .eq 27, 3) := by decide +kernel
theorem dX7_loop_43 : decode cX7_loop 43 = .ok (.aload_n 0, 1) := by decide +kernel
theorem dX7_loop_44 : decode cX7_loop 44 = .ok (.getfield 26, 3) := by decide +kernel
theorem dX7_loop_47 : decode cX7_loop 47 = .ok (.iload_n 2, 1) := by decide +kernel
theorem dX7_loop_48 : decode cX7_loop 48 = .ok (.iload_n 3, 1) := by decide +kernel
theorem dX7_loop_49 : decode cX7_loop 49 = .ok (.invokevirtual 212, 3) := by decide +kernel
theorem dX7_loop_52 : decode cX7_loop 52 = .ok (.ifCond .eq 15, 3) := by decide +kernel
theorem dX7_loop_55 : decode cX7_loop 55 = .ok (.aload_n 0, 1) := by decide +kernel
theorem dX7_loop_56 : decode cX7_loop 56 = .ok (.getfield 26, 3) := by decide +kernel
theorem dX7_loop_59 : decode cX7_loop 59 = .ok (.iload_n 3, 1) := by decide +kernel
theorem dX7_loop_60 : decode cX7_loop 60 = .ok (.iload_n 1, 1) := by decide +kernel
theorem dX7_loop_61 : decode cX7_loop 61 = .ok (.invokevirtual 212, 3) := by decide +kernel
theorem dX7_loop_64 : decode cX7_loop 64 = .ok (.ifCond .ne 13, 3) := by decide +kernel
theorem dX7_loop_67 : decode cX7_loop 67 = .ok (.new 76, 3) := by decide +kernel
theorem dX7_loop_70 : decode cX7_loop 70 = .ok (.dup, 1) := by decide +kernel
theorem dX7_loop_71 : decode cX7_loop 71 = .ok (.ldc 232, 2) := by decide +kernel
theorem dX7_loop_73 : decode cX7_loop 73 = .ok (.invokespecial 80, 3) := by decide +kernel
theorem dX7_loop_76 : decode cX7_loop 76 = .ok (.athrow, 1) := by decide +kernel
theorem dX7_loop_77 : decode cX7_loop 77 = .ok (.aload_n 0, 1) := by decide +kernel
theorem dX7_loop_78 : decode cX7_loop 78 = .ok (.getfield 26, 3) := by decide +kernel
theorem dX7_loop_81 : decode cX7_loop 81 = .ok (.iload_n 1, 1) := by decide +kernel
theorem dX7_loop_82 : decode cX7_loop 82 = .ok (.iload_n 2, 1) := by decide +kernel
theorem dX7_loop_83 : decode cX7_loop 83 = .ok (.invokevirtual 217, 3) := by decide +kernel
theorem dX7_loop_86 : decode cX7_loop 86 = .ok (.aload_n 0, 1) := by decide +kernel
theorem dX7_loop_87 : decode cX7_loop 87 = .ok (.getfield 26, 3) := by decide +kernel
theorem dX7_loop_90 : decode cX7_loop 90 = .ok (.iload_n 2, 1) := by decide +kernel
theorem dX7_loop_91 : decode cX7_loop 91 = .ok (.iload_n 3, 1) := by decide +kernel
theorem dX7_loop_92 : decode cX7_loop 92 = .ok (.invokevirtual 217, 3) := by decide +kernel
theorem dX7_loop_95 : decode cX7_loop 95 = .ok (.iadd, 1) := by decide +kernel
theorem dX7_loop_96 : decode cX7_loop 96 = .ok (.aload_n 0, 1) := by decide +kernel
theorem dX7_loop_97 : decode cX7_loop 97 = .ok (.getfield 26, 3) := by decide +kernel
theorem dX7_loop_100 : decode cX7_loop 100 = .ok (.iload_n 3, 1) := by decide +kernel
theorem dX7_loop_101 : decode cX7_loop 101 = .ok (.iload_n 1, 1) := by decide +kernel
theorem dX7_loop_102 : decode cX7_loop 102 = .ok (.invokevirtual 217, 3) := by decide +kernel
theorem dX7_loop_105 : decode cX7_loop 105 = .ok (.iadd, 1) := by decide +kernel
theorem dX7_loop_106 : decode cX7_loop 106 = .ok (.ireturn, 1) := by decide +kernel
set_option maxRecDepth 20000 in
theorem ggX7_turned_X7_isOutside : GoodIn wsX7_turned wsX7_isOutside := goodIn_r _ [7] (by decide +kernel) (by decide +kernel)
set_option maxRecDepth 20000 in
theorem gX7_turned_X7_isOutside : GoodIn wsX7_turned (va_wsS RX7 44 yX7_isOutside wsX7_isOutside) := goodIn_app (goodIn_of _ (by decide +kernel)) ggX7_turned_X7_isOutside
set_option maxRecDepth 20000 in
theorem ggX7_turned_X4_turn : GoodIn wsX7_turned wsX4_turn := goodIn_r _ [11, 12, 13, 14] (by decide +kernel) (by decide +kernel)
set_option maxRecDepth 20000 in
theorem gX7_turned_X4_turn : GoodIn wsX7_turned (va_wsS RX7 236 yX4_turn wsX4_turn) := goodIn_app (goodIn_of _ (by decide +kernel)) ggX7_turned_X4_turn
theorem dX7_turned_0 : decode cX7_turned 0 = .ok (.iload_n 1, 1) := by decide +kernel
theorem dX7_turned_1 : decode cX7_turned 1 = .ok (.bipush (-90), 2) := by decide +kernel
theorem dX7_turned_3 : decode cX7_turned 3 = .ok (.bipush 90, 2) := by decide +kernel
theorem dX7_turned_5 : decode cX7_turned 5 = .ok (.invokestatic 44, 3) := by decide +kernel
theorem dX7_turned_8 : decode cX7_turned 8 = .ok (.ifCond .ne 13, 3) := by decide +kernel
theorem dX7_turned_11 : decode cX7_turned 11 = .ok (.iload_n 2, 1) := by decide +kernel
theorem dX7_turned_12 : decode cX7_turned 12 = .ok (.iconst 0, 1) := by decide +kernel
theorem dX7_turned_13 : decode cX7_turned 13 = .ok (.ldc 172, 2) := by decide +kernel
theorem dX7_turned_15 : decode cX7_turned 15 = .ok (.invokestatic 44, 3) := by decide +kernel
theorem dX7_turned_18 : decode cX7_turned 18 = .ok (.ifCond .eq 13, 3) := by decide +kernel
theorem dX7_turned_21 : decode cX7_turned 21 = .ok (.new 48, 3) := by decide +kernel
theorem dX7_turned_24 : decode cX7_turned 24 = .ok (.dup, 1) := by decide +kernel
theorem dX7_turned_25 : decode cX7_turned 25 = .ok (.ldc 234, 2) := by decide +kernel
theorem dX7_turned_27 : decode cX7_turned 27 = .ok (.invokespecial 52, 3) := by decide +kernel
theorem dX7_turned_30 : decode cX7_turned 30 = .ok (.athrow, 1) := by decide +kernel
theorem dX7_turned_31 : decode cX7_turned 31 = .ok (.iload_n 1, 1) := by decide +kernel
theorem dX7_turned_32 : decode cX7_turned 32 = .ok (.iload_n 2, 1) := by decide +kernel
theorem dX7_turned_33 : decode cX7_turned 33 = .ok (.invokestatic 236, 3) := by decide +kernel
theorem dX7_turned_36 : decode cX7_turned 36 = .ok (.freturn, 1) := by decide +kernel
set_option maxRecDepth 20000 in
theorem ggX7_latitude_X7_isOutside : GoodIn wsX7_latitude wsX7_isOutside := goodIn_r _ [6] (by decide +kernel) (by decide +kernel)
set_option maxRecDepth 20000 in
theorem gX7_latitude_X7_isOutside : GoodIn wsX7_latitude (va_wsS RX7 44 yX7_isOutside wsX7_isOutside) := goodIn_app (goodIn_of _ (by decide +kernel)) ggX7_latitude_X7_isOutside
set_option maxRecDepth 20000 in
theorem ggX7_latitude_X4_nearestLatitude : GoodIn wsX7_latitude wsX4_nearestLatitude := goodIn_r _ [10, 11, 12, 9, 13, 14, 15, 16, 17, 18, 19, 20] (by decide +kernel) (by decide +kernel)
set_option maxRecDepth 20000 in
theorem gX7_latitude_X4_nearestLatitude : GoodIn wsX7_latitude (va_wsS RX7 244 yX4_nearestLatitude wsX4_nearestLatitude) := goodIn_app (goodIn_of _ (by decide +kernel)) ggX7_latitude_X4_nearestLatitude
theorem dX7_latitude_0 : decode cX7_latitude 0 = .ok (.iload_n 1, 1) := by decide +kernel
theorem dX7_latitude_1 : decode cX7_latitude 1 = .ok (.sipush (-2000), 3) := by decide +kernel
theorem dX7_latitude_4 : decode cX7_latitude 4 = .ok (.sipush 2000, 3) := by decide +kernel
theorem dX7_latitude_7 : decode cX7_latitude 7 = .ok (.invokestatic 44, 3) := by decide +kernel
theorem dX7_latitude_10 : decode cX7_latitude 10 = .ok (.ifCond .eq 13, 3) := by decide +kernel
theorem dX7_latitude_13 : decode cX7_latitude 13 = .ok (.new 48, 3) := by decide +kernel
theorem dX7_latitude_16 : decode cX7_latitude 16 = .ok (.dup, 1) := by decide +kernel
theorem dX7_latitude_17 : decode cX7_latitude 17 = .ok (.ldc 242, 2) := by decide +kernel
theorem dX7_latitude_19 : decode cX7_latitude 19 = .ok (.invokespecial 52, 3) := by decide +kernel
theorem dX7_latitude_22 : decode cX7_latitude 22 = .ok (.athrow, 1) := by decide +kernel
theorem dX7_latitude_23 : decode cX7_latitude 23 = .ok (.iload_n 1, 1) := by decide +kernel
theorem dX7_latitude_24 : decode cX7_latitude 24 = .ok (.i2f, 1) := by decide +kernel
theorem dX7_latitude_25 : decode cX7_latitude 25 = .ok (.invokestatic 244, 3) := by decide +kernel
theorem dX7_latitude_28 : decode cX7_latitude 28 = .ok (.ireturn, 1) := by decide +kernel
set_option maxRecDepth 20000 in
theorem ggX7_driven_X7_isBadDrive : GoodIn wsX7_driven wsX7_isBadDrive := goodIn_r _ [6, 7, 8, 5, 9] (by decide +kernel) (by decide +kernel)
set_option maxRecDepth 20000 in
theorem gX7_driven_X7_isBadDrive : GoodIn wsX7_driven (va_wsS RX7 248 yX7_isBadDrive wsX7_isBadDrive) := goodIn_app (goodIn_of _ (by decide +kernel)) ggX7_driven_X7_isBadDrive
set_option maxRecDepth 20000 in
theorem ggX7_driven_X7_isOutside : GoodIn wsX7_driven wsX7_isOutside := goodIn_r _ [9] (by decide +kernel) (by decide +kernel)
set_option maxRecDepth 20000 in
theorem gX7_driven_X7_isOutside : GoodIn wsX7_driven (va_wsS RX7 44 yX7_isOutside wsX7_isOutside) := goodIn_app (goodIn_of _ (by decide +kernel)) ggX7_driven_X7_isOutside
set_option maxRecDepth 20000 in
theorem ggX7_driven_X6_state : GoodIn wsX7_driven wsX6_state := goodIn_r _ [13] (by decide +kernel) (by decide +kernel)
set_option maxRecDepth 20000 in
theorem gX7_driven_X6_state : GoodIn wsX7_driven (va_wsS RX7 253 yX6_state wsX6_state) := goodIn_app (goodIn_of _ (by decide +kernel)) ggX7_driven_X6_state
set_option maxRecDepth 20000 in
theorem ggX7_driven_X6_undone : GoodIn wsX7_driven wsX6_undone := goodIn_r _ [16, 17, 18, 12, 19, 20, 21, 22, 23, 24, 25, 26, 27, 28, 29, 30, 31, 32, 33, 11, 13] (by decide +kernel) (by decide +kernel)
set_option maxRecDepth 20000 in
theorem gX7_driven_X6_undone : GoodIn wsX7_driven (va_wsS RX7 256 yX6_undone wsX6_undone) := goodIn_app (goodIn_of _ (by decide +kernel)) ggX7_driven_X6_undone
set_option maxRecDepth 20000 in
theorem ggX7_driven_X6_moved : GoodIn wsX7_driven wsX6_moved := goodIn_r _ [36, 24, 25, 12, 26, 27, 28, 29, 30, 31, 22, 32, 17, 18, 19, 20, 21, 23, 33, 11, 13] (by decide +kernel) (by decide +kernel)
set_option maxRecDepth 20000 in
theorem gX7_driven_X6_moved : GoodIn wsX7_driven (va_wsS RX7 259 yX6_moved wsX6_moved) := goodIn_app (goodIn_of _ (by decide +kernel)) ggX7_driven_X6_moved
theorem dX7_driven_0 : decode cX7_driven 0 = .ok (.iload_n 1, 1) := by decide +kernel
theorem dX7_driven_1 : decode cX7_driven 1 = .ok (.iload_n 2, 1) := by decide +kernel
theorem dX7_driven_2 : decode cX7_driven 2 = .ok (.iload_n 3, 1) := by decide +kernel
theorem dX7_driven_3 : decode cX7_driven 3 = .ok (.invokestatic 248, 3) := by decide +kernel
theorem dX7_driven_6 : decode cX7_driven 6 = .ok (.ifCond .ne 17, 3) := by decide +kernel
theorem dX7_driven_9 : decode cX7_driven 9 = .ok (.iload 4, 2) := by decide +kernel
theorem dX7_driven_11 : decode cX7_driven 11 = .ok (.sipush (-10000), 3) := by decide +kernel
theorem dX7_driven_14 : decode cX7_driven 14 = .ok (.sipush 10000, 3) := by decide +kernel
theorem dX7_driven_17 : decode cX7_driven 17 = .ok (.invokestatic 44, 3) := by decide +kernel
theorem dX7_driven_20 : decode cX7_driven 20 = .ok (.ifCond .eq 13, 3) := by decide +kernel
theorem dX7_driven_23 : decode cX7_driven 23 = .ok (.new 48, 3) := by decide +kernel
theorem dX7_driven_26 : decode cX7_driven 26 = .ok (.dup, 1) := by decide +kernel
theorem dX7_driven_27 : decode cX7_driven 27 = .ok (.ldc 251, 2) := by decide +kernel
theorem dX7_driven_29 : decode cX7_driven 29 = .ok (.invokespecial 52, 3) := by decide +kernel
theorem dX7_driven_32 : decode cX7_driven 32 = .ok (.athrow, 1) := by decide +kernel
theorem dX7_driven_33 : decode cX7_driven 33 = .ok (.iload_n 1, 1) := by decide +kernel
theorem dX7_driven_34 : decode cX7_driven 34 = .ok (.iload_n 2, 1) := by decide +kernel
theorem dX7_driven_35 : decode cX7_driven 35 = .ok (.invokestatic 253, 3) := by decide +kernel
theorem dX7_driven_38 : decode cX7_driven 38 = .ok (.istore 5, 2) := by decide +kernel
theorem dX7_driven_40 : decode cX7_driven 40 = .ok (.iload 4, 2) := by decide +kernel
theorem dX7_driven_42 : decode cX7_driven 42 = .ok (.ifCond .ge 15, 3) := by decide +kernel
theorem dX7_driven_45 : decode cX7_driven 45 = .ok (.iload 5, 2) := by decide +kernel
theorem dX7_driven_47 : decode cX7_driven 47 = .ok (.iload_n 3, 1) := by decide +kernel
theorem dX7_driven_48 : decode cX7_driven 48 = .ok (.iload 4, 2) := by decide +kernel
theorem dX7_driven_50 : decode cX7_driven 50 = .ok (.ineg, 1) := by decide +kernel
theorem dX7_driven_51 : decode cX7_driven 51 = .ok (.invokestatic 256, 3) := by decide +kernel
theorem dX7_driven_54 : decode cX7_driven 54 = .ok (.goto 11, 3) := by decide +kernel
theorem dX7_driven_57 : decode cX7_driven 57 = .ok (.iload 5, 2) := by decide +kernel
theorem dX7_driven_59 : decode cX7_driven 59 = .ok (.iload_n 3, 1) := by decide +kernel
theorem dX7_driven_60 : decode cX7_driven 60 = .ok (.iload 4, 2) := by decide +kernel
theorem dX7_driven_62 : decode cX7_driven 62 = .ok (.invokestatic 259, 3) := by decide +kernel
theorem dX7_driven_65 : decode cX7_driven 65 = .ok (.ireturn, 1) := by decide +kernel
set_option maxRecDepth 20000 in
theorem ggX7_returns_X7_isBadDrive : GoodIn wsX7_returns wsX7_isBadDrive := goodIn_r _ [7, 8, 9, 6, 10] (by decide +kernel) (by decide +kernel)
set_option maxRecDepth 20000 in
theorem gX7_returns_X7_isBadDrive : GoodIn wsX7_returns (va_wsS RX7 248 yX7_isBadDrive wsX7_isBadDrive) := goodIn_app (goodIn_of _ (by decide +kernel)) ggX7_returns_X7_isBadDrive
set_option maxRecDepth 20000 in
theorem ggX7_returns_X6_state : GoodIn wsX7_returns wsX6_state := goodIn_r _ [14] (by decide +kernel) (by decide +kernel)
set_option maxRecDepth 20000 in
theorem gX7_returns_X6_state : GoodIn wsX7_returns (va_wsS RX7 253 yX6_state wsX6_state) := goodIn_app (goodIn_of _ (by decide +kernel)) ggX7_returns_X6_state
set_option maxRecDepth 20000 in
theorem ggX7_returns_X6_walkRound : GoodIn wsX7_returns wsX6_walkRound := goodIn_r _ [18, 19, 20, 21, 13, 22, 23, 24, 25, 26, 27, 28, 29, 30, 31, 32, 33, 34, 35, 36, 37, 38, 39, 12, 14, 45] (by decide +kernel) (by decide +kernel)
set_option maxRecDepth 20000 in
theorem gX7_returns_X6_walkRound : GoodIn wsX7_returns (wsV RX7 264 RX6 yX6_walkRound wsX6_walkRound) := goodIn_app (goodIn_of _ (by decide +kernel)) ggX7_returns_X6_walkRound
theorem dX7_returns_0 : decode cX7_returns 0 = .ok (.iload_n 1, 1) := by decide +kernel
theorem dX7_returns_1 : decode cX7_returns 1 = .ok (.iload_n 2, 1) := by decide +kernel
theorem dX7_returns_2 : decode cX7_returns 2 = .ok (.iload_n 3, 1) := by decide +kernel
theorem dX7_returns_3 : decode cX7_returns 3 = .ok (.invokestatic 248, 3) := by decide +kernel
theorem dX7_returns_6 : decode cX7_returns 6 = .ok (.ifCond .eq 14, 3) := by decide +kernel
theorem dX7_returns_9 : decode cX7_returns 9 = .ok (.new 48, 3) := by decide +kernel
theorem dX7_returns_12 : decode cX7_returns 12 = .ok (.dup, 1) := by decide +kernel
theorem dX7_returns_13 : decode cX7_returns 13 = .ok (.ldc_w 262, 3) := by decide +kernel
theorem dX7_returns_16 : decode cX7_returns 16 = .ok (.invokespecial 52, 3) := by decide +kernel
theorem dX7_returns_19 : decode cX7_returns 19 = .ok (.athrow, 1) := by decide +kernel
theorem dX7_returns_20 : decode cX7_returns 20 = .ok (.aload_n 0, 1) := by decide +kernel
theorem dX7_returns_21 : decode cX7_returns 21 = .ok (.getfield 33, 3) := by decide +kernel
theorem dX7_returns_24 : decode cX7_returns 24 = .ok (.iload_n 1, 1) := by decide +kernel
theorem dX7_returns_25 : decode cX7_returns 25 = .ok (.iload_n 2, 1) := by decide +kernel
theorem dX7_returns_26 : decode cX7_returns 26 = .ok (.invokestatic 253, 3) := by decide +kernel
theorem dX7_returns_29 : decode cX7_returns 29 = .ok (.iload_n 3, 1) := by decide +kernel
theorem dX7_returns_30 : decode cX7_returns 30 = .ok (.invokevirtual 264, 3) := by decide +kernel
theorem dX7_returns_33 : decode cX7_returns 33 = .ok (.ireturn, 1) := by decide +kernel
set_option maxRecDepth 20000 in
theorem ggX7_rounds_X7_isOutside : GoodIn wsX7_rounds wsX7_isOutside := goodIn_r _ [7] (by decide +kernel) (by decide +kernel)
set_option maxRecDepth 20000 in
theorem gX7_rounds_X7_isOutside : GoodIn wsX7_rounds (va_wsS RX7 44 yX7_isOutside wsX7_isOutside) := goodIn_app (goodIn_of _ (by decide +kernel)) ggX7_rounds_X7_isOutside
set_option maxRecDepth 20000 in
theorem ggX7_rounds_X6_countRounds : GoodIn wsX7_rounds wsX6_countRounds := goodIn_r _ [12, 13, 14, 15, 16, 17, 18, 19, 20, 11, 21, 22, 23, 24, 25, 26, 27, 28, 29, 30, 31, 32, 33, 34, 35, 36, 37, 38, 39, 40, 41, 42, 43, 44, 45, 46, 47, 53] (by decide +kernel) (by decide +kernel)
set_option maxRecDepth 20000 in
theorem gX7_rounds_X6_countRounds : GoodIn wsX7_rounds (wsV RX7 269 RX6 yX6_countRounds wsX6_countRounds) := goodIn_app (goodIn_of _ (by decide +kernel)) ggX7_rounds_X6_countRounds
theorem dX7_rounds_0 : decode cX7_rounds 0 = .ok (.iload_n 1, 1) := by decide +kernel
theorem dX7_rounds_1 : decode cX7_rounds 1 = .ok (.iconst 0, 1) := by decide +kernel
theorem dX7_rounds_2 : decode cX7_rounds 2 = .ok (.sipush 200, 3) := by decide +kernel
theorem dX7_rounds_5 : decode cX7_rounds 5 = .ok (.invokestatic 44, 3) := by decide +kernel
theorem dX7_rounds_8 : decode cX7_rounds 8 = .ok (.ifCond .ne 19, 3) := by decide +kernel
theorem dX7_rounds_11 : decode cX7_rounds 11 = .ok (.iload_n 2, 1) := by decide +kernel
theorem dX7_rounds_12 : decode cX7_rounds 12 = .ok (.iconst (-1), 1) := by decide +kernel
theorem dX7_rounds_13 : decode cX7_rounds 13 = .ok (.if_icmp .eq 25, 3) := by decide +kernel
theorem dX7_rounds_16 : decode cX7_rounds 16 = .ok (.iload_n 2, 1) := by decide +kernel
theorem dX7_rounds_17 : decode cX7_rounds 17 = .ok (.iconst 1, 1) := by decide +kernel
theorem dX7_rounds_18 : decode cX7_rounds 18 = .ok (.sipush 4096, 3) := by decide +kernel
theorem dX7_rounds_21 : decode cX7_rounds 21 = .ok (.invokestatic 44, 3) := by decide +kernel
theorem dX7_rounds_24 : decode cX7_rounds 24 = .ok (.ifCond .eq 14, 3) := by decide +kernel
theorem dX7_rounds_27 : decode cX7_rounds 27 = .ok (.new 48, 3) := by decide +kernel
theorem dX7_rounds_30 : decode cX7_rounds 30 = .ok (.dup, 1) := by decide +kernel
theorem dX7_rounds_31 : decode cX7_rounds 31 = .ok (.ldc_w 267, 3) := by decide +kernel
theorem dX7_rounds_34 : decode cX7_rounds 34 = .ok (.invokespecial 52, 3) := by decide +kernel
theorem dX7_rounds_37 : decode cX7_rounds 37 = .ok (.athrow, 1) := by decide +kernel
theorem dX7_rounds_38 : decode cX7_rounds 38 = .ok (.aload_n 0, 1) := by decide +kernel
theorem dX7_rounds_39 : decode cX7_rounds 39 = .ok (.getfield 33, 3) := by decide +kernel
theorem dX7_rounds_42 : decode cX7_rounds 42 = .ok (.iload_n 1, 1) := by decide +kernel
theorem dX7_rounds_43 : decode cX7_rounds 43 = .ok (.iload_n 2, 1) := by decide +kernel
theorem dX7_rounds_44 : decode cX7_rounds 44 = .ok (.invokevirtual 269, 3) := by decide +kernel
theorem dX7_rounds_47 : decode cX7_rounds 47 = .ok (.ireturn, 1) := by decide +kernel
set_option maxRecDepth 20000 in
theorem ggX7_parting_X7_isBadDrive : GoodIn wsX7_parting wsX7_isBadDrive := goodIn_r _ [6, 7, 8, 5, 9] (by decide +kernel) (by decide +kernel)
set_option maxRecDepth 20000 in
theorem gX7_parting_X7_isBadDrive : GoodIn wsX7_parting (va_wsS RX7 248 yX7_isBadDrive wsX7_isBadDrive) := goodIn_app (goodIn_of _ (by decide +kernel)) ggX7_parting_X7_isBadDrive
set_option maxRecDepth 20000 in
theorem ggX7_parting_X7_isOutside : GoodIn wsX7_parting wsX7_isOutside := goodIn_r _ [9] (by decide +kernel) (by decide +kernel)
set_option maxRecDepth 20000 in
theorem gX7_parting_X7_isOutside : GoodIn wsX7_parting (va_wsS RX7 44 yX7_isOutside wsX7_isOutside) := goodIn_app (goodIn_of _ (by decide +kernel)) ggX7_parting_X7_isOutside
set_option maxRecDepth 20000 in
theorem ggX7_parting_X6_state : GoodIn wsX7_parting wsX6_state := goodIn_r _ [13] (by decide +kernel) (by decide +kernel)
set_option maxRecDepth 20000 in
theorem gX7_parting_X6_state : GoodIn wsX7_parting (va_wsS RX7 253 yX6_state wsX6_state) := goodIn_app (goodIn_of _ (by decide +kernel)) ggX7_parting_X6_state
set_option maxRecDepth 20000 in
theorem ggX7_parting_X6_moved : GoodIn wsX7_parting wsX6_moved := goodIn_r _ [16, 17, 18, 12, 19, 20, 21, 22, 23, 24, 25, 26, 27, 28, 29, 30, 31, 32, 33, 11, 13] (by decide +kernel) (by decide +kernel)
set_option maxRecDepth 20000 in
theorem gX7_parting_X6_moved : GoodIn wsX7_parting (va_wsS RX7 259 yX6_moved wsX6_moved) := goodIn_app (goodIn_of _ (by decide +kernel)) ggX7_parting_X6_moved
set_option maxRecDepth 20000 in
theorem ggX7_parting_X6_wrap : GoodIn wsX7_parting wsX6_wrap := goodIn_r _ [29, 30, 31, 25, 32] (by decide +kernel) (by decide +kernel)
set_option maxRecDepth 20000 in
theorem gX7_parting_X6_wrap : GoodIn wsX7_parting (va_wsS RX7 274 yX6_wrap wsX6_wrap) := goodIn_app (goodIn_of _ (by decide +kernel)) ggX7_parting_X6_wrap
set_option maxRecDepth 20000 in
theorem ggX7_parting_X6_apart : GoodIn wsX7_parting wsX6_apart := goodIn_r _ [37, 38, 39, 12, 40, 41, 42, 43, 44, 27, 28, 29, 30, 31, 25, 32] (by decide +kernel) (by decide +kernel)
set_option maxRecDepth 20000 in
theorem gX7_parting_X6_apart : GoodIn wsX7_parting (va_wsS RX7 277 yX6_apart wsX6_apart) := goodIn_app (goodIn_of _ (by decide +kernel)) ggX7_parting_X6_apart
theorem dX7_parting_0 : decode cX7_parting 0 = .ok (.iload_n 1, 1) := by decide +kernel
theorem dX7_parting_1 : decode cX7_parting 1 = .ok (.iload_n 2, 1) := by decide +kernel
theorem dX7_parting_2 : decode cX7_parting 2 = .ok (.iload_n 3, 1) := by decide +kernel
theorem dX7_parting_3 : decode cX7_parting 3 = .ok (.invokestatic 248, 3) := by decide +kernel
theorem dX7_parting_6 : decode cX7_parting 6 = .ok (.ifCond .ne 15, 3) := by decide +kernel
theorem dX7_parting_9 : decode cX7_parting 9 = .ok (.iload 4, 2) := by decide +kernel
theorem dX7_parting_11 : decode cX7_parting 11 = .ok (.iconst 0, 1) := by decide +kernel
theorem dX7_parting_12 : decode cX7_parting 12 = .ok (.sipush 10000, 3) := by decide +kernel
theorem dX7_parting_15 : decode cX7_parting 15 = .ok (.invokestatic 44, 3) := by decide +kernel
theorem dX7_parting_18 : decode cX7_parting 18 = .ok (.ifCond .eq 14, 3) := by decide +kernel
theorem dX7_parting_21 : decode cX7_parting 21 = .ok (.new 48, 3) := by decide +kernel
theorem dX7_parting_24 : decode cX7_parting 24 = .ok (.dup, 1) := by decide +kernel
theorem dX7_parting_25 : decode cX7_parting 25 = .ok (.ldc_w 272, 3) := by decide +kernel
theorem dX7_parting_28 : decode cX7_parting 28 = .ok (.invokespecial 52, 3) := by decide +kernel
theorem dX7_parting_31 : decode cX7_parting 31 = .ok (.athrow, 1) := by decide +kernel
theorem dX7_parting_32 : decode cX7_parting 32 = .ok (.iload_n 1, 1) := by decide +kernel
theorem dX7_parting_33 : decode cX7_parting 33 = .ok (.iload_n 2, 1) := by decide +kernel
theorem dX7_parting_34 : decode cX7_parting 34 = .ok (.invokestatic 253, 3) := by decide +kernel
theorem dX7_parting_37 : decode cX7_parting 37 = .ok (.iload_n 3, 1) := by decide +kernel
theorem dX7_parting_38 : decode cX7_parting 38 = .ok (.iload 4, 2) := by decide +kernel
theorem dX7_parting_40 : decode cX7_parting 40 = .ok (.invokestatic 259, 3) := by decide +kernel
theorem dX7_parting_43 : decode cX7_parting 43 = .ok (.istore 5, 2) := by decide +kernel
theorem dX7_parting_45 : decode cX7_parting 45 = .ok (.iload_n 1, 1) := by decide +kernel
theorem dX7_parting_46 : decode cX7_parting 46 = .ok (.iconst 1, 1) := by decide +kernel
theorem dX7_parting_47 : decode cX7_parting 47 = .ok (.iadd, 1) := by decide +kernel
theorem dX7_parting_48 : decode cX7_parting 48 = .ok (.invokestatic 274, 3) := by decide +kernel
theorem dX7_parting_51 : decode cX7_parting 51 = .ok (.iload_n 2, 1) := by decide +kernel
theorem dX7_parting_52 : decode cX7_parting 52 = .ok (.invokestatic 253, 3) := by decide +kernel
theorem dX7_parting_55 : decode cX7_parting 55 = .ok (.iload_n 3, 1) := by decide +kernel
theorem dX7_parting_56 : decode cX7_parting 56 = .ok (.iload 4, 2) := by decide +kernel
theorem dX7_parting_58 : decode cX7_parting 58 = .ok (.invokestatic 259, 3) := by decide +kernel
theorem dX7_parting_61 : decode cX7_parting 61 = .ok (.istore 6, 2) := by decide +kernel
theorem dX7_parting_63 : decode cX7_parting 63 = .ok (.iload 5, 2) := by decide +kernel
theorem dX7_parting_65 : decode cX7_parting 65 = .ok (.iload 6, 2) := by decide +kernel
theorem dX7_parting_67 : decode cX7_parting 67 = .ok (.invokestatic 277, 3) := by decide +kernel
theorem dX7_parting_70 : decode cX7_parting 70 = .ok (.ireturn, 1) := by decide +kernel
set_option maxRecDepth 20000 in
theorem ggX7_chain_X7_isOutside : GoodIn wsX7_chain wsX7_isOutside := goodIn_r _ [7] (by decide +kernel) (by decide +kernel)
set_option maxRecDepth 20000 in
theorem gX7_chain_X7_isOutside : GoodIn wsX7_chain (va_wsS RX7 44 yX7_isOutside wsX7_isOutside) := goodIn_app (goodIn_of _ (by decide +kernel)) ggX7_chain_X7_isOutside
set_option maxRecDepth 20000 in
theorem ggX7_chain_X2_hang : GoodIn wsX7_chain wsX2_hang := goodIn_r _ [12, 13, 14, 15, 16, 17, 18, 19, 20, 21, 27, 28, 29, 30, 31, 32, 33, 34, 35] (by decide +kernel) (by decide +kernel)
set_option maxRecDepth 20000 in
theorem gX7_chain_X2_hang : GoodIn wsX7_chain (wsV RX7 282 RX2 yX2_hang wsX2_hang) := goodIn_app (goodIn_of _ (by decide +kernel)) ggX7_chain_X2_hang
theorem dX7_chain_0 : decode cX7_chain 0 = .ok (.iload_n 1, 1) := by decide +kernel
theorem dX7_chain_1 : decode cX7_chain 1 = .ok (.iconst 1, 1) := by decide +kernel
theorem dX7_chain_2 : decode cX7_chain 2 = .ok (.bipush 8, 2) := by decide +kernel
theorem dX7_chain_4 : decode cX7_chain 4 = .ok (.invokestatic 44, 3) := by decide +kernel
theorem dX7_chain_7 : decode cX7_chain 7 = .ok (.ifCond .ne 23, 3) := by decide +kernel
theorem dX7_chain_10 : decode cX7_chain 10 = .ok (.iload_n 2, 1) := by decide +kernel
theorem dX7_chain_11 : decode cX7_chain 11 = .ok (.iconst 0, 1) := by decide +kernel
theorem dX7_chain_12 : decode cX7_chain 12 = .ok (.bipush 15, 2) := by decide +kernel
theorem dX7_chain_14 : decode cX7_chain 14 = .ok (.invokestatic 44, 3) := by decide +kernel
theorem dX7_chain_17 : decode cX7_chain 17 = .ok (.ifCond .ne 13, 3) := by decide +kernel
theorem dX7_chain_20 : decode cX7_chain 20 = .ok (.iload_n 3, 1) := by decide +kernel
theorem dX7_chain_21 : decode cX7_chain 21 = .ok (.iconst 0, 1) := by decide +kernel
theorem dX7_chain_22 : decode cX7_chain 22 = .ok (.bipush 15, 2) := by decide +kernel
theorem dX7_chain_24 : decode cX7_chain 24 = .ok (.invokestatic 44, 3) := by decide +kernel
theorem dX7_chain_27 : decode cX7_chain 27 = .ok (.ifCond .eq 14, 3) := by decide +kernel
theorem dX7_chain_30 : decode cX7_chain 30 = .ok (.new 48, 3) := by decide +kernel
theorem dX7_chain_33 : decode cX7_chain 33 = .ok (.dup, 1) := by decide +kernel
theorem dX7_chain_34 : decode cX7_chain 34 = .ok (.ldc_w 280, 3) := by decide +kernel
theorem dX7_chain_37 : decode cX7_chain 37 = .ok (.invokespecial 52, 3) := by decide +kernel
theorem dX7_chain_40 : decode cX7_chain 40 = .ok (.athrow, 1) := by decide +kernel
theorem dX7_chain_41 : decode cX7_chain 41 = .ok (.aload_n 0, 1) := by decide +kernel
theorem dX7_chain_42 : decode cX7_chain 42 = .ok (.getfield 40, 3) := by decide +kernel
theorem dX7_chain_45 : decode cX7_chain 45 = .ok (.iload_n 1, 1) := by decide +kernel
theorem dX7_chain_46 : decode cX7_chain 46 = .ok (.iload_n 2, 1) := by decide +kernel
theorem dX7_chain_47 : decode cX7_chain 47 = .ok (.iload_n 3, 1) := by decide +kernel
theorem dX7_chain_48 : decode cX7_chain 48 = .ok (.invokevirtual 282, 3) := by decide +kernel
theorem dX7_chain_51 : decode cX7_chain 51 = .ok (.ireturn, 1) := by decide +kernel
set_option maxRecDepth 20000 in
theorem ggX7_pull_X2_has : GoodIn wsX7_pull wsX2_has := goodIn_r _ [12, 13, 29, 30, 31, 32, 33, 34, 35, 36, 37] (by decide +kernel) (by decide +kernel)
set_option maxRecDepth 20000 in
theorem gX7_pull_X2_has : GoodIn wsX7_pull (wsV RX7 285 RX2 yX2_has wsX2_has) := goodIn_app (goodIn_of _ (by decide +kernel)) ggX7_pull_X2_has
set_option maxRecDepth 20000 in
theorem ggX7_pull_X7_isOutside : GoodIn wsX7_pull wsX7_isOutside := goodIn_r _ [17] (by decide +kernel) (by decide +kernel)
set_option maxRecDepth 20000 in
theorem gX7_pull_X7_isOutside : GoodIn wsX7_pull (va_wsS RX7 44 yX7_isOutside wsX7_isOutside) := goodIn_app (goodIn_of _ (by decide +kernel)) ggX7_pull_X7_isOutside
set_option maxRecDepth 20000 in
theorem ggX7_pull_X2_put : GoodIn wsX7_pull wsX2_put := goodIn_r _ [21, 22, 23, 29, 30, 31, 32, 33, 34, 35, 36, 37] (by decide +kernel) (by decide +kernel)
set_option maxRecDepth 20000 in
theorem gX7_pull_X2_put : GoodIn wsX7_pull (wsV RX7 291 RX2 yX2_put wsX2_put) := goodIn_app (goodIn_of _ (by decide +kernel)) ggX7_pull_X2_put
theorem dX7_pull_0 : decode cX7_pull 0 = .ok (.aload_n 0, 1) := by decide +kernel
theorem dX7_pull_1 : decode cX7_pull 1 = .ok (.getfield 40, 3) := by decide +kernel
theorem dX7_pull_4 : decode cX7_pull 4 = .ok (.iload_n 1, 1) := by decide +kernel
theorem dX7_pull_5 : decode cX7_pull 5 = .ok (.invokevirtual 285, 3) := by decide +kernel
theorem dX7_pull_8 : decode cX7_pull 8 = .ok (.ifCond .ne 14, 3) := by decide +kernel
theorem dX7_pull_11 : decode cX7_pull 11 = .ok (.new 89, 3) := by decide +kernel
theorem dX7_pull_14 : decode cX7_pull 14 = .ok (.dup, 1) := by decide +kernel
theorem dX7_pull_15 : decode cX7_pull 15 = .ok (.ldc_w 286, 3) := by decide +kernel
theorem dX7_pull_18 : decode cX7_pull 18 = .ok (.invokespecial 93, 3) := by decide +kernel
theorem dX7_pull_21 : decode cX7_pull 21 = .ok (.athrow, 1) := by decide +kernel
theorem dX7_pull_22 : decode cX7_pull 22 = .ok (.iload_n 2, 1) := by decide +kernel
theorem dX7_pull_23 : decode cX7_pull 23 = .ok (.ldc_w 288, 3) := by decide +kernel
theorem dX7_pull_26 : decode cX7_pull 26 = .ok (.ldc 172, 2) := by decide +kernel
theorem dX7_pull_28 : decode cX7_pull 28 = .ok (.invokestatic 44, 3) := by decide +kernel
theorem dX7_pull_31 : decode cX7_pull 31 = .ok (.ifCond .ne 15, 3) := by decide +kernel
theorem dX7_pull_34 : decode cX7_pull 34 = .ok (.iload_n 3, 1) := by decide +kernel
theorem dX7_pull_35 : decode cX7_pull 35 = .ok (.ldc_w 288, 3) := by decide +kernel
theorem dX7_pull_38 : decode cX7_pull 38 = .ok (.ldc 172, 2) := by decide +kernel
theorem dX7_pull_40 : decode cX7_pull 40 = .ok (.invokestatic 44, 3) := by decide +kernel
theorem dX7_pull_43 : decode cX7_pull 43 = .ok (.ifCond .eq 14, 3) := by decide +kernel
theorem dX7_pull_46 : decode cX7_pull 46 = .ok (.new 48, 3) := by decide +kernel
theorem dX7_pull_49 : decode cX7_pull 49 = .ok (.dup, 1) := by decide +kernel
theorem dX7_pull_50 : decode cX7_pull 50 = .ok (.ldc_w 289, 3) := by decide +kernel
theorem dX7_pull_53 : decode cX7_pull 53 = .ok (.invokespecial 52, 3) := by decide +kernel
theorem dX7_pull_56 : decode cX7_pull 56 = .ok (.athrow, 1) := by decide +kernel
theorem dX7_pull_57 : decode cX7_pull 57 = .ok (.aload_n 0, 1) := by decide +kernel
theorem dX7_pull_58 : decode cX7_pull 58 = .ok (.getfield 40, 3) := by decide +kernel
theorem dX7_pull_61 : decode cX7_pull 61 = .ok (.iload_n 1, 1) := by decide +kernel
theorem dX7_pull_62 : decode cX7_pull 62 = .ok (.iload_n 2, 1) := by decide +kernel
theorem dX7_pull_63 : decode cX7_pull 63 = .ok (.iload_n 3, 1) := by decide +kernel
theorem dX7_pull_64 : decode cX7_pull 64 = .ok (.invokevirtual 291, 3) := by decide +kernel
theorem dX7_pull_67 : decode cX7_pull 67 = .ok (.return_, 1) := by decide +kernel
set_option maxRecDepth 20000 in
theorem ggX7_drive_X7_isOutside : GoodIn wsX7_drive wsX7_isOutside := goodIn_r _ [7] (by decide +kernel) (by decide +kernel)
set_option maxRecDepth 20000 in
theorem gX7_drive_X7_isOutside : GoodIn wsX7_drive (va_wsS RX7 44 yX7_isOutside wsX7_isOutside) := goodIn_app (goodIn_of _ (by decide +kernel)) ggX7_drive_X7_isOutside
set_option maxRecDepth 20000 in
theorem ggX7_drive_X2_setDrive : GoodIn wsX7_drive wsX2_setDrive := goodIn_r _ [12, 13, 14, 20, 21, 22, 23, 24, 25, 26, 27, 28] (by decide +kernel) (by decide +kernel)
set_option maxRecDepth 20000 in
theorem gX7_drive_X2_setDrive : GoodIn wsX7_drive (wsV RX7 296 RX2 yX2_setDrive wsX2_setDrive) := goodIn_app (goodIn_of _ (by decide +kernel)) ggX7_drive_X2_setDrive
theorem dX7_drive_0 : decode cX7_drive 0 = .ok (.iload_n 1, 1) := by decide +kernel
theorem dX7_drive_1 : decode cX7_drive 1 = .ok (.iconst 0, 1) := by decide +kernel
theorem dX7_drive_2 : decode cX7_drive 2 = .ok (.bipush 100, 2) := by decide +kernel
theorem dX7_drive_4 : decode cX7_drive 4 = .ok (.invokestatic 44, 3) := by decide +kernel
theorem dX7_drive_7 : decode cX7_drive 7 = .ok (.ifCond .ne 16, 3) := by decide +kernel
theorem dX7_drive_10 : decode cX7_drive 10 = .ok (.iload_n 2, 1) := by decide +kernel
theorem dX7_drive_11 : decode cX7_drive 11 = .ok (.sipush (-1000), 3) := by decide +kernel
theorem dX7_drive_14 : decode cX7_drive 14 = .ok (.sipush 1000, 3) := by decide +kernel
theorem dX7_drive_17 : decode cX7_drive 17 = .ok (.invokestatic 44, 3) := by decide +kernel
theorem dX7_drive_20 : decode cX7_drive 20 = .ok (.ifCond .eq 14, 3) := by decide +kernel
theorem dX7_drive_23 : decode cX7_drive 23 = .ok (.new 48, 3) := by decide +kernel
theorem dX7_drive_26 : decode cX7_drive 26 = .ok (.dup, 1) := by decide +kernel
theorem dX7_drive_27 : decode cX7_drive 27 = .ok (.ldc_w 294, 3) := by decide +kernel
theorem dX7_drive_30 : decode cX7_drive 30 = .ok (.invokespecial 52, 3) := by decide +kernel
theorem dX7_drive_33 : decode cX7_drive 33 = .ok (.athrow, 1) := by decide +kernel
theorem dX7_drive_34 : decode cX7_drive 34 = .ok (.aload_n 0, 1) := by decide +kernel
theorem dX7_drive_35 : decode cX7_drive 35 = .ok (.getfield 40, 3) := by decide +kernel
theorem dX7_drive_38 : decode cX7_drive 38 = .ok (.iload_n 1, 1) := by decide +kernel
theorem dX7_drive_39 : decode cX7_drive 39 = .ok (.iload_n 2, 1) := by decide +kernel
theorem dX7_drive_40 : decode cX7_drive 40 = .ok (.invokevirtual 296, 3) := by decide +kernel
theorem dX7_drive_43 : decode cX7_drive 43 = .ok (.return_, 1) := by decide +kernel
set_option maxRecDepth 20000 in
theorem ggX7_step_X7_isOutside : GoodIn wsX7_step wsX7_isOutside := goodIn_r _ [7] (by decide +kernel) (by decide +kernel)
set_option maxRecDepth 20000 in
theorem gX7_step_X7_isOutside : GoodIn wsX7_step (va_wsS RX7 44 yX7_isOutside wsX7_isOutside) := goodIn_app (goodIn_of _ (by decide +kernel)) ggX7_step_X7_isOutside
set_option maxRecDepth 20000 in
theorem ggX7_step_X2_stepMany : GoodIn wsX7_step wsX2_stepMany := goodIn_r _ [12, 13, 14, 15, 11, 16, 17, 18, 19, 20, 21, 22, 23, 24, 25, 26, 27, 28, 29, 30, 31, 32, 33, 34, 35, 36, 37, 38, 39, 40, 41, 42, 43, 5, 6, 7, 44, 45, 46, 47, 48, 49, 50, 51, 57, 58, 59, 60, 61, 62, 63, 64, 65] (by decide +kernel) (by decide +kernel)
set_option maxRecDepth 20000 in
theorem gX7_step_X2_stepMany : GoodIn wsX7_step (wsV RX7 301 RX2 yX2_stepMany wsX2_stepMany) := goodIn_app (goodIn_of _ (by decide +kernel)) ggX7_step_X2_stepMany
theorem dX7_step_0 : decode cX7_step 0 = .ok (.iload_n 1, 1) := by decide +kernel
theorem dX7_step_1 : decode cX7_step 1 = .ok (.iconst 1, 1) := by decide +kernel
theorem dX7_step_2 : decode cX7_step 2 = .ok (.sipush 1000, 3) := by decide +kernel
theorem dX7_step_5 : decode cX7_step 5 = .ok (.invokestatic 44, 3) := by decide +kernel
theorem dX7_step_8 : decode cX7_step 8 = .ok (.ifCond .eq 14, 3) := by decide +kernel
theorem dX7_step_11 : decode cX7_step 11 = .ok (.new 48, 3) := by decide +kernel
theorem dX7_step_14 : decode cX7_step 14 = .ok (.dup, 1) := by decide +kernel
theorem dX7_step_15 : decode cX7_step 15 = .ok (.ldc_w 299, 3) := by decide +kernel
theorem dX7_step_18 : decode cX7_step 18 = .ok (.invokespecial 52, 3) := by decide +kernel
theorem dX7_step_21 : decode cX7_step 21 = .ok (.athrow, 1) := by decide +kernel
theorem dX7_step_22 : decode cX7_step 22 = .ok (.aload_n 0, 1) := by decide +kernel
theorem dX7_step_23 : decode cX7_step 23 = .ok (.getfield 40, 3) := by decide +kernel
theorem dX7_step_26 : decode cX7_step 26 = .ok (.iload_n 1, 1) := by decide +kernel
theorem dX7_step_27 : decode cX7_step 27 = .ok (.iconst 0, 1) := by decide +kernel
theorem dX7_step_28 : decode cX7_step 28 = .ok (.invokevirtual 301, 3) := by decide +kernel
theorem dX7_step_31 : decode cX7_step 31 = .ok (.ireturn, 1) := by decide +kernel
set_option maxRecDepth 20000 in
theorem ggX7_back_X7_isOutside : GoodIn wsX7_back wsX7_isOutside := goodIn_r _ [9] (by decide +kernel) (by decide +kernel)
set_option maxRecDepth 20000 in
theorem gX7_back_X7_isOutside : GoodIn wsX7_back (va_wsS RX7 44 yX7_isOutside wsX7_isOutside) := goodIn_app (goodIn_of _ (by decide +kernel)) ggX7_back_X7_isOutside
set_option maxRecDepth 20000 in
theorem ggX7_back_X2_isDriven : GoodIn wsX7_back wsX2_isDriven := goodIn_r _ [14, 15, 16, 63, 64, 65, 66, 67, 68, 69, 70, 71] (by decide +kernel) (by decide +kernel)
set_option maxRecDepth 20000 in
theorem gX7_back_X2_isDriven : GoodIn wsX7_back (wsV RX7 305 RX2 yX2_isDriven wsX2_isDriven) := goodIn_app (goodIn_of _ (by decide +kernel)) ggX7_back_X2_isDriven
set_option maxRecDepth 20000 in
theorem ggX7_back_X2_stepMany : GoodIn wsX7_back wsX2_stepMany := goodIn_r _ [20, 21, 22, 23, 13, 24, 25, 26, 27, 28, 29, 30, 31, 32, 33, 34, 35, 36, 37, 38, 39, 40, 41, 42, 43, 15, 16, 44, 45, 46, 47, 48, 49, 7, 8, 9, 50, 51, 52, 53, 54, 55, 56, 57, 63, 64, 65, 66, 67, 68, 69, 70, 71] (by decide +kernel) (by decide +kernel)
set_option maxRecDepth 20000 in
theorem gX7_back_X2_stepMany : GoodIn wsX7_back (wsV RX7 301 RX2 yX2_stepMany wsX2_stepMany) := goodIn_app (goodIn_of _ (by decide +kernel)) ggX7_back_X2_stepMany
theorem dX7_back_0 : decode cX7_back 0 = .ok (.iload_n 1, 1) := by decide +kernel
theorem dX7_back_1 : decode cX7_back 1 = .ok (.iconst 1, 1) := by decide +kernel
theorem dX7_back_2 : decode cX7_back 2 = .ok (.sipush 1000, 3) := by decide +kernel
theorem dX7_back_5 : decode cX7_back 5 = .ok (.invokestatic 44, 3) := by decide +kernel
theorem dX7_back_8 : decode cX7_back 8 = .ok (.ifCond .eq 14, 3) := by decide +kernel
theorem dX7_back_11 : decode cX7_back 11 = .ok (.new 48, 3) := by decide +kernel
theorem dX7_back_14 : decode cX7_back 14 = .ok (.dup, 1) := by decide +kernel
theorem dX7_back_15 : decode cX7_back 15 = .ok (.ldc_w 299, 3) := by decide +kernel
theorem dX7_back_18 : decode cX7_back 18 = .ok (.invokespecial 52, 3) := by decide +kernel
theorem dX7_back_21 : decode cX7_back 21 = .ok (.athrow, 1) := by decide +kernel
theorem dX7_back_22 : decode cX7_back 22 = .ok (.aload_n 0, 1) := by decide +kernel
theorem dX7_back_23 : decode cX7_back 23 = .ok (.getfield 40, 3) := by decide +kernel
theorem dX7_back_26 : decode cX7_back 26 = .ok (.invokevirtual 305, 3) := by decide +kernel
theorem dX7_back_29 : decode cX7_back 29 = .ok (.ifCond .eq 14, 3) := by decide +kernel
theorem dX7_back_32 : decode cX7_back 32 = .ok (.new 76, 3) := by decide +kernel
theorem dX7_back_35 : decode cX7_back 35 = .ok (.dup, 1) := by decide +kernel
theorem dX7_back_36 : decode cX7_back 36 = .ok (.ldc_w 308, 3) := by decide +kernel
theorem dX7_back_39 : decode cX7_back 39 = .ok (.invokespecial 80, 3) := by decide +kernel
theorem dX7_back_42 : decode cX7_back 42 = .ok (.athrow, 1) := by decide +kernel
theorem dX7_back_43 : decode cX7_back 43 = .ok (.aload_n 0, 1) := by decide +kernel
theorem dX7_back_44 : decode cX7_back 44 = .ok (.getfield 40, 3) := by decide +kernel
theorem dX7_back_47 : decode cX7_back 47 = .ok (.iload_n 1, 1) := by decide +kernel
theorem dX7_back_48 : decode cX7_back 48 = .ok (.iconst 1, 1) := by decide +kernel
theorem dX7_back_49 : decode cX7_back 49 = .ok (.invokevirtual 301, 3) := by decide +kernel
theorem dX7_back_52 : decode cX7_back 52 = .ok (.ireturn, 1) := by decide +kernel
set_option maxRecDepth 20000 in
theorem ggX7_bob_X2_has : GoodIn wsX7_bob wsX2_has := goodIn_r _ [8, 9, 25, 26, 27, 28, 29, 30, 31, 32, 33] (by decide +kernel) (by decide +kernel)
set_option maxRecDepth 20000 in
theorem gX7_bob_X2_has : GoodIn wsX7_bob (wsV RX7 285 RX2 yX2_has wsX2_has) := goodIn_app (goodIn_of _ (by decide +kernel)) ggX7_bob_X2_has
set_option maxRecDepth 20000 in
theorem ggX7_bob_X2_speedOf : GoodIn wsX7_bob wsX2_speedOf := goodIn_r _ [13, 14, 25, 26, 27, 28, 29, 30, 31, 32, 33] (by decide +kernel) (by decide +kernel)
set_option maxRecDepth 20000 in
theorem gX7_bob_X2_speedOf : GoodIn wsX7_bob (wsV RX7 310 RX2 yX2_speedOf wsX2_speedOf) := goodIn_app (goodIn_of _ (by decide +kernel)) ggX7_bob_X2_speedOf
set_option maxRecDepth 20000 in
theorem ggX7_bob_X2_placeOf : GoodIn wsX7_bob wsX2_placeOf := goodIn_r _ [18, 19, 25, 26, 27, 28, 29, 30, 31, 32, 33] (by decide +kernel) (by decide +kernel)
set_option maxRecDepth 20000 in
theorem gX7_bob_X2_placeOf : GoodIn wsX7_bob (wsV RX7 313 RX2 yX2_placeOf wsX2_placeOf) := goodIn_app (goodIn_of _ (by decide +kernel)) ggX7_bob_X2_placeOf
theorem dX7_bob_0 : decode cX7_bob 0 = .ok (.aload_n 0, 1) := by decide +kernel
theorem dX7_bob_1 : decode cX7_bob 1 = .ok (.getfield 40, 3) := by decide +kernel
theorem dX7_bob_4 : decode cX7_bob 4 = .ok (.iload_n 1, 1) := by decide +kernel
theorem dX7_bob_5 : decode cX7_bob 5 = .ok (.invokevirtual 285, 3) := by decide +kernel
theorem dX7_bob_8 : decode cX7_bob 8 = .ok (.ifCond .ne 14, 3) := by decide +kernel
theorem dX7_bob_11 : decode cX7_bob 11 = .ok (.new 89, 3) := by decide +kernel
theorem dX7_bob_14 : decode cX7_bob 14 = .ok (.dup, 1) := by decide +kernel
theorem dX7_bob_15 : decode cX7_bob 15 = .ok (.ldc_w 286, 3) := by decide +kernel
theorem dX7_bob_18 : decode cX7_bob 18 = .ok (.invokespecial 93, 3) := by decide +kernel
theorem dX7_bob_21 : decode cX7_bob 21 = .ok (.athrow, 1) := by decide +kernel
theorem dX7_bob_22 : decode cX7_bob 22 = .ok (.iload_n 2, 1) := by decide +kernel
theorem dX7_bob_23 : decode cX7_bob 23 = .ok (.ifCond .eq 14, 3) := by decide +kernel
theorem dX7_bob_26 : decode cX7_bob 26 = .ok (.aload_n 0, 1) := by decide +kernel
theorem dX7_bob_27 : decode cX7_bob 27 = .ok (.getfield 40, 3) := by decide +kernel
theorem dX7_bob_30 : decode cX7_bob 30 = .ok (.iload_n 1, 1) := by decide +kernel
theorem dX7_bob_31 : decode cX7_bob 31 = .ok (.invokevirtual 310, 3) := by decide +kernel
theorem dX7_bob_34 : decode cX7_bob 34 = .ok (.goto 11, 3) := by decide +kernel
theorem dX7_bob_37 : decode cX7_bob 37 = .ok (.aload_n 0, 1) := by decide +kernel
theorem dX7_bob_38 : decode cX7_bob 38 = .ok (.getfield 40, 3) := by decide +kernel
theorem dX7_bob_41 : decode cX7_bob 41 = .ok (.iload_n 1, 1) := by decide +kernel
theorem dX7_bob_42 : decode cX7_bob 42 = .ok (.invokevirtual 313, 3) := by decide +kernel
theorem dX7_bob_45 : decode cX7_bob 45 = .ok (.ireturn, 1) := by decide +kernel
set_option maxRecDepth 20000 in
theorem ggX7_energy_X2_totalEnergy : GoodIn wsX7_energy wsX2_totalEnergy := goodIn_r _ [6, 7, 8, 9, 10, 11, 12, 13, 14, 5, 15, 21, 22, 23, 24, 25, 26, 27, 28, 29] (by decide +kernel) (by decide +kernel)
set_option maxRecDepth 20000 in
theorem gX7_energy_X2_totalEnergy : GoodIn wsX7_energy (wsV RX7 316 RX2 yX2_totalEnergy wsX2_totalEnergy) := goodIn_app (goodIn_of _ (by decide +kernel)) ggX7_energy_X2_totalEnergy
theorem dX7_energy_0 : decode cX7_energy 0 = .ok (.aload_n 0, 1) := by decide +kernel
theorem dX7_energy_1 : decode cX7_energy 1 = .ok (.getfield 40, 3) := by decide +kernel
theorem dX7_energy_4 : decode cX7_energy 4 = .ok (.invokevirtual 316, 3) := by decide +kernel
theorem dX7_energy_7 : decode cX7_energy 7 = .ok (.lreturn, 1) := by decide +kernel
set_option maxRecDepth 20000 in
theorem ggX7_share_X2_totalEnergy : GoodIn wsX7_share wsX2_totalEnergy := goodIn_r _ [6, 7, 8, 9, 10, 11, 12, 13, 14, 5, 15, 25, 26, 27, 28, 29, 30, 31, 32, 33] (by decide +kernel) (by decide +kernel)
set_option maxRecDepth 20000 in
theorem gX7_share_X2_totalEnergy : GoodIn wsX7_share (wsV RX7 316 RX2 yX2_totalEnergy wsX2_totalEnergy) := goodIn_app (goodIn_of _ (by decide +kernel)) ggX7_share_X2_totalEnergy
set_option maxRecDepth 20000 in
theorem ggX7_share_X2_number : GoodIn wsX7_share wsX2_number := goodIn_r _ [19, 7, 25, 26, 27, 28, 29, 30, 31, 32, 33] (by decide +kernel) (by decide +kernel)
set_option maxRecDepth 20000 in
theorem gX7_share_X2_number : GoodIn wsX7_share (wsV RX7 319 RX2 yX2_number wsX2_number) := goodIn_app (goodIn_of _ (by decide +kernel)) ggX7_share_X2_number
theorem dX7_share_0 : decode cX7_share 0 = .ok (.aload_n 0, 1) := by decide +kernel
theorem dX7_share_1 : decode cX7_share 1 = .ok (.getfield 40, 3) := by decide +kernel
theorem dX7_share_4 : decode cX7_share 4 = .ok (.invokevirtual 316, 3) := by decide +kernel
theorem dX7_share_7 : decode cX7_share 7 = .ok (.l2f, 1) := by decide +kernel
theorem dX7_share_8 : decode cX7_share 8 = .ok (.aload_n 0, 1) := by decide +kernel
theorem dX7_share_9 : decode cX7_share 9 = .ok (.getfield 40, 3) := by decide +kernel
theorem dX7_share_12 : decode cX7_share 12 = .ok (.invokevirtual 319, 3) := by decide +kernel
theorem dX7_share_15 : decode cX7_share 15 = .ok (.i2f, 1) := by decide +kernel
theorem dX7_share_16 : decode cX7_share 16 = .ok (.fdiv, 1) := by decide +kernel
theorem dX7_share_17 : decode cX7_share 17 = .ok (.freturn, 1) := by decide +kernel
set_option maxRecDepth 20000 in
theorem ggX7_count_X3_number : GoodIn wsX7_count wsX3_number := goodIn_r _ [10, 11, 88, 89, 90, 91, 92, 93, 94, 95, 96, 97] (by decide +kernel) (by decide +kernel)
set_option maxRecDepth 20000 in
theorem gX7_count_X3_number : GoodIn wsX7_count (wsV RX7 118 RX3 yX3_number wsX3_number) := goodIn_app (goodIn_of _ (by decide +kernel)) ggX7_count_X3_number
set_option maxRecDepth 20000 in
theorem ggX7_count_X3_countNear : GoodIn wsX7_count wsX3_countNear := goodIn_r _ [15, 11, 16, 17, 18, 9, 19, 20, 21, 22, 23, 24, 25, 26, 27, 28, 29, 30, 31, 32, 33, 34, 35, 36, 88, 89, 90, 91, 92, 93, 94, 95, 96, 97] (by decide +kernel) (by decide +kernel)
set_option maxRecDepth 20000 in
theorem gX7_count_X3_countNear : GoodIn wsX7_count (wsV RX7 320 RX3 yX3_countNear wsX3_countNear) := goodIn_app (goodIn_of _ (by decide +kernel)) ggX7_count_X3_countNear
set_option maxRecDepth 20000 in
theorem ggX7_count_X5_readingCount : GoodIn wsX7_count wsX5_readingCount := goodIn_r _ [41, 42, 98, 99, 100, 101, 102, 103, 104, 105, 106] (by decide +kernel) (by decide +kernel)
set_option maxRecDepth 20000 in
theorem gX7_count_X5_readingCount : GoodIn wsX7_count (wsV RX7 323 RX5 yX5_readingCount wsX5_readingCount) := goodIn_app (goodIn_of _ (by decide +kernel)) ggX7_count_X5_readingCount
set_option maxRecDepth 20000 in
theorem ggX7_count_X5_countTiedPairs : GoodIn wsX7_count wsX5_countTiedPairs := goodIn_r _ [46, 47, 48, 49, 40, 50, 51, 52, 53, 54, 98, 99, 100, 101, 102, 103, 104, 105, 106] (by decide +kernel) (by decide +kernel)
set_option maxRecDepth 20000 in
theorem gX7_count_X5_countTiedPairs : GoodIn wsX7_count (wsV RX7 326 RX5 yX5_countTiedPairs wsX5_countTiedPairs) := goodIn_app (goodIn_of _ (by decide +kernel)) ggX7_count_X5_countTiedPairs
set_option maxRecDepth 20000 in
theorem ggX7_count_X5_countSteps : GoodIn wsX7_count wsX5_countSteps := goodIn_r _ [58, 59, 60, 61, 62, 63, 64, 65, 66, 67, 40, 68, 47, 48, 49, 50, 51, 52, 53, 54, 98, 99, 100, 101, 102, 103, 104, 105, 106] (by decide +kernel) (by decide +kernel)
set_option maxRecDepth 20000 in
theorem gX7_count_X5_countSteps : GoodIn wsX7_count (wsV RX7 221 RX5 yX5_countSteps wsX5_countSteps) := goodIn_app (goodIn_of _ (by decide +kernel)) ggX7_count_X5_countSteps
set_option maxRecDepth 20000 in
theorem ggX7_count_X5_countReached : GoodIn wsX7_count wsX5_countReached := goodIn_r _ [72, 73, 74, 75, 40, 76, 59, 98, 99, 100, 101, 102, 103, 104, 105, 106] (by decide +kernel) (by decide +kernel)
set_option maxRecDepth 20000 in
theorem gX7_count_X5_countReached : GoodIn wsX7_count (wsV RX7 329 RX5 yX5_countReached wsX5_countReached) := goodIn_app (goodIn_of _ (by decide +kernel)) ggX7_count_X5_countReached
set_option maxRecDepth 20000 in
theorem ggX7_count_X2_number : GoodIn wsX7_count wsX2_number := goodIn_r _ [81, 82, 107, 108, 109, 110, 111, 112, 113, 114, 115] (by decide +kernel) (by decide +kernel)
set_option maxRecDepth 20000 in
theorem gX7_count_X2_number : GoodIn wsX7_count (wsV RX7 319 RX2 yX2_number wsX2_number) := goodIn_app (goodIn_of _ (by decide +kernel)) ggX7_count_X2_number
theorem dX7_count_0 : decode cX7_count 0 = .ok (.iload_n 1, 1) := by decide +kernel
theorem dX7_count_1 : decode cX7_count 1 = .ok (.tableswitch 94 0 5 #[39, 47, 55, 63, 71, 86], 39) := by decide +kernel
theorem dX7_count_40 : decode cX7_count 40 = .ok (.aload_n 0, 1) := by decide +kernel
theorem dX7_count_41 : decode cX7_count 41 = .ok (.getfield 10, 3) := by decide +kernel
theorem dX7_count_44 : decode cX7_count 44 = .ok (.invokevirtual 118, 3) := by decide +kernel
theorem dX7_count_47 : decode cX7_count 47 = .ok (.ireturn, 1) := by decide +kernel
theorem dX7_count_48 : decode cX7_count 48 = .ok (.aload_n 0, 1) := by decide +kernel
theorem dX7_count_49 : decode cX7_count 49 = .ok (.getfield 10, 3) := by decide +kernel
theorem dX7_count_52 : decode cX7_count 52 = .ok (.invokevirtual 320, 3) := by decide +kernel
theorem dX7_count_55 : decode cX7_count 55 = .ok (.ireturn, 1) := by decide +kernel
theorem dX7_count_56 : decode cX7_count 56 = .ok (.aload_n 0, 1) := by decide +kernel
theorem dX7_count_57 : decode cX7_count 57 = .ok (.getfield 26, 3) := by decide +kernel
theorem dX7_count_60 : decode cX7_count 60 = .ok (.invokevirtual 323, 3) := by decide +kernel
theorem dX7_count_63 : decode cX7_count 63 = .ok (.ireturn, 1) := by decide +kernel
theorem dX7_count_64 : decode cX7_count 64 = .ok (.aload_n 0, 1) := by decide +kernel
theorem dX7_count_65 : decode cX7_count 65 = .ok (.getfield 26, 3) := by decide +kernel
theorem dX7_count_68 : decode cX7_count 68 = .ok (.invokevirtual 326, 3) := by decide +kernel
theorem dX7_count_71 : decode cX7_count 71 = .ok (.ireturn, 1) := by decide +kernel
theorem dX7_count_72 : decode cX7_count 72 = .ok (.aload_n 0, 1) := by decide +kernel
theorem dX7_count_73 : decode cX7_count 73 = .ok (.getfield 26, 3) := by decide +kernel
theorem dX7_count_76 : decode cX7_count 76 = .ok (.invokevirtual 221, 3) := by decide +kernel
theorem dX7_count_79 : decode cX7_count 79 = .ok (.aload_n 0, 1) := by decide +kernel
theorem dX7_count_80 : decode cX7_count 80 = .ok (.getfield 26, 3) := by decide +kernel
theorem dX7_count_83 : decode cX7_count 83 = .ok (.invokevirtual 329, 3) := by decide +kernel
theorem dX7_count_86 : decode cX7_count 86 = .ok (.ireturn, 1) := by decide +kernel
theorem dX7_count_87 : decode cX7_count 87 = .ok (.aload_n 0, 1) := by decide +kernel
theorem dX7_count_88 : decode cX7_count 88 = .ok (.getfield 40, 3) := by decide +kernel
theorem dX7_count_91 : decode cX7_count 91 = .ok (.invokevirtual 319, 3) := by decide +kernel
theorem dX7_count_94 : decode cX7_count 94 = .ok (.ireturn, 1) := by decide +kernel
theorem dX7_count_95 : decode cX7_count 95 = .ok (.new 48, 3) := by decide +kernel
theorem dX7_count_98 : decode cX7_count 98 = .ok (.dup, 1) := by decide +kernel
theorem dX7_count_99 : decode cX7_count 99 = .ok (.ldc_w 332, 3) := by decide +kernel
theorem dX7_count_102 : decode cX7_count 102 = .ok (.invokespecial 52, 3) := by decide +kernel
theorem dX7_count_105 : decode cX7_count 105 = .ok (.athrow, 1) := by decide +kernel
theorem dX7_isOutside_0 : decode cX7_isOutside 0 = .ok (.iload_n 0, 1) := by decide +kernel
theorem dX7_isOutside_1 : decode cX7_isOutside 1 = .ok (.iload_n 1, 1) := by decide +kernel
theorem dX7_isOutside_2 : decode cX7_isOutside 2 = .ok (.if_icmp .lt 8, 3) := by decide +kernel
theorem dX7_isOutside_5 : decode cX7_isOutside 5 = .ok (.iload_n 0, 1) := by decide +kernel
theorem dX7_isOutside_6 : decode cX7_isOutside 6 = .ok (.iload_n 2, 1) := by decide +kernel
theorem dX7_isOutside_7 : decode cX7_isOutside 7 = .ok (.if_icmp .le 7, 3) := by decide +kernel
theorem dX7_isOutside_10 : decode cX7_isOutside 10 = .ok (.iconst 1, 1) := by decide +kernel
theorem dX7_isOutside_11 : decode cX7_isOutside 11 = .ok (.goto 4, 3) := by decide +kernel
theorem dX7_isOutside_14 : decode cX7_isOutside 14 = .ok (.iconst 0, 1) := by decide +kernel
theorem dX7_isOutside_15 : decode cX7_isOutside 15 = .ok (.ireturn, 1) := by decide +kernel
set_option maxRecDepth 20000 in
theorem ggX7_isBadRegulation_X7_isOutside : GoodIn wsX7_isBadRegulation wsX7_isOutside := goodIn_r _ [6] (by decide +kernel) (by decide +kernel)
set_option maxRecDepth 20000 in
theorem gX7_isBadRegulation_X7_isOutside : GoodIn wsX7_isBadRegulation (va_wsS RX7 44 yX7_isOutside wsX7_isOutside) := goodIn_app (goodIn_of _ (by decide +kernel)) ggX7_isBadRegulation_X7_isOutside
theorem dX7_isBadRegulation_0 : decode cX7_isBadRegulation 0 = .ok (.iload_n 0, 1) := by decide +kernel
theorem dX7_isBadRegulation_1 : decode cX7_isBadRegulation 1 = .ok (.iconst 0, 1) := by decide +kernel
theorem dX7_isBadRegulation_2 : decode cX7_isBadRegulation 2 = .ok (.sipush 200, 3) := by decide +kernel
theorem dX7_isBadRegulation_5 : decode cX7_isBadRegulation 5 = .ok (.invokestatic 44, 3) := by decide +kernel
theorem dX7_isBadRegulation_8 : decode cX7_isBadRegulation 8 = .ok (.ifCond .ne 14, 3) := by decide +kernel
theorem dX7_isBadRegulation_11 : decode cX7_isBadRegulation 11 = .ok (.iload_n 1, 1) := by decide +kernel
theorem dX7_isBadRegulation_12 : decode cX7_isBadRegulation 12 = .ok (.ldc 183, 2) := by decide +kernel
theorem dX7_isBadRegulation_14 : decode cX7_isBadRegulation 14 = .ok (.ldc 184, 2) := by decide +kernel
theorem dX7_isBadRegulation_16 : decode cX7_isBadRegulation 16 = .ok (.invokestatic 44, 3) := by decide +kernel
theorem dX7_isBadRegulation_19 : decode cX7_isBadRegulation 19 = .ok (.ifCond .eq 7, 3) := by decide +kernel
theorem dX7_isBadRegulation_22 : decode cX7_isBadRegulation 22 = .ok (.iconst 1, 1) := by decide +kernel
theorem dX7_isBadRegulation_23 : decode cX7_isBadRegulation 23 = .ok (.goto 4, 3) := by decide +kernel
theorem dX7_isBadRegulation_26 : decode cX7_isBadRegulation 26 = .ok (.iconst 0, 1) := by decide +kernel
theorem dX7_isBadRegulation_27 : decode cX7_isBadRegulation 27 = .ok (.ireturn, 1) := by decide +kernel
set_option maxRecDepth 20000 in
theorem ggX7_isBadBeam_X7_isOutside : GoodIn wsX7_isBadBeam wsX7_isOutside := goodIn_r _ [4] (by decide +kernel) (by decide +kernel)
set_option maxRecDepth 20000 in
theorem gX7_isBadBeam_X7_isOutside : GoodIn wsX7_isBadBeam (va_wsS RX7 44 yX7_isOutside wsX7_isOutside) := goodIn_app (goodIn_of _ (by decide +kernel)) ggX7_isBadBeam_X7_isOutside
theorem dX7_isBadBeam_0 : decode cX7_isBadBeam 0 = .ok (.iload_n 0, 1) := by decide +kernel
theorem dX7_isBadBeam_1 : decode cX7_isBadBeam 1 = .ok (.iconst 0, 1) := by decide +kernel
theorem dX7_isBadBeam_2 : decode cX7_isBadBeam 2 = .ok (.sipush 999, 3) := by decide +kernel
theorem dX7_isBadBeam_5 : decode cX7_isBadBeam 5 = .ok (.invokestatic 44, 3) := by decide +kernel
theorem dX7_isBadBeam_8 : decode cX7_isBadBeam 8 = .ok (.ifCond .ne 25, 3) := by decide +kernel
theorem dX7_isBadBeam_11 : decode cX7_isBadBeam 11 = .ok (.iload_n 1, 1) := by decide +kernel
theorem dX7_isBadBeam_12 : decode cX7_isBadBeam 12 = .ok (.iconst 0, 1) := by decide +kernel
theorem dX7_isBadBeam_13 : decode cX7_isBadBeam 13 = .ok (.sipush 300, 3) := by decide +kernel
theorem dX7_isBadBeam_16 : decode cX7_isBadBeam 16 = .ok (.invokestatic 44, 3) := by decide +kernel
theorem dX7_isBadBeam_19 : decode cX7_isBadBeam 19 = .ok (.ifCond .ne 14, 3) := by decide +kernel
theorem dX7_isBadBeam_22 : decode cX7_isBadBeam 22 = .ok (.iload_n 2, 1) := by decide +kernel
theorem dX7_isBadBeam_23 : decode cX7_isBadBeam 23 = .ok (.iconst 0, 1) := by decide +kernel
theorem dX7_isBadBeam_24 : decode cX7_isBadBeam 24 = .ok (.sipush 999, 3) := by decide +kernel
theorem dX7_isBadBeam_27 : decode cX7_isBadBeam 27 = .ok (.invokestatic 44, 3) := by decide +kernel
theorem dX7_isBadBeam_30 : decode cX7_isBadBeam 30 = .ok (.ifCond .eq 7, 3) := by decide +kernel
theorem dX7_isBadBeam_33 : decode cX7_isBadBeam 33 = .ok (.iconst 1, 1) := by decide +kernel
theorem dX7_isBadBeam_34 : decode cX7_isBadBeam 34 = .ok (.goto 4, 3) := by decide +kernel
theorem dX7_isBadBeam_37 : decode cX7_isBadBeam 37 = .ok (.iconst 0, 1) := by decide +kernel
theorem dX7_isBadBeam_38 : decode cX7_isBadBeam 38 = .ok (.ireturn, 1) := by decide +kernel
set_option maxRecDepth 20000 in
theorem ggX7_isBadBeat_X7_isOutside : GoodIn wsX7_isBadBeat wsX7_isOutside := goodIn_r _ [6] (by decide +kernel) (by decide +kernel)
set_option maxRecDepth 20000 in
theorem gX7_isBadBeat_X7_isOutside : GoodIn wsX7_isBadBeat (va_wsS RX7 44 yX7_isOutside wsX7_isOutside) := goodIn_app (goodIn_of _ (by decide +kernel)) ggX7_isBadBeat_X7_isOutside
theorem dX7_isBadBeat_0 : decode cX7_isBadBeat 0 = .ok (.iload_n 0, 1) := by decide +kernel
theorem dX7_isBadBeat_1 : decode cX7_isBadBeat 1 = .ok (.iload_n 3, 1) := by decide +kernel
theorem dX7_isBadBeat_2 : decode cX7_isBadBeat 2 = .ok (.ldc_w 334, 3) := by decide +kernel
theorem dX7_isBadBeat_5 : decode cX7_isBadBeat 5 = .ok (.invokestatic 44, 3) := by decide +kernel
theorem dX7_isBadBeat_8 : decode cX7_isBadBeat 8 = .ok (.ifCond .ne 24, 3) := by decide +kernel
theorem dX7_isBadBeat_11 : decode cX7_isBadBeat 11 = .ok (.iload_n 1, 1) := by decide +kernel
theorem dX7_isBadBeat_12 : decode cX7_isBadBeat 12 = .ok (.iload_n 3, 1) := by decide +kernel
theorem dX7_isBadBeat_13 : decode cX7_isBadBeat 13 = .ok (.ldc_w 334, 3) := by decide +kernel
theorem dX7_isBadBeat_16 : decode cX7_isBadBeat 16 = .ok (.invokestatic 44, 3) := by decide +kernel
theorem dX7_isBadBeat_19 : decode cX7_isBadBeat 19 = .ok (.ifCond .ne 13, 3) := by decide +kernel
theorem dX7_isBadBeat_22 : decode cX7_isBadBeat 22 = .ok (.iload_n 2, 1) := by decide +kernel
theorem dX7_isBadBeat_23 : decode cX7_isBadBeat 23 = .ok (.iconst 0, 1) := by decide +kernel
theorem dX7_isBadBeat_24 : decode cX7_isBadBeat 24 = .ok (.ldc 184, 2) := by decide +kernel
theorem dX7_isBadBeat_26 : decode cX7_isBadBeat 26 = .ok (.invokestatic 44, 3) := by decide +kernel
theorem dX7_isBadBeat_29 : decode cX7_isBadBeat 29 = .ok (.ifCond .eq 7, 3) := by decide +kernel
theorem dX7_isBadBeat_32 : decode cX7_isBadBeat 32 = .ok (.iconst 1, 1) := by decide +kernel
theorem dX7_isBadBeat_33 : decode cX7_isBadBeat 33 = .ok (.goto 4, 3) := by decide +kernel
theorem dX7_isBadBeat_36 : decode cX7_isBadBeat 36 = .ok (.iconst 0, 1) := by decide +kernel
theorem dX7_isBadBeat_37 : decode cX7_isBadBeat 37 = .ok (.ireturn, 1) := by decide +kernel
set_option maxRecDepth 20000 in
theorem ggX7_isNoStation_X7_isOutside : GoodIn wsX7_isNoStation wsX7_isOutside := goodIn_r _ [4] (by decide +kernel) (by decide +kernel)
set_option maxRecDepth 20000 in
theorem gX7_isNoStation_X7_isOutside : GoodIn wsX7_isNoStation (va_wsS RX7 44 yX7_isOutside wsX7_isOutside) := goodIn_app (goodIn_of _ (by decide +kernel)) ggX7_isNoStation_X7_isOutside
theorem dX7_isNoStation_0 : decode cX7_isNoStation 0 = .ok (.iload_n 0, 1) := by decide +kernel
theorem dX7_isNoStation_1 : decode cX7_isNoStation 1 = .ok (.iconst 0, 1) := by decide +kernel
theorem dX7_isNoStation_2 : decode cX7_isNoStation 2 = .ok (.bipush 9, 2) := by decide +kernel
theorem dX7_isNoStation_4 : decode cX7_isNoStation 4 = .ok (.invokestatic 44, 3) := by decide +kernel
theorem dX7_isNoStation_7 : decode cX7_isNoStation 7 = .ok (.ireturn, 1) := by decide +kernel
set_option maxRecDepth 20000 in
theorem ggX7_isBadDrive_X7_isOutside : GoodIn wsX7_isBadDrive wsX7_isOutside := goodIn_r _ [4] (by decide +kernel) (by decide +kernel)
set_option maxRecDepth 20000 in
theorem gX7_isBadDrive_X7_isOutside : GoodIn wsX7_isBadDrive (va_wsS RX7 44 yX7_isOutside wsX7_isOutside) := goodIn_app (goodIn_of _ (by decide +kernel)) ggX7_isBadDrive_X7_isOutside
theorem dX7_isBadDrive_0 : decode cX7_isBadDrive 0 = .ok (.iload_n 0, 1) := by decide +kernel
theorem dX7_isBadDrive_1 : decode cX7_isBadDrive 1 = .ok (.iconst 0, 1) := by decide +kernel
theorem dX7_isBadDrive_2 : decode cX7_isBadDrive 2 = .ok (.bipush 63, 2) := by decide +kernel
theorem dX7_isBadDrive_4 : decode cX7_isBadDrive 4 = .ok (.invokestatic 44, 3) := by decide +kernel
theorem dX7_isBadDrive_7 : decode cX7_isBadDrive 7 = .ok (.ifCond .ne 24, 3) := by decide +kernel
theorem dX7_isBadDrive_10 : decode cX7_isBadDrive 10 = .ok (.iload_n 1, 1) := by decide +kernel
theorem dX7_isBadDrive_11 : decode cX7_isBadDrive 11 = .ok (.iconst 0, 1) := by decide +kernel
theorem dX7_isBadDrive_12 : decode cX7_isBadDrive 12 = .ok (.bipush 63, 2) := by decide +kernel
theorem dX7_isBadDrive_14 : decode cX7_isBadDrive 14 = .ok (.invokestatic 44, 3) := by decide +kernel
theorem dX7_isBadDrive_17 : decode cX7_isBadDrive 17 = .ok (.ifCond .ne 14, 3) := by decide +kernel
theorem dX7_isBadDrive_20 : decode cX7_isBadDrive 20 = .ok (.iload_n 2, 1) := by decide +kernel
theorem dX7_isBadDrive_21 : decode cX7_isBadDrive 21 = .ok (.iconst 0, 1) := by decide +kernel
theorem dX7_isBadDrive_22 : decode cX7_isBadDrive 22 = .ok (.sipush 200, 3) := by decide +kernel
theorem dX7_isBadDrive_25 : decode cX7_isBadDrive 25 = .ok (.invokestatic 44, 3) := by decide +kernel
theorem dX7_isBadDrive_28 : decode cX7_isBadDrive 28 = .ok (.ifCond .eq 7, 3) := by decide +kernel
theorem dX7_isBadDrive_31 : decode cX7_isBadDrive 31 = .ok (.iconst 1, 1) := by decide +kernel
theorem dX7_isBadDrive_32 : decode cX7_isBadDrive 32 = .ok (.goto 4, 3) := by decide +kernel
theorem dX7_isBadDrive_35 : decode cX7_isBadDrive 35 = .ok (.iconst 0, 1) := by decide +kernel
theorem dX7_isBadDrive_36 : decode cX7_isBadDrive 36 = .ok (.ireturn, 1) := by decide +kernel
theorem dX8_init_0 : decode cX8_init 0 = .ok (.aload_n 0, 1) := by decide +kernel
theorem dX8_init_1 : decode cX8_init 1 = .ok (.invokespecial 1, 3) := by decide +kernel
theorem dX8_init_4 : decode cX8_init 4 = .ok (.aload_n 0, 1) := by decide +kernel
theorem dX8_init_5 : decode cX8_init 5 = .ok (.bipush 20, 2) := by decide +kernel
theorem dX8_init_7 : decode cX8_init 7 = .ok (.putfield 7, 3) := by decide +kernel
theorem dX8_init_10 : decode cX8_init 10 = .ok (.aload_n 0, 1) := by decide +kernel
theorem dX8_init_11 : decode cX8_init 11 = .ok (.sipush 1013, 3) := by decide +kernel
theorem dX8_init_14 : decode cX8_init 14 = .ok (.putfield 13, 3) := by decide +kernel
theorem dX8_init_17 : decode cX8_init 17 = .ok (.aload_n 0, 1) := by decide +kernel
theorem dX8_init_18 : decode cX8_init 18 = .ok (.bipush 10, 2) := by decide +kernel
theorem dX8_init_20 : decode cX8_init 20 = .ok (.newarray .int, 2) := by decide +kernel
theorem dX8_init_22 : decode cX8_init 22 = .ok (.putfield 16, 3) := by decide +kernel
theorem dX8_init_25 : decode cX8_init 25 = .ok (.aload_n 0, 1) := by decide +kernel
theorem dX8_init_26 : decode cX8_init 26 = .ok (.bipush 10, 2) := by decide +kernel
theorem dX8_init_28 : decode cX8_init 28 = .ok (.newarray .int, 2) := by decide +kernel
theorem dX8_init_30 : decode cX8_init 30 = .ok (.putfield 20, 3) := by decide +kernel
theorem dX8_init_33 : decode cX8_init 33 = .ok (.aload_n 0, 1) := by decide +kernel
theorem dX8_init_34 : decode cX8_init 34 = .ok (.bipush 10, 2) := by decide +kernel
theorem dX8_init_36 : decode cX8_init 36 = .ok (.newarray .boolean, 2) := by decide +kernel
theorem dX8_init_38 : decode cX8_init 38 = .ok (.putfield 23, 3) := by decide +kernel
theorem dX8_init_41 : decode cX8_init 41 = .ok (.aload_n 0, 1) := by decide +kernel
theorem dX8_init_42 : decode cX8_init 42 = .ok (.bipush 10, 2) := by decide +kernel
theorem dX8_init_44 : decode cX8_init 44 = .ok (.newarray .int, 2) := by decide +kernel
theorem dX8_init_46 : decode cX8_init 46 = .ok (.putfield 27, 3) := by decide +kernel
theorem dX8_init_49 : decode cX8_init 49 = .ok (.aload_n 0, 1) := by decide +kernel
theorem dX8_init_50 : decode cX8_init 50 = .ok (.bipush 10, 2) := by decide +kernel
theorem dX8_init_52 : decode cX8_init 52 = .ok (.newarray .long, 2) := by decide +kernel
theorem dX8_init_54 : decode cX8_init 54 = .ok (.putfield 30, 3) := by decide +kernel
theorem dX8_init_57 : decode cX8_init 57 = .ok (.aload_n 0, 1) := by decide +kernel
theorem dX8_init_58 : decode cX8_init 58 = .ok (.bipush 10, 2) := by decide +kernel
theorem dX8_init_60 : decode cX8_init 60 = .ok (.newarray .long, 2) := by decide +kernel
theorem dX8_init_62 : decode cX8_init 62 = .ok (.putfield 34, 3) := by decide +kernel
theorem dX8_init_65 : decode cX8_init 65 = .ok (.aload_n 0, 1) := by decide +kernel
theorem dX8_init_66 : decode cX8_init 66 = .ok (.sipush 1000, 3) := by decide +kernel
theorem dX8_init_69 : decode cX8_init 69 = .ok (.newarray .int, 2) := by decide +kernel
theorem dX8_init_71 : decode cX8_init 71 = .ok (.putfield 37, 3) := by decide +kernel
theorem dX8_init_74 : decode cX8_init 74 = .ok (.aload_n 0, 1) := by decide +kernel
theorem dX8_init_75 : decode cX8_init 75 = .ok (.sipush 1000, 3) := by decide +kernel
theorem dX8_init_78 : decode cX8_init 78 = .ok (.newarray .int, 2) := by decide +kernel
theorem dX8_init_80 : decode cX8_init 80 = .ok (.putfield 40, 3) := by decide +kernel
theorem dX8_init_83 : decode cX8_init 83 = .ok (.aload_n 0, 1) := by decide +kernel
theorem dX8_init_84 : decode cX8_init 84 = .ok (.sipush 1000, 3) := by decide +kernel
theorem dX8_init_87 : decode cX8_init 87 = .ok (.newarray .int, 2) := by decide +kernel
theorem dX8_init_89 : decode cX8_init 89 = .ok (.putfield 43, 3) := by decide +kernel
theorem dX8_init_92 : decode cX8_init 92 = .ok (.aload_n 0, 1) := by decide +kernel
theorem dX8_init_93 : decode cX8_init 93 = .ok (.bipush 12, 2) := by decide +kernel
theorem dX8_init_95 : decode cX8_init 95 = .ok (.newarray .int, 2) := by decide +kernel
theorem dX8_init_97 : decode cX8_init 97 = .ok (.putfield 46, 3) := by decide +kernel
theorem dX8_init_100 : decode cX8_init 100 = .ok (.aload_n 0, 1) := by decide +kernel
theorem dX8_init_101 : decode cX8_init 101 = .ok (.bipush 12, 2) := by decide +kernel
theorem dX8_init_103 : decode cX8_init 103 = .ok (.newarray .int, 2) := by decide +kernel
theorem dX8_init_105 : decode cX8_init 105 = .ok (.putfield 49, 3) := by decide +kernel
theorem dX8_init_108 : decode cX8_init 108 = .ok (.aload_n 0, 1) := by decide +kernel
theorem dX8_init_109 : decode cX8_init 109 = .ok (.bipush 12, 2) := by decide +kernel
theorem dX8_init_111 : decode cX8_init 111 = .ok (.newarray .int, 2) := by decide +kernel
theorem dX8_init_113 : decode cX8_init 113 = .ok (.putfield 52, 3) := by decide +kernel
theorem dX8_init_116 : decode cX8_init 116 = .ok (.aload_n 0, 1) := by decide +kernel
theorem dX8_init_117 : decode cX8_init 117 = .ok (.bipush 100, 2) := by decide +kernel
theorem dX8_init_119 : decode cX8_init 119 = .ok (.newarray .boolean, 2) := by decide +kernel
theorem dX8_init_121 : decode cX8_init 121 = .ok (.putfield 55, 3) := by decide +kernel
theorem dX8_init_124 : decode cX8_init 124 = .ok (.aload_n 0, 1) := by decide +kernel
theorem dX8_init_125 : decode cX8_init 125 = .ok (.bipush 100, 2) := by decide +kernel
theorem dX8_init_127 : decode cX8_init 127 = .ok (.newarray .int, 2) := by decide +kernel
theorem dX8_init_129 : decode cX8_init 129 = .ok (.putfield 58, 3) := by decide +kernel
theorem dX8_init_132 : decode cX8_init 132 = .ok (.aload_n 0, 1) := by decide +kernel
theorem dX8_init_133 : decode cX8_init 133 = .ok (.bipush 10, 2) := by decide +kernel
theorem dX8_init_135 : decode cX8_init 135 = .ok (.newarray .int, 2) := by decide +kernel
theorem dX8_init_137 : decode cX8_init 137 = .ok (.putfield 61, 3) := by decide +kernel
theorem dX8_init_140 : decode cX8_init 140 = .ok (.aload_n 0, 1) := by decide +kernel
theorem dX8_init_141 : decode cX8_init 141 = .ok (.bipush 10, 2) := by decide +kernel
theorem dX8_init_143 : decode cX8_init 143 = .ok (.newarray .long, 2) := by decide +kernel
theorem dX8_init_145 : decode cX8_init 145 = .ok (.putfield 64, 3) := by decide +kernel
theorem dX8_init_148 : decode cX8_init 148 = .ok (.aload_n 0, 1) := by decide +kernel
theorem dX8_init_149 : decode cX8_init 149 = .ok (.sipush 4096, 3) := by decide +kernel
theorem dX8_init_152 : decode cX8_init 152 = .ok (.newarray .boolean, 2) := by decide +kernel
theorem dX8_init_154 : decode cX8_init 154 = .ok (.putfield 67, 3) := by decide +kernel
theorem dX8_init_157 : decode cX8_init 157 = .ok (.aload_n 0, 1) := by decide +kernel
theorem dX8_init_158 : decode cX8_init 158 = .ok (.iconst 1, 1) := by decide +kernel
theorem dX8_init_159 : decode cX8_init 159 = .ok (.putfield 70, 3) := by decide +kernel
theorem dX8_init_162 : decode cX8_init 162 = .ok (.aload_n 0, 1) := by decide +kernel
theorem dX8_init_163 : decode cX8_init 163 = .ok (.bipush 8, 2) := by decide +kernel
theorem dX8_init_165 : decode cX8_init 165 = .ok (.newarray .int, 2) := by decide +kernel
theorem dX8_init_167 : decode cX8_init 167 = .ok (.putfield 73, 3) := by decide +kernel
theorem dX8_init_170 : decode cX8_init 170 = .ok (.aload_n 0, 1) := by decide +kernel
theorem dX8_init_171 : decode cX8_init 171 = .ok (.bipush 8, 2) := by decide +kernel
theorem dX8_init_173 : decode cX8_init 173 = .ok (.newarray .int, 2) := by decide +kernel
theorem dX8_init_175 : decode cX8_init 175 = .ok (.putfield 76, 3) := by decide +kernel
theorem dX8_init_178 : decode cX8_init 178 = .ok (.aload_n 0, 1) := by decide +kernel
theorem dX8_init_179 : decode cX8_init 179 = .ok (.bipush 8, 2) := by decide +kernel
theorem dX8_init_181 : decode cX8_init 181 = .ok (.newarray .int, 2) := by decide +kernel
theorem dX8_init_183 : decode cX8_init 183 = .ok (.putfield 79, 3) := by decide +kernel
theorem dX8_init_186 : decode cX8_init 186 = .ok (.aload_n 0, 1) := by decide +kernel
theorem dX8_init_187 : decode cX8_init 187 = .ok (.bipush 8, 2) := by decide +kernel
theorem dX8_init_189 : decode cX8_init 189 = .ok (.newarray .int, 2) := by decide +kernel
theorem dX8_init_191 : decode cX8_init 191 = .ok (.putfield 82, 3) := by decide +kernel
theorem dX8_init_194 : decode cX8_init 194 = .ok (.return_, 1) := by decide +kernel
theorem dX8_thrown_0 : decode cX8_thrown 0 = .ok (.aload_n 0, 1) := by decide +kernel
theorem dX8_thrown_1 : decode cX8_thrown 1 = .ok (.getfield 85, 3) := by decide +kernel
theorem dX8_thrown_4 : decode cX8_thrown 4 = .ok (.ireturn, 1) := by decide +kernel
theorem dX8_isIn_0 : decode cX8_isIn 0 = .ok (.iload_n 0, 1) := by decide +kernel
theorem dX8_isIn_1 : decode cX8_isIn 1 = .ok (.iload_n 1, 1) := by decide +kernel
theorem dX8_isIn_2 : decode cX8_isIn 2 = .ok (.if_icmp .lt 12, 3) := by decide +kernel
theorem dX8_isIn_5 : decode cX8_isIn 5 = .ok (.iload_n 0, 1) := by decide +kernel
theorem dX8_isIn_6 : decode cX8_isIn 6 = .ok (.iload_n 2, 1) := by decide +kernel
theorem dX8_isIn_7 : decode cX8_isIn 7 = .ok (.if_icmp .gt 7, 3) := by decide +kernel
theorem dX8_isIn_10 : decode cX8_isIn 10 = .ok (.iconst 1, 1) := by decide +kernel
theorem dX8_isIn_11 : decode cX8_isIn 11 = .ok (.goto 4, 3) := by decide +kernel
theorem dX8_isIn_14 : decode cX8_isIn 14 = .ok (.iconst 0, 1) := by decide +kernel
theorem dX8_isIn_15 : decode cX8_isIn 15 = .ok (.ireturn, 1) := by decide +kernel
theorem dX8_floor_0 : decode cX8_floor 0 = .ok (.lload_n 0, 1) := by decide +kernel
theorem dX8_floor_1 : decode cX8_floor 1 = .ok (.lload_n 2, 1) := by decide +kernel
theorem dX8_floor_2 : decode cX8_floor 2 = .ok (.ldiv, 1) := by decide +kernel
theorem dX8_floor_3 : decode cX8_floor 3 = .ok (.lstore 4, 2) := by decide +kernel
theorem dX8_floor_5 : decode cX8_floor 5 = .ok (.lload_n 0, 1) := by decide +kernel
theorem dX8_floor_6 : decode cX8_floor 6 = .ok (.lload_n 2, 1) := by decide +kernel
theorem dX8_floor_7 : decode cX8_floor 7 = .ok (.lrem, 1) := by decide +kernel
theorem dX8_floor_8 : decode cX8_floor 8 = .ok (.lconst 0, 1) := by decide +kernel
theorem dX8_floor_9 : decode cX8_floor 9 = .ok (.lcmp, 1) := by decide +kernel
theorem dX8_floor_10 : decode cX8_floor 10 = .ok (.ifCond .ge 10, 3) := by decide +kernel
theorem dX8_floor_13 : decode cX8_floor 13 = .ok (.lload 4, 2) := by decide +kernel
theorem dX8_floor_15 : decode cX8_floor 15 = .ok (.lconst 1, 1) := by decide +kernel
theorem dX8_floor_16 : decode cX8_floor 16 = .ok (.lsub, 1) := by decide +kernel
theorem dX8_floor_17 : decode cX8_floor 17 = .ok (.goto 5, 3) := by decide +kernel
theorem dX8_floor_20 : decode cX8_floor 20 = .ok (.lload 4, 2) := by decide +kernel
theorem dX8_floor_22 : decode cX8_floor 22 = .ok (.lreturn, 1) := by decide +kernel
theorem dX8_rest_0 : decode cX8_rest 0 = .ok (.iload_n 0, 1) := by decide +kernel
theorem dX8_rest_1 : decode cX8_rest 1 = .ok (.iload_n 1, 1) := by decide +kernel
theorem dX8_rest_2 : decode cX8_rest 2 = .ok (.irem, 1) := by decide +kernel
theorem dX8_rest_3 : decode cX8_rest 3 = .ok (.istore_n 2, 1) := by decide +kernel
theorem dX8_rest_4 : decode cX8_rest 4 = .ok (.iload_n 2, 1) := by decide +kernel
theorem dX8_rest_5 : decode cX8_rest 5 = .ok (.ifCond .ge 9, 3) := by decide +kernel
theorem dX8_rest_8 : decode cX8_rest 8 = .ok (.iload_n 2, 1) := by decide +kernel
theorem dX8_rest_9 : decode cX8_rest 9 = .ok (.iload_n 1, 1) := by decide +kernel
theorem dX8_rest_10 : decode cX8_rest 10 = .ok (.iadd, 1) := by decide +kernel
theorem dX8_rest_11 : decode cX8_rest 11 = .ok (.goto 4, 3) := by decide +kernel
theorem dX8_rest_14 : decode cX8_rest 14 = .ok (.iload_n 2, 1) := by decide +kernel
theorem dX8_rest_15 : decode cX8_rest 15 = .ok (.ireturn, 1) := by decide +kernel
theorem dX8_size_0 : decode cX8_size 0 = .ok (.lload_n 0, 1) := by decide +kernel
theorem dX8_size_1 : decode cX8_size 1 = .ok (.lconst 0, 1) := by decide +kernel
theorem dX8_size_2 : decode cX8_size 2 = .ok (.lcmp, 1) := by decide +kernel
theorem dX8_size_3 : decode cX8_size 3 = .ok (.ifCond .ge 8, 3) := by decide +kernel
theorem dX8_size_6 : decode cX8_size 6 = .ok (.lload_n 0, 1) := by decide +kernel
theorem dX8_size_7 : decode cX8_size 7 = .ok (.lneg, 1) := by decide +kernel
theorem dX8_size_8 : decode cX8_size 8 = .ok (.goto 4, 3) := by decide +kernel
theorem dX8_size_11 : decode cX8_size 11 = .ok (.lload_n 0, 1) := by decide +kernel
theorem dX8_size_12 : decode cX8_size 12 = .ok (.lreturn, 1) := by decide +kernel
set_option maxRecDepth 20000 in
theorem ggX8_isClock_X8_isIn : GoodIn wsX8_isClock wsX8_isIn := goodIn_r _ [5] (by decide +kernel) (by decide +kernel)
set_option maxRecDepth 20000 in
theorem gX8_isClock_X8_isIn : GoodIn wsX8_isClock (va_wsS RX8 91 yX8_isIn wsX8_isIn) := goodIn_app (goodIn_of _ (by decide +kernel)) ggX8_isClock_X8_isIn
theorem dX8_isClock_0 : decode cX8_isClock 0 = .ok (.iload_n 1, 1) := by decide +kernel
theorem dX8_isClock_1 : decode cX8_isClock 1 = .ok (.iconst 0, 1) := by decide +kernel
theorem dX8_isClock_2 : decode cX8_isClock 2 = .ok (.aload_n 0, 1) := by decide +kernel
theorem dX8_isClock_3 : decode cX8_isClock 3 = .ok (.getfield 88, 3) := by decide +kernel
theorem dX8_isClock_6 : decode cX8_isClock 6 = .ok (.iconst 1, 1) := by decide +kernel
theorem dX8_isClock_7 : decode cX8_isClock 7 = .ok (.isub, 1) := by decide +kernel
theorem dX8_isClock_8 : decode cX8_isClock 8 = .ok (.invokestatic 91, 3) := by decide +kernel
theorem dX8_isClock_11 : decode cX8_isClock 11 = .ok (.ireturn, 1) := by decide +kernel
set_option maxRecDepth 20000 in
theorem ggX8_isStation_X8_isIn : GoodIn wsX8_isStation wsX8_isIn := goodIn_r _ [4] (by decide +kernel) (by decide +kernel)
set_option maxRecDepth 20000 in
theorem gX8_isStation_X8_isIn : GoodIn wsX8_isStation (va_wsS RX8 91 yX8_isIn wsX8_isIn) := goodIn_app (goodIn_of _ (by decide +kernel)) ggX8_isStation_X8_isIn
theorem dX8_isStation_0 : decode cX8_isStation 0 = .ok (.iload_n 0, 1) := by decide +kernel
theorem dX8_isStation_1 : decode cX8_isStation 1 = .ok (.iconst 0, 1) := by decide +kernel
theorem dX8_isStation_2 : decode cX8_isStation 2 = .ok (.bipush 9, 2) := by decide +kernel
theorem dX8_isStation_4 : decode cX8_isStation 4 = .ok (.invokestatic 91, 3) := by decide +kernel
theorem dX8_isStation_7 : decode cX8_isStation 7 = .ok (.ireturn, 1) := by decide +kernel
set_option maxRecDepth 20000 in
theorem ggX8_heat_X8_isIn : GoodIn wsX8_heat wsX8_isIn := goodIn_r _ [6] (by decide +kernel) (by decide +kernel)
set_option maxRecDepth 20000 in
theorem gX8_heat_X8_isIn : GoodIn wsX8_heat (va_wsS RX8 91 yX8_isIn wsX8_isIn) := goodIn_app (goodIn_of _ (by decide +kernel)) ggX8_heat_X8_isIn
theorem dX8_heat_0 : decode cX8_heat 0 = .ok (.aload_n 0, 1) := by decide +kernel
theorem dX8_heat_1 : decode cX8_heat 1 = .ok (.iload_n 1, 1) := by decide +kernel
theorem dX8_heat_2 : decode cX8_heat 2 = .ok (.bipush (-20), 2) := by decide +kernel
theorem dX8_heat_4 : decode cX8_heat 4 = .ok (.bipush 50, 2) := by decide +kernel
theorem dX8_heat_6 : decode cX8_heat 6 = .ok (.invokestatic 91, 3) := by decide +kernel
theorem dX8_heat_9 : decode cX8_heat 9 = .ok (.ifCond .eq 7, 3) := by decide +kernel
theorem dX8_heat_12 : decode cX8_heat 12 = .ok (.iconst 0, 1) := by decide +kernel
theorem dX8_heat_13 : decode cX8_heat 13 = .ok (.goto 4, 3) := by decide +kernel
theorem dX8_heat_16 : decode cX8_heat 16 = .ok (.iconst 1, 1) := by decide +kernel
theorem dX8_heat_17 : decode cX8_heat 17 = .ok (.putfield 85, 3) := by decide +kernel
theorem dX8_heat_20 : decode cX8_heat 20 = .ok (.aload_n 0, 1) := by decide +kernel
theorem dX8_heat_21 : decode cX8_heat 21 = .ok (.getfield 85, 3) := by decide +kernel
theorem dX8_heat_24 : decode cX8_heat 24 = .ok (.ifCond .le 5, 3) := by decide +kernel
theorem dX8_heat_27 : decode cX8_heat 27 = .ok (.iconst 0, 1) := by decide +kernel
theorem dX8_heat_28 : decode cX8_heat 28 = .ok (.ireturn, 1) := by decide +kernel
theorem dX8_heat_29 : decode cX8_heat 29 = .ok (.aload_n 0, 1) := by decide +kernel
theorem dX8_heat_30 : decode cX8_heat 30 = .ok (.getfield 7, 3) := by decide +kernel
theorem dX8_heat_33 : decode cX8_heat 33 = .ok (.istore_n 2, 1) := by decide +kernel
theorem dX8_heat_34 : decode cX8_heat 34 = .ok (.aload_n 0, 1) := by decide +kernel
theorem dX8_heat_35 : decode cX8_heat 35 = .ok (.iload_n 1, 1) := by decide +kernel
theorem dX8_heat_36 : decode cX8_heat 36 = .ok (.putfield 7, 3) := by decide +kernel
theorem dX8_heat_39 : decode cX8_heat 39 = .ok (.iload_n 2, 1) := by decide +kernel
theorem dX8_heat_40 : decode cX8_heat 40 = .ok (.ireturn, 1) := by decide +kernel
set_option maxRecDepth 20000 in
theorem ggX8_pressure_X8_isIn : GoodIn wsX8_pressure wsX8_isIn := goodIn_r _ [6] (by decide +kernel) (by decide +kernel)
set_option maxRecDepth 20000 in
theorem gX8_pressure_X8_isIn : GoodIn wsX8_pressure (va_wsS RX8 91 yX8_isIn wsX8_isIn) := goodIn_app (goodIn_of _ (by decide +kernel)) ggX8_pressure_X8_isIn
theorem dX8_pressure_0 : decode cX8_pressure 0 = .ok (.aload_n 0, 1) := by decide +kernel
theorem dX8_pressure_1 : decode cX8_pressure 1 = .ok (.iload_n 1, 1) := by decide +kernel
theorem dX8_pressure_2 : decode cX8_pressure 2 = .ok (.sipush 900, 3) := by decide +kernel
theorem dX8_pressure_5 : decode cX8_pressure 5 = .ok (.sipush 1100, 3) := by decide +kernel
theorem dX8_pressure_8 : decode cX8_pressure 8 = .ok (.invokestatic 91, 3) := by decide +kernel
theorem dX8_pressure_11 : decode cX8_pressure 11 = .ok (.ifCond .eq 7, 3) := by decide +kernel
theorem dX8_pressure_14 : decode cX8_pressure 14 = .ok (.iconst 0, 1) := by decide +kernel
theorem dX8_pressure_15 : decode cX8_pressure 15 = .ok (.goto 4, 3) := by decide +kernel
theorem dX8_pressure_18 : decode cX8_pressure 18 = .ok (.iconst 1, 1) := by decide +kernel
theorem dX8_pressure_19 : decode cX8_pressure 19 = .ok (.putfield 85, 3) := by decide +kernel
theorem dX8_pressure_22 : decode cX8_pressure 22 = .ok (.aload_n 0, 1) := by decide +kernel
theorem dX8_pressure_23 : decode cX8_pressure 23 = .ok (.getfield 85, 3) := by decide +kernel
theorem dX8_pressure_26 : decode cX8_pressure 26 = .ok (.ifCond .le 5, 3) := by decide +kernel
theorem dX8_pressure_29 : decode cX8_pressure 29 = .ok (.iconst 0, 1) := by decide +kernel
theorem dX8_pressure_30 : decode cX8_pressure 30 = .ok (.ireturn, 1) := by decide +kernel
theorem dX8_pressure_31 : decode cX8_pressure 31 = .ok (.aload_n 0, 1) := by decide +kernel
theorem dX8_pressure_32 : decode cX8_pressure 32 = .ok (.getfield 13, 3) := by decide +kernel
theorem dX8_pressure_35 : decode cX8_pressure 35 = .ok (.istore_n 2, 1) := by decide +kernel
theorem dX8_pressure_36 : decode cX8_pressure 36 = .ok (.aload_n 0, 1) := by decide +kernel
theorem dX8_pressure_37 : decode cX8_pressure 37 = .ok (.iload_n 1, 1) := by decide +kernel
theorem dX8_pressure_38 : decode cX8_pressure 38 = .ok (.putfield 13, 3) := by decide +kernel
theorem dX8_pressure_41 : decode cX8_pressure 41 = .ok (.iload_n 2, 1) := by decide +kernel
theorem dX8_pressure_42 : decode cX8_pressure 42 = .ok (.ireturn, 1) := by decide +kernel
set_option maxRecDepth 20000 in
theorem ggX8_clock_X8_isIn : GoodIn wsX8_clock wsX8_isIn := goodIn_r _ [12] (by decide +kernel) (by decide +kernel)
set_option maxRecDepth 20000 in
theorem gX8_clock_X8_isIn : GoodIn wsX8_clock (va_wsS RX8 91 yX8_isIn wsX8_isIn) := goodIn_app (goodIn_of _ (by decide +kernel)) ggX8_clock_X8_isIn
theorem dX8_clock_0 : decode cX8_clock 0 = .ok (.iload_n 1, 1) := by decide +kernel
theorem dX8_clock_1 : decode cX8_clock 1 = .ok (.iconst 0, 1) := by decide +kernel
theorem dX8_clock_2 : decode cX8_clock 2 = .ok (.iconst 3, 1) := by decide +kernel
theorem dX8_clock_3 : decode cX8_clock 3 = .ok (.invokestatic 91, 3) := by decide +kernel
theorem dX8_clock_6 : decode cX8_clock 6 = .ok (.ifCond .eq 30, 3) := by decide +kernel
theorem dX8_clock_9 : decode cX8_clock 9 = .ok (.iload_n 2, 1) := by decide +kernel
theorem dX8_clock_10 : decode cX8_clock 10 = .ok (.iconst 0, 1) := by decide +kernel
theorem dX8_clock_11 : decode cX8_clock 11 = .ok (.sipush 200, 3) := by decide +kernel
theorem dX8_clock_14 : decode cX8_clock 14 = .ok (.invokestatic 91, 3) := by decide +kernel
theorem dX8_clock_17 : decode cX8_clock 17 = .ok (.ifCond .eq 19, 3) := by decide +kernel
theorem dX8_clock_20 : decode cX8_clock 20 = .ok (.iload 4, 2) := by decide +kernel
theorem dX8_clock_22 : decode cX8_clock 22 = .ok (.ldc 95, 2) := by decide +kernel
theorem dX8_clock_24 : decode cX8_clock 24 = .ok (.ldc 96, 2) := by decide +kernel
theorem dX8_clock_26 : decode cX8_clock 26 = .ok (.invokestatic 91, 3) := by decide +kernel
theorem dX8_clock_29 : decode cX8_clock 29 = .ok (.ifCond .eq 7, 3) := by decide +kernel
theorem dX8_clock_32 : decode cX8_clock 32 = .ok (.iconst 1, 1) := by decide +kernel
theorem dX8_clock_33 : decode cX8_clock 33 = .ok (.goto 4, 3) := by decide +kernel
theorem dX8_clock_36 : decode cX8_clock 36 = .ok (.iconst 0, 1) := by decide +kernel
theorem dX8_clock_37 : decode cX8_clock 37 = .ok (.istore 5, 2) := by decide +kernel
theorem dX8_clock_39 : decode cX8_clock 39 = .ok (.aload_n 0, 1) := by decide +kernel
theorem dX8_clock_40 : decode cX8_clock 40 = .ok (.iload 5, 2) := by decide +kernel
theorem dX8_clock_42 : decode cX8_clock 42 = .ok (.ifCond .ne 7, 3) := by decide +kernel
theorem dX8_clock_45 : decode cX8_clock 45 = .ok (.iconst 1, 1) := by decide +kernel
theorem dX8_clock_46 : decode cX8_clock 46 = .ok (.goto 17, 3) := by decide +kernel
theorem dX8_clock_49 : decode cX8_clock 49 = .ok (.aload_n 0, 1) := by decide +kernel
theorem dX8_clock_50 : decode cX8_clock 50 = .ok (.getfield 88, 3) := by decide +kernel
theorem dX8_clock_53 : decode cX8_clock 53 = .ok (.bipush 10, 2) := by decide +kernel
theorem dX8_clock_55 : decode cX8_clock 55 = .ok (.if_icmp .ne 7, 3) := by decide +kernel
theorem dX8_clock_58 : decode cX8_clock 58 = .ok (.iconst 2, 1) := by decide +kernel
theorem dX8_clock_59 : decode cX8_clock 59 = .ok (.goto 4, 3) := by decide +kernel
theorem dX8_clock_62 : decode cX8_clock 62 = .ok (.iconst 0, 1) := by decide +kernel
theorem dX8_clock_63 : decode cX8_clock 63 = .ok (.putfield 85, 3) := by decide +kernel
theorem dX8_clock_66 : decode cX8_clock 66 = .ok (.aload_n 0, 1) := by decide +kernel
theorem dX8_clock_67 : decode cX8_clock 67 = .ok (.getfield 85, 3) := by decide +kernel
theorem dX8_clock_70 : decode cX8_clock 70 = .ok (.ifCond .le 5, 3) := by decide +kernel
theorem dX8_clock_73 : decode cX8_clock 73 = .ok (.iconst 0, 1) := by decide +kernel
theorem dX8_clock_74 : decode cX8_clock 74 = .ok (.ireturn, 1) := by decide +kernel
theorem dX8_clock_75 : decode cX8_clock 75 = .ok (.aload_n 0, 1) := by decide +kernel
theorem dX8_clock_76 : decode cX8_clock 76 = .ok (.getfield 16, 3) := by decide +kernel
theorem dX8_clock_79 : decode cX8_clock 79 = .ok (.aload_n 0, 1) := by decide +kernel
theorem dX8_clock_80 : decode cX8_clock 80 = .ok (.getfield 88, 3) := by decide +kernel
theorem dX8_clock_83 : decode cX8_clock 83 = .ok (.iload_n 1, 1) := by decide +kernel
theorem dX8_clock_84 : decode cX8_clock 84 = .ok (.iastore, 1) := by decide +kernel
theorem dX8_clock_85 : decode cX8_clock 85 = .ok (.aload_n 0, 1) := by decide +kernel
theorem dX8_clock_86 : decode cX8_clock 86 = .ok (.getfield 20, 3) := by decide +kernel
theorem dX8_clock_89 : decode cX8_clock 89 = .ok (.aload_n 0, 1) := by decide +kernel
theorem dX8_clock_90 : decode cX8_clock 90 = .ok (.getfield 88, 3) := by decide +kernel
theorem dX8_clock_93 : decode cX8_clock 93 = .ok (.iload_n 2, 1) := by decide +kernel
theorem dX8_clock_94 : decode cX8_clock 94 = .ok (.iastore, 1) := by decide +kernel
theorem dX8_clock_95 : decode cX8_clock 95 = .ok (.aload_n 0, 1) := by decide +kernel
theorem dX8_clock_96 : decode cX8_clock 96 = .ok (.getfield 23, 3) := by decide +kernel
theorem dX8_clock_99 : decode cX8_clock 99 = .ok (.aload_n 0, 1) := by decide +kernel
theorem dX8_clock_100 : decode cX8_clock 100 = .ok (.getfield 88, 3) := by decide +kernel
theorem dX8_clock_103 : decode cX8_clock 103 = .ok (.iload_n 3, 1) := by decide +kernel
theorem dX8_clock_104 : decode cX8_clock 104 = .ok (.bastore, 1) := by decide +kernel
theorem dX8_clock_105 : decode cX8_clock 105 = .ok (.aload_n 0, 1) := by decide +kernel
theorem dX8_clock_106 : decode cX8_clock 106 = .ok (.getfield 27, 3) := by decide +kernel
theorem dX8_clock_109 : decode cX8_clock 109 = .ok (.aload_n 0, 1) := by decide +kernel
theorem dX8_clock_110 : decode cX8_clock 110 = .ok (.getfield 88, 3) := by decide +kernel
theorem dX8_clock_113 : decode cX8_clock 113 = .ok (.iload 4, 2) := by decide +kernel
theorem dX8_clock_115 : decode cX8_clock 115 = .ok (.iastore, 1) := by decide +kernel
theorem dX8_clock_116 : decode cX8_clock 116 = .ok (.aload_n 0, 1) := by decide +kernel
theorem dX8_clock_117 : decode cX8_clock 117 = .ok (.dup, 1) := by decide +kernel
theorem dX8_clock_118 : decode cX8_clock 118 = .ok (.getfield 88, 3) := by decide +kernel
theorem dX8_clock_121 : decode cX8_clock 121 = .ok (.iconst 1, 1) := by decide +kernel
theorem dX8_clock_122 : decode cX8_clock 122 = .ok (.iadd, 1) := by decide +kernel
theorem dX8_clock_123 : decode cX8_clock 123 = .ok (.putfield 88, 3) := by decide +kernel
theorem dX8_clock_126 : decode cX8_clock 126 = .ok (.aload_n 0, 1) := by decide +kernel
theorem dX8_clock_127 : decode cX8_clock 127 = .ok (.getfield 88, 3) := by decide +kernel
theorem dX8_clock_130 : decode cX8_clock 130 = .ok (.iconst 1, 1) := by decide +kernel
theorem dX8_clock_131 : decode cX8_clock 131 = .ok (.isub, 1) := by decide +kernel
theorem dX8_clock_132 : decode cX8_clock 132 = .ok (.ireturn, 1) := by decide +kernel
theorem dX8_stretch_0 : decode cX8_stretch 0 = .ok (.iload_n 0, 1) := by decide +kernel
theorem dX8_stretch_1 : decode cX8_stretch 1 = .ok (.ifCond .ne 8, 3) := by decide +kernel
theorem dX8_stretch_4 : decode cX8_stretch 4 = .ok (.bipush 11, 2) := by decide +kernel
theorem dX8_stretch_6 : decode cX8_stretch 6 = .ok (.goto 23, 3) := by decide +kernel
theorem dX8_stretch_9 : decode cX8_stretch 9 = .ok (.iload_n 0, 1) := by decide +kernel
theorem dX8_stretch_10 : decode cX8_stretch 10 = .ok (.iconst 1, 1) := by decide +kernel
theorem dX8_stretch_11 : decode cX8_stretch 11 = .ok (.if_icmp .ne 8, 3) := by decide +kernel
theorem dX8_stretch_14 : decode cX8_stretch 14 = .ok (.bipush 19, 2) := by decide +kernel
theorem dX8_stretch_16 : decode cX8_stretch 16 = .ok (.goto 13, 3) := by decide +kernel
theorem dX8_stretch_19 : decode cX8_stretch 19 = .ok (.iload_n 0, 1) := by decide +kernel
theorem dX8_stretch_20 : decode cX8_stretch 20 = .ok (.iconst 2, 1) := by decide +kernel
theorem dX8_stretch_21 : decode cX8_stretch 21 = .ok (.if_icmp .ne 7, 3) := by decide +kernel
theorem dX8_stretch_24 : decode cX8_stretch 24 = .ok (.iconst 5, 1) := by decide +kernel
theorem dX8_stretch_25 : decode cX8_stretch 25 = .ok (.goto 4, 3) := by decide +kernel
theorem dX8_stretch_28 : decode cX8_stretch 28 = .ok (.iconst 1, 1) := by decide +kernel
theorem dX8_stretch_29 : decode cX8_stretch 29 = .ok (.ireturn, 1) := by decide +kernel
set_option maxRecDepth 20000 in
theorem ggX8_rateOf_X8_stretch : GoodIn wsX8_rateOf wsX8_stretch := goodIn_r _ [12] (by decide +kernel) (by decide +kernel)
set_option maxRecDepth 20000 in
theorem gX8_rateOf_X8_stretch : GoodIn wsX8_rateOf (va_wsS RX8 99 yX8_stretch wsX8_stretch) := goodIn_app (goodIn_of _ (by decide +kernel)) ggX8_rateOf_X8_stretch
set_option maxRecDepth 20000 in
theorem ggX8_rateOf_X8_floor : GoodIn wsX8_rateOf wsX8_floor := goodIn_r _ [15] (by decide +kernel) (by decide +kernel)
set_option maxRecDepth 20000 in
theorem gX8_rateOf_X8_floor : GoodIn wsX8_rateOf (va_wsS RX8 105 yX8_floor wsX8_floor) := goodIn_app (goodIn_of _ (by decide +kernel)) ggX8_rateOf_X8_floor
theorem dX8_rateOf_0 : decode cX8_rateOf 0 = .ok (.aload_n 0, 1) := by decide +kernel
theorem dX8_rateOf_1 : decode cX8_rateOf 1 = .ok (.getfield 23, 3) := by decide +kernel
theorem dX8_rateOf_4 : decode cX8_rateOf 4 = .ok (.iload_n 1, 1) := by decide +kernel
theorem dX8_rateOf_5 : decode cX8_rateOf 5 = .ok (.baload, 1) := by decide +kernel
theorem dX8_rateOf_6 : decode cX8_rateOf 6 = .ok (.ifCond .eq 7, 3) := by decide +kernel
theorem dX8_rateOf_9 : decode cX8_rateOf 9 = .ok (.iconst 0, 1) := by decide +kernel
theorem dX8_rateOf_10 : decode cX8_rateOf 10 = .ok (.goto 22, 3) := by decide +kernel
theorem dX8_rateOf_13 : decode cX8_rateOf 13 = .ok (.bipush 54, 2) := by decide +kernel
theorem dX8_rateOf_15 : decode cX8_rateOf 15 = .ok (.aload_n 0, 1) := by decide +kernel
theorem dX8_rateOf_16 : decode cX8_rateOf 16 = .ok (.getfield 20, 3) := by decide +kernel
theorem dX8_rateOf_19 : decode cX8_rateOf 19 = .ok (.iload_n 1, 1) := by decide +kernel
theorem dX8_rateOf_20 : decode cX8_rateOf 20 = .ok (.iaload, 1) := by decide +kernel
theorem dX8_rateOf_21 : decode cX8_rateOf 21 = .ok (.imul, 1) := by decide +kernel
theorem dX8_rateOf_22 : decode cX8_rateOf 22 = .ok (.aload_n 0, 1) := by decide +kernel
theorem dX8_rateOf_23 : decode cX8_rateOf 23 = .ok (.getfield 20, 3) := by decide +kernel
theorem dX8_rateOf_26 : decode cX8_rateOf 26 = .ok (.iload_n 1, 1) := by decide +kernel
theorem dX8_rateOf_27 : decode cX8_rateOf 27 = .ok (.iaload, 1) := by decide +kernel
theorem dX8_rateOf_28 : decode cX8_rateOf 28 = .ok (.imul, 1) := by decide +kernel
theorem dX8_rateOf_29 : decode cX8_rateOf 29 = .ok (.bipush 10, 2) := by decide +kernel
theorem dX8_rateOf_31 : decode cX8_rateOf 31 = .ok (.idiv, 1) := by decide +kernel
theorem dX8_rateOf_32 : decode cX8_rateOf 32 = .ok (.istore_n 2, 1) := by decide +kernel
theorem dX8_rateOf_33 : decode cX8_rateOf 33 = .ok (.ldc2_w 97, 3) := by decide +kernel
theorem dX8_rateOf_36 : decode cX8_rateOf 36 = .ok (.aload_n 0, 1) := by decide +kernel
theorem dX8_rateOf_37 : decode cX8_rateOf 37 = .ok (.getfield 16, 3) := by decide +kernel
theorem dX8_rateOf_40 : decode cX8_rateOf 40 = .ok (.iload_n 1, 1) := by decide +kernel
theorem dX8_rateOf_41 : decode cX8_rateOf 41 = .ok (.iaload, 1) := by decide +kernel
theorem dX8_rateOf_42 : decode cX8_rateOf 42 = .ok (.invokestatic 99, 3) := by decide +kernel
theorem dX8_rateOf_45 : decode cX8_rateOf 45 = .ok (.i2l, 1) := by decide +kernel
theorem dX8_rateOf_46 : decode cX8_rateOf 46 = .ok (.lmul, 1) := by decide +kernel
theorem dX8_rateOf_47 : decode cX8_rateOf 47 = .ok (.aload_n 0, 1) := by decide +kernel
theorem dX8_rateOf_48 : decode cX8_rateOf 48 = .ok (.getfield 7, 3) := by decide +kernel
theorem dX8_rateOf_51 : decode cX8_rateOf 51 = .ok (.bipush 20, 2) := by decide +kernel
theorem dX8_rateOf_53 : decode cX8_rateOf 53 = .ok (.isub, 1) := by decide +kernel
theorem dX8_rateOf_54 : decode cX8_rateOf 54 = .ok (.i2l, 1) := by decide +kernel
theorem dX8_rateOf_55 : decode cX8_rateOf 55 = .ok (.lmul, 1) := by decide +kernel
theorem dX8_rateOf_56 : decode cX8_rateOf 56 = .ok (.ldc2_w 103, 3) := by decide +kernel
theorem dX8_rateOf_59 : decode cX8_rateOf 59 = .ok (.invokestatic 105, 3) := by decide +kernel
theorem dX8_rateOf_62 : decode cX8_rateOf 62 = .ok (.l2i, 1) := by decide +kernel
theorem dX8_rateOf_63 : decode cX8_rateOf 63 = .ok (.istore_n 3, 1) := by decide +kernel
theorem dX8_rateOf_64 : decode cX8_rateOf 64 = .ok (.aload_n 0, 1) := by decide +kernel
theorem dX8_rateOf_65 : decode cX8_rateOf 65 = .ok (.getfield 27, 3) := by decide +kernel
theorem dX8_rateOf_68 : decode cX8_rateOf 68 = .ok (.iload_n 1, 1) := by decide +kernel
theorem dX8_rateOf_69 : decode cX8_rateOf 69 = .ok (.iaload, 1) := by decide +kernel
theorem dX8_rateOf_70 : decode cX8_rateOf 70 = .ok (.iload_n 2, 1) := by decide +kernel
theorem dX8_rateOf_71 : decode cX8_rateOf 71 = .ok (.isub, 1) := by decide +kernel
theorem dX8_rateOf_72 : decode cX8_rateOf 72 = .ok (.iload_n 3, 1) := by decide +kernel
theorem dX8_rateOf_73 : decode cX8_rateOf 73 = .ok (.isub, 1) := by decide +kernel
theorem dX8_rateOf_74 : decode cX8_rateOf 74 = .ok (.bipush 12, 2) := by decide +kernel
theorem dX8_rateOf_76 : decode cX8_rateOf 76 = .ok (.aload_n 0, 1) := by decide +kernel
theorem dX8_rateOf_77 : decode cX8_rateOf 77 = .ok (.getfield 13, 3) := by decide +kernel
theorem dX8_rateOf_80 : decode cX8_rateOf 80 = .ok (.sipush 1013, 3) := by decide +kernel
theorem dX8_rateOf_83 : decode cX8_rateOf 83 = .ok (.isub, 1) := by decide +kernel
theorem dX8_rateOf_84 : decode cX8_rateOf 84 = .ok (.imul, 1) := by decide +kernel
theorem dX8_rateOf_85 : decode cX8_rateOf 85 = .ok (.isub, 1) := by decide +kernel
theorem dX8_rateOf_86 : decode cX8_rateOf 86 = .ok (.ireturn, 1) := by decide +kernel
set_option maxRecDepth 20000 in
theorem ggX8_regulate_X8_isIn : GoodIn wsX8_regulate wsX8_isIn := goodIn_r _ [9] (by decide +kernel) (by decide +kernel)
set_option maxRecDepth 20000 in
theorem gX8_regulate_X8_isIn : GoodIn wsX8_regulate (va_wsS RX8 91 yX8_isIn wsX8_isIn) := goodIn_app (goodIn_of _ (by decide +kernel)) ggX8_regulate_X8_isIn
set_option maxRecDepth 20000 in
theorem ggX8_regulate_X8_isClock : GoodIn wsX8_regulate wsX8_isClock := goodIn_r _ [13, 14, 6, 7, 8, 9, 31, 32, 33, 34, 35, 36, 37, 38, 39, 40, 41, 42, 43, 44, 45, 46, 47, 48, 49, 50, 51, 52, 53, 54, 55, 56, 57, 58, 59, 60, 61, 62, 63, 64, 65, 66, 67, 68] (by decide +kernel) (by decide +kernel)
set_option maxRecDepth 20000 in
theorem gX8_regulate_X8_isClock : GoodIn wsX8_regulate (wsV RX8 109 RX8 yX8_isClock wsX8_isClock) := goodIn_app (goodIn_of _ (by decide +kernel)) ggX8_regulate_X8_isClock
set_option maxRecDepth 20000 in
theorem ggX8_regulate_X8_rateOf : GoodIn wsX8_regulate wsX8_rateOf := goodIn_r _ [18, 19, 4, 20, 21, 22, 23, 5, 24, 25, 26, 8, 27, 28, 29, 30, 31, 32, 33, 34, 35, 36, 37, 38, 39, 40, 41, 42, 43, 44, 45, 46, 47, 48, 49, 50, 51, 52, 53, 54, 55, 56, 57, 58, 59, 60, 61, 62, 63, 64, 65, 66, 67, 68] (by decide +kernel) (by decide +kernel)
set_option maxRecDepth 20000 in
theorem gX8_regulate_X8_rateOf : GoodIn wsX8_regulate (wsV RX8 113 RX8 yX8_rateOf wsX8_rateOf) := goodIn_app (goodIn_of _ (by decide +kernel)) ggX8_regulate_X8_rateOf
theorem dX8_regulate_0 : decode cX8_regulate 0 = .ok (.iload_n 2, 1) := by decide +kernel
theorem dX8_regulate_1 : decode cX8_regulate 1 = .ok (.iconst 0, 1) := by decide +kernel
theorem dX8_regulate_2 : decode cX8_regulate 2 = .ok (.sipush 200, 3) := by decide +kernel
theorem dX8_regulate_5 : decode cX8_regulate 5 = .ok (.invokestatic 91, 3) := by decide +kernel
theorem dX8_regulate_8 : decode cX8_regulate 8 = .ok (.ifCond .eq 18, 3) := by decide +kernel
theorem dX8_regulate_11 : decode cX8_regulate 11 = .ok (.iload_n 3, 1) := by decide +kernel
theorem dX8_regulate_12 : decode cX8_regulate 12 = .ok (.ldc 95, 2) := by decide +kernel
theorem dX8_regulate_14 : decode cX8_regulate 14 = .ok (.ldc 96, 2) := by decide +kernel
theorem dX8_regulate_16 : decode cX8_regulate 16 = .ok (.invokestatic 91, 3) := by decide +kernel
theorem dX8_regulate_19 : decode cX8_regulate 19 = .ok (.ifCond .eq 7, 3) := by decide +kernel
theorem dX8_regulate_22 : decode cX8_regulate 22 = .ok (.iconst 1, 1) := by decide +kernel
theorem dX8_regulate_23 : decode cX8_regulate 23 = .ok (.goto 4, 3) := by decide +kernel
theorem dX8_regulate_26 : decode cX8_regulate 26 = .ok (.iconst 0, 1) := by decide +kernel
theorem dX8_regulate_27 : decode cX8_regulate 27 = .ok (.istore 4, 2) := by decide +kernel
theorem dX8_regulate_29 : decode cX8_regulate 29 = .ok (.aload_n 0, 1) := by decide +kernel
theorem dX8_regulate_30 : decode cX8_regulate 30 = .ok (.aload_n 0, 1) := by decide +kernel
theorem dX8_regulate_31 : decode cX8_regulate 31 = .ok (.iload_n 1, 1) := by decide +kernel
theorem dX8_regulate_32 : decode cX8_regulate 32 = .ok (.invokevirtual 109, 3) := by decide +kernel
theorem dX8_regulate_35 : decode cX8_regulate 35 = .ok (.ifCond .ne 7, 3) := by decide +kernel
theorem dX8_regulate_38 : decode cX8_regulate 38 = .ok (.iconst 1, 1) := by decide +kernel
theorem dX8_regulate_39 : decode cX8_regulate 39 = .ok (.goto 13, 3) := by decide +kernel
theorem dX8_regulate_42 : decode cX8_regulate 42 = .ok (.iload 4, 2) := by decide +kernel
theorem dX8_regulate_44 : decode cX8_regulate 44 = .ok (.ifCond .ne 7, 3) := by decide +kernel
theorem dX8_regulate_47 : decode cX8_regulate 47 = .ok (.iconst 2, 1) := by decide +kernel
theorem dX8_regulate_48 : decode cX8_regulate 48 = .ok (.goto 4, 3) := by decide +kernel
theorem dX8_regulate_51 : decode cX8_regulate 51 = .ok (.iconst 0, 1) := by decide +kernel
theorem dX8_regulate_52 : decode cX8_regulate 52 = .ok (.putfield 85, 3) := by decide +kernel
theorem dX8_regulate_55 : decode cX8_regulate 55 = .ok (.aload_n 0, 1) := by decide +kernel
theorem dX8_regulate_56 : decode cX8_regulate 56 = .ok (.getfield 85, 3) := by decide +kernel
theorem dX8_regulate_59 : decode cX8_regulate 59 = .ok (.ifCond .le 5, 3) := by decide +kernel
theorem dX8_regulate_62 : decode cX8_regulate 62 = .ok (.iconst 0, 1) := by decide +kernel
theorem dX8_regulate_63 : decode cX8_regulate 63 = .ok (.ireturn, 1) := by decide +kernel
theorem dX8_regulate_64 : decode cX8_regulate 64 = .ok (.aload_n 0, 1) := by decide +kernel
theorem dX8_regulate_65 : decode cX8_regulate 65 = .ok (.getfield 20, 3) := by decide +kernel
theorem dX8_regulate_68 : decode cX8_regulate 68 = .ok (.iload_n 1, 1) := by decide +kernel
theorem dX8_regulate_69 : decode cX8_regulate 69 = .ok (.iload_n 2, 1) := by decide +kernel
theorem dX8_regulate_70 : decode cX8_regulate 70 = .ok (.iastore, 1) := by decide +kernel
theorem dX8_regulate_71 : decode cX8_regulate 71 = .ok (.aload_n 0, 1) := by decide +kernel
theorem dX8_regulate_72 : decode cX8_regulate 72 = .ok (.getfield 27, 3) := by decide +kernel
theorem dX8_regulate_75 : decode cX8_regulate 75 = .ok (.iload_n 1, 1) := by decide +kernel
theorem dX8_regulate_76 : decode cX8_regulate 76 = .ok (.iload_n 3, 1) := by decide +kernel
theorem dX8_regulate_77 : decode cX8_regulate 77 = .ok (.iastore, 1) := by decide +kernel
theorem dX8_regulate_78 : decode cX8_regulate 78 = .ok (.aload_n 0, 1) := by decide +kernel
theorem dX8_regulate_79 : decode cX8_regulate 79 = .ok (.iload_n 1, 1) := by decide +kernel
theorem dX8_regulate_80 : decode cX8_regulate 80 = .ok (.invokevirtual 113, 3) := by decide +kernel
theorem dX8_regulate_83 : decode cX8_regulate 83 = .ok (.ireturn, 1) := by decide +kernel
set_option maxRecDepth 20000 in
theorem ggX8_set_X8_isClock : GoodIn wsX8_set wsX8_isClock := goodIn_r _ [9, 10, 11, 12, 8, 13, 14, 15, 16, 17, 18, 19, 20, 21, 22, 23, 24, 25, 26, 27, 28, 29, 30, 31, 32, 33, 34, 35, 36, 37, 38, 39, 40, 41, 42, 43, 44, 45, 46, 47, 48, 49, 50, 51] (by decide +kernel) (by decide +kernel)
set_option maxRecDepth 20000 in
theorem gX8_set_X8_isClock : GoodIn wsX8_set (wsV RX8 109 RX8 yX8_isClock wsX8_isClock) := goodIn_app (goodIn_of _ (by decide +kernel)) ggX8_set_X8_isClock
set_option maxRecDepth 20000 in
theorem ggX8_set_X8_isIn : GoodIn wsX8_set wsX8_isIn := goodIn_r _ [13] (by decide +kernel) (by decide +kernel)
set_option maxRecDepth 20000 in
theorem gX8_set_X8_isIn : GoodIn wsX8_set (va_wsS RX8 91 yX8_isIn wsX8_isIn) := goodIn_app (goodIn_of _ (by decide +kernel)) ggX8_set_X8_isIn
theorem dX8_set_0 : decode cX8_set 0 = .ok (.aload_n 0, 1) := by decide +kernel
theorem dX8_set_1 : decode cX8_set 1 = .ok (.aload_n 0, 1) := by decide +kernel
theorem dX8_set_2 : decode cX8_set 2 = .ok (.iload_n 1, 1) := by decide +kernel
theorem dX8_set_3 : decode cX8_set 3 = .ok (.invokevirtual 109, 3) := by decide +kernel
theorem dX8_set_6 : decode cX8_set 6 = .ok (.ifCond .ne 7, 3) := by decide +kernel
theorem dX8_set_9 : decode cX8_set 9 = .ok (.iconst 1, 1) := by decide +kernel
theorem dX8_set_10 : decode cX8_set 10 = .ok (.goto 19, 3) := by decide +kernel
theorem dX8_set_13 : decode cX8_set 13 = .ok (.iload_n 2, 1) := by decide +kernel
theorem dX8_set_14 : decode cX8_set 14 = .ok (.ldc 116, 2) := by decide +kernel
theorem dX8_set_16 : decode cX8_set 16 = .ok (.ldc 117, 2) := by decide +kernel
theorem dX8_set_18 : decode cX8_set 18 = .ok (.invokestatic 91, 3) := by decide +kernel
theorem dX8_set_21 : decode cX8_set 21 = .ok (.ifCond .ne 7, 3) := by decide +kernel
theorem dX8_set_24 : decode cX8_set 24 = .ok (.iconst 2, 1) := by decide +kernel
theorem dX8_set_25 : decode cX8_set 25 = .ok (.goto 4, 3) := by decide +kernel
theorem dX8_set_28 : decode cX8_set 28 = .ok (.iconst 0, 1) := by decide +kernel
theorem dX8_set_29 : decode cX8_set 29 = .ok (.putfield 85, 3) := by decide +kernel
theorem dX8_set_32 : decode cX8_set 32 = .ok (.aload_n 0, 1) := by decide +kernel
theorem dX8_set_33 : decode cX8_set 33 = .ok (.getfield 85, 3) := by decide +kernel
theorem dX8_set_36 : decode cX8_set 36 = .ok (.ifCond .le 5, 3) := by decide +kernel
theorem dX8_set_39 : decode cX8_set 39 = .ok (.lconst 0, 1) := by decide +kernel
theorem dX8_set_40 : decode cX8_set 40 = .ok (.lreturn, 1) := by decide +kernel
theorem dX8_set_41 : decode cX8_set 41 = .ok (.aload_n 0, 1) := by decide +kernel
theorem dX8_set_42 : decode cX8_set 42 = .ok (.getfield 30, 3) := by decide +kernel
theorem dX8_set_45 : decode cX8_set 45 = .ok (.iload_n 1, 1) := by decide +kernel
theorem dX8_set_46 : decode cX8_set 46 = .ok (.laload, 1) := by decide +kernel
theorem dX8_set_47 : decode cX8_set 47 = .ok (.lstore_n 3, 1) := by decide +kernel
theorem dX8_set_48 : decode cX8_set 48 = .ok (.aload_n 0, 1) := by decide +kernel
theorem dX8_set_49 : decode cX8_set 49 = .ok (.getfield 30, 3) := by decide +kernel
theorem dX8_set_52 : decode cX8_set 52 = .ok (.iload_n 1, 1) := by decide +kernel
theorem dX8_set_53 : decode cX8_set 53 = .ok (.iload_n 2, 1) := by decide +kernel
theorem dX8_set_54 : decode cX8_set 54 = .ok (.i2l, 1) := by decide +kernel
theorem dX8_set_55 : decode cX8_set 55 = .ok (.lastore, 1) := by decide +kernel
theorem dX8_set_56 : decode cX8_set 56 = .ok (.lload_n 3, 1) := by decide +kernel
theorem dX8_set_57 : decode cX8_set 57 = .ok (.lreturn, 1) := by decide +kernel
set_option maxRecDepth 20000 in
theorem ggX8_days_X8_isIn : GoodIn wsX8_days wsX8_isIn := goodIn_r _ [8] (by decide +kernel) (by decide +kernel)
set_option maxRecDepth 20000 in
theorem gX8_days_X8_isIn : GoodIn wsX8_days (va_wsS RX8 91 yX8_isIn wsX8_isIn) := goodIn_app (goodIn_of _ (by decide +kernel)) ggX8_days_X8_isIn
set_option maxRecDepth 20000 in
theorem ggX8_days_X8_rateOf : GoodIn wsX8_days wsX8_rateOf := goodIn_r _ [12, 13, 14, 15, 16, 17, 18, 19, 20, 21, 22, 7, 23, 24, 25, 26, 27, 28, 29, 30, 31, 32, 33, 34, 35, 36, 37, 38, 39, 40, 41, 42, 43, 44, 45, 46, 47, 48, 49, 50, 51, 52, 53, 54, 55, 56, 57, 58, 59, 60, 61, 62, 63, 64] (by decide +kernel) (by decide +kernel)
set_option maxRecDepth 20000 in
theorem gX8_days_X8_rateOf : GoodIn wsX8_days (wsV RX8 113 RX8 yX8_rateOf wsX8_rateOf) := goodIn_app (goodIn_of _ (by decide +kernel)) ggX8_days_X8_rateOf
theorem dX8_days_0 : decode cX8_days 0 = .ok (.aload_n 0, 1) := by decide +kernel
theorem dX8_days_1 : decode cX8_days 1 = .ok (.iload_n 1, 1) := by decide +kernel
theorem dX8_days_2 : decode cX8_days 2 = .ok (.iconst 1, 1) := by decide +kernel
theorem dX8_days_3 : decode cX8_days 3 = .ok (.sipush 10000, 3) := by decide +kernel
theorem dX8_days_6 : decode cX8_days 6 = .ok (.invokestatic 91, 3) := by decide +kernel
theorem dX8_days_9 : decode cX8_days 9 = .ok (.ifCond .eq 7, 3) := by decide +kernel
theorem dX8_days_12 : decode cX8_days 12 = .ok (.iconst 0, 1) := by decide +kernel
theorem dX8_days_13 : decode cX8_days 13 = .ok (.goto 4, 3) := by decide +kernel
theorem dX8_days_16 : decode cX8_days 16 = .ok (.iconst 1, 1) := by decide +kernel
theorem dX8_days_17 : decode cX8_days 17 = .ok (.putfield 85, 3) := by decide +kernel
theorem dX8_days_20 : decode cX8_days 20 = .ok (.aload_n 0, 1) := by decide +kernel
theorem dX8_days_21 : decode cX8_days 21 = .ok (.getfield 85, 3) := by decide +kernel
theorem dX8_days_24 : decode cX8_days 24 = .ok (.ifCond .le 5, 3) := by decide +kernel
theorem dX8_days_27 : decode cX8_days 27 = .ok (.lconst 0, 1) := by decide +kernel
theorem dX8_days_28 : decode cX8_days 28 = .ok (.lreturn, 1) := by decide +kernel
theorem dX8_days_29 : decode cX8_days 29 = .ok (.iconst 0, 1) := by decide +kernel
theorem dX8_days_30 : decode cX8_days 30 = .ok (.istore_n 2, 1) := by decide +kernel
theorem dX8_days_31 : decode cX8_days 31 = .ok (.iload_n 2, 1) := by decide +kernel
theorem dX8_days_32 : decode cX8_days 32 = .ok (.aload_n 0, 1) := by decide +kernel
theorem dX8_days_33 : decode cX8_days 33 = .ok (.getfield 88, 3) := by decide +kernel
theorem dX8_days_36 : decode cX8_days 36 = .ok (.if_icmp .ge 27, 3) := by decide +kernel
theorem dX8_days_39 : decode cX8_days 39 = .ok (.aload_n 0, 1) := by decide +kernel
theorem dX8_days_40 : decode cX8_days 40 = .ok (.getfield 30, 3) := by decide +kernel
theorem dX8_days_43 : decode cX8_days 43 = .ok (.iload_n 2, 1) := by decide +kernel
theorem dX8_days_44 : decode cX8_days 44 = .ok (.dup2, 1) := by decide +kernel
theorem dX8_days_45 : decode cX8_days 45 = .ok (.laload, 1) := by decide +kernel
theorem dX8_days_46 : decode cX8_days 46 = .ok (.iload_n 1, 1) := by decide +kernel
theorem dX8_days_47 : decode cX8_days 47 = .ok (.i2l, 1) := by decide +kernel
theorem dX8_days_48 : decode cX8_days 48 = .ok (.aload_n 0, 1) := by decide +kernel
theorem dX8_days_49 : decode cX8_days 49 = .ok (.iload_n 2, 1) := by decide +kernel
theorem dX8_days_50 : decode cX8_days 50 = .ok (.invokevirtual 113, 3) := by decide +kernel
theorem dX8_days_53 : decode cX8_days 53 = .ok (.i2l, 1) := by decide +kernel
theorem dX8_days_54 : decode cX8_days 54 = .ok (.lmul, 1) := by decide +kernel
theorem dX8_days_55 : decode cX8_days 55 = .ok (.ladd, 1) := by decide +kernel
theorem dX8_days_56 : decode cX8_days 56 = .ok (.lastore, 1) := by decide +kernel
theorem dX8_days_57 : decode cX8_days 57 = .ok (.iinc 2 1, 3) := by decide +kernel
theorem dX8_days_60 : decode cX8_days 60 = .ok (.goto (-29), 3) := by decide +kernel
theorem dX8_days_63 : decode cX8_days 63 = .ok (.aload_n 0, 1) := by decide +kernel
theorem dX8_days_64 : decode cX8_days 64 = .ok (.dup, 1) := by decide +kernel
theorem dX8_days_65 : decode cX8_days 65 = .ok (.getfield 118, 3) := by decide +kernel
theorem dX8_days_68 : decode cX8_days 68 = .ok (.iload_n 1, 1) := by decide +kernel
theorem dX8_days_69 : decode cX8_days 69 = .ok (.i2l, 1) := by decide +kernel
theorem dX8_days_70 : decode cX8_days 70 = .ok (.ladd, 1) := by decide +kernel
theorem dX8_days_71 : decode cX8_days 71 = .ok (.putfield 118, 3) := by decide +kernel
theorem dX8_days_74 : decode cX8_days 74 = .ok (.aload_n 0, 1) := by decide +kernel
theorem dX8_days_75 : decode cX8_days 75 = .ok (.getfield 118, 3) := by decide +kernel
theorem dX8_days_78 : decode cX8_days 78 = .ok (.lreturn, 1) := by decide +kernel
set_option maxRecDepth 20000 in
theorem ggX8_rate_X8_isClock : GoodIn wsX8_rate wsX8_isClock := goodIn_r _ [6, 7, 8, 9, 5, 10, 29, 30, 31, 32, 33, 34, 35, 36, 37, 38, 39, 40, 41, 42, 43, 44, 45, 46, 47, 48, 49, 50, 51, 52, 53, 54, 55, 56, 57, 58, 59, 60, 61, 62, 63, 64, 65, 66] (by decide +kernel) (by decide +kernel)
set_option maxRecDepth 20000 in
theorem gX8_rate_X8_isClock : GoodIn wsX8_rate (wsV RX8 109 RX8 yX8_isClock wsX8_isClock) := goodIn_app (goodIn_of _ (by decide +kernel)) ggX8_rate_X8_isClock
set_option maxRecDepth 20000 in
theorem ggX8_rate_X8_rateOf : GoodIn wsX8_rate wsX8_rateOf := goodIn_r _ [14, 15, 16, 17, 18, 19, 20, 21, 22, 23, 24, 5, 25, 26, 27, 28, 29, 30, 31, 32, 33, 34, 35, 36, 37, 38, 39, 40, 41, 42, 43, 44, 45, 46, 47, 48, 49, 50, 51, 52, 53, 54, 55, 56, 57, 58, 59, 60, 61, 62, 63, 64, 65, 66] (by decide +kernel) (by decide +kernel)
set_option maxRecDepth 20000 in
theorem gX8_rate_X8_rateOf : GoodIn wsX8_rate (wsV RX8 113 RX8 yX8_rateOf wsX8_rateOf) := goodIn_app (goodIn_of _ (by decide +kernel)) ggX8_rate_X8_rateOf
theorem dX8_rate_0 : decode cX8_rate 0 = .ok (.aload_n 0, 1) := by decide +kernel
theorem dX8_rate_1 : decode cX8_rate 1 = .ok (.aload_n 0, 1) := by decide +kernel
theorem dX8_rate_2 : decode cX8_rate 2 = .ok (.iload_n 1, 1) := by decide +kernel
theorem dX8_rate_3 : decode cX8_rate 3 = .ok (.invokevirtual 109, 3) := by decide +kernel
theorem dX8_rate_6 : decode cX8_rate 6 = .ok (.ifCond .eq 7, 3) := by decide +kernel
theorem dX8_rate_9 : decode cX8_rate 9 = .ok (.iconst 0, 1) := by decide +kernel
theorem dX8_rate_10 : decode cX8_rate 10 = .ok (.goto 4, 3) := by decide +kernel
theorem dX8_rate_13 : decode cX8_rate 13 = .ok (.iconst 1, 1) := by decide +kernel
theorem dX8_rate_14 : decode cX8_rate 14 = .ok (.putfield 85, 3) := by decide +kernel
theorem dX8_rate_17 : decode cX8_rate 17 = .ok (.aload_n 0, 1) := by decide +kernel
theorem dX8_rate_18 : decode cX8_rate 18 = .ok (.getfield 85, 3) := by decide +kernel
theorem dX8_rate_21 : decode cX8_rate 21 = .ok (.ifCond .le 7, 3) := by decide +kernel
theorem dX8_rate_24 : decode cX8_rate 24 = .ok (.iconst 0, 1) := by decide +kernel
theorem dX8_rate_25 : decode cX8_rate 25 = .ok (.goto 8, 3) := by decide +kernel
theorem dX8_rate_28 : decode cX8_rate 28 = .ok (.aload_n 0, 1) := by decide +kernel
theorem dX8_rate_29 : decode cX8_rate 29 = .ok (.iload_n 1, 1) := by decide +kernel
theorem dX8_rate_30 : decode cX8_rate 30 = .ok (.invokevirtual 113, 3) := by decide +kernel
theorem dX8_rate_33 : decode cX8_rate 33 = .ok (.ireturn, 1) := by decide +kernel
set_option maxRecDepth 20000 in
theorem ggX8_off_X8_isClock : GoodIn wsX8_off wsX8_isClock := goodIn_r _ [7, 8, 9, 10, 6, 11, 12, 13, 14, 15, 16, 17, 18, 19, 20, 21, 22, 23, 24, 25, 26, 27, 28, 29, 30, 31, 32, 33, 34, 35, 36, 37, 38, 39, 40, 41, 42, 43, 44, 45, 46, 47, 48, 49] (by decide +kernel) (by decide +kernel)
set_option maxRecDepth 20000 in
theorem gX8_off_X8_isClock : GoodIn wsX8_off (wsV RX8 109 RX8 yX8_isClock wsX8_isClock) := goodIn_app (goodIn_of _ (by decide +kernel)) ggX8_off_X8_isClock
theorem dX8_off_0 : decode cX8_off 0 = .ok (.aload_n 0, 1) := by decide +kernel
theorem dX8_off_1 : decode cX8_off 1 = .ok (.aload_n 0, 1) := by decide +kernel
theorem dX8_off_2 : decode cX8_off 2 = .ok (.iload_n 1, 1) := by decide +kernel
theorem dX8_off_3 : decode cX8_off 3 = .ok (.invokevirtual 109, 3) := by decide +kernel
theorem dX8_off_6 : decode cX8_off 6 = .ok (.ifCond .eq 7, 3) := by decide +kernel
theorem dX8_off_9 : decode cX8_off 9 = .ok (.iconst 0, 1) := by decide +kernel
theorem dX8_off_10 : decode cX8_off 10 = .ok (.goto 4, 3) := by decide +kernel
theorem dX8_off_13 : decode cX8_off 13 = .ok (.iconst 1, 1) := by decide +kernel
theorem dX8_off_14 : decode cX8_off 14 = .ok (.putfield 85, 3) := by decide +kernel
theorem dX8_off_17 : decode cX8_off 17 = .ok (.aload_n 0, 1) := by decide +kernel
theorem dX8_off_18 : decode cX8_off 18 = .ok (.getfield 85, 3) := by decide +kernel
theorem dX8_off_21 : decode cX8_off 21 = .ok (.ifCond .le 7, 3) := by decide +kernel
theorem dX8_off_24 : decode cX8_off 24 = .ok (.lconst 0, 1) := by decide +kernel
theorem dX8_off_25 : decode cX8_off 25 = .ok (.goto 9, 3) := by decide +kernel
theorem dX8_off_28 : decode cX8_off 28 = .ok (.aload_n 0, 1) := by decide +kernel
theorem dX8_off_29 : decode cX8_off 29 = .ok (.getfield 30, 3) := by decide +kernel
theorem dX8_off_32 : decode cX8_off 32 = .ok (.iload_n 1, 1) := by decide +kernel
theorem dX8_off_33 : decode cX8_off 33 = .ok (.laload, 1) := by decide +kernel
theorem dX8_off_34 : decode cX8_off 34 = .ok (.lreturn, 1) := by decide +kernel
set_option maxRecDepth 20000 in
theorem ggX8_middle_X8_floor : GoodIn wsX8_middle wsX8_floor := goodIn_r _ [8] (by decide +kernel) (by decide +kernel)
set_option maxRecDepth 20000 in
theorem gX8_middle_X8_floor : GoodIn wsX8_middle (va_wsS RX8 105 yX8_floor wsX8_floor) := goodIn_app (goodIn_of _ (by decide +kernel)) ggX8_middle_X8_floor
theorem dX8_middle_0 : decode cX8_middle 0 = .ok (.iconst 0, 1) := by decide +kernel
theorem dX8_middle_1 : decode cX8_middle 1 = .ok (.istore_n 1, 1) := by decide +kernel
theorem dX8_middle_2 : decode cX8_middle 2 = .ok (.iload_n 1, 1) := by decide +kernel
theorem dX8_middle_3 : decode cX8_middle 3 = .ok (.aload_n 0, 1) := by decide +kernel
theorem dX8_middle_4 : decode cX8_middle 4 = .ok (.getfield 88, 3) := by decide +kernel
theorem dX8_middle_7 : decode cX8_middle 7 = .ok (.if_icmp .ge 65, 3) := by decide +kernel
theorem dX8_middle_10 : decode cX8_middle 10 = .ok (.iload_n 1, 1) := by decide +kernel
theorem dX8_middle_11 : decode cX8_middle 11 = .ok (.istore_n 2, 1) := by decide +kernel
theorem dX8_middle_12 : decode cX8_middle 12 = .ok (.iload_n 2, 1) := by decide +kernel
theorem dX8_middle_13 : decode cX8_middle 13 = .ok (.ifCond .le 41, 3) := by decide +kernel
theorem dX8_middle_16 : decode cX8_middle 16 = .ok (.aload_n 0, 1) := by decide +kernel
theorem dX8_middle_17 : decode cX8_middle 17 = .ok (.getfield 34, 3) := by decide +kernel
theorem dX8_middle_20 : decode cX8_middle 20 = .ok (.iload_n 2, 1) := by decide +kernel
theorem dX8_middle_21 : decode cX8_middle 21 = .ok (.iconst 1, 1) := by decide +kernel
theorem dX8_middle_22 : decode cX8_middle 22 = .ok (.isub, 1) := by decide +kernel
theorem dX8_middle_23 : decode cX8_middle 23 = .ok (.laload, 1) := by decide +kernel
theorem dX8_middle_24 : decode cX8_middle 24 = .ok (.aload_n 0, 1) := by decide +kernel
theorem dX8_middle_25 : decode cX8_middle 25 = .ok (.getfield 30, 3) := by decide +kernel
theorem dX8_middle_28 : decode cX8_middle 28 = .ok (.iload_n 1, 1) := by decide +kernel
theorem dX8_middle_29 : decode cX8_middle 29 = .ok (.laload, 1) := by decide +kernel
theorem dX8_middle_30 : decode cX8_middle 30 = .ok (.lcmp, 1) := by decide +kernel
theorem dX8_middle_31 : decode cX8_middle 31 = .ok (.ifCond .le 23, 3) := by decide +kernel
theorem dX8_middle_34 : decode cX8_middle 34 = .ok (.aload_n 0, 1) := by decide +kernel
theorem dX8_middle_35 : decode cX8_middle 35 = .ok (.getfield 34, 3) := by decide +kernel
theorem dX8_middle_38 : decode cX8_middle 38 = .ok (.iload_n 2, 1) := by decide +kernel
theorem dX8_middle_39 : decode cX8_middle 39 = .ok (.aload_n 0, 1) := by decide +kernel
theorem dX8_middle_40 : decode cX8_middle 40 = .ok (.getfield 34, 3) := by decide +kernel
theorem dX8_middle_43 : decode cX8_middle 43 = .ok (.iload_n 2, 1) := by decide +kernel
theorem dX8_middle_44 : decode cX8_middle 44 = .ok (.iconst 1, 1) := by decide +kernel
theorem dX8_middle_45 : decode cX8_middle 45 = .ok (.isub, 1) := by decide +kernel
theorem dX8_middle_46 : decode cX8_middle 46 = .ok (.laload, 1) := by decide +kernel
theorem dX8_middle_47 : decode cX8_middle 47 = .ok (.lastore, 1) := by decide +kernel
theorem dX8_middle_48 : decode cX8_middle 48 = .ok (.iinc 2 (-1), 3) := by decide +kernel
theorem dX8_middle_51 : decode cX8_middle 51 = .ok (.goto (-39), 3) := by decide +kernel
theorem dX8_middle_54 : decode cX8_middle 54 = .ok (.aload_n 0, 1) := by decide +kernel
theorem dX8_middle_55 : decode cX8_middle 55 = .ok (.getfield 34, 3) := by decide +kernel
theorem dX8_middle_58 : decode cX8_middle 58 = .ok (.iload_n 2, 1) := by decide +kernel
theorem dX8_middle_59 : decode cX8_middle 59 = .ok (.aload_n 0, 1) := by decide +kernel
theorem dX8_middle_60 : decode cX8_middle 60 = .ok (.getfield 30, 3) := by decide +kernel
theorem dX8_middle_63 : decode cX8_middle 63 = .ok (.iload_n 1, 1) := by decide +kernel
theorem dX8_middle_64 : decode cX8_middle 64 = .ok (.laload, 1) := by decide +kernel
theorem dX8_middle_65 : decode cX8_middle 65 = .ok (.lastore, 1) := by decide +kernel
theorem dX8_middle_66 : decode cX8_middle 66 = .ok (.iinc 1 1, 3) := by decide +kernel
theorem dX8_middle_69 : decode cX8_middle 69 = .ok (.goto (-67), 3) := by decide +kernel
theorem dX8_middle_72 : decode cX8_middle 72 = .ok (.aload_n 0, 1) := by decide +kernel
theorem dX8_middle_73 : decode cX8_middle 73 = .ok (.getfield 34, 3) := by decide +kernel
theorem dX8_middle_76 : decode cX8_middle 76 = .ok (.aload_n 0, 1) := by decide +kernel
theorem dX8_middle_77 : decode cX8_middle 77 = .ok (.getfield 88, 3) := by decide +kernel
theorem dX8_middle_80 : decode cX8_middle 80 = .ok (.iconst 2, 1) := by decide +kernel
theorem dX8_middle_81 : decode cX8_middle 81 = .ok (.idiv, 1) := by decide +kernel
theorem dX8_middle_82 : decode cX8_middle 82 = .ok (.laload, 1) := by decide +kernel
theorem dX8_middle_83 : decode cX8_middle 83 = .ok (.lstore_n 1, 1) := by decide +kernel
theorem dX8_middle_84 : decode cX8_middle 84 = .ok (.aload_n 0, 1) := by decide +kernel
theorem dX8_middle_85 : decode cX8_middle 85 = .ok (.getfield 88, 3) := by decide +kernel
theorem dX8_middle_88 : decode cX8_middle 88 = .ok (.iconst 2, 1) := by decide +kernel
theorem dX8_middle_89 : decode cX8_middle 89 = .ok (.irem, 1) := by decide +kernel
theorem dX8_middle_90 : decode cX8_middle 90 = .ok (.iconst 1, 1) := by decide +kernel
theorem dX8_middle_91 : decode cX8_middle 91 = .ok (.if_icmp .ne 7, 3) := by decide +kernel
theorem dX8_middle_94 : decode cX8_middle 94 = .ok (.lload_n 1, 1) := by decide +kernel
theorem dX8_middle_95 : decode cX8_middle 95 = .ok (.goto 24, 3) := by decide +kernel
theorem dX8_middle_98 : decode cX8_middle 98 = .ok (.aload_n 0, 1) := by decide +kernel
theorem dX8_middle_99 : decode cX8_middle 99 = .ok (.getfield 34, 3) := by decide +kernel
theorem dX8_middle_102 : decode cX8_middle 102 = .ok (.aload_n 0, 1) := by decide +kernel
theorem dX8_middle_103 : decode cX8_middle 103 = .ok (.getfield 88, 3) := by decide +kernel
theorem dX8_middle_106 : decode cX8_middle 106 = .ok (.iconst 2, 1) := by decide +kernel
theorem dX8_middle_107 : decode cX8_middle 107 = .ok (.idiv, 1) := by decide +kernel
theorem dX8_middle_108 : decode cX8_middle 108 = .ok (.iconst 1, 1) := by decide +kernel
theorem dX8_middle_109 : decode cX8_middle 109 = .ok (.isub, 1) := by decide +kernel
theorem dX8_middle_110 : decode cX8_middle 110 = .ok (.laload, 1) := by decide +kernel
theorem dX8_middle_111 : decode cX8_middle 111 = .ok (.lload_n 1, 1) := by decide +kernel
theorem dX8_middle_112 : decode cX8_middle 112 = .ok (.ladd, 1) := by decide +kernel
theorem dX8_middle_113 : decode cX8_middle 113 = .ok (.ldc2_w 122, 3) := by decide +kernel
theorem dX8_middle_116 : decode cX8_middle 116 = .ok (.invokestatic 105, 3) := by decide +kernel
theorem dX8_middle_119 : decode cX8_middle 119 = .ok (.lreturn, 1) := by decide +kernel
set_option maxRecDepth 20000 in
theorem ggX8_time_X8_middle : GoodIn wsX8_time wsX8_middle := goodIn_r _ [7, 1, 8, 9, 10, 11, 12, 6, 13, 14, 15, 16, 17, 18, 19, 20, 21, 22, 23, 24, 25, 26, 27, 28, 29, 30, 31, 32, 33, 34, 35, 36, 37, 38, 39, 40, 41, 42, 43, 44, 45, 46, 47, 48, 49, 50, 51] (by decide +kernel) (by decide +kernel)
set_option maxRecDepth 20000 in
theorem gX8_time_X8_middle : GoodIn wsX8_time (wsV RX8 124 RX8 yX8_middle wsX8_middle) := goodIn_app (goodIn_of _ (by decide +kernel)) ggX8_time_X8_middle
theorem dX8_time_0 : decode cX8_time 0 = .ok (.aload_n 0, 1) := by decide +kernel
theorem dX8_time_1 : decode cX8_time 1 = .ok (.aload_n 0, 1) := by decide +kernel
theorem dX8_time_2 : decode cX8_time 2 = .ok (.getfield 88, 3) := by decide +kernel
theorem dX8_time_5 : decode cX8_time 5 = .ok (.ifCond .le 7, 3) := by decide +kernel
theorem dX8_time_8 : decode cX8_time 8 = .ok (.iconst 0, 1) := by decide +kernel
theorem dX8_time_9 : decode cX8_time 9 = .ok (.goto 4, 3) := by decide +kernel
theorem dX8_time_12 : decode cX8_time 12 = .ok (.iconst 1, 1) := by decide +kernel
theorem dX8_time_13 : decode cX8_time 13 = .ok (.putfield 85, 3) := by decide +kernel
theorem dX8_time_16 : decode cX8_time 16 = .ok (.aload_n 0, 1) := by decide +kernel
theorem dX8_time_17 : decode cX8_time 17 = .ok (.getfield 85, 3) := by decide +kernel
theorem dX8_time_20 : decode cX8_time 20 = .ok (.ifCond .le 7, 3) := by decide +kernel
theorem dX8_time_23 : decode cX8_time 23 = .ok (.lconst 0, 1) := by decide +kernel
theorem dX8_time_24 : decode cX8_time 24 = .ok (.goto 7, 3) := by decide +kernel
theorem dX8_time_27 : decode cX8_time 27 = .ok (.aload_n 0, 1) := by decide +kernel
theorem dX8_time_28 : decode cX8_time 28 = .ok (.invokevirtual 124, 3) := by decide +kernel
theorem dX8_time_31 : decode cX8_time 31 = .ok (.lreturn, 1) := by decide +kernel
set_option maxRecDepth 20000 in
theorem ggX8_trusts_X8_middle : GoodIn wsX8_trusts wsX8_middle := goodIn_r _ [7, 8, 9, 1, 10, 11, 12, 6, 13, 17, 18, 19, 20, 21, 22, 23, 24, 25, 26, 27, 28, 29, 30, 31, 32, 33, 34, 35, 36, 37, 38, 39, 40, 41, 42, 43, 44, 45, 46, 47, 48, 49, 50, 51, 52, 53, 54] (by decide +kernel) (by decide +kernel)
set_option maxRecDepth 20000 in
theorem gX8_trusts_X8_middle : GoodIn wsX8_trusts (wsV RX8 124 RX8 yX8_middle wsX8_middle) := goodIn_app (goodIn_of _ (by decide +kernel)) ggX8_trusts_X8_middle
set_option maxRecDepth 20000 in
theorem ggX8_trusts_X8_size : GoodIn wsX8_trusts wsX8_size := goodIn_r _ [16] (by decide +kernel) (by decide +kernel)
set_option maxRecDepth 20000 in
theorem gX8_trusts_X8_size : GoodIn wsX8_trusts (va_wsS RX8 128 yX8_size wsX8_size) := goodIn_app (goodIn_of _ (by decide +kernel)) ggX8_trusts_X8_size
theorem dX8_trusts_0 : decode cX8_trusts 0 = .ok (.aload_n 0, 1) := by decide +kernel
theorem dX8_trusts_1 : decode cX8_trusts 1 = .ok (.getfield 30, 3) := by decide +kernel
theorem dX8_trusts_4 : decode cX8_trusts 4 = .ok (.iload_n 1, 1) := by decide +kernel
theorem dX8_trusts_5 : decode cX8_trusts 5 = .ok (.laload, 1) := by decide +kernel
theorem dX8_trusts_6 : decode cX8_trusts 6 = .ok (.aload_n 0, 1) := by decide +kernel
theorem dX8_trusts_7 : decode cX8_trusts 7 = .ok (.invokevirtual 124, 3) := by decide +kernel
theorem dX8_trusts_10 : decode cX8_trusts 10 = .ok (.lsub, 1) := by decide +kernel
theorem dX8_trusts_11 : decode cX8_trusts 11 = .ok (.invokestatic 128, 3) := by decide +kernel
theorem dX8_trusts_14 : decode cX8_trusts 14 = .ok (.ldc2_w 132, 3) := by decide +kernel
theorem dX8_trusts_17 : decode cX8_trusts 17 = .ok (.lcmp, 1) := by decide +kernel
theorem dX8_trusts_18 : decode cX8_trusts 18 = .ok (.ifCond .gt 7, 3) := by decide +kernel
theorem dX8_trusts_21 : decode cX8_trusts 21 = .ok (.iconst 1, 1) := by decide +kernel
theorem dX8_trusts_22 : decode cX8_trusts 22 = .ok (.goto 4, 3) := by decide +kernel
theorem dX8_trusts_25 : decode cX8_trusts 25 = .ok (.iconst 0, 1) := by decide +kernel
theorem dX8_trusts_26 : decode cX8_trusts 26 = .ok (.ireturn, 1) := by decide +kernel
set_option maxRecDepth 20000 in
theorem ggX8_isTrusted_X8_isClock : GoodIn wsX8_isTrusted wsX8_isClock := goodIn_r _ [6, 7, 8, 9, 5, 10, 29, 30, 31, 32, 33, 34, 35, 36, 37, 38, 39, 40, 41, 42, 43, 44, 45, 46, 47, 48, 49, 50, 51, 52, 53, 54, 55, 56, 57, 58, 59, 60, 61, 62, 63, 64, 65, 66] (by decide +kernel) (by decide +kernel)
set_option maxRecDepth 20000 in
theorem gX8_isTrusted_X8_isClock : GoodIn wsX8_isTrusted (wsV RX8 109 RX8 yX8_isClock wsX8_isClock) := goodIn_app (goodIn_of _ (by decide +kernel)) ggX8_isTrusted_X8_isClock
set_option maxRecDepth 20000 in
theorem ggX8_isTrusted_X8_trusts : GoodIn wsX8_isTrusted wsX8_trusts := goodIn_r _ [14, 15, 16, 17, 18, 19, 5, 20, 7, 21, 22, 23, 24, 25, 26, 27, 28, 29, 30, 31, 32, 33, 34, 35, 36, 37, 38, 39, 40, 41, 42, 43, 44, 45, 46, 47, 48, 49, 50, 51, 52, 53, 54, 55, 56, 57, 58, 59, 60, 61, 62, 63, 64, 65, 66] (by decide +kernel) (by decide +kernel)
set_option maxRecDepth 20000 in
theorem gX8_isTrusted_X8_trusts : GoodIn wsX8_isTrusted (wsV RX8 134 RX8 yX8_trusts wsX8_trusts) := goodIn_app (goodIn_of _ (by decide +kernel)) ggX8_isTrusted_X8_trusts
theorem dX8_isTrusted_0 : decode cX8_isTrusted 0 = .ok (.aload_n 0, 1) := by decide +kernel
theorem dX8_isTrusted_1 : decode cX8_isTrusted 1 = .ok (.aload_n 0, 1) := by decide +kernel
theorem dX8_isTrusted_2 : decode cX8_isTrusted 2 = .ok (.iload_n 1, 1) := by decide +kernel
theorem dX8_isTrusted_3 : decode cX8_isTrusted 3 = .ok (.invokevirtual 109, 3) := by decide +kernel
theorem dX8_isTrusted_6 : decode cX8_isTrusted 6 = .ok (.ifCond .eq 7, 3) := by decide +kernel
theorem dX8_isTrusted_9 : decode cX8_isTrusted 9 = .ok (.iconst 0, 1) := by decide +kernel
theorem dX8_isTrusted_10 : decode cX8_isTrusted 10 = .ok (.goto 4, 3) := by decide +kernel
theorem dX8_isTrusted_13 : decode cX8_isTrusted 13 = .ok (.iconst 1, 1) := by decide +kernel
theorem dX8_isTrusted_14 : decode cX8_isTrusted 14 = .ok (.putfield 85, 3) := by decide +kernel
theorem dX8_isTrusted_17 : decode cX8_isTrusted 17 = .ok (.aload_n 0, 1) := by decide +kernel
theorem dX8_isTrusted_18 : decode cX8_isTrusted 18 = .ok (.getfield 85, 3) := by decide +kernel
theorem dX8_isTrusted_21 : decode cX8_isTrusted 21 = .ok (.ifCond .ne 15, 3) := by decide +kernel
theorem dX8_isTrusted_24 : decode cX8_isTrusted 24 = .ok (.aload_n 0, 1) := by decide +kernel
theorem dX8_isTrusted_25 : decode cX8_isTrusted 25 = .ok (.iload_n 1, 1) := by decide +kernel
theorem dX8_isTrusted_26 : decode cX8_isTrusted 26 = .ok (.invokevirtual 134, 3) := by decide +kernel
theorem dX8_isTrusted_29 : decode cX8_isTrusted 29 = .ok (.ifCond .eq 7, 3) := by decide +kernel
theorem dX8_isTrusted_32 : decode cX8_isTrusted 32 = .ok (.iconst 1, 1) := by decide +kernel
theorem dX8_isTrusted_33 : decode cX8_isTrusted 33 = .ok (.goto 4, 3) := by decide +kernel
theorem dX8_isTrusted_36 : decode cX8_isTrusted 36 = .ok (.iconst 0, 1) := by decide +kernel
theorem dX8_isTrusted_37 : decode cX8_isTrusted 37 = .ok (.ireturn, 1) := by decide +kernel
theorem dX8_pullOf_0 : decode cX8_pullOf 0 = .ok (.iload_n 0, 1) := by decide +kernel
theorem dX8_pullOf_1 : decode cX8_pullOf 1 = .ok (.sipush 250, 3) := by decide +kernel
theorem dX8_pullOf_4 : decode cX8_pullOf 4 = .ok (.if_icmp .ge 7, 3) := by decide +kernel
theorem dX8_pullOf_7 : decode cX8_pullOf 7 = .ok (.iload_n 0, 1) := by decide +kernel
theorem dX8_pullOf_8 : decode cX8_pullOf 8 = .ok (.goto 23, 3) := by decide +kernel
theorem dX8_pullOf_11 : decode cX8_pullOf 11 = .ok (.iload_n 0, 1) := by decide +kernel
theorem dX8_pullOf_12 : decode cX8_pullOf 12 = .ok (.sipush 750, 3) := by decide +kernel
theorem dX8_pullOf_15 : decode cX8_pullOf 15 = .ok (.if_icmp .ge 11, 3) := by decide +kernel
theorem dX8_pullOf_18 : decode cX8_pullOf 18 = .ok (.sipush 500, 3) := by decide +kernel
theorem dX8_pullOf_21 : decode cX8_pullOf 21 = .ok (.iload_n 0, 1) := by decide +kernel
theorem dX8_pullOf_22 : decode cX8_pullOf 22 = .ok (.isub, 1) := by decide +kernel
theorem dX8_pullOf_23 : decode cX8_pullOf 23 = .ok (.goto 8, 3) := by decide +kernel
theorem dX8_pullOf_26 : decode cX8_pullOf 26 = .ok (.iload_n 0, 1) := by decide +kernel
theorem dX8_pullOf_27 : decode cX8_pullOf 27 = .ok (.sipush 1000, 3) := by decide +kernel
theorem dX8_pullOf_30 : decode cX8_pullOf 30 = .ok (.isub, 1) := by decide +kernel
theorem dX8_pullOf_31 : decode cX8_pullOf 31 = .ok (.ireturn, 1) := by decide +kernel
set_option maxRecDepth 20000 in
theorem ggX8_goes_X8_pullOf : GoodIn wsX8_goes wsX8_pullOf := goodIn_r _ [5] (by decide +kernel) (by decide +kernel)
set_option maxRecDepth 20000 in
theorem gX8_goes_X8_pullOf : GoodIn wsX8_goes (va_wsS RX8 137 yX8_pullOf wsX8_pullOf) := goodIn_app (goodIn_of _ (by decide +kernel)) ggX8_goes_X8_pullOf
set_option maxRecDepth 20000 in
theorem ggX8_goes_X8_floor : GoodIn wsX8_goes wsX8_floor := goodIn_r _ [8] (by decide +kernel) (by decide +kernel)
set_option maxRecDepth 20000 in
theorem gX8_goes_X8_floor : GoodIn wsX8_goes (va_wsS RX8 105 yX8_floor wsX8_floor) := goodIn_app (goodIn_of _ (by decide +kernel)) ggX8_goes_X8_floor
theorem dX8_goes_0 : decode cX8_goes 0 = .ok (.iload_n 2, 1) := by decide +kernel
theorem dX8_goes_1 : decode cX8_goes 1 = .ok (.iload_n 0, 1) := by decide +kernel
theorem dX8_goes_2 : decode cX8_goes 2 = .ok (.iadd, 1) := by decide +kernel
theorem dX8_goes_3 : decode cX8_goes 3 = .ok (.iload_n 1, 1) := by decide +kernel
theorem dX8_goes_4 : decode cX8_goes 4 = .ok (.iload_n 2, 1) := by decide +kernel
theorem dX8_goes_5 : decode cX8_goes 5 = .ok (.invokestatic 137, 3) := by decide +kernel
theorem dX8_goes_8 : decode cX8_goes 8 = .ok (.imul, 1) := by decide +kernel
theorem dX8_goes_9 : decode cX8_goes 9 = .ok (.i2l, 1) := by decide +kernel
theorem dX8_goes_10 : decode cX8_goes 10 = .ok (.ldc2_w 140, 3) := by decide +kernel
theorem dX8_goes_13 : decode cX8_goes 13 = .ok (.invokestatic 105, 3) := by decide +kernel
theorem dX8_goes_16 : decode cX8_goes 16 = .ok (.l2i, 1) := by decide +kernel
theorem dX8_goes_17 : decode cX8_goes 17 = .ok (.isub, 1) := by decide +kernel
theorem dX8_goes_18 : decode cX8_goes 18 = .ok (.ireturn, 1) := by decide +kernel
set_option maxRecDepth 20000 in
theorem ggX8_isBeam_X8_isIn : GoodIn wsX8_isBeam wsX8_isIn := goodIn_r _ [4] (by decide +kernel) (by decide +kernel)
set_option maxRecDepth 20000 in
theorem gX8_isBeam_X8_isIn : GoodIn wsX8_isBeam (va_wsS RX8 91 yX8_isIn wsX8_isIn) := goodIn_app (goodIn_of _ (by decide +kernel)) ggX8_isBeam_X8_isIn
theorem dX8_isBeam_0 : decode cX8_isBeam 0 = .ok (.iload_n 0, 1) := by decide +kernel
theorem dX8_isBeam_1 : decode cX8_isBeam 1 = .ok (.iconst 0, 1) := by decide +kernel
theorem dX8_isBeam_2 : decode cX8_isBeam 2 = .ok (.sipush 999, 3) := by decide +kernel
theorem dX8_isBeam_5 : decode cX8_isBeam 5 = .ok (.invokestatic 91, 3) := by decide +kernel
theorem dX8_isBeam_8 : decode cX8_isBeam 8 = .ok (.ifCond .eq 18, 3) := by decide +kernel
theorem dX8_isBeam_11 : decode cX8_isBeam 11 = .ok (.iload_n 1, 1) := by decide +kernel
theorem dX8_isBeam_12 : decode cX8_isBeam 12 = .ok (.iconst 0, 1) := by decide +kernel
theorem dX8_isBeam_13 : decode cX8_isBeam 13 = .ok (.sipush 300, 3) := by decide +kernel
theorem dX8_isBeam_16 : decode cX8_isBeam 16 = .ok (.invokestatic 91, 3) := by decide +kernel
theorem dX8_isBeam_19 : decode cX8_isBeam 19 = .ok (.ifCond .eq 7, 3) := by decide +kernel
theorem dX8_isBeam_22 : decode cX8_isBeam 22 = .ok (.iconst 1, 1) := by decide +kernel
theorem dX8_isBeam_23 : decode cX8_isBeam 23 = .ok (.goto 4, 3) := by decide +kernel
theorem dX8_isBeam_26 : decode cX8_isBeam 26 = .ok (.iconst 0, 1) := by decide +kernel
theorem dX8_isBeam_27 : decode cX8_isBeam 27 = .ok (.ireturn, 1) := by decide +kernel
set_option maxRecDepth 20000 in
theorem ggX8_phase_X8_isBeam : GoodIn wsX8_phase wsX8_isBeam := goodIn_r _ [5, 6, 7, 4, 8] (by decide +kernel) (by decide +kernel)
set_option maxRecDepth 20000 in
theorem gX8_phase_X8_isBeam : GoodIn wsX8_phase (va_wsS RX8 142 yX8_isBeam wsX8_isBeam) := goodIn_app (goodIn_of _ (by decide +kernel)) ggX8_phase_X8_isBeam
set_option maxRecDepth 20000 in
theorem ggX8_phase_X8_isIn : GoodIn wsX8_phase wsX8_isIn := goodIn_r _ [8] (by decide +kernel) (by decide +kernel)
set_option maxRecDepth 20000 in
theorem gX8_phase_X8_isIn : GoodIn wsX8_phase (va_wsS RX8 91 yX8_isIn wsX8_isIn) := goodIn_app (goodIn_of _ (by decide +kernel)) ggX8_phase_X8_isIn
set_option maxRecDepth 20000 in
theorem ggX8_phase_X8_goes : GoodIn wsX8_phase wsX8_goes := goodIn_r _ [11, 12, 13, 14, 4, 15, 16, 17, 18] (by decide +kernel) (by decide +kernel)
set_option maxRecDepth 20000 in
theorem gX8_phase_X8_goes : GoodIn wsX8_phase (va_wsS RX8 146 yX8_goes wsX8_goes) := goodIn_app (goodIn_of _ (by decide +kernel)) ggX8_phase_X8_goes
set_option maxRecDepth 20000 in
theorem ggX8_phase_X8_rest : GoodIn wsX8_phase wsX8_rest := goodIn_r _ [21] (by decide +kernel) (by decide +kernel)
set_option maxRecDepth 20000 in
theorem gX8_phase_X8_rest : GoodIn wsX8_phase (va_wsS RX8 150 yX8_rest wsX8_rest) := goodIn_app (goodIn_of _ (by decide +kernel)) ggX8_phase_X8_rest
theorem dX8_phase_0 : decode cX8_phase 0 = .ok (.aload_n 0, 1) := by decide +kernel
theorem dX8_phase_1 : decode cX8_phase 1 = .ok (.iload_n 1, 1) := by decide +kernel
theorem dX8_phase_2 : decode cX8_phase 2 = .ok (.iload_n 2, 1) := by decide +kernel
theorem dX8_phase_3 : decode cX8_phase 3 = .ok (.invokestatic 142, 3) := by decide +kernel
theorem dX8_phase_6 : decode cX8_phase 6 = .ok (.ifCond .eq 30, 3) := by decide +kernel
theorem dX8_phase_9 : decode cX8_phase 9 = .ok (.iload_n 3, 1) := by decide +kernel
theorem dX8_phase_10 : decode cX8_phase 10 = .ok (.iconst 0, 1) := by decide +kernel
theorem dX8_phase_11 : decode cX8_phase 11 = .ok (.sipush 999, 3) := by decide +kernel
theorem dX8_phase_14 : decode cX8_phase 14 = .ok (.invokestatic 91, 3) := by decide +kernel
theorem dX8_phase_17 : decode cX8_phase 17 = .ok (.ifCond .eq 19, 3) := by decide +kernel
theorem dX8_phase_20 : decode cX8_phase 20 = .ok (.iload 4, 2) := by decide +kernel
theorem dX8_phase_22 : decode cX8_phase 22 = .ok (.iconst 0, 1) := by decide +kernel
theorem dX8_phase_23 : decode cX8_phase 23 = .ok (.sipush 10000, 3) := by decide +kernel
theorem dX8_phase_26 : decode cX8_phase 26 = .ok (.invokestatic 91, 3) := by decide +kernel
theorem dX8_phase_29 : decode cX8_phase 29 = .ok (.ifCond .eq 7, 3) := by decide +kernel
theorem dX8_phase_32 : decode cX8_phase 32 = .ok (.iconst 0, 1) := by decide +kernel
theorem dX8_phase_33 : decode cX8_phase 33 = .ok (.goto 4, 3) := by decide +kernel
theorem dX8_phase_36 : decode cX8_phase 36 = .ok (.iconst 1, 1) := by decide +kernel
theorem dX8_phase_37 : decode cX8_phase 37 = .ok (.putfield 85, 3) := by decide +kernel
theorem dX8_phase_40 : decode cX8_phase 40 = .ok (.aload_n 0, 1) := by decide +kernel
theorem dX8_phase_41 : decode cX8_phase 41 = .ok (.getfield 85, 3) := by decide +kernel
theorem dX8_phase_44 : decode cX8_phase 44 = .ok (.ifCond .le 5, 3) := by decide +kernel
theorem dX8_phase_47 : decode cX8_phase 47 = .ok (.iconst 0, 1) := by decide +kernel
theorem dX8_phase_48 : decode cX8_phase 48 = .ok (.ireturn, 1) := by decide +kernel
theorem dX8_phase_49 : decode cX8_phase 49 = .ok (.iload_n 3, 1) := by decide +kernel
theorem dX8_phase_50 : decode cX8_phase 50 = .ok (.istore 5, 2) := by decide +kernel
theorem dX8_phase_52 : decode cX8_phase 52 = .ok (.iconst 0, 1) := by decide +kernel
theorem dX8_phase_53 : decode cX8_phase 53 = .ok (.istore 6, 2) := by decide +kernel
theorem dX8_phase_55 : decode cX8_phase 55 = .ok (.iload 6, 2) := by decide +kernel
theorem dX8_phase_57 : decode cX8_phase 57 = .ok (.iload 4, 2) := by decide +kernel
theorem dX8_phase_59 : decode cX8_phase 59 = .ok (.if_icmp .ge 24, 3) := by decide +kernel
theorem dX8_phase_62 : decode cX8_phase 62 = .ok (.iload_n 1, 1) := by decide +kernel
theorem dX8_phase_63 : decode cX8_phase 63 = .ok (.iload_n 2, 1) := by decide +kernel
theorem dX8_phase_64 : decode cX8_phase 64 = .ok (.iload 5, 2) := by decide +kernel
theorem dX8_phase_66 : decode cX8_phase 66 = .ok (.invokestatic 146, 3) := by decide +kernel
theorem dX8_phase_69 : decode cX8_phase 69 = .ok (.sipush 1000, 3) := by decide +kernel
theorem dX8_phase_72 : decode cX8_phase 72 = .ok (.invokestatic 150, 3) := by decide +kernel
theorem dX8_phase_75 : decode cX8_phase 75 = .ok (.istore 5, 2) := by decide +kernel
theorem dX8_phase_77 : decode cX8_phase 77 = .ok (.iinc 6 1, 3) := by decide +kernel
theorem dX8_phase_80 : decode cX8_phase 80 = .ok (.goto (-25), 3) := by decide +kernel
theorem dX8_phase_83 : decode cX8_phase 83 = .ok (.iload 5, 2) := by decide +kernel
theorem dX8_phase_85 : decode cX8_phase 85 = .ok (.ireturn, 1) := by decide +kernel
set_option maxRecDepth 20000 in
theorem ggX8_comesRound_X8_goes : GoodIn wsX8_comesRound wsX8_goes := goodIn_r _ [12, 13, 14, 15, 11, 16, 17, 18, 19] (by decide +kernel) (by decide +kernel)
set_option maxRecDepth 20000 in
theorem gX8_comesRound_X8_goes : GoodIn wsX8_comesRound (va_wsS RX8 146 yX8_goes wsX8_goes) := goodIn_app (goodIn_of _ (by decide +kernel)) ggX8_comesRound_X8_goes
set_option maxRecDepth 20000 in
theorem ggX8_comesRound_X8_floor : GoodIn wsX8_comesRound wsX8_floor := goodIn_r _ [19] (by decide +kernel) (by decide +kernel)
set_option maxRecDepth 20000 in
theorem gX8_comesRound_X8_floor : GoodIn wsX8_comesRound (va_wsS RX8 105 yX8_floor wsX8_floor) := goodIn_app (goodIn_of _ (by decide +kernel)) ggX8_comesRound_X8_floor
set_option maxRecDepth 20000 in
theorem ggX8_comesRound_X8_rest : GoodIn wsX8_comesRound wsX8_rest := goodIn_r _ [22] (by decide +kernel) (by decide +kernel)
set_option maxRecDepth 20000 in
theorem gX8_comesRound_X8_rest : GoodIn wsX8_comesRound (va_wsS RX8 150 yX8_rest wsX8_rest) := goodIn_app (goodIn_of _ (by decide +kernel)) ggX8_comesRound_X8_rest
theorem dX8_comesRound_0 : decode cX8_comesRound 0 = .ok (.aload_n 0, 1) := by decide +kernel
theorem dX8_comesRound_1 : decode cX8_comesRound 1 = .ok (.dup, 1) := by decide +kernel
theorem dX8_comesRound_2 : decode cX8_comesRound 2 = .ok (.getfield 154, 3) := by decide +kernel
theorem dX8_comesRound_5 : decode cX8_comesRound 5 = .ok (.iconst 1, 1) := by decide +kernel
theorem dX8_comesRound_6 : decode cX8_comesRound 6 = .ok (.iadd, 1) := by decide +kernel
theorem dX8_comesRound_7 : decode cX8_comesRound 7 = .ok (.putfield 154, 3) := by decide +kernel
theorem dX8_comesRound_10 : decode cX8_comesRound 10 = .ok (.iload_n 3, 1) := by decide +kernel
theorem dX8_comesRound_11 : decode cX8_comesRound 11 = .ok (.istore 4, 2) := by decide +kernel
theorem dX8_comesRound_13 : decode cX8_comesRound 13 = .ok (.iconst 0, 1) := by decide +kernel
theorem dX8_comesRound_14 : decode cX8_comesRound 14 = .ok (.istore 5, 2) := by decide +kernel
theorem dX8_comesRound_16 : decode cX8_comesRound 16 = .ok (.iconst 0, 1) := by decide +kernel
theorem dX8_comesRound_17 : decode cX8_comesRound 17 = .ok (.istore 6, 2) := by decide +kernel
theorem dX8_comesRound_19 : decode cX8_comesRound 19 = .ok (.aload_n 0, 1) := by decide +kernel
theorem dX8_comesRound_20 : decode cX8_comesRound 20 = .ok (.getfield 37, 3) := by decide +kernel
theorem dX8_comesRound_23 : decode cX8_comesRound 23 = .ok (.iload 4, 2) := by decide +kernel
theorem dX8_comesRound_25 : decode cX8_comesRound 25 = .ok (.iaload, 1) := by decide +kernel
theorem dX8_comesRound_26 : decode cX8_comesRound 26 = .ok (.aload_n 0, 1) := by decide +kernel
theorem dX8_comesRound_27 : decode cX8_comesRound 27 = .ok (.getfield 154, 3) := by decide +kernel
theorem dX8_comesRound_30 : decode cX8_comesRound 30 = .ok (.if_icmp .eq 72, 3) := by decide +kernel
theorem dX8_comesRound_33 : decode cX8_comesRound 33 = .ok (.aload_n 0, 1) := by decide +kernel
theorem dX8_comesRound_34 : decode cX8_comesRound 34 = .ok (.getfield 37, 3) := by decide +kernel
theorem dX8_comesRound_37 : decode cX8_comesRound 37 = .ok (.iload 4, 2) := by decide +kernel
theorem dX8_comesRound_39 : decode cX8_comesRound 39 = .ok (.aload_n 0, 1) := by decide +kernel
theorem dX8_comesRound_40 : decode cX8_comesRound 40 = .ok (.getfield 154, 3) := by decide +kernel
theorem dX8_comesRound_43 : decode cX8_comesRound 43 = .ok (.iastore, 1) := by decide +kernel
theorem dX8_comesRound_44 : decode cX8_comesRound 44 = .ok (.aload_n 0, 1) := by decide +kernel
theorem dX8_comesRound_45 : decode cX8_comesRound 45 = .ok (.getfield 40, 3) := by decide +kernel
theorem dX8_comesRound_48 : decode cX8_comesRound 48 = .ok (.iload 4, 2) := by decide +kernel
theorem dX8_comesRound_50 : decode cX8_comesRound 50 = .ok (.iload 5, 2) := by decide +kernel
theorem dX8_comesRound_52 : decode cX8_comesRound 52 = .ok (.iastore, 1) := by decide +kernel
theorem dX8_comesRound_53 : decode cX8_comesRound 53 = .ok (.aload_n 0, 1) := by decide +kernel
theorem dX8_comesRound_54 : decode cX8_comesRound 54 = .ok (.getfield 43, 3) := by decide +kernel
theorem dX8_comesRound_57 : decode cX8_comesRound 57 = .ok (.iload 4, 2) := by decide +kernel
theorem dX8_comesRound_59 : decode cX8_comesRound 59 = .ok (.iload 6, 2) := by decide +kernel
theorem dX8_comesRound_61 : decode cX8_comesRound 61 = .ok (.iastore, 1) := by decide +kernel
theorem dX8_comesRound_62 : decode cX8_comesRound 62 = .ok (.iload_n 1, 1) := by decide +kernel
theorem dX8_comesRound_63 : decode cX8_comesRound 63 = .ok (.iload_n 2, 1) := by decide +kernel
theorem dX8_comesRound_64 : decode cX8_comesRound 64 = .ok (.iload 4, 2) := by decide +kernel
theorem dX8_comesRound_66 : decode cX8_comesRound 66 = .ok (.invokestatic 146, 3) := by decide +kernel
theorem dX8_comesRound_69 : decode cX8_comesRound 69 = .ok (.istore 7, 2) := by decide +kernel
theorem dX8_comesRound_71 : decode cX8_comesRound 71 = .ok (.iload 6, 2) := by decide +kernel
theorem dX8_comesRound_73 : decode cX8_comesRound 73 = .ok (.iload 7, 2) := by decide +kernel
theorem dX8_comesRound_75 : decode cX8_comesRound 75 = .ok (.i2l, 1) := by decide +kernel
theorem dX8_comesRound_76 : decode cX8_comesRound 76 = .ok (.ldc2_w 157, 3) := by decide +kernel
theorem dX8_comesRound_79 : decode cX8_comesRound 79 = .ok (.invokestatic 105, 3) := by decide +kernel
theorem dX8_comesRound_82 : decode cX8_comesRound 82 = .ok (.l2i, 1) := by decide +kernel
theorem dX8_comesRound_83 : decode cX8_comesRound 83 = .ok (.iadd, 1) := by decide +kernel
theorem dX8_comesRound_84 : decode cX8_comesRound 84 = .ok (.istore 6, 2) := by decide +kernel
theorem dX8_comesRound_86 : decode cX8_comesRound 86 = .ok (.iload 7, 2) := by decide +kernel
theorem dX8_comesRound_88 : decode cX8_comesRound 88 = .ok (.sipush 1000, 3) := by decide +kernel
theorem dX8_comesRound_91 : decode cX8_comesRound 91 = .ok (.invokestatic 150, 3) := by decide +kernel
theorem dX8_comesRound_94 : decode cX8_comesRound 94 = .ok (.istore 4, 2) := by decide +kernel
theorem dX8_comesRound_96 : decode cX8_comesRound 96 = .ok (.iinc 5 1, 3) := by decide +kernel
theorem dX8_comesRound_99 : decode cX8_comesRound 99 = .ok (.goto (-80), 3) := by decide +kernel
theorem dX8_comesRound_102 : decode cX8_comesRound 102 = .ok (.aload_n 0, 1) := by decide +kernel
theorem dX8_comesRound_103 : decode cX8_comesRound 103 = .ok (.iload 5, 2) := by decide +kernel
theorem dX8_comesRound_105 : decode cX8_comesRound 105 = .ok (.aload_n 0, 1) := by decide +kernel
theorem dX8_comesRound_106 : decode cX8_comesRound 106 = .ok (.getfield 40, 3) := by decide +kernel
theorem dX8_comesRound_109 : decode cX8_comesRound 109 = .ok (.iload 4, 2) := by decide +kernel
theorem dX8_comesRound_111 : decode cX8_comesRound 111 = .ok (.iaload, 1) := by decide +kernel
theorem dX8_comesRound_112 : decode cX8_comesRound 112 = .ok (.isub, 1) := by decide +kernel
theorem dX8_comesRound_113 : decode cX8_comesRound 113 = .ok (.putfield 159, 3) := by decide +kernel
theorem dX8_comesRound_116 : decode cX8_comesRound 116 = .ok (.aload_n 0, 1) := by decide +kernel
theorem dX8_comesRound_117 : decode cX8_comesRound 117 = .ok (.iload 6, 2) := by decide +kernel
theorem dX8_comesRound_119 : decode cX8_comesRound 119 = .ok (.aload_n 0, 1) := by decide +kernel
theorem dX8_comesRound_120 : decode cX8_comesRound 120 = .ok (.getfield 43, 3) := by decide +kernel
theorem dX8_comesRound_123 : decode cX8_comesRound 123 = .ok (.iload 4, 2) := by decide +kernel
theorem dX8_comesRound_125 : decode cX8_comesRound 125 = .ok (.iaload, 1) := by decide +kernel
theorem dX8_comesRound_126 : decode cX8_comesRound 126 = .ok (.isub, 1) := by decide +kernel
theorem dX8_comesRound_127 : decode cX8_comesRound 127 = .ok (.putfield 162, 3) := by decide +kernel
theorem dX8_comesRound_130 : decode cX8_comesRound 130 = .ok (.aload_n 0, 1) := by decide +kernel
theorem dX8_comesRound_131 : decode cX8_comesRound 131 = .ok (.aload_n 0, 1) := by decide +kernel
theorem dX8_comesRound_132 : decode cX8_comesRound 132 = .ok (.getfield 40, 3) := by decide +kernel
theorem dX8_comesRound_135 : decode cX8_comesRound 135 = .ok (.iload 4, 2) := by decide +kernel
theorem dX8_comesRound_137 : decode cX8_comesRound 137 = .ok (.iaload, 1) := by decide +kernel
theorem dX8_comesRound_138 : decode cX8_comesRound 138 = .ok (.putfield 165, 3) := by decide +kernel
theorem dX8_comesRound_141 : decode cX8_comesRound 141 = .ok (.return_, 1) := by decide +kernel
set_option maxRecDepth 20000 in
theorem ggX8_round_X8_isBeam : GoodIn wsX8_round wsX8_isBeam := goodIn_r _ [8, 9, 10, 7, 11] (by decide +kernel) (by decide +kernel)
set_option maxRecDepth 20000 in
theorem gX8_round_X8_isBeam : GoodIn wsX8_round (va_wsS RX8 142 yX8_isBeam wsX8_isBeam) := goodIn_app (goodIn_of _ (by decide +kernel)) ggX8_round_X8_isBeam
set_option maxRecDepth 20000 in
theorem ggX8_round_X8_isIn : GoodIn wsX8_round wsX8_isIn := goodIn_r _ [11] (by decide +kernel) (by decide +kernel)
set_option maxRecDepth 20000 in
theorem gX8_round_X8_isIn : GoodIn wsX8_round (va_wsS RX8 91 yX8_isIn wsX8_isIn) := goodIn_app (goodIn_of _ (by decide +kernel)) ggX8_round_X8_isIn
set_option maxRecDepth 20000 in
theorem ggX8_round_X8_comesRound : GoodIn wsX8_round wsX8_comesRound := goodIn_r _ [15, 16, 17, 18, 19, 20, 2, 3, 4, 21, 22, 7, 23, 24, 25, 26, 27, 28, 29, 30, 31, 32, 33, 34, 35, 36, 37, 38, 39, 40, 41, 42, 43, 44, 45, 46, 47, 48, 49, 50, 51, 52, 53, 54, 55, 56, 57, 58, 59, 60, 61, 62, 63, 64, 65, 66, 67, 68, 69, 70, 71] (by decide +kernel) (by decide +kernel)
set_option maxRecDepth 20000 in
theorem gX8_round_X8_comesRound : GoodIn wsX8_round (wsV RX8 168 RX8 yX8_comesRound wsX8_comesRound) := goodIn_app (goodIn_of _ (by decide +kernel)) ggX8_round_X8_comesRound
theorem dX8_round_0 : decode cX8_round 0 = .ok (.aload_n 0, 1) := by decide +kernel
theorem dX8_round_1 : decode cX8_round 1 = .ok (.iload_n 1, 1) := by decide +kernel
theorem dX8_round_2 : decode cX8_round 2 = .ok (.iload_n 2, 1) := by decide +kernel
theorem dX8_round_3 : decode cX8_round 3 = .ok (.invokestatic 142, 3) := by decide +kernel
theorem dX8_round_6 : decode cX8_round 6 = .ok (.ifCond .eq 28, 3) := by decide +kernel
theorem dX8_round_9 : decode cX8_round 9 = .ok (.iload_n 3, 1) := by decide +kernel
theorem dX8_round_10 : decode cX8_round 10 = .ok (.iconst 0, 1) := by decide +kernel
theorem dX8_round_11 : decode cX8_round 11 = .ok (.sipush 999, 3) := by decide +kernel
theorem dX8_round_14 : decode cX8_round 14 = .ok (.invokestatic 91, 3) := by decide +kernel
theorem dX8_round_17 : decode cX8_round 17 = .ok (.ifCond .eq 17, 3) := by decide +kernel
theorem dX8_round_20 : decode cX8_round 20 = .ok (.iload 4, 2) := by decide +kernel
theorem dX8_round_22 : decode cX8_round 22 = .ok (.iconst 0, 1) := by decide +kernel
theorem dX8_round_23 : decode cX8_round 23 = .ok (.iconst 2, 1) := by decide +kernel
theorem dX8_round_24 : decode cX8_round 24 = .ok (.invokestatic 91, 3) := by decide +kernel
theorem dX8_round_27 : decode cX8_round 27 = .ok (.ifCond .eq 7, 3) := by decide +kernel
theorem dX8_round_30 : decode cX8_round 30 = .ok (.iconst 0, 1) := by decide +kernel
theorem dX8_round_31 : decode cX8_round 31 = .ok (.goto 4, 3) := by decide +kernel
theorem dX8_round_34 : decode cX8_round 34 = .ok (.iconst 1, 1) := by decide +kernel
theorem dX8_round_35 : decode cX8_round 35 = .ok (.putfield 85, 3) := by decide +kernel
theorem dX8_round_38 : decode cX8_round 38 = .ok (.aload_n 0, 1) := by decide +kernel
theorem dX8_round_39 : decode cX8_round 39 = .ok (.getfield 85, 3) := by decide +kernel
theorem dX8_round_42 : decode cX8_round 42 = .ok (.ifCond .le 5, 3) := by decide +kernel
theorem dX8_round_45 : decode cX8_round 45 = .ok (.iconst 0, 1) := by decide +kernel
theorem dX8_round_46 : decode cX8_round 46 = .ok (.ireturn, 1) := by decide +kernel
theorem dX8_round_47 : decode cX8_round 47 = .ok (.aload_n 0, 1) := by decide +kernel
theorem dX8_round_48 : decode cX8_round 48 = .ok (.iload_n 1, 1) := by decide +kernel
theorem dX8_round_49 : decode cX8_round 49 = .ok (.iload_n 2, 1) := by decide +kernel
theorem dX8_round_50 : decode cX8_round 50 = .ok (.iload_n 3, 1) := by decide +kernel
theorem dX8_round_51 : decode cX8_round 51 = .ok (.invokevirtual 168, 3) := by decide +kernel
theorem dX8_round_54 : decode cX8_round 54 = .ok (.iload 4, 2) := by decide +kernel
theorem dX8_round_56 : decode cX8_round 56 = .ok (.ifCond .ne 10, 3) := by decide +kernel
theorem dX8_round_59 : decode cX8_round 59 = .ok (.aload_n 0, 1) := by decide +kernel
theorem dX8_round_60 : decode cX8_round 60 = .ok (.getfield 159, 3) := by decide +kernel
theorem dX8_round_63 : decode cX8_round 63 = .ok (.goto 20, 3) := by decide +kernel
theorem dX8_round_66 : decode cX8_round 66 = .ok (.iload 4, 2) := by decide +kernel
theorem dX8_round_68 : decode cX8_round 68 = .ok (.iconst 1, 1) := by decide +kernel
theorem dX8_round_69 : decode cX8_round 69 = .ok (.if_icmp .ne 10, 3) := by decide +kernel
theorem dX8_round_72 : decode cX8_round 72 = .ok (.aload_n 0, 1) := by decide +kernel
theorem dX8_round_73 : decode cX8_round 73 = .ok (.getfield 162, 3) := by decide +kernel
theorem dX8_round_76 : decode cX8_round 76 = .ok (.goto 7, 3) := by decide +kernel
theorem dX8_round_79 : decode cX8_round 79 = .ok (.aload_n 0, 1) := by decide +kernel
theorem dX8_round_80 : decode cX8_round 80 = .ok (.getfield 165, 3) := by decide +kernel
theorem dX8_round_83 : decode cX8_round 83 = .ok (.ireturn, 1) := by decide +kernel
set_option maxRecDepth 20000 in
theorem ggX8_tongue_X8_isIn : GoodIn wsX8_tongue wsX8_isIn := goodIn_r _ [7] (by decide +kernel) (by decide +kernel)
set_option maxRecDepth 20000 in
theorem gX8_tongue_X8_isIn : GoodIn wsX8_tongue (va_wsS RX8 91 yX8_isIn wsX8_isIn) := goodIn_app (goodIn_of _ (by decide +kernel)) ggX8_tongue_X8_isIn
set_option maxRecDepth 20000 in
theorem ggX8_tongue_X8_comesRound : GoodIn wsX8_tongue wsX8_comesRound := goodIn_r _ [11, 12, 13, 14, 15, 16, 3, 2, 17, 18, 19, 6, 20, 21, 22, 23, 24, 25, 26, 27, 28, 29, 30, 31, 32, 33, 34, 35, 36, 37, 38, 39, 40, 41, 42, 43, 44, 45, 46, 47, 48, 49, 50, 51, 52, 53, 54, 55, 56, 57, 58, 59, 60, 61, 62, 63, 64, 65, 66, 67, 68] (by decide +kernel) (by decide +kernel)
set_option maxRecDepth 20000 in
theorem gX8_tongue_X8_comesRound : GoodIn wsX8_tongue (wsV RX8 168 RX8 yX8_comesRound wsX8_comesRound) := goodIn_app (goodIn_of _ (by decide +kernel)) ggX8_tongue_X8_comesRound
theorem dX8_tongue_0 : decode cX8_tongue 0 = .ok (.aload_n 0, 1) := by decide +kernel
theorem dX8_tongue_1 : decode cX8_tongue 1 = .ok (.iload_n 1, 1) := by decide +kernel
theorem dX8_tongue_2 : decode cX8_tongue 2 = .ok (.iconst 0, 1) := by decide +kernel
theorem dX8_tongue_3 : decode cX8_tongue 3 = .ok (.sipush 300, 3) := by decide +kernel
theorem dX8_tongue_6 : decode cX8_tongue 6 = .ok (.invokestatic 91, 3) := by decide +kernel
theorem dX8_tongue_9 : decode cX8_tongue 9 = .ok (.ifCond .eq 27, 3) := by decide +kernel
theorem dX8_tongue_12 : decode cX8_tongue 12 = .ok (.iload_n 2, 1) := by decide +kernel
theorem dX8_tongue_13 : decode cX8_tongue 13 = .ok (.iconst 0, 1) := by decide +kernel
theorem dX8_tongue_14 : decode cX8_tongue 14 = .ok (.bipush 100, 2) := by decide +kernel
theorem dX8_tongue_16 : decode cX8_tongue 16 = .ok (.invokestatic 91, 3) := by decide +kernel
theorem dX8_tongue_19 : decode cX8_tongue 19 = .ok (.ifCond .eq 17, 3) := by decide +kernel
theorem dX8_tongue_22 : decode cX8_tongue 22 = .ok (.iload_n 3, 1) := by decide +kernel
theorem dX8_tongue_23 : decode cX8_tongue 23 = .ok (.iconst 1, 1) := by decide +kernel
theorem dX8_tongue_24 : decode cX8_tongue 24 = .ok (.bipush 100, 2) := by decide +kernel
theorem dX8_tongue_26 : decode cX8_tongue 26 = .ok (.invokestatic 91, 3) := by decide +kernel
theorem dX8_tongue_29 : decode cX8_tongue 29 = .ok (.ifCond .eq 7, 3) := by decide +kernel
theorem dX8_tongue_32 : decode cX8_tongue 32 = .ok (.iconst 0, 1) := by decide +kernel
theorem dX8_tongue_33 : decode cX8_tongue 33 = .ok (.goto 4, 3) := by decide +kernel
theorem dX8_tongue_36 : decode cX8_tongue 36 = .ok (.iconst 1, 1) := by decide +kernel
theorem dX8_tongue_37 : decode cX8_tongue 37 = .ok (.putfield 85, 3) := by decide +kernel
theorem dX8_tongue_40 : decode cX8_tongue 40 = .ok (.iconst 0, 1) := by decide +kernel
theorem dX8_tongue_41 : decode cX8_tongue 41 = .ok (.istore 4, 2) := by decide +kernel
theorem dX8_tongue_43 : decode cX8_tongue 43 = .ok (.iconst 0, 1) := by decide +kernel
theorem dX8_tongue_44 : decode cX8_tongue 44 = .ok (.istore 5, 2) := by decide +kernel
theorem dX8_tongue_46 : decode cX8_tongue 46 = .ok (.iload 5, 2) := by decide +kernel
theorem dX8_tongue_48 : decode cX8_tongue 48 = .ok (.sipush 1000, 3) := by decide +kernel
theorem dX8_tongue_51 : decode cX8_tongue 51 = .ok (.if_icmp .ge 49, 3) := by decide +kernel
theorem dX8_tongue_54 : decode cX8_tongue 54 = .ok (.aload_n 0, 1) := by decide +kernel
theorem dX8_tongue_55 : decode cX8_tongue 55 = .ok (.getfield 85, 3) := by decide +kernel
theorem dX8_tongue_58 : decode cX8_tongue 58 = .ok (.ifCond .ne 42, 3) := by decide +kernel
theorem dX8_tongue_61 : decode cX8_tongue 61 = .ok (.aload_n 0, 1) := by decide +kernel
theorem dX8_tongue_62 : decode cX8_tongue 62 = .ok (.iload 5, 2) := by decide +kernel
theorem dX8_tongue_64 : decode cX8_tongue 64 = .ok (.iload_n 1, 1) := by decide +kernel
theorem dX8_tongue_65 : decode cX8_tongue 65 = .ok (.iconst 0, 1) := by decide +kernel
theorem dX8_tongue_66 : decode cX8_tongue 66 = .ok (.invokevirtual 168, 3) := by decide +kernel
theorem dX8_tongue_69 : decode cX8_tongue 69 = .ok (.iload 4, 2) := by decide +kernel
theorem dX8_tongue_71 : decode cX8_tongue 71 = .ok (.aload_n 0, 1) := by decide +kernel
theorem dX8_tongue_72 : decode cX8_tongue 72 = .ok (.getfield 162, 3) := by decide +kernel
theorem dX8_tongue_75 : decode cX8_tongue 75 = .ok (.iload_n 3, 1) := by decide +kernel
theorem dX8_tongue_76 : decode cX8_tongue 76 = .ok (.imul, 1) := by decide +kernel
theorem dX8_tongue_77 : decode cX8_tongue 77 = .ok (.iload_n 2, 1) := by decide +kernel
theorem dX8_tongue_78 : decode cX8_tongue 78 = .ok (.aload_n 0, 1) := by decide +kernel
theorem dX8_tongue_79 : decode cX8_tongue 79 = .ok (.getfield 159, 3) := by decide +kernel
theorem dX8_tongue_82 : decode cX8_tongue 82 = .ok (.imul, 1) := by decide +kernel
theorem dX8_tongue_83 : decode cX8_tongue 83 = .ok (.if_icmp .ne 7, 3) := by decide +kernel
theorem dX8_tongue_86 : decode cX8_tongue 86 = .ok (.iconst 1, 1) := by decide +kernel
theorem dX8_tongue_87 : decode cX8_tongue 87 = .ok (.goto 4, 3) := by decide +kernel
theorem dX8_tongue_90 : decode cX8_tongue 90 = .ok (.iconst 0, 1) := by decide +kernel
theorem dX8_tongue_91 : decode cX8_tongue 91 = .ok (.iadd, 1) := by decide +kernel
theorem dX8_tongue_92 : decode cX8_tongue 92 = .ok (.istore 4, 2) := by decide +kernel
theorem dX8_tongue_94 : decode cX8_tongue 94 = .ok (.iinc 5 1, 3) := by decide +kernel
theorem dX8_tongue_97 : decode cX8_tongue 97 = .ok (.goto (-51), 3) := by decide +kernel
theorem dX8_tongue_100 : decode cX8_tongue 100 = .ok (.iload 4, 2) := by decide +kernel
theorem dX8_tongue_102 : decode cX8_tongue 102 = .ok (.ireturn, 1) := by decide +kernel
set_option maxRecDepth 20000 in
theorem ggX8_meets_X8_isIn : GoodIn wsX8_meets wsX8_isIn := goodIn_r _ [7] (by decide +kernel) (by decide +kernel)
set_option maxRecDepth 20000 in
theorem gX8_meets_X8_isIn : GoodIn wsX8_meets (va_wsS RX8 91 yX8_isIn wsX8_isIn) := goodIn_app (goodIn_of _ (by decide +kernel)) ggX8_meets_X8_isIn
theorem dX8_meets_0 : decode cX8_meets 0 = .ok (.aload_n 0, 1) := by decide +kernel
theorem dX8_meets_1 : decode cX8_meets 1 = .ok (.iload_n 1, 1) := by decide +kernel
theorem dX8_meets_2 : decode cX8_meets 2 = .ok (.iload 4, 2) := by decide +kernel
theorem dX8_meets_4 : decode cX8_meets 4 = .ok (.ldc 172, 2) := by decide +kernel
theorem dX8_meets_6 : decode cX8_meets 6 = .ok (.invokestatic 91, 3) := by decide +kernel
theorem dX8_meets_9 : decode cX8_meets 9 = .ok (.ifCond .eq 28, 3) := by decide +kernel
theorem dX8_meets_12 : decode cX8_meets 12 = .ok (.iload_n 2, 1) := by decide +kernel
theorem dX8_meets_13 : decode cX8_meets 13 = .ok (.iload 4, 2) := by decide +kernel
theorem dX8_meets_15 : decode cX8_meets 15 = .ok (.ldc 172, 2) := by decide +kernel
theorem dX8_meets_17 : decode cX8_meets 17 = .ok (.invokestatic 91, 3) := by decide +kernel
theorem dX8_meets_20 : decode cX8_meets 20 = .ok (.ifCond .eq 17, 3) := by decide +kernel
theorem dX8_meets_23 : decode cX8_meets 23 = .ok (.iload_n 3, 1) := by decide +kernel
theorem dX8_meets_24 : decode cX8_meets 24 = .ok (.iconst 0, 1) := by decide +kernel
theorem dX8_meets_25 : decode cX8_meets 25 = .ok (.ldc 96, 2) := by decide +kernel
theorem dX8_meets_27 : decode cX8_meets 27 = .ok (.invokestatic 91, 3) := by decide +kernel
theorem dX8_meets_30 : decode cX8_meets 30 = .ok (.ifCond .eq 7, 3) := by decide +kernel
theorem dX8_meets_33 : decode cX8_meets 33 = .ok (.iconst 0, 1) := by decide +kernel
theorem dX8_meets_34 : decode cX8_meets 34 = .ok (.goto 4, 3) := by decide +kernel
theorem dX8_meets_37 : decode cX8_meets 37 = .ok (.iconst 1, 1) := by decide +kernel
theorem dX8_meets_38 : decode cX8_meets 38 = .ok (.putfield 85, 3) := by decide +kernel
theorem dX8_meets_41 : decode cX8_meets 41 = .ok (.iconst 0, 1) := by decide +kernel
theorem dX8_meets_42 : decode cX8_meets 42 = .ok (.istore 5, 2) := by decide +kernel
theorem dX8_meets_44 : decode cX8_meets 44 = .ok (.iconst 1, 1) := by decide +kernel
theorem dX8_meets_45 : decode cX8_meets 45 = .ok (.istore 6, 2) := by decide +kernel
theorem dX8_meets_47 : decode cX8_meets 47 = .ok (.iload 6, 2) := by decide +kernel
theorem dX8_meets_49 : decode cX8_meets 49 = .ok (.sipush 5000, 3) := by decide +kernel
theorem dX8_meets_52 : decode cX8_meets 52 = .ok (.if_icmp .gt 45, 3) := by decide +kernel
theorem dX8_meets_55 : decode cX8_meets 55 = .ok (.aload_n 0, 1) := by decide +kernel
theorem dX8_meets_56 : decode cX8_meets 56 = .ok (.getfield 85, 3) := by decide +kernel
theorem dX8_meets_59 : decode cX8_meets 59 = .ok (.ifCond .ne 38, 3) := by decide +kernel
theorem dX8_meets_62 : decode cX8_meets 62 = .ok (.iload 5, 2) := by decide +kernel
theorem dX8_meets_64 : decode cX8_meets 64 = .ok (.i2l, 1) := by decide +kernel
theorem dX8_meets_65 : decode cX8_meets 65 = .ok (.iload_n 1, 1) := by decide +kernel
theorem dX8_meets_66 : decode cX8_meets 66 = .ok (.i2l, 1) := by decide +kernel
theorem dX8_meets_67 : decode cX8_meets 67 = .ok (.ladd, 1) := by decide +kernel
theorem dX8_meets_68 : decode cX8_meets 68 = .ok (.iload_n 2, 1) := by decide +kernel
theorem dX8_meets_69 : decode cX8_meets 69 = .ok (.i2l, 1) := by decide +kernel
theorem dX8_meets_70 : decode cX8_meets 70 = .ok (.lrem, 1) := by decide +kernel
theorem dX8_meets_71 : decode cX8_meets 71 = .ok (.l2i, 1) := by decide +kernel
theorem dX8_meets_72 : decode cX8_meets 72 = .ok (.istore 5, 2) := by decide +kernel
theorem dX8_meets_74 : decode cX8_meets 74 = .ok (.iload 5, 2) := by decide +kernel
theorem dX8_meets_76 : decode cX8_meets 76 = .ok (.iload_n 3, 1) := by decide +kernel
theorem dX8_meets_77 : decode cX8_meets 77 = .ok (.if_icmp .le 11, 3) := by decide +kernel
theorem dX8_meets_80 : decode cX8_meets 80 = .ok (.iload_n 2, 1) := by decide +kernel
theorem dX8_meets_81 : decode cX8_meets 81 = .ok (.iload 5, 2) := by decide +kernel
theorem dX8_meets_83 : decode cX8_meets 83 = .ok (.isub, 1) := by decide +kernel
theorem dX8_meets_84 : decode cX8_meets 84 = .ok (.iload_n 3, 1) := by decide +kernel
theorem dX8_meets_85 : decode cX8_meets 85 = .ok (.if_icmp .gt 6, 3) := by decide +kernel
theorem dX8_meets_88 : decode cX8_meets 88 = .ok (.iload 6, 2) := by decide +kernel
theorem dX8_meets_90 : decode cX8_meets 90 = .ok (.ireturn, 1) := by decide +kernel
theorem dX8_meets_91 : decode cX8_meets 91 = .ok (.iinc 6 1, 3) := by decide +kernel
theorem dX8_meets_94 : decode cX8_meets 94 = .ok (.goto (-47), 3) := by decide +kernel
theorem dX8_meets_97 : decode cX8_meets 97 = .ok (.aload_n 0, 1) := by decide +kernel
theorem dX8_meets_98 : decode cX8_meets 98 = .ok (.getfield 85, 3) := by decide +kernel
theorem dX8_meets_101 : decode cX8_meets 101 = .ok (.ifCond .le 7, 3) := by decide +kernel
theorem dX8_meets_104 : decode cX8_meets 104 = .ok (.iconst 0, 1) := by decide +kernel
theorem dX8_meets_105 : decode cX8_meets 105 = .ok (.goto 4, 3) := by decide +kernel
theorem dX8_meets_108 : decode cX8_meets 108 = .ok (.iconst (-1), 1) := by decide +kernel
theorem dX8_meets_109 : decode cX8_meets 109 = .ok (.ireturn, 1) := by decide +kernel
set_option maxRecDepth 20000 in
theorem ggX8_together_X8_meets : GoodIn wsX8_together wsX8_meets := goodIn_r _ [5, 6, 7, 8, 9, 10, 4, 11, 12, 13, 14, 15, 16, 17, 18, 19, 20, 21, 22, 23, 24, 25, 26, 27, 28, 29, 30, 31, 32, 33, 34, 35, 36, 37, 38, 39, 40, 41, 42, 43, 44, 45, 46, 47, 48, 49] (by decide +kernel) (by decide +kernel)
set_option maxRecDepth 20000 in
theorem gX8_together_X8_meets : GoodIn wsX8_together (wsV RX8 173 RX8 yX8_meets wsX8_meets) := goodIn_app (goodIn_of _ (by decide +kernel)) ggX8_together_X8_meets
theorem dX8_together_0 : decode cX8_together 0 = .ok (.aload_n 0, 1) := by decide +kernel
theorem dX8_together_1 : decode cX8_together 1 = .ok (.iload_n 1, 1) := by decide +kernel
theorem dX8_together_2 : decode cX8_together 2 = .ok (.iload_n 2, 1) := by decide +kernel
theorem dX8_together_3 : decode cX8_together 3 = .ok (.iload_n 3, 1) := by decide +kernel
theorem dX8_together_4 : decode cX8_together 4 = .ok (.iconst 1, 1) := by decide +kernel
theorem dX8_together_5 : decode cX8_together 5 = .ok (.invokevirtual 173, 3) := by decide +kernel
theorem dX8_together_8 : decode cX8_together 8 = .ok (.ireturn, 1) := by decide +kernel
set_option maxRecDepth 20000 in
theorem ggX8_togetherAnew_X8_meets : GoodIn wsX8_togetherAnew wsX8_meets := goodIn_r _ [6, 7, 8, 9, 10, 11, 5, 12, 13, 14, 15, 16, 17, 18, 19, 20, 21, 22, 23, 24, 25, 26, 27, 28, 29, 30, 31, 32, 33, 34, 35, 36, 37, 38, 39, 40, 41, 42, 43, 44, 45, 46, 47, 48, 49, 50] (by decide +kernel) (by decide +kernel)
set_option maxRecDepth 20000 in
theorem gX8_togetherAnew_X8_meets : GoodIn wsX8_togetherAnew (wsV RX8 173 RX8 yX8_meets wsX8_meets) := goodIn_app (goodIn_of _ (by decide +kernel)) ggX8_togetherAnew_X8_meets
theorem dX8_togetherAnew_0 : decode cX8_togetherAnew 0 = .ok (.aload_n 0, 1) := by decide +kernel
theorem dX8_togetherAnew_1 : decode cX8_togetherAnew 1 = .ok (.iload_n 1, 1) := by decide +kernel
theorem dX8_togetherAnew_2 : decode cX8_togetherAnew 2 = .ok (.iload_n 2, 1) := by decide +kernel
theorem dX8_togetherAnew_3 : decode cX8_togetherAnew 3 = .ok (.iload_n 3, 1) := by decide +kernel
theorem dX8_togetherAnew_4 : decode cX8_togetherAnew 4 = .ok (.ldc 177, 2) := by decide +kernel
theorem dX8_togetherAnew_6 : decode cX8_togetherAnew 6 = .ok (.invokevirtual 173, 3) := by decide +kernel
theorem dX8_togetherAnew_9 : decode cX8_togetherAnew 9 = .ok (.ireturn, 1) := by decide +kernel
set_option maxRecDepth 20000 in
theorem ggX8_datum_X8_isStation : GoodIn wsX8_datum wsX8_isStation := goodIn_r _ [9, 10, 11, 8, 12] (by decide +kernel) (by decide +kernel)
set_option maxRecDepth 20000 in
theorem gX8_datum_X8_isStation : GoodIn wsX8_datum (va_wsS RX8 178 yX8_isStation wsX8_isStation) := goodIn_app (goodIn_of _ (by decide +kernel)) ggX8_datum_X8_isStation
set_option maxRecDepth 20000 in
theorem ggX8_datum_X8_isIn : GoodIn wsX8_datum wsX8_isIn := goodIn_r _ [12] (by decide +kernel) (by decide +kernel)
set_option maxRecDepth 20000 in
theorem gX8_datum_X8_isIn : GoodIn wsX8_datum (va_wsS RX8 91 yX8_isIn wsX8_isIn) := goodIn_app (goodIn_of _ (by decide +kernel)) ggX8_datum_X8_isIn
theorem dX8_datum_0 : decode cX8_datum 0 = .ok (.aload_n 0, 1) := by decide +kernel
theorem dX8_datum_1 : decode cX8_datum 1 = .ok (.iload_n 1, 1) := by decide +kernel
theorem dX8_datum_2 : decode cX8_datum 2 = .ok (.invokestatic 178, 3) := by decide +kernel
theorem dX8_datum_5 : decode cX8_datum 5 = .ok (.ifCond .ne 7, 3) := by decide +kernel
theorem dX8_datum_8 : decode cX8_datum 8 = .ok (.iconst 1, 1) := by decide +kernel
theorem dX8_datum_9 : decode cX8_datum 9 = .ok (.goto 19, 3) := by decide +kernel
theorem dX8_datum_12 : decode cX8_datum 12 = .ok (.iload_n 2, 1) := by decide +kernel
theorem dX8_datum_13 : decode cX8_datum 13 = .ok (.ldc 95, 2) := by decide +kernel
theorem dX8_datum_15 : decode cX8_datum 15 = .ok (.ldc 96, 2) := by decide +kernel
theorem dX8_datum_17 : decode cX8_datum 17 = .ok (.invokestatic 91, 3) := by decide +kernel
theorem dX8_datum_20 : decode cX8_datum 20 = .ok (.ifCond .ne 7, 3) := by decide +kernel
theorem dX8_datum_23 : decode cX8_datum 23 = .ok (.iconst 2, 1) := by decide +kernel
theorem dX8_datum_24 : decode cX8_datum 24 = .ok (.goto 4, 3) := by decide +kernel
theorem dX8_datum_27 : decode cX8_datum 27 = .ok (.iconst 0, 1) := by decide +kernel
theorem dX8_datum_28 : decode cX8_datum 28 = .ok (.putfield 85, 3) := by decide +kernel
theorem dX8_datum_31 : decode cX8_datum 31 = .ok (.aload_n 0, 1) := by decide +kernel
theorem dX8_datum_32 : decode cX8_datum 32 = .ok (.getfield 85, 3) := by decide +kernel
theorem dX8_datum_35 : decode cX8_datum 35 = .ok (.ifCond .ne 13, 3) := by decide +kernel
theorem dX8_datum_38 : decode cX8_datum 38 = .ok (.aload_n 0, 1) := by decide +kernel
theorem dX8_datum_39 : decode cX8_datum 39 = .ok (.iload_n 1, 1) := by decide +kernel
theorem dX8_datum_40 : decode cX8_datum 40 = .ok (.putfield 181, 3) := by decide +kernel
theorem dX8_datum_43 : decode cX8_datum 43 = .ok (.aload_n 0, 1) := by decide +kernel
theorem dX8_datum_44 : decode cX8_datum 44 = .ok (.iload_n 2, 1) := by decide +kernel
theorem dX8_datum_45 : decode cX8_datum 45 = .ok (.putfield 184, 3) := by decide +kernel
theorem dX8_datum_48 : decode cX8_datum 48 = .ok (.return_, 1) := by decide +kernel
set_option maxRecDepth 20000 in
theorem ggX8_read_X8_isIn : GoodIn wsX8_read wsX8_isIn := goodIn_r _ [11] (by decide +kernel) (by decide +kernel)
set_option maxRecDepth 20000 in
theorem gX8_read_X8_isIn : GoodIn wsX8_read (va_wsS RX8 91 yX8_isIn wsX8_isIn) := goodIn_app (goodIn_of _ (by decide +kernel)) ggX8_read_X8_isIn
set_option maxRecDepth 20000 in
theorem ggX8_read_X8_isStation : GoodIn wsX8_read wsX8_isStation := goodIn_r _ [14, 8, 9, 10, 11] (by decide +kernel) (by decide +kernel)
set_option maxRecDepth 20000 in
theorem gX8_read_X8_isStation : GoodIn wsX8_read (va_wsS RX8 178 yX8_isStation wsX8_isStation) := goodIn_app (goodIn_of _ (by decide +kernel)) ggX8_read_X8_isStation
theorem dX8_read_0 : decode cX8_read 0 = .ok (.aload_n 0, 1) := by decide +kernel
theorem dX8_read_1 : decode cX8_read 1 = .ok (.getfield 187, 3) := by decide +kernel
theorem dX8_read_4 : decode cX8_read 4 = .ok (.ifCond .eq 18, 3) := by decide +kernel
theorem dX8_read_7 : decode cX8_read 7 = .ok (.iload_n 2, 1) := by decide +kernel
theorem dX8_read_8 : decode cX8_read 8 = .ok (.aload_n 0, 1) := by decide +kernel
theorem dX8_read_9 : decode cX8_read 9 = .ok (.getfield 49, 3) := by decide +kernel
theorem dX8_read_12 : decode cX8_read 12 = .ok (.aload_n 0, 1) := by decide +kernel
theorem dX8_read_13 : decode cX8_read 13 = .ok (.getfield 187, 3) := by decide +kernel
theorem dX8_read_16 : decode cX8_read 16 = .ok (.iconst 1, 1) := by decide +kernel
theorem dX8_read_17 : decode cX8_read 17 = .ok (.isub, 1) := by decide +kernel
theorem dX8_read_18 : decode cX8_read 18 = .ok (.iaload, 1) := by decide +kernel
theorem dX8_read_19 : decode cX8_read 19 = .ok (.if_icmp .le 7, 3) := by decide +kernel
theorem dX8_read_22 : decode cX8_read 22 = .ok (.iconst 1, 1) := by decide +kernel
theorem dX8_read_23 : decode cX8_read 23 = .ok (.goto 4, 3) := by decide +kernel
theorem dX8_read_26 : decode cX8_read 26 = .ok (.iconst 0, 1) := by decide +kernel
theorem dX8_read_27 : decode cX8_read 27 = .ok (.istore 4, 2) := by decide +kernel
theorem dX8_read_29 : decode cX8_read 29 = .ok (.iload_n 2, 1) := by decide +kernel
theorem dX8_read_30 : decode cX8_read 30 = .ok (.iconst 0, 1) := by decide +kernel
theorem dX8_read_31 : decode cX8_read 31 = .ok (.sipush 10000, 3) := by decide +kernel
theorem dX8_read_34 : decode cX8_read 34 = .ok (.invokestatic 91, 3) := by decide +kernel
theorem dX8_read_37 : decode cX8_read 37 = .ok (.ifCond .eq 23, 3) := by decide +kernel
theorem dX8_read_40 : decode cX8_read 40 = .ok (.iload_n 3, 1) := by decide +kernel
