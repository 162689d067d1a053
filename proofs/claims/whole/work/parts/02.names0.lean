theorem dX0_allShares_0 : decode cX0_allShares 0 = .ok (.lconst 1, 1) := by decide +kernel
theorem dX0_allShares_1 : decode cX0_allShares 1 = .ok (.lstore_n 1, 1) := by decide +kernel
theorem dX0_allShares_2 : decode cX0_allShares 2 = .ok (.iconst 0, 1) := by decide +kernel
theorem dX0_allShares_3 : decode cX0_allShares 3 = .ok (.istore_n 3, 1) := by decide +kernel
theorem dX0_allShares_4 : decode cX0_allShares 4 = .ok (.iload_n 3, 1) := by decide +kernel
theorem dX0_allShares_5 : decode cX0_allShares 5 = .ok (.iload_n 0, 1) := by decide +kernel
theorem dX0_allShares_6 : decode cX0_allShares 6 = .ok (.if_icmp .ge 20, 3) := by decide +kernel
theorem dX0_allShares_9 : decode cX0_allShares 9 = .ok (.iload_n 3, 1) := by decide +kernel
theorem dX0_allShares_10 : decode cX0_allShares 10 = .ok (.iconst 3, 1) := by decide +kernel
theorem dX0_allShares_11 : decode cX0_allShares 11 = .ok (.if_icmp .ge 15, 3) := by decide +kernel
theorem dX0_allShares_14 : decode cX0_allShares 14 = .ok (.lload_n 1, 1) := by decide +kernel
theorem dX0_allShares_15 : decode cX0_allShares 15 = .ok (.ldc2_w 11, 3) := by decide +kernel
theorem dX0_allShares_18 : decode cX0_allShares 18 = .ok (.lmul, 1) := by decide +kernel
theorem dX0_allShares_19 : decode cX0_allShares 19 = .ok (.lstore_n 1, 1) := by decide +kernel
theorem dX0_allShares_20 : decode cX0_allShares 20 = .ok (.iinc 3 1, 3) := by decide +kernel
theorem dX0_allShares_23 : decode cX0_allShares 23 = .ok (.goto (-19), 3) := by decide +kernel
theorem dX0_allShares_26 : decode cX0_allShares 26 = .ok (.lload_n 1, 1) := by decide +kernel
theorem dX0_allShares_27 : decode cX0_allShares 27 = .ok (.lreturn, 1) := by decide +kernel
set_option maxRecDepth 20000 in
theorem ggX0_shares_X0_sum : GoodIn wsX0_shares wsX0_sum := goodIn_r _ [4, 5, 6, 7, 8, 9, 10, 11, 12, 13, 14, 15, 16, 17, 3, 18, 19, 20, 21, 22, 23, 24, 25, 26, 27, 28, 29, 30, 31, 32, 33, 34, 35, 36, 37, 38, 39, 40, 41, 42, 43, 44, 45, 46, 47, 48, 49, 50, 51, 52, 53, 54, 55, 56, 57, 58, 59, 60, 61, 62, 63, 64, 65, 66, 67, 68, 1, 2, 69, 70, 71, 72, 73, 74, 75] (by decide +kernel) (by decide +kernel)
set_option maxRecDepth 20000 in
theorem gX0_shares_X0_sum : GoodIn wsX0_shares (va_wsS RX0 13 yX0_sum wsX0_sum) := goodIn_app (goodIn_of _ (by decide +kernel)) ggX0_shares_X0_sum
theorem dX0_shares_0 : decode cX0_shares 0 = .ok (.iload_n 2, 1) := by decide +kernel
theorem dX0_shares_1 : decode cX0_shares 1 = .ok (.ifCond .lt 8, 3) := by decide +kernel
theorem dX0_shares_4 : decode cX0_shares 4 = .ok (.iload_n 2, 1) := by decide +kernel
theorem dX0_shares_5 : decode cX0_shares 5 = .ok (.iconst 3, 1) := by decide +kernel
theorem dX0_shares_6 : decode cX0_shares 6 = .ok (.if_icmp .le 7, 3) := by decide +kernel
theorem dX0_shares_9 : decode cX0_shares 9 = .ok (.lconst 0, 1) := by decide +kernel
theorem dX0_shares_10 : decode cX0_shares 10 = .ok (.goto 9, 3) := by decide +kernel
theorem dX0_shares_13 : decode cX0_shares 13 = .ok (.aload_n 0, 1) := by decide +kernel
theorem dX0_shares_14 : decode cX0_shares 14 = .ok (.iload_n 1, 1) := by decide +kernel
theorem dX0_shares_15 : decode cX0_shares 15 = .ok (.iload_n 2, 1) := by decide +kernel
theorem dX0_shares_16 : decode cX0_shares 16 = .ok (.invokestatic 13, 3) := by decide +kernel
theorem dX0_shares_19 : decode cX0_shares 19 = .ok (.lreturn, 1) := by decide +kernel
set_option maxRecDepth 20000 in
theorem ggX0_sum_X9_isLowest : GoodIn wsX0_sum wsX9_isLowest := goodIn_r _ [6, 7, 8, 9, 10, 11, 69, 70, 71, 72, 73, 74] (by decide +kernel) (by decide +kernel)
set_option maxRecDepth 20000 in
theorem gX0_sum_X9_isLowest : GoodIn wsX0_sum (wsV RX0 17 RX9 yX9_isLowest wsX9_isLowest) := goodIn_app (goodIn_of _ (by decide +kernel)) ggX0_sum_X9_isLowest
set_option maxRecDepth 20000 in
theorem ggX0_sum_X0_waiting : GoodIn wsX0_sum wsX0_waiting := goodIn_r _ [15, 16, 17, 18, 5, 19, 7, 9, 10, 11, 69, 70, 71, 72, 73, 74] (by decide +kernel) (by decide +kernel)
set_option maxRecDepth 20000 in
theorem gX0_sum_X0_waiting : GoodIn wsX0_sum (va_wsS RX0 23 yX0_waiting wsX0_waiting) := goodIn_app (goodIn_of _ (by decide +kernel)) ggX0_sum_X0_waiting
set_option maxRecDepth 20000 in
theorem ggX0_sum_X9_isTaken : GoodIn wsX0_sum wsX9_isTaken := goodIn_r _ [23, 24, 8, 9, 10, 11, 69, 70, 71, 72, 73, 74] (by decide +kernel) (by decide +kernel)
set_option maxRecDepth 20000 in
theorem gX0_sum_X9_isTaken : GoodIn wsX0_sum (wsV RX0 27 RX9 yX9_isTaken wsX9_isTaken) := goodIn_app (goodIn_of _ (by decide +kernel)) ggX0_sum_X9_isTaken
set_option maxRecDepth 20000 in
theorem ggX0_sum_X0_sumLetGo : GoodIn wsX0_sum wsX0_sumLetGo := goodIn_r _ [41, 42, 43, 44, 5, 45, 8, 46, 47, 48, 49, 24, 50, 51, 52, 9, 10, 11, 53, 54, 55, 56, 57, 58, 59, 60, 61, 62, 63, 64, 65, 66, 67, 14, 68, 0, 1, 2, 3, 4, 6, 7, 12, 13, 15, 16, 17, 18, 19, 20, 21, 22, 23, 25, 26, 27, 28, 29, 30, 31, 32, 33, 34, 35, 36, 37, 38, 39, 40, 69, 70, 71, 72, 73, 74] (by decide +kernel) (by decide +kernel)
set_option maxRecDepth 20000 in
theorem gX0_sum_X0_sumLetGo : GoodIn wsX0_sum (va_wsS RX0 31 yX0_sumLetGo wsX0_sumLetGo) := goodIn_app (goodIn_of _ (by decide +kernel)) ggX0_sum_X0_sumLetGo
set_option maxRecDepth 20000 in
theorem ggX0_sum_X9_lowest : GoodIn wsX0_sum wsX9_lowest := goodIn_r _ [30, 8, 69, 70, 71, 72, 73, 74] (by decide +kernel) (by decide +kernel)
set_option maxRecDepth 20000 in
theorem gX0_sum_X9_lowest : GoodIn wsX0_sum (wsV RX0 34 RX9 yX9_lowest wsX9_lowest) := goodIn_app (goodIn_of _ (by decide +kernel)) ggX0_sum_X9_lowest
set_option maxRecDepth 20000 in
theorem ggX0_sum_X9_isAboard : GoodIn wsX0_sum wsX9_isAboard := goodIn_r _ [19, 7, 9, 10, 11, 69, 70, 71, 72, 73, 74] (by decide +kernel) (by decide +kernel)
set_option maxRecDepth 20000 in
theorem gX0_sum_X9_isAboard : GoodIn wsX0_sum (wsV RX0 38 RX9 yX9_isAboard wsX9_isAboard) := goodIn_app (goodIn_of _ (by decide +kernel)) ggX0_sum_X9_isAboard
set_option maxRecDepth 20000 in
theorem ggX0_sum_X9_seat : GoodIn wsX0_sum wsX9_seat := goodIn_r _ [34, 24, 7, 35, 10, 36, 69, 70, 71, 72, 73, 74] (by decide +kernel) (by decide +kernel)
set_option maxRecDepth 20000 in
theorem gX0_sum_X9_seat : GoodIn wsX0_sum (wsV RX0 41 RX9 yX9_seat wsX9_seat) := goodIn_app (goodIn_of _ (by decide +kernel)) ggX0_sum_X9_seat
set_option maxRecDepth 20000 in
theorem ggX0_sum_X9_unseat : GoodIn wsX0_sum wsX9_unseat := goodIn_r _ [40, 7, 24, 9, 10, 11, 35, 36, 69, 70, 71, 72, 73, 74] (by decide +kernel) (by decide +kernel)
set_option maxRecDepth 20000 in
theorem gX0_sum_X9_unseat : GoodIn wsX0_sum (wsV RX0 45 RX9 yX9_unseat wsX9_unseat) := goodIn_app (goodIn_of _ (by decide +kernel)) ggX0_sum_X9_unseat
theorem dX0_sum_0 : decode cX0_sum 0 = .ok (.iload_n 2, 1) := by decide +kernel
theorem dX0_sum_1 : decode cX0_sum 1 = .ok (.ifCond .gt 17, 3) := by decide +kernel
theorem dX0_sum_4 : decode cX0_sum 4 = .ok (.aload_n 0, 1) := by decide +kernel
theorem dX0_sum_5 : decode cX0_sum 5 = .ok (.iload_n 1, 1) := by decide +kernel
theorem dX0_sum_6 : decode cX0_sum 6 = .ok (.invokevirtual 17, 3) := by decide +kernel
theorem dX0_sum_9 : decode cX0_sum 9 = .ok (.ifCond .eq 7, 3) := by decide +kernel
theorem dX0_sum_12 : decode cX0_sum 12 = .ok (.lconst 1, 1) := by decide +kernel
theorem dX0_sum_13 : decode cX0_sum 13 = .ok (.goto 4, 3) := by decide +kernel
theorem dX0_sum_16 : decode cX0_sum 16 = .ok (.lconst 0, 1) := by decide +kernel
theorem dX0_sum_17 : decode cX0_sum 17 = .ok (.lreturn, 1) := by decide +kernel
theorem dX0_sum_18 : decode cX0_sum 18 = .ok (.aload_n 0, 1) := by decide +kernel
theorem dX0_sum_19 : decode cX0_sum 19 = .ok (.invokestatic 23, 3) := by decide +kernel
theorem dX0_sum_22 : decode cX0_sum 22 = .ok (.istore_n 3, 1) := by decide +kernel
theorem dX0_sum_23 : decode cX0_sum 23 = .ok (.aload_n 0, 1) := by decide +kernel
theorem dX0_sum_24 : decode cX0_sum 24 = .ok (.invokevirtual 27, 3) := by decide +kernel
theorem dX0_sum_27 : decode cX0_sum 27 = .ok (.ifCond .ne 7, 3) := by decide +kernel
theorem dX0_sum_30 : decode cX0_sum 30 = .ok (.iload_n 3, 1) := by decide +kernel
theorem dX0_sum_31 : decode cX0_sum 31 = .ok (.ifCond .gt 14, 3) := by decide +kernel
theorem dX0_sum_34 : decode cX0_sum 34 = .ok (.ldc2_w 11, 3) := by decide +kernel
theorem dX0_sum_37 : decode cX0_sum 37 = .ok (.aload_n 0, 1) := by decide +kernel
theorem dX0_sum_38 : decode cX0_sum 38 = .ok (.iload_n 1, 1) := by decide +kernel
theorem dX0_sum_39 : decode cX0_sum 39 = .ok (.iload_n 2, 1) := by decide +kernel
theorem dX0_sum_40 : decode cX0_sum 40 = .ok (.invokestatic 31, 3) := by decide +kernel
theorem dX0_sum_43 : decode cX0_sum 43 = .ok (.lmul, 1) := by decide +kernel
theorem dX0_sum_44 : decode cX0_sum 44 = .ok (.lreturn, 1) := by decide +kernel
theorem dX0_sum_45 : decode cX0_sum 45 = .ok (.aload_n 0, 1) := by decide +kernel
theorem dX0_sum_46 : decode cX0_sum 46 = .ok (.invokevirtual 34, 3) := by decide +kernel
theorem dX0_sum_49 : decode cX0_sum 49 = .ok (.istore 4, 2) := by decide +kernel
theorem dX0_sum_51 : decode cX0_sum 51 = .ok (.lconst 0, 1) := by decide +kernel
theorem dX0_sum_52 : decode cX0_sum 52 = .ok (.lstore 5, 2) := by decide +kernel
theorem dX0_sum_54 : decode cX0_sum 54 = .ok (.iconst 0, 1) := by decide +kernel
theorem dX0_sum_55 : decode cX0_sum 55 = .ok (.istore 7, 2) := by decide +kernel
theorem dX0_sum_57 : decode cX0_sum 57 = .ok (.iload 7, 2) := by decide +kernel
theorem dX0_sum_59 : decode cX0_sum 59 = .ok (.bipush 8, 2) := by decide +kernel
theorem dX0_sum_61 : decode cX0_sum 61 = .ok (.if_icmp .ge 43, 3) := by decide +kernel
theorem dX0_sum_64 : decode cX0_sum 64 = .ok (.aload_n 0, 1) := by decide +kernel
theorem dX0_sum_65 : decode cX0_sum 65 = .ok (.iload 7, 2) := by decide +kernel
theorem dX0_sum_67 : decode cX0_sum 67 = .ok (.invokevirtual 38, 3) := by decide +kernel
theorem dX0_sum_70 : decode cX0_sum 70 = .ok (.ifCond .ne 28, 3) := by decide +kernel
theorem dX0_sum_73 : decode cX0_sum 73 = .ok (.aload_n 0, 1) := by decide +kernel
theorem dX0_sum_74 : decode cX0_sum 74 = .ok (.iload 7, 2) := by decide +kernel
theorem dX0_sum_76 : decode cX0_sum 76 = .ok (.iload 4, 2) := by decide +kernel
theorem dX0_sum_78 : decode cX0_sum 78 = .ok (.invokevirtual 41, 3) := by decide +kernel
theorem dX0_sum_81 : decode cX0_sum 81 = .ok (.lload 5, 2) := by decide +kernel
theorem dX0_sum_83 : decode cX0_sum 83 = .ok (.aload_n 0, 1) := by decide +kernel
theorem dX0_sum_84 : decode cX0_sum 84 = .ok (.iload_n 1, 1) := by decide +kernel
theorem dX0_sum_85 : decode cX0_sum 85 = .ok (.iload_n 2, 1) := by decide +kernel
theorem dX0_sum_86 : decode cX0_sum 86 = .ok (.invokestatic 31, 3) := by decide +kernel
theorem dX0_sum_89 : decode cX0_sum 89 = .ok (.ladd, 1) := by decide +kernel
theorem dX0_sum_90 : decode cX0_sum 90 = .ok (.lstore 5, 2) := by decide +kernel
theorem dX0_sum_92 : decode cX0_sum 92 = .ok (.aload_n 0, 1) := by decide +kernel
theorem dX0_sum_93 : decode cX0_sum 93 = .ok (.iload 4, 2) := by decide +kernel
theorem dX0_sum_95 : decode cX0_sum 95 = .ok (.invokevirtual 45, 3) := by decide +kernel
theorem dX0_sum_98 : decode cX0_sum 98 = .ok (.iinc 7 1, 3) := by decide +kernel
theorem dX0_sum_101 : decode cX0_sum 101 = .ok (.goto (-44), 3) := by decide +kernel
theorem dX0_sum_104 : decode cX0_sum 104 = .ok (.sipush 840, 3) := by decide +kernel
theorem dX0_sum_107 : decode cX0_sum 107 = .ok (.iload_n 3, 1) := by decide +kernel
theorem dX0_sum_108 : decode cX0_sum 108 = .ok (.idiv, 1) := by decide +kernel
theorem dX0_sum_109 : decode cX0_sum 109 = .ok (.i2l, 1) := by decide +kernel
theorem dX0_sum_110 : decode cX0_sum 110 = .ok (.lload 5, 2) := by decide +kernel
theorem dX0_sum_112 : decode cX0_sum 112 = .ok (.lmul, 1) := by decide +kernel
theorem dX0_sum_113 : decode cX0_sum 113 = .ok (.lreturn, 1) := by decide +kernel
set_option maxRecDepth 20000 in
theorem ggX0_sumLetGo_X9_letGo : GoodIn wsX0_sumLetGo wsX9_letGo := goodIn_r _ [5, 6, 7, 8, 9, 4, 10, 11, 12, 13, 14, 15, 16, 17, 18, 19, 20, 21, 22, 23, 24, 25, 26, 27, 28, 29, 30, 69, 70, 71, 72, 73, 74] (by decide +kernel) (by decide +kernel)
set_option maxRecDepth 20000 in
theorem gX0_sumLetGo_X9_letGo : GoodIn wsX0_sumLetGo (wsV RX0 49 RX9 yX9_letGo wsX9_letGo) := goodIn_app (goodIn_of _ (by decide +kernel)) ggX0_sumLetGo_X9_letGo
set_option maxRecDepth 20000 in
theorem ggX0_sumLetGo_X0_sum : GoodIn wsX0_sumLetGo wsX0_sum := goodIn_r _ [35, 36, 37, 38, 39, 4, 40, 41, 6, 15, 16, 17, 42, 43, 33, 44, 45, 46, 47, 48, 49, 50, 51, 52, 11, 53, 54, 55, 56, 57, 58, 59, 60, 61, 62, 63, 64, 65, 66, 67, 68, 0, 1, 2, 3, 5, 7, 8, 9, 10, 12, 13, 14, 18, 19, 20, 21, 22, 23, 24, 25, 26, 27, 28, 29, 30, 31, 32, 34, 69, 70, 71, 72, 73, 74] (by decide +kernel) (by decide +kernel)
set_option maxRecDepth 20000 in
theorem gX0_sumLetGo_X0_sum : GoodIn wsX0_sumLetGo (va_wsS RX0 13 yX0_sum wsX0_sum) := goodIn_app (goodIn_of _ (by decide +kernel)) ggX0_sumLetGo_X0_sum
set_option maxRecDepth 20000 in
theorem ggX0_sumLetGo_X9_turn : GoodIn wsX0_sumLetGo wsX9_turn := goodIn_r _ [30, 6, 18, 19, 20, 21, 69, 70, 71, 72, 73, 74] (by decide +kernel) (by decide +kernel)
set_option maxRecDepth 20000 in
theorem gX0_sumLetGo_X9_turn : GoodIn wsX0_sumLetGo (wsV RX0 52 RX9 yX9_turn wsX9_turn) := goodIn_app (goodIn_of _ (by decide +kernel)) ggX0_sumLetGo_X9_turn
theorem dX0_sumLetGo_0 : decode cX0_sumLetGo 0 = .ok (.aload_n 0, 1) := by decide +kernel
theorem dX0_sumLetGo_1 : decode cX0_sumLetGo 1 = .ok (.invokevirtual 49, 3) := by decide +kernel
theorem dX0_sumLetGo_4 : decode cX0_sumLetGo 4 = .ok (.istore_n 3, 1) := by decide +kernel
theorem dX0_sumLetGo_5 : decode cX0_sumLetGo 5 = .ok (.aload_n 0, 1) := by decide +kernel
theorem dX0_sumLetGo_6 : decode cX0_sumLetGo 6 = .ok (.iload_n 1, 1) := by decide +kernel
theorem dX0_sumLetGo_7 : decode cX0_sumLetGo 7 = .ok (.iload_n 2, 1) := by decide +kernel
theorem dX0_sumLetGo_8 : decode cX0_sumLetGo 8 = .ok (.iconst 1, 1) := by decide +kernel
theorem dX0_sumLetGo_9 : decode cX0_sumLetGo 9 = .ok (.isub, 1) := by decide +kernel
theorem dX0_sumLetGo_10 : decode cX0_sumLetGo 10 = .ok (.invokestatic 13, 3) := by decide +kernel
theorem dX0_sumLetGo_13 : decode cX0_sumLetGo 13 = .ok (.lstore 4, 2) := by decide +kernel
theorem dX0_sumLetGo_15 : decode cX0_sumLetGo 15 = .ok (.aload_n 0, 1) := by decide +kernel
theorem dX0_sumLetGo_16 : decode cX0_sumLetGo 16 = .ok (.iload_n 3, 1) := by decide +kernel
theorem dX0_sumLetGo_17 : decode cX0_sumLetGo 17 = .ok (.ineg, 1) := by decide +kernel
theorem dX0_sumLetGo_18 : decode cX0_sumLetGo 18 = .ok (.invokevirtual 52, 3) := by decide +kernel
theorem dX0_sumLetGo_21 : decode cX0_sumLetGo 21 = .ok (.lload 4, 2) := by decide +kernel
theorem dX0_sumLetGo_23 : decode cX0_sumLetGo 23 = .ok (.lreturn, 1) := by decide +kernel
set_option maxRecDepth 20000 in
theorem ggX0_waiting_X9_isAboard : GoodIn wsX0_waiting wsX9_isAboard := goodIn_r _ [5, 6, 7, 8, 9, 10, 11, 12, 13, 14, 15] (by decide +kernel) (by decide +kernel)
set_option maxRecDepth 20000 in
theorem gX0_waiting_X9_isAboard : GoodIn wsX0_waiting (wsV RX0 38 RX9 yX9_isAboard wsX9_isAboard) := goodIn_app (goodIn_of _ (by decide +kernel)) ggX0_waiting_X9_isAboard
theorem dX0_waiting_0 : decode cX0_waiting 0 = .ok (.iconst 0, 1) := by decide +kernel
theorem dX0_waiting_1 : decode cX0_waiting 1 = .ok (.istore_n 1, 1) := by decide +kernel
theorem dX0_waiting_2 : decode cX0_waiting 2 = .ok (.iconst 0, 1) := by decide +kernel
theorem dX0_waiting_3 : decode cX0_waiting 3 = .ok (.istore_n 2, 1) := by decide +kernel
theorem dX0_waiting_4 : decode cX0_waiting 4 = .ok (.iload_n 2, 1) := by decide +kernel
theorem dX0_waiting_5 : decode cX0_waiting 5 = .ok (.bipush 8, 2) := by decide +kernel
theorem dX0_waiting_7 : decode cX0_waiting 7 = .ok (.if_icmp .ge 20, 3) := by decide +kernel
theorem dX0_waiting_10 : decode cX0_waiting 10 = .ok (.aload_n 0, 1) := by decide +kernel
theorem dX0_waiting_11 : decode cX0_waiting 11 = .ok (.iload_n 2, 1) := by decide +kernel
theorem dX0_waiting_12 : decode cX0_waiting 12 = .ok (.invokevirtual 38, 3) := by decide +kernel
theorem dX0_waiting_15 : decode cX0_waiting 15 = .ok (.ifCond .ne 6, 3) := by decide +kernel
theorem dX0_waiting_18 : decode cX0_waiting 18 = .ok (.iinc 1 1, 3) := by decide +kernel
theorem dX0_waiting_21 : decode cX0_waiting 21 = .ok (.iinc 2 1, 3) := by decide +kernel
theorem dX0_waiting_24 : decode cX0_waiting 24 = .ok (.goto (-20), 3) := by decide +kernel
theorem dX0_waiting_27 : decode cX0_waiting 27 = .ok (.iload_n 1, 1) := by decide +kernel
theorem dX0_waiting_28 : decode cX0_waiting 28 = .ok (.ireturn, 1) := by decide +kernel
theorem dX1_howMany_0 : decode cX1_howMany 0 = .ok (.iload_n 0, 1) := by decide +kernel
theorem dX1_howMany_1 : decode cX1_howMany 1 = .ok (.ifCond .lt 8, 3) := by decide +kernel
theorem dX1_howMany_4 : decode cX1_howMany 4 = .ok (.iload_n 0, 1) := by decide +kernel
theorem dX1_howMany_5 : decode cX1_howMany 5 = .ok (.iconst 3, 1) := by decide +kernel
theorem dX1_howMany_6 : decode cX1_howMany 6 = .ok (.if_icmp .le 7, 3) := by decide +kernel
theorem dX1_howMany_9 : decode cX1_howMany 9 = .ok (.iconst 0, 1) := by decide +kernel
theorem dX1_howMany_10 : decode cX1_howMany 10 = .ok (.goto 8, 3) := by decide +kernel
theorem dX1_howMany_13 : decode cX1_howMany 13 = .ok (.iconst 1, 1) := by decide +kernel
theorem dX1_howMany_14 : decode cX1_howMany 14 = .ok (.iconst 3, 1) := by decide +kernel
theorem dX1_howMany_15 : decode cX1_howMany 15 = .ok (.iload_n 0, 1) := by decide +kernel
theorem dX1_howMany_16 : decode cX1_howMany 16 = .ok (.imul, 1) := by decide +kernel
theorem dX1_howMany_17 : decode cX1_howMany 17 = .ok (.ishl, 1) := by decide +kernel
theorem dX1_howMany_18 : decode cX1_howMany 18 = .ok (.ireturn, 1) := by decide +kernel
theorem dX1_personAt_0 : decode cX1_personAt 0 = .ok (.iload_n 0, 1) := by decide +kernel
theorem dX1_personAt_1 : decode cX1_personAt 1 = .ok (.iconst 3, 1) := by decide +kernel
theorem dX1_personAt_2 : decode cX1_personAt 2 = .ok (.iload_n 2, 1) := by decide +kernel
theorem dX1_personAt_3 : decode cX1_personAt 3 = .ok (.iconst 1, 1) := by decide +kernel
theorem dX1_personAt_4 : decode cX1_personAt 4 = .ok (.isub, 1) := by decide +kernel
theorem dX1_personAt_5 : decode cX1_personAt 5 = .ok (.iload_n 1, 1) := by decide +kernel
theorem dX1_personAt_6 : decode cX1_personAt 6 = .ok (.isub, 1) := by decide +kernel
theorem dX1_personAt_7 : decode cX1_personAt 7 = .ok (.imul, 1) := by decide +kernel
theorem dX1_personAt_8 : decode cX1_personAt 8 = .ok (.ishr, 1) := by decide +kernel
theorem dX1_personAt_9 : decode cX1_personAt 9 = .ok (.bipush 7, 2) := by decide +kernel
theorem dX1_personAt_11 : decode cX1_personAt 11 = .ok (.iand, 1) := by decide +kernel
theorem dX1_personAt_12 : decode cX1_personAt 12 = .ok (.ireturn, 1) := by decide +kernel
set_option maxRecDepth 20000 in
theorem ggX2_init_X9_init : GoodIn wsX2_init wsX9_init := goodIn_r _ [15, 16, 2, 3, 17, 18, 19, 20, 21, 22, 23, 24, 25, 26, 27, 35, 36, 37, 38, 39, 40] (by decide +kernel) (by decide +kernel)
set_option maxRecDepth 20000 in
theorem gX2_init_X9_init : GoodIn wsX2_init (wsX9_init) := ggX2_init_X9_init
set_option maxRecDepth 20000 in
theorem ggX2_init_X6_init : GoodIn wsX2_init wsX6_init := goodIn_r _ [30, 31, 2, 3, 17, 32, 33, 34, 44, 45, 46] (by decide +kernel) (by decide +kernel)
set_option maxRecDepth 20000 in
theorem gX2_init_X6_init : GoodIn wsX2_init (wsX6_init) := ggX2_init_X6_init
theorem dX2_init_0 : decode cX2_init 0 = .ok (.aload_n 0, 1) := by decide +kernel
theorem dX2_init_1 : decode cX2_init 1 = .ok (.invokespecial 1, 3) := by decide +kernel
theorem dX2_init_4 : decode cX2_init 4 = .ok (.aload_n 0, 1) := by decide +kernel
theorem dX2_init_5 : decode cX2_init 5 = .ok (.new 7, 3) := by decide +kernel
theorem dX2_init_8 : decode cX2_init 8 = .ok (.dup, 1) := by decide +kernel
theorem dX2_init_9 : decode cX2_init 9 = .ok (.invokespecial 9, 3) := by decide +kernel
theorem dX2_init_12 : decode cX2_init 12 = .ok (.putfield 10, 3) := by decide +kernel
theorem dX2_init_15 : decode cX2_init 15 = .ok (.aload_n 0, 1) := by decide +kernel
theorem dX2_init_16 : decode cX2_init 16 = .ok (.new 16, 3) := by decide +kernel
theorem dX2_init_19 : decode cX2_init 19 = .ok (.dup, 1) := by decide +kernel
theorem dX2_init_20 : decode cX2_init 20 = .ok (.invokespecial 18, 3) := by decide +kernel
theorem dX2_init_23 : decode cX2_init 23 = .ok (.putfield 19, 3) := by decide +kernel
theorem dX2_init_26 : decode cX2_init 26 = .ok (.aload_n 0, 1) := by decide +kernel
theorem dX2_init_27 : decode cX2_init 27 = .ok (.iconst 0, 1) := by decide +kernel
theorem dX2_init_28 : decode cX2_init 28 = .ok (.putfield 23, 3) := by decide +kernel
theorem dX2_init_31 : decode cX2_init 31 = .ok (.return_, 1) := by decide +kernel
theorem dX2_isKept_0 : decode cX2_isKept 0 = .ok (.aload_n 0, 1) := by decide +kernel
theorem dX2_isKept_1 : decode cX2_isKept 1 = .ok (.getfield 23, 3) := by decide +kernel
theorem dX2_isKept_4 : decode cX2_isKept 4 = .ok (.ireturn, 1) := by decide +kernel
set_option maxRecDepth 20000 in
theorem ggX2_keep_X9_copyFrom : GoodIn wsX2_keep wsX9_copyFrom := goodIn_r _ [8, 9, 10, 11, 12, 13, 14, 15, 16, 17, 18, 19, 20, 21, 22, 23, 24, 25, 37, 38, 39, 40, 41, 42] (by decide +kernel) (by decide +kernel)
set_option maxRecDepth 20000 in
theorem gX2_keep_X9_copyFrom : GoodIn wsX2_keep (wsV RX2 27 RX9 yX9_copyFrom wsX9_copyFrom) := goodIn_app (goodIn_of _ (by decide +kernel)) ggX2_keep_X9_copyFrom
set_option maxRecDepth 20000 in
theorem ggX2_keep_X6_copyFrom : GoodIn wsX2_keep wsX6_copyFrom := goodIn_r _ [30, 31, 32, 33, 15, 16, 17, 18, 19, 20, 21, 22, 23, 24, 25, 43, 44, 45] (by decide +kernel) (by decide +kernel)
set_option maxRecDepth 20000 in
theorem gX2_keep_X6_copyFrom : GoodIn wsX2_keep (wsV RX2 31 RX6 yX6_copyFrom wsX6_copyFrom) := goodIn_app (goodIn_of _ (by decide +kernel)) ggX2_keep_X6_copyFrom
theorem dX2_keep_0 : decode cX2_keep 0 = .ok (.aload_n 0, 1) := by decide +kernel
theorem dX2_keep_1 : decode cX2_keep 1 = .ok (.getfield 10, 3) := by decide +kernel
theorem dX2_keep_4 : decode cX2_keep 4 = .ok (.aload_n 1, 1) := by decide +kernel
theorem dX2_keep_5 : decode cX2_keep 5 = .ok (.invokevirtual 27, 3) := by decide +kernel
theorem dX2_keep_8 : decode cX2_keep 8 = .ok (.aload_n 0, 1) := by decide +kernel
theorem dX2_keep_9 : decode cX2_keep 9 = .ok (.getfield 19, 3) := by decide +kernel
theorem dX2_keep_12 : decode cX2_keep 12 = .ok (.aload_n 2, 1) := by decide +kernel
theorem dX2_keep_13 : decode cX2_keep 13 = .ok (.invokevirtual 31, 3) := by decide +kernel
theorem dX2_keep_16 : decode cX2_keep 16 = .ok (.aload_n 0, 1) := by decide +kernel
theorem dX2_keep_17 : decode cX2_keep 17 = .ok (.iconst 1, 1) := by decide +kernel
theorem dX2_keep_18 : decode cX2_keep 18 = .ok (.putfield 23, 3) := by decide +kernel
theorem dX2_keep_21 : decode cX2_keep 21 = .ok (.return_, 1) := by decide +kernel
set_option maxRecDepth 20000 in
theorem ggX2_giveBack_X9_copyFrom : GoodIn wsX2_giveBack wsX9_copyFrom := goodIn_r _ [7, 8, 9, 10, 11, 12, 13, 14, 15, 16, 17, 18, 19, 20, 21, 22, 23, 24, 36, 37, 38, 39, 40, 41] (by decide +kernel) (by decide +kernel)
set_option maxRecDepth 20000 in
theorem gX2_giveBack_X9_copyFrom : GoodIn wsX2_giveBack (wsV RX2 27 RX9 yX9_copyFrom wsX9_copyFrom) := goodIn_app (goodIn_of _ (by decide +kernel)) ggX2_giveBack_X9_copyFrom
set_option maxRecDepth 20000 in
theorem ggX2_giveBack_X6_copyFrom : GoodIn wsX2_giveBack wsX6_copyFrom := goodIn_r _ [29, 30, 31, 32, 14, 15, 16, 17, 18, 19, 20, 21, 22, 23, 24, 42, 43, 44] (by decide +kernel) (by decide +kernel)
set_option maxRecDepth 20000 in
theorem gX2_giveBack_X6_copyFrom : GoodIn wsX2_giveBack (wsV RX2 31 RX6 yX6_copyFrom wsX6_copyFrom) := goodIn_app (goodIn_of _ (by decide +kernel)) ggX2_giveBack_X6_copyFrom
theorem dX2_giveBack_0 : decode cX2_giveBack 0 = .ok (.aload_n 1, 1) := by decide +kernel
theorem dX2_giveBack_1 : decode cX2_giveBack 1 = .ok (.aload_n 0, 1) := by decide +kernel
theorem dX2_giveBack_2 : decode cX2_giveBack 2 = .ok (.getfield 10, 3) := by decide +kernel
theorem dX2_giveBack_5 : decode cX2_giveBack 5 = .ok (.invokevirtual 27, 3) := by decide +kernel
theorem dX2_giveBack_8 : decode cX2_giveBack 8 = .ok (.aload_n 2, 1) := by decide +kernel
theorem dX2_giveBack_9 : decode cX2_giveBack 9 = .ok (.aload_n 0, 1) := by decide +kernel
theorem dX2_giveBack_10 : decode cX2_giveBack 10 = .ok (.getfield 19, 3) := by decide +kernel
theorem dX2_giveBack_13 : decode cX2_giveBack 13 = .ok (.invokevirtual 31, 3) := by decide +kernel
theorem dX2_giveBack_16 : decode cX2_giveBack 16 = .ok (.return_, 1) := by decide +kernel
set_option maxRecDepth 20000 in
theorem ggX3_getsOut_X9_isTaken : GoodIn wsX3_getsOut wsX9_isTaken := goodIn_r _ [5, 6, 7, 8, 9, 10, 11, 12, 13, 14, 15, 16] (by decide +kernel) (by decide +kernel)
set_option maxRecDepth 20000 in
theorem gX3_getsOut_X9_isTaken : GoodIn wsX3_getsOut (wsV RX3 11 RX9 yX9_isTaken wsX9_isTaken) := goodIn_app (goodIn_of _ (by decide +kernel)) ggX3_getsOut_X9_isTaken
theorem dX3_getsOut_0 : decode cX3_getsOut 0 = .ok (.iload_n 1, 1) := by decide +kernel
theorem dX3_getsOut_1 : decode cX3_getsOut 1 = .ok (.bipush 8, 2) := by decide +kernel
theorem dX3_getsOut_3 : decode cX3_getsOut 3 = .ok (.if_icmp .eq 14, 3) := by decide +kernel
theorem dX3_getsOut_6 : decode cX3_getsOut 6 = .ok (.aload_n 0, 1) := by decide +kernel
theorem dX3_getsOut_7 : decode cX3_getsOut 7 = .ok (.invokevirtual 11, 3) := by decide +kernel
theorem dX3_getsOut_10 : decode cX3_getsOut 10 = .ok (.ifCond .eq 7, 3) := by decide +kernel
theorem dX3_getsOut_13 : decode cX3_getsOut 13 = .ok (.iconst 1, 1) := by decide +kernel
theorem dX3_getsOut_14 : decode cX3_getsOut 14 = .ok (.goto 4, 3) := by decide +kernel
theorem dX3_getsOut_17 : decode cX3_getsOut 17 = .ok (.iconst 0, 1) := by decide +kernel
theorem dX3_getsOut_18 : decode cX3_getsOut 18 = .ok (.ireturn, 1) := by decide +kernel
set_option maxRecDepth 20000 in
theorem ggX3_canBe_X9_isTaken : GoodIn wsX3_canBe wsX9_isTaken := goodIn_r _ [5, 6, 7, 8, 9, 10, 20, 21, 22, 23, 24, 25] (by decide +kernel) (by decide +kernel)
set_option maxRecDepth 20000 in
theorem gX3_canBe_X9_isTaken : GoodIn wsX3_canBe (wsV RX3 11 RX9 yX9_isTaken wsX9_isTaken) := goodIn_app (goodIn_of _ (by decide +kernel)) ggX3_canBe_X9_isTaken
set_option maxRecDepth 20000 in
theorem ggX3_canBe_X9_isLowest : GoodIn wsX3_canBe wsX9_isLowest := goodIn_r _ [14, 15, 7, 8, 9, 10, 20, 21, 22, 23, 24, 25] (by decide +kernel) (by decide +kernel)
set_option maxRecDepth 20000 in
theorem gX3_canBe_X9_isLowest : GoodIn wsX3_canBe (wsV RX3 17 RX9 yX9_isLowest wsX9_isLowest) := goodIn_app (goodIn_of _ (by decide +kernel)) ggX3_canBe_X9_isLowest
set_option maxRecDepth 20000 in
theorem ggX3_canBe_X9_isAboard : GoodIn wsX3_canBe wsX9_isAboard := goodIn_r _ [19, 15, 8, 9, 10, 20, 21, 22, 23, 24, 25] (by decide +kernel) (by decide +kernel)
set_option maxRecDepth 20000 in
theorem gX3_canBe_X9_isAboard : GoodIn wsX3_canBe (wsV RX3 21 RX9 yX9_isAboard wsX9_isAboard) := goodIn_app (goodIn_of _ (by decide +kernel)) ggX3_canBe_X9_isAboard
theorem dX3_canBe_0 : decode cX3_canBe 0 = .ok (.iload_n 1, 1) := by decide +kernel
theorem dX3_canBe_1 : decode cX3_canBe 1 = .ok (.bipush 8, 2) := by decide +kernel
theorem dX3_canBe_3 : decode cX3_canBe 3 = .ok (.if_icmp .ne 5, 3) := by decide +kernel
theorem dX3_canBe_6 : decode cX3_canBe 6 = .ok (.iconst 1, 1) := by decide +kernel
theorem dX3_canBe_7 : decode cX3_canBe 7 = .ok (.ireturn, 1) := by decide +kernel
theorem dX3_canBe_8 : decode cX3_canBe 8 = .ok (.iload_n 1, 1) := by decide +kernel
theorem dX3_canBe_9 : decode cX3_canBe 9 = .ok (.bipush 9, 2) := by decide +kernel
theorem dX3_canBe_11 : decode cX3_canBe 11 = .ok (.if_icmp .ne 10, 3) := by decide +kernel
theorem dX3_canBe_14 : decode cX3_canBe 14 = .ok (.aload_n 0, 1) := by decide +kernel
theorem dX3_canBe_15 : decode cX3_canBe 15 = .ok (.invokevirtual 11, 3) := by decide +kernel
theorem dX3_canBe_18 : decode cX3_canBe 18 = .ok (.goto 24, 3) := by decide +kernel
theorem dX3_canBe_21 : decode cX3_canBe 21 = .ok (.aload_n 0, 1) := by decide +kernel
theorem dX3_canBe_22 : decode cX3_canBe 22 = .ok (.iload_n 1, 1) := by decide +kernel
theorem dX3_canBe_23 : decode cX3_canBe 23 = .ok (.invokevirtual 17, 3) := by decide +kernel
theorem dX3_canBe_26 : decode cX3_canBe 26 = .ok (.ifCond .ne 11, 3) := by decide +kernel
theorem dX3_canBe_29 : decode cX3_canBe 29 = .ok (.aload_n 0, 1) := by decide +kernel
theorem dX3_canBe_30 : decode cX3_canBe 30 = .ok (.iload_n 1, 1) := by decide +kernel
theorem dX3_canBe_31 : decode cX3_canBe 31 = .ok (.invokevirtual 21, 3) := by decide +kernel
theorem dX3_canBe_34 : decode cX3_canBe 34 = .ok (.ifCond .ne 7, 3) := by decide +kernel
theorem dX3_canBe_37 : decode cX3_canBe 37 = .ok (.iconst 1, 1) := by decide +kernel
theorem dX3_canBe_38 : decode cX3_canBe 38 = .ok (.goto 4, 3) := by decide +kernel
theorem dX3_canBe_41 : decode cX3_canBe 41 = .ok (.iconst 0, 1) := by decide +kernel
theorem dX3_canBe_42 : decode cX3_canBe 42 = .ok (.ireturn, 1) := by decide +kernel
set_option maxRecDepth 20000 in
theorem ggX3_make_X9_lowest : GoodIn wsX3_make wsX9_lowest := goodIn_r _ [5, 6, 48, 49, 50, 51, 52, 53] (by decide +kernel) (by decide +kernel)
set_option maxRecDepth 20000 in
theorem gX3_make_X9_lowest : GoodIn wsX3_make (wsV RX3 24 RX9 yX9_lowest wsX9_lowest) := goodIn_app (goodIn_of _ (by decide +kernel)) ggX3_make_X9_lowest
set_option maxRecDepth 20000 in
theorem ggX3_make_X9_unseat : GoodIn wsX3_make wsX9_unseat := goodIn_r _ [10, 11, 12, 13, 14, 15, 16, 17, 48, 49, 50, 51, 52, 53] (by decide +kernel) (by decide +kernel)
set_option maxRecDepth 20000 in
theorem gX3_make_X9_unseat : GoodIn wsX3_make (wsV RX3 28 RX9 yX9_unseat wsX9_unseat) := goodIn_app (goodIn_of _ (by decide +kernel)) ggX3_make_X9_unseat
set_option maxRecDepth 20000 in
theorem ggX3_make_X10_isPerson : GoodIn wsX3_make wsX10_isPerson := goodIn_r _ [19] (by decide +kernel) (by decide +kernel)
set_option maxRecDepth 20000 in
theorem gX3_make_X10_isPerson_n32 : GoodIn wsX3_make (wsX10_isPerson) := ggX3_make_X10_isPerson
set_option maxRecDepth 20000 in
theorem ggX3_make_X9_seat : GoodIn wsX3_make wsX9_seat := goodIn_r _ [23, 12, 11, 16, 14, 17, 48, 49, 50, 51, 52, 53] (by decide +kernel) (by decide +kernel)
set_option maxRecDepth 20000 in
theorem gX3_make_X9_seat : GoodIn wsX3_make (wsV RX3 35 RX9 yX9_seat wsX9_seat) := goodIn_app (goodIn_of _ (by decide +kernel)) ggX3_make_X9_seat
set_option maxRecDepth 20000 in
theorem ggX3_make_X9_letGo : GoodIn wsX3_make wsX9_letGo := goodIn_r _ [27, 6, 28, 29, 30, 4, 31, 12, 32, 33, 34, 13, 14, 15, 35, 36, 37, 38, 39, 40, 41, 42, 43, 44, 45, 46, 47, 48, 49, 50, 51, 52, 53] (by decide +kernel) (by decide +kernel)
set_option maxRecDepth 20000 in
theorem gX3_make_X9_letGo : GoodIn wsX3_make (wsV RX3 39 RX9 yX9_letGo wsX9_letGo) := goodIn_app (goodIn_of _ (by decide +kernel)) ggX3_make_X9_letGo
theorem dX3_make_0 : decode cX3_make 0 = .ok (.iload_n 1, 1) := by decide +kernel
theorem dX3_make_1 : decode cX3_make 1 = .ok (.bipush 8, 2) := by decide +kernel
theorem dX3_make_3 : decode cX3_make 3 = .ok (.if_icmp .eq 11, 3) := by decide +kernel
theorem dX3_make_6 : decode cX3_make 6 = .ok (.aload_n 0, 1) := by decide +kernel
theorem dX3_make_7 : decode cX3_make 7 = .ok (.aload_n 0, 1) := by decide +kernel
theorem dX3_make_8 : decode cX3_make 8 = .ok (.invokevirtual 24, 3) := by decide +kernel
theorem dX3_make_11 : decode cX3_make 11 = .ok (.invokevirtual 28, 3) := by decide +kernel
theorem dX3_make_14 : decode cX3_make 14 = .ok (.iload_n 1, 1) := by decide +kernel
theorem dX3_make_15 : decode cX3_make 15 = .ok (.invokestatic 32, 3) := by decide +kernel
theorem dX3_make_18 : decode cX3_make 18 = .ok (.ifCond .eq 12, 3) := by decide +kernel
theorem dX3_make_21 : decode cX3_make 21 = .ok (.aload_n 0, 1) := by decide +kernel
theorem dX3_make_22 : decode cX3_make 22 = .ok (.iload_n 1, 1) := by decide +kernel
theorem dX3_make_23 : decode cX3_make 23 = .ok (.aload_n 0, 1) := by decide +kernel
theorem dX3_make_24 : decode cX3_make 24 = .ok (.invokevirtual 24, 3) := by decide +kernel
theorem dX3_make_27 : decode cX3_make 27 = .ok (.invokevirtual 35, 3) := by decide +kernel
theorem dX3_make_30 : decode cX3_make 30 = .ok (.aload_n 0, 1) := by decide +kernel
theorem dX3_make_31 : decode cX3_make 31 = .ok (.invokevirtual 39, 3) := by decide +kernel
theorem dX3_make_34 : decode cX3_make 34 = .ok (.pop, 1) := by decide +kernel
theorem dX3_make_35 : decode cX3_make 35 = .ok (.return_, 1) := by decide +kernel
set_option maxRecDepth 20000 in
theorem ggX3_first_X3_search : GoodIn wsX3_first wsX3_search := goodIn_r _ [4, 5, 6, 7, 8, 9, 10, 11, 12, 13, 14, 15, 16, 17, 18, 19, 20, 3, 21, 22, 23, 24, 25, 26, 27, 28, 29, 30, 31, 32, 33, 34, 35, 36, 37, 38, 39, 40, 41, 42, 43, 44, 45, 46, 47, 48, 49, 50, 51, 52, 53, 54, 55, 56, 57, 58, 59, 60, 61, 62, 63, 64, 65, 66, 67, 68, 69, 70, 71, 72, 73, 1, 2, 74, 75, 76, 77, 78, 79, 80, 81, 82, 83, 84, 85] (by decide +kernel) (by decide +kernel)
set_option maxRecDepth 20000 in
theorem gX3_first_X3_search : GoodIn wsX3_first (va_wsS RX3 42 yX3_search wsX3_search) := goodIn_app (goodIn_of _ (by decide +kernel)) ggX3_first_X3_search
theorem dX3_first_0 : decode cX3_first 0 = .ok (.iload_n 2, 1) := by decide +kernel
theorem dX3_first_1 : decode cX3_first 1 = .ok (.iconst 1, 1) := by decide +kernel
theorem dX3_first_2 : decode cX3_first 2 = .ok (.if_icmp .lt 8, 3) := by decide +kernel
theorem dX3_first_5 : decode cX3_first 5 = .ok (.iload_n 2, 1) := by decide +kernel
theorem dX3_first_6 : decode cX3_first 6 = .ok (.iconst 3, 1) := by decide +kernel
theorem dX3_first_7 : decode cX3_first 7 = .ok (.if_icmp .le 8, 3) := by decide +kernel
theorem dX3_first_10 : decode cX3_first 10 = .ok (.bipush (-6), 2) := by decide +kernel
theorem dX3_first_12 : decode cX3_first 12 = .ok (.goto 9, 3) := by decide +kernel
theorem dX3_first_15 : decode cX3_first 15 = .ok (.aload_n 0, 1) := by decide +kernel
theorem dX3_first_16 : decode cX3_first 16 = .ok (.iload_n 1, 1) := by decide +kernel
theorem dX3_first_17 : decode cX3_first 17 = .ok (.iload_n 2, 1) := by decide +kernel
theorem dX3_first_18 : decode cX3_first 18 = .ok (.invokestatic 42, 3) := by decide +kernel
theorem dX3_first_21 : decode cX3_first 21 = .ok (.ireturn, 1) := by decide +kernel
set_option maxRecDepth 20000 in
theorem ggX3_search_X9_lowest : GoodIn wsX3_search wsX9_lowest := goodIn_r _ [5, 6, 79, 80, 81, 82, 83, 84] (by decide +kernel) (by decide +kernel)
set_option maxRecDepth 20000 in
theorem gX3_search_X9_lowest : GoodIn wsX3_search (wsV RX3 24 RX9 yX9_lowest wsX9_lowest) := goodIn_app (goodIn_of _ (by decide +kernel)) ggX3_search_X9_lowest
set_option maxRecDepth 20000 in
theorem ggX3_search_X9_riderOf : GoodIn wsX3_search wsX9_riderOf := goodIn_r _ [10, 11, 12, 13, 14, 79, 80, 81, 82, 83, 84] (by decide +kernel) (by decide +kernel)
set_option maxRecDepth 20000 in
theorem gX3_search_X9_riderOf : GoodIn wsX3_search (wsV RX3 46 RX9 yX9_riderOf wsX9_riderOf) := goodIn_app (goodIn_of _ (by decide +kernel)) ggX3_search_X9_riderOf
set_option maxRecDepth 20000 in
theorem ggX3_search_X3_canBe : GoodIn wsX3_search wsX3_canBe := goodIn_r _ [18, 19, 20, 21, 4, 22, 11, 6, 12, 13, 14, 23, 24, 25, 26, 27, 28, 29, 30, 31, 79, 80, 81, 82, 83, 84] (by decide +kernel) (by decide +kernel)
set_option maxRecDepth 20000 in
theorem gX3_search_X3_canBe : GoodIn wsX3_search (va_wsS RX3 50 yX3_canBe wsX3_canBe) := goodIn_app (goodIn_of _ (by decide +kernel)) ggX3_search_X3_canBe
set_option maxRecDepth 20000 in
theorem ggX3_search_X3_make : GoodIn wsX3_search wsX3_make := goodIn_r _ [34, 1, 2, 3, 4, 5, 6, 35, 36, 37, 38, 27, 11, 12, 13, 14, 39, 40, 41, 42, 43, 44, 45, 46, 47, 48, 49, 50, 51, 52, 53, 54, 55, 56, 57, 58, 59, 60, 61, 62, 63, 64, 65, 66, 67, 68, 69, 70, 79, 80, 81, 82, 83, 84] (by decide +kernel) (by decide +kernel)
set_option maxRecDepth 20000 in
theorem gX3_search_X3_make : GoodIn wsX3_search (va_wsS RX3 54 yX3_make wsX3_make) := goodIn_app (goodIn_of _ (by decide +kernel)) ggX3_search_X3_make
set_option maxRecDepth 20000 in
theorem ggX3_search_X9_isLowest : GoodIn wsX3_search wsX9_isLowest := goodIn_r _ [26, 27, 6, 12, 13, 14, 79, 80, 81, 82, 83, 84] (by decide +kernel) (by decide +kernel)
set_option maxRecDepth 20000 in
theorem gX3_search_X9_isLowest : GoodIn wsX3_search (wsV RX3 17 RX9 yX9_isLowest wsX9_isLowest) := goodIn_app (goodIn_of _ (by decide +kernel)) ggX3_search_X9_isLowest
set_option maxRecDepth 20000 in
theorem ggX3_search_X3_search : GoodIn wsX3_search wsX3_search := goodIn_r _ [0, 1, 2, 3, 4, 5, 6, 7, 8, 9, 10, 11, 12, 13, 14, 15, 16, 17, 18, 19, 20, 21, 22, 23, 24, 25, 26, 27, 28, 29, 30, 31, 32, 33, 34, 35, 36, 37, 38, 39, 40, 41, 42, 43, 44, 45, 46, 47, 48, 49, 50, 51, 52, 53, 54, 55, 56, 57, 58, 59, 60, 61, 62, 63, 64, 65, 66, 67, 68, 69, 70, 71, 72, 73, 74, 75, 76, 77, 78, 79, 80, 81, 82, 83, 84] (by decide +kernel) (by decide +kernel)
set_option maxRecDepth 20000 in
theorem gX3_search_X3_search : GoodIn wsX3_search (va_wsS RX3 42 yX3_search wsX3_search) := goodIn_app (goodIn_of _ (by decide +kernel)) ggX3_search_X3_search
set_option maxRecDepth 20000 in
theorem ggX3_search_X9_takeBack : GoodIn wsX3_search wsX9_takeBack := goodIn_r _ [76, 6, 58, 59, 60, 61, 77, 36, 37, 4, 38, 27, 11, 12, 13, 14, 39, 40, 78, 44, 45, 46, 79, 80, 81, 82, 83, 84] (by decide +kernel) (by decide +kernel)
set_option maxRecDepth 20000 in
theorem gX3_search_X9_takeBack : GoodIn wsX3_search (wsV RX3 58 RX9 yX9_takeBack wsX9_takeBack) := goodIn_app (goodIn_of _ (by decide +kernel)) ggX3_search_X9_takeBack
theorem dX3_search_0 : decode cX3_search 0 = .ok (.aload_n 0, 1) := by decide +kernel
theorem dX3_search_1 : decode cX3_search 1 = .ok (.invokevirtual 24, 3) := by decide +kernel
theorem dX3_search_4 : decode cX3_search 4 = .ok (.istore_n 3, 1) := by decide +kernel
theorem dX3_search_5 : decode cX3_search 5 = .ok (.aload_n 0, 1) := by decide +kernel
theorem dX3_search_6 : decode cX3_search 6 = .ok (.iload_n 3, 1) := by decide +kernel
theorem dX3_search_7 : decode cX3_search 7 = .ok (.invokevirtual 46, 3) := by decide +kernel
theorem dX3_search_10 : decode cX3_search 10 = .ok (.istore 4, 2) := by decide +kernel
theorem dX3_search_12 : decode cX3_search 12 = .ok (.iconst 0, 1) := by decide +kernel
theorem dX3_search_13 : decode cX3_search 13 = .ok (.istore 5, 2) := by decide +kernel
theorem dX3_search_15 : decode cX3_search 15 = .ok (.iload 5, 2) := by decide +kernel
theorem dX3_search_17 : decode cX3_search 17 = .ok (.bipush 10, 2) := by decide +kernel
theorem dX3_search_19 : decode cX3_search 19 = .ok (.if_icmp .ge 72, 3) := by decide +kernel
theorem dX3_search_22 : decode cX3_search 22 = .ok (.aload_n 0, 1) := by decide +kernel
theorem dX3_search_23 : decode cX3_search 23 = .ok (.iload 5, 2) := by decide +kernel
theorem dX3_search_25 : decode cX3_search 25 = .ok (.invokestatic 50, 3) := by decide +kernel
theorem dX3_search_28 : decode cX3_search 28 = .ok (.ifCond .eq 57, 3) := by decide +kernel
theorem dX3_search_31 : decode cX3_search 31 = .ok (.aload_n 0, 1) := by decide +kernel
theorem dX3_search_32 : decode cX3_search 32 = .ok (.iload 5, 2) := by decide +kernel
theorem dX3_search_34 : decode cX3_search 34 = .ok (.invokestatic 54, 3) := by decide +kernel
theorem dX3_search_37 : decode cX3_search 37 = .ok (.iload_n 2, 1) := by decide +kernel
theorem dX3_search_38 : decode cX3_search 38 = .ok (.iconst 1, 1) := by decide +kernel
theorem dX3_search_39 : decode cX3_search 39 = .ok (.if_icmp .gt 11, 3) := by decide +kernel
theorem dX3_search_42 : decode cX3_search 42 = .ok (.aload_n 0, 1) := by decide +kernel
theorem dX3_search_43 : decode cX3_search 43 = .ok (.iload_n 1, 1) := by decide +kernel
theorem dX3_search_44 : decode cX3_search 44 = .ok (.invokevirtual 17, 3) := by decide +kernel
theorem dX3_search_47 : decode cX3_search 47 = .ok (.goto 21, 3) := by decide +kernel
theorem dX3_search_50 : decode cX3_search 50 = .ok (.aload_n 0, 1) := by decide +kernel
theorem dX3_search_51 : decode cX3_search 51 = .ok (.iload_n 1, 1) := by decide +kernel
theorem dX3_search_52 : decode cX3_search 52 = .ok (.iload_n 2, 1) := by decide +kernel
theorem dX3_search_53 : decode cX3_search 53 = .ok (.iconst 1, 1) := by decide +kernel
theorem dX3_search_54 : decode cX3_search 54 = .ok (.isub, 1) := by decide +kernel
theorem dX3_search_55 : decode cX3_search 55 = .ok (.invokestatic 42, 3) := by decide +kernel
theorem dX3_search_58 : decode cX3_search 58 = .ok (.bipush (-6), 2) := by decide +kernel
theorem dX3_search_60 : decode cX3_search 60 = .ok (.if_icmp .eq 7, 3) := by decide +kernel
theorem dX3_search_63 : decode cX3_search 63 = .ok (.iconst 1, 1) := by decide +kernel
theorem dX3_search_64 : decode cX3_search 64 = .ok (.goto 4, 3) := by decide +kernel
theorem dX3_search_67 : decode cX3_search 67 = .ok (.iconst 0, 1) := by decide +kernel
theorem dX3_search_68 : decode cX3_search 68 = .ok (.istore 6, 2) := by decide +kernel
theorem dX3_search_70 : decode cX3_search 70 = .ok (.aload_n 0, 1) := by decide +kernel
theorem dX3_search_71 : decode cX3_search 71 = .ok (.iload_n 3, 1) := by decide +kernel
theorem dX3_search_72 : decode cX3_search 72 = .ok (.iload 4, 2) := by decide +kernel
theorem dX3_search_74 : decode cX3_search 74 = .ok (.invokevirtual 58, 3) := by decide +kernel
theorem dX3_search_77 : decode cX3_search 77 = .ok (.iload 6, 2) := by decide +kernel
theorem dX3_search_79 : decode cX3_search 79 = .ok (.ifCond .eq 6, 3) := by decide +kernel
theorem dX3_search_82 : decode cX3_search 82 = .ok (.iload 5, 2) := by decide +kernel
theorem dX3_search_84 : decode cX3_search 84 = .ok (.ireturn, 1) := by decide +kernel
theorem dX3_search_85 : decode cX3_search 85 = .ok (.iinc 5 1, 3) := by decide +kernel
theorem dX3_search_88 : decode cX3_search 88 = .ok (.goto (-73), 3) := by decide +kernel
theorem dX3_search_91 : decode cX3_search 91 = .ok (.bipush (-6), 2) := by decide +kernel
theorem dX3_search_93 : decode cX3_search 93 = .ok (.ireturn, 1) := by decide +kernel
theorem dX4_init_0 : decode cX4_init 0 = .ok (.aload_n 0, 1) := by decide +kernel
theorem dX4_init_1 : decode cX4_init 1 = .ok (.invokespecial 3, 3) := by decide +kernel
theorem dX4_init_4 : decode cX4_init 4 = .ok (.aload_n 0, 1) := by decide +kernel
theorem dX4_init_5 : decode cX4_init 5 = .ok (.bipush 60, 2) := by decide +kernel
theorem dX4_init_7 : decode cX4_init 7 = .ok (.newarray .int, 2) := by decide +kernel
theorem dX4_init_9 : decode cX4_init 9 = .ok (.putfield 9, 3) := by decide +kernel
theorem dX4_init_12 : decode cX4_init 12 = .ok (.aload_n 0, 1) := by decide +kernel
theorem dX4_init_13 : decode cX4_init 13 = .ok (.iconst 0, 1) := by decide +kernel
theorem dX4_init_14 : decode cX4_init 14 = .ok (.putfield 15, 3) := by decide +kernel
theorem dX4_init_17 : decode cX4_init 17 = .ok (.aload_n 0, 1) := by decide +kernel
theorem dX4_init_18 : decode cX4_init 18 = .ok (.iconst 0, 1) := by decide +kernel
theorem dX4_init_19 : decode cX4_init 19 = .ok (.putfield 19, 3) := by decide +kernel
theorem dX4_init_22 : decode cX4_init 22 = .ok (.return_, 1) := by decide +kernel
theorem dX4_getsIn_0 : decode cX4_getsIn 0 = .ok (.iload_n 0, 1) := by decide +kernel
theorem dX4_getsIn_1 : decode cX4_getsIn 1 = .ok (.bipush 65, 2) := by decide +kernel
theorem dX4_getsIn_3 : decode cX4_getsIn 3 = .ok (.if_icmp .lt 13, 3) := by decide +kernel
theorem dX4_getsIn_6 : decode cX4_getsIn 6 = .ok (.iload_n 0, 1) := by decide +kernel
theorem dX4_getsIn_7 : decode cX4_getsIn 7 = .ok (.bipush 73, 2) := by decide +kernel
theorem dX4_getsIn_9 : decode cX4_getsIn 9 = .ok (.if_icmp .ge 7, 3) := by decide +kernel
theorem dX4_getsIn_12 : decode cX4_getsIn 12 = .ok (.iconst 1, 1) := by decide +kernel
theorem dX4_getsIn_13 : decode cX4_getsIn 13 = .ok (.goto 4, 3) := by decide +kernel
theorem dX4_getsIn_16 : decode cX4_getsIn 16 = .ok (.iconst 0, 1) := by decide +kernel
theorem dX4_getsIn_17 : decode cX4_getsIn 17 = .ok (.ireturn, 1) := by decide +kernel
theorem dX4_getsOut_0 : decode cX4_getsOut 0 = .ok (.iload_n 0, 1) := by decide +kernel
theorem dX4_getsOut_1 : decode cX4_getsOut 1 = .ok (.bipush 97, 2) := by decide +kernel
theorem dX4_getsOut_3 : decode cX4_getsOut 3 = .ok (.if_icmp .lt 13, 3) := by decide +kernel
theorem dX4_getsOut_6 : decode cX4_getsOut 6 = .ok (.iload_n 0, 1) := by decide +kernel
theorem dX4_getsOut_7 : decode cX4_getsOut 7 = .ok (.bipush 105, 2) := by decide +kernel
theorem dX4_getsOut_9 : decode cX4_getsOut 9 = .ok (.if_icmp .ge 7, 3) := by decide +kernel
theorem dX4_getsOut_12 : decode cX4_getsOut 12 = .ok (.iconst 1, 1) := by decide +kernel
theorem dX4_getsOut_13 : decode cX4_getsOut 13 = .ok (.goto 4, 3) := by decide +kernel
theorem dX4_getsOut_16 : decode cX4_getsOut 16 = .ok (.iconst 0, 1) := by decide +kernel
theorem dX4_getsOut_17 : decode cX4_getsOut 17 = .ok (.ireturn, 1) := by decide +kernel
theorem dX4_isDigit_0 : decode cX4_isDigit 0 = .ok (.iload_n 0, 1) := by decide +kernel
theorem dX4_isDigit_1 : decode cX4_isDigit 1 = .ok (.bipush 48, 2) := by decide +kernel
theorem dX4_isDigit_3 : decode cX4_isDigit 3 = .ok (.if_icmp .lt 13, 3) := by decide +kernel
theorem dX4_isDigit_6 : decode cX4_isDigit 6 = .ok (.iload_n 0, 1) := by decide +kernel
theorem dX4_isDigit_7 : decode cX4_isDigit 7 = .ok (.bipush 57, 2) := by decide +kernel
theorem dX4_isDigit_9 : decode cX4_isDigit 9 = .ok (.if_icmp .gt 7, 3) := by decide +kernel
theorem dX4_isDigit_12 : decode cX4_isDigit 12 = .ok (.iconst 1, 1) := by decide +kernel
theorem dX4_isDigit_13 : decode cX4_isDigit 13 = .ok (.goto 4, 3) := by decide +kernel
theorem dX4_isDigit_16 : decode cX4_isDigit 16 = .ok (.iconst 0, 1) := by decide +kernel
theorem dX4_isDigit_17 : decode cX4_isDigit 17 = .ok (.ireturn, 1) := by decide +kernel
theorem dX4_isMotion_0 : decode cX4_isMotion 0 = .ok (.iload_n 0, 1) := by decide +kernel
theorem dX4_isMotion_1 : decode cX4_isMotion 1 = .ok (.bipush 94, 2) := by decide +kernel
theorem dX4_isMotion_3 : decode cX4_isMotion 3 = .ok (.if_icmp .eq 15, 3) := by decide +kernel
theorem dX4_isMotion_6 : decode cX4_isMotion 6 = .ok (.iload_n 0, 1) := by decide +kernel
theorem dX4_isMotion_7 : decode cX4_isMotion 7 = .ok (.bipush 62, 2) := by decide +kernel
theorem dX4_isMotion_9 : decode cX4_isMotion 9 = .ok (.if_icmp .eq 9, 3) := by decide +kernel
theorem dX4_isMotion_12 : decode cX4_isMotion 12 = .ok (.iload_n 0, 1) := by decide +kernel
theorem dX4_isMotion_13 : decode cX4_isMotion 13 = .ok (.bipush 60, 2) := by decide +kernel
theorem dX4_isMotion_15 : decode cX4_isMotion 15 = .ok (.if_icmp .ne 7, 3) := by decide +kernel
theorem dX4_isMotion_18 : decode cX4_isMotion 18 = .ok (.iconst 1, 1) := by decide +kernel
theorem dX4_isMotion_19 : decode cX4_isMotion 19 = .ok (.goto 4, 3) := by decide +kernel
theorem dX4_isMotion_22 : decode cX4_isMotion 22 = .ok (.iconst 0, 1) := by decide +kernel
theorem dX4_isMotion_23 : decode cX4_isMotion 23 = .ok (.ireturn, 1) := by decide +kernel
theorem dX4_length_0 : decode cX4_length 0 = .ok (.aload_n 0, 1) := by decide +kernel
theorem dX4_length_1 : decode cX4_length 1 = .ok (.getfield 15, 3) := by decide +kernel
theorem dX4_length_4 : decode cX4_length 4 = .ok (.ireturn, 1) := by decide +kernel
set_option maxRecDepth 20000 in
theorem ggX4_signAt_X10_at : GoodIn wsX4_signAt wsX10_at := goodIn_r _ [4] (by decide +kernel) (by decide +kernel)
set_option maxRecDepth 20000 in
theorem gX4_signAt_X10_at_n22 : GoodIn wsX4_signAt (wsX10_at) := ggX4_signAt_X10_at
theorem dX4_signAt_0 : decode cX4_signAt 0 = .ok (.aload_n 0, 1) := by decide +kernel
theorem dX4_signAt_1 : decode cX4_signAt 1 = .ok (.getfield 9, 3) := by decide +kernel
theorem dX4_signAt_4 : decode cX4_signAt 4 = .ok (.iload_n 1, 1) := by decide +kernel
theorem dX4_signAt_5 : decode cX4_signAt 5 = .ok (.invokestatic 22, 3) := by decide +kernel
theorem dX4_signAt_8 : decode cX4_signAt 8 = .ok (.ireturn, 1) := by decide +kernel
set_option maxRecDepth 20000 in
theorem ggX4_write_X10_put : GoodIn wsX4_write wsX10_put := goodIn_r _ [6] (by decide +kernel) (by decide +kernel)
set_option maxRecDepth 20000 in
theorem gX4_write_X10_put_n26 : GoodIn wsX4_write (wsX10_put) := ggX4_write_X10_put
theorem dX4_write_0 : decode cX4_write 0 = .ok (.aload_n 0, 1) := by decide +kernel
theorem dX4_write_1 : decode cX4_write 1 = .ok (.getfield 15, 3) := by decide +kernel
theorem dX4_write_4 : decode cX4_write 4 = .ok (.aload_n 0, 1) := by decide +kernel
theorem dX4_write_5 : decode cX4_write 5 = .ok (.getfield 9, 3) := by decide +kernel
theorem dX4_write_8 : decode cX4_write 8 = .ok (.arraylength, 1) := by decide +kernel
theorem dX4_write_9 : decode cX4_write 9 = .ok (.if_icmp .ge 45, 3) := by decide +kernel
theorem dX4_write_12 : decode cX4_write 12 = .ok (.aload_n 0, 1) := by decide +kernel
theorem dX4_write_13 : decode cX4_write 13 = .ok (.getfield 9, 3) := by decide +kernel
theorem dX4_write_16 : decode cX4_write 16 = .ok (.aload_n 0, 1) := by decide +kernel
theorem dX4_write_17 : decode cX4_write 17 = .ok (.getfield 15, 3) := by decide +kernel
theorem dX4_write_20 : decode cX4_write 20 = .ok (.iload_n 1, 1) := by decide +kernel
theorem dX4_write_21 : decode cX4_write 21 = .ok (.invokestatic 26, 3) := by decide +kernel
theorem dX4_write_24 : decode cX4_write 24 = .ok (.aload_n 0, 1) := by decide +kernel
theorem dX4_write_25 : decode cX4_write 25 = .ok (.dup, 1) := by decide +kernel
theorem dX4_write_26 : decode cX4_write 26 = .ok (.getfield 15, 3) := by decide +kernel
theorem dX4_write_29 : decode cX4_write 29 = .ok (.iconst 1, 1) := by decide +kernel
theorem dX4_write_30 : decode cX4_write 30 = .ok (.iadd, 1) := by decide +kernel
theorem dX4_write_31 : decode cX4_write 31 = .ok (.putfield 15, 3) := by decide +kernel
theorem dX4_write_34 : decode cX4_write 34 = .ok (.aload_n 0, 1) := by decide +kernel
theorem dX4_write_35 : decode cX4_write 35 = .ok (.dup, 1) := by decide +kernel
theorem dX4_write_36 : decode cX4_write 36 = .ok (.getfield 19, 3) := by decide +kernel
theorem dX4_write_39 : decode cX4_write 39 = .ok (.iload_n 1, 1) := by decide +kernel
theorem dX4_write_40 : decode cX4_write 40 = .ok (.bipush 63, 2) := by decide +kernel
theorem dX4_write_42 : decode cX4_write 42 = .ok (.if_icmp .ne 7, 3) := by decide +kernel
theorem dX4_write_45 : decode cX4_write 45 = .ok (.iconst 1, 1) := by decide +kernel
theorem dX4_write_46 : decode cX4_write 46 = .ok (.goto 4, 3) := by decide +kernel
theorem dX4_write_49 : decode cX4_write 49 = .ok (.iconst 0, 1) := by decide +kernel
theorem dX4_write_50 : decode cX4_write 50 = .ok (.iadd, 1) := by decide +kernel
theorem dX4_write_51 : decode cX4_write 51 = .ok (.putfield 19, 3) := by decide +kernel
theorem dX4_write_54 : decode cX4_write 54 = .ok (.return_, 1) := by decide +kernel
theorem dX4_clear_0 : decode cX4_clear 0 = .ok (.aload_n 0, 1) := by decide +kernel
theorem dX4_clear_1 : decode cX4_clear 1 = .ok (.iconst 0, 1) := by decide +kernel
theorem dX4_clear_2 : decode cX4_clear 2 = .ok (.putfield 15, 3) := by decide +kernel
theorem dX4_clear_5 : decode cX4_clear 5 = .ok (.aload_n 0, 1) := by decide +kernel
theorem dX4_clear_6 : decode cX4_clear 6 = .ok (.iconst 0, 1) := by decide +kernel
theorem dX4_clear_7 : decode cX4_clear 7 = .ok (.putfield 19, 3) := by decide +kernel
theorem dX4_clear_10 : decode cX4_clear 10 = .ok (.return_, 1) := by decide +kernel
theorem dX4_asked_0 : decode cX4_asked 0 = .ok (.aload_n 0, 1) := by decide +kernel
theorem dX4_asked_1 : decode cX4_asked 1 = .ok (.getfield 19, 3) := by decide +kernel
theorem dX4_asked_4 : decode cX4_asked 4 = .ok (.ireturn, 1) := by decide +kernel
set_option maxRecDepth 20000 in
theorem ggX4_firstFault_X4_signAt : GoodIn wsX4_firstFault wsX4_signAt := goodIn_r _ [6, 7, 8, 9, 10, 23, 24, 25] (by decide +kernel) (by decide +kernel)
set_option maxRecDepth 20000 in
theorem gX4_firstFault_X4_signAt : GoodIn wsX4_firstFault (wsV RX4 30 RX4 yX4_signAt wsX4_signAt) := goodIn_app (goodIn_of _ (by decide +kernel)) ggX4_firstFault_X4_signAt
set_option maxRecDepth 20000 in
theorem ggX4_firstFault_X4_getsIn : GoodIn wsX4_firstFault wsX4_getsIn := goodIn_r _ [13] (by decide +kernel) (by decide +kernel)
set_option maxRecDepth 20000 in
theorem gX4_firstFault_X4_getsIn : GoodIn wsX4_firstFault (va_wsS RX4 34 yX4_getsIn wsX4_getsIn) := goodIn_app (goodIn_of _ (by decide +kernel)) ggX4_firstFault_X4_getsIn
set_option maxRecDepth 20000 in
theorem ggX4_firstFault_X4_getsOut : GoodIn wsX4_firstFault wsX4_getsOut := goodIn_r _ [16] (by decide +kernel) (by decide +kernel)
set_option maxRecDepth 20000 in
theorem gX4_firstFault_X4_getsOut : GoodIn wsX4_firstFault (va_wsS RX4 38 yX4_getsOut wsX4_getsOut) := goodIn_app (goodIn_of _ (by decide +kernel)) ggX4_firstFault_X4_getsOut
set_option maxRecDepth 20000 in
theorem ggX4_firstFault_X4_isDigit : GoodIn wsX4_firstFault wsX4_isDigit := goodIn_r _ [19] (by decide +kernel) (by decide +kernel)
set_option maxRecDepth 20000 in
theorem gX4_firstFault_X4_isDigit : GoodIn wsX4_firstFault (va_wsS RX4 41 yX4_isDigit wsX4_isDigit) := goodIn_app (goodIn_of _ (by decide +kernel)) ggX4_firstFault_X4_isDigit
set_option maxRecDepth 20000 in
theorem ggX4_firstFault_X4_isMotion : GoodIn wsX4_firstFault wsX4_isMotion := goodIn_r _ [22] (by decide +kernel) (by decide +kernel)
set_option maxRecDepth 20000 in
theorem gX4_firstFault_X4_isMotion : GoodIn wsX4_firstFault (va_wsS RX4 44 yX4_isMotion wsX4_isMotion) := goodIn_app (goodIn_of _ (by decide +kernel)) ggX4_firstFault_X4_isMotion
theorem dX4_firstFault_0 : decode cX4_firstFault 0 = .ok (.iconst 0, 1) := by decide +kernel
theorem dX4_firstFault_1 : decode cX4_firstFault 1 = .ok (.istore_n 1, 1) := by decide +kernel
theorem dX4_firstFault_2 : decode cX4_firstFault 2 = .ok (.iconst 0, 1) := by decide +kernel
theorem dX4_firstFault_3 : decode cX4_firstFault 3 = .ok (.istore_n 2, 1) := by decide +kernel
theorem dX4_firstFault_4 : decode cX4_firstFault 4 = .ok (.iload_n 2, 1) := by decide +kernel
theorem dX4_firstFault_5 : decode cX4_firstFault 5 = .ok (.aload_n 0, 1) := by decide +kernel
theorem dX4_firstFault_6 : decode cX4_firstFault 6 = .ok (.getfield 15, 3) := by decide +kernel
theorem dX4_firstFault_9 : decode cX4_firstFault 9 = .ok (.if_icmp .ge 90, 3) := by decide +kernel
theorem dX4_firstFault_12 : decode cX4_firstFault 12 = .ok (.aload_n 0, 1) := by decide +kernel
theorem dX4_firstFault_13 : decode cX4_firstFault 13 = .ok (.iload_n 2, 1) := by decide +kernel
theorem dX4_firstFault_14 : decode cX4_firstFault 14 = .ok (.invokevirtual 30, 3) := by decide +kernel
theorem dX4_firstFault_17 : decode cX4_firstFault 17 = .ok (.istore_n 3, 1) := by decide +kernel
theorem dX4_firstFault_18 : decode cX4_firstFault 18 = .ok (.iload_n 3, 1) := by decide +kernel
theorem dX4_firstFault_19 : decode cX4_firstFault 19 = .ok (.bipush 63, 2) := by decide +kernel
theorem dX4_firstFault_21 : decode cX4_firstFault 21 = .ok (.if_icmp .ne 16, 3) := by decide +kernel
theorem dX4_firstFault_24 : decode cX4_firstFault 24 = .ok (.iload_n 1, 1) := by decide +kernel
theorem dX4_firstFault_25 : decode cX4_firstFault 25 = .ok (.iconst 3, 1) := by decide +kernel
theorem dX4_firstFault_26 : decode cX4_firstFault 26 = .ok (.if_icmp .ge 7, 3) := by decide +kernel
theorem dX4_firstFault_29 : decode cX4_firstFault 29 = .ok (.iconst 1, 1) := by decide +kernel
theorem dX4_firstFault_30 : decode cX4_firstFault 30 = .ok (.goto 40, 3) := by decide +kernel
theorem dX4_firstFault_33 : decode cX4_firstFault 33 = .ok (.iconst 0, 1) := by decide +kernel
theorem dX4_firstFault_34 : decode cX4_firstFault 34 = .ok (.goto 36, 3) := by decide +kernel
theorem dX4_firstFault_37 : decode cX4_firstFault 37 = .ok (.iload_n 3, 1) := by decide +kernel
theorem dX4_firstFault_38 : decode cX4_firstFault 38 = .ok (.invokestatic 34, 3) := by decide +kernel
theorem dX4_firstFault_41 : decode cX4_firstFault 41 = .ok (.ifCond .ne 24, 3) := by decide +kernel
theorem dX4_firstFault_44 : decode cX4_firstFault 44 = .ok (.iload_n 3, 1) := by decide +kernel
theorem dX4_firstFault_45 : decode cX4_firstFault 45 = .ok (.invokestatic 38, 3) := by decide +kernel
theorem dX4_firstFault_48 : decode cX4_firstFault 48 = .ok (.ifCond .ne 17, 3) := by decide +kernel
theorem dX4_firstFault_51 : decode cX4_firstFault 51 = .ok (.iload_n 3, 1) := by decide +kernel
theorem dX4_firstFault_52 : decode cX4_firstFault 52 = .ok (.invokestatic 41, 3) := by decide +kernel
theorem dX4_firstFault_55 : decode cX4_firstFault 55 = .ok (.ifCond .ne 10, 3) := by decide +kernel
theorem dX4_firstFault_58 : decode cX4_firstFault 58 = .ok (.iload_n 3, 1) := by decide +kernel
theorem dX4_firstFault_59 : decode cX4_firstFault 59 = .ok (.invokestatic 44, 3) := by decide +kernel
theorem dX4_firstFault_62 : decode cX4_firstFault 62 = .ok (.ifCond .eq 7, 3) := by decide +kernel
theorem dX4_firstFault_65 : decode cX4_firstFault 65 = .ok (.iconst 1, 1) := by decide +kernel
theorem dX4_firstFault_66 : decode cX4_firstFault 66 = .ok (.goto 4, 3) := by decide +kernel
theorem dX4_firstFault_69 : decode cX4_firstFault 69 = .ok (.iconst 0, 1) := by decide +kernel
theorem dX4_firstFault_70 : decode cX4_firstFault 70 = .ok (.istore 4, 2) := by decide +kernel
theorem dX4_firstFault_72 : decode cX4_firstFault 72 = .ok (.iload 4, 2) := by decide +kernel
theorem dX4_firstFault_74 : decode cX4_firstFault 74 = .ok (.ifCond .ne 5, 3) := by decide +kernel
theorem dX4_firstFault_77 : decode cX4_firstFault 77 = .ok (.iload_n 2, 1) := by decide +kernel
theorem dX4_firstFault_78 : decode cX4_firstFault 78 = .ok (.ireturn, 1) := by decide +kernel
theorem dX4_firstFault_79 : decode cX4_firstFault 79 = .ok (.iload_n 1, 1) := by decide +kernel
theorem dX4_firstFault_80 : decode cX4_firstFault 80 = .ok (.iload_n 3, 1) := by decide +kernel
theorem dX4_firstFault_81 : decode cX4_firstFault 81 = .ok (.bipush 63, 2) := by decide +kernel
theorem dX4_firstFault_83 : decode cX4_firstFault 83 = .ok (.if_icmp .ne 7, 3) := by decide +kernel
theorem dX4_firstFault_86 : decode cX4_firstFault 86 = .ok (.iconst 1, 1) := by decide +kernel
theorem dX4_firstFault_87 : decode cX4_firstFault 87 = .ok (.goto 4, 3) := by decide +kernel
theorem dX4_firstFault_90 : decode cX4_firstFault 90 = .ok (.iconst 0, 1) := by decide +kernel
theorem dX4_firstFault_91 : decode cX4_firstFault 91 = .ok (.iadd, 1) := by decide +kernel
theorem dX4_firstFault_92 : decode cX4_firstFault 92 = .ok (.istore_n 1, 1) := by decide +kernel
theorem dX4_firstFault_93 : decode cX4_firstFault 93 = .ok (.iinc 2 1, 3) := by decide +kernel
theorem dX4_firstFault_96 : decode cX4_firstFault 96 = .ok (.goto (-92), 3) := by decide +kernel
theorem dX4_firstFault_99 : decode cX4_firstFault 99 = .ok (.bipush (-6), 2) := by decide +kernel
theorem dX4_firstFault_101 : decode cX4_firstFault 101 = .ok (.ireturn, 1) := by decide +kernel
set_option maxRecDepth 20000 in
theorem ggX5_init_X9_init : GoodIn wsX5_init wsX9_init := goodIn_r _ [13, 14, 2, 3, 8, 15, 16, 17, 18, 19, 20, 21, 22, 23, 24, 25, 26, 27, 28, 29, 30] (by decide +kernel) (by decide +kernel)
set_option maxRecDepth 20000 in
theorem gX5_init_X9_init : GoodIn wsX5_init (wsX9_init) := ggX5_init_X9_init
theorem dX5_init_0 : decode cX5_init 0 = .ok (.aload_n 0, 1) := by decide +kernel
theorem dX5_init_1 : decode cX5_init 1 = .ok (.invokespecial 3, 3) := by decide +kernel
theorem dX5_init_4 : decode cX5_init 4 = .ok (.aload_n 0, 1) := by decide +kernel
theorem dX5_init_5 : decode cX5_init 5 = .ok (.new 9, 3) := by decide +kernel
theorem dX5_init_8 : decode cX5_init 8 = .ok (.dup, 1) := by decide +kernel
theorem dX5_init_9 : decode cX5_init 9 = .ok (.invokespecial 11, 3) := by decide +kernel
theorem dX5_init_12 : decode cX5_init 12 = .ok (.putfield 12, 3) := by decide +kernel
theorem dX5_init_15 : decode cX5_init 15 = .ok (.aload_n 0, 1) := by decide +kernel
theorem dX5_init_16 : decode cX5_init 16 = .ok (.bipush 8, 2) := by decide +kernel
theorem dX5_init_18 : decode cX5_init 18 = .ok (.newarray .int, 2) := by decide +kernel
theorem dX5_init_20 : decode cX5_init 20 = .ok (.putfield 18, 3) := by decide +kernel
theorem dX5_init_23 : decode cX5_init 23 = .ok (.aload_n 0, 1) := by decide +kernel
theorem dX5_init_24 : decode cX5_init 24 = .ok (.iconst 0, 1) := by decide +kernel
theorem dX5_init_25 : decode cX5_init 25 = .ok (.putfield 22, 3) := by decide +kernel
theorem dX5_init_28 : decode cX5_init 28 = .ok (.return_, 1) := by decide +kernel
set_option maxRecDepth 20000 in
theorem ggX5_count_X9_copyFrom : GoodIn wsX5_count wsX9_copyFrom := goodIn_r _ [7, 8, 9, 10, 11, 12, 13, 14, 15, 16, 17, 18, 19, 20, 21, 22, 23, 24, 89, 90, 91, 92, 93, 94] (by decide +kernel) (by decide +kernel)
set_option maxRecDepth 20000 in
theorem gX5_count_X9_copyFrom : GoodIn wsX5_count (wsV RX5 26 RX9 yX9_copyFrom wsX9_copyFrom) := goodIn_app (goodIn_of _ (by decide +kernel)) ggX5_count_X9_copyFrom
set_option maxRecDepth 20000 in
theorem ggX5_count_X9_clear : GoodIn wsX5_count wsX9_clear := goodIn_r _ [28, 9, 10, 11, 29, 30, 31, 32, 89, 90, 91, 92, 93, 94] (by decide +kernel) (by decide +kernel)
set_option maxRecDepth 20000 in
theorem gX5_count_X9_clear : GoodIn wsX5_count (wsV RX5 30 RX9 yX9_clear wsX9_clear) := goodIn_app (goodIn_of _ (by decide +kernel)) ggX5_count_X9_clear
set_option maxRecDepth 20000 in
theorem ggX5_count_X5_leastOf : GoodIn wsX5_count wsX5_leastOf := goodIn_r _ [36, 37, 15, 38] (by decide +kernel) (by decide +kernel)
set_option maxRecDepth 20000 in
theorem gX5_count_X5_leastOf : GoodIn wsX5_count (va_wsS RX5 33 yX5_leastOf wsX5_leastOf) := goodIn_app (goodIn_of _ (by decide +kernel)) ggX5_count_X5_leastOf
set_option maxRecDepth 20000 in
theorem ggX5_count_X5_settle : GoodIn wsX5_count wsX5_settle := goodIn_r _ [42, 2, 1, 43, 44, 45, 46, 6, 47, 48, 49, 19, 50, 51, 52, 53, 54, 55, 56, 57, 10, 11, 8, 58, 59, 15, 60, 61, 62, 63, 64, 65, 66, 67, 68, 13, 14, 16, 17, 18, 20, 21, 22, 23, 24, 86, 87, 88, 89, 90, 91, 92, 93, 94] (by decide +kernel) (by decide +kernel)
set_option maxRecDepth 20000 in
theorem gX5_count_X5_settle : GoodIn wsX5_count (wsV RX5 37 RX5 yX5_settle wsX5_settle) := goodIn_app (goodIn_of _ (by decide +kernel)) ggX5_count_X5_settle
set_option maxRecDepth 20000 in
theorem ggX5_count_X9_seat : GoodIn wsX5_count wsX9_seat := goodIn_r _ [72, 10, 9, 73, 15, 74, 89, 90, 91, 92, 93, 94] (by decide +kernel) (by decide +kernel)
set_option maxRecDepth 20000 in
theorem gX5_count_X9_seat : GoodIn wsX5_count (wsV RX5 41 RX9 yX9_seat wsX9_seat) := goodIn_app (goodIn_of _ (by decide +kernel)) ggX5_count_X9_seat
set_option maxRecDepth 20000 in
theorem ggX5_count_X5_search : GoodIn wsX5_count wsX5_search := goodIn_r _ [77, 2, 39, 40, 41, 35, 42, 1, 43, 44, 45, 46, 6, 47, 48, 49, 19, 50, 51, 52, 53, 54, 55, 56, 57, 10, 11, 8, 58, 59, 15, 60, 61, 62, 63, 64, 65, 66, 67, 68, 13, 14, 16, 17, 18, 20, 21, 22, 23, 24, 37, 38, 75, 76, 78, 79, 80, 81, 69, 70, 71, 72, 9, 73, 74, 82, 83, 84, 85, 86, 87, 88, 89, 90, 91, 92, 93, 94] (by decide +kernel) (by decide +kernel)
set_option maxRecDepth 20000 in
theorem gX5_count_X5_search : GoodIn wsX5_count (va_wsS RX5 45 yX5_search wsX5_search) := goodIn_app (goodIn_of _ (by decide +kernel)) ggX5_count_X5_search
theorem dX5_count_0 : decode cX5_count 0 = .ok (.aload_n 0, 1) := by decide +kernel
theorem dX5_count_1 : decode cX5_count 1 = .ok (.iconst 0, 1) := by decide +kernel
theorem dX5_count_2 : decode cX5_count 2 = .ok (.putfield 22, 3) := by decide +kernel
theorem dX5_count_5 : decode cX5_count 5 = .ok (.aload_n 0, 1) := by decide +kernel
theorem dX5_count_6 : decode cX5_count 6 = .ok (.getfield 12, 3) := by decide +kernel
theorem dX5_count_9 : decode cX5_count 9 = .ok (.aload_n 1, 1) := by decide +kernel
theorem dX5_count_10 : decode cX5_count 10 = .ok (.invokevirtual 26, 3) := by decide +kernel
theorem dX5_count_13 : decode cX5_count 13 = .ok (.aload_n 0, 1) := by decide +kernel
theorem dX5_count_14 : decode cX5_count 14 = .ok (.getfield 12, 3) := by decide +kernel
theorem dX5_count_17 : decode cX5_count 17 = .ok (.invokevirtual 30, 3) := by decide +kernel
theorem dX5_count_20 : decode cX5_count 20 = .ok (.iload_n 2, 1) := by decide +kernel
theorem dX5_count_21 : decode cX5_count 21 = .ok (.invokestatic 33, 3) := by decide +kernel
theorem dX5_count_24 : decode cX5_count 24 = .ok (.istore_n 3, 1) := by decide +kernel
theorem dX5_count_25 : decode cX5_count 25 = .ok (.iload_n 3, 1) := by decide +kernel
theorem dX5_count_26 : decode cX5_count 26 = .ok (.bipush (-6), 2) := by decide +kernel
theorem dX5_count_28 : decode cX5_count 28 = .ok (.if_icmp .ne 8, 3) := by decide +kernel
theorem dX5_count_31 : decode cX5_count 31 = .ok (.aload_n 0, 1) := by decide +kernel
theorem dX5_count_32 : decode cX5_count 32 = .ok (.invokevirtual 37, 3) := by decide +kernel
theorem dX5_count_35 : decode cX5_count 35 = .ok (.ireturn, 1) := by decide +kernel
theorem dX5_count_36 : decode cX5_count 36 = .ok (.aload_n 0, 1) := by decide +kernel
theorem dX5_count_37 : decode cX5_count 37 = .ok (.getfield 12, 3) := by decide +kernel
theorem dX5_count_40 : decode cX5_count 40 = .ok (.iload_n 3, 1) := by decide +kernel
theorem dX5_count_41 : decode cX5_count 41 = .ok (.iconst 0, 1) := by decide +kernel
theorem dX5_count_42 : decode cX5_count 42 = .ok (.invokevirtual 41, 3) := by decide +kernel
theorem dX5_count_45 : decode cX5_count 45 = .ok (.bipush 8, 2) := by decide +kernel
theorem dX5_count_47 : decode cX5_count 47 = .ok (.aload_n 0, 1) := by decide +kernel
theorem dX5_count_48 : decode cX5_count 48 = .ok (.iload_n 2, 1) := by decide +kernel
theorem dX5_count_49 : decode cX5_count 49 = .ok (.iload_n 3, 1) := by decide +kernel
theorem dX5_count_50 : decode cX5_count 50 = .ok (.iconst 1, 1) := by decide +kernel
theorem dX5_count_51 : decode cX5_count 51 = .ok (.iadd, 1) := by decide +kernel
theorem dX5_count_52 : decode cX5_count 52 = .ok (.invokestatic 45, 3) := by decide +kernel
theorem dX5_count_55 : decode cX5_count 55 = .ok (.imul, 1) := by decide +kernel
theorem dX5_count_56 : decode cX5_count 56 = .ok (.ireturn, 1) := by decide +kernel
set_option maxRecDepth 20000 in
theorem ggX5_leastOf_X10_isOf : GoodIn wsX5_leastOf wsX10_isOf := goodIn_r _ [3] (by decide +kernel) (by decide +kernel)
set_option maxRecDepth 20000 in
theorem gX5_leastOf_X10_isOf_n49 : GoodIn wsX5_leastOf (wsX10_isOf) := ggX5_leastOf_X10_isOf
theorem dX5_leastOf_0 : decode cX5_leastOf 0 = .ok (.iconst 0, 1) := by decide +kernel
theorem dX5_leastOf_1 : decode cX5_leastOf 1 = .ok (.istore_n 1, 1) := by decide +kernel
theorem dX5_leastOf_2 : decode cX5_leastOf 2 = .ok (.iload_n 1, 1) := by decide +kernel
theorem dX5_leastOf_3 : decode cX5_leastOf 3 = .ok (.bipush 8, 2) := by decide +kernel
theorem dX5_leastOf_5 : decode cX5_leastOf 5 = .ok (.if_icmp .ge 19, 3) := by decide +kernel
theorem dX5_leastOf_8 : decode cX5_leastOf 8 = .ok (.iload_n 0, 1) := by decide +kernel
theorem dX5_leastOf_9 : decode cX5_leastOf 9 = .ok (.iload_n 1, 1) := by decide +kernel
theorem dX5_leastOf_10 : decode cX5_leastOf 10 = .ok (.invokestatic 49, 3) := by decide +kernel
theorem dX5_leastOf_13 : decode cX5_leastOf 13 = .ok (.ifCond .eq 5, 3) := by decide +kernel
theorem dX5_leastOf_16 : decode cX5_leastOf 16 = .ok (.iload_n 1, 1) := by decide +kernel
theorem dX5_leastOf_17 : decode cX5_leastOf 17 = .ok (.ireturn, 1) := by decide +kernel
theorem dX5_leastOf_18 : decode cX5_leastOf 18 = .ok (.iinc 1 1, 3) := by decide +kernel
theorem dX5_leastOf_21 : decode cX5_leastOf 21 = .ok (.goto (-19), 3) := by decide +kernel
theorem dX5_leastOf_24 : decode cX5_leastOf 24 = .ok (.bipush (-6), 2) := by decide +kernel
theorem dX5_leastOf_26 : decode cX5_leastOf 26 = .ok (.ireturn, 1) := by decide +kernel
set_option maxRecDepth 20000 in
theorem ggX5_carInFirst_X10_at : GoodIn wsX5_carInFirst wsX10_at := goodIn_r _ [4] (by decide +kernel) (by decide +kernel)
set_option maxRecDepth 20000 in
theorem gX5_carInFirst_X10_at_n53 : GoodIn wsX5_carInFirst (wsX10_at) := ggX5_carInFirst_X10_at
theorem dX5_carInFirst_0 : decode cX5_carInFirst 0 = .ok (.aload_n 0, 1) := by decide +kernel
theorem dX5_carInFirst_1 : decode cX5_carInFirst 1 = .ok (.getfield 18, 3) := by decide +kernel
theorem dX5_carInFirst_4 : decode cX5_carInFirst 4 = .ok (.iload_n 1, 1) := by decide +kernel
theorem dX5_carInFirst_5 : decode cX5_carInFirst 5 = .ok (.invokestatic 53, 3) := by decide +kernel
theorem dX5_carInFirst_8 : decode cX5_carInFirst 8 = .ok (.ireturn, 1) := by decide +kernel
set_option maxRecDepth 20000 in
theorem ggX5_search_X5_settle : GoodIn wsX5_search wsX5_settle := goodIn_r _ [6, 1, 7, 8, 9, 10, 11, 12, 13, 14, 15, 16, 17, 18, 19, 20, 21, 22, 23, 24, 25, 26, 27, 28, 29, 30, 31, 32, 33, 34, 35, 36, 37, 38, 39, 40, 41, 42, 43, 44, 45, 46, 47, 48, 49, 69, 70, 71, 72, 73, 74, 75, 76, 77] (by decide +kernel) (by decide +kernel)
set_option maxRecDepth 20000 in
theorem gX5_search_X5_settle : GoodIn wsX5_search (wsV RX5 37 RX5 yX5_settle wsX5_settle) := goodIn_app (goodIn_of _ (by decide +kernel)) ggX5_search_X5_settle
set_option maxRecDepth 20000 in
theorem ggX5_search_X10_isOf : GoodIn wsX5_search wsX10_isOf := goodIn_r _ [51] (by decide +kernel) (by decide +kernel)
set_option maxRecDepth 20000 in
theorem gX5_search_X10_isOf_n49 : GoodIn wsX5_search (wsX10_isOf) := ggX5_search_X10_isOf
set_option maxRecDepth 20000 in
theorem ggX5_search_X5_search : GoodIn wsX5_search wsX5_search := goodIn_r _ [0, 1, 2, 3, 4, 5, 6, 7, 8, 9, 10, 11, 12, 13, 14, 15, 16, 17, 18, 19, 20, 21, 22, 23, 24, 25, 26, 27, 28, 29, 30, 31, 32, 33, 34, 35, 36, 37, 38, 39, 40, 41, 42, 43, 44, 45, 46, 47, 48, 49, 50, 51, 52, 53, 54, 55, 56, 57, 58, 59, 60, 61, 62, 63, 64, 65, 66, 67, 68, 69, 70, 71, 72, 73, 74, 75, 76, 77] (by decide +kernel) (by decide +kernel)
set_option maxRecDepth 20000 in
theorem gX5_search_X5_search : GoodIn wsX5_search (va_wsS RX5 45 yX5_search wsX5_search) := goodIn_app (goodIn_of _ (by decide +kernel)) ggX5_search_X5_search
set_option maxRecDepth 20000 in
theorem ggX5_search_X9_riderOf : GoodIn wsX5_search wsX9_riderOf := goodIn_r _ [57, 25, 29, 30, 31, 72, 73, 74, 75, 76, 77] (by decide +kernel) (by decide +kernel)
set_option maxRecDepth 20000 in
theorem gX5_search_X9_riderOf : GoodIn wsX5_search (wsV RX5 57 RX9 yX9_riderOf wsX9_riderOf) := goodIn_app (goodIn_of _ (by decide +kernel)) ggX5_search_X9_riderOf
set_option maxRecDepth 20000 in
theorem ggX5_search_X9_seat : GoodIn wsX5_search wsX9_seat := goodIn_r _ [61, 25, 62, 63, 30, 64, 72, 73, 74, 75, 76, 77] (by decide +kernel) (by decide +kernel)
set_option maxRecDepth 20000 in
theorem gX5_search_X9_seat : GoodIn wsX5_search (wsV RX5 41 RX9 yX9_seat wsX9_seat) := goodIn_app (goodIn_of _ (by decide +kernel)) ggX5_search_X9_seat
set_option maxRecDepth 20000 in
theorem ggX5_search_X9_unseat : GoodIn wsX5_search wsX9_unseat := goodIn_r _ [68, 62, 25, 29, 30, 31, 63, 64, 72, 73, 74, 75, 76, 77] (by decide +kernel) (by decide +kernel)
set_option maxRecDepth 20000 in
theorem gX5_search_X9_unseat : GoodIn wsX5_search (wsV RX5 60 RX9 yX9_unseat wsX9_unseat) := goodIn_app (goodIn_of _ (by decide +kernel)) ggX5_search_X9_unseat
theorem dX5_search_0 : decode cX5_search 0 = .ok (.iload_n 2, 1) := by decide +kernel
theorem dX5_search_1 : decode cX5_search 1 = .ok (.bipush 8, 2) := by decide +kernel
theorem dX5_search_3 : decode cX5_search 3 = .ok (.if_icmp .lt 8, 3) := by decide +kernel
theorem dX5_search_6 : decode cX5_search 6 = .ok (.aload_n 0, 1) := by decide +kernel
theorem dX5_search_7 : decode cX5_search 7 = .ok (.invokevirtual 37, 3) := by decide +kernel
theorem dX5_search_10 : decode cX5_search 10 = .ok (.ireturn, 1) := by decide +kernel
theorem dX5_search_11 : decode cX5_search 11 = .ok (.iload_n 1, 1) := by decide +kernel
theorem dX5_search_12 : decode cX5_search 12 = .ok (.iload_n 2, 1) := by decide +kernel
theorem dX5_search_13 : decode cX5_search 13 = .ok (.invokestatic 49, 3) := by decide +kernel
theorem dX5_search_16 : decode cX5_search 16 = .ok (.ifCond .ne 12, 3) := by decide +kernel
theorem dX5_search_19 : decode cX5_search 19 = .ok (.aload_n 0, 1) := by decide +kernel
theorem dX5_search_20 : decode cX5_search 20 = .ok (.iload_n 1, 1) := by decide +kernel
theorem dX5_search_21 : decode cX5_search 21 = .ok (.iload_n 2, 1) := by decide +kernel
theorem dX5_search_22 : decode cX5_search 22 = .ok (.iconst 1, 1) := by decide +kernel
theorem dX5_search_23 : decode cX5_search 23 = .ok (.iadd, 1) := by decide +kernel
theorem dX5_search_24 : decode cX5_search 24 = .ok (.invokestatic 45, 3) := by decide +kernel
theorem dX5_search_27 : decode cX5_search 27 = .ok (.ireturn, 1) := by decide +kernel
theorem dX5_search_28 : decode cX5_search 28 = .ok (.iconst 0, 1) := by decide +kernel
theorem dX5_search_29 : decode cX5_search 29 = .ok (.istore_n 3, 1) := by decide +kernel
theorem dX5_search_30 : decode cX5_search 30 = .ok (.iconst 0, 1) := by decide +kernel
theorem dX5_search_31 : decode cX5_search 31 = .ok (.istore 4, 2) := by decide +kernel
theorem dX5_search_33 : decode cX5_search 33 = .ok (.iload 4, 2) := by decide +kernel
theorem dX5_search_35 : decode cX5_search 35 = .ok (.bipush 8, 2) := by decide +kernel
theorem dX5_search_37 : decode cX5_search 37 = .ok (.if_icmp .ge 53, 3) := by decide +kernel
theorem dX5_search_40 : decode cX5_search 40 = .ok (.aload_n 0, 1) := by decide +kernel
theorem dX5_search_41 : decode cX5_search 41 = .ok (.getfield 12, 3) := by decide +kernel
theorem dX5_search_44 : decode cX5_search 44 = .ok (.iload 4, 2) := by decide +kernel
theorem dX5_search_46 : decode cX5_search 46 = .ok (.invokevirtual 57, 3) := by decide +kernel
theorem dX5_search_49 : decode cX5_search 49 = .ok (.bipush (-6), 2) := by decide +kernel
theorem dX5_search_51 : decode cX5_search 51 = .ok (.if_icmp .ne 33, 3) := by decide +kernel
theorem dX5_search_54 : decode cX5_search 54 = .ok (.aload_n 0, 1) := by decide +kernel
theorem dX5_search_55 : decode cX5_search 55 = .ok (.getfield 12, 3) := by decide +kernel
theorem dX5_search_58 : decode cX5_search 58 = .ok (.iload_n 2, 1) := by decide +kernel
theorem dX5_search_59 : decode cX5_search 59 = .ok (.iload 4, 2) := by decide +kernel
theorem dX5_search_61 : decode cX5_search 61 = .ok (.invokevirtual 41, 3) := by decide +kernel
theorem dX5_search_64 : decode cX5_search 64 = .ok (.iload_n 3, 1) := by decide +kernel
theorem dX5_search_65 : decode cX5_search 65 = .ok (.aload_n 0, 1) := by decide +kernel
theorem dX5_search_66 : decode cX5_search 66 = .ok (.iload_n 1, 1) := by decide +kernel
theorem dX5_search_67 : decode cX5_search 67 = .ok (.iload_n 2, 1) := by decide +kernel
theorem dX5_search_68 : decode cX5_search 68 = .ok (.iconst 1, 1) := by decide +kernel
theorem dX5_search_69 : decode cX5_search 69 = .ok (.iadd, 1) := by decide +kernel
theorem dX5_search_70 : decode cX5_search 70 = .ok (.invokestatic 45, 3) := by decide +kernel
theorem dX5_search_73 : decode cX5_search 73 = .ok (.iadd, 1) := by decide +kernel
theorem dX5_search_74 : decode cX5_search 74 = .ok (.istore_n 3, 1) := by decide +kernel
theorem dX5_search_75 : decode cX5_search 75 = .ok (.aload_n 0, 1) := by decide +kernel
theorem dX5_search_76 : decode cX5_search 76 = .ok (.getfield 12, 3) := by decide +kernel
theorem dX5_search_79 : decode cX5_search 79 = .ok (.iload 4, 2) := by decide +kernel
theorem dX5_search_81 : decode cX5_search 81 = .ok (.invokevirtual 60, 3) := by decide +kernel
theorem dX5_search_84 : decode cX5_search 84 = .ok (.iinc 4 1, 3) := by decide +kernel
theorem dX5_search_87 : decode cX5_search 87 = .ok (.goto (-54), 3) := by decide +kernel
theorem dX5_search_90 : decode cX5_search 90 = .ok (.iload_n 3, 1) := by decide +kernel
theorem dX5_search_91 : decode cX5_search 91 = .ok (.ireturn, 1) := by decide +kernel
set_option maxRecDepth 20000 in
theorem ggX5_settle_X9_greatestPull : GoodIn wsX5_settle wsX9_greatestPull := goodIn_r _ [8, 9, 10, 11, 12, 13, 14, 15, 16, 17, 18, 7, 19, 20, 21, 22, 23, 24, 25, 26, 27, 28, 29, 30, 48, 49, 50, 51, 52, 53] (by decide +kernel) (by decide +kernel)
set_option maxRecDepth 20000 in
theorem gX5_settle_X9_greatestPull : GoodIn wsX5_settle (wsV RX5 64 RX9 yX9_greatestPull wsX9_greatestPull) := goodIn_app (goodIn_of _ (by decide +kernel)) ggX5_settle_X9_greatestPull
set_option maxRecDepth 20000 in
theorem ggX5_settle_X9_friction : GoodIn wsX5_settle wsX9_friction := goodIn_r _ [34, 35, 48, 49, 50, 51, 52, 53] (by decide +kernel) (by decide +kernel)
set_option maxRecDepth 20000 in
theorem gX5_settle_X9_friction : GoodIn wsX5_settle (wsV RX5 67 RX9 yX9_friction wsX9_friction) := goodIn_app (goodIn_of _ (by decide +kernel)) ggX5_settle_X9_friction
set_option maxRecDepth 20000 in
theorem ggX5_settle_X10_copyRow : GoodIn wsX5_settle wsX10_copyRow := goodIn_r _ [37, 38, 39, 11, 40, 41, 42, 43, 44] (by decide +kernel) (by decide +kernel)
set_option maxRecDepth 20000 in
theorem gX5_settle_X10_copyRow_n73 : GoodIn wsX5_settle (wsX10_copyRow) := ggX5_settle_X10_copyRow
theorem dX5_settle_0 : decode cX5_settle 0 = .ok (.aload_n 0, 1) := by decide +kernel
theorem dX5_settle_1 : decode cX5_settle 1 = .ok (.getfield 12, 3) := by decide +kernel
theorem dX5_settle_4 : decode cX5_settle 4 = .ok (.invokevirtual 64, 3) := by decide +kernel
theorem dX5_settle_7 : decode cX5_settle 7 = .ok (.aload_n 0, 1) := by decide +kernel
theorem dX5_settle_8 : decode cX5_settle 8 = .ok (.getfield 12, 3) := by decide +kernel
theorem dX5_settle_11 : decode cX5_settle 11 = .ok (.invokevirtual 67, 3) := by decide +kernel
theorem dX5_settle_14 : decode cX5_settle 14 = .ok (.if_icmp .le 5, 3) := by decide +kernel
theorem dX5_settle_17 : decode cX5_settle 17 = .ok (.iconst 0, 1) := by decide +kernel
theorem dX5_settle_18 : decode cX5_settle 18 = .ok (.ireturn, 1) := by decide +kernel
theorem dX5_settle_19 : decode cX5_settle 19 = .ok (.aload_n 0, 1) := by decide +kernel
theorem dX5_settle_20 : decode cX5_settle 20 = .ok (.getfield 22, 3) := by decide +kernel
theorem dX5_settle_23 : decode cX5_settle 23 = .ok (.ifCond .ne 22, 3) := by decide +kernel
theorem dX5_settle_26 : decode cX5_settle 26 = .ok (.aload_n 0, 1) := by decide +kernel
theorem dX5_settle_27 : decode cX5_settle 27 = .ok (.iconst 1, 1) := by decide +kernel
theorem dX5_settle_28 : decode cX5_settle 28 = .ok (.putfield 22, 3) := by decide +kernel
theorem dX5_settle_31 : decode cX5_settle 31 = .ok (.aload_n 0, 1) := by decide +kernel
theorem dX5_settle_32 : decode cX5_settle 32 = .ok (.getfield 12, 3) := by decide +kernel
theorem dX5_settle_35 : decode cX5_settle 35 = .ok (.getfield 70, 3) := by decide +kernel
theorem dX5_settle_38 : decode cX5_settle 38 = .ok (.aload_n 0, 1) := by decide +kernel
theorem dX5_settle_39 : decode cX5_settle 39 = .ok (.getfield 18, 3) := by decide +kernel
theorem dX5_settle_42 : decode cX5_settle 42 = .ok (.invokestatic 73, 3) := by decide +kernel
theorem dX5_settle_45 : decode cX5_settle 45 = .ok (.iconst 1, 1) := by decide +kernel
theorem dX5_settle_46 : decode cX5_settle 46 = .ok (.ireturn, 1) := by decide +kernel
theorem dX6_init_0 : decode cX6_init 0 = .ok (.aload_n 0, 1) := by decide +kernel
theorem dX6_init_1 : decode cX6_init 1 = .ok (.invokespecial 3, 3) := by decide +kernel
theorem dX6_init_4 : decode cX6_init 4 = .ok (.aload_n 0, 1) := by decide +kernel
theorem dX6_init_5 : decode cX6_init 5 = .ok (.bipush 6, 2) := by decide +kernel
theorem dX6_init_7 : decode cX6_init 7 = .ok (.newarray .int, 2) := by decide +kernel
theorem dX6_init_9 : decode cX6_init 9 = .ok (.putfield 9, 3) := by decide +kernel
theorem dX6_init_12 : decode cX6_init 12 = .ok (.aload_n 0, 1) := by decide +kernel
theorem dX6_init_13 : decode cX6_init 13 = .ok (.bipush 6, 2) := by decide +kernel
theorem dX6_init_15 : decode cX6_init 15 = .ok (.newarray .int, 2) := by decide +kernel
theorem dX6_init_17 : decode cX6_init 17 = .ok (.putfield 15, 3) := by decide +kernel
theorem dX6_init_20 : decode cX6_init 20 = .ok (.aload_n 0, 1) := by decide +kernel
theorem dX6_init_21 : decode cX6_init 21 = .ok (.iconst 0, 1) := by decide +kernel
theorem dX6_init_22 : decode cX6_init 22 = .ok (.putfield 18, 3) := by decide +kernel
theorem dX6_init_25 : decode cX6_init 25 = .ok (.return_, 1) := by decide +kernel
set_option maxRecDepth 20000 in
theorem ggX6_copyFrom_X10_copyRow : GoodIn wsX6_copyFrom wsX10_copyRow := goodIn_r _ [6, 7, 8, 9, 10, 11, 12, 13, 14] (by decide +kernel) (by decide +kernel)
set_option maxRecDepth 20000 in
theorem gX6_copyFrom_X10_copyRow_n22 : GoodIn wsX6_copyFrom (wsX10_copyRow) := ggX6_copyFrom_X10_copyRow
theorem dX6_copyFrom_0 : decode cX6_copyFrom 0 = .ok (.aload_n 1, 1) := by decide +kernel
theorem dX6_copyFrom_1 : decode cX6_copyFrom 1 = .ok (.getfield 9, 3) := by decide +kernel
theorem dX6_copyFrom_4 : decode cX6_copyFrom 4 = .ok (.aload_n 0, 1) := by decide +kernel
theorem dX6_copyFrom_5 : decode cX6_copyFrom 5 = .ok (.getfield 9, 3) := by decide +kernel
theorem dX6_copyFrom_8 : decode cX6_copyFrom 8 = .ok (.invokestatic 22, 3) := by decide +kernel
theorem dX6_copyFrom_11 : decode cX6_copyFrom 11 = .ok (.aload_n 1, 1) := by decide +kernel
theorem dX6_copyFrom_12 : decode cX6_copyFrom 12 = .ok (.getfield 15, 3) := by decide +kernel
theorem dX6_copyFrom_15 : decode cX6_copyFrom 15 = .ok (.aload_n 0, 1) := by decide +kernel
theorem dX6_copyFrom_16 : decode cX6_copyFrom 16 = .ok (.getfield 15, 3) := by decide +kernel
theorem dX6_copyFrom_19 : decode cX6_copyFrom 19 = .ok (.invokestatic 22, 3) := by decide +kernel
theorem dX6_copyFrom_22 : decode cX6_copyFrom 22 = .ok (.aload_n 0, 1) := by decide +kernel
theorem dX6_copyFrom_23 : decode cX6_copyFrom 23 = .ok (.aload_n 1, 1) := by decide +kernel
theorem dX6_copyFrom_24 : decode cX6_copyFrom 24 = .ok (.getfield 18, 3) := by decide +kernel
theorem dX6_copyFrom_27 : decode cX6_copyFrom 27 = .ok (.putfield 18, 3) := by decide +kernel
theorem dX6_copyFrom_30 : decode cX6_copyFrom 30 = .ok (.return_, 1) := by decide +kernel
theorem dX6_count_0 : decode cX6_count 0 = .ok (.aload_n 0, 1) := by decide +kernel
theorem dX6_count_1 : decode cX6_count 1 = .ok (.getfield 18, 3) := by decide +kernel
theorem dX6_count_4 : decode cX6_count 4 = .ok (.ireturn, 1) := by decide +kernel
set_option maxRecDepth 20000 in
theorem ggX6_add_X10_put : GoodIn wsX6_add wsX10_put := goodIn_r _ [6] (by decide +kernel) (by decide +kernel)
set_option maxRecDepth 20000 in
theorem gX6_add_X10_put_n26 : GoodIn wsX6_add (wsX10_put) := ggX6_add_X10_put
theorem dX6_add_0 : decode cX6_add 0 = .ok (.aload_n 0, 1) := by decide +kernel
theorem dX6_add_1 : decode cX6_add 1 = .ok (.getfield 18, 3) := by decide +kernel
theorem dX6_add_4 : decode cX6_add 4 = .ok (.bipush 6, 2) := by decide +kernel
theorem dX6_add_6 : decode cX6_add 6 = .ok (.if_icmp .ge 37, 3) := by decide +kernel
theorem dX6_add_9 : decode cX6_add 9 = .ok (.aload_n 0, 1) := by decide +kernel
theorem dX6_add_10 : decode cX6_add 10 = .ok (.getfield 9, 3) := by decide +kernel
theorem dX6_add_13 : decode cX6_add 13 = .ok (.aload_n 0, 1) := by decide +kernel
theorem dX6_add_14 : decode cX6_add 14 = .ok (.getfield 18, 3) := by decide +kernel
theorem dX6_add_17 : decode cX6_add 17 = .ok (.iload_n 1, 1) := by decide +kernel
theorem dX6_add_18 : decode cX6_add 18 = .ok (.invokestatic 26, 3) := by decide +kernel
theorem dX6_add_21 : decode cX6_add 21 = .ok (.aload_n 0, 1) := by decide +kernel
theorem dX6_add_22 : decode cX6_add 22 = .ok (.getfield 15, 3) := by decide +kernel
theorem dX6_add_25 : decode cX6_add 25 = .ok (.aload_n 0, 1) := by decide +kernel
theorem dX6_add_26 : decode cX6_add 26 = .ok (.getfield 18, 3) := by decide +kernel
theorem dX6_add_29 : decode cX6_add 29 = .ok (.iload_n 2, 1) := by decide +kernel
theorem dX6_add_30 : decode cX6_add 30 = .ok (.invokestatic 26, 3) := by decide +kernel
theorem dX6_add_33 : decode cX6_add 33 = .ok (.aload_n 0, 1) := by decide +kernel
theorem dX6_add_34 : decode cX6_add 34 = .ok (.dup, 1) := by decide +kernel
theorem dX6_add_35 : decode cX6_add 35 = .ok (.getfield 18, 3) := by decide +kernel
theorem dX6_add_38 : decode cX6_add 38 = .ok (.iconst 1, 1) := by decide +kernel
theorem dX6_add_39 : decode cX6_add 39 = .ok (.iadd, 1) := by decide +kernel
theorem dX6_add_40 : decode cX6_add 40 = .ok (.putfield 18, 3) := by decide +kernel
theorem dX6_add_43 : decode cX6_add 43 = .ok (.return_, 1) := by decide +kernel
theorem dX6_clear_0 : decode cX6_clear 0 = .ok (.aload_n 0, 1) := by decide +kernel
theorem dX6_clear_1 : decode cX6_clear 1 = .ok (.iconst 0, 1) := by decide +kernel
theorem dX6_clear_2 : decode cX6_clear 2 = .ok (.putfield 18, 3) := by decide +kernel
theorem dX6_clear_5 : decode cX6_clear 5 = .ok (.return_, 1) := by decide +kernel
set_option maxRecDepth 20000 in
theorem ggX6_areTrue_X10_at : GoodIn wsX6_areTrue wsX10_at := goodIn_r _ [6] (by decide +kernel) (by decide +kernel)
set_option maxRecDepth 20000 in
theorem gX6_areTrue_X10_at_n30 : GoodIn wsX6_areTrue (wsX10_at) := ggX6_areTrue_X10_at
set_option maxRecDepth 20000 in
theorem ggX6_areTrue_X9_carOf : GoodIn wsX6_areTrue wsX9_carOf := goodIn_r _ [11, 12, 4, 5, 6, 16, 17, 18, 19, 20, 21] (by decide +kernel) (by decide +kernel)
set_option maxRecDepth 20000 in
theorem gX6_areTrue_X9_carOf : GoodIn wsX6_areTrue (wsV RX6 34 RX9 yX9_carOf wsX9_carOf) := goodIn_app (goodIn_of _ (by decide +kernel)) ggX6_areTrue_X9_carOf
theorem dX6_areTrue_0 : decode cX6_areTrue 0 = .ok (.iconst 0, 1) := by decide +kernel
theorem dX6_areTrue_1 : decode cX6_areTrue 1 = .ok (.istore_n 2, 1) := by decide +kernel
theorem dX6_areTrue_2 : decode cX6_areTrue 2 = .ok (.iload_n 2, 1) := by decide +kernel
theorem dX6_areTrue_3 : decode cX6_areTrue 3 = .ok (.aload_n 0, 1) := by decide +kernel
theorem dX6_areTrue_4 : decode cX6_areTrue 4 = .ok (.getfield 18, 3) := by decide +kernel
theorem dX6_areTrue_7 : decode cX6_areTrue 7 = .ok (.if_icmp .ge 34, 3) := by decide +kernel
theorem dX6_areTrue_10 : decode cX6_areTrue 10 = .ok (.aload_n 1, 1) := by decide +kernel
theorem dX6_areTrue_11 : decode cX6_areTrue 11 = .ok (.aload_n 0, 1) := by decide +kernel
theorem dX6_areTrue_12 : decode cX6_areTrue 12 = .ok (.getfield 9, 3) := by decide +kernel
theorem dX6_areTrue_15 : decode cX6_areTrue 15 = .ok (.iload_n 2, 1) := by decide +kernel
theorem dX6_areTrue_16 : decode cX6_areTrue 16 = .ok (.invokestatic 30, 3) := by decide +kernel
theorem dX6_areTrue_19 : decode cX6_areTrue 19 = .ok (.invokevirtual 34, 3) := by decide +kernel
theorem dX6_areTrue_22 : decode cX6_areTrue 22 = .ok (.aload_n 0, 1) := by decide +kernel
theorem dX6_areTrue_23 : decode cX6_areTrue 23 = .ok (.getfield 15, 3) := by decide +kernel
theorem dX6_areTrue_26 : decode cX6_areTrue 26 = .ok (.iload_n 2, 1) := by decide +kernel
theorem dX6_areTrue_27 : decode cX6_areTrue 27 = .ok (.invokestatic 30, 3) := by decide +kernel
theorem dX6_areTrue_30 : decode cX6_areTrue 30 = .ok (.if_icmp .eq 5, 3) := by decide +kernel
theorem dX6_areTrue_33 : decode cX6_areTrue 33 = .ok (.iconst 0, 1) := by decide +kernel
theorem dX6_areTrue_34 : decode cX6_areTrue 34 = .ok (.ireturn, 1) := by decide +kernel
theorem dX6_areTrue_35 : decode cX6_areTrue 35 = .ok (.iinc 2 1, 3) := by decide +kernel
theorem dX6_areTrue_38 : decode cX6_areTrue 38 = .ok (.goto (-36), 3) := by decide +kernel
theorem dX6_areTrue_41 : decode cX6_areTrue 41 = .ok (.iconst 1, 1) := by decide +kernel
theorem dX6_areTrue_42 : decode cX6_areTrue 42 = .ok (.ireturn, 1) := by decide +kernel
set_option maxRecDepth 20000 in
theorem ggX7_init_X9_init : GoodIn wsX7_init wsX9_init := goodIn_r _ [16, 17, 2, 3, 18, 19, 20, 21, 22, 23, 24, 25, 26, 27, 28, 29, 30, 31, 32, 33, 34] (by decide +kernel) (by decide +kernel)
set_option maxRecDepth 20000 in
theorem gX7_init_X9_init : GoodIn wsX7_init (wsX9_init) := ggX7_init_X9_init
theorem dX7_init_0 : decode cX7_init 0 = .ok (.aload_n 0, 1) := by decide +kernel
theorem dX7_init_1 : decode cX7_init 1 = .ok (.invokespecial 3, 3) := by decide +kernel
theorem dX7_init_4 : decode cX7_init 4 = .ok (.aload_n 0, 1) := by decide +kernel
theorem dX7_init_5 : decode cX7_init 5 = .ok (.new 9, 3) := by decide +kernel
theorem dX7_init_8 : decode cX7_init 8 = .ok (.dup, 1) := by decide +kernel
theorem dX7_init_9 : decode cX7_init 9 = .ok (.invokespecial 11, 3) := by decide +kernel
theorem dX7_init_12 : decode cX7_init 12 = .ok (.putfield 12, 3) := by decide +kernel
theorem dX7_init_15 : decode cX7_init 15 = .ok (.aload_n 0, 1) := by decide +kernel
theorem dX7_init_16 : decode cX7_init 16 = .ok (.bipush (-6), 2) := by decide +kernel
theorem dX7_init_18 : decode cX7_init 18 = .ok (.putfield 18, 3) := by decide +kernel
theorem dX7_init_21 : decode cX7_init 21 = .ok (.aload_n 0, 1) := by decide +kernel
theorem dX7_init_22 : decode cX7_init 22 = .ok (.bipush (-6), 2) := by decide +kernel
theorem dX7_init_24 : decode cX7_init 24 = .ok (.putfield 22, 3) := by decide +kernel
theorem dX7_init_27 : decode cX7_init 27 = .ok (.aload_n 0, 1) := by decide +kernel
theorem dX7_init_28 : decode cX7_init 28 = .ok (.iconst 0, 1) := by decide +kernel
theorem dX7_init_29 : decode cX7_init 29 = .ok (.putfield 25, 3) := by decide +kernel
theorem dX7_init_32 : decode cX7_init 32 = .ok (.aload_n 0, 1) := by decide +kernel
theorem dX7_init_33 : decode cX7_init 33 = .ok (.iconst 0, 1) := by decide +kernel
theorem dX7_init_34 : decode cX7_init 34 = .ok (.putfield 28, 3) := by decide +kernel
theorem dX7_init_37 : decode cX7_init 37 = .ok (.aload_n 0, 1) := by decide +kernel
theorem dX7_init_38 : decode cX7_init 38 = .ok (.iconst 0, 1) := by decide +kernel
theorem dX7_init_39 : decode cX7_init 39 = .ok (.putfield 31, 3) := by decide +kernel
theorem dX7_init_42 : decode cX7_init 42 = .ok (.aload_n 0, 1) := by decide +kernel
theorem dX7_init_43 : decode cX7_init 43 = .ok (.iconst 0, 1) := by decide +kernel
theorem dX7_init_44 : decode cX7_init 44 = .ok (.putfield 34, 3) := by decide +kernel
theorem dX7_init_47 : decode cX7_init 47 = .ok (.return_, 1) := by decide +kernel
theorem dX7_wheel_0 : decode cX7_wheel 0 = .ok (.aload_n 0, 1) := by decide +kernel
theorem dX7_wheel_1 : decode cX7_wheel 1 = .ok (.getfield 12, 3) := by decide +kernel
theorem dX7_wheel_4 : decode cX7_wheel 4 = .ok (.areturn, 1) := by decide +kernel
theorem dX7_failedEvent_0 : decode cX7_failedEvent 0 = .ok (.aload_n 0, 1) := by decide +kernel
theorem dX7_failedEvent_1 : decode cX7_failedEvent 1 = .ok (.getfield 18, 3) := by decide +kernel
theorem dX7_failedEvent_4 : decode cX7_failedEvent 4 = .ok (.ireturn, 1) := by decide +kernel
theorem dX7_reason_0 : decode cX7_reason 0 = .ok (.aload_n 0, 1) := by decide +kernel
theorem dX7_reason_1 : decode cX7_reason 1 = .ok (.getfield 22, 3) := by decide +kernel
theorem dX7_reason_4 : decode cX7_reason 4 = .ok (.ireturn, 1) := by decide +kernel
theorem dX7_turned_0 : decode cX7_turned 0 = .ok (.aload_n 0, 1) := by decide +kernel
theorem dX7_turned_1 : decode cX7_turned 1 = .ok (.getfield 25, 3) := by decide +kernel
theorem dX7_turned_4 : decode cX7_turned 4 = .ok (.ireturn, 1) := by decide +kernel
set_option maxRecDepth 20000 in
theorem ggX7_tell_X9_copyFrom : GoodIn wsX7_tell wsX9_copyFrom := goodIn_r _ [12, 13, 14, 15, 16, 17, 18, 19, 20, 21, 22, 23, 24, 25, 26, 27, 28, 29, 141, 142, 143, 144, 145, 146] (by decide +kernel) (by decide +kernel)
set_option maxRecDepth 20000 in
theorem gX7_tell_X9_copyFrom : GoodIn wsX7_tell (wsV RX7 37 RX9 yX9_copyFrom wsX9_copyFrom) := goodIn_app (goodIn_of _ (by decide +kernel)) ggX7_tell_X9_copyFrom
set_option maxRecDepth 20000 in
theorem ggX7_tell_X4_asked : GoodIn wsX7_tell wsX4_asked := goodIn_r _ [34, 35, 147, 148, 149] (by decide +kernel) (by decide +kernel)
set_option maxRecDepth 20000 in
theorem gX7_tell_X4_asked : GoodIn wsX7_tell (wsV RX7 41 RX4 yX4_asked wsX4_asked) := goodIn_app (goodIn_of _ (by decide +kernel)) ggX7_tell_X4_asked
set_option maxRecDepth 20000 in
theorem ggX7_tell_X4_length : GoodIn wsX7_tell wsX4_length := goodIn_r _ [39, 40, 147, 148, 149] (by decide +kernel) (by decide +kernel)
set_option maxRecDepth 20000 in
theorem gX7_tell_X4_length : GoodIn wsX7_tell (wsV RX7 46 RX4 yX4_length wsX4_length) := goodIn_app (goodIn_of _ (by decide +kernel)) ggX7_tell_X4_length
set_option maxRecDepth 20000 in
theorem ggX7_tell_X4_signAt : GoodIn wsX7_tell wsX4_signAt := goodIn_r _ [44, 45, 46, 20, 47, 147, 148, 149] (by decide +kernel) (by decide +kernel)
set_option maxRecDepth 20000 in
theorem gX7_tell_X4_signAt : GoodIn wsX7_tell (wsV RX7 49 RX4 yX4_signAt wsX4_signAt) := goodIn_app (goodIn_of _ (by decide +kernel)) ggX7_tell_X4_signAt
set_option maxRecDepth 20000 in
theorem ggX7_tell_X7_happen : GoodIn wsX7_tell wsX7_happen := goodIn_r _ [52, 4, 1, 5, 7, 6, 53, 54, 55, 11, 56, 17, 57, 58, 59, 60, 15, 16, 13, 61, 46, 20, 47, 62, 63, 64, 65, 66, 67, 68, 69, 18, 70, 71, 72, 73, 74, 75, 33, 76, 77, 78, 79, 80, 81, 82, 83, 51, 84, 85, 86, 87, 88, 89, 90, 91, 92, 93, 94, 95, 96, 97, 98, 99, 100, 101, 102, 103, 104, 105, 106, 107, 108, 109, 14, 110, 111, 112, 113, 114, 115, 116, 117, 118, 119, 120, 121, 122, 123, 124, 125, 126, 127, 128, 129, 130, 131, 132, 133, 134, 135, 136, 137, 138, 139, 140, 141, 142, 143, 144, 145, 146] (by decide +kernel) (by decide +kernel)
set_option maxRecDepth 20000 in
theorem gX7_tell_X7_happen : GoodIn wsX7_tell (wsV RX7 53 RX7 yX7_happen wsX7_happen) := goodIn_app (goodIn_of _ (by decide +kernel)) ggX7_tell_X7_happen
theorem dX7_tell_0 : decode cX7_tell 0 = .ok (.aload_n 0, 1) := by decide +kernel
theorem dX7_tell_1 : decode cX7_tell 1 = .ok (.getfield 12, 3) := by decide +kernel
theorem dX7_tell_4 : decode cX7_tell 4 = .ok (.aload_n 1, 1) := by decide +kernel
theorem dX7_tell_5 : decode cX7_tell 5 = .ok (.invokevirtual 37, 3) := by decide +kernel
theorem dX7_tell_8 : decode cX7_tell 8 = .ok (.aload_n 0, 1) := by decide +kernel
theorem dX7_tell_9 : decode cX7_tell 9 = .ok (.bipush (-6), 2) := by decide +kernel
theorem dX7_tell_11 : decode cX7_tell 11 = .ok (.putfield 18, 3) := by decide +kernel
theorem dX7_tell_14 : decode cX7_tell 14 = .ok (.aload_n 0, 1) := by decide +kernel
theorem dX7_tell_15 : decode cX7_tell 15 = .ok (.bipush (-6), 2) := by decide +kernel
theorem dX7_tell_17 : decode cX7_tell 17 = .ok (.putfield 22, 3) := by decide +kernel
theorem dX7_tell_20 : decode cX7_tell 20 = .ok (.aload_n 0, 1) := by decide +kernel
theorem dX7_tell_21 : decode cX7_tell 21 = .ok (.iconst 0, 1) := by decide +kernel
theorem dX7_tell_22 : decode cX7_tell 22 = .ok (.putfield 25, 3) := by decide +kernel
theorem dX7_tell_25 : decode cX7_tell 25 = .ok (.aload_n 0, 1) := by decide +kernel
theorem dX7_tell_26 : decode cX7_tell 26 = .ok (.iload 4, 2) := by decide +kernel
theorem dX7_tell_28 : decode cX7_tell 28 = .ok (.putfield 28, 3) := by decide +kernel
theorem dX7_tell_31 : decode cX7_tell 31 = .ok (.aload_n 0, 1) := by decide +kernel
theorem dX7_tell_32 : decode cX7_tell 32 = .ok (.aload_n 2, 1) := by decide +kernel
theorem dX7_tell_33 : decode cX7_tell 33 = .ok (.invokevirtual 41, 3) := by decide +kernel
theorem dX7_tell_36 : decode cX7_tell 36 = .ok (.putfield 31, 3) := by decide +kernel
theorem dX7_tell_39 : decode cX7_tell 39 = .ok (.aload_n 0, 1) := by decide +kernel
theorem dX7_tell_40 : decode cX7_tell 40 = .ok (.iconst 0, 1) := by decide +kernel
theorem dX7_tell_41 : decode cX7_tell 41 = .ok (.putfield 34, 3) := by decide +kernel
theorem dX7_tell_44 : decode cX7_tell 44 = .ok (.iconst 0, 1) := by decide +kernel
theorem dX7_tell_45 : decode cX7_tell 45 = .ok (.istore 5, 2) := by decide +kernel
theorem dX7_tell_47 : decode cX7_tell 47 = .ok (.iload 5, 2) := by decide +kernel
theorem dX7_tell_49 : decode cX7_tell 49 = .ok (.aload_n 2, 1) := by decide +kernel
theorem dX7_tell_50 : decode cX7_tell 50 = .ok (.invokevirtual 46, 3) := by decide +kernel
theorem dX7_tell_53 : decode cX7_tell 53 = .ok (.if_icmp .ge 50, 3) := by decide +kernel
theorem dX7_tell_56 : decode cX7_tell 56 = .ok (.iload 5, 2) := by decide +kernel
theorem dX7_tell_58 : decode cX7_tell 58 = .ok (.iload_n 3, 1) := by decide +kernel
theorem dX7_tell_59 : decode cX7_tell 59 = .ok (.if_icmp .ne 7, 3) := by decide +kernel
theorem dX7_tell_62 : decode cX7_tell 62 = .ok (.iconst 0, 1) := by decide +kernel
theorem dX7_tell_63 : decode cX7_tell 63 = .ok (.goto 13, 3) := by decide +kernel
theorem dX7_tell_66 : decode cX7_tell 66 = .ok (.aload_n 0, 1) := by decide +kernel
theorem dX7_tell_67 : decode cX7_tell 67 = .ok (.aload_n 2, 1) := by decide +kernel
theorem dX7_tell_68 : decode cX7_tell 68 = .ok (.iload 5, 2) := by decide +kernel
theorem dX7_tell_70 : decode cX7_tell 70 = .ok (.invokevirtual 49, 3) := by decide +kernel
theorem dX7_tell_73 : decode cX7_tell 73 = .ok (.invokevirtual 53, 3) := by decide +kernel
theorem dX7_tell_76 : decode cX7_tell 76 = .ok (.istore 6, 2) := by decide +kernel
theorem dX7_tell_78 : decode cX7_tell 78 = .ok (.iload 6, 2) := by decide +kernel
theorem dX7_tell_80 : decode cX7_tell 80 = .ok (.ifCond .eq 17, 3) := by decide +kernel
theorem dX7_tell_83 : decode cX7_tell 83 = .ok (.aload_n 0, 1) := by decide +kernel
theorem dX7_tell_84 : decode cX7_tell 84 = .ok (.iload 5, 2) := by decide +kernel
theorem dX7_tell_86 : decode cX7_tell 86 = .ok (.putfield 18, 3) := by decide +kernel
theorem dX7_tell_89 : decode cX7_tell 89 = .ok (.aload_n 0, 1) := by decide +kernel
theorem dX7_tell_90 : decode cX7_tell 90 = .ok (.iload 6, 2) := by decide +kernel
theorem dX7_tell_92 : decode cX7_tell 92 = .ok (.putfield 22, 3) := by decide +kernel
theorem dX7_tell_95 : decode cX7_tell 95 = .ok (.iconst 0, 1) := by decide +kernel
theorem dX7_tell_96 : decode cX7_tell 96 = .ok (.ireturn, 1) := by decide +kernel
theorem dX7_tell_97 : decode cX7_tell 97 = .ok (.iinc 5 1, 3) := by decide +kernel
theorem dX7_tell_100 : decode cX7_tell 100 = .ok (.goto (-53), 3) := by decide +kernel
theorem dX7_tell_103 : decode cX7_tell 103 = .ok (.iconst 1, 1) := by decide +kernel
theorem dX7_tell_104 : decode cX7_tell 104 = .ok (.ireturn, 1) := by decide +kernel
set_option maxRecDepth 20000 in
theorem ggX7_happen_X9_letGo : GoodIn wsX7_happen wsX9_letGo := goodIn_r _ [10, 11, 12, 13, 14, 9, 15, 16, 17, 18, 19, 20, 21, 22, 23, 24, 25, 26, 27, 28, 29, 30, 31, 32, 33, 34, 35, 106, 107, 108, 109, 110, 111] (by decide +kernel) (by decide +kernel)
set_option maxRecDepth 20000 in
theorem gX7_happen_X9_letGo : GoodIn wsX7_happen (wsV RX7 56 RX9 yX9_letGo wsX9_letGo) := goodIn_app (goodIn_of _ (by decide +kernel)) ggX7_happen_X9_letGo
set_option maxRecDepth 20000 in
theorem ggX7_happen_X4_isMotion : GoodIn wsX7_happen wsX4_isMotion := goodIn_r _ [39] (by decide +kernel) (by decide +kernel)
set_option maxRecDepth 20000 in
theorem gX7_happen_X4_isMotion : GoodIn wsX7_happen (va_wsS RX7 59 yX4_isMotion wsX4_isMotion) := goodIn_app (goodIn_of _ (by decide +kernel)) ggX7_happen_X4_isMotion
set_option maxRecDepth 20000 in
theorem ggX7_happen_X9_turn : GoodIn wsX7_happen wsX9_turn := goodIn_r _ [35, 11, 23, 24, 25, 26, 106, 107, 108, 109, 110, 111] (by decide +kernel) (by decide +kernel)
set_option maxRecDepth 20000 in
theorem gX7_happen_X9_turn : GoodIn wsX7_happen (wsV RX7 63 RX9 yX9_turn wsX9_turn) := goodIn_app (goodIn_of _ (by decide +kernel)) ggX7_happen_X9_turn
set_option maxRecDepth 20000 in
theorem ggX7_happen_X4_isDigit : GoodIn wsX7_happen wsX4_isDigit := goodIn_r _ [43] (by decide +kernel) (by decide +kernel)
set_option maxRecDepth 20000 in
theorem gX7_happen_X4_isDigit : GoodIn wsX7_happen (va_wsS RX7 67 yX4_isDigit wsX4_isDigit) := goodIn_app (goodIn_of _ (by decide +kernel)) ggX7_happen_X4_isDigit
set_option maxRecDepth 20000 in
theorem ggX7_happen_X7_load : GoodIn wsX7_happen wsX7_load := goodIn_r _ [48, 2, 49, 50, 51, 9, 52, 11, 53, 54, 55, 56, 17, 20, 21, 22, 57, 58, 59, 60, 61, 62, 99, 100, 101, 102, 103, 104, 105, 106, 107, 108, 109, 110, 111] (by decide +kernel) (by decide +kernel)
set_option maxRecDepth 20000 in
theorem gX7_happen_X7_load : GoodIn wsX7_happen (wsV RX7 70 RX7 yX7_load wsX7_load) := goodIn_app (goodIn_of _ (by decide +kernel)) ggX7_happen_X7_load
set_option maxRecDepth 20000 in
theorem ggX7_happen_X4_getsOut : GoodIn wsX7_happen wsX4_getsOut := goodIn_r _ [65] (by decide +kernel) (by decide +kernel)
set_option maxRecDepth 20000 in
theorem gX7_happen_X4_getsOut : GoodIn wsX7_happen (va_wsS RX7 73 yX4_getsOut wsX4_getsOut) := goodIn_app (goodIn_of _ (by decide +kernel)) ggX7_happen_X4_getsOut
set_option maxRecDepth 20000 in
theorem ggX7_happen_X7_letOut : GoodIn wsX7_happen wsX7_letOut := goodIn_r _ [69, 2, 70, 71, 72, 9, 73, 74, 11, 20, 21, 22, 49, 50, 51, 52, 75, 76, 77, 78, 16, 61, 62, 99, 100, 101, 102, 103, 104, 105, 106, 107, 108, 109, 110, 111] (by decide +kernel) (by decide +kernel)
set_option maxRecDepth 20000 in
theorem gX7_happen_X7_letOut : GoodIn wsX7_happen (wsV RX7 76 RX7 yX7_letOut wsX7_letOut) := goodIn_app (goodIn_of _ (by decide +kernel)) ggX7_happen_X7_letOut
set_option maxRecDepth 20000 in
theorem ggX7_happen_X1_personAt : GoodIn wsX7_happen wsX1_personAt := goodIn_r _ [82] (by decide +kernel) (by decide +kernel)
set_option maxRecDepth 20000 in
theorem gX7_happen_X1_personAt : GoodIn wsX7_happen (va_wsS RX7 79 yX1_personAt wsX1_personAt) := goodIn_app (goodIn_of _ (by decide +kernel)) ggX7_happen_X1_personAt
set_option maxRecDepth 20000 in
theorem ggX7_happen_X7_letIn : GoodIn wsX7_happen wsX7_letIn := goodIn_r _ [86, 2, 87, 88, 89, 9, 90, 74, 20, 21, 22, 91, 92, 93, 94, 16, 11, 49, 50, 51, 52, 95, 96, 97, 98, 61, 62, 99, 100, 101, 102, 103, 104, 105, 106, 107, 108, 109, 110, 111] (by decide +kernel) (by decide +kernel)
set_option maxRecDepth 20000 in
theorem gX7_happen_X7_letIn : GoodIn wsX7_happen (wsV RX7 85 RX7 yX7_letIn wsX7_letIn) := goodIn_app (goodIn_of _ (by decide +kernel)) ggX7_happen_X7_letIn
theorem dX7_happen_0 : decode cX7_happen 0 = .ok (.iload_n 1, 1) := by decide +kernel
theorem dX7_happen_1 : decode cX7_happen 1 = .ok (.bipush 94, 2) := by decide +kernel
theorem dX7_happen_3 : decode cX7_happen 3 = .ok (.if_icmp .ne 21, 3) := by decide +kernel
theorem dX7_happen_6 : decode cX7_happen 6 = .ok (.aload_n 0, 1) := by decide +kernel
theorem dX7_happen_7 : decode cX7_happen 7 = .ok (.dup, 1) := by decide +kernel
theorem dX7_happen_8 : decode cX7_happen 8 = .ok (.getfield 25, 3) := by decide +kernel
theorem dX7_happen_11 : decode cX7_happen 11 = .ok (.aload_n 0, 1) := by decide +kernel
theorem dX7_happen_12 : decode cX7_happen 12 = .ok (.getfield 12, 3) := by decide +kernel
theorem dX7_happen_15 : decode cX7_happen 15 = .ok (.invokevirtual 56, 3) := by decide +kernel
theorem dX7_happen_18 : decode cX7_happen 18 = .ok (.iadd, 1) := by decide +kernel
theorem dX7_happen_19 : decode cX7_happen 19 = .ok (.putfield 25, 3) := by decide +kernel
theorem dX7_happen_22 : decode cX7_happen 22 = .ok (.iconst 0, 1) := by decide +kernel
theorem dX7_happen_23 : decode cX7_happen 23 = .ok (.ireturn, 1) := by decide +kernel
theorem dX7_happen_24 : decode cX7_happen 24 = .ok (.iload_n 1, 1) := by decide +kernel
theorem dX7_happen_25 : decode cX7_happen 25 = .ok (.invokestatic 59, 3) := by decide +kernel
theorem dX7_happen_28 : decode cX7_happen 28 = .ok (.ifCond .eq 23, 3) := by decide +kernel
theorem dX7_happen_31 : decode cX7_happen 31 = .ok (.aload_n 0, 1) := by decide +kernel
theorem dX7_happen_32 : decode cX7_happen 32 = .ok (.getfield 12, 3) := by decide +kernel
theorem dX7_happen_35 : decode cX7_happen 35 = .ok (.iload_n 1, 1) := by decide +kernel
theorem dX7_happen_36 : decode cX7_happen 36 = .ok (.bipush 62, 2) := by decide +kernel
theorem dX7_happen_38 : decode cX7_happen 38 = .ok (.if_icmp .ne 7, 3) := by decide +kernel
theorem dX7_happen_41 : decode cX7_happen 41 = .ok (.iconst 1, 1) := by decide +kernel
theorem dX7_happen_42 : decode cX7_happen 42 = .ok (.goto 4, 3) := by decide +kernel
theorem dX7_happen_45 : decode cX7_happen 45 = .ok (.iconst (-1), 1) := by decide +kernel
theorem dX7_happen_46 : decode cX7_happen 46 = .ok (.invokevirtual 63, 3) := by decide +kernel
theorem dX7_happen_49 : decode cX7_happen 49 = .ok (.iconst 0, 1) := by decide +kernel
theorem dX7_happen_50 : decode cX7_happen 50 = .ok (.ireturn, 1) := by decide +kernel
theorem dX7_happen_51 : decode cX7_happen 51 = .ok (.iload_n 1, 1) := by decide +kernel
theorem dX7_happen_52 : decode cX7_happen 52 = .ok (.invokestatic 67, 3) := by decide +kernel
theorem dX7_happen_55 : decode cX7_happen 55 = .ok (.ifCond .eq 12, 3) := by decide +kernel
theorem dX7_happen_58 : decode cX7_happen 58 = .ok (.aload_n 0, 1) := by decide +kernel
theorem dX7_happen_59 : decode cX7_happen 59 = .ok (.iload_n 1, 1) := by decide +kernel
theorem dX7_happen_60 : decode cX7_happen 60 = .ok (.bipush 48, 2) := by decide +kernel
theorem dX7_happen_62 : decode cX7_happen 62 = .ok (.isub, 1) := by decide +kernel
theorem dX7_happen_63 : decode cX7_happen 63 = .ok (.invokevirtual 70, 3) := by decide +kernel
theorem dX7_happen_66 : decode cX7_happen 66 = .ok (.ireturn, 1) := by decide +kernel
theorem dX7_happen_67 : decode cX7_happen 67 = .ok (.iload_n 1, 1) := by decide +kernel
theorem dX7_happen_68 : decode cX7_happen 68 = .ok (.invokestatic 73, 3) := by decide +kernel
theorem dX7_happen_71 : decode cX7_happen 71 = .ok (.ifCond .eq 12, 3) := by decide +kernel
theorem dX7_happen_74 : decode cX7_happen 74 = .ok (.aload_n 0, 1) := by decide +kernel
theorem dX7_happen_75 : decode cX7_happen 75 = .ok (.iload_n 1, 1) := by decide +kernel
theorem dX7_happen_76 : decode cX7_happen 76 = .ok (.bipush 97, 2) := by decide +kernel
theorem dX7_happen_78 : decode cX7_happen 78 = .ok (.isub, 1) := by decide +kernel
theorem dX7_happen_79 : decode cX7_happen 79 = .ok (.invokevirtual 76, 3) := by decide +kernel
theorem dX7_happen_82 : decode cX7_happen 82 = .ok (.ireturn, 1) := by decide +kernel
theorem dX7_happen_83 : decode cX7_happen 83 = .ok (.iload_n 1, 1) := by decide +kernel
theorem dX7_happen_84 : decode cX7_happen 84 = .ok (.bipush 63, 2) := by decide +kernel
theorem dX7_happen_86 : decode cX7_happen 86 = .ok (.if_icmp .ne 35, 3) := by decide +kernel
theorem dX7_happen_89 : decode cX7_happen 89 = .ok (.aload_n 0, 1) := by decide +kernel
theorem dX7_happen_90 : decode cX7_happen 90 = .ok (.getfield 28, 3) := by decide +kernel
theorem dX7_happen_93 : decode cX7_happen 93 = .ok (.aload_n 0, 1) := by decide +kernel
theorem dX7_happen_94 : decode cX7_happen 94 = .ok (.getfield 34, 3) := by decide +kernel
theorem dX7_happen_97 : decode cX7_happen 97 = .ok (.aload_n 0, 1) := by decide +kernel
theorem dX7_happen_98 : decode cX7_happen 98 = .ok (.getfield 31, 3) := by decide +kernel
theorem dX7_happen_101 : decode cX7_happen 101 = .ok (.invokestatic 79, 3) := by decide +kernel
theorem dX7_happen_104 : decode cX7_happen 104 = .ok (.istore_n 2, 1) := by decide +kernel
theorem dX7_happen_105 : decode cX7_happen 105 = .ok (.aload_n 0, 1) := by decide +kernel
theorem dX7_happen_106 : decode cX7_happen 106 = .ok (.dup, 1) := by decide +kernel
theorem dX7_happen_107 : decode cX7_happen 107 = .ok (.getfield 34, 3) := by decide +kernel
theorem dX7_happen_110 : decode cX7_happen 110 = .ok (.iconst 1, 1) := by decide +kernel
theorem dX7_happen_111 : decode cX7_happen 111 = .ok (.iadd, 1) := by decide +kernel
theorem dX7_happen_112 : decode cX7_happen 112 = .ok (.putfield 34, 3) := by decide +kernel
theorem dX7_happen_115 : decode cX7_happen 115 = .ok (.aload_n 0, 1) := by decide +kernel
theorem dX7_happen_116 : decode cX7_happen 116 = .ok (.iload_n 2, 1) := by decide +kernel
theorem dX7_happen_117 : decode cX7_happen 117 = .ok (.invokevirtual 85, 3) := by decide +kernel
theorem dX7_happen_120 : decode cX7_happen 120 = .ok (.ireturn, 1) := by decide +kernel
theorem dX7_happen_121 : decode cX7_happen 121 = .ok (.aload_n 0, 1) := by decide +kernel
theorem dX7_happen_122 : decode cX7_happen 122 = .ok (.iload_n 1, 1) := by decide +kernel
theorem dX7_happen_123 : decode cX7_happen 123 = .ok (.bipush 65, 2) := by decide +kernel
theorem dX7_happen_125 : decode cX7_happen 125 = .ok (.isub, 1) := by decide +kernel
theorem dX7_happen_126 : decode cX7_happen 126 = .ok (.invokevirtual 85, 3) := by decide +kernel
theorem dX7_happen_129 : decode cX7_happen 129 = .ok (.ireturn, 1) := by decide +kernel
set_option maxRecDepth 20000 in
theorem ggX7_load_X9_lowest : GoodIn wsX7_load wsX9_lowest := goodIn_r _ [6, 7, 29, 30, 31, 32, 33, 34] (by decide +kernel) (by decide +kernel)
set_option maxRecDepth 20000 in
theorem gX7_load_X9_lowest : GoodIn wsX7_load (wsV RX7 88 RX9 yX9_lowest wsX9_lowest) := goodIn_app (goodIn_of _ (by decide +kernel)) ggX7_load_X9_lowest
set_option maxRecDepth 20000 in
theorem ggX7_load_X9_loadOf : GoodIn wsX7_load wsX9_loadOf := goodIn_r _ [11, 12, 13, 14, 15, 29, 30, 31, 32, 33, 34] (by decide +kernel) (by decide +kernel)
set_option maxRecDepth 20000 in
theorem gX7_load_X9_loadOf : GoodIn wsX7_load (wsV RX7 91 RX9 yX9_loadOf wsX9_loadOf) := goodIn_app (goodIn_of _ (by decide +kernel)) ggX7_load_X9_loadOf
set_option maxRecDepth 20000 in
theorem ggX7_load_X9_setLoad : GoodIn wsX7_load wsX9_setLoad := goodIn_r _ [19, 12, 20, 14, 21, 29, 30, 31, 32, 33, 34] (by decide +kernel) (by decide +kernel)
set_option maxRecDepth 20000 in
theorem gX7_load_X9_setLoad : GoodIn wsX7_load (wsV RX7 94 RX9 yX9_setLoad wsX9_setLoad) := goodIn_app (goodIn_of _ (by decide +kernel)) ggX7_load_X9_setLoad
theorem dX7_load_0 : decode cX7_load 0 = .ok (.aload_n 0, 1) := by decide +kernel
theorem dX7_load_1 : decode cX7_load 1 = .ok (.getfield 12, 3) := by decide +kernel
theorem dX7_load_4 : decode cX7_load 4 = .ok (.invokevirtual 88, 3) := by decide +kernel
theorem dX7_load_7 : decode cX7_load 7 = .ok (.istore_n 2, 1) := by decide +kernel
theorem dX7_load_8 : decode cX7_load 8 = .ok (.iload_n 1, 1) := by decide +kernel
theorem dX7_load_9 : decode cX7_load 9 = .ok (.ifCond .ne 7, 3) := by decide +kernel
theorem dX7_load_12 : decode cX7_load 12 = .ok (.iconst 0, 1) := by decide +kernel
theorem dX7_load_13 : decode cX7_load 13 = .ok (.goto 13, 3) := by decide +kernel
theorem dX7_load_16 : decode cX7_load 16 = .ok (.aload_n 0, 1) := by decide +kernel
theorem dX7_load_17 : decode cX7_load 17 = .ok (.getfield 12, 3) := by decide +kernel
theorem dX7_load_20 : decode cX7_load 20 = .ok (.iload_n 2, 1) := by decide +kernel
theorem dX7_load_21 : decode cX7_load 21 = .ok (.invokevirtual 91, 3) := by decide +kernel
theorem dX7_load_24 : decode cX7_load 24 = .ok (.iload_n 1, 1) := by decide +kernel
theorem dX7_load_25 : decode cX7_load 25 = .ok (.iadd, 1) := by decide +kernel
theorem dX7_load_26 : decode cX7_load 26 = .ok (.istore_n 3, 1) := by decide +kernel
theorem dX7_load_27 : decode cX7_load 27 = .ok (.iload_n 3, 1) := by decide +kernel
theorem dX7_load_28 : decode cX7_load 28 = .ok (.bipush 99, 2) := by decide +kernel
theorem dX7_load_30 : decode cX7_load 30 = .ok (.if_icmp .le 5, 3) := by decide +kernel
theorem dX7_load_33 : decode cX7_load 33 = .ok (.iconst 4, 1) := by decide +kernel
theorem dX7_load_34 : decode cX7_load 34 = .ok (.ireturn, 1) := by decide +kernel
theorem dX7_load_35 : decode cX7_load 35 = .ok (.aload_n 0, 1) := by decide +kernel
theorem dX7_load_36 : decode cX7_load 36 = .ok (.getfield 12, 3) := by decide +kernel
theorem dX7_load_39 : decode cX7_load 39 = .ok (.iload_n 2, 1) := by decide +kernel
theorem dX7_load_40 : decode cX7_load 40 = .ok (.iload_n 3, 1) := by decide +kernel
theorem dX7_load_41 : decode cX7_load 41 = .ok (.invokevirtual 94, 3) := by decide +kernel
theorem dX7_load_44 : decode cX7_load 44 = .ok (.iconst 0, 1) := by decide +kernel
theorem dX7_load_45 : decode cX7_load 45 = .ok (.ireturn, 1) := by decide +kernel
set_option maxRecDepth 20000 in
theorem ggX7_letIn_X9_isAboard : GoodIn wsX7_letIn wsX9_isAboard := goodIn_r _ [6, 7, 8, 9, 10, 34, 35, 36, 37, 38, 39] (by decide +kernel) (by decide +kernel)
set_option maxRecDepth 20000 in
theorem gX7_letIn_X9_isAboard : GoodIn wsX7_letIn (wsV RX7 98 RX9 yX9_isAboard wsX9_isAboard) := goodIn_app (goodIn_of _ (by decide +kernel)) ggX7_letIn_X9_isAboard
set_option maxRecDepth 20000 in
theorem ggX7_letIn_X9_isTaken : GoodIn wsX7_letIn wsX9_isTaken := goodIn_r _ [14, 15, 16, 8, 9, 10, 34, 35, 36, 37, 38, 39] (by decide +kernel) (by decide +kernel)
set_option maxRecDepth 20000 in
theorem gX7_letIn_X9_isTaken : GoodIn wsX7_letIn (wsV RX7 101 RX9 yX9_isTaken wsX9_isTaken) := goodIn_app (goodIn_of _ (by decide +kernel)) ggX7_letIn_X9_isTaken
set_option maxRecDepth 20000 in
theorem ggX7_letIn_X9_lowest : GoodIn wsX7_letIn wsX9_lowest := goodIn_r _ [20, 16, 34, 35, 36, 37, 38, 39] (by decide +kernel) (by decide +kernel)
set_option maxRecDepth 20000 in
theorem gX7_letIn_X9_lowest : GoodIn wsX7_letIn (wsV RX7 88 RX9 yX9_lowest wsX9_lowest) := goodIn_app (goodIn_of _ (by decide +kernel)) ggX7_letIn_X9_lowest
set_option maxRecDepth 20000 in
theorem ggX7_letIn_X9_seat : GoodIn wsX7_letIn wsX9_seat := goodIn_r _ [24, 15, 7, 25, 9, 26, 34, 35, 36, 37, 38, 39] (by decide +kernel) (by decide +kernel)
set_option maxRecDepth 20000 in
theorem gX7_letIn_X9_seat : GoodIn wsX7_letIn (wsV RX7 105 RX9 yX9_seat wsX9_seat) := goodIn_app (goodIn_of _ (by decide +kernel)) ggX7_letIn_X9_seat
theorem dX7_letIn_0 : decode cX7_letIn 0 = .ok (.aload_n 0, 1) := by decide +kernel
theorem dX7_letIn_1 : decode cX7_letIn 1 = .ok (.getfield 12, 3) := by decide +kernel
theorem dX7_letIn_4 : decode cX7_letIn 4 = .ok (.iload_n 1, 1) := by decide +kernel
theorem dX7_letIn_5 : decode cX7_letIn 5 = .ok (.invokevirtual 98, 3) := by decide +kernel
theorem dX7_letIn_8 : decode cX7_letIn 8 = .ok (.ifCond .eq 5, 3) := by decide +kernel
theorem dX7_letIn_11 : decode cX7_letIn 11 = .ok (.iconst 1, 1) := by decide +kernel
theorem dX7_letIn_12 : decode cX7_letIn 12 = .ok (.ireturn, 1) := by decide +kernel
theorem dX7_letIn_13 : decode cX7_letIn 13 = .ok (.aload_n 0, 1) := by decide +kernel
theorem dX7_letIn_14 : decode cX7_letIn 14 = .ok (.getfield 12, 3) := by decide +kernel
theorem dX7_letIn_17 : decode cX7_letIn 17 = .ok (.invokevirtual 101, 3) := by decide +kernel
theorem dX7_letIn_20 : decode cX7_letIn 20 = .ok (.ifCond .eq 5, 3) := by decide +kernel
theorem dX7_letIn_23 : decode cX7_letIn 23 = .ok (.iconst 2, 1) := by decide +kernel
theorem dX7_letIn_24 : decode cX7_letIn 24 = .ok (.ireturn, 1) := by decide +kernel
theorem dX7_letIn_25 : decode cX7_letIn 25 = .ok (.aload_n 0, 1) := by decide +kernel
theorem dX7_letIn_26 : decode cX7_letIn 26 = .ok (.getfield 12, 3) := by decide +kernel
theorem dX7_letIn_29 : decode cX7_letIn 29 = .ok (.iload_n 1, 1) := by decide +kernel
theorem dX7_letIn_30 : decode cX7_letIn 30 = .ok (.aload_n 0, 1) := by decide +kernel
theorem dX7_letIn_31 : decode cX7_letIn 31 = .ok (.getfield 12, 3) := by decide +kernel
theorem dX7_letIn_34 : decode cX7_letIn 34 = .ok (.invokevirtual 88, 3) := by decide +kernel
theorem dX7_letIn_37 : decode cX7_letIn 37 = .ok (.invokevirtual 105, 3) := by decide +kernel
theorem dX7_letIn_40 : decode cX7_letIn 40 = .ok (.iconst 0, 1) := by decide +kernel
theorem dX7_letIn_41 : decode cX7_letIn 41 = .ok (.ireturn, 1) := by decide +kernel
set_option maxRecDepth 20000 in
theorem ggX7_letOut_X9_isLowest : GoodIn wsX7_letOut wsX9_isLowest := goodIn_r _ [6, 7, 8, 9, 10, 11, 30, 31, 32, 33, 34, 35] (by decide +kernel) (by decide +kernel)
set_option maxRecDepth 20000 in
theorem gX7_letOut_X9_isLowest : GoodIn wsX7_letOut (wsV RX7 108 RX9 yX9_isLowest wsX9_isLowest) := goodIn_app (goodIn_of _ (by decide +kernel)) ggX7_letOut_X9_isLowest
set_option maxRecDepth 20000 in
theorem ggX7_letOut_X9_lowest : GoodIn wsX7_letOut wsX9_lowest := goodIn_r _ [15, 8, 30, 31, 32, 33, 34, 35] (by decide +kernel) (by decide +kernel)
set_option maxRecDepth 20000 in
theorem gX7_letOut_X9_lowest : GoodIn wsX7_letOut (wsV RX7 88 RX9 yX9_lowest wsX9_lowest) := goodIn_app (goodIn_of _ (by decide +kernel)) ggX7_letOut_X9_lowest
set_option maxRecDepth 20000 in
theorem ggX7_letOut_X9_unseat : GoodIn wsX7_letOut wsX9_unseat := goodIn_r _ [19, 7, 20, 9, 10, 11, 21, 22, 30, 31, 32, 33, 34, 35] (by decide +kernel) (by decide +kernel)
set_option maxRecDepth 20000 in
theorem gX7_letOut_X9_unseat : GoodIn wsX7_letOut (wsV RX7 111 RX9 yX9_unseat wsX9_unseat) := goodIn_app (goodIn_of _ (by decide +kernel)) ggX7_letOut_X9_unseat
theorem dX7_letOut_0 : decode cX7_letOut 0 = .ok (.aload_n 0, 1) := by decide +kernel
theorem dX7_letOut_1 : decode cX7_letOut 1 = .ok (.getfield 12, 3) := by decide +kernel
theorem dX7_letOut_4 : decode cX7_letOut 4 = .ok (.iload_n 1, 1) := by decide +kernel
theorem dX7_letOut_5 : decode cX7_letOut 5 = .ok (.invokevirtual 108, 3) := by decide +kernel
theorem dX7_letOut_8 : decode cX7_letOut 8 = .ok (.ifCond .ne 5, 3) := by decide +kernel
theorem dX7_letOut_11 : decode cX7_letOut 11 = .ok (.iconst 3, 1) := by decide +kernel
theorem dX7_letOut_12 : decode cX7_letOut 12 = .ok (.ireturn, 1) := by decide +kernel
theorem dX7_letOut_13 : decode cX7_letOut 13 = .ok (.aload_n 0, 1) := by decide +kernel
theorem dX7_letOut_14 : decode cX7_letOut 14 = .ok (.getfield 12, 3) := by decide +kernel
theorem dX7_letOut_17 : decode cX7_letOut 17 = .ok (.aload_n 0, 1) := by decide +kernel
theorem dX7_letOut_18 : decode cX7_letOut 18 = .ok (.getfield 12, 3) := by decide +kernel
theorem dX7_letOut_21 : decode cX7_letOut 21 = .ok (.invokevirtual 88, 3) := by decide +kernel
theorem dX7_letOut_24 : decode cX7_letOut 24 = .ok (.invokevirtual 111, 3) := by decide +kernel
theorem dX7_letOut_27 : decode cX7_letOut 27 = .ok (.iconst 0, 1) := by decide +kernel
theorem dX7_letOut_28 : decode cX7_letOut 28 = .ok (.ireturn, 1) := by decide +kernel
set_option maxRecDepth 20000 in
theorem ggX8_init_X9_init : GoodIn wsX8_init wsX9_init := goodIn_r _ [13, 14, 2, 3, 8, 15, 16, 17, 18, 19, 20, 21, 22, 23, 24, 25, 26, 27, 28, 29, 30] (by decide +kernel) (by decide +kernel)
set_option maxRecDepth 20000 in
theorem gX8_init_X9_init : GoodIn wsX8_init (wsX9_init) := ggX8_init_X9_init
theorem dX8_init_0 : decode cX8_init 0 = .ok (.aload_n 0, 1) := by decide +kernel
theorem dX8_init_1 : decode cX8_init 1 = .ok (.invokespecial 3, 3) := by decide +kernel
theorem dX8_init_4 : decode cX8_init 4 = .ok (.aload_n 0, 1) := by decide +kernel
theorem dX8_init_5 : decode cX8_init 5 = .ok (.new 9, 3) := by decide +kernel
theorem dX8_init_8 : decode cX8_init 8 = .ok (.dup, 1) := by decide +kernel
theorem dX8_init_9 : decode cX8_init 9 = .ok (.invokespecial 11, 3) := by decide +kernel
theorem dX8_init_12 : decode cX8_init 12 = .ok (.putfield 12, 3) := by decide +kernel
theorem dX8_init_15 : decode cX8_init 15 = .ok (.aload_n 0, 1) := by decide +kernel
theorem dX8_init_16 : decode cX8_init 16 = .ok (.bipush 8, 2) := by decide +kernel
theorem dX8_init_18 : decode cX8_init 18 = .ok (.newarray .int, 2) := by decide +kernel
theorem dX8_init_20 : decode cX8_init 20 = .ok (.putfield 18, 3) := by decide +kernel
theorem dX8_init_23 : decode cX8_init 23 = .ok (.aload_n 0, 1) := by decide +kernel
theorem dX8_init_24 : decode cX8_init 24 = .ok (.iconst 0, 1) := by decide +kernel
theorem dX8_init_25 : decode cX8_init 25 = .ok (.putfield 22, 3) := by decide +kernel
theorem dX8_init_28 : decode cX8_init 28 = .ok (.return_, 1) := by decide +kernel
theorem dX8_turned_0 : decode cX8_turned 0 = .ok (.aload_n 0, 1) := by decide +kernel
theorem dX8_turned_1 : decode cX8_turned 1 = .ok (.getfield 22, 3) := by decide +kernel
theorem dX8_turned_4 : decode cX8_turned 4 = .ok (.ireturn, 1) := by decide +kernel
set_option maxRecDepth 20000 in
theorem ggX8_timesLowest_X10_at : GoodIn wsX8_timesLowest wsX10_at := goodIn_r _ [4] (by decide +kernel) (by decide +kernel)
set_option maxRecDepth 20000 in
theorem gX8_timesLowest_X10_at_n26 : GoodIn wsX8_timesLowest (wsX10_at) := ggX8_timesLowest_X10_at
theorem dX8_timesLowest_0 : decode cX8_timesLowest 0 = .ok (.aload_n 0, 1) := by decide +kernel
theorem dX8_timesLowest_1 : decode cX8_timesLowest 1 = .ok (.getfield 18, 3) := by decide +kernel
theorem dX8_timesLowest_4 : decode cX8_timesLowest 4 = .ok (.iload_n 1, 1) := by decide +kernel
theorem dX8_timesLowest_5 : decode cX8_timesLowest 5 = .ok (.invokestatic 26, 3) := by decide +kernel
theorem dX8_timesLowest_8 : decode cX8_timesLowest 8 = .ok (.ireturn, 1) := by decide +kernel
set_option maxRecDepth 20000 in
theorem ggX8_take_X9_copyFrom : GoodIn wsX8_take wsX9_copyFrom := goodIn_r _ [13, 14, 15, 16, 17, 18, 19, 20, 21, 22, 23, 24, 7, 25, 26, 27, 28, 29, 89, 90, 91, 92, 93, 94] (by decide +kernel) (by decide +kernel)
set_option maxRecDepth 20000 in
theorem gX8_take_X9_copyFrom : GoodIn wsX8_take (wsV RX8 30 RX9 yX9_copyFrom wsX9_copyFrom) := goodIn_app (goodIn_of _ (by decide +kernel)) ggX8_take_X9_copyFrom
set_option maxRecDepth 20000 in
theorem ggX8_take_J7_fill_53178 : GoodIn wsX8_take wsJ7_fill_53178 := goodIn_r _ [33] (by decide +kernel) (by decide +kernel)
set_option maxRecDepth 20000 in
theorem gX8_take_J7_fill_53178 : GoodIn wsX8_take (va_wsS RX8 34 yJ7_fill_53178 wsJ7_fill_53178) := goodIn_app (goodIn_of _ (by decide +kernel)) ggX8_take_J7_fill_53178
set_option maxRecDepth 20000 in
theorem ggX8_take_J9_floorMod_7cf53 : GoodIn wsX8_take wsJ9_floorMod_7cf53 := goodIn_r _ [37] (by decide +kernel) (by decide +kernel)
set_option maxRecDepth 20000 in
theorem gX8_take_J9_floorMod_7cf53 : GoodIn wsX8_take (va_wsS RX8 41 yJ9_floorMod_7cf53 wsJ9_floorMod_7cf53) := goodIn_app (goodIn_of _ (by decide +kernel)) ggX8_take_J9_floorMod_7cf53
set_option maxRecDepth 20000 in
theorem ggX8_take_X8_change : GoodIn wsX8_take wsX8_change := goodIn_r _ [42, 1, 43, 44, 45, 12, 46, 18, 47, 48, 49, 50, 15, 16, 51, 21, 52, 53, 54, 55, 56, 57, 58, 59, 60, 61, 62, 63, 64, 65, 66, 86, 87, 88, 89, 90, 91, 92, 93, 94] (by decide +kernel) (by decide +kernel)
set_option maxRecDepth 20000 in
theorem gX8_take_X8_change : GoodIn wsX8_take (wsV RX8 47 RX8 yX8_change wsX8_change) := goodIn_app (goodIn_of _ (by decide +kernel)) ggX8_take_X8_change
set_option maxRecDepth 20000 in
theorem ggX8_take_X9_turn : GoodIn wsX8_take wsX9_turn := goodIn_r _ [70, 18, 71, 35, 36, 37, 89, 90, 91, 92, 93, 94] (by decide +kernel) (by decide +kernel)
set_option maxRecDepth 20000 in
theorem gX8_take_X9_turn : GoodIn wsX8_take (wsV RX8 51 RX9 yX9_turn wsX9_turn) := goodIn_app (goodIn_of _ (by decide +kernel)) ggX8_take_X9_turn
set_option maxRecDepth 20000 in
theorem ggX8_take_X9_letGo : GoodIn wsX8_take wsX9_letGo := goodIn_r _ [75, 18, 76, 77, 78, 12, 79, 16, 17, 14, 80, 51, 21, 52, 71, 35, 36, 37, 81, 82, 83, 84, 19, 85, 68, 69, 70, 89, 90, 91, 92, 93, 94] (by decide +kernel) (by decide +kernel)
set_option maxRecDepth 20000 in
theorem gX8_take_X9_letGo : GoodIn wsX8_take (wsV RX8 54 RX9 yX9_letGo wsX9_letGo) := goodIn_app (goodIn_of _ (by decide +kernel)) ggX8_take_X9_letGo
set_option maxRecDepth 20000 in
theorem ggX8_take_X9_lowest : GoodIn wsX8_take wsX9_lowest := goodIn_r _ [46, 18, 89, 90, 91, 92, 93, 94] (by decide +kernel) (by decide +kernel)
set_option maxRecDepth 20000 in
theorem gX8_take_X9_lowest : GoodIn wsX8_take (wsV RX8 62 RX9 yX9_lowest wsX9_lowest) := goodIn_app (goodIn_of _ (by decide +kernel)) ggX8_take_X9_lowest
set_option maxRecDepth 20000 in
theorem ggX8_take_X10_at : GoodIn wsX8_take wsX10_at := goodIn_r _ [52] (by decide +kernel) (by decide +kernel)
set_option maxRecDepth 20000 in
theorem gX8_take_X10_at_n26 : GoodIn wsX8_take (wsX10_at) := ggX8_take_X10_at
set_option maxRecDepth 20000 in
theorem ggX8_take_X10_put : GoodIn wsX8_take wsX10_put := goodIn_r _ [54] (by decide +kernel) (by decide +kernel)
set_option maxRecDepth 20000 in
theorem gX8_take_X10_put_n65 : GoodIn wsX8_take (wsX10_put) := ggX8_take_X10_put
theorem dX8_take_0 : decode cX8_take 0 = .ok (.aload_n 0, 1) := by decide +kernel
theorem dX8_take_1 : decode cX8_take 1 = .ok (.getfield 12, 3) := by decide +kernel
theorem dX8_take_4 : decode cX8_take 4 = .ok (.aload_n 1, 1) := by decide +kernel
theorem dX8_take_5 : decode cX8_take 5 = .ok (.invokevirtual 30, 3) := by decide +kernel
theorem dX8_take_8 : decode cX8_take 8 = .ok (.aload_n 0, 1) := by decide +kernel
theorem dX8_take_9 : decode cX8_take 9 = .ok (.iconst 0, 1) := by decide +kernel
theorem dX8_take_10 : decode cX8_take 10 = .ok (.putfield 22, 3) := by decide +kernel
theorem dX8_take_13 : decode cX8_take 13 = .ok (.aload_n 0, 1) := by decide +kernel
theorem dX8_take_14 : decode cX8_take 14 = .ok (.getfield 18, 3) := by decide +kernel
theorem dX8_take_17 : decode cX8_take 17 = .ok (.iconst 0, 1) := by decide +kernel
theorem dX8_take_18 : decode cX8_take 18 = .ok (.invokestatic 34, 3) := by decide +kernel
theorem dX8_take_21 : decode cX8_take 21 = .ok (.iload_n 2, 1) := by decide +kernel
theorem dX8_take_22 : decode cX8_take 22 = .ok (.istore 4, 2) := by decide +kernel
theorem dX8_take_24 : decode cX8_take 24 = .ok (.iconst 0, 1) := by decide +kernel
theorem dX8_take_25 : decode cX8_take 25 = .ok (.istore 5, 2) := by decide +kernel
theorem dX8_take_27 : decode cX8_take 27 = .ok (.iload 5, 2) := by decide +kernel
theorem dX8_take_29 : decode cX8_take 29 = .ok (.iload_n 3, 1) := by decide +kernel
theorem dX8_take_30 : decode cX8_take 30 = .ok (.if_icmp .ge 104, 3) := by decide +kernel
theorem dX8_take_33 : decode cX8_take 33 = .ok (.iload 5, 2) := by decide +kernel
theorem dX8_take_35 : decode cX8_take 35 = .ok (.bipush 99, 2) := by decide +kernel
theorem dX8_take_37 : decode cX8_take 37 = .ok (.if_icmp .ge 97, 3) := by decide +kernel
theorem dX8_take_40 : decode cX8_take 40 = .ok (.bipush 75, 2) := by decide +kernel
theorem dX8_take_42 : decode cX8_take 42 = .ok (.iload 4, 2) := by decide +kernel
theorem dX8_take_44 : decode cX8_take 44 = .ok (.imul, 1) := by decide +kernel
theorem dX8_take_45 : decode cX8_take 45 = .ok (.bipush 74, 2) := by decide +kernel
theorem dX8_take_47 : decode cX8_take 47 = .ok (.iadd, 1) := by decide +kernel
theorem dX8_take_48 : decode cX8_take 48 = .ok (.ldc 40, 2) := by decide +kernel
theorem dX8_take_50 : decode cX8_take 50 = .ok (.invokestatic 41, 3) := by decide +kernel
theorem dX8_take_53 : decode cX8_take 53 = .ok (.istore 4, 2) := by decide +kernel
theorem dX8_take_55 : decode cX8_take 55 = .ok (.aload_n 0, 1) := by decide +kernel
theorem dX8_take_56 : decode cX8_take 56 = .ok (.iload 4, 2) := by decide +kernel
theorem dX8_take_58 : decode cX8_take 58 = .ok (.invokevirtual 47, 3) := by decide +kernel
theorem dX8_take_61 : decode cX8_take 61 = .ok (.iload 4, 2) := by decide +kernel
theorem dX8_take_63 : decode cX8_take 63 = .ok (.bipush 16, 2) := by decide +kernel
theorem dX8_take_65 : decode cX8_take 65 = .ok (.idiv, 1) := by decide +kernel
theorem dX8_take_66 : decode cX8_take 66 = .ok (.iconst 3, 1) := by decide +kernel
theorem dX8_take_67 : decode cX8_take 67 = .ok (.irem, 1) := by decide +kernel
theorem dX8_take_68 : decode cX8_take 68 = .ok (.ifCond .ne 11, 3) := by decide +kernel
theorem dX8_take_71 : decode cX8_take 71 = .ok (.aload_n 0, 1) := by decide +kernel
theorem dX8_take_72 : decode cX8_take 72 = .ok (.getfield 12, 3) := by decide +kernel
theorem dX8_take_75 : decode cX8_take 75 = .ok (.iconst 1, 1) := by decide +kernel
theorem dX8_take_76 : decode cX8_take 76 = .ok (.invokevirtual 51, 3) := by decide +kernel
theorem dX8_take_79 : decode cX8_take 79 = .ok (.aload_n 0, 1) := by decide +kernel
theorem dX8_take_80 : decode cX8_take 80 = .ok (.dup, 1) := by decide +kernel
theorem dX8_take_81 : decode cX8_take 81 = .ok (.getfield 22, 3) := by decide +kernel
theorem dX8_take_84 : decode cX8_take 84 = .ok (.aload_n 0, 1) := by decide +kernel
theorem dX8_take_85 : decode cX8_take 85 = .ok (.getfield 12, 3) := by decide +kernel
theorem dX8_take_88 : decode cX8_take 88 = .ok (.invokevirtual 54, 3) := by decide +kernel
theorem dX8_take_91 : decode cX8_take 91 = .ok (.invokestatic 58, 3) := by decide +kernel
theorem dX8_take_94 : decode cX8_take 94 = .ok (.iadd, 1) := by decide +kernel
theorem dX8_take_95 : decode cX8_take 95 = .ok (.putfield 22, 3) := by decide +kernel
theorem dX8_take_98 : decode cX8_take 98 = .ok (.aload_n 0, 1) := by decide +kernel
theorem dX8_take_99 : decode cX8_take 99 = .ok (.getfield 18, 3) := by decide +kernel
theorem dX8_take_102 : decode cX8_take 102 = .ok (.aload_n 0, 1) := by decide +kernel
theorem dX8_take_103 : decode cX8_take 103 = .ok (.getfield 12, 3) := by decide +kernel
theorem dX8_take_106 : decode cX8_take 106 = .ok (.invokevirtual 62, 3) := by decide +kernel
theorem dX8_take_109 : decode cX8_take 109 = .ok (.aload_n 0, 1) := by decide +kernel
theorem dX8_take_110 : decode cX8_take 110 = .ok (.getfield 18, 3) := by decide +kernel
theorem dX8_take_113 : decode cX8_take 113 = .ok (.aload_n 0, 1) := by decide +kernel
theorem dX8_take_114 : decode cX8_take 114 = .ok (.getfield 12, 3) := by decide +kernel
theorem dX8_take_117 : decode cX8_take 117 = .ok (.invokevirtual 62, 3) := by decide +kernel
theorem dX8_take_120 : decode cX8_take 120 = .ok (.invokestatic 26, 3) := by decide +kernel
theorem dX8_take_123 : decode cX8_take 123 = .ok (.iconst 1, 1) := by decide +kernel
theorem dX8_take_124 : decode cX8_take 124 = .ok (.iadd, 1) := by decide +kernel
theorem dX8_take_125 : decode cX8_take 125 = .ok (.invokestatic 65, 3) := by decide +kernel
theorem dX8_take_128 : decode cX8_take 128 = .ok (.iinc 5 1, 3) := by decide +kernel
theorem dX8_take_131 : decode cX8_take 131 = .ok (.goto (-104), 3) := by decide +kernel
theorem dX8_take_134 : decode cX8_take 134 = .ok (.return_, 1) := by decide +kernel
set_option maxRecDepth 20000 in
theorem ggX8_change_X9_lowest : GoodIn wsX8_change wsX9_lowest := goodIn_r _ [6, 7, 34, 35, 36, 37, 38, 39] (by decide +kernel) (by decide +kernel)
set_option maxRecDepth 20000 in
theorem gX8_change_X9_lowest : GoodIn wsX8_change (wsV RX8 62 RX9 yX9_lowest wsX9_lowest) := goodIn_app (goodIn_of _ (by decide +kernel)) ggX8_change_X9_lowest
set_option maxRecDepth 20000 in
theorem ggX8_change_X9_unseat : GoodIn wsX8_change wsX9_unseat := goodIn_r _ [11, 12, 13, 14, 15, 16, 17, 18, 34, 35, 36, 37, 38, 39] (by decide +kernel) (by decide +kernel)
set_option maxRecDepth 20000 in
theorem gX8_change_X9_unseat : GoodIn wsX8_change (wsV RX8 69 RX9 yX9_unseat wsX9_unseat) := goodIn_app (goodIn_of _ (by decide +kernel)) ggX8_change_X9_unseat
set_option maxRecDepth 20000 in
theorem ggX8_change_X9_isTaken : GoodIn wsX8_change wsX9_isTaken := goodIn_r _ [22, 13, 7, 14, 15, 16, 34, 35, 36, 37, 38, 39] (by decide +kernel) (by decide +kernel)
set_option maxRecDepth 20000 in
theorem gX8_change_X9_isTaken : GoodIn wsX8_change (wsV RX8 72 RX9 yX9_isTaken wsX9_isTaken) := goodIn_app (goodIn_of _ (by decide +kernel)) ggX8_change_X9_isTaken
set_option maxRecDepth 20000 in
theorem ggX8_change_X9_isAboard : GoodIn wsX8_change wsX9_isAboard := goodIn_r _ [26, 12, 14, 15, 16, 34, 35, 36, 37, 38, 39] (by decide +kernel) (by decide +kernel)
set_option maxRecDepth 20000 in
theorem gX8_change_X9_isAboard : GoodIn wsX8_change (wsV RX8 76 RX9 yX9_isAboard wsX9_isAboard) := goodIn_app (goodIn_of _ (by decide +kernel)) ggX8_change_X9_isAboard
set_option maxRecDepth 20000 in
theorem ggX8_change_X9_seat : GoodIn wsX8_change wsX9_seat := goodIn_r _ [30, 13, 12, 17, 15, 18, 34, 35, 36, 37, 38, 39] (by decide +kernel) (by decide +kernel)
set_option maxRecDepth 20000 in
theorem gX8_change_X9_seat : GoodIn wsX8_change (wsV RX8 80 RX9 yX9_seat wsX9_seat) := goodIn_app (goodIn_of _ (by decide +kernel)) ggX8_change_X9_seat
theorem dX8_change_0 : decode cX8_change 0 = .ok (.aload_n 0, 1) := by decide +kernel
theorem dX8_change_1 : decode cX8_change 1 = .ok (.getfield 12, 3) := by decide +kernel
theorem dX8_change_4 : decode cX8_change 4 = .ok (.invokevirtual 62, 3) := by decide +kernel
theorem dX8_change_7 : decode cX8_change 7 = .ok (.istore_n 2, 1) := by decide +kernel
theorem dX8_change_8 : decode cX8_change 8 = .ok (.iload_n 1, 1) := by decide +kernel
theorem dX8_change_9 : decode cX8_change 9 = .ok (.iconst 2, 1) := by decide +kernel
theorem dX8_change_10 : decode cX8_change 10 = .ok (.irem, 1) := by decide +kernel
theorem dX8_change_11 : decode cX8_change 11 = .ok (.iconst 1, 1) := by decide +kernel
theorem dX8_change_12 : decode cX8_change 12 = .ok (.if_icmp .ne 11, 3) := by decide +kernel
theorem dX8_change_15 : decode cX8_change 15 = .ok (.aload_n 0, 1) := by decide +kernel
theorem dX8_change_16 : decode cX8_change 16 = .ok (.getfield 12, 3) := by decide +kernel
theorem dX8_change_19 : decode cX8_change 19 = .ok (.iload_n 2, 1) := by decide +kernel
theorem dX8_change_20 : decode cX8_change 20 = .ok (.invokevirtual 69, 3) := by decide +kernel
theorem dX8_change_23 : decode cX8_change 23 = .ok (.iload_n 1, 1) := by decide +kernel
theorem dX8_change_24 : decode cX8_change 24 = .ok (.iconst 2, 1) := by decide +kernel
theorem dX8_change_25 : decode cX8_change 25 = .ok (.idiv, 1) := by decide +kernel
theorem dX8_change_26 : decode cX8_change 26 = .ok (.bipush 8, 2) := by decide +kernel
theorem dX8_change_28 : decode cX8_change 28 = .ok (.irem, 1) := by decide +kernel
theorem dX8_change_29 : decode cX8_change 29 = .ok (.istore_n 3, 1) := by decide +kernel
theorem dX8_change_30 : decode cX8_change 30 = .ok (.aload_n 0, 1) := by decide +kernel
theorem dX8_change_31 : decode cX8_change 31 = .ok (.getfield 12, 3) := by decide +kernel
theorem dX8_change_34 : decode cX8_change 34 = .ok (.invokevirtual 72, 3) := by decide +kernel
theorem dX8_change_37 : decode cX8_change 37 = .ok (.ifCond .ne 23, 3) := by decide +kernel
theorem dX8_change_40 : decode cX8_change 40 = .ok (.aload_n 0, 1) := by decide +kernel
theorem dX8_change_41 : decode cX8_change 41 = .ok (.getfield 12, 3) := by decide +kernel
theorem dX8_change_44 : decode cX8_change 44 = .ok (.iload_n 3, 1) := by decide +kernel
theorem dX8_change_45 : decode cX8_change 45 = .ok (.invokevirtual 76, 3) := by decide +kernel
theorem dX8_change_48 : decode cX8_change 48 = .ok (.ifCond .ne 12, 3) := by decide +kernel
theorem dX8_change_51 : decode cX8_change 51 = .ok (.aload_n 0, 1) := by decide +kernel
theorem dX8_change_52 : decode cX8_change 52 = .ok (.getfield 12, 3) := by decide +kernel
theorem dX8_change_55 : decode cX8_change 55 = .ok (.iload_n 3, 1) := by decide +kernel
theorem dX8_change_56 : decode cX8_change 56 = .ok (.iload_n 2, 1) := by decide +kernel
theorem dX8_change_57 : decode cX8_change 57 = .ok (.invokevirtual 80, 3) := by decide +kernel
theorem dX8_change_60 : decode cX8_change 60 = .ok (.return_, 1) := by decide +kernel
set_option maxRecDepth 20000 in
theorem ggX9_init_J7_fill_53178 : GoodIn wsX9_init wsJ7_fill_53178 := goodIn_r _ [14] (by decide +kernel) (by decide +kernel)
set_option maxRecDepth 20000 in
theorem gX9_init_J7_fill_53178 : GoodIn wsX9_init (va_wsS RX9 31 yJ7_fill_53178 wsJ7_fill_53178) := goodIn_app (goodIn_of _ (by decide +kernel)) ggX9_init_J7_fill_53178
theorem dX9_init_0 : decode cX9_init 0 = .ok (.aload_n 0, 1) := by decide +kernel
theorem dX9_init_1 : decode cX9_init 1 = .ok (.invokespecial 3, 3) := by decide +kernel
theorem dX9_init_4 : decode cX9_init 4 = .ok (.aload_n 0, 1) := by decide +kernel
theorem dX9_init_5 : decode cX9_init 5 = .ok (.bipush 8, 2) := by decide +kernel
theorem dX9_init_7 : decode cX9_init 7 = .ok (.newarray .int, 2) := by decide +kernel
theorem dX9_init_9 : decode cX9_init 9 = .ok (.putfield 9, 3) := by decide +kernel
theorem dX9_init_12 : decode cX9_init 12 = .ok (.aload_n 0, 1) := by decide +kernel
theorem dX9_init_13 : decode cX9_init 13 = .ok (.bipush 8, 2) := by decide +kernel
theorem dX9_init_15 : decode cX9_init 15 = .ok (.newarray .int, 2) := by decide +kernel
theorem dX9_init_17 : decode cX9_init 17 = .ok (.putfield 15, 3) := by decide +kernel
theorem dX9_init_20 : decode cX9_init 20 = .ok (.aload_n 0, 1) := by decide +kernel
theorem dX9_init_21 : decode cX9_init 21 = .ok (.bipush 8, 2) := by decide +kernel
theorem dX9_init_23 : decode cX9_init 23 = .ok (.newarray .int, 2) := by decide +kernel
theorem dX9_init_25 : decode cX9_init 25 = .ok (.putfield 18, 3) := by decide +kernel
theorem dX9_init_28 : decode cX9_init 28 = .ok (.aload_n 0, 1) := by decide +kernel
theorem dX9_init_29 : decode cX9_init 29 = .ok (.bipush 8, 2) := by decide +kernel
theorem dX9_init_31 : decode cX9_init 31 = .ok (.newarray .int, 2) := by decide +kernel
theorem dX9_init_33 : decode cX9_init 33 = .ok (.putfield 21, 3) := by decide +kernel
theorem dX9_init_36 : decode cX9_init 36 = .ok (.aload_n 0, 1) := by decide +kernel
theorem dX9_init_37 : decode cX9_init 37 = .ok (.iconst 0, 1) := by decide +kernel
theorem dX9_init_38 : decode cX9_init 38 = .ok (.putfield 24, 3) := by decide +kernel
theorem dX9_init_41 : decode cX9_init 41 = .ok (.aload_n 0, 1) := by decide +kernel
theorem dX9_init_42 : decode cX9_init 42 = .ok (.bipush 20, 2) := by decide +kernel
theorem dX9_init_44 : decode cX9_init 44 = .ok (.putfield 28, 3) := by decide +kernel
theorem dX9_init_47 : decode cX9_init 47 = .ok (.aload_n 0, 1) := by decide +kernel
theorem dX9_init_48 : decode cX9_init 48 = .ok (.getfield 9, 3) := by decide +kernel
theorem dX9_init_51 : decode cX9_init 51 = .ok (.bipush 10, 2) := by decide +kernel
theorem dX9_init_53 : decode cX9_init 53 = .ok (.invokestatic 31, 3) := by decide +kernel
theorem dX9_init_56 : decode cX9_init 56 = .ok (.aload_n 0, 1) := by decide +kernel
theorem dX9_init_57 : decode cX9_init 57 = .ok (.getfield 15, 3) := by decide +kernel
theorem dX9_init_60 : decode cX9_init 60 = .ok (.bipush (-6), 2) := by decide +kernel
theorem dX9_init_62 : decode cX9_init 62 = .ok (.invokestatic 31, 3) := by decide +kernel
theorem dX9_init_65 : decode cX9_init 65 = .ok (.aload_n 0, 1) := by decide +kernel
theorem dX9_init_66 : decode cX9_init 66 = .ok (.getfield 18, 3) := by decide +kernel
theorem dX9_init_69 : decode cX9_init 69 = .ok (.bipush (-6), 2) := by decide +kernel
theorem dX9_init_71 : decode cX9_init 71 = .ok (.invokestatic 31, 3) := by decide +kernel
theorem dX9_init_74 : decode cX9_init 74 = .ok (.return_, 1) := by decide +kernel
set_option maxRecDepth 20000 in
theorem ggX9_copyFrom_X10_copyRow : GoodIn wsX9_copyFrom wsX10_copyRow := goodIn_r _ [9, 10, 11, 12, 13, 14, 15, 16, 17] (by decide +kernel) (by decide +kernel)
set_option maxRecDepth 20000 in
theorem gX9_copyFrom_X10_copyRow_n37 : GoodIn wsX9_copyFrom (wsX10_copyRow) := ggX9_copyFrom_X10_copyRow
theorem dX9_copyFrom_0 : decode cX9_copyFrom 0 = .ok (.aload_n 1, 1) := by decide +kernel
theorem dX9_copyFrom_1 : decode cX9_copyFrom 1 = .ok (.getfield 9, 3) := by decide +kernel
theorem dX9_copyFrom_4 : decode cX9_copyFrom 4 = .ok (.aload_n 0, 1) := by decide +kernel
theorem dX9_copyFrom_5 : decode cX9_copyFrom 5 = .ok (.getfield 9, 3) := by decide +kernel
theorem dX9_copyFrom_8 : decode cX9_copyFrom 8 = .ok (.invokestatic 37, 3) := by decide +kernel
theorem dX9_copyFrom_11 : decode cX9_copyFrom 11 = .ok (.aload_n 1, 1) := by decide +kernel
theorem dX9_copyFrom_12 : decode cX9_copyFrom 12 = .ok (.getfield 15, 3) := by decide +kernel
theorem dX9_copyFrom_15 : decode cX9_copyFrom 15 = .ok (.aload_n 0, 1) := by decide +kernel
theorem dX9_copyFrom_16 : decode cX9_copyFrom 16 = .ok (.getfield 15, 3) := by decide +kernel
theorem dX9_copyFrom_19 : decode cX9_copyFrom 19 = .ok (.invokestatic 37, 3) := by decide +kernel
theorem dX9_copyFrom_22 : decode cX9_copyFrom 22 = .ok (.aload_n 1, 1) := by decide +kernel
theorem dX9_copyFrom_23 : decode cX9_copyFrom 23 = .ok (.getfield 18, 3) := by decide +kernel
theorem dX9_copyFrom_26 : decode cX9_copyFrom 26 = .ok (.aload_n 0, 1) := by decide +kernel
theorem dX9_copyFrom_27 : decode cX9_copyFrom 27 = .ok (.getfield 18, 3) := by decide +kernel
theorem dX9_copyFrom_30 : decode cX9_copyFrom 30 = .ok (.invokestatic 37, 3) := by decide +kernel
theorem dX9_copyFrom_33 : decode cX9_copyFrom 33 = .ok (.aload_n 1, 1) := by decide +kernel
theorem dX9_copyFrom_34 : decode cX9_copyFrom 34 = .ok (.getfield 21, 3) := by decide +kernel
theorem dX9_copyFrom_37 : decode cX9_copyFrom 37 = .ok (.aload_n 0, 1) := by decide +kernel
theorem dX9_copyFrom_38 : decode cX9_copyFrom 38 = .ok (.getfield 21, 3) := by decide +kernel
theorem dX9_copyFrom_41 : decode cX9_copyFrom 41 = .ok (.invokestatic 37, 3) := by decide +kernel
theorem dX9_copyFrom_44 : decode cX9_copyFrom 44 = .ok (.aload_n 0, 1) := by decide +kernel
theorem dX9_copyFrom_45 : decode cX9_copyFrom 45 = .ok (.aload_n 1, 1) := by decide +kernel
theorem dX9_copyFrom_46 : decode cX9_copyFrom 46 = .ok (.getfield 24, 3) := by decide +kernel
theorem dX9_copyFrom_49 : decode cX9_copyFrom 49 = .ok (.putfield 24, 3) := by decide +kernel
theorem dX9_copyFrom_52 : decode cX9_copyFrom 52 = .ok (.aload_n 0, 1) := by decide +kernel
theorem dX9_copyFrom_53 : decode cX9_copyFrom 53 = .ok (.aload_n 1, 1) := by decide +kernel
theorem dX9_copyFrom_54 : decode cX9_copyFrom 54 = .ok (.getfield 28, 3) := by decide +kernel
theorem dX9_copyFrom_57 : decode cX9_copyFrom 57 = .ok (.putfield 28, 3) := by decide +kernel
theorem dX9_copyFrom_60 : decode cX9_copyFrom 60 = .ok (.return_, 1) := by decide +kernel
set_option maxRecDepth 20000 in
theorem ggX9_clear_J7_fill_53178 : GoodIn wsX9_clear wsJ7_fill_53178 := goodIn_r _ [7] (by decide +kernel) (by decide +kernel)
set_option maxRecDepth 20000 in
theorem gX9_clear_J7_fill_53178 : GoodIn wsX9_clear (va_wsS RX9 31 yJ7_fill_53178 wsJ7_fill_53178) := goodIn_app (goodIn_of _ (by decide +kernel)) ggX9_clear_J7_fill_53178
theorem dX9_clear_0 : decode cX9_clear 0 = .ok (.aload_n 0, 1) := by decide +kernel
theorem dX9_clear_1 : decode cX9_clear 1 = .ok (.getfield 15, 3) := by decide +kernel
theorem dX9_clear_4 : decode cX9_clear 4 = .ok (.bipush (-6), 2) := by decide +kernel
theorem dX9_clear_6 : decode cX9_clear 6 = .ok (.invokestatic 31, 3) := by decide +kernel
theorem dX9_clear_9 : decode cX9_clear 9 = .ok (.aload_n 0, 1) := by decide +kernel
theorem dX9_clear_10 : decode cX9_clear 10 = .ok (.getfield 18, 3) := by decide +kernel
theorem dX9_clear_13 : decode cX9_clear 13 = .ok (.bipush (-6), 2) := by decide +kernel
theorem dX9_clear_15 : decode cX9_clear 15 = .ok (.invokestatic 31, 3) := by decide +kernel
theorem dX9_clear_18 : decode cX9_clear 18 = .ok (.aload_n 0, 1) := by decide +kernel
