theorem dX10_isCar_11 : decode cX10_isCar 11 = .ok (.goto 4, 3) := by decide +kernel
theorem dX10_isCar_14 : decode cX10_isCar 14 = .ok (.iconst 0, 1) := by decide +kernel
theorem dX10_isCar_15 : decode cX10_isCar 15 = .ok (.ireturn, 1) := by decide +kernel
theorem dX10_isOf_0 : decode cX10_isOf 0 = .ok (.iload_n 0, 1) := by decide +kernel
theorem dX10_isOf_1 : decode cX10_isOf 1 = .ok (.iload_n 1, 1) := by decide +kernel
theorem dX10_isOf_2 : decode cX10_isOf 2 = .ok (.ishr, 1) := by decide +kernel
theorem dX10_isOf_3 : decode cX10_isOf 3 = .ok (.iconst 1, 1) := by decide +kernel
theorem dX10_isOf_4 : decode cX10_isOf 4 = .ok (.iand, 1) := by decide +kernel
theorem dX10_isOf_5 : decode cX10_isOf 5 = .ok (.iconst 1, 1) := by decide +kernel
theorem dX10_isOf_6 : decode cX10_isOf 6 = .ok (.if_icmp .ne 7, 3) := by decide +kernel
theorem dX10_isOf_9 : decode cX10_isOf 9 = .ok (.iconst 1, 1) := by decide +kernel
theorem dX10_isOf_10 : decode cX10_isOf 10 = .ok (.goto 4, 3) := by decide +kernel
theorem dX10_isOf_13 : decode cX10_isOf 13 = .ok (.iconst 0, 1) := by decide +kernel
theorem dX10_isOf_14 : decode cX10_isOf 14 = .ok (.ireturn, 1) := by decide +kernel
theorem dX10_at_0 : decode cX10_at 0 = .ok (.iload_n 1, 1) := by decide +kernel
theorem dX10_at_1 : decode cX10_at 1 = .ok (.ifCond .lt 15, 3) := by decide +kernel
theorem dX10_at_4 : decode cX10_at 4 = .ok (.iload_n 1, 1) := by decide +kernel
theorem dX10_at_5 : decode cX10_at 5 = .ok (.aload_n 0, 1) := by decide +kernel
theorem dX10_at_6 : decode cX10_at 6 = .ok (.arraylength, 1) := by decide +kernel
theorem dX10_at_7 : decode cX10_at 7 = .ok (.if_icmp .ge 9, 3) := by decide +kernel
theorem dX10_at_10 : decode cX10_at 10 = .ok (.aload_n 0, 1) := by decide +kernel
theorem dX10_at_11 : decode cX10_at 11 = .ok (.iload_n 1, 1) := by decide +kernel
theorem dX10_at_12 : decode cX10_at 12 = .ok (.iaload, 1) := by decide +kernel
theorem dX10_at_13 : decode cX10_at 13 = .ok (.goto 5, 3) := by decide +kernel
theorem dX10_at_16 : decode cX10_at 16 = .ok (.bipush (-6), 2) := by decide +kernel
theorem dX10_at_18 : decode cX10_at 18 = .ok (.ireturn, 1) := by decide +kernel
theorem dX10_put_0 : decode cX10_put 0 = .ok (.iload_n 1, 1) := by decide +kernel
theorem dX10_put_1 : decode cX10_put 1 = .ok (.ifCond .lt 13, 3) := by decide +kernel
theorem dX10_put_4 : decode cX10_put 4 = .ok (.iload_n 1, 1) := by decide +kernel
theorem dX10_put_5 : decode cX10_put 5 = .ok (.aload_n 0, 1) := by decide +kernel
theorem dX10_put_6 : decode cX10_put 6 = .ok (.arraylength, 1) := by decide +kernel
theorem dX10_put_7 : decode cX10_put 7 = .ok (.if_icmp .ge 7, 3) := by decide +kernel
theorem dX10_put_10 : decode cX10_put 10 = .ok (.aload_n 0, 1) := by decide +kernel
theorem dX10_put_11 : decode cX10_put 11 = .ok (.iload_n 1, 1) := by decide +kernel
theorem dX10_put_12 : decode cX10_put 12 = .ok (.iload_n 2, 1) := by decide +kernel
theorem dX10_put_13 : decode cX10_put 13 = .ok (.iastore, 1) := by decide +kernel
theorem dX10_put_14 : decode cX10_put 14 = .ok (.return_, 1) := by decide +kernel
theorem dX10_copyRow_0 : decode cX10_copyRow 0 = .ok (.aload_n 0, 1) := by decide +kernel
theorem dX10_copyRow_1 : decode cX10_copyRow 1 = .ok (.iconst 0, 1) := by decide +kernel
theorem dX10_copyRow_2 : decode cX10_copyRow 2 = .ok (.aload_n 1, 1) := by decide +kernel
theorem dX10_copyRow_3 : decode cX10_copyRow 3 = .ok (.iconst 0, 1) := by decide +kernel
theorem dX10_copyRow_4 : decode cX10_copyRow 4 = .ok (.aload_n 0, 1) := by decide +kernel
theorem dX10_copyRow_5 : decode cX10_copyRow 5 = .ok (.arraylength, 1) := by decide +kernel
theorem dX10_copyRow_6 : decode cX10_copyRow 6 = .ok (.aload_n 1, 1) := by decide +kernel
theorem dX10_copyRow_7 : decode cX10_copyRow 7 = .ok (.arraylength, 1) := by decide +kernel
theorem dX10_copyRow_8 : decode cX10_copyRow 8 = .ok (.invokestatic 257, 3) := by decide +kernel
theorem dX10_copyRow_11 : decode cX10_copyRow 11 = .ok (.invokestatic 262, 3) := by decide +kernel
theorem dX10_copyRow_14 : decode cX10_copyRow 14 = .ok (.return_, 1) := by decide +kernel
theorem dX10_greatestDivisor_0 : decode cX10_greatestDivisor 0 = .ok (.lload_n 0, 1) := by decide +kernel
theorem dX10_greatestDivisor_1 : decode cX10_greatestDivisor 1 = .ok (.lstore 4, 2) := by decide +kernel
theorem dX10_greatestDivisor_3 : decode cX10_greatestDivisor 3 = .ok (.lload_n 2, 1) := by decide +kernel
theorem dX10_greatestDivisor_4 : decode cX10_greatestDivisor 4 = .ok (.lstore 6, 2) := by decide +kernel
theorem dX10_greatestDivisor_6 : decode cX10_greatestDivisor 6 = .ok (.iconst 0, 1) := by decide +kernel
theorem dX10_greatestDivisor_7 : decode cX10_greatestDivisor 7 = .ok (.istore 8, 2) := by decide +kernel
theorem dX10_greatestDivisor_9 : decode cX10_greatestDivisor 9 = .ok (.iload 8, 2) := by decide +kernel
theorem dX10_greatestDivisor_11 : decode cX10_greatestDivisor 11 = .ok (.sipush 128, 3) := by decide +kernel
theorem dX10_greatestDivisor_14 : decode cX10_greatestDivisor 14 = .ok (.if_icmp .ge 31, 3) := by decide +kernel
theorem dX10_greatestDivisor_17 : decode cX10_greatestDivisor 17 = .ok (.lload 6, 2) := by decide +kernel
theorem dX10_greatestDivisor_19 : decode cX10_greatestDivisor 19 = .ok (.lconst 0, 1) := by decide +kernel
theorem dX10_greatestDivisor_20 : decode cX10_greatestDivisor 20 = .ok (.lcmp, 1) := by decide +kernel
theorem dX10_greatestDivisor_21 : decode cX10_greatestDivisor 21 = .ok (.ifCond .eq 24, 3) := by decide +kernel
theorem dX10_greatestDivisor_24 : decode cX10_greatestDivisor 24 = .ok (.lload 4, 2) := by decide +kernel
theorem dX10_greatestDivisor_26 : decode cX10_greatestDivisor 26 = .ok (.lload 6, 2) := by decide +kernel
theorem dX10_greatestDivisor_28 : decode cX10_greatestDivisor 28 = .ok (.lrem, 1) := by decide +kernel
theorem dX10_greatestDivisor_29 : decode cX10_greatestDivisor 29 = .ok (.lstore 9, 2) := by decide +kernel
theorem dX10_greatestDivisor_31 : decode cX10_greatestDivisor 31 = .ok (.lload 6, 2) := by decide +kernel
theorem dX10_greatestDivisor_33 : decode cX10_greatestDivisor 33 = .ok (.lstore 4, 2) := by decide +kernel
theorem dX10_greatestDivisor_35 : decode cX10_greatestDivisor 35 = .ok (.lload 9, 2) := by decide +kernel
theorem dX10_greatestDivisor_37 : decode cX10_greatestDivisor 37 = .ok (.lstore 6, 2) := by decide +kernel
theorem dX10_greatestDivisor_39 : decode cX10_greatestDivisor 39 = .ok (.iinc 8 1, 3) := by decide +kernel
theorem dX10_greatestDivisor_42 : decode cX10_greatestDivisor 42 = .ok (.goto (-33), 3) := by decide +kernel
theorem dX10_greatestDivisor_45 : decode cX10_greatestDivisor 45 = .ok (.lload 4, 2) := by decide +kernel
theorem dX10_greatestDivisor_47 : decode cX10_greatestDivisor 47 = .ok (.lreturn, 1) := by decide +kernel
theorem dX10_imageOf_0 : decode cX10_imageOf 0 = .ok (.iload_n 1, 1) := by decide +kernel
theorem dX10_imageOf_1 : decode cX10_imageOf 1 = .ok (.ifCond .ne 10, 3) := by decide +kernel
theorem dX10_imageOf_4 : decode cX10_imageOf 4 = .ok (.aload_n 0, 1) := by decide +kernel
theorem dX10_imageOf_5 : decode cX10_imageOf 5 = .ok (.getfield 57, 3) := by decide +kernel
theorem dX10_imageOf_8 : decode cX10_imageOf 8 = .ok (.goto 7, 3) := by decide +kernel
theorem dX10_imageOf_11 : decode cX10_imageOf 11 = .ok (.aload_n 0, 1) := by decide +kernel
theorem dX10_imageOf_12 : decode cX10_imageOf 12 = .ok (.getfield 61, 3) := by decide +kernel
theorem dX10_imageOf_15 : decode cX10_imageOf 15 = .ok (.areturn, 1) := by decide +kernel
set_option maxRecDepth 20000 in
theorem ggX10_refuseText_X4_firstFault : GoodIn wsX10_refuseText wsX4_firstFault := goodIn_r _ [6, 7, 8, 9, 10, 5, 11, 12, 13, 14, 15, 16, 17, 18, 19, 20, 21, 22, 23, 24, 25, 26, 27, 42, 43, 44] (by decide +kernel) (by decide +kernel)
set_option maxRecDepth 20000 in
theorem gX10_refuseText_X4_firstFault : GoodIn wsX10_refuseText (wsV RX10 93 RX4 yX4_firstFault wsX4_firstFault) := goodIn_app (goodIn_of _ (by decide +kernel)) ggX10_refuseText_X4_firstFault
set_option maxRecDepth 20000 in
theorem ggX10_refuseText_X4_asked : GoodIn wsX10_refuseText wsX4_asked := goodIn_r _ [31, 32, 42, 43, 44] (by decide +kernel) (by decide +kernel)
set_option maxRecDepth 20000 in
theorem gX10_refuseText_X4_asked : GoodIn wsX10_refuseText (wsV RX10 195 RX4 yX4_asked wsX4_asked) := goodIn_app (goodIn_of _ (by decide +kernel)) ggX10_refuseText_X4_asked
theorem dX10_refuseText_0 : decode cX10_refuseText 0 = .ok (.aload_n 0, 1) := by decide +kernel
theorem dX10_refuseText_1 : decode cX10_refuseText 1 = .ok (.getfield 22, 3) := by decide +kernel
theorem dX10_refuseText_4 : decode cX10_refuseText 4 = .ok (.invokevirtual 93, 3) := by decide +kernel
theorem dX10_refuseText_7 : decode cX10_refuseText 7 = .ok (.bipush (-6), 2) := by decide +kernel
theorem dX10_refuseText_9 : decode cX10_refuseText 9 = .ok (.if_icmp .eq 6, 3) := by decide +kernel
theorem dX10_refuseText_12 : decode cX10_refuseText 12 = .ok (.bipush (-5), 2) := by decide +kernel
theorem dX10_refuseText_14 : decode cX10_refuseText 14 = .ok (.ireturn, 1) := by decide +kernel
theorem dX10_refuseText_15 : decode cX10_refuseText 15 = .ok (.aload_n 0, 1) := by decide +kernel
theorem dX10_refuseText_16 : decode cX10_refuseText 16 = .ok (.getfield 22, 3) := by decide +kernel
theorem dX10_refuseText_19 : decode cX10_refuseText 19 = .ok (.invokevirtual 195, 3) := by decide +kernel
theorem dX10_refuseText_22 : decode cX10_refuseText 22 = .ok (.ifCond .le 8, 3) := by decide +kernel
theorem dX10_refuseText_25 : decode cX10_refuseText 25 = .ok (.bipush (-3), 2) := by decide +kernel
theorem dX10_refuseText_27 : decode cX10_refuseText 27 = .ok (.goto 4, 3) := by decide +kernel
theorem dX10_refuseText_30 : decode cX10_refuseText 30 = .ok (.iconst 0, 1) := by decide +kernel
theorem dX10_refuseText_31 : decode cX10_refuseText 31 = .ok (.ireturn, 1) := by decide +kernel
set_option maxRecDepth 20000 in
theorem ggX10_refuseEvening_X10_refuseText : GoodIn wsX10_refuseEvening wsX10_refuseText := goodIn_r _ [8, 3, 9, 10, 11, 12, 13, 14, 15, 16, 17, 18, 19, 20, 7, 21, 22, 23, 24, 25, 26, 27, 28, 29, 30, 31, 32, 33, 34, 35, 36, 37, 38, 157, 158, 159, 160, 161, 162, 163, 164, 165, 166, 167, 168] (by decide +kernel) (by decide +kernel)
set_option maxRecDepth 20000 in
theorem gX10_refuseEvening_X10_refuseText : GoodIn wsX10_refuseEvening (wsV RX10 96 RX10 yX10_refuseText wsX10_refuseText) := goodIn_app (goodIn_of _ (by decide +kernel)) ggX10_refuseEvening_X10_refuseText
set_option maxRecDepth 20000 in
theorem ggX10_refuseEvening_X7_tell : GoodIn wsX10_refuseEvening wsX7_tell := goodIn_r _ [43, 44, 45, 46, 47, 48, 49, 50, 51, 52, 53, 54, 55, 56, 57, 58, 59, 60, 61, 62, 7, 63, 64, 65, 66, 67, 68, 69, 70, 71, 72, 35, 36, 12, 37, 38, 73, 74, 75, 76, 14, 77, 16, 17, 18, 19, 20, 21, 78, 79, 80, 42, 81, 82, 83, 84, 85, 86, 87, 88, 89, 90, 91, 92, 93, 94, 95, 96, 97, 98, 99, 100, 101, 102, 103, 32, 33, 104, 105, 29, 30, 106, 107, 108, 109, 110, 111, 112, 113, 114, 115, 116, 117, 118, 119, 120, 121, 122, 123, 124, 26, 27, 125, 126, 127, 128, 129, 130, 131, 132, 133, 134, 135, 136, 137, 138, 139, 140, 141, 142, 143, 144, 145, 146, 147, 148, 149, 150, 151, 152, 153, 154, 155, 156, 169, 170, 171, 172, 173, 174, 175, 176, 177, 178, 179, 180, 181, 166, 167, 168] (by decide +kernel) (by decide +kernel)
set_option maxRecDepth 20000 in
theorem gX10_refuseEvening_X7_tell : GoodIn wsX10_refuseEvening (wsV RX10 99 RX7 yX7_tell wsX7_tell) := goodIn_app (goodIn_of _ (by decide +kernel)) ggX10_refuseEvening_X7_tell
theorem dX10_refuseEvening_0 : decode cX10_refuseEvening 0 = .ok (.aload_n 0, 1) := by decide +kernel
theorem dX10_refuseEvening_1 : decode cX10_refuseEvening 1 = .ok (.invokevirtual 96, 3) := by decide +kernel
theorem dX10_refuseEvening_4 : decode cX10_refuseEvening 4 = .ok (.istore_n 1, 1) := by decide +kernel
theorem dX10_refuseEvening_5 : decode cX10_refuseEvening 5 = .ok (.iload_n 1, 1) := by decide +kernel
theorem dX10_refuseEvening_6 : decode cX10_refuseEvening 6 = .ok (.ifCond .eq 5, 3) := by decide +kernel
theorem dX10_refuseEvening_9 : decode cX10_refuseEvening 9 = .ok (.iload_n 1, 1) := by decide +kernel
theorem dX10_refuseEvening_10 : decode cX10_refuseEvening 10 = .ok (.ireturn, 1) := by decide +kernel
theorem dX10_refuseEvening_11 : decode cX10_refuseEvening 11 = .ok (.aload_n 0, 1) := by decide +kernel
theorem dX10_refuseEvening_12 : decode cX10_refuseEvening 12 = .ok (.getfield 36, 3) := by decide +kernel
theorem dX10_refuseEvening_15 : decode cX10_refuseEvening 15 = .ok (.aload_n 0, 1) := by decide +kernel
theorem dX10_refuseEvening_16 : decode cX10_refuseEvening 16 = .ok (.getfield 10, 3) := by decide +kernel
theorem dX10_refuseEvening_19 : decode cX10_refuseEvening 19 = .ok (.aload_n 0, 1) := by decide +kernel
theorem dX10_refuseEvening_20 : decode cX10_refuseEvening 20 = .ok (.getfield 22, 3) := by decide +kernel
theorem dX10_refuseEvening_23 : decode cX10_refuseEvening 23 = .ok (.bipush (-6), 2) := by decide +kernel
theorem dX10_refuseEvening_25 : decode cX10_refuseEvening 25 = .ok (.iconst 0, 1) := by decide +kernel
theorem dX10_refuseEvening_26 : decode cX10_refuseEvening 26 = .ok (.invokevirtual 99, 3) := by decide +kernel
theorem dX10_refuseEvening_29 : decode cX10_refuseEvening 29 = .ok (.ifCond .eq 7, 3) := by decide +kernel
theorem dX10_refuseEvening_32 : decode cX10_refuseEvening 32 = .ok (.iconst 0, 1) := by decide +kernel
theorem dX10_refuseEvening_33 : decode cX10_refuseEvening 33 = .ok (.goto 5, 3) := by decide +kernel
theorem dX10_refuseEvening_36 : decode cX10_refuseEvening 36 = .ok (.bipush (-5), 2) := by decide +kernel
theorem dX10_refuseEvening_38 : decode cX10_refuseEvening 38 = .ok (.ireturn, 1) := by decide +kernel
set_option maxRecDepth 20000 in
theorem ggX10_canBeLeftOut_X4_signAt : GoodIn wsX10_canBeLeftOut wsX4_signAt := goodIn_r _ [8, 9, 10, 11, 12, 157, 158, 159] (by decide +kernel) (by decide +kernel)
set_option maxRecDepth 20000 in
theorem gX10_canBeLeftOut_X4_signAt : GoodIn wsX10_canBeLeftOut (wsV RX10 268 RX4 yX4_signAt wsX4_signAt) := goodIn_app (goodIn_of _ (by decide +kernel)) ggX10_canBeLeftOut_X4_signAt
set_option maxRecDepth 20000 in
theorem ggX10_canBeLeftOut_X4_isMotion : GoodIn wsX10_canBeLeftOut wsX4_isMotion := goodIn_r _ [15] (by decide +kernel) (by decide +kernel)
set_option maxRecDepth 20000 in
theorem gX10_canBeLeftOut_X4_isMotion : GoodIn wsX10_canBeLeftOut (va_wsS RX10 271 yX4_isMotion wsX4_isMotion) := goodIn_app (goodIn_of _ (by decide +kernel)) ggX10_canBeLeftOut_X4_isMotion
set_option maxRecDepth 20000 in
theorem ggX10_canBeLeftOut_X7_tell : GoodIn wsX10_canBeLeftOut wsX7_tell := goodIn_r _ [20, 21, 22, 23, 24, 25, 26, 27, 28, 29, 30, 31, 32, 33, 34, 35, 36, 37, 38, 39, 11, 40, 41, 42, 43, 44, 45, 46, 47, 48, 49, 50, 51, 7, 52, 53, 54, 55, 56, 57, 58, 59, 5, 6, 8, 9, 10, 12, 60, 61, 62, 19, 63, 64, 65, 66, 67, 68, 69, 70, 71, 72, 73, 74, 75, 76, 77, 78, 79, 80, 81, 82, 83, 84, 85, 14, 15, 86, 87, 88, 89, 90, 91, 92, 93, 94, 95, 96, 97, 98, 99, 100, 101, 102, 103, 104, 105, 106, 107, 108, 109, 110, 111, 112, 113, 114, 115, 116, 117, 118, 119, 120, 121, 122, 123, 124, 125, 126, 127, 128, 129, 130, 131, 132, 133, 134, 135, 136, 137, 138, 139, 140, 141, 142, 160, 161, 162, 163, 164, 165, 166, 167, 168, 169, 170, 171, 172, 157, 158, 159] (by decide +kernel) (by decide +kernel)
set_option maxRecDepth 20000 in
theorem gX10_canBeLeftOut_X7_tell : GoodIn wsX10_canBeLeftOut (wsV RX10 99 RX7 yX7_tell wsX7_tell) := goodIn_app (goodIn_of _ (by decide +kernel)) ggX10_canBeLeftOut_X7_tell
set_option maxRecDepth 20000 in
theorem ggX10_canBeLeftOut_X7_wheel : GoodIn wsX10_canBeLeftOut wsX7_wheel := goodIn_r _ [146, 21, 160, 161, 162, 163, 164, 165, 166] (by decide +kernel) (by decide +kernel)
set_option maxRecDepth 20000 in
theorem gX10_canBeLeftOut_X7_wheel : GoodIn wsX10_canBeLeftOut (wsV RX10 112 RX7 yX7_wheel wsX7_wheel) := goodIn_app (goodIn_of _ (by decide +kernel)) ggX10_canBeLeftOut_X7_wheel
set_option maxRecDepth 20000 in
theorem ggX10_canBeLeftOut_X9_lowest : GoodIn wsX10_canBeLeftOut wsX9_lowest := goodIn_r _ [97, 37, 167, 168, 169, 170, 171, 172] (by decide +kernel) (by decide +kernel)
set_option maxRecDepth 20000 in
theorem gX10_canBeLeftOut_X9_lowest : GoodIn wsX10_canBeLeftOut (wsV RX10 119 RX9 yX9_lowest wsX9_lowest) := goodIn_app (goodIn_of _ (by decide +kernel)) ggX10_canBeLeftOut_X9_lowest
theorem dX10_canBeLeftOut_0 : decode cX10_canBeLeftOut 0 = .ok (.aload_n 0, 1) := by decide +kernel
theorem dX10_canBeLeftOut_1 : decode cX10_canBeLeftOut 1 = .ok (.getfield 22, 3) := by decide +kernel
theorem dX10_canBeLeftOut_4 : decode cX10_canBeLeftOut 4 = .ok (.iload_n 1, 1) := by decide +kernel
theorem dX10_canBeLeftOut_5 : decode cX10_canBeLeftOut 5 = .ok (.invokevirtual 268, 3) := by decide +kernel
theorem dX10_canBeLeftOut_8 : decode cX10_canBeLeftOut 8 = .ok (.invokestatic 271, 3) := by decide +kernel
theorem dX10_canBeLeftOut_11 : decode cX10_canBeLeftOut 11 = .ok (.ifCond .eq 5, 3) := by decide +kernel
theorem dX10_canBeLeftOut_14 : decode cX10_canBeLeftOut 14 = .ok (.iconst 0, 1) := by decide +kernel
theorem dX10_canBeLeftOut_15 : decode cX10_canBeLeftOut 15 = .ok (.ireturn, 1) := by decide +kernel
theorem dX10_canBeLeftOut_16 : decode cX10_canBeLeftOut 16 = .ok (.aload_n 0, 1) := by decide +kernel
theorem dX10_canBeLeftOut_17 : decode cX10_canBeLeftOut 17 = .ok (.getfield 36, 3) := by decide +kernel
theorem dX10_canBeLeftOut_20 : decode cX10_canBeLeftOut 20 = .ok (.aload_n 0, 1) := by decide +kernel
theorem dX10_canBeLeftOut_21 : decode cX10_canBeLeftOut 21 = .ok (.getfield 10, 3) := by decide +kernel
theorem dX10_canBeLeftOut_24 : decode cX10_canBeLeftOut 24 = .ok (.aload_n 0, 1) := by decide +kernel
theorem dX10_canBeLeftOut_25 : decode cX10_canBeLeftOut 25 = .ok (.getfield 22, 3) := by decide +kernel
theorem dX10_canBeLeftOut_28 : decode cX10_canBeLeftOut 28 = .ok (.iload_n 1, 1) := by decide +kernel
theorem dX10_canBeLeftOut_29 : decode cX10_canBeLeftOut 29 = .ok (.iconst 0, 1) := by decide +kernel
theorem dX10_canBeLeftOut_30 : decode cX10_canBeLeftOut 30 = .ok (.invokevirtual 99, 3) := by decide +kernel
theorem dX10_canBeLeftOut_33 : decode cX10_canBeLeftOut 33 = .ok (.ifCond .eq 21, 3) := by decide +kernel
theorem dX10_canBeLeftOut_36 : decode cX10_canBeLeftOut 36 = .ok (.aload_n 0, 1) := by decide +kernel
theorem dX10_canBeLeftOut_37 : decode cX10_canBeLeftOut 37 = .ok (.getfield 36, 3) := by decide +kernel
theorem dX10_canBeLeftOut_40 : decode cX10_canBeLeftOut 40 = .ok (.invokevirtual 112, 3) := by decide +kernel
theorem dX10_canBeLeftOut_43 : decode cX10_canBeLeftOut 43 = .ok (.invokevirtual 119, 3) := by decide +kernel
theorem dX10_canBeLeftOut_46 : decode cX10_canBeLeftOut 46 = .ok (.iload_n 2, 1) := by decide +kernel
theorem dX10_canBeLeftOut_47 : decode cX10_canBeLeftOut 47 = .ok (.if_icmp .ne 7, 3) := by decide +kernel
theorem dX10_canBeLeftOut_50 : decode cX10_canBeLeftOut 50 = .ok (.iconst 1, 1) := by decide +kernel
theorem dX10_canBeLeftOut_51 : decode cX10_canBeLeftOut 51 = .ok (.goto 4, 3) := by decide +kernel
theorem dX10_canBeLeftOut_54 : decode cX10_canBeLeftOut 54 = .ok (.iconst 0, 1) := by decide +kernel
theorem dX10_canBeLeftOut_55 : decode cX10_canBeLeftOut 55 = .ok (.ireturn, 1) := by decide +kernel
set_option maxRecDepth 20000 in
theorem ggX10_tellMove_X3_getsOut : GoodIn wsX10_tellMove wsX3_getsOut := goodIn_r _ [5, 6, 7, 8, 9, 10, 11, 12, 13, 14, 15, 28, 29, 30, 31, 32, 33] (by decide +kernel) (by decide +kernel)
set_option maxRecDepth 20000 in
theorem gX10_tellMove_X3_getsOut : GoodIn wsX10_tellMove (va_wsS RX10 274 yX3_getsOut wsX3_getsOut) := goodIn_app (goodIn_of _ (by decide +kernel)) ggX10_tellMove_X3_getsOut
set_option maxRecDepth 20000 in
theorem ggX10_tellMove_X10_isPerson : GoodIn wsX10_tellMove wsX10_isPerson := goodIn_r _ [18] (by decide +kernel) (by decide +kernel)
set_option maxRecDepth 20000 in
theorem gX10_tellMove_X10_isPerson : GoodIn wsX10_tellMove (va_wsS RX10 64 yX10_isPerson wsX10_isPerson) := goodIn_app (goodIn_of _ (by decide +kernel)) ggX10_tellMove_X10_isPerson
theorem dX10_tellMove_0 : decode cX10_tellMove 0 = .ok (.iload_n 2, 1) := by decide +kernel
theorem dX10_tellMove_1 : decode cX10_tellMove 1 = .ok (.iconst 1, 1) := by decide +kernel
theorem dX10_tellMove_2 : decode cX10_tellMove 2 = .ok (.if_icmp .ne 20, 3) := by decide +kernel
theorem dX10_tellMove_5 : decode cX10_tellMove 5 = .ok (.aload_n 0, 1) := by decide +kernel
theorem dX10_tellMove_6 : decode cX10_tellMove 6 = .ok (.getfield 10, 3) := by decide +kernel
theorem dX10_tellMove_9 : decode cX10_tellMove 9 = .ok (.iload_n 1, 1) := by decide +kernel
theorem dX10_tellMove_10 : decode cX10_tellMove 10 = .ok (.invokestatic 274, 3) := by decide +kernel
theorem dX10_tellMove_13 : decode cX10_tellMove 13 = .ok (.ifCond .eq 7, 3) := by decide +kernel
theorem dX10_tellMove_16 : decode cX10_tellMove 16 = .ok (.iconst 1, 1) := by decide +kernel
theorem dX10_tellMove_17 : decode cX10_tellMove 17 = .ok (.goto 4, 3) := by decide +kernel
theorem dX10_tellMove_20 : decode cX10_tellMove 20 = .ok (.iconst 0, 1) := by decide +kernel
theorem dX10_tellMove_21 : decode cX10_tellMove 21 = .ok (.ireturn, 1) := by decide +kernel
theorem dX10_tellMove_22 : decode cX10_tellMove 22 = .ok (.iload_n 1, 1) := by decide +kernel
theorem dX10_tellMove_23 : decode cX10_tellMove 23 = .ok (.invokestatic 64, 3) := by decide +kernel
theorem dX10_tellMove_26 : decode cX10_tellMove 26 = .ok (.ifCond .eq 7, 3) := by decide +kernel
theorem dX10_tellMove_29 : decode cX10_tellMove 29 = .ok (.iload_n 1, 1) := by decide +kernel
theorem dX10_tellMove_30 : decode cX10_tellMove 30 = .ok (.goto 5, 3) := by decide +kernel
theorem dX10_tellMove_33 : decode cX10_tellMove 33 = .ok (.bipush (-6), 2) := by decide +kernel
theorem dX10_tellMove_35 : decode cX10_tellMove 35 = .ok (.ireturn, 1) := by decide +kernel
set_option maxRecDepth 20000 in
theorem ggX10_endsAt_X9_copyFrom : GoodIn wsX10_endsAt wsX9_copyFrom := goodIn_r _ [9, 10, 11, 12, 13, 14, 15, 16, 17, 18, 19, 20, 21, 22, 23, 24, 25, 26, 161, 162, 163, 164, 165, 166] (by decide +kernel) (by decide +kernel)
set_option maxRecDepth 20000 in
theorem gX10_endsAt_X9_copyFrom : GoodIn wsX10_endsAt (wsV RX10 115 RX9 yX9_copyFrom wsX9_copyFrom) := goodIn_app (goodIn_of _ (by decide +kernel)) ggX10_endsAt_X9_copyFrom
set_option maxRecDepth 20000 in
theorem ggX10_endsAt_X9_setWeight : GoodIn wsX10_endsAt wsX9_setWeight := goodIn_r _ [30, 10, 31, 17, 32, 161, 162, 163, 164, 165, 166] (by decide +kernel) (by decide +kernel)
set_option maxRecDepth 20000 in
theorem gX10_endsAt_X9_setWeight : GoodIn wsX10_endsAt (wsV RX10 72 RX9 yX9_setWeight wsX9_setWeight) := goodIn_app (goodIn_of _ (by decide +kernel)) ggX10_endsAt_X9_setWeight
set_option maxRecDepth 20000 in
theorem ggX10_endsAt_X7_tell : GoodIn wsX10_endsAt wsX7_tell := goodIn_r _ [37, 38, 39, 40, 41, 42, 43, 44, 45, 6, 7, 8, 9, 10, 11, 12, 13, 14, 15, 16, 17, 18, 19, 20, 21, 22, 23, 24, 25, 26, 46, 47, 48, 49, 50, 51, 52, 53, 54, 55, 56, 57, 58, 59, 60, 61, 62, 63, 64, 65, 66, 36, 67, 68, 69, 70, 71, 72, 73, 74, 75, 76, 77, 78, 79, 80, 81, 82, 83, 84, 85, 86, 87, 88, 89, 90, 91, 92, 93, 94, 95, 96, 97, 98, 99, 100, 101, 102, 103, 104, 105, 106, 107, 108, 109, 110, 111, 31, 32, 112, 113, 114, 115, 116, 117, 118, 119, 120, 121, 122, 123, 124, 125, 126, 127, 128, 129, 130, 131, 132, 133, 134, 135, 136, 137, 138, 139, 140, 141, 142, 143, 144, 145, 146, 167, 168, 169, 170, 171, 172, 173, 161, 162, 163, 164, 165, 166, 174, 175, 176] (by decide +kernel) (by decide +kernel)
set_option maxRecDepth 20000 in
theorem gX10_endsAt_X7_tell : GoodIn wsX10_endsAt (wsV RX10 99 RX7 yX7_tell wsX7_tell) := goodIn_app (goodIn_of _ (by decide +kernel)) ggX10_endsAt_X7_tell
set_option maxRecDepth 20000 in
theorem ggX10_endsAt_X7_wheel : GoodIn wsX10_endsAt wsX7_wheel := goodIn_r _ [150, 38, 167, 168, 169, 170, 171, 172, 173] (by decide +kernel) (by decide +kernel)
set_option maxRecDepth 20000 in
theorem gX10_endsAt_X7_wheel : GoodIn wsX10_endsAt (wsV RX10 112 RX7 yX7_wheel wsX7_wheel) := goodIn_app (goodIn_of _ (by decide +kernel)) ggX10_endsAt_X7_wheel
set_option maxRecDepth 20000 in
theorem ggX10_endsAt_X9_lowest : GoodIn wsX10_endsAt wsX9_lowest := goodIn_r _ [103, 14, 161, 162, 163, 164, 165, 166] (by decide +kernel) (by decide +kernel)
set_option maxRecDepth 20000 in
theorem gX10_endsAt_X9_lowest : GoodIn wsX10_endsAt (wsV RX10 119 RX9 yX9_lowest wsX9_lowest) := goodIn_app (goodIn_of _ (by decide +kernel)) ggX10_endsAt_X9_lowest
theorem dX10_endsAt_0 : decode cX10_endsAt 0 = .ok (.aload_n 0, 1) := by decide +kernel
theorem dX10_endsAt_1 : decode cX10_endsAt 1 = .ok (.getfield 16, 3) := by decide +kernel
theorem dX10_endsAt_4 : decode cX10_endsAt 4 = .ok (.aload_n 0, 1) := by decide +kernel
theorem dX10_endsAt_5 : decode cX10_endsAt 5 = .ok (.getfield 10, 3) := by decide +kernel
theorem dX10_endsAt_8 : decode cX10_endsAt 8 = .ok (.invokevirtual 115, 3) := by decide +kernel
theorem dX10_endsAt_11 : decode cX10_endsAt 11 = .ok (.aload_n 0, 1) := by decide +kernel
theorem dX10_endsAt_12 : decode cX10_endsAt 12 = .ok (.getfield 16, 3) := by decide +kernel
theorem dX10_endsAt_15 : decode cX10_endsAt 15 = .ok (.iload_n 1, 1) := by decide +kernel
theorem dX10_endsAt_16 : decode cX10_endsAt 16 = .ok (.iload_n 2, 1) := by decide +kernel
theorem dX10_endsAt_17 : decode cX10_endsAt 17 = .ok (.invokevirtual 72, 3) := by decide +kernel
theorem dX10_endsAt_20 : decode cX10_endsAt 20 = .ok (.aload_n 0, 1) := by decide +kernel
theorem dX10_endsAt_21 : decode cX10_endsAt 21 = .ok (.getfield 36, 3) := by decide +kernel
theorem dX10_endsAt_24 : decode cX10_endsAt 24 = .ok (.aload_n 0, 1) := by decide +kernel
theorem dX10_endsAt_25 : decode cX10_endsAt 25 = .ok (.getfield 16, 3) := by decide +kernel
theorem dX10_endsAt_28 : decode cX10_endsAt 28 = .ok (.aload_n 0, 1) := by decide +kernel
theorem dX10_endsAt_29 : decode cX10_endsAt 29 = .ok (.getfield 22, 3) := by decide +kernel
theorem dX10_endsAt_32 : decode cX10_endsAt 32 = .ok (.bipush (-6), 2) := by decide +kernel
theorem dX10_endsAt_34 : decode cX10_endsAt 34 = .ok (.iconst 0, 1) := by decide +kernel
theorem dX10_endsAt_35 : decode cX10_endsAt 35 = .ok (.invokevirtual 99, 3) := by decide +kernel
theorem dX10_endsAt_38 : decode cX10_endsAt 38 = .ok (.ifCond .eq 21, 3) := by decide +kernel
theorem dX10_endsAt_41 : decode cX10_endsAt 41 = .ok (.aload_n 0, 1) := by decide +kernel
theorem dX10_endsAt_42 : decode cX10_endsAt 42 = .ok (.getfield 36, 3) := by decide +kernel
theorem dX10_endsAt_45 : decode cX10_endsAt 45 = .ok (.invokevirtual 112, 3) := by decide +kernel
theorem dX10_endsAt_48 : decode cX10_endsAt 48 = .ok (.invokevirtual 119, 3) := by decide +kernel
theorem dX10_endsAt_51 : decode cX10_endsAt 51 = .ok (.iload_n 3, 1) := by decide +kernel
theorem dX10_endsAt_52 : decode cX10_endsAt 52 = .ok (.if_icmp .ne 7, 3) := by decide +kernel
theorem dX10_endsAt_55 : decode cX10_endsAt 55 = .ok (.iconst 1, 1) := by decide +kernel
theorem dX10_endsAt_56 : decode cX10_endsAt 56 = .ok (.goto 4, 3) := by decide +kernel
theorem dX10_endsAt_59 : decode cX10_endsAt 59 = .ok (.iconst 0, 1) := by decide +kernel
theorem dX10_endsAt_60 : decode cX10_endsAt 60 = .ok (.ireturn, 1) := by decide +kernel
set_option maxRecDepth 20000 in
theorem ggX10_holds_X7_tell : GoodIn wsX10_holds wsX7_tell := goodIn_r _ [9, 10, 11, 12, 13, 14, 15, 16, 17, 18, 19, 20, 21, 22, 23, 24, 25, 26, 27, 28, 29, 30, 31, 32, 33, 34, 35, 36, 37, 38, 39, 40, 41, 42, 43, 44, 45, 46, 47, 48, 49, 50, 51, 52, 53, 54, 55, 56, 57, 58, 59, 8, 60, 61, 62, 63, 64, 65, 66, 67, 68, 69, 70, 71, 72, 73, 74, 75, 76, 77, 78, 79, 80, 81, 82, 83, 84, 85, 86, 87, 88, 89, 90, 91, 92, 93, 94, 95, 96, 97, 98, 99, 100, 101, 102, 103, 104, 105, 106, 107, 108, 109, 110, 111, 112, 113, 114, 115, 116, 117, 118, 119, 120, 121, 122, 123, 124, 125, 126, 127, 128, 129, 130, 131, 132, 133, 134, 135, 136, 137, 138, 139, 140, 141, 167, 168, 169, 170, 171, 172, 173, 174, 175, 176, 177, 178, 179, 180, 181, 182] (by decide +kernel) (by decide +kernel)
set_option maxRecDepth 20000 in
theorem gX10_holds_X7_tell : GoodIn wsX10_holds (wsV RX10 99 RX7 yX7_tell wsX7_tell) := goodIn_app (goodIn_of _ (by decide +kernel)) ggX10_holds_X7_tell
set_option maxRecDepth 20000 in
theorem ggX10_holds_X7_wheel : GoodIn wsX10_holds wsX7_wheel := goodIn_r _ [145, 10, 167, 168, 169, 170, 171, 172, 173] (by decide +kernel) (by decide +kernel)
set_option maxRecDepth 20000 in
theorem gX10_holds_X7_wheel : GoodIn wsX10_holds (wsV RX10 112 RX7 yX7_wheel wsX7_wheel) := goodIn_app (goodIn_of _ (by decide +kernel)) ggX10_holds_X7_wheel
set_option maxRecDepth 20000 in
theorem ggX10_holds_X6_areTrue : GoodIn wsX10_holds wsX6_areTrue := goodIn_r _ [150, 151, 152, 153, 55, 29, 56, 154, 155, 156, 20, 157, 23, 183, 184, 185, 174, 175, 176, 177, 178, 179] (by decide +kernel) (by decide +kernel)
set_option maxRecDepth 20000 in
theorem gX10_holds_X6_areTrue : GoodIn wsX10_holds (wsV RX10 278 RX6 yX6_areTrue wsX6_areTrue) := goodIn_app (goodIn_of _ (by decide +kernel)) ggX10_holds_X6_areTrue
theorem dX10_holds_0 : decode cX10_holds 0 = .ok (.aload_n 0, 1) := by decide +kernel
theorem dX10_holds_1 : decode cX10_holds 1 = .ok (.getfield 36, 3) := by decide +kernel
theorem dX10_holds_4 : decode cX10_holds 4 = .ok (.aload_n 0, 1) := by decide +kernel
theorem dX10_holds_5 : decode cX10_holds 5 = .ok (.getfield 10, 3) := by decide +kernel
theorem dX10_holds_8 : decode cX10_holds 8 = .ok (.aload_n 0, 1) := by decide +kernel
theorem dX10_holds_9 : decode cX10_holds 9 = .ok (.getfield 22, 3) := by decide +kernel
theorem dX10_holds_12 : decode cX10_holds 12 = .ok (.bipush (-6), 2) := by decide +kernel
theorem dX10_holds_14 : decode cX10_holds 14 = .ok (.iload_n 1, 1) := by decide +kernel
theorem dX10_holds_15 : decode cX10_holds 15 = .ok (.invokevirtual 99, 3) := by decide +kernel
theorem dX10_holds_18 : decode cX10_holds 18 = .ok (.ifCond .eq 24, 3) := by decide +kernel
theorem dX10_holds_21 : decode cX10_holds 21 = .ok (.aload_n 0, 1) := by decide +kernel
theorem dX10_holds_22 : decode cX10_holds 22 = .ok (.getfield 29, 3) := by decide +kernel
theorem dX10_holds_25 : decode cX10_holds 25 = .ok (.aload_n 0, 1) := by decide +kernel
theorem dX10_holds_26 : decode cX10_holds 26 = .ok (.getfield 36, 3) := by decide +kernel
theorem dX10_holds_29 : decode cX10_holds 29 = .ok (.invokevirtual 112, 3) := by decide +kernel
theorem dX10_holds_32 : decode cX10_holds 32 = .ok (.invokevirtual 278, 3) := by decide +kernel
theorem dX10_holds_35 : decode cX10_holds 35 = .ok (.ifCond .eq 7, 3) := by decide +kernel
theorem dX10_holds_38 : decode cX10_holds 38 = .ok (.iconst 1, 1) := by decide +kernel
theorem dX10_holds_39 : decode cX10_holds 39 = .ok (.goto 4, 3) := by decide +kernel
theorem dX10_holds_42 : decode cX10_holds 42 = .ok (.iconst 0, 1) := by decide +kernel
theorem dX10_holds_43 : decode cX10_holds 43 = .ok (.ireturn, 1) := by decide +kernel
theorem dX11_init_0 : decode cX11_init 0 = .ok (.aload_n 0, 1) := by decide +kernel
theorem dX11_init_1 : decode cX11_init 1 = .ok (.invokespecial 1, 3) := by decide +kernel
theorem dX11_init_4 : decode cX11_init 4 = .ok (.aload_n 0, 1) := by decide +kernel
theorem dX11_init_5 : decode cX11_init 5 = .ok (.bipush 8, 2) := by decide +kernel
theorem dX11_init_7 : decode cX11_init 7 = .ok (.newarray .int, 2) := by decide +kernel
theorem dX11_init_9 : decode cX11_init 9 = .ok (.putfield 7, 3) := by decide +kernel
theorem dX11_init_12 : decode cX11_init 12 = .ok (.aload_n 0, 1) := by decide +kernel
theorem dX11_init_13 : decode cX11_init 13 = .ok (.bipush 8, 2) := by decide +kernel
theorem dX11_init_15 : decode cX11_init 15 = .ok (.newarray .int, 2) := by decide +kernel
theorem dX11_init_17 : decode cX11_init 17 = .ok (.putfield 13, 3) := by decide +kernel
theorem dX11_init_20 : decode cX11_init 20 = .ok (.aload_n 0, 1) := by decide +kernel
theorem dX11_init_21 : decode cX11_init 21 = .ok (.bipush 8, 2) := by decide +kernel
theorem dX11_init_23 : decode cX11_init 23 = .ok (.newarray .int, 2) := by decide +kernel
theorem dX11_init_25 : decode cX11_init 25 = .ok (.putfield 16, 3) := by decide +kernel
theorem dX11_init_28 : decode cX11_init 28 = .ok (.aload_n 0, 1) := by decide +kernel
theorem dX11_init_29 : decode cX11_init 29 = .ok (.bipush 20, 2) := by decide +kernel
theorem dX11_init_31 : decode cX11_init 31 = .ok (.putfield 19, 3) := by decide +kernel
theorem dX11_init_34 : decode cX11_init 34 = .ok (.aload_n 0, 1) := by decide +kernel
theorem dX11_init_35 : decode cX11_init 35 = .ok (.bipush 12, 2) := by decide +kernel
theorem dX11_init_37 : decode cX11_init 37 = .ok (.newarray .int, 2) := by decide +kernel
theorem dX11_init_39 : decode cX11_init 39 = .ok (.putfield 23, 3) := by decide +kernel
theorem dX11_init_42 : decode cX11_init 42 = .ok (.aload_n 0, 1) := by decide +kernel
theorem dX11_init_43 : decode cX11_init 43 = .ok (.bipush 60, 2) := by decide +kernel
theorem dX11_init_45 : decode cX11_init 45 = .ok (.newarray .int, 2) := by decide +kernel
theorem dX11_init_47 : decode cX11_init 47 = .ok (.putfield 26, 3) := by decide +kernel
theorem dX11_init_50 : decode cX11_init 50 = .ok (.aload_n 0, 1) := by decide +kernel
theorem dX11_init_51 : decode cX11_init 51 = .ok (.bipush 8, 2) := by decide +kernel
theorem dX11_init_53 : decode cX11_init 53 = .ok (.newarray .int, 2) := by decide +kernel
theorem dX11_init_55 : decode cX11_init 55 = .ok (.putfield 29, 3) := by decide +kernel
theorem dX11_init_58 : decode cX11_init 58 = .ok (.aload_n 0, 1) := by decide +kernel
theorem dX11_init_59 : decode cX11_init 59 = .ok (.bipush 8, 2) := by decide +kernel
theorem dX11_init_61 : decode cX11_init 61 = .ok (.newarray .int, 2) := by decide +kernel
theorem dX11_init_63 : decode cX11_init 63 = .ok (.putfield 32, 3) := by decide +kernel
theorem dX11_init_66 : decode cX11_init 66 = .ok (.aload_n 0, 1) := by decide +kernel
theorem dX11_init_67 : decode cX11_init 67 = .ok (.bipush 80, 2) := by decide +kernel
theorem dX11_init_69 : decode cX11_init 69 = .ok (.newarray .int, 2) := by decide +kernel
theorem dX11_init_71 : decode cX11_init 71 = .ok (.putfield 35, 3) := by decide +kernel
theorem dX11_init_74 : decode cX11_init 74 = .ok (.aload_n 0, 1) := by decide +kernel
theorem dX11_init_75 : decode cX11_init 75 = .ok (.iconst 2, 1) := by decide +kernel
theorem dX11_init_76 : decode cX11_init 76 = .ok (.newarray .boolean, 2) := by decide +kernel
theorem dX11_init_78 : decode cX11_init 78 = .ok (.putfield 38, 3) := by decide +kernel
theorem dX11_init_81 : decode cX11_init 81 = .ok (.iconst 0, 1) := by decide +kernel
theorem dX11_init_82 : decode cX11_init 82 = .ok (.istore_n 1, 1) := by decide +kernel
theorem dX11_init_83 : decode cX11_init 83 = .ok (.iload_n 1, 1) := by decide +kernel
theorem dX11_init_84 : decode cX11_init 84 = .ok (.bipush 8, 2) := by decide +kernel
theorem dX11_init_86 : decode cX11_init 86 = .ok (.if_icmp .ge 25, 3) := by decide +kernel
theorem dX11_init_89 : decode cX11_init 89 = .ok (.aload_n 0, 1) := by decide +kernel
theorem dX11_init_90 : decode cX11_init 90 = .ok (.getfield 7, 3) := by decide +kernel
theorem dX11_init_93 : decode cX11_init 93 = .ok (.iload_n 1, 1) := by decide +kernel
theorem dX11_init_94 : decode cX11_init 94 = .ok (.bipush 10, 2) := by decide +kernel
theorem dX11_init_96 : decode cX11_init 96 = .ok (.iastore, 1) := by decide +kernel
theorem dX11_init_97 : decode cX11_init 97 = .ok (.aload_n 0, 1) := by decide +kernel
theorem dX11_init_98 : decode cX11_init 98 = .ok (.getfield 13, 3) := by decide +kernel
theorem dX11_init_101 : decode cX11_init 101 = .ok (.iload_n 1, 1) := by decide +kernel
theorem dX11_init_102 : decode cX11_init 102 = .ok (.bipush (-6), 2) := by decide +kernel
theorem dX11_init_104 : decode cX11_init 104 = .ok (.iastore, 1) := by decide +kernel
theorem dX11_init_105 : decode cX11_init 105 = .ok (.iinc 1 1, 3) := by decide +kernel
theorem dX11_init_108 : decode cX11_init 108 = .ok (.goto (-25), 3) := by decide +kernel
theorem dX11_init_111 : decode cX11_init 111 = .ok (.return_, 1) := by decide +kernel
theorem dX11_in_0 : decode cX11_in 0 = .ok (.iload_n 0, 1) := by decide +kernel
theorem dX11_in_1 : decode cX11_in 1 = .ok (.iload_n 1, 1) := by decide +kernel
theorem dX11_in_2 : decode cX11_in 2 = .ok (.if_icmp .lt 12, 3) := by decide +kernel
theorem dX11_in_5 : decode cX11_in 5 = .ok (.iload_n 0, 1) := by decide +kernel
theorem dX11_in_6 : decode cX11_in 6 = .ok (.iload_n 2, 1) := by decide +kernel
theorem dX11_in_7 : decode cX11_in 7 = .ok (.if_icmp .gt 7, 3) := by decide +kernel
theorem dX11_in_10 : decode cX11_in 10 = .ok (.iconst 1, 1) := by decide +kernel
theorem dX11_in_11 : decode cX11_in 11 = .ok (.goto 4, 3) := by decide +kernel
theorem dX11_in_14 : decode cX11_in 14 = .ok (.iconst 0, 1) := by decide +kernel
theorem dX11_in_15 : decode cX11_in 15 = .ok (.ireturn, 1) := by decide +kernel
theorem dX11_has_0 : decode cX11_has 0 = .ok (.iload_n 0, 1) := by decide +kernel
theorem dX11_has_1 : decode cX11_has 1 = .ok (.iload_n 1, 1) := by decide +kernel
theorem dX11_has_2 : decode cX11_has 2 = .ok (.ishr, 1) := by decide +kernel
theorem dX11_has_3 : decode cX11_has 3 = .ok (.iconst 1, 1) := by decide +kernel
theorem dX11_has_4 : decode cX11_has 4 = .ok (.iand, 1) := by decide +kernel
theorem dX11_has_5 : decode cX11_has 5 = .ok (.iconst 1, 1) := by decide +kernel
theorem dX11_has_6 : decode cX11_has 6 = .ok (.if_icmp .ne 7, 3) := by decide +kernel
theorem dX11_has_9 : decode cX11_has 9 = .ok (.iconst 1, 1) := by decide +kernel
theorem dX11_has_10 : decode cX11_has 10 = .ok (.goto 4, 3) := by decide +kernel
theorem dX11_has_13 : decode cX11_has 13 = .ok (.iconst 0, 1) := by decide +kernel
theorem dX11_has_14 : decode cX11_has 14 = .ok (.ireturn, 1) := by decide +kernel
set_option maxRecDepth 20000 in
theorem ggX11_is8_X11_in : GoodIn wsX11_is8 wsX11_in := goodIn_r _ [4] (by decide +kernel) (by decide +kernel)
set_option maxRecDepth 20000 in
theorem gX11_is8_X11_in : GoodIn wsX11_is8 (va_wsS RX11 42 yX11_in wsX11_in) := goodIn_app (goodIn_of _ (by decide +kernel)) ggX11_is8_X11_in
theorem dX11_is8_0 : decode cX11_is8 0 = .ok (.iload_n 0, 1) := by decide +kernel
theorem dX11_is8_1 : decode cX11_is8 1 = .ok (.iconst 0, 1) := by decide +kernel
theorem dX11_is8_2 : decode cX11_is8 2 = .ok (.bipush 7, 2) := by decide +kernel
theorem dX11_is8_4 : decode cX11_is8 4 = .ok (.invokestatic 42, 3) := by decide +kernel
theorem dX11_is8_7 : decode cX11_is8 7 = .ok (.ireturn, 1) := by decide +kernel
theorem dX11_arm_0 : decode cX11_arm 0 = .ok (.iload_n 0, 1) := by decide +kernel
theorem dX11_arm_1 : decode cX11_arm 1 = .ok (.iconst 4, 1) := by decide +kernel
theorem dX11_arm_2 : decode cX11_arm 2 = .ok (.if_icmp .ge 7, 3) := by decide +kernel
theorem dX11_arm_5 : decode cX11_arm 5 = .ok (.iload_n 0, 1) := by decide +kernel
theorem dX11_arm_6 : decode cX11_arm 6 = .ok (.goto 6, 3) := by decide +kernel
theorem dX11_arm_9 : decode cX11_arm 9 = .ok (.iload_n 0, 1) := by decide +kernel
theorem dX11_arm_10 : decode cX11_arm 10 = .ok (.iconst 4, 1) := by decide +kernel
theorem dX11_arm_11 : decode cX11_arm 11 = .ok (.isub, 1) := by decide +kernel
theorem dX11_arm_12 : decode cX11_arm 12 = .ok (.istore_n 1, 1) := by decide +kernel
theorem dX11_arm_13 : decode cX11_arm 13 = .ok (.iload_n 1, 1) := by decide +kernel
theorem dX11_arm_14 : decode cX11_arm 14 = .ok (.ifCond .ne 7, 3) := by decide +kernel
theorem dX11_arm_17 : decode cX11_arm 17 = .ok (.iconst 0, 1) := by decide +kernel
theorem dX11_arm_18 : decode cX11_arm 18 = .ok (.goto 15, 3) := by decide +kernel
theorem dX11_arm_21 : decode cX11_arm 21 = .ok (.iload_n 1, 1) := by decide +kernel
theorem dX11_arm_22 : decode cX11_arm 22 = .ok (.iconst 2, 1) := by decide +kernel
theorem dX11_arm_23 : decode cX11_arm 23 = .ok (.if_icmp .ne 8, 3) := by decide +kernel
theorem dX11_arm_26 : decode cX11_arm 26 = .ok (.bipush 10, 2) := by decide +kernel
theorem dX11_arm_28 : decode cX11_arm 28 = .ok (.goto 5, 3) := by decide +kernel
theorem dX11_arm_31 : decode cX11_arm 31 = .ok (.bipush 7, 2) := by decide +kernel
theorem dX11_arm_33 : decode cX11_arm 33 = .ok (.istore_n 2, 1) := by decide +kernel
theorem dX11_arm_34 : decode cX11_arm 34 = .ok (.iload_n 0, 1) := by decide +kernel
theorem dX11_arm_35 : decode cX11_arm 35 = .ok (.iconst 4, 1) := by decide +kernel
theorem dX11_arm_36 : decode cX11_arm 36 = .ok (.if_icmp .ge 7, 3) := by decide +kernel
theorem dX11_arm_39 : decode cX11_arm 39 = .ok (.iload_n 2, 1) := by decide +kernel
theorem dX11_arm_40 : decode cX11_arm 40 = .ok (.goto 5, 3) := by decide +kernel
theorem dX11_arm_43 : decode cX11_arm 43 = .ok (.iload_n 2, 1) := by decide +kernel
theorem dX11_arm_44 : decode cX11_arm 44 = .ok (.ineg, 1) := by decide +kernel
theorem dX11_arm_45 : decode cX11_arm 45 = .ok (.ireturn, 1) := by decide +kernel
set_option maxRecDepth 20000 in
theorem ggX11_weigh_X11_is8 : GoodIn wsX11_weigh wsX11_is8 := goodIn_r _ [5, 6, 7, 4, 8] (by decide +kernel) (by decide +kernel)
set_option maxRecDepth 20000 in
theorem gX11_weigh_X11_is8 : GoodIn wsX11_weigh (va_wsS RX11 46 yX11_is8 wsX11_is8) := goodIn_app (goodIn_of _ (by decide +kernel)) ggX11_weigh_X11_is8
set_option maxRecDepth 20000 in
theorem ggX11_weigh_X11_in : GoodIn wsX11_weigh wsX11_in := goodIn_r _ [8] (by decide +kernel) (by decide +kernel)
set_option maxRecDepth 20000 in
theorem gX11_weigh_X11_in : GoodIn wsX11_weigh (va_wsS RX11 42 yX11_in wsX11_in) := goodIn_app (goodIn_of _ (by decide +kernel)) ggX11_weigh_X11_in
theorem dX11_weigh_0 : decode cX11_weigh 0 = .ok (.iload_n 1, 1) := by decide +kernel
theorem dX11_weigh_1 : decode cX11_weigh 1 = .ok (.invokestatic 46, 3) := by decide +kernel
theorem dX11_weigh_4 : decode cX11_weigh 4 = .ok (.ifCond .ne 5, 3) := by decide +kernel
theorem dX11_weigh_7 : decode cX11_weigh 7 = .ok (.iconst (-1), 1) := by decide +kernel
theorem dX11_weigh_8 : decode cX11_weigh 8 = .ok (.ireturn, 1) := by decide +kernel
theorem dX11_weigh_9 : decode cX11_weigh 9 = .ok (.iload_n 2, 1) := by decide +kernel
theorem dX11_weigh_10 : decode cX11_weigh 10 = .ok (.iconst 1, 1) := by decide +kernel
theorem dX11_weigh_11 : decode cX11_weigh 11 = .ok (.bipush 99, 2) := by decide +kernel
theorem dX11_weigh_13 : decode cX11_weigh 13 = .ok (.invokestatic 42, 3) := by decide +kernel
theorem dX11_weigh_16 : decode cX11_weigh 16 = .ok (.ifCond .ne 6, 3) := by decide +kernel
theorem dX11_weigh_19 : decode cX11_weigh 19 = .ok (.bipush (-2), 2) := by decide +kernel
theorem dX11_weigh_21 : decode cX11_weigh 21 = .ok (.ireturn, 1) := by decide +kernel
theorem dX11_weigh_22 : decode cX11_weigh 22 = .ok (.aload_n 0, 1) := by decide +kernel
theorem dX11_weigh_23 : decode cX11_weigh 23 = .ok (.getfield 7, 3) := by decide +kernel
theorem dX11_weigh_26 : decode cX11_weigh 26 = .ok (.iload_n 1, 1) := by decide +kernel
theorem dX11_weigh_27 : decode cX11_weigh 27 = .ok (.iaload, 1) := by decide +kernel
theorem dX11_weigh_28 : decode cX11_weigh 28 = .ok (.istore_n 3, 1) := by decide +kernel
theorem dX11_weigh_29 : decode cX11_weigh 29 = .ok (.aload_n 0, 1) := by decide +kernel
theorem dX11_weigh_30 : decode cX11_weigh 30 = .ok (.getfield 7, 3) := by decide +kernel
theorem dX11_weigh_33 : decode cX11_weigh 33 = .ok (.iload_n 1, 1) := by decide +kernel
theorem dX11_weigh_34 : decode cX11_weigh 34 = .ok (.iload_n 2, 1) := by decide +kernel
theorem dX11_weigh_35 : decode cX11_weigh 35 = .ok (.iastore, 1) := by decide +kernel
theorem dX11_weigh_36 : decode cX11_weigh 36 = .ok (.iload_n 3, 1) := by decide +kernel
theorem dX11_weigh_37 : decode cX11_weigh 37 = .ok (.ireturn, 1) := by decide +kernel
set_option maxRecDepth 20000 in
theorem ggX11_drag_X11_in : GoodIn wsX11_drag wsX11_in := goodIn_r _ [5] (by decide +kernel) (by decide +kernel)
set_option maxRecDepth 20000 in
theorem gX11_drag_X11_in : GoodIn wsX11_drag (va_wsS RX11 42 yX11_in wsX11_in) := goodIn_app (goodIn_of _ (by decide +kernel)) ggX11_drag_X11_in
theorem dX11_drag_0 : decode cX11_drag 0 = .ok (.iload_n 1, 1) := by decide +kernel
theorem dX11_drag_1 : decode cX11_drag 1 = .ok (.iconst 0, 1) := by decide +kernel
theorem dX11_drag_2 : decode cX11_drag 2 = .ok (.sipush 9999, 3) := by decide +kernel
theorem dX11_drag_5 : decode cX11_drag 5 = .ok (.invokestatic 42, 3) := by decide +kernel
theorem dX11_drag_8 : decode cX11_drag 8 = .ok (.ifCond .ne 6, 3) := by decide +kernel
theorem dX11_drag_11 : decode cX11_drag 11 = .ok (.bipush (-2), 2) := by decide +kernel
theorem dX11_drag_13 : decode cX11_drag 13 = .ok (.ireturn, 1) := by decide +kernel
theorem dX11_drag_14 : decode cX11_drag 14 = .ok (.aload_n 0, 1) := by decide +kernel
theorem dX11_drag_15 : decode cX11_drag 15 = .ok (.getfield 19, 3) := by decide +kernel
theorem dX11_drag_18 : decode cX11_drag 18 = .ok (.istore_n 2, 1) := by decide +kernel
theorem dX11_drag_19 : decode cX11_drag 19 = .ok (.aload_n 0, 1) := by decide +kernel
theorem dX11_drag_20 : decode cX11_drag 20 = .ok (.iload_n 1, 1) := by decide +kernel
theorem dX11_drag_21 : decode cX11_drag 21 = .ok (.putfield 19, 3) := by decide +kernel
theorem dX11_drag_24 : decode cX11_drag 24 = .ok (.iload_n 2, 1) := by decide +kernel
theorem dX11_drag_25 : decode cX11_drag 25 = .ok (.ireturn, 1) := by decide +kernel
set_option maxRecDepth 20000 in
theorem ggX11_say_X11_in : GoodIn wsX11_say wsX11_in := goodIn_r _ [6] (by decide +kernel) (by decide +kernel)
set_option maxRecDepth 20000 in
theorem gX11_say_X11_in : GoodIn wsX11_say (va_wsS RX11 42 yX11_in wsX11_in) := goodIn_app (goodIn_of _ (by decide +kernel)) ggX11_say_X11_in
theorem dX11_say_0 : decode cX11_say 0 = .ok (.iload_n 1, 1) := by decide +kernel
theorem dX11_say_1 : decode cX11_say 1 = .ok (.bipush 33, 2) := by decide +kernel
theorem dX11_say_3 : decode cX11_say 3 = .ok (.bipush 126, 2) := by decide +kernel
theorem dX11_say_5 : decode cX11_say 5 = .ok (.invokestatic 42, 3) := by decide +kernel
theorem dX11_say_8 : decode cX11_say 8 = .ok (.ifCond .ne 6, 3) := by decide +kernel
theorem dX11_say_11 : decode cX11_say 11 = .ok (.bipush (-2), 2) := by decide +kernel
theorem dX11_say_13 : decode cX11_say 13 = .ok (.ireturn, 1) := by decide +kernel
theorem dX11_say_14 : decode cX11_say 14 = .ok (.aload_n 0, 1) := by decide +kernel
theorem dX11_say_15 : decode cX11_say 15 = .ok (.getfield 50, 3) := by decide +kernel
theorem dX11_say_18 : decode cX11_say 18 = .ok (.bipush 60, 2) := by decide +kernel
theorem dX11_say_20 : decode cX11_say 20 = .ok (.if_icmp .ne 6, 3) := by decide +kernel
theorem dX11_say_23 : decode cX11_say 23 = .ok (.bipush (-4), 2) := by decide +kernel
theorem dX11_say_25 : decode cX11_say 25 = .ok (.ireturn, 1) := by decide +kernel
theorem dX11_say_26 : decode cX11_say 26 = .ok (.aload_n 0, 1) := by decide +kernel
theorem dX11_say_27 : decode cX11_say 27 = .ok (.getfield 26, 3) := by decide +kernel
theorem dX11_say_30 : decode cX11_say 30 = .ok (.aload_n 0, 1) := by decide +kernel
theorem dX11_say_31 : decode cX11_say 31 = .ok (.getfield 50, 3) := by decide +kernel
theorem dX11_say_34 : decode cX11_say 34 = .ok (.iload_n 1, 1) := by decide +kernel
theorem dX11_say_35 : decode cX11_say 35 = .ok (.iastore, 1) := by decide +kernel
theorem dX11_say_36 : decode cX11_say 36 = .ok (.aload_n 0, 1) := by decide +kernel
theorem dX11_say_37 : decode cX11_say 37 = .ok (.dup, 1) := by decide +kernel
theorem dX11_say_38 : decode cX11_say 38 = .ok (.getfield 50, 3) := by decide +kernel
theorem dX11_say_41 : decode cX11_say 41 = .ok (.iconst 1, 1) := by decide +kernel
theorem dX11_say_42 : decode cX11_say 42 = .ok (.iadd, 1) := by decide +kernel
theorem dX11_say_43 : decode cX11_say 43 = .ok (.putfield 50, 3) := by decide +kernel
theorem dX11_say_46 : decode cX11_say 46 = .ok (.aload_n 0, 1) := by decide +kernel
theorem dX11_say_47 : decode cX11_say 47 = .ok (.getfield 50, 3) := by decide +kernel
theorem dX11_say_50 : decode cX11_say 50 = .ok (.ireturn, 1) := by decide +kernel
theorem dX11_wipe_0 : decode cX11_wipe 0 = .ok (.aload_n 0, 1) := by decide +kernel
theorem dX11_wipe_1 : decode cX11_wipe 1 = .ok (.getfield 50, 3) := by decide +kernel
theorem dX11_wipe_4 : decode cX11_wipe 4 = .ok (.istore_n 1, 1) := by decide +kernel
theorem dX11_wipe_5 : decode cX11_wipe 5 = .ok (.aload_n 0, 1) := by decide +kernel
theorem dX11_wipe_6 : decode cX11_wipe 6 = .ok (.iconst 0, 1) := by decide +kernel
theorem dX11_wipe_7 : decode cX11_wipe 7 = .ok (.putfield 50, 3) := by decide +kernel
theorem dX11_wipe_10 : decode cX11_wipe 10 = .ok (.iload_n 1, 1) := by decide +kernel
theorem dX11_wipe_11 : decode cX11_wipe 11 = .ok (.ireturn, 1) := by decide +kernel
set_option maxRecDepth 20000 in
theorem ggX11_faultOf_X11_in : GoodIn wsX11_faultOf wsX11_in := goodIn_r _ [6] (by decide +kernel) (by decide +kernel)
set_option maxRecDepth 20000 in
theorem gX11_faultOf_X11_in : GoodIn wsX11_faultOf (va_wsS RX11 42 yX11_in wsX11_in) := goodIn_app (goodIn_of _ (by decide +kernel)) ggX11_faultOf_X11_in
theorem dX11_faultOf_0 : decode cX11_faultOf 0 = .ok (.iconst 0, 1) := by decide +kernel
theorem dX11_faultOf_1 : decode cX11_faultOf 1 = .ok (.istore_n 1, 1) := by decide +kernel
theorem dX11_faultOf_2 : decode cX11_faultOf 2 = .ok (.iconst 0, 1) := by decide +kernel
theorem dX11_faultOf_3 : decode cX11_faultOf 3 = .ok (.istore_n 2, 1) := by decide +kernel
theorem dX11_faultOf_4 : decode cX11_faultOf 4 = .ok (.iload_n 2, 1) := by decide +kernel
theorem dX11_faultOf_5 : decode cX11_faultOf 5 = .ok (.aload_n 0, 1) := by decide +kernel
theorem dX11_faultOf_6 : decode cX11_faultOf 6 = .ok (.getfield 50, 3) := by decide +kernel
theorem dX11_faultOf_9 : decode cX11_faultOf 9 = .ok (.if_icmp .ge 106, 3) := by decide +kernel
theorem dX11_faultOf_12 : decode cX11_faultOf 12 = .ok (.aload_n 0, 1) := by decide +kernel
theorem dX11_faultOf_13 : decode cX11_faultOf 13 = .ok (.getfield 26, 3) := by decide +kernel
theorem dX11_faultOf_16 : decode cX11_faultOf 16 = .ok (.iload_n 2, 1) := by decide +kernel
theorem dX11_faultOf_17 : decode cX11_faultOf 17 = .ok (.iaload, 1) := by decide +kernel
theorem dX11_faultOf_18 : decode cX11_faultOf 18 = .ok (.istore_n 3, 1) := by decide +kernel
theorem dX11_faultOf_19 : decode cX11_faultOf 19 = .ok (.iload_n 1, 1) := by decide +kernel
theorem dX11_faultOf_20 : decode cX11_faultOf 20 = .ok (.iload_n 3, 1) := by decide +kernel
theorem dX11_faultOf_21 : decode cX11_faultOf 21 = .ok (.bipush 63, 2) := by decide +kernel
theorem dX11_faultOf_23 : decode cX11_faultOf 23 = .ok (.if_icmp .ne 7, 3) := by decide +kernel
theorem dX11_faultOf_26 : decode cX11_faultOf 26 = .ok (.iconst 1, 1) := by decide +kernel
theorem dX11_faultOf_27 : decode cX11_faultOf 27 = .ok (.goto 4, 3) := by decide +kernel
theorem dX11_faultOf_30 : decode cX11_faultOf 30 = .ok (.iconst 0, 1) := by decide +kernel
theorem dX11_faultOf_31 : decode cX11_faultOf 31 = .ok (.iadd, 1) := by decide +kernel
theorem dX11_faultOf_32 : decode cX11_faultOf 32 = .ok (.istore_n 1, 1) := by decide +kernel
theorem dX11_faultOf_33 : decode cX11_faultOf 33 = .ok (.iload_n 3, 1) := by decide +kernel
theorem dX11_faultOf_34 : decode cX11_faultOf 34 = .ok (.bipush 65, 2) := by decide +kernel
theorem dX11_faultOf_36 : decode cX11_faultOf 36 = .ok (.bipush 72, 2) := by decide +kernel
theorem dX11_faultOf_38 : decode cX11_faultOf 38 = .ok (.invokestatic 42, 3) := by decide +kernel
theorem dX11_faultOf_41 : decode cX11_faultOf 41 = .ok (.ifCond .ne 54, 3) := by decide +kernel
theorem dX11_faultOf_44 : decode cX11_faultOf 44 = .ok (.iload_n 3, 1) := by decide +kernel
theorem dX11_faultOf_45 : decode cX11_faultOf 45 = .ok (.bipush 97, 2) := by decide +kernel
theorem dX11_faultOf_47 : decode cX11_faultOf 47 = .ok (.bipush 104, 2) := by decide +kernel
theorem dX11_faultOf_49 : decode cX11_faultOf 49 = .ok (.invokestatic 42, 3) := by decide +kernel
theorem dX11_faultOf_52 : decode cX11_faultOf 52 = .ok (.ifCond .ne 43, 3) := by decide +kernel
theorem dX11_faultOf_55 : decode cX11_faultOf 55 = .ok (.iload_n 3, 1) := by decide +kernel
theorem dX11_faultOf_56 : decode cX11_faultOf 56 = .ok (.bipush 48, 2) := by decide +kernel
theorem dX11_faultOf_58 : decode cX11_faultOf 58 = .ok (.bipush 57, 2) := by decide +kernel
theorem dX11_faultOf_60 : decode cX11_faultOf 60 = .ok (.invokestatic 42, 3) := by decide +kernel
theorem dX11_faultOf_63 : decode cX11_faultOf 63 = .ok (.ifCond .ne 32, 3) := by decide +kernel
theorem dX11_faultOf_66 : decode cX11_faultOf 66 = .ok (.iload_n 3, 1) := by decide +kernel
theorem dX11_faultOf_67 : decode cX11_faultOf 67 = .ok (.bipush 94, 2) := by decide +kernel
theorem dX11_faultOf_69 : decode cX11_faultOf 69 = .ok (.if_icmp .eq 26, 3) := by decide +kernel
theorem dX11_faultOf_72 : decode cX11_faultOf 72 = .ok (.iload_n 3, 1) := by decide +kernel
theorem dX11_faultOf_73 : decode cX11_faultOf 73 = .ok (.bipush 60, 2) := by decide +kernel
theorem dX11_faultOf_75 : decode cX11_faultOf 75 = .ok (.if_icmp .eq 20, 3) := by decide +kernel
theorem dX11_faultOf_78 : decode cX11_faultOf 78 = .ok (.iload_n 3, 1) := by decide +kernel
theorem dX11_faultOf_79 : decode cX11_faultOf 79 = .ok (.bipush 62, 2) := by decide +kernel
theorem dX11_faultOf_81 : decode cX11_faultOf 81 = .ok (.if_icmp .eq 14, 3) := by decide +kernel
theorem dX11_faultOf_84 : decode cX11_faultOf 84 = .ok (.iload_n 3, 1) := by decide +kernel
theorem dX11_faultOf_85 : decode cX11_faultOf 85 = .ok (.bipush 63, 2) := by decide +kernel
theorem dX11_faultOf_87 : decode cX11_faultOf 87 = .ok (.if_icmp .ne 12, 3) := by decide +kernel
theorem dX11_faultOf_90 : decode cX11_faultOf 90 = .ok (.iload_n 1, 1) := by decide +kernel
theorem dX11_faultOf_91 : decode cX11_faultOf 91 = .ok (.iconst 4, 1) := by decide +kernel
theorem dX11_faultOf_92 : decode cX11_faultOf 92 = .ok (.if_icmp .ge 7, 3) := by decide +kernel
theorem dX11_faultOf_95 : decode cX11_faultOf 95 = .ok (.iconst 1, 1) := by decide +kernel
theorem dX11_faultOf_96 : decode cX11_faultOf 96 = .ok (.goto 4, 3) := by decide +kernel
theorem dX11_faultOf_99 : decode cX11_faultOf 99 = .ok (.iconst 0, 1) := by decide +kernel
theorem dX11_faultOf_100 : decode cX11_faultOf 100 = .ok (.istore 4, 2) := by decide +kernel
theorem dX11_faultOf_102 : decode cX11_faultOf 102 = .ok (.iload 4, 2) := by decide +kernel
theorem dX11_faultOf_104 : decode cX11_faultOf 104 = .ok (.ifCond .ne 5, 3) := by decide +kernel
theorem dX11_faultOf_107 : decode cX11_faultOf 107 = .ok (.iload_n 2, 1) := by decide +kernel
theorem dX11_faultOf_108 : decode cX11_faultOf 108 = .ok (.ireturn, 1) := by decide +kernel
theorem dX11_faultOf_109 : decode cX11_faultOf 109 = .ok (.iinc 2 1, 3) := by decide +kernel
theorem dX11_faultOf_112 : decode cX11_faultOf 112 = .ok (.goto (-108), 3) := by decide +kernel
theorem dX11_faultOf_115 : decode cX11_faultOf 115 = .ok (.bipush (-6), 2) := by decide +kernel
theorem dX11_faultOf_117 : decode cX11_faultOf 117 = .ok (.ireturn, 1) := by decide +kernel
set_option maxRecDepth 20000 in
theorem ggX11_fault_X11_faultOf : GoodIn wsX11_fault wsX11_faultOf := goodIn_r _ [5, 6, 7, 8, 9, 4, 10, 11, 12, 13, 14, 15, 16, 17, 18, 19, 20, 21, 22, 23, 24, 25, 26, 27] (by decide +kernel) (by decide +kernel)
set_option maxRecDepth 20000 in
theorem gX11_fault_X11_faultOf : GoodIn wsX11_fault (wsV RX11 53 RX11 yX11_faultOf wsX11_faultOf) := goodIn_app (goodIn_of _ (by decide +kernel)) ggX11_fault_X11_faultOf
theorem dX11_fault_0 : decode cX11_fault 0 = .ok (.aload_n 0, 1) := by decide +kernel
theorem dX11_fault_1 : decode cX11_fault 1 = .ok (.invokevirtual 53, 3) := by decide +kernel
theorem dX11_fault_4 : decode cX11_fault 4 = .ok (.ireturn, 1) := by decide +kernel
theorem dX11_opens_0 : decode cX11_opens 0 = .ok (.iconst 0, 1) := by decide +kernel
theorem dX11_opens_1 : decode cX11_opens 1 = .ok (.istore_n 1, 1) := by decide +kernel
theorem dX11_opens_2 : decode cX11_opens 2 = .ok (.iconst 0, 1) := by decide +kernel
theorem dX11_opens_3 : decode cX11_opens 3 = .ok (.istore_n 2, 1) := by decide +kernel
theorem dX11_opens_4 : decode cX11_opens 4 = .ok (.iload_n 2, 1) := by decide +kernel
theorem dX11_opens_5 : decode cX11_opens 5 = .ok (.aload_n 0, 1) := by decide +kernel
theorem dX11_opens_6 : decode cX11_opens 6 = .ok (.getfield 50, 3) := by decide +kernel
theorem dX11_opens_9 : decode cX11_opens 9 = .ok (.if_icmp .ge 28, 3) := by decide +kernel
theorem dX11_opens_12 : decode cX11_opens 12 = .ok (.iload_n 1, 1) := by decide +kernel
theorem dX11_opens_13 : decode cX11_opens 13 = .ok (.aload_n 0, 1) := by decide +kernel
theorem dX11_opens_14 : decode cX11_opens 14 = .ok (.getfield 26, 3) := by decide +kernel
theorem dX11_opens_17 : decode cX11_opens 17 = .ok (.iload_n 2, 1) := by decide +kernel
theorem dX11_opens_18 : decode cX11_opens 18 = .ok (.iaload, 1) := by decide +kernel
theorem dX11_opens_19 : decode cX11_opens 19 = .ok (.bipush 63, 2) := by decide +kernel
theorem dX11_opens_21 : decode cX11_opens 21 = .ok (.if_icmp .ne 7, 3) := by decide +kernel
theorem dX11_opens_24 : decode cX11_opens 24 = .ok (.iconst 1, 1) := by decide +kernel
theorem dX11_opens_25 : decode cX11_opens 25 = .ok (.goto 4, 3) := by decide +kernel
theorem dX11_opens_28 : decode cX11_opens 28 = .ok (.iconst 0, 1) := by decide +kernel
theorem dX11_opens_29 : decode cX11_opens 29 = .ok (.iadd, 1) := by decide +kernel
theorem dX11_opens_30 : decode cX11_opens 30 = .ok (.istore_n 1, 1) := by decide +kernel
theorem dX11_opens_31 : decode cX11_opens 31 = .ok (.iinc 2 1, 3) := by decide +kernel
theorem dX11_opens_34 : decode cX11_opens 34 = .ok (.goto (-30), 3) := by decide +kernel
theorem dX11_opens_37 : decode cX11_opens 37 = .ok (.iload_n 1, 1) := by decide +kernel
theorem dX11_opens_38 : decode cX11_opens 38 = .ok (.ireturn, 1) := by decide +kernel
theorem dX11_asNow_0 : decode cX11_asNow 0 = .ok (.aload_n 0, 1) := by decide +kernel
theorem dX11_asNow_1 : decode cX11_asNow 1 = .ok (.aload_n 0, 1) := by decide +kernel
theorem dX11_asNow_2 : decode cX11_asNow 2 = .ok (.getfield 57, 3) := by decide +kernel
theorem dX11_asNow_5 : decode cX11_asNow 5 = .ok (.putfield 60, 3) := by decide +kernel
theorem dX11_asNow_8 : decode cX11_asNow 8 = .ok (.aload_n 0, 1) := by decide +kernel
theorem dX11_asNow_9 : decode cX11_asNow 9 = .ok (.iconst 0, 1) := by decide +kernel
theorem dX11_asNow_10 : decode cX11_asNow 10 = .ok (.putfield 63, 3) := by decide +kernel
theorem dX11_asNow_13 : decode cX11_asNow 13 = .ok (.aload_n 0, 1) := by decide +kernel
theorem dX11_asNow_14 : decode cX11_asNow 14 = .ok (.iconst 0, 1) := by decide +kernel
theorem dX11_asNow_15 : decode cX11_asNow 15 = .ok (.putfield 66, 3) := by decide +kernel
theorem dX11_asNow_18 : decode cX11_asNow 18 = .ok (.iconst 0, 1) := by decide +kernel
theorem dX11_asNow_19 : decode cX11_asNow 19 = .ok (.istore_n 1, 1) := by decide +kernel
theorem dX11_asNow_20 : decode cX11_asNow 20 = .ok (.iload_n 1, 1) := by decide +kernel
theorem dX11_asNow_21 : decode cX11_asNow 21 = .ok (.bipush 8, 2) := by decide +kernel
theorem dX11_asNow_23 : decode cX11_asNow 23 = .ok (.if_icmp .ge 33, 3) := by decide +kernel
theorem dX11_asNow_26 : decode cX11_asNow 26 = .ok (.aload_n 0, 1) := by decide +kernel
theorem dX11_asNow_27 : decode cX11_asNow 27 = .ok (.getfield 29, 3) := by decide +kernel
theorem dX11_asNow_30 : decode cX11_asNow 30 = .ok (.iload_n 1, 1) := by decide +kernel
theorem dX11_asNow_31 : decode cX11_asNow 31 = .ok (.aload_n 0, 1) := by decide +kernel
theorem dX11_asNow_32 : decode cX11_asNow 32 = .ok (.getfield 13, 3) := by decide +kernel
theorem dX11_asNow_35 : decode cX11_asNow 35 = .ok (.iload_n 1, 1) := by decide +kernel
theorem dX11_asNow_36 : decode cX11_asNow 36 = .ok (.iaload, 1) := by decide +kernel
theorem dX11_asNow_37 : decode cX11_asNow 37 = .ok (.iastore, 1) := by decide +kernel
theorem dX11_asNow_38 : decode cX11_asNow 38 = .ok (.aload_n 0, 1) := by decide +kernel
theorem dX11_asNow_39 : decode cX11_asNow 39 = .ok (.getfield 32, 3) := by decide +kernel
theorem dX11_asNow_42 : decode cX11_asNow 42 = .ok (.iload_n 1, 1) := by decide +kernel
theorem dX11_asNow_43 : decode cX11_asNow 43 = .ok (.aload_n 0, 1) := by decide +kernel
theorem dX11_asNow_44 : decode cX11_asNow 44 = .ok (.getfield 16, 3) := by decide +kernel
theorem dX11_asNow_47 : decode cX11_asNow 47 = .ok (.iload_n 1, 1) := by decide +kernel
theorem dX11_asNow_48 : decode cX11_asNow 48 = .ok (.iaload, 1) := by decide +kernel
theorem dX11_asNow_49 : decode cX11_asNow 49 = .ok (.iastore, 1) := by decide +kernel
theorem dX11_asNow_50 : decode cX11_asNow 50 = .ok (.iinc 1 1, 3) := by decide +kernel
theorem dX11_asNow_53 : decode cX11_asNow 53 = .ok (.goto (-33), 3) := by decide +kernel
theorem dX11_asNow_56 : decode cX11_asNow 56 = .ok (.return_, 1) := by decide +kernel
set_option maxRecDepth 20000 in
theorem ggX11_pullAt_X11_arm : GoodIn wsX11_pullAt wsX11_arm := goodIn_r _ [7] (by decide +kernel) (by decide +kernel)
set_option maxRecDepth 20000 in
theorem gX11_pullAt_X11_arm : GoodIn wsX11_pullAt (va_wsS RX11 69 yX11_arm wsX11_arm) := goodIn_app (goodIn_of _ (by decide +kernel)) ggX11_pullAt_X11_arm
theorem dX11_pullAt_0 : decode cX11_pullAt 0 = .ok (.iconst 0, 1) := by decide +kernel
theorem dX11_pullAt_1 : decode cX11_pullAt 1 = .ok (.istore_n 2, 1) := by decide +kernel
theorem dX11_pullAt_2 : decode cX11_pullAt 2 = .ok (.iconst 0, 1) := by decide +kernel
theorem dX11_pullAt_3 : decode cX11_pullAt 3 = .ok (.istore_n 3, 1) := by decide +kernel
theorem dX11_pullAt_4 : decode cX11_pullAt 4 = .ok (.iload_n 3, 1) := by decide +kernel
theorem dX11_pullAt_5 : decode cX11_pullAt 5 = .ok (.bipush 8, 2) := by decide +kernel
theorem dX11_pullAt_7 : decode cX11_pullAt 7 = .ok (.if_icmp .ge 60, 3) := by decide +kernel
theorem dX11_pullAt_10 : decode cX11_pullAt 10 = .ok (.aload_n 0, 1) := by decide +kernel
theorem dX11_pullAt_11 : decode cX11_pullAt 11 = .ok (.getfield 32, 3) := by decide +kernel
theorem dX11_pullAt_14 : decode cX11_pullAt 14 = .ok (.iload_n 3, 1) := by decide +kernel
theorem dX11_pullAt_15 : decode cX11_pullAt 15 = .ok (.iaload, 1) := by decide +kernel
theorem dX11_pullAt_16 : decode cX11_pullAt 16 = .ok (.aload_n 0, 1) := by decide +kernel
theorem dX11_pullAt_17 : decode cX11_pullAt 17 = .ok (.getfield 29, 3) := by decide +kernel
theorem dX11_pullAt_20 : decode cX11_pullAt 20 = .ok (.iload_n 3, 1) := by decide +kernel
theorem dX11_pullAt_21 : decode cX11_pullAt 21 = .ok (.iaload, 1) := by decide +kernel
theorem dX11_pullAt_22 : decode cX11_pullAt 22 = .ok (.ifCond .ge 7, 3) := by decide +kernel
theorem dX11_pullAt_25 : decode cX11_pullAt 25 = .ok (.iconst 0, 1) := by decide +kernel
theorem dX11_pullAt_26 : decode cX11_pullAt 26 = .ok (.goto 14, 3) := by decide +kernel
theorem dX11_pullAt_29 : decode cX11_pullAt 29 = .ok (.aload_n 0, 1) := by decide +kernel
theorem dX11_pullAt_30 : decode cX11_pullAt 30 = .ok (.getfield 7, 3) := by decide +kernel
theorem dX11_pullAt_33 : decode cX11_pullAt 33 = .ok (.aload_n 0, 1) := by decide +kernel
theorem dX11_pullAt_34 : decode cX11_pullAt 34 = .ok (.getfield 29, 3) := by decide +kernel
theorem dX11_pullAt_37 : decode cX11_pullAt 37 = .ok (.iload_n 3, 1) := by decide +kernel
theorem dX11_pullAt_38 : decode cX11_pullAt 38 = .ok (.iaload, 1) := by decide +kernel
theorem dX11_pullAt_39 : decode cX11_pullAt 39 = .ok (.iaload, 1) := by decide +kernel
theorem dX11_pullAt_40 : decode cX11_pullAt 40 = .ok (.iadd, 1) := by decide +kernel
theorem dX11_pullAt_41 : decode cX11_pullAt 41 = .ok (.istore 4, 2) := by decide +kernel
theorem dX11_pullAt_43 : decode cX11_pullAt 43 = .ok (.iload_n 2, 1) := by decide +kernel
theorem dX11_pullAt_44 : decode cX11_pullAt 44 = .ok (.iload 4, 2) := by decide +kernel
theorem dX11_pullAt_46 : decode cX11_pullAt 46 = .ok (.iload_n 3, 1) := by decide +kernel
theorem dX11_pullAt_47 : decode cX11_pullAt 47 = .ok (.iload_n 1, 1) := by decide +kernel
theorem dX11_pullAt_48 : decode cX11_pullAt 48 = .ok (.isub, 1) := by decide +kernel
theorem dX11_pullAt_49 : decode cX11_pullAt 49 = .ok (.bipush 8, 2) := by decide +kernel
theorem dX11_pullAt_51 : decode cX11_pullAt 51 = .ok (.iadd, 1) := by decide +kernel
theorem dX11_pullAt_52 : decode cX11_pullAt 52 = .ok (.bipush 8, 2) := by decide +kernel
theorem dX11_pullAt_54 : decode cX11_pullAt 54 = .ok (.irem, 1) := by decide +kernel
theorem dX11_pullAt_55 : decode cX11_pullAt 55 = .ok (.invokestatic 69, 3) := by decide +kernel
theorem dX11_pullAt_58 : decode cX11_pullAt 58 = .ok (.imul, 1) := by decide +kernel
theorem dX11_pullAt_59 : decode cX11_pullAt 59 = .ok (.iadd, 1) := by decide +kernel
theorem dX11_pullAt_60 : decode cX11_pullAt 60 = .ok (.istore_n 2, 1) := by decide +kernel
theorem dX11_pullAt_61 : decode cX11_pullAt 61 = .ok (.iinc 3 1, 3) := by decide +kernel
theorem dX11_pullAt_64 : decode cX11_pullAt 64 = .ok (.goto (-60), 3) := by decide +kernel
theorem dX11_pullAt_67 : decode cX11_pullAt 67 = .ok (.iload_n 2, 1) := by decide +kernel
theorem dX11_pullAt_68 : decode cX11_pullAt 68 = .ok (.ireturn, 1) := by decide +kernel
set_option maxRecDepth 20000 in
theorem ggX11_letGo_X11_pullAt : GoodIn wsX11_letGo wsX11_pullAt := goodIn_r _ [9, 10, 11, 12, 13, 14, 8, 15, 16, 17, 18, 19, 20, 21, 22, 23, 24, 25, 26, 27, 28, 29, 30, 31, 32] (by decide +kernel) (by decide +kernel)
set_option maxRecDepth 20000 in
theorem gX11_letGo_X11_pullAt : GoodIn wsX11_letGo (wsV RX11 73 RX11 yX11_pullAt wsX11_pullAt) := goodIn_app (goodIn_of _ (by decide +kernel)) ggX11_letGo_X11_pullAt
theorem dX11_letGo_0 : decode cX11_letGo 0 = .ok (.aload_n 0, 1) := by decide +kernel
theorem dX11_letGo_1 : decode cX11_letGo 1 = .ok (.aload_n 0, 1) := by decide +kernel
theorem dX11_letGo_2 : decode cX11_letGo 2 = .ok (.getfield 60, 3) := by decide +kernel
theorem dX11_letGo_5 : decode cX11_letGo 5 = .ok (.invokevirtual 73, 3) := by decide +kernel
theorem dX11_letGo_8 : decode cX11_letGo 8 = .ok (.istore_n 1, 1) := by decide +kernel
theorem dX11_letGo_9 : decode cX11_letGo 9 = .ok (.iload_n 1, 1) := by decide +kernel
theorem dX11_letGo_10 : decode cX11_letGo 10 = .ok (.aload_n 0, 1) := by decide +kernel
theorem dX11_letGo_11 : decode cX11_letGo 11 = .ok (.getfield 19, 3) := by decide +kernel
theorem dX11_letGo_14 : decode cX11_letGo 14 = .ok (.if_icmp .le 7, 3) := by decide +kernel
theorem dX11_letGo_17 : decode cX11_letGo 17 = .ok (.iconst 1, 1) := by decide +kernel
theorem dX11_letGo_18 : decode cX11_letGo 18 = .ok (.goto 17, 3) := by decide +kernel
theorem dX11_letGo_21 : decode cX11_letGo 21 = .ok (.iload_n 1, 1) := by decide +kernel
theorem dX11_letGo_22 : decode cX11_letGo 22 = .ok (.aload_n 0, 1) := by decide +kernel
theorem dX11_letGo_23 : decode cX11_letGo 23 = .ok (.getfield 19, 3) := by decide +kernel
theorem dX11_letGo_26 : decode cX11_letGo 26 = .ok (.ineg, 1) := by decide +kernel
theorem dX11_letGo_27 : decode cX11_letGo 27 = .ok (.if_icmp .ge 7, 3) := by decide +kernel
theorem dX11_letGo_30 : decode cX11_letGo 30 = .ok (.iconst (-1), 1) := by decide +kernel
theorem dX11_letGo_31 : decode cX11_letGo 31 = .ok (.goto 4, 3) := by decide +kernel
theorem dX11_letGo_34 : decode cX11_letGo 34 = .ok (.iconst 0, 1) := by decide +kernel
theorem dX11_letGo_35 : decode cX11_letGo 35 = .ok (.istore_n 2, 1) := by decide +kernel
theorem dX11_letGo_36 : decode cX11_letGo 36 = .ok (.iload_n 2, 1) := by decide +kernel
theorem dX11_letGo_37 : decode cX11_letGo 37 = .ok (.aload_n 0, 1) := by decide +kernel
theorem dX11_letGo_38 : decode cX11_letGo 38 = .ok (.aload_n 0, 1) := by decide +kernel
theorem dX11_letGo_39 : decode cX11_letGo 39 = .ok (.getfield 60, 3) := by decide +kernel
theorem dX11_letGo_42 : decode cX11_letGo 42 = .ok (.invokevirtual 73, 3) := by decide +kernel
theorem dX11_letGo_45 : decode cX11_letGo 45 = .ok (.imul, 1) := by decide +kernel
theorem dX11_letGo_46 : decode cX11_letGo 46 = .ok (.aload_n 0, 1) := by decide +kernel
theorem dX11_letGo_47 : decode cX11_letGo 47 = .ok (.getfield 19, 3) := by decide +kernel
theorem dX11_letGo_50 : decode cX11_letGo 50 = .ok (.if_icmp .le 42, 3) := by decide +kernel
theorem dX11_letGo_53 : decode cX11_letGo 53 = .ok (.aload_n 0, 1) := by decide +kernel
theorem dX11_letGo_54 : decode cX11_letGo 54 = .ok (.aload_n 0, 1) := by decide +kernel
theorem dX11_letGo_55 : decode cX11_letGo 55 = .ok (.getfield 60, 3) := by decide +kernel
theorem dX11_letGo_58 : decode cX11_letGo 58 = .ok (.iload_n 2, 1) := by decide +kernel
theorem dX11_letGo_59 : decode cX11_letGo 59 = .ok (.iadd, 1) := by decide +kernel
theorem dX11_letGo_60 : decode cX11_letGo 60 = .ok (.bipush 8, 2) := by decide +kernel
theorem dX11_letGo_62 : decode cX11_letGo 62 = .ok (.iadd, 1) := by decide +kernel
theorem dX11_letGo_63 : decode cX11_letGo 63 = .ok (.bipush 8, 2) := by decide +kernel
theorem dX11_letGo_65 : decode cX11_letGo 65 = .ok (.irem, 1) := by decide +kernel
theorem dX11_letGo_66 : decode cX11_letGo 66 = .ok (.putfield 60, 3) := by decide +kernel
theorem dX11_letGo_69 : decode cX11_letGo 69 = .ok (.aload_n 0, 1) := by decide +kernel
theorem dX11_letGo_70 : decode cX11_letGo 70 = .ok (.dup, 1) := by decide +kernel
theorem dX11_letGo_71 : decode cX11_letGo 71 = .ok (.getfield 63, 3) := by decide +kernel
theorem dX11_letGo_74 : decode cX11_letGo 74 = .ok (.iload_n 2, 1) := by decide +kernel
theorem dX11_letGo_75 : decode cX11_letGo 75 = .ok (.iadd, 1) := by decide +kernel
theorem dX11_letGo_76 : decode cX11_letGo 76 = .ok (.putfield 63, 3) := by decide +kernel
theorem dX11_letGo_79 : decode cX11_letGo 79 = .ok (.aload_n 0, 1) := by decide +kernel
theorem dX11_letGo_80 : decode cX11_letGo 80 = .ok (.dup, 1) := by decide +kernel
theorem dX11_letGo_81 : decode cX11_letGo 81 = .ok (.getfield 66, 3) := by decide +kernel
theorem dX11_letGo_84 : decode cX11_letGo 84 = .ok (.iconst 1, 1) := by decide +kernel
theorem dX11_letGo_85 : decode cX11_letGo 85 = .ok (.iadd, 1) := by decide +kernel
theorem dX11_letGo_86 : decode cX11_letGo 86 = .ok (.putfield 66, 3) := by decide +kernel
theorem dX11_letGo_89 : decode cX11_letGo 89 = .ok (.goto (-53), 3) := by decide +kernel
theorem dX11_letGo_92 : decode cX11_letGo 92 = .ok (.return_, 1) := by decide +kernel
theorem dX11_carOf_0 : decode cX11_carOf 0 = .ok (.bipush (-6), 2) := by decide +kernel
theorem dX11_carOf_2 : decode cX11_carOf 2 = .ok (.istore_n 2, 1) := by decide +kernel
theorem dX11_carOf_3 : decode cX11_carOf 3 = .ok (.iconst 0, 1) := by decide +kernel
theorem dX11_carOf_4 : decode cX11_carOf 4 = .ok (.istore_n 3, 1) := by decide +kernel
theorem dX11_carOf_5 : decode cX11_carOf 5 = .ok (.iload_n 3, 1) := by decide +kernel
theorem dX11_carOf_6 : decode cX11_carOf 6 = .ok (.bipush 8, 2) := by decide +kernel
theorem dX11_carOf_8 : decode cX11_carOf 8 = .ok (.if_icmp .ge 25, 3) := by decide +kernel
theorem dX11_carOf_11 : decode cX11_carOf 11 = .ok (.aload_n 0, 1) := by decide +kernel
theorem dX11_carOf_12 : decode cX11_carOf 12 = .ok (.getfield 29, 3) := by decide +kernel
theorem dX11_carOf_15 : decode cX11_carOf 15 = .ok (.iload_n 3, 1) := by decide +kernel
theorem dX11_carOf_16 : decode cX11_carOf 16 = .ok (.iaload, 1) := by decide +kernel
theorem dX11_carOf_17 : decode cX11_carOf 17 = .ok (.iload_n 1, 1) := by decide +kernel
theorem dX11_carOf_18 : decode cX11_carOf 18 = .ok (.if_icmp .ne 7, 3) := by decide +kernel
theorem dX11_carOf_21 : decode cX11_carOf 21 = .ok (.iload_n 3, 1) := by decide +kernel
theorem dX11_carOf_22 : decode cX11_carOf 22 = .ok (.goto 4, 3) := by decide +kernel
theorem dX11_carOf_25 : decode cX11_carOf 25 = .ok (.iload_n 2, 1) := by decide +kernel
theorem dX11_carOf_26 : decode cX11_carOf 26 = .ok (.istore_n 2, 1) := by decide +kernel
theorem dX11_carOf_27 : decode cX11_carOf 27 = .ok (.iinc 3 1, 3) := by decide +kernel
theorem dX11_carOf_30 : decode cX11_carOf 30 = .ok (.goto (-25), 3) := by decide +kernel
theorem dX11_carOf_33 : decode cX11_carOf 33 = .ok (.iload_n 2, 1) := by decide +kernel
theorem dX11_carOf_34 : decode cX11_carOf 34 = .ok (.ireturn, 1) := by decide +kernel
set_option maxRecDepth 20000 in
theorem ggX11_goText_X11_asNow : GoodIn wsX11_goText wsX11_asNow := goodIn_r _ [11, 12, 5, 13, 14, 4, 15, 6, 16, 41, 42, 43, 44, 45, 46, 47, 48, 49, 50, 51, 52, 53, 54, 55, 56, 57] (by decide +kernel) (by decide +kernel)
set_option maxRecDepth 20000 in
theorem gX11_goText_X11_asNow : GoodIn wsX11_goText (wsV RX11 76 RX11 yX11_asNow wsX11_asNow) := goodIn_app (goodIn_of _ (by decide +kernel)) ggX11_goText_X11_asNow
set_option maxRecDepth 20000 in
theorem ggX11_goText_X11_opens : GoodIn wsX11_goText wsX11_opens := goodIn_r _ [20, 2, 3, 41, 42, 43, 44, 45, 46, 47, 48, 49, 50, 51, 52, 53, 54, 55, 56, 57] (by decide +kernel) (by decide +kernel)
set_option maxRecDepth 20000 in
theorem gX11_goText_X11_opens : GoodIn wsX11_goText (wsV RX11 82 RX11 yX11_opens wsX11_opens) := goodIn_app (goodIn_of _ (by decide +kernel)) ggX11_goText_X11_opens
set_option maxRecDepth 20000 in
theorem ggX11_goText_X11_in : GoodIn wsX11_goText wsX11_in := goodIn_r _ [23] (by decide +kernel) (by decide +kernel)
set_option maxRecDepth 20000 in
theorem gX11_goText_X11_in : GoodIn wsX11_goText (va_wsS RX11 42 yX11_in wsX11_in) := goodIn_app (goodIn_of _ (by decide +kernel)) ggX11_goText_X11_in
set_option maxRecDepth 20000 in
theorem ggX11_goText_X11_carOf : GoodIn wsX11_goText wsX11_carOf := goodIn_r _ [27, 4, 41, 42, 43, 44, 45, 46, 47, 48, 49, 50, 51, 52, 53, 54, 55, 56, 57] (by decide +kernel) (by decide +kernel)
set_option maxRecDepth 20000 in
theorem gX11_goText_X11_carOf : GoodIn wsX11_goText (wsV RX11 85 RX11 yX11_carOf wsX11_carOf) := goodIn_app (goodIn_of _ (by decide +kernel)) ggX11_goText_X11_carOf
set_option maxRecDepth 20000 in
theorem ggX11_goText_X11_letGo : GoodIn wsX11_goText wsX11_letGo := goodIn_r _ [31, 5, 32, 13, 14, 33, 34, 35, 10, 36, 6, 4, 37, 38, 39, 40, 41, 42, 43, 44, 45, 46, 47, 48, 49, 50, 51, 52, 53, 54, 55, 56, 57] (by decide +kernel) (by decide +kernel)
set_option maxRecDepth 20000 in
theorem gX11_goText_X11_letGo : GoodIn wsX11_goText (wsV RX11 88 RX11 yX11_letGo wsX11_letGo) := goodIn_app (goodIn_of _ (by decide +kernel)) ggX11_goText_X11_letGo
theorem dX11_goText_0 : decode cX11_goText 0 = .ok (.aload_n 0, 1) := by decide +kernel
theorem dX11_goText_1 : decode cX11_goText 1 = .ok (.invokevirtual 76, 3) := by decide +kernel
theorem dX11_goText_4 : decode cX11_goText 4 = .ok (.aload_n 0, 1) := by decide +kernel
theorem dX11_goText_5 : decode cX11_goText 5 = .ok (.iconst 0, 1) := by decide +kernel
theorem dX11_goText_6 : decode cX11_goText 6 = .ok (.putfield 79, 3) := by decide +kernel
theorem dX11_goText_9 : decode cX11_goText 9 = .ok (.iconst 1, 1) := by decide +kernel
theorem dX11_goText_10 : decode cX11_goText 10 = .ok (.istore_n 3, 1) := by decide +kernel
theorem dX11_goText_11 : decode cX11_goText 11 = .ok (.iconst 1, 1) := by decide +kernel
theorem dX11_goText_12 : decode cX11_goText 12 = .ok (.istore 4, 2) := by decide +kernel
theorem dX11_goText_14 : decode cX11_goText 14 = .ok (.iload 4, 2) := by decide +kernel
theorem dX11_goText_16 : decode cX11_goText 16 = .ok (.aload_n 0, 1) := by decide +kernel
theorem dX11_goText_17 : decode cX11_goText 17 = .ok (.invokevirtual 82, 3) := by decide +kernel
theorem dX11_goText_20 : decode cX11_goText 20 = .ok (.if_icmp .ge 14, 3) := by decide +kernel
theorem dX11_goText_23 : decode cX11_goText 23 = .ok (.iload_n 3, 1) := by decide +kernel
theorem dX11_goText_24 : decode cX11_goText 24 = .ok (.bipush 8, 2) := by decide +kernel
theorem dX11_goText_26 : decode cX11_goText 26 = .ok (.imul, 1) := by decide +kernel
theorem dX11_goText_27 : decode cX11_goText 27 = .ok (.istore_n 3, 1) := by decide +kernel
theorem dX11_goText_28 : decode cX11_goText 28 = .ok (.iinc 4 1, 3) := by decide +kernel
theorem dX11_goText_31 : decode cX11_goText 31 = .ok (.goto (-17), 3) := by decide +kernel
theorem dX11_goText_34 : decode cX11_goText 34 = .ok (.iconst 0, 1) := by decide +kernel
theorem dX11_goText_35 : decode cX11_goText 35 = .ok (.istore 4, 2) := by decide +kernel
theorem dX11_goText_37 : decode cX11_goText 37 = .ok (.iload 4, 2) := by decide +kernel
theorem dX11_goText_39 : decode cX11_goText 39 = .ok (.aload_n 0, 1) := by decide +kernel
theorem dX11_goText_40 : decode cX11_goText 40 = .ok (.getfield 50, 3) := by decide +kernel
theorem dX11_goText_43 : decode cX11_goText 43 = .ok (.if_icmp .ge 420, 3) := by decide +kernel
theorem dX11_goText_46 : decode cX11_goText 46 = .ok (.aload_n 0, 1) := by decide +kernel
theorem dX11_goText_47 : decode cX11_goText 47 = .ok (.getfield 26, 3) := by decide +kernel
theorem dX11_goText_50 : decode cX11_goText 50 = .ok (.iload 4, 2) := by decide +kernel
theorem dX11_goText_52 : decode cX11_goText 52 = .ok (.iaload, 1) := by decide +kernel
theorem dX11_goText_53 : decode cX11_goText 53 = .ok (.istore 5, 2) := by decide +kernel
theorem dX11_goText_55 : decode cX11_goText 55 = .ok (.iload 5, 2) := by decide +kernel
theorem dX11_goText_57 : decode cX11_goText 57 = .ok (.bipush 63, 2) := by decide +kernel
theorem dX11_goText_59 : decode cX11_goText 59 = .ok (.if_icmp .eq 15, 3) := by decide +kernel
theorem dX11_goText_62 : decode cX11_goText 62 = .ok (.iload 5, 2) := by decide +kernel
theorem dX11_goText_64 : decode cX11_goText 64 = .ok (.bipush 65, 2) := by decide +kernel
theorem dX11_goText_66 : decode cX11_goText 66 = .ok (.bipush 72, 2) := by decide +kernel
theorem dX11_goText_68 : decode cX11_goText 68 = .ok (.invokestatic 42, 3) := by decide +kernel
theorem dX11_goText_71 : decode cX11_goText 71 = .ok (.ifCond .eq 130, 3) := by decide +kernel
theorem dX11_goText_74 : decode cX11_goText 74 = .ok (.iload 5, 2) := by decide +kernel
theorem dX11_goText_76 : decode cX11_goText 76 = .ok (.bipush 63, 2) := by decide +kernel
theorem dX11_goText_78 : decode cX11_goText 78 = .ok (.if_icmp .ne 12, 3) := by decide +kernel
theorem dX11_goText_81 : decode cX11_goText 81 = .ok (.iload_n 1, 1) := by decide +kernel
theorem dX11_goText_82 : decode cX11_goText 82 = .ok (.iload_n 3, 1) := by decide +kernel
theorem dX11_goText_83 : decode cX11_goText 83 = .ok (.idiv, 1) := by decide +kernel
theorem dX11_goText_84 : decode cX11_goText 84 = .ok (.bipush 8, 2) := by decide +kernel
theorem dX11_goText_86 : decode cX11_goText 86 = .ok (.irem, 1) := by decide +kernel
theorem dX11_goText_87 : decode cX11_goText 87 = .ok (.goto 8, 3) := by decide +kernel
theorem dX11_goText_90 : decode cX11_goText 90 = .ok (.iload 5, 2) := by decide +kernel
theorem dX11_goText_92 : decode cX11_goText 92 = .ok (.bipush 65, 2) := by decide +kernel
theorem dX11_goText_94 : decode cX11_goText 94 = .ok (.isub, 1) := by decide +kernel
theorem dX11_goText_95 : decode cX11_goText 95 = .ok (.istore 6, 2) := by decide +kernel
theorem dX11_goText_97 : decode cX11_goText 97 = .ok (.iload 5, 2) := by decide +kernel
theorem dX11_goText_99 : decode cX11_goText 99 = .ok (.bipush 63, 2) := by decide +kernel
theorem dX11_goText_101 : decode cX11_goText 101 = .ok (.if_icmp .ne 15, 3) := by decide +kernel
theorem dX11_goText_104 : decode cX11_goText 104 = .ok (.iload_n 3, 1) := by decide +kernel
theorem dX11_goText_105 : decode cX11_goText 105 = .ok (.iconst 1, 1) := by decide +kernel
theorem dX11_goText_106 : decode cX11_goText 106 = .ok (.if_icmp .le 10, 3) := by decide +kernel
theorem dX11_goText_109 : decode cX11_goText 109 = .ok (.iload_n 3, 1) := by decide +kernel
theorem dX11_goText_110 : decode cX11_goText 110 = .ok (.bipush 8, 2) := by decide +kernel
theorem dX11_goText_112 : decode cX11_goText 112 = .ok (.idiv, 1) := by decide +kernel
theorem dX11_goText_113 : decode cX11_goText 113 = .ok (.goto 4, 3) := by decide +kernel
theorem dX11_goText_116 : decode cX11_goText 116 = .ok (.iload_n 3, 1) := by decide +kernel
theorem dX11_goText_117 : decode cX11_goText 117 = .ok (.istore_n 3, 1) := by decide +kernel
theorem dX11_goText_118 : decode cX11_goText 118 = .ok (.aload_n 0, 1) := by decide +kernel
theorem dX11_goText_119 : decode cX11_goText 119 = .ok (.iload 4, 2) := by decide +kernel
theorem dX11_goText_121 : decode cX11_goText 121 = .ok (.iload_n 2, 1) := by decide +kernel
theorem dX11_goText_122 : decode cX11_goText 122 = .ok (.if_icmp .ne 7, 3) := by decide +kernel
theorem dX11_goText_125 : decode cX11_goText 125 = .ok (.iconst 0, 1) := by decide +kernel
theorem dX11_goText_126 : decode cX11_goText 126 = .ok (.goto 33, 3) := by decide +kernel
theorem dX11_goText_129 : decode cX11_goText 129 = .ok (.aload_n 0, 1) := by decide +kernel
theorem dX11_goText_130 : decode cX11_goText 130 = .ok (.iload 6, 2) := by decide +kernel
theorem dX11_goText_132 : decode cX11_goText 132 = .ok (.invokevirtual 85, 3) := by decide +kernel
theorem dX11_goText_135 : decode cX11_goText 135 = .ok (.ifCond .lt 7, 3) := by decide +kernel
theorem dX11_goText_138 : decode cX11_goText 138 = .ok (.iconst 1, 1) := by decide +kernel
theorem dX11_goText_139 : decode cX11_goText 139 = .ok (.goto 20, 3) := by decide +kernel
theorem dX11_goText_142 : decode cX11_goText 142 = .ok (.aload_n 0, 1) := by decide +kernel
theorem dX11_goText_143 : decode cX11_goText 143 = .ok (.getfield 29, 3) := by decide +kernel
theorem dX11_goText_146 : decode cX11_goText 146 = .ok (.aload_n 0, 1) := by decide +kernel
theorem dX11_goText_147 : decode cX11_goText 147 = .ok (.getfield 60, 3) := by decide +kernel
theorem dX11_goText_150 : decode cX11_goText 150 = .ok (.iaload, 1) := by decide +kernel
theorem dX11_goText_151 : decode cX11_goText 151 = .ok (.ifCond .lt 7, 3) := by decide +kernel
theorem dX11_goText_154 : decode cX11_goText 154 = .ok (.iconst 2, 1) := by decide +kernel
theorem dX11_goText_155 : decode cX11_goText 155 = .ok (.goto 4, 3) := by decide +kernel
theorem dX11_goText_158 : decode cX11_goText 158 = .ok (.iconst 0, 1) := by decide +kernel
theorem dX11_goText_159 : decode cX11_goText 159 = .ok (.putfield 79, 3) := by decide +kernel
theorem dX11_goText_162 : decode cX11_goText 162 = .ok (.aload_n 0, 1) := by decide +kernel
theorem dX11_goText_163 : decode cX11_goText 163 = .ok (.getfield 29, 3) := by decide +kernel
theorem dX11_goText_166 : decode cX11_goText 166 = .ok (.aload_n 0, 1) := by decide +kernel
theorem dX11_goText_167 : decode cX11_goText 167 = .ok (.getfield 60, 3) := by decide +kernel
theorem dX11_goText_170 : decode cX11_goText 170 = .ok (.aload_n 0, 1) := by decide +kernel
theorem dX11_goText_171 : decode cX11_goText 171 = .ok (.getfield 79, 3) := by decide +kernel
theorem dX11_goText_174 : decode cX11_goText 174 = .ok (.ifCond .ne 14, 3) := by decide +kernel
theorem dX11_goText_177 : decode cX11_goText 177 = .ok (.iload 4, 2) := by decide +kernel
theorem dX11_goText_179 : decode cX11_goText 179 = .ok (.iload_n 2, 1) := by decide +kernel
theorem dX11_goText_180 : decode cX11_goText 180 = .ok (.if_icmp .eq 8, 3) := by decide +kernel
theorem dX11_goText_183 : decode cX11_goText 183 = .ok (.iload 6, 2) := by decide +kernel
theorem dX11_goText_185 : decode cX11_goText 185 = .ok (.goto 12, 3) := by decide +kernel
theorem dX11_goText_188 : decode cX11_goText 188 = .ok (.aload_n 0, 1) := by decide +kernel
theorem dX11_goText_189 : decode cX11_goText 189 = .ok (.getfield 29, 3) := by decide +kernel
theorem dX11_goText_192 : decode cX11_goText 192 = .ok (.aload_n 0, 1) := by decide +kernel
theorem dX11_goText_193 : decode cX11_goText 193 = .ok (.getfield 60, 3) := by decide +kernel
theorem dX11_goText_196 : decode cX11_goText 196 = .ok (.iaload, 1) := by decide +kernel
theorem dX11_goText_197 : decode cX11_goText 197 = .ok (.iastore, 1) := by decide +kernel
theorem dX11_goText_198 : decode cX11_goText 198 = .ok (.goto 249, 3) := by decide +kernel
theorem dX11_goText_201 : decode cX11_goText 201 = .ok (.iload 5, 2) := by decide +kernel
theorem dX11_goText_203 : decode cX11_goText 203 = .ok (.bipush 97, 2) := by decide +kernel
theorem dX11_goText_205 : decode cX11_goText 205 = .ok (.bipush 104, 2) := by decide +kernel
theorem dX11_goText_207 : decode cX11_goText 207 = .ok (.invokestatic 42, 3) := by decide +kernel
theorem dX11_goText_210 : decode cX11_goText 210 = .ok (.ifCond .eq 74, 3) := by decide +kernel
theorem dX11_goText_213 : decode cX11_goText 213 = .ok (.aload_n 0, 1) := by decide +kernel
theorem dX11_goText_214 : decode cX11_goText 214 = .ok (.iload 4, 2) := by decide +kernel
theorem dX11_goText_216 : decode cX11_goText 216 = .ok (.iload_n 2, 1) := by decide +kernel
theorem dX11_goText_217 : decode cX11_goText 217 = .ok (.if_icmp .eq 24, 3) := by decide +kernel
theorem dX11_goText_220 : decode cX11_goText 220 = .ok (.aload_n 0, 1) := by decide +kernel
theorem dX11_goText_221 : decode cX11_goText 221 = .ok (.getfield 29, 3) := by decide +kernel
theorem dX11_goText_224 : decode cX11_goText 224 = .ok (.aload_n 0, 1) := by decide +kernel
theorem dX11_goText_225 : decode cX11_goText 225 = .ok (.getfield 60, 3) := by decide +kernel
theorem dX11_goText_228 : decode cX11_goText 228 = .ok (.iaload, 1) := by decide +kernel
theorem dX11_goText_229 : decode cX11_goText 229 = .ok (.iload 5, 2) := by decide +kernel
theorem dX11_goText_231 : decode cX11_goText 231 = .ok (.bipush 97, 2) := by decide +kernel
theorem dX11_goText_233 : decode cX11_goText 233 = .ok (.isub, 1) := by decide +kernel
theorem dX11_goText_234 : decode cX11_goText 234 = .ok (.if_icmp .eq 7, 3) := by decide +kernel
theorem dX11_goText_237 : decode cX11_goText 237 = .ok (.iconst 3, 1) := by decide +kernel
theorem dX11_goText_238 : decode cX11_goText 238 = .ok (.goto 4, 3) := by decide +kernel
theorem dX11_goText_241 : decode cX11_goText 241 = .ok (.iconst 0, 1) := by decide +kernel
theorem dX11_goText_242 : decode cX11_goText 242 = .ok (.putfield 79, 3) := by decide +kernel
theorem dX11_goText_245 : decode cX11_goText 245 = .ok (.aload_n 0, 1) := by decide +kernel
theorem dX11_goText_246 : decode cX11_goText 246 = .ok (.getfield 29, 3) := by decide +kernel
theorem dX11_goText_249 : decode cX11_goText 249 = .ok (.aload_n 0, 1) := by decide +kernel
theorem dX11_goText_250 : decode cX11_goText 250 = .ok (.getfield 60, 3) := by decide +kernel
theorem dX11_goText_253 : decode cX11_goText 253 = .ok (.aload_n 0, 1) := by decide +kernel
theorem dX11_goText_254 : decode cX11_goText 254 = .ok (.getfield 79, 3) := by decide +kernel
theorem dX11_goText_257 : decode cX11_goText 257 = .ok (.ifCond .ne 14, 3) := by decide +kernel
theorem dX11_goText_260 : decode cX11_goText 260 = .ok (.iload 4, 2) := by decide +kernel
theorem dX11_goText_262 : decode cX11_goText 262 = .ok (.iload_n 2, 1) := by decide +kernel
theorem dX11_goText_263 : decode cX11_goText 263 = .ok (.if_icmp .eq 8, 3) := by decide +kernel
theorem dX11_goText_266 : decode cX11_goText 266 = .ok (.bipush (-6), 2) := by decide +kernel
theorem dX11_goText_268 : decode cX11_goText 268 = .ok (.goto 12, 3) := by decide +kernel
theorem dX11_goText_271 : decode cX11_goText 271 = .ok (.aload_n 0, 1) := by decide +kernel
theorem dX11_goText_272 : decode cX11_goText 272 = .ok (.getfield 29, 3) := by decide +kernel
theorem dX11_goText_275 : decode cX11_goText 275 = .ok (.aload_n 0, 1) := by decide +kernel
theorem dX11_goText_276 : decode cX11_goText 276 = .ok (.getfield 60, 3) := by decide +kernel
theorem dX11_goText_279 : decode cX11_goText 279 = .ok (.iaload, 1) := by decide +kernel
theorem dX11_goText_280 : decode cX11_goText 280 = .ok (.iastore, 1) := by decide +kernel
theorem dX11_goText_281 : decode cX11_goText 281 = .ok (.goto 166, 3) := by decide +kernel
theorem dX11_goText_284 : decode cX11_goText 284 = .ok (.iload 5, 2) := by decide +kernel
theorem dX11_goText_286 : decode cX11_goText 286 = .ok (.bipush 60, 2) := by decide +kernel
theorem dX11_goText_288 : decode cX11_goText 288 = .ok (.if_icmp .eq 10, 3) := by decide +kernel
theorem dX11_goText_291 : decode cX11_goText 291 = .ok (.iload 5, 2) := by decide +kernel
theorem dX11_goText_293 : decode cX11_goText 293 = .ok (.bipush 62, 2) := by decide +kernel
theorem dX11_goText_295 : decode cX11_goText 295 = .ok (.if_icmp .ne 31, 3) := by decide +kernel
theorem dX11_goText_298 : decode cX11_goText 298 = .ok (.aload_n 0, 1) := by decide +kernel
theorem dX11_goText_299 : decode cX11_goText 299 = .ok (.aload_n 0, 1) := by decide +kernel
theorem dX11_goText_300 : decode cX11_goText 300 = .ok (.getfield 60, 3) := by decide +kernel
theorem dX11_goText_303 : decode cX11_goText 303 = .ok (.iload 5, 2) := by decide +kernel
theorem dX11_goText_305 : decode cX11_goText 305 = .ok (.bipush 62, 2) := by decide +kernel
theorem dX11_goText_307 : decode cX11_goText 307 = .ok (.if_icmp .ne 7, 3) := by decide +kernel
theorem dX11_goText_310 : decode cX11_goText 310 = .ok (.iconst 1, 1) := by decide +kernel
theorem dX11_goText_311 : decode cX11_goText 311 = .ok (.goto 5, 3) := by decide +kernel
theorem dX11_goText_314 : decode cX11_goText 314 = .ok (.bipush 7, 2) := by decide +kernel
theorem dX11_goText_316 : decode cX11_goText 316 = .ok (.iadd, 1) := by decide +kernel
theorem dX11_goText_317 : decode cX11_goText 317 = .ok (.bipush 8, 2) := by decide +kernel
theorem dX11_goText_319 : decode cX11_goText 319 = .ok (.irem, 1) := by decide +kernel
theorem dX11_goText_320 : decode cX11_goText 320 = .ok (.putfield 60, 3) := by decide +kernel
theorem dX11_goText_323 : decode cX11_goText 323 = .ok (.goto 124, 3) := by decide +kernel
theorem dX11_goText_326 : decode cX11_goText 326 = .ok (.iload 5, 2) := by decide +kernel
theorem dX11_goText_328 : decode cX11_goText 328 = .ok (.bipush 94, 2) := by decide +kernel
theorem dX11_goText_330 : decode cX11_goText 330 = .ok (.if_icmp .ne 10, 3) := by decide +kernel
theorem dX11_goText_333 : decode cX11_goText 333 = .ok (.aload_n 0, 1) := by decide +kernel
theorem dX11_goText_334 : decode cX11_goText 334 = .ok (.invokevirtual 88, 3) := by decide +kernel
theorem dX11_goText_337 : decode cX11_goText 337 = .ok (.goto 110, 3) := by decide +kernel
theorem dX11_goText_340 : decode cX11_goText 340 = .ok (.iload 5, 2) := by decide +kernel
theorem dX11_goText_342 : decode cX11_goText 342 = .ok (.bipush 48, 2) := by decide +kernel
theorem dX11_goText_344 : decode cX11_goText 344 = .ok (.if_icmp .ne 34, 3) := by decide +kernel
theorem dX11_goText_347 : decode cX11_goText 347 = .ok (.aload_n 0, 1) := by decide +kernel
theorem dX11_goText_348 : decode cX11_goText 348 = .ok (.getfield 32, 3) := by decide +kernel
theorem dX11_goText_351 : decode cX11_goText 351 = .ok (.aload_n 0, 1) := by decide +kernel
theorem dX11_goText_352 : decode cX11_goText 352 = .ok (.getfield 60, 3) := by decide +kernel
theorem dX11_goText_355 : decode cX11_goText 355 = .ok (.iload 4, 2) := by decide +kernel
theorem dX11_goText_357 : decode cX11_goText 357 = .ok (.iload_n 2, 1) := by decide +kernel
theorem dX11_goText_358 : decode cX11_goText 358 = .ok (.if_icmp .ne 15, 3) := by decide +kernel
theorem dX11_goText_361 : decode cX11_goText 361 = .ok (.aload_n 0, 1) := by decide +kernel
theorem dX11_goText_362 : decode cX11_goText 362 = .ok (.getfield 32, 3) := by decide +kernel
theorem dX11_goText_365 : decode cX11_goText 365 = .ok (.aload_n 0, 1) := by decide +kernel
theorem dX11_goText_366 : decode cX11_goText 366 = .ok (.getfield 60, 3) := by decide +kernel
theorem dX11_goText_369 : decode cX11_goText 369 = .ok (.iaload, 1) := by decide +kernel
theorem dX11_goText_370 : decode cX11_goText 370 = .ok (.goto 4, 3) := by decide +kernel
theorem dX11_goText_373 : decode cX11_goText 373 = .ok (.iconst 0, 1) := by decide +kernel
theorem dX11_goText_374 : decode cX11_goText 374 = .ok (.iastore, 1) := by decide +kernel
theorem dX11_goText_375 : decode cX11_goText 375 = .ok (.goto 72, 3) := by decide +kernel
theorem dX11_goText_378 : decode cX11_goText 378 = .ok (.aload_n 0, 1) := by decide +kernel
theorem dX11_goText_379 : decode cX11_goText 379 = .ok (.iload 4, 2) := by decide +kernel
theorem dX11_goText_381 : decode cX11_goText 381 = .ok (.iload_n 2, 1) := by decide +kernel
theorem dX11_goText_382 : decode cX11_goText 382 = .ok (.if_icmp .eq 27, 3) := by decide +kernel
theorem dX11_goText_385 : decode cX11_goText 385 = .ok (.aload_n 0, 1) := by decide +kernel
theorem dX11_goText_386 : decode cX11_goText 386 = .ok (.getfield 32, 3) := by decide +kernel
theorem dX11_goText_389 : decode cX11_goText 389 = .ok (.aload_n 0, 1) := by decide +kernel
theorem dX11_goText_390 : decode cX11_goText 390 = .ok (.getfield 60, 3) := by decide +kernel
theorem dX11_goText_393 : decode cX11_goText 393 = .ok (.iaload, 1) := by decide +kernel
theorem dX11_goText_394 : decode cX11_goText 394 = .ok (.iload 5, 2) := by decide +kernel
theorem dX11_goText_396 : decode cX11_goText 396 = .ok (.iadd, 1) := by decide +kernel
theorem dX11_goText_397 : decode cX11_goText 397 = .ok (.bipush 48, 2) := by decide +kernel
theorem dX11_goText_399 : decode cX11_goText 399 = .ok (.isub, 1) := by decide +kernel
theorem dX11_goText_400 : decode cX11_goText 400 = .ok (.bipush 99, 2) := by decide +kernel
theorem dX11_goText_402 : decode cX11_goText 402 = .ok (.if_icmp .le 7, 3) := by decide +kernel
theorem dX11_goText_405 : decode cX11_goText 405 = .ok (.iconst 4, 1) := by decide +kernel
theorem dX11_goText_406 : decode cX11_goText 406 = .ok (.goto 4, 3) := by decide +kernel
theorem dX11_goText_409 : decode cX11_goText 409 = .ok (.iconst 0, 1) := by decide +kernel
theorem dX11_goText_410 : decode cX11_goText 410 = .ok (.putfield 79, 3) := by decide +kernel
theorem dX11_goText_413 : decode cX11_goText 413 = .ok (.aload_n 0, 1) := by decide +kernel
theorem dX11_goText_414 : decode cX11_goText 414 = .ok (.getfield 32, 3) := by decide +kernel
theorem dX11_goText_417 : decode cX11_goText 417 = .ok (.aload_n 0, 1) := by decide +kernel
theorem dX11_goText_418 : decode cX11_goText 418 = .ok (.getfield 60, 3) := by decide +kernel
theorem dX11_goText_421 : decode cX11_goText 421 = .ok (.dup2, 1) := by decide +kernel
theorem dX11_goText_422 : decode cX11_goText 422 = .ok (.iaload, 1) := by decide +kernel
theorem dX11_goText_423 : decode cX11_goText 423 = .ok (.aload_n 0, 1) := by decide +kernel
theorem dX11_goText_424 : decode cX11_goText 424 = .ok (.getfield 79, 3) := by decide +kernel
theorem dX11_goText_427 : decode cX11_goText 427 = .ok (.ifCond .ne 17, 3) := by decide +kernel
theorem dX11_goText_430 : decode cX11_goText 430 = .ok (.iload 4, 2) := by decide +kernel
theorem dX11_goText_432 : decode cX11_goText 432 = .ok (.iload_n 2, 1) := by decide +kernel
theorem dX11_goText_433 : decode cX11_goText 433 = .ok (.if_icmp .eq 11, 3) := by decide +kernel
theorem dX11_goText_436 : decode cX11_goText 436 = .ok (.iload 5, 2) := by decide +kernel
theorem dX11_goText_438 : decode cX11_goText 438 = .ok (.bipush 48, 2) := by decide +kernel
theorem dX11_goText_440 : decode cX11_goText 440 = .ok (.isub, 1) := by decide +kernel
theorem dX11_goText_441 : decode cX11_goText 441 = .ok (.goto 4, 3) := by decide +kernel
theorem dX11_goText_444 : decode cX11_goText 444 = .ok (.iconst 0, 1) := by decide +kernel
theorem dX11_goText_445 : decode cX11_goText 445 = .ok (.iadd, 1) := by decide +kernel
theorem dX11_goText_446 : decode cX11_goText 446 = .ok (.iastore, 1) := by decide +kernel
theorem dX11_goText_447 : decode cX11_goText 447 = .ok (.aload_n 0, 1) := by decide +kernel
theorem dX11_goText_448 : decode cX11_goText 448 = .ok (.getfield 79, 3) := by decide +kernel
theorem dX11_goText_451 : decode cX11_goText 451 = .ok (.ifCond .le 6, 3) := by decide +kernel
theorem dX11_goText_454 : decode cX11_goText 454 = .ok (.iload 4, 2) := by decide +kernel
theorem dX11_goText_456 : decode cX11_goText 456 = .ok (.ireturn, 1) := by decide +kernel
theorem dX11_goText_457 : decode cX11_goText 457 = .ok (.iinc 4 1, 3) := by decide +kernel
theorem dX11_goText_460 : decode cX11_goText 460 = .ok (.goto (-423), 3) := by decide +kernel
theorem dX11_goText_463 : decode cX11_goText 463 = .ok (.bipush (-6), 2) := by decide +kernel
theorem dX11_goText_465 : decode cX11_goText 465 = .ok (.ireturn, 1) := by decide +kernel
set_option maxRecDepth 20000 in
theorem ggX11_judge_X11_in : GoodIn wsX11_judge wsX11_in := goodIn_r _ [5] (by decide +kernel) (by decide +kernel)
set_option maxRecDepth 20000 in
theorem gX11_judge_X11_in : GoodIn wsX11_judge (va_wsS RX11 42 yX11_in wsX11_in) := goodIn_app (goodIn_of _ (by decide +kernel)) ggX11_judge_X11_in
set_option maxRecDepth 20000 in
theorem ggX11_judge_X11_faultOf : GoodIn wsX11_judge wsX11_faultOf := goodIn_r _ [9, 10, 11, 2, 3, 4, 5, 49, 50, 51, 52, 53, 54, 55, 56, 57, 58, 59, 60, 61, 62, 63, 64, 65] (by decide +kernel) (by decide +kernel)
set_option maxRecDepth 20000 in
theorem gX11_judge_X11_faultOf : GoodIn wsX11_judge (wsV RX11 53 RX11 yX11_faultOf wsX11_faultOf) := goodIn_app (goodIn_of _ (by decide +kernel)) ggX11_judge_X11_faultOf
set_option maxRecDepth 20000 in
theorem ggX11_judge_X11_opens : GoodIn wsX11_judge wsX11_opens := goodIn_r _ [15, 10, 11, 49, 50, 51, 52, 53, 54, 55, 56, 57, 58, 59, 60, 61, 62, 63, 64, 65] (by decide +kernel) (by decide +kernel)
set_option maxRecDepth 20000 in
theorem gX11_judge_X11_opens : GoodIn wsX11_judge (wsV RX11 82 RX11 yX11_opens wsX11_opens) := goodIn_app (goodIn_of _ (by decide +kernel)) ggX11_judge_X11_opens
set_option maxRecDepth 20000 in
theorem ggX11_judge_X11_goText : GoodIn wsX11_judge wsX11_goText := goodIn_r _ [19, 1, 10, 11, 20, 21, 22, 23, 24, 25, 4, 26, 27, 28, 29, 30, 31, 12, 13, 14, 15, 2, 3, 5, 32, 33, 34, 35, 36, 37, 38, 39, 40, 41, 42, 43, 44, 45, 46, 47, 48, 49, 50, 51, 52, 53, 54, 55, 56, 57, 58, 59, 60, 61, 62, 63, 64, 65] (by decide +kernel) (by decide +kernel)
set_option maxRecDepth 20000 in
theorem gX11_judge_X11_goText : GoodIn wsX11_judge (wsV RX11 91 RX11 yX11_goText wsX11_goText) := goodIn_app (goodIn_of _ (by decide +kernel)) ggX11_judge_X11_goText
theorem dX11_judge_0 : decode cX11_judge 0 = .ok (.iload_n 1, 1) := by decide +kernel
theorem dX11_judge_1 : decode cX11_judge 1 = .ok (.iconst 0, 1) := by decide +kernel
theorem dX11_judge_2 : decode cX11_judge 2 = .ok (.iconst 1, 1) := by decide +kernel
theorem dX11_judge_3 : decode cX11_judge 3 = .ok (.invokestatic 42, 3) := by decide +kernel
theorem dX11_judge_6 : decode cX11_judge 6 = .ok (.ifCond .ne 6, 3) := by decide +kernel
theorem dX11_judge_9 : decode cX11_judge 9 = .ok (.bipush (-2), 2) := by decide +kernel
theorem dX11_judge_11 : decode cX11_judge 11 = .ok (.ireturn, 1) := by decide +kernel
theorem dX11_judge_12 : decode cX11_judge 12 = .ok (.aload_n 0, 1) := by decide +kernel
theorem dX11_judge_13 : decode cX11_judge 13 = .ok (.invokevirtual 53, 3) := by decide +kernel
theorem dX11_judge_16 : decode cX11_judge 16 = .ok (.ifCond .lt 6, 3) := by decide +kernel
theorem dX11_judge_19 : decode cX11_judge 19 = .ok (.bipush (-5), 2) := by decide +kernel
theorem dX11_judge_21 : decode cX11_judge 21 = .ok (.ireturn, 1) := by decide +kernel
theorem dX11_judge_22 : decode cX11_judge 22 = .ok (.aload_n 0, 1) := by decide +kernel
theorem dX11_judge_23 : decode cX11_judge 23 = .ok (.invokevirtual 82, 3) := by decide +kernel
theorem dX11_judge_26 : decode cX11_judge 26 = .ok (.ifCond .le 6, 3) := by decide +kernel
theorem dX11_judge_29 : decode cX11_judge 29 = .ok (.bipush (-3), 2) := by decide +kernel
theorem dX11_judge_31 : decode cX11_judge 31 = .ok (.ireturn, 1) := by decide +kernel
theorem dX11_judge_32 : decode cX11_judge 32 = .ok (.aload_n 0, 1) := by decide +kernel
theorem dX11_judge_33 : decode cX11_judge 33 = .ok (.iconst 0, 1) := by decide +kernel
theorem dX11_judge_34 : decode cX11_judge 34 = .ok (.bipush (-6), 2) := by decide +kernel
theorem dX11_judge_36 : decode cX11_judge 36 = .ok (.invokevirtual 91, 3) := by decide +kernel
theorem dX11_judge_39 : decode cX11_judge 39 = .ok (.istore_n 2, 1) := by decide +kernel
theorem dX11_judge_40 : decode cX11_judge 40 = .ok (.iload_n 2, 1) := by decide +kernel
theorem dX11_judge_41 : decode cX11_judge 41 = .ok (.ifCond .lt 7, 3) := by decide +kernel
theorem dX11_judge_44 : decode cX11_judge 44 = .ok (.iload_n 1, 1) := by decide +kernel
theorem dX11_judge_45 : decode cX11_judge 45 = .ok (.ifCond .ne 7, 3) := by decide +kernel
theorem dX11_judge_48 : decode cX11_judge 48 = .ok (.iload_n 2, 1) := by decide +kernel
theorem dX11_judge_49 : decode cX11_judge 49 = .ok (.goto 7, 3) := by decide +kernel
theorem dX11_judge_52 : decode cX11_judge 52 = .ok (.aload_n 0, 1) := by decide +kernel
theorem dX11_judge_53 : decode cX11_judge 53 = .ok (.getfield 79, 3) := by decide +kernel
theorem dX11_judge_56 : decode cX11_judge 56 = .ok (.ireturn, 1) := by decide +kernel
set_option maxRecDepth 20000 in
theorem ggX11_barOfText_X11_faultOf : GoodIn wsX11_barOfText wsX11_faultOf := goodIn_r _ [5, 6, 7, 8, 9, 4, 10, 49, 50, 51, 52, 53, 54, 55, 56, 57, 58, 59, 60, 61, 62, 63, 64, 65] (by decide +kernel) (by decide +kernel)
set_option maxRecDepth 20000 in
theorem gX11_barOfText_X11_faultOf : GoodIn wsX11_barOfText (wsV RX11 53 RX11 yX11_faultOf wsX11_faultOf) := goodIn_app (goodIn_of _ (by decide +kernel)) ggX11_barOfText_X11_faultOf
set_option maxRecDepth 20000 in
theorem ggX11_barOfText_X11_opens : GoodIn wsX11_barOfText wsX11_opens := goodIn_r _ [14, 6, 7, 49, 50, 51, 52, 53, 54, 55, 56, 57, 58, 59, 60, 61, 62, 63, 64, 65] (by decide +kernel) (by decide +kernel)
set_option maxRecDepth 20000 in
theorem gX11_barOfText_X11_opens : GoodIn wsX11_barOfText (wsV RX11 82 RX11 yX11_opens wsX11_opens) := goodIn_app (goodIn_of _ (by decide +kernel)) ggX11_barOfText_X11_opens
set_option maxRecDepth 20000 in
theorem ggX11_barOfText_X11_goText : GoodIn wsX11_barOfText wsX11_goText := goodIn_r _ [18, 19, 6, 7, 20, 21, 22, 23, 24, 25, 4, 26, 27, 28, 29, 30, 31, 11, 12, 13, 14, 8, 9, 10, 32, 33, 34, 35, 36, 37, 38, 39, 40, 41, 42, 43, 44, 45, 46, 47, 48, 49, 50, 51, 52, 53, 54, 55, 56, 57, 58, 59, 60, 61, 62, 63, 64, 65] (by decide +kernel) (by decide +kernel)
set_option maxRecDepth 20000 in
theorem gX11_barOfText_X11_goText : GoodIn wsX11_barOfText (wsV RX11 91 RX11 yX11_goText wsX11_goText) := goodIn_app (goodIn_of _ (by decide +kernel)) ggX11_barOfText_X11_goText
theorem dX11_barOfText_0 : decode cX11_barOfText 0 = .ok (.aload_n 0, 1) := by decide +kernel
theorem dX11_barOfText_1 : decode cX11_barOfText 1 = .ok (.invokevirtual 53, 3) := by decide +kernel
theorem dX11_barOfText_4 : decode cX11_barOfText 4 = .ok (.ifCond .lt 8, 3) := by decide +kernel
theorem dX11_barOfText_7 : decode cX11_barOfText 7 = .ok (.bipush (-5), 2) := by decide +kernel
theorem dX11_barOfText_9 : decode cX11_barOfText 9 = .ok (.goto 31, 3) := by decide +kernel
theorem dX11_barOfText_12 : decode cX11_barOfText 12 = .ok (.aload_n 0, 1) := by decide +kernel
theorem dX11_barOfText_13 : decode cX11_barOfText 13 = .ok (.invokevirtual 82, 3) := by decide +kernel
theorem dX11_barOfText_16 : decode cX11_barOfText 16 = .ok (.ifCond .le 8, 3) := by decide +kernel
theorem dX11_barOfText_19 : decode cX11_barOfText 19 = .ok (.bipush (-3), 2) := by decide +kernel
theorem dX11_barOfText_21 : decode cX11_barOfText 21 = .ok (.goto 19, 3) := by decide +kernel
theorem dX11_barOfText_24 : decode cX11_barOfText 24 = .ok (.aload_n 0, 1) := by decide +kernel
theorem dX11_barOfText_25 : decode cX11_barOfText 25 = .ok (.iconst 0, 1) := by decide +kernel
theorem dX11_barOfText_26 : decode cX11_barOfText 26 = .ok (.bipush (-6), 2) := by decide +kernel
theorem dX11_barOfText_28 : decode cX11_barOfText 28 = .ok (.invokevirtual 91, 3) := by decide +kernel
theorem dX11_barOfText_31 : decode cX11_barOfText 31 = .ok (.ifCond .lt 8, 3) := by decide +kernel
theorem dX11_barOfText_34 : decode cX11_barOfText 34 = .ok (.bipush (-5), 2) := by decide +kernel
theorem dX11_barOfText_36 : decode cX11_barOfText 36 = .ok (.goto 4, 3) := by decide +kernel
theorem dX11_barOfText_39 : decode cX11_barOfText 39 = .ok (.iconst 0, 1) := by decide +kernel
theorem dX11_barOfText_40 : decode cX11_barOfText 40 = .ok (.ireturn, 1) := by decide +kernel
set_option maxRecDepth 20000 in
theorem ggX11_done_X11_barOfText : GoodIn wsX11_done wsX11_barOfText := goodIn_r _ [12, 13, 14, 15, 11, 16, 7, 17, 18, 19, 20, 21, 22, 23, 24, 25, 26, 27, 28, 29, 4, 1, 6, 30, 31, 32, 33, 2, 34, 35, 3, 5, 36, 37, 38, 39, 40, 41, 42, 43, 44, 45, 46, 47, 48, 49, 50, 51, 52, 53, 54, 55, 56, 57, 58, 59, 60, 61, 62, 63, 64, 65, 66, 67, 68, 69] (by decide +kernel) (by decide +kernel)
set_option maxRecDepth 20000 in
theorem gX11_done_X11_barOfText : GoodIn wsX11_done (wsV RX11 95 RX11 yX11_barOfText wsX11_barOfText) := goodIn_app (goodIn_of _ (by decide +kernel)) ggX11_done_X11_barOfText
theorem dX11_done_0 : decode cX11_done 0 = .ok (.aload_n 0, 1) := by decide +kernel
theorem dX11_done_1 : decode cX11_done 1 = .ok (.invokevirtual 95, 3) := by decide +kernel
theorem dX11_done_4 : decode cX11_done 4 = .ok (.istore_n 1, 1) := by decide +kernel
theorem dX11_done_5 : decode cX11_done 5 = .ok (.iload_n 1, 1) := by decide +kernel
theorem dX11_done_6 : decode cX11_done 6 = .ok (.ifCond .ge 5, 3) := by decide +kernel
theorem dX11_done_9 : decode cX11_done 9 = .ok (.iload_n 1, 1) := by decide +kernel
theorem dX11_done_10 : decode cX11_done 10 = .ok (.ireturn, 1) := by decide +kernel
theorem dX11_done_11 : decode cX11_done 11 = .ok (.aload_n 0, 1) := by decide +kernel
theorem dX11_done_12 : decode cX11_done 12 = .ok (.aload_n 0, 1) := by decide +kernel
theorem dX11_done_13 : decode cX11_done 13 = .ok (.getfield 60, 3) := by decide +kernel
theorem dX11_done_16 : decode cX11_done 16 = .ok (.putfield 57, 3) := by decide +kernel
theorem dX11_done_19 : decode cX11_done 19 = .ok (.iconst 0, 1) := by decide +kernel
theorem dX11_done_20 : decode cX11_done 20 = .ok (.istore_n 2, 1) := by decide +kernel
theorem dX11_done_21 : decode cX11_done 21 = .ok (.iload_n 2, 1) := by decide +kernel
theorem dX11_done_22 : decode cX11_done 22 = .ok (.bipush 8, 2) := by decide +kernel
theorem dX11_done_24 : decode cX11_done 24 = .ok (.if_icmp .ge 33, 3) := by decide +kernel
theorem dX11_done_27 : decode cX11_done 27 = .ok (.aload_n 0, 1) := by decide +kernel
theorem dX11_done_28 : decode cX11_done 28 = .ok (.getfield 13, 3) := by decide +kernel
theorem dX11_done_31 : decode cX11_done 31 = .ok (.iload_n 2, 1) := by decide +kernel
theorem dX11_done_32 : decode cX11_done 32 = .ok (.aload_n 0, 1) := by decide +kernel
theorem dX11_done_33 : decode cX11_done 33 = .ok (.getfield 29, 3) := by decide +kernel
theorem dX11_done_36 : decode cX11_done 36 = .ok (.iload_n 2, 1) := by decide +kernel
theorem dX11_done_37 : decode cX11_done 37 = .ok (.iaload, 1) := by decide +kernel
theorem dX11_done_38 : decode cX11_done 38 = .ok (.iastore, 1) := by decide +kernel
theorem dX11_done_39 : decode cX11_done 39 = .ok (.aload_n 0, 1) := by decide +kernel
theorem dX11_done_40 : decode cX11_done 40 = .ok (.getfield 16, 3) := by decide +kernel
theorem dX11_done_43 : decode cX11_done 43 = .ok (.iload_n 2, 1) := by decide +kernel
theorem dX11_done_44 : decode cX11_done 44 = .ok (.aload_n 0, 1) := by decide +kernel
theorem dX11_done_45 : decode cX11_done 45 = .ok (.getfield 32, 3) := by decide +kernel
theorem dX11_done_48 : decode cX11_done 48 = .ok (.iload_n 2, 1) := by decide +kernel
theorem dX11_done_49 : decode cX11_done 49 = .ok (.iaload, 1) := by decide +kernel
theorem dX11_done_50 : decode cX11_done 50 = .ok (.iastore, 1) := by decide +kernel
theorem dX11_done_51 : decode cX11_done 51 = .ok (.iinc 2 1, 3) := by decide +kernel
theorem dX11_done_54 : decode cX11_done 54 = .ok (.goto (-33), 3) := by decide +kernel
theorem dX11_done_57 : decode cX11_done 57 = .ok (.aload_n 0, 1) := by decide +kernel
theorem dX11_done_58 : decode cX11_done 58 = .ok (.getfield 50, 3) := by decide +kernel
theorem dX11_done_61 : decode cX11_done 61 = .ok (.istore_n 2, 1) := by decide +kernel
theorem dX11_done_62 : decode cX11_done 62 = .ok (.aload_n 0, 1) := by decide +kernel
theorem dX11_done_63 : decode cX11_done 63 = .ok (.iconst 0, 1) := by decide +kernel
theorem dX11_done_64 : decode cX11_done 64 = .ok (.putfield 50, 3) := by decide +kernel
theorem dX11_done_67 : decode cX11_done 67 = .ok (.iload_n 2, 1) := by decide +kernel
theorem dX11_done_68 : decode cX11_done 68 = .ok (.ireturn, 1) := by decide +kernel
theorem dX11_foot_0 : decode cX11_foot 0 = .ok (.aload_n 0, 1) := by decide +kernel
theorem dX11_foot_1 : decode cX11_foot 1 = .ok (.getfield 57, 3) := by decide +kernel
theorem dX11_foot_4 : decode cX11_foot 4 = .ok (.ireturn, 1) := by decide +kernel
set_option maxRecDepth 20000 in
theorem ggX11_car_X11_is8 : GoodIn wsX11_car wsX11_is8 := goodIn_r _ [7, 8, 9, 6, 10] (by decide +kernel) (by decide +kernel)
set_option maxRecDepth 20000 in
theorem gX11_car_X11_is8 : GoodIn wsX11_car (va_wsS RX11 46 yX11_is8 wsX11_is8) := goodIn_app (goodIn_of _ (by decide +kernel)) ggX11_car_X11_is8
theorem dX11_car_0 : decode cX11_car 0 = .ok (.iload_n 1, 1) := by decide +kernel
theorem dX11_car_1 : decode cX11_car 1 = .ok (.invokestatic 46, 3) := by decide +kernel
theorem dX11_car_4 : decode cX11_car 4 = .ok (.ifCond .ne 5, 3) := by decide +kernel
theorem dX11_car_7 : decode cX11_car 7 = .ok (.iconst (-1), 1) := by decide +kernel
theorem dX11_car_8 : decode cX11_car 8 = .ok (.ireturn, 1) := by decide +kernel
theorem dX11_car_9 : decode cX11_car 9 = .ok (.iload_n 2, 1) := by decide +kernel
theorem dX11_car_10 : decode cX11_car 10 = .ok (.lookupswitch 40 #[(0, 26), (1, 33)], 26) := by decide +kernel
theorem dX11_car_36 : decode cX11_car 36 = .ok (.aload_n 0, 1) := by decide +kernel
theorem dX11_car_37 : decode cX11_car 37 = .ok (.getfield 13, 3) := by decide +kernel
theorem dX11_car_40 : decode cX11_car 40 = .ok (.iload_n 1, 1) := by decide +kernel
theorem dX11_car_41 : decode cX11_car 41 = .ok (.iaload, 1) := by decide +kernel
theorem dX11_car_42 : decode cX11_car 42 = .ok (.ireturn, 1) := by decide +kernel
theorem dX11_car_43 : decode cX11_car 43 = .ok (.aload_n 0, 1) := by decide +kernel
theorem dX11_car_44 : decode cX11_car 44 = .ok (.getfield 16, 3) := by decide +kernel
theorem dX11_car_47 : decode cX11_car 47 = .ok (.iload_n 1, 1) := by decide +kernel
theorem dX11_car_48 : decode cX11_car 48 = .ok (.iaload, 1) := by decide +kernel
theorem dX11_car_49 : decode cX11_car 49 = .ok (.ireturn, 1) := by decide +kernel
theorem dX11_car_50 : decode cX11_car 50 = .ok (.iload_n 2, 1) := by decide +kernel
theorem dX11_car_51 : decode cX11_car 51 = .ok (.iconst 2, 1) := by decide +kernel
theorem dX11_car_52 : decode cX11_car 52 = .ok (.if_icmp .ne 18, 3) := by decide +kernel
theorem dX11_car_55 : decode cX11_car 55 = .ok (.iload_n 1, 1) := by decide +kernel
theorem dX11_car_56 : decode cX11_car 56 = .ok (.aload_n 0, 1) := by decide +kernel
theorem dX11_car_57 : decode cX11_car 57 = .ok (.getfield 57, 3) := by decide +kernel
theorem dX11_car_60 : decode cX11_car 60 = .ok (.isub, 1) := by decide +kernel
theorem dX11_car_61 : decode cX11_car 61 = .ok (.bipush 8, 2) := by decide +kernel
theorem dX11_car_63 : decode cX11_car 63 = .ok (.iadd, 1) := by decide +kernel
theorem dX11_car_64 : decode cX11_car 64 = .ok (.bipush 8, 2) := by decide +kernel
theorem dX11_car_66 : decode cX11_car 66 = .ok (.irem, 1) := by decide +kernel
theorem dX11_car_67 : decode cX11_car 67 = .ok (.goto 5, 3) := by decide +kernel
theorem dX11_car_70 : decode cX11_car 70 = .ok (.bipush (-2), 2) := by decide +kernel
theorem dX11_car_72 : decode cX11_car 72 = .ok (.ireturn, 1) := by decide +kernel
set_option maxRecDepth 20000 in
theorem ggX11_pull_X11_asNow : GoodIn wsX11_pull wsX11_asNow := goodIn_r _ [7, 8, 1, 9, 10, 11, 12, 13, 14, 23, 24, 25, 26, 27, 28, 29, 30, 31, 32, 33, 34, 35, 36, 37, 38, 39] (by decide +kernel) (by decide +kernel)
set_option maxRecDepth 20000 in
theorem gX11_pull_X11_asNow : GoodIn wsX11_pull (wsV RX11 76 RX11 yX11_asNow wsX11_asNow) := goodIn_app (goodIn_of _ (by decide +kernel)) ggX11_pull_X11_asNow
set_option maxRecDepth 20000 in
theorem ggX11_pull_X11_pullAt : GoodIn wsX11_pull wsX11_pullAt := goodIn_r _ [18, 13, 11, 19, 20, 21, 6, 22, 23, 24, 25, 26, 27, 28, 29, 30, 31, 32, 33, 34, 35, 36, 37, 38, 39] (by decide +kernel) (by decide +kernel)
set_option maxRecDepth 20000 in
theorem gX11_pull_X11_pullAt : GoodIn wsX11_pull (wsV RX11 73 RX11 yX11_pullAt wsX11_pullAt) := goodIn_app (goodIn_of _ (by decide +kernel)) ggX11_pull_X11_pullAt
theorem dX11_pull_0 : decode cX11_pull 0 = .ok (.aload_n 0, 1) := by decide +kernel
theorem dX11_pull_1 : decode cX11_pull 1 = .ok (.invokevirtual 76, 3) := by decide +kernel
theorem dX11_pull_4 : decode cX11_pull 4 = .ok (.aload_n 0, 1) := by decide +kernel
theorem dX11_pull_5 : decode cX11_pull 5 = .ok (.aload_n 0, 1) := by decide +kernel
theorem dX11_pull_6 : decode cX11_pull 6 = .ok (.getfield 60, 3) := by decide +kernel
theorem dX11_pull_9 : decode cX11_pull 9 = .ok (.invokevirtual 73, 3) := by decide +kernel
theorem dX11_pull_12 : decode cX11_pull 12 = .ok (.ldc 98, 2) := by decide +kernel
theorem dX11_pull_14 : decode cX11_pull 14 = .ok (.iadd, 1) := by decide +kernel
theorem dX11_pull_15 : decode cX11_pull 15 = .ok (.ireturn, 1) := by decide +kernel
set_option maxRecDepth 20000 in
theorem ggX11_behind_X11_in : GoodIn wsX11_behind wsX11_in := goodIn_r _ [7] (by decide +kernel) (by decide +kernel)
set_option maxRecDepth 20000 in
theorem gX11_behind_X11_in : GoodIn wsX11_behind (va_wsS RX11 42 yX11_in wsX11_in) := goodIn_app (goodIn_of _ (by decide +kernel)) ggX11_behind_X11_in
set_option maxRecDepth 20000 in
theorem ggX11_behind_X11_barOfText : GoodIn wsX11_behind wsX11_barOfText := goodIn_r _ [11, 12, 13, 14, 6, 15, 16, 17, 4, 5, 7, 18, 19, 20, 21, 22, 23, 24, 25, 26, 27, 1, 28, 29, 30, 31, 32, 33, 3, 34, 35, 36, 37, 38, 39, 40, 41, 42, 43, 44, 45, 46, 47, 48, 49, 50, 51, 52, 53, 54, 55, 56, 57, 58, 59, 60, 61, 62, 63, 64, 65, 66, 67, 68, 69, 70] (by decide +kernel) (by decide +kernel)
set_option maxRecDepth 20000 in
theorem gX11_behind_X11_barOfText : GoodIn wsX11_behind (wsV RX11 95 RX11 yX11_barOfText wsX11_barOfText) := goodIn_app (goodIn_of _ (by decide +kernel)) ggX11_behind_X11_barOfText
set_option maxRecDepth 20000 in
theorem ggX11_behind_X11_pullAt : GoodIn wsX11_behind wsX11_pullAt := goodIn_r _ [49, 28, 27, 50, 51, 52, 6, 53, 54, 55, 56, 57, 58, 59, 60, 61, 62, 63, 64, 65, 66, 67, 68, 69, 70] (by decide +kernel) (by decide +kernel)
set_option maxRecDepth 20000 in
theorem gX11_behind_X11_pullAt : GoodIn wsX11_behind (wsV RX11 73 RX11 yX11_pullAt wsX11_pullAt) := goodIn_app (goodIn_of _ (by decide +kernel)) ggX11_behind_X11_pullAt
theorem dX11_behind_0 : decode cX11_behind 0 = .ok (.iload_n 1, 1) := by decide +kernel
theorem dX11_behind_1 : decode cX11_behind 1 = .ok (.iconst 0, 1) := by decide +kernel
theorem dX11_behind_2 : decode cX11_behind 2 = .ok (.iconst 2, 1) := by decide +kernel
theorem dX11_behind_3 : decode cX11_behind 3 = .ok (.invokestatic 42, 3) := by decide +kernel
theorem dX11_behind_6 : decode cX11_behind 6 = .ok (.ifCond .ne 6, 3) := by decide +kernel
theorem dX11_behind_9 : decode cX11_behind 9 = .ok (.bipush (-2), 2) := by decide +kernel
theorem dX11_behind_11 : decode cX11_behind 11 = .ok (.ireturn, 1) := by decide +kernel
theorem dX11_behind_12 : decode cX11_behind 12 = .ok (.aload_n 0, 1) := by decide +kernel
theorem dX11_behind_13 : decode cX11_behind 13 = .ok (.invokevirtual 95, 3) := by decide +kernel
theorem dX11_behind_16 : decode cX11_behind 16 = .ok (.istore_n 2, 1) := by decide +kernel
theorem dX11_behind_17 : decode cX11_behind 17 = .ok (.iload_n 2, 1) := by decide +kernel
theorem dX11_behind_18 : decode cX11_behind 18 = .ok (.ifCond .ge 7, 3) := by decide +kernel
theorem dX11_behind_21 : decode cX11_behind 21 = .ok (.iload_n 2, 1) := by decide +kernel
theorem dX11_behind_22 : decode cX11_behind 22 = .ok (.goto 41, 3) := by decide +kernel
theorem dX11_behind_25 : decode cX11_behind 25 = .ok (.iload_n 1, 1) := by decide +kernel
theorem dX11_behind_26 : decode cX11_behind 26 = .ok (.ifCond .ne 10, 3) := by decide +kernel
theorem dX11_behind_29 : decode cX11_behind 29 = .ok (.aload_n 0, 1) := by decide +kernel
theorem dX11_behind_30 : decode cX11_behind 30 = .ok (.getfield 60, 3) := by decide +kernel
theorem dX11_behind_33 : decode cX11_behind 33 = .ok (.goto 30, 3) := by decide +kernel
theorem dX11_behind_36 : decode cX11_behind 36 = .ok (.iload_n 1, 1) := by decide +kernel
theorem dX11_behind_37 : decode cX11_behind 37 = .ok (.iconst 1, 1) := by decide +kernel
theorem dX11_behind_38 : decode cX11_behind 38 = .ok (.if_icmp .ne 17, 3) := by decide +kernel
theorem dX11_behind_41 : decode cX11_behind 41 = .ok (.aload_n 0, 1) := by decide +kernel
theorem dX11_behind_42 : decode cX11_behind 42 = .ok (.aload_n 0, 1) := by decide +kernel
theorem dX11_behind_43 : decode cX11_behind 43 = .ok (.getfield 60, 3) := by decide +kernel
theorem dX11_behind_46 : decode cX11_behind 46 = .ok (.invokevirtual 73, 3) := by decide +kernel
theorem dX11_behind_49 : decode cX11_behind 49 = .ok (.ldc 98, 2) := by decide +kernel
theorem dX11_behind_51 : decode cX11_behind 51 = .ok (.iadd, 1) := by decide +kernel
theorem dX11_behind_52 : decode cX11_behind 52 = .ok (.goto 11, 3) := by decide +kernel
theorem dX11_behind_55 : decode cX11_behind 55 = .ok (.aload_n 0, 1) := by decide +kernel
theorem dX11_behind_56 : decode cX11_behind 56 = .ok (.getfield 63, 3) := by decide +kernel
theorem dX11_behind_59 : decode cX11_behind 59 = .ok (.sipush 1000, 3) := by decide +kernel
theorem dX11_behind_62 : decode cX11_behind 62 = .ok (.iadd, 1) := by decide +kernel
theorem dX11_behind_63 : decode cX11_behind 63 = .ok (.ireturn, 1) := by decide +kernel
set_option maxRecDepth 20000 in
theorem ggX11_leftOut_X11_barOfText : GoodIn wsX11_leftOut wsX11_barOfText := goodIn_r _ [8, 9, 10, 11, 7, 12, 2, 3, 13, 14, 15, 16, 17, 18, 19, 20, 21, 22, 23, 24, 25, 1, 26, 27, 28, 29, 30, 31, 32, 33, 34, 35, 36, 37, 38, 39, 40, 41, 42, 43, 44, 45, 46, 47, 48, 49, 50, 51, 52, 53, 54, 55, 56, 57, 58, 59, 60, 61, 62, 63, 64, 65, 66, 67, 68, 69] (by decide +kernel) (by decide +kernel)
set_option maxRecDepth 20000 in
theorem gX11_leftOut_X11_barOfText : GoodIn wsX11_leftOut (wsV RX11 95 RX11 yX11_barOfText wsX11_barOfText) := goodIn_app (goodIn_of _ (by decide +kernel)) ggX11_leftOut_X11_barOfText
set_option maxRecDepth 20000 in
theorem ggX11_leftOut_X11_goText : GoodIn wsX11_leftOut wsX11_goText := goodIn_r _ [23, 24, 2, 3, 25, 1, 26, 27, 28, 29, 7, 30, 31, 32, 33, 34, 35, 16, 17, 18, 19, 13, 14, 15, 36, 37, 38, 39, 40, 41, 42, 43, 44, 45, 46, 47, 48, 49, 50, 51, 52, 53, 54, 55, 56, 57, 58, 59, 60, 61, 62, 63, 64, 65, 66, 67, 68, 69] (by decide +kernel) (by decide +kernel)
set_option maxRecDepth 20000 in
theorem gX11_leftOut_X11_goText : GoodIn wsX11_leftOut (wsV RX11 91 RX11 yX11_goText wsX11_goText) := goodIn_app (goodIn_of _ (by decide +kernel)) ggX11_leftOut_X11_goText
theorem dX11_leftOut_0 : decode cX11_leftOut 0 = .ok (.aload_n 0, 1) := by decide +kernel
theorem dX11_leftOut_1 : decode cX11_leftOut 1 = .ok (.invokevirtual 95, 3) := by decide +kernel
theorem dX11_leftOut_4 : decode cX11_leftOut 4 = .ok (.istore_n 2, 1) := by decide +kernel
theorem dX11_leftOut_5 : decode cX11_leftOut 5 = .ok (.iload_n 2, 1) := by decide +kernel
theorem dX11_leftOut_6 : decode cX11_leftOut 6 = .ok (.ifCond .ge 5, 3) := by decide +kernel
theorem dX11_leftOut_9 : decode cX11_leftOut 9 = .ok (.iload_n 2, 1) := by decide +kernel
theorem dX11_leftOut_10 : decode cX11_leftOut 10 = .ok (.ireturn, 1) := by decide +kernel
theorem dX11_leftOut_11 : decode cX11_leftOut 11 = .ok (.aload_n 0, 1) := by decide +kernel
theorem dX11_leftOut_12 : decode cX11_leftOut 12 = .ok (.getfield 60, 3) := by decide +kernel
theorem dX11_leftOut_15 : decode cX11_leftOut 15 = .ok (.istore_n 3, 1) := by decide +kernel
theorem dX11_leftOut_16 : decode cX11_leftOut 16 = .ok (.iconst 0, 1) := by decide +kernel
theorem dX11_leftOut_17 : decode cX11_leftOut 17 = .ok (.istore 4, 2) := by decide +kernel
theorem dX11_leftOut_19 : decode cX11_leftOut 19 = .ok (.iconst 0, 1) := by decide +kernel
theorem dX11_leftOut_20 : decode cX11_leftOut 20 = .ok (.istore 5, 2) := by decide +kernel
theorem dX11_leftOut_22 : decode cX11_leftOut 22 = .ok (.iload 5, 2) := by decide +kernel
theorem dX11_leftOut_24 : decode cX11_leftOut 24 = .ok (.aload_n 0, 1) := by decide +kernel
theorem dX11_leftOut_25 : decode cX11_leftOut 25 = .ok (.getfield 50, 3) := by decide +kernel
theorem dX11_leftOut_28 : decode cX11_leftOut 28 = .ok (.if_icmp .ge 87, 3) := by decide +kernel
theorem dX11_leftOut_31 : decode cX11_leftOut 31 = .ok (.aload_n 0, 1) := by decide +kernel
theorem dX11_leftOut_32 : decode cX11_leftOut 32 = .ok (.getfield 26, 3) := by decide +kernel
theorem dX11_leftOut_35 : decode cX11_leftOut 35 = .ok (.iload 5, 2) := by decide +kernel
theorem dX11_leftOut_37 : decode cX11_leftOut 37 = .ok (.iaload, 1) := by decide +kernel
theorem dX11_leftOut_38 : decode cX11_leftOut 38 = .ok (.bipush 94, 2) := by decide +kernel
theorem dX11_leftOut_40 : decode cX11_leftOut 40 = .ok (.if_icmp .eq 27, 3) := by decide +kernel
theorem dX11_leftOut_43 : decode cX11_leftOut 43 = .ok (.aload_n 0, 1) := by decide +kernel
theorem dX11_leftOut_44 : decode cX11_leftOut 44 = .ok (.getfield 26, 3) := by decide +kernel
theorem dX11_leftOut_47 : decode cX11_leftOut 47 = .ok (.iload 5, 2) := by decide +kernel
theorem dX11_leftOut_49 : decode cX11_leftOut 49 = .ok (.iaload, 1) := by decide +kernel
theorem dX11_leftOut_50 : decode cX11_leftOut 50 = .ok (.bipush 60, 2) := by decide +kernel
theorem dX11_leftOut_52 : decode cX11_leftOut 52 = .ok (.if_icmp .eq 15, 3) := by decide +kernel
theorem dX11_leftOut_55 : decode cX11_leftOut 55 = .ok (.aload_n 0, 1) := by decide +kernel
theorem dX11_leftOut_56 : decode cX11_leftOut 56 = .ok (.getfield 26, 3) := by decide +kernel
theorem dX11_leftOut_59 : decode cX11_leftOut 59 = .ok (.iload 5, 2) := by decide +kernel
theorem dX11_leftOut_61 : decode cX11_leftOut 61 = .ok (.iaload, 1) := by decide +kernel
theorem dX11_leftOut_62 : decode cX11_leftOut 62 = .ok (.bipush 62, 2) := by decide +kernel
theorem dX11_leftOut_64 : decode cX11_leftOut 64 = .ok (.if_icmp .ne 7, 3) := by decide +kernel
theorem dX11_leftOut_67 : decode cX11_leftOut 67 = .ok (.iconst 1, 1) := by decide +kernel
theorem dX11_leftOut_68 : decode cX11_leftOut 68 = .ok (.goto 4, 3) := by decide +kernel
theorem dX11_leftOut_71 : decode cX11_leftOut 71 = .ok (.iconst 0, 1) := by decide +kernel
theorem dX11_leftOut_72 : decode cX11_leftOut 72 = .ok (.istore 6, 2) := by decide +kernel
theorem dX11_leftOut_74 : decode cX11_leftOut 74 = .ok (.iload 6, 2) := by decide +kernel
theorem dX11_leftOut_76 : decode cX11_leftOut 76 = .ok (.ifCond .ne 33, 3) := by decide +kernel
theorem dX11_leftOut_79 : decode cX11_leftOut 79 = .ok (.aload_n 0, 1) := by decide +kernel
theorem dX11_leftOut_80 : decode cX11_leftOut 80 = .ok (.iconst 0, 1) := by decide +kernel
theorem dX11_leftOut_81 : decode cX11_leftOut 81 = .ok (.iload 5, 2) := by decide +kernel
theorem dX11_leftOut_83 : decode cX11_leftOut 83 = .ok (.invokevirtual 91, 3) := by decide +kernel
theorem dX11_leftOut_86 : decode cX11_leftOut 86 = .ok (.ifCond .ge 23, 3) := by decide +kernel
theorem dX11_leftOut_89 : decode cX11_leftOut 89 = .ok (.aload_n 0, 1) := by decide +kernel
theorem dX11_leftOut_90 : decode cX11_leftOut 90 = .ok (.getfield 60, 3) := by decide +kernel
theorem dX11_leftOut_93 : decode cX11_leftOut 93 = .ok (.iload_n 3, 1) := by decide +kernel
theorem dX11_leftOut_94 : decode cX11_leftOut 94 = .ok (.if_icmp .ne 15, 3) := by decide +kernel
theorem dX11_leftOut_97 : decode cX11_leftOut 97 = .ok (.iload 4, 2) := by decide +kernel
theorem dX11_leftOut_99 : decode cX11_leftOut 99 = .ok (.iload_n 1, 1) := by decide +kernel
theorem dX11_leftOut_100 : decode cX11_leftOut 100 = .ok (.if_icmp .ne 6, 3) := by decide +kernel
theorem dX11_leftOut_103 : decode cX11_leftOut 103 = .ok (.iload 5, 2) := by decide +kernel
theorem dX11_leftOut_105 : decode cX11_leftOut 105 = .ok (.ireturn, 1) := by decide +kernel
theorem dX11_leftOut_106 : decode cX11_leftOut 106 = .ok (.iinc 4 1, 3) := by decide +kernel
theorem dX11_leftOut_109 : decode cX11_leftOut 109 = .ok (.iinc 5 1, 3) := by decide +kernel
theorem dX11_leftOut_112 : decode cX11_leftOut 112 = .ok (.goto (-90), 3) := by decide +kernel
theorem dX11_leftOut_115 : decode cX11_leftOut 115 = .ok (.iload_n 1, 1) := by decide +kernel
theorem dX11_leftOut_116 : decode cX11_leftOut 116 = .ok (.iconst (-1), 1) := by decide +kernel
theorem dX11_leftOut_117 : decode cX11_leftOut 117 = .ok (.if_icmp .ne 8, 3) := by decide +kernel
theorem dX11_leftOut_120 : decode cX11_leftOut 120 = .ok (.iload 4, 2) := by decide +kernel
theorem dX11_leftOut_122 : decode cX11_leftOut 122 = .ok (.goto 5, 3) := by decide +kernel
theorem dX11_leftOut_125 : decode cX11_leftOut 125 = .ok (.bipush (-6), 2) := by decide +kernel
theorem dX11_leftOut_127 : decode cX11_leftOut 127 = .ok (.ireturn, 1) := by decide +kernel
set_option maxRecDepth 20000 in
theorem ggX11_move_X11_carOf : GoodIn wsX11_move wsX11_carOf := goodIn_r _ [7, 1, 24, 25, 26, 27, 28, 29, 30, 31, 32, 33, 34, 35, 36, 37, 38, 39, 40] (by decide +kernel) (by decide +kernel)
set_option maxRecDepth 20000 in
theorem gX11_move_X11_carOf : GoodIn wsX11_move (wsV RX11 85 RX11 yX11_carOf wsX11_carOf) := goodIn_app (goodIn_of _ (by decide +kernel)) ggX11_move_X11_carOf
set_option maxRecDepth 20000 in
theorem ggX11_move_X11_letGo : GoodIn wsX11_move wsX11_letGo := goodIn_r _ [11, 2, 12, 13, 14, 15, 16, 17, 6, 18, 19, 1, 20, 21, 22, 23, 24, 25, 26, 27, 28, 29, 30, 31, 32, 33, 34, 35, 36, 37, 38, 39, 40] (by decide +kernel) (by decide +kernel)
set_option maxRecDepth 20000 in
theorem gX11_move_X11_letGo : GoodIn wsX11_move (wsV RX11 88 RX11 yX11_letGo wsX11_letGo) := goodIn_app (goodIn_of _ (by decide +kernel)) ggX11_move_X11_letGo
theorem dX11_move_0 : decode cX11_move 0 = .ok (.iload_n 1, 1) := by decide +kernel
theorem dX11_move_1 : decode cX11_move 1 = .ok (.iconst 2, 1) := by decide +kernel
theorem dX11_move_2 : decode cX11_move 2 = .ok (.idiv, 1) := by decide +kernel
theorem dX11_move_3 : decode cX11_move 3 = .ok (.istore_n 2, 1) := by decide +kernel
theorem dX11_move_4 : decode cX11_move 4 = .ok (.iload_n 1, 1) := by decide +kernel
theorem dX11_move_5 : decode cX11_move 5 = .ok (.iconst 2, 1) := by decide +kernel
theorem dX11_move_6 : decode cX11_move 6 = .ok (.irem, 1) := by decide +kernel
theorem dX11_move_7 : decode cX11_move 7 = .ok (.iconst 1, 1) := by decide +kernel
theorem dX11_move_8 : decode cX11_move 8 = .ok (.if_icmp .ne 7, 3) := by decide +kernel
theorem dX11_move_11 : decode cX11_move 11 = .ok (.iconst 1, 1) := by decide +kernel
theorem dX11_move_12 : decode cX11_move 12 = .ok (.goto 4, 3) := by decide +kernel
theorem dX11_move_15 : decode cX11_move 15 = .ok (.iconst 0, 1) := by decide +kernel
theorem dX11_move_16 : decode cX11_move 16 = .ok (.istore_n 3, 1) := by decide +kernel
theorem dX11_move_17 : decode cX11_move 17 = .ok (.iload_n 3, 1) := by decide +kernel
theorem dX11_move_18 : decode cX11_move 18 = .ok (.ifCond .eq 17, 3) := by decide +kernel
theorem dX11_move_21 : decode cX11_move 21 = .ok (.aload_n 0, 1) := by decide +kernel
theorem dX11_move_22 : decode cX11_move 22 = .ok (.getfield 29, 3) := by decide +kernel
theorem dX11_move_25 : decode cX11_move 25 = .ok (.aload_n 0, 1) := by decide +kernel
theorem dX11_move_26 : decode cX11_move 26 = .ok (.getfield 60, 3) := by decide +kernel
theorem dX11_move_29 : decode cX11_move 29 = .ok (.iaload, 1) := by decide +kernel
theorem dX11_move_30 : decode cX11_move 30 = .ok (.ifCond .ge 5, 3) := by decide +kernel
theorem dX11_move_33 : decode cX11_move 33 = .ok (.iconst 0, 1) := by decide +kernel
theorem dX11_move_34 : decode cX11_move 34 = .ok (.ireturn, 1) := by decide +kernel
theorem dX11_move_35 : decode cX11_move 35 = .ok (.aload_n 0, 1) := by decide +kernel
theorem dX11_move_36 : decode cX11_move 36 = .ok (.getfield 29, 3) := by decide +kernel
theorem dX11_move_39 : decode cX11_move 39 = .ok (.aload_n 0, 1) := by decide +kernel
theorem dX11_move_40 : decode cX11_move 40 = .ok (.getfield 60, 3) := by decide +kernel
theorem dX11_move_43 : decode cX11_move 43 = .ok (.iload_n 3, 1) := by decide +kernel
theorem dX11_move_44 : decode cX11_move 44 = .ok (.ifCond .eq 8, 3) := by decide +kernel
theorem dX11_move_47 : decode cX11_move 47 = .ok (.bipush (-6), 2) := by decide +kernel
theorem dX11_move_49 : decode cX11_move 49 = .ok (.goto 12, 3) := by decide +kernel
theorem dX11_move_52 : decode cX11_move 52 = .ok (.aload_n 0, 1) := by decide +kernel
theorem dX11_move_53 : decode cX11_move 53 = .ok (.getfield 29, 3) := by decide +kernel
theorem dX11_move_56 : decode cX11_move 56 = .ok (.aload_n 0, 1) := by decide +kernel
theorem dX11_move_57 : decode cX11_move 57 = .ok (.getfield 60, 3) := by decide +kernel
theorem dX11_move_60 : decode cX11_move 60 = .ok (.iaload, 1) := by decide +kernel
theorem dX11_move_61 : decode cX11_move 61 = .ok (.iastore, 1) := by decide +kernel
theorem dX11_move_62 : decode cX11_move 62 = .ok (.iload_n 2, 1) := by decide +kernel
theorem dX11_move_63 : decode cX11_move 63 = .ok (.bipush 8, 2) := by decide +kernel
theorem dX11_move_65 : decode cX11_move 65 = .ok (.if_icmp .ge 35, 3) := by decide +kernel
theorem dX11_move_68 : decode cX11_move 68 = .ok (.aload_n 0, 1) := by decide +kernel
theorem dX11_move_69 : decode cX11_move 69 = .ok (.getfield 29, 3) := by decide +kernel
theorem dX11_move_72 : decode cX11_move 72 = .ok (.aload_n 0, 1) := by decide +kernel
theorem dX11_move_73 : decode cX11_move 73 = .ok (.getfield 60, 3) := by decide +kernel
theorem dX11_move_76 : decode cX11_move 76 = .ok (.iaload, 1) := by decide +kernel
theorem dX11_move_77 : decode cX11_move 77 = .ok (.ifCond .ge 11, 3) := by decide +kernel
theorem dX11_move_80 : decode cX11_move 80 = .ok (.aload_n 0, 1) := by decide +kernel
theorem dX11_move_81 : decode cX11_move 81 = .ok (.iload_n 2, 1) := by decide +kernel
theorem dX11_move_82 : decode cX11_move 82 = .ok (.invokevirtual 85, 3) := by decide +kernel
theorem dX11_move_85 : decode cX11_move 85 = .ok (.ifCond .lt 5, 3) := by decide +kernel
theorem dX11_move_88 : decode cX11_move 88 = .ok (.iconst 0, 1) := by decide +kernel
theorem dX11_move_89 : decode cX11_move 89 = .ok (.ireturn, 1) := by decide +kernel
theorem dX11_move_90 : decode cX11_move 90 = .ok (.aload_n 0, 1) := by decide +kernel
theorem dX11_move_91 : decode cX11_move 91 = .ok (.getfield 29, 3) := by decide +kernel
theorem dX11_move_94 : decode cX11_move 94 = .ok (.aload_n 0, 1) := by decide +kernel
theorem dX11_move_95 : decode cX11_move 95 = .ok (.getfield 60, 3) := by decide +kernel
theorem dX11_move_98 : decode cX11_move 98 = .ok (.iload_n 2, 1) := by decide +kernel
theorem dX11_move_99 : decode cX11_move 99 = .ok (.iastore, 1) := by decide +kernel
theorem dX11_move_100 : decode cX11_move 100 = .ok (.aload_n 0, 1) := by decide +kernel
theorem dX11_move_101 : decode cX11_move 101 = .ok (.invokevirtual 88, 3) := by decide +kernel
theorem dX11_move_104 : decode cX11_move 104 = .ok (.iconst 1, 1) := by decide +kernel
theorem dX11_move_105 : decode cX11_move 105 = .ok (.ireturn, 1) := by decide +kernel
theorem dX11_powerOf_0 : decode cX11_powerOf 0 = .ok (.iconst 1, 1) := by decide +kernel
theorem dX11_powerOf_1 : decode cX11_powerOf 1 = .ok (.istore_n 2, 1) := by decide +kernel
theorem dX11_powerOf_2 : decode cX11_powerOf 2 = .ok (.iconst 0, 1) := by decide +kernel
theorem dX11_powerOf_3 : decode cX11_powerOf 3 = .ok (.istore_n 3, 1) := by decide +kernel
theorem dX11_powerOf_4 : decode cX11_powerOf 4 = .ok (.iload_n 3, 1) := by decide +kernel
theorem dX11_powerOf_5 : decode cX11_powerOf 5 = .ok (.iload_n 1, 1) := by decide +kernel
theorem dX11_powerOf_6 : decode cX11_powerOf 6 = .ok (.if_icmp .ge 13, 3) := by decide +kernel
theorem dX11_powerOf_9 : decode cX11_powerOf 9 = .ok (.iload_n 2, 1) := by decide +kernel
theorem dX11_powerOf_10 : decode cX11_powerOf 10 = .ok (.iload_n 0, 1) := by decide +kernel
theorem dX11_powerOf_11 : decode cX11_powerOf 11 = .ok (.imul, 1) := by decide +kernel
theorem dX11_powerOf_12 : decode cX11_powerOf 12 = .ok (.istore_n 2, 1) := by decide +kernel
theorem dX11_powerOf_13 : decode cX11_powerOf 13 = .ok (.iinc 3 1, 3) := by decide +kernel
theorem dX11_powerOf_16 : decode cX11_powerOf 16 = .ok (.goto (-12), 3) := by decide +kernel
theorem dX11_powerOf_19 : decode cX11_powerOf 19 = .ok (.iload_n 2, 1) := by decide +kernel
theorem dX11_powerOf_20 : decode cX11_powerOf 20 = .ok (.ireturn, 1) := by decide +kernel
set_option maxRecDepth 20000 in
theorem ggX11_down_X11_is8 : GoodIn wsX11_down wsX11_is8 := goodIn_r _ [5, 6, 7, 4, 8] (by decide +kernel) (by decide +kernel)
set_option maxRecDepth 20000 in
theorem gX11_down_X11_is8 : GoodIn wsX11_down (va_wsS RX11 46 yX11_is8 wsX11_is8) := goodIn_app (goodIn_of _ (by decide +kernel)) ggX11_down_X11_is8
set_option maxRecDepth 20000 in
theorem ggX11_down_X11_in : GoodIn wsX11_down wsX11_in := goodIn_r _ [8] (by decide +kernel) (by decide +kernel)
set_option maxRecDepth 20000 in
theorem gX11_down_X11_in : GoodIn wsX11_down (va_wsS RX11 42 yX11_in wsX11_in) := goodIn_app (goodIn_of _ (by decide +kernel)) ggX11_down_X11_in
set_option maxRecDepth 20000 in
theorem ggX11_down_X11_asNow : GoodIn wsX11_down wsX11_asNow := goodIn_r _ [12, 13, 1, 14, 15, 16, 17, 18, 19, 44, 45, 46, 47, 48, 49, 50, 51, 52, 53, 54, 55, 56, 57, 58, 59, 60] (by decide +kernel) (by decide +kernel)
set_option maxRecDepth 20000 in
theorem gX11_down_X11_asNow : GoodIn wsX11_down (wsV RX11 76 RX11 yX11_asNow wsX11_asNow) := goodIn_app (goodIn_of _ (by decide +kernel)) ggX11_down_X11_asNow
set_option maxRecDepth 20000 in
theorem ggX11_down_X11_carOf : GoodIn wsX11_down wsX11_carOf := goodIn_r _ [23, 16, 44, 45, 46, 47, 48, 49, 50, 51, 52, 53, 54, 55, 56, 57, 58, 59, 60] (by decide +kernel) (by decide +kernel)
set_option maxRecDepth 20000 in
theorem gX11_down_X11_carOf : GoodIn wsX11_down (wsV RX11 85 RX11 yX11_carOf wsX11_carOf) := goodIn_app (goodIn_of _ (by decide +kernel)) ggX11_down_X11_carOf
set_option maxRecDepth 20000 in
theorem ggX11_down_X11_powerOf : GoodIn wsX11_down wsX11_powerOf := goodIn_r _ [26] (by decide +kernel) (by decide +kernel)
set_option maxRecDepth 20000 in
theorem gX11_down_X11_powerOf : GoodIn wsX11_down (va_wsS RX11 99 yX11_powerOf wsX11_powerOf) := goodIn_app (goodIn_of _ (by decide +kernel)) ggX11_down_X11_powerOf
set_option maxRecDepth 20000 in
theorem ggX11_down_X11_move : GoodIn wsX11_down wsX11_move := goodIn_r _ [30, 16, 1, 20, 21, 22, 4, 23, 31, 32, 33, 34, 35, 14, 15, 36, 37, 38, 39, 18, 40, 41, 42, 43, 44, 45, 46, 47, 48, 49, 50, 51, 52, 53, 54, 55, 56, 57, 58, 59, 60] (by decide +kernel) (by decide +kernel)
set_option maxRecDepth 20000 in
theorem gX11_down_X11_move : GoodIn wsX11_down (wsV RX11 102 RX11 yX11_move wsX11_move) := goodIn_app (goodIn_of _ (by decide +kernel)) ggX11_down_X11_move
theorem dX11_down_0 : decode cX11_down 0 = .ok (.iload_n 1, 1) := by decide +kernel
theorem dX11_down_1 : decode cX11_down 1 = .ok (.invokestatic 46, 3) := by decide +kernel
theorem dX11_down_4 : decode cX11_down 4 = .ok (.ifCond .ne 5, 3) := by decide +kernel
theorem dX11_down_7 : decode cX11_down 7 = .ok (.iconst (-1), 1) := by decide +kernel
theorem dX11_down_8 : decode cX11_down 8 = .ok (.ireturn, 1) := by decide +kernel
theorem dX11_down_9 : decode cX11_down 9 = .ok (.iload_n 2, 1) := by decide +kernel
theorem dX11_down_10 : decode cX11_down 10 = .ok (.iconst 0, 1) := by decide +kernel
theorem dX11_down_11 : decode cX11_down 11 = .ok (.iconst 2, 1) := by decide +kernel
theorem dX11_down_12 : decode cX11_down 12 = .ok (.invokestatic 42, 3) := by decide +kernel
theorem dX11_down_15 : decode cX11_down 15 = .ok (.ifCond .ne 6, 3) := by decide +kernel
theorem dX11_down_18 : decode cX11_down 18 = .ok (.bipush (-2), 2) := by decide +kernel
theorem dX11_down_20 : decode cX11_down 20 = .ok (.ireturn, 1) := by decide +kernel
theorem dX11_down_21 : decode cX11_down 21 = .ok (.aload_n 0, 1) := by decide +kernel
theorem dX11_down_22 : decode cX11_down 22 = .ok (.invokevirtual 76, 3) := by decide +kernel
theorem dX11_down_25 : decode cX11_down 25 = .ok (.aload_n 0, 1) := by decide +kernel
theorem dX11_down_26 : decode cX11_down 26 = .ok (.iload_n 1, 1) := by decide +kernel
theorem dX11_down_27 : decode cX11_down 27 = .ok (.invokevirtual 85, 3) := by decide +kernel
theorem dX11_down_30 : decode cX11_down 30 = .ok (.ifCond .ge 6, 3) := by decide +kernel
theorem dX11_down_33 : decode cX11_down 33 = .ok (.bipush (-3), 2) := by decide +kernel
theorem dX11_down_35 : decode cX11_down 35 = .ok (.ireturn, 1) := by decide +kernel
theorem dX11_down_36 : decode cX11_down 36 = .ok (.aload_n 0, 1) := by decide +kernel
theorem dX11_down_37 : decode cX11_down 37 = .ok (.iload_n 1, 1) := by decide +kernel
theorem dX11_down_38 : decode cX11_down 38 = .ok (.invokevirtual 85, 3) := by decide +kernel
theorem dX11_down_41 : decode cX11_down 41 = .ok (.aload_n 0, 1) := by decide +kernel
theorem dX11_down_42 : decode cX11_down 42 = .ok (.getfield 60, 3) := by decide +kernel
