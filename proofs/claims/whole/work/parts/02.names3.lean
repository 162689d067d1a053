theorem dX11_down_45 : decode cX11_down 45 = .ok (.if_icmp .ne 14, 3) := by decide +kernel
theorem dX11_down_48 : decode cX11_down 48 = .ok (.iload_n 2, 1) := by decide +kernel
theorem dX11_down_49 : decode cX11_down 49 = .ok (.ifCond .ne 7, 3) := by decide +kernel
theorem dX11_down_52 : decode cX11_down 52 = .ok (.iconst 0, 1) := by decide +kernel
theorem dX11_down_53 : decode cX11_down 53 = .ok (.goto 5, 3) := by decide +kernel
theorem dX11_down_56 : decode cX11_down 56 = .ok (.bipush (-6), 2) := by decide +kernel
theorem dX11_down_58 : decode cX11_down 58 = .ok (.ireturn, 1) := by decide +kernel
theorem dX11_down_59 : decode cX11_down 59 = .ok (.iconst 1, 1) := by decide +kernel
theorem dX11_down_60 : decode cX11_down 60 = .ok (.istore_n 3, 1) := by decide +kernel
theorem dX11_down_61 : decode cX11_down 61 = .ok (.iload_n 3, 1) := by decide +kernel
theorem dX11_down_62 : decode cX11_down 62 = .ok (.iconst 4, 1) := by decide +kernel
theorem dX11_down_63 : decode cX11_down 63 = .ok (.if_icmp .ge 154, 3) := by decide +kernel
theorem dX11_down_66 : decode cX11_down 66 = .ok (.bipush 18, 2) := by decide +kernel
theorem dX11_down_68 : decode cX11_down 68 = .ok (.iload_n 3, 1) := by decide +kernel
theorem dX11_down_69 : decode cX11_down 69 = .ok (.invokestatic 99, 3) := by decide +kernel
theorem dX11_down_72 : decode cX11_down 72 = .ok (.istore 4, 2) := by decide +kernel
theorem dX11_down_74 : decode cX11_down 74 = .ok (.iconst 0, 1) := by decide +kernel
theorem dX11_down_75 : decode cX11_down 75 = .ok (.istore 5, 2) := by decide +kernel
theorem dX11_down_77 : decode cX11_down 77 = .ok (.iload 5, 2) := by decide +kernel
theorem dX11_down_79 : decode cX11_down 79 = .ok (.iload 4, 2) := by decide +kernel
theorem dX11_down_81 : decode cX11_down 81 = .ok (.if_icmp .ge 130, 3) := by decide +kernel
theorem dX11_down_84 : decode cX11_down 84 = .ok (.aload_n 0, 1) := by decide +kernel
theorem dX11_down_85 : decode cX11_down 85 = .ok (.invokevirtual 76, 3) := by decide +kernel
theorem dX11_down_88 : decode cX11_down 88 = .ok (.iload 4, 2) := by decide +kernel
theorem dX11_down_90 : decode cX11_down 90 = .ok (.istore 6, 2) := by decide +kernel
theorem dX11_down_92 : decode cX11_down 92 = .ok (.iconst 1, 1) := by decide +kernel
theorem dX11_down_93 : decode cX11_down 93 = .ok (.istore 7, 2) := by decide +kernel
theorem dX11_down_95 : decode cX11_down 95 = .ok (.iconst 0, 1) := by decide +kernel
theorem dX11_down_96 : decode cX11_down 96 = .ok (.istore 8, 2) := by decide +kernel
theorem dX11_down_98 : decode cX11_down 98 = .ok (.iload 8, 2) := by decide +kernel
theorem dX11_down_100 : decode cX11_down 100 = .ok (.iload_n 3, 1) := by decide +kernel
theorem dX11_down_101 : decode cX11_down 101 = .ok (.if_icmp .ge 35, 3) := by decide +kernel
theorem dX11_down_104 : decode cX11_down 104 = .ok (.iload 7, 2) := by decide +kernel
theorem dX11_down_106 : decode cX11_down 106 = .ok (.ifCond .eq 30, 3) := by decide +kernel
theorem dX11_down_109 : decode cX11_down 109 = .ok (.iload 6, 2) := by decide +kernel
theorem dX11_down_111 : decode cX11_down 111 = .ok (.bipush 18, 2) := by decide +kernel
theorem dX11_down_113 : decode cX11_down 113 = .ok (.idiv, 1) := by decide +kernel
theorem dX11_down_114 : decode cX11_down 114 = .ok (.istore 6, 2) := by decide +kernel
theorem dX11_down_116 : decode cX11_down 116 = .ok (.aload_n 0, 1) := by decide +kernel
theorem dX11_down_117 : decode cX11_down 117 = .ok (.iload 5, 2) := by decide +kernel
theorem dX11_down_119 : decode cX11_down 119 = .ok (.iload 6, 2) := by decide +kernel
theorem dX11_down_121 : decode cX11_down 121 = .ok (.idiv, 1) := by decide +kernel
theorem dX11_down_122 : decode cX11_down 122 = .ok (.bipush 18, 2) := by decide +kernel
theorem dX11_down_124 : decode cX11_down 124 = .ok (.irem, 1) := by decide +kernel
theorem dX11_down_125 : decode cX11_down 125 = .ok (.invokevirtual 102, 3) := by decide +kernel
theorem dX11_down_128 : decode cX11_down 128 = .ok (.istore 7, 2) := by decide +kernel
theorem dX11_down_130 : decode cX11_down 130 = .ok (.iinc 8 1, 3) := by decide +kernel
theorem dX11_down_133 : decode cX11_down 133 = .ok (.goto (-35), 3) := by decide +kernel
theorem dX11_down_136 : decode cX11_down 136 = .ok (.iload 7, 2) := by decide +kernel
theorem dX11_down_138 : decode cX11_down 138 = .ok (.ifCond .eq 67, 3) := by decide +kernel
theorem dX11_down_141 : decode cX11_down 141 = .ok (.aload_n 0, 1) := by decide +kernel
theorem dX11_down_142 : decode cX11_down 142 = .ok (.iload_n 1, 1) := by decide +kernel
theorem dX11_down_143 : decode cX11_down 143 = .ok (.invokevirtual 85, 3) := by decide +kernel
theorem dX11_down_146 : decode cX11_down 146 = .ok (.aload_n 0, 1) := by decide +kernel
theorem dX11_down_147 : decode cX11_down 147 = .ok (.getfield 60, 3) := by decide +kernel
theorem dX11_down_150 : decode cX11_down 150 = .ok (.if_icmp .ne 55, 3) := by decide +kernel
theorem dX11_down_153 : decode cX11_down 153 = .ok (.iload 5, 2) := by decide +kernel
theorem dX11_down_155 : decode cX11_down 155 = .ok (.bipush 18, 2) := by decide +kernel
theorem dX11_down_157 : decode cX11_down 157 = .ok (.iload_n 3, 1) := by decide +kernel
theorem dX11_down_158 : decode cX11_down 158 = .ok (.iconst 1, 1) := by decide +kernel
theorem dX11_down_159 : decode cX11_down 159 = .ok (.isub, 1) := by decide +kernel
theorem dX11_down_160 : decode cX11_down 160 = .ok (.invokestatic 99, 3) := by decide +kernel
theorem dX11_down_163 : decode cX11_down 163 = .ok (.idiv, 1) := by decide +kernel
theorem dX11_down_164 : decode cX11_down 164 = .ok (.istore 8, 2) := by decide +kernel
theorem dX11_down_166 : decode cX11_down 166 = .ok (.iload_n 2, 1) := by decide +kernel
theorem dX11_down_167 : decode cX11_down 167 = .ok (.ifCond .ne 7, 3) := by decide +kernel
theorem dX11_down_170 : decode cX11_down 170 = .ok (.iload_n 3, 1) := by decide +kernel
theorem dX11_down_171 : decode cX11_down 171 = .ok (.goto 33, 3) := by decide +kernel
theorem dX11_down_174 : decode cX11_down 174 = .ok (.iload_n 2, 1) := by decide +kernel
theorem dX11_down_175 : decode cX11_down 175 = .ok (.iconst 1, 1) := by decide +kernel
theorem dX11_down_176 : decode cX11_down 176 = .ok (.if_icmp .ne 10, 3) := by decide +kernel
theorem dX11_down_179 : decode cX11_down 179 = .ok (.iload 8, 2) := by decide +kernel
theorem dX11_down_181 : decode cX11_down 181 = .ok (.iconst 2, 1) := by decide +kernel
theorem dX11_down_182 : decode cX11_down 182 = .ok (.irem, 1) := by decide +kernel
theorem dX11_down_183 : decode cX11_down 183 = .ok (.goto 21, 3) := by decide +kernel
theorem dX11_down_186 : decode cX11_down 186 = .ok (.iload 8, 2) := by decide +kernel
theorem dX11_down_188 : decode cX11_down 188 = .ok (.iconst 2, 1) := by decide +kernel
theorem dX11_down_189 : decode cX11_down 189 = .ok (.idiv, 1) := by decide +kernel
theorem dX11_down_190 : decode cX11_down 190 = .ok (.bipush 8, 2) := by decide +kernel
theorem dX11_down_192 : decode cX11_down 192 = .ok (.if_icmp .ne 8, 3) := by decide +kernel
theorem dX11_down_195 : decode cX11_down 195 = .ok (.bipush (-6), 2) := by decide +kernel
theorem dX11_down_197 : decode cX11_down 197 = .ok (.goto 7, 3) := by decide +kernel
theorem dX11_down_200 : decode cX11_down 200 = .ok (.iload 8, 2) := by decide +kernel
theorem dX11_down_202 : decode cX11_down 202 = .ok (.iconst 2, 1) := by decide +kernel
theorem dX11_down_203 : decode cX11_down 203 = .ok (.idiv, 1) := by decide +kernel
theorem dX11_down_204 : decode cX11_down 204 = .ok (.ireturn, 1) := by decide +kernel
theorem dX11_down_205 : decode cX11_down 205 = .ok (.iinc 5 1, 3) := by decide +kernel
theorem dX11_down_208 : decode cX11_down 208 = .ok (.goto (-131), 3) := by decide +kernel
theorem dX11_down_211 : decode cX11_down 211 = .ok (.iinc 3 1, 3) := by decide +kernel
theorem dX11_down_214 : decode cX11_down 214 = .ok (.goto (-153), 3) := by decide +kernel
theorem dX11_down_217 : decode cX11_down 217 = .ok (.bipush (-6), 2) := by decide +kernel
theorem dX11_down_219 : decode cX11_down 219 = .ok (.ireturn, 1) := by decide +kernel
set_option maxRecDepth 20000 in
theorem ggX11_pebbles_X11_is8 : GoodIn wsX11_pebbles wsX11_is8 := goodIn_r _ [6, 7, 8, 5, 9] (by decide +kernel) (by decide +kernel)
set_option maxRecDepth 20000 in
theorem gX11_pebbles_X11_is8 : GoodIn wsX11_pebbles (va_wsS RX11 46 yX11_is8 wsX11_is8) := goodIn_app (goodIn_of _ (by decide +kernel)) ggX11_pebbles_X11_is8
set_option maxRecDepth 20000 in
theorem ggX11_pebbles_X11_asNow : GoodIn wsX11_pebbles wsX11_asNow := goodIn_r _ [13, 14, 2, 15, 16, 17, 18, 1, 19, 37, 38, 39, 40, 41, 42, 43, 44, 45, 46, 47, 48, 49, 50, 51, 52, 53] (by decide +kernel) (by decide +kernel)
set_option maxRecDepth 20000 in
theorem gX11_pebbles_X11_asNow : GoodIn wsX11_pebbles (wsV RX11 76 RX11 yX11_asNow wsX11_asNow) := goodIn_app (goodIn_of _ (by decide +kernel)) ggX11_pebbles_X11_asNow
set_option maxRecDepth 20000 in
theorem ggX11_pebbles_X11_carOf : GoodIn wsX11_pebbles wsX11_carOf := goodIn_r _ [23, 17, 37, 38, 39, 40, 41, 42, 43, 44, 45, 46, 47, 48, 49, 50, 51, 52, 53] (by decide +kernel) (by decide +kernel)
set_option maxRecDepth 20000 in
theorem gX11_pebbles_X11_carOf : GoodIn wsX11_pebbles (wsV RX11 85 RX11 yX11_carOf wsX11_carOf) := goodIn_app (goodIn_of _ (by decide +kernel)) ggX11_pebbles_X11_carOf
set_option maxRecDepth 20000 in
theorem ggX11_pebbles_X11_letGo : GoodIn wsX11_pebbles wsX11_letGo := goodIn_r _ [27, 2, 28, 15, 16, 29, 30, 31, 5, 32, 1, 17, 33, 34, 35, 36, 37, 38, 39, 40, 41, 42, 43, 44, 45, 46, 47, 48, 49, 50, 51, 52, 53] (by decide +kernel) (by decide +kernel)
set_option maxRecDepth 20000 in
theorem gX11_pebbles_X11_letGo : GoodIn wsX11_pebbles (wsV RX11 88 RX11 yX11_letGo wsX11_letGo) := goodIn_app (goodIn_of _ (by decide +kernel)) ggX11_pebbles_X11_letGo
theorem dX11_pebbles_0 : decode cX11_pebbles 0 = .ok (.iload_n 1, 1) := by decide +kernel
theorem dX11_pebbles_1 : decode cX11_pebbles 1 = .ok (.invokestatic 46, 3) := by decide +kernel
theorem dX11_pebbles_4 : decode cX11_pebbles 4 = .ok (.ifCond .ne 5, 3) := by decide +kernel
theorem dX11_pebbles_7 : decode cX11_pebbles 7 = .ok (.iconst (-1), 1) := by decide +kernel
theorem dX11_pebbles_8 : decode cX11_pebbles 8 = .ok (.ireturn, 1) := by decide +kernel
theorem dX11_pebbles_9 : decode cX11_pebbles 9 = .ok (.aload_n 0, 1) := by decide +kernel
theorem dX11_pebbles_10 : decode cX11_pebbles 10 = .ok (.invokevirtual 76, 3) := by decide +kernel
theorem dX11_pebbles_13 : decode cX11_pebbles 13 = .ok (.aload_n 0, 1) := by decide +kernel
theorem dX11_pebbles_14 : decode cX11_pebbles 14 = .ok (.iload_n 1, 1) := by decide +kernel
theorem dX11_pebbles_15 : decode cX11_pebbles 15 = .ok (.invokevirtual 85, 3) := by decide +kernel
theorem dX11_pebbles_18 : decode cX11_pebbles 18 = .ok (.ifCond .ge 6, 3) := by decide +kernel
theorem dX11_pebbles_21 : decode cX11_pebbles 21 = .ok (.bipush (-3), 2) := by decide +kernel
theorem dX11_pebbles_23 : decode cX11_pebbles 23 = .ok (.ireturn, 1) := by decide +kernel
theorem dX11_pebbles_24 : decode cX11_pebbles 24 = .ok (.iconst 0, 1) := by decide +kernel
theorem dX11_pebbles_25 : decode cX11_pebbles 25 = .ok (.istore_n 2, 1) := by decide +kernel
theorem dX11_pebbles_26 : decode cX11_pebbles 26 = .ok (.iload_n 2, 1) := by decide +kernel
theorem dX11_pebbles_27 : decode cX11_pebbles 27 = .ok (.bipush 100, 2) := by decide +kernel
theorem dX11_pebbles_29 : decode cX11_pebbles 29 = .ok (.if_icmp .ge 41, 3) := by decide +kernel
theorem dX11_pebbles_32 : decode cX11_pebbles 32 = .ok (.aload_n 0, 1) := by decide +kernel
theorem dX11_pebbles_33 : decode cX11_pebbles 33 = .ok (.invokevirtual 76, 3) := by decide +kernel
theorem dX11_pebbles_36 : decode cX11_pebbles 36 = .ok (.aload_n 0, 1) := by decide +kernel
theorem dX11_pebbles_37 : decode cX11_pebbles 37 = .ok (.getfield 32, 3) := by decide +kernel
theorem dX11_pebbles_40 : decode cX11_pebbles 40 = .ok (.aload_n 0, 1) := by decide +kernel
theorem dX11_pebbles_41 : decode cX11_pebbles 41 = .ok (.getfield 60, 3) := by decide +kernel
theorem dX11_pebbles_44 : decode cX11_pebbles 44 = .ok (.iload_n 2, 1) := by decide +kernel
theorem dX11_pebbles_45 : decode cX11_pebbles 45 = .ok (.iastore, 1) := by decide +kernel
theorem dX11_pebbles_46 : decode cX11_pebbles 46 = .ok (.aload_n 0, 1) := by decide +kernel
theorem dX11_pebbles_47 : decode cX11_pebbles 47 = .ok (.invokevirtual 88, 3) := by decide +kernel
theorem dX11_pebbles_50 : decode cX11_pebbles 50 = .ok (.aload_n 0, 1) := by decide +kernel
theorem dX11_pebbles_51 : decode cX11_pebbles 51 = .ok (.iload_n 1, 1) := by decide +kernel
theorem dX11_pebbles_52 : decode cX11_pebbles 52 = .ok (.invokevirtual 85, 3) := by decide +kernel
theorem dX11_pebbles_55 : decode cX11_pebbles 55 = .ok (.aload_n 0, 1) := by decide +kernel
theorem dX11_pebbles_56 : decode cX11_pebbles 56 = .ok (.getfield 60, 3) := by decide +kernel
theorem dX11_pebbles_59 : decode cX11_pebbles 59 = .ok (.if_icmp .ne 5, 3) := by decide +kernel
theorem dX11_pebbles_62 : decode cX11_pebbles 62 = .ok (.iload_n 2, 1) := by decide +kernel
theorem dX11_pebbles_63 : decode cX11_pebbles 63 = .ok (.ireturn, 1) := by decide +kernel
theorem dX11_pebbles_64 : decode cX11_pebbles 64 = .ok (.iinc 2 1, 3) := by decide +kernel
theorem dX11_pebbles_67 : decode cX11_pebbles 67 = .ok (.goto (-41), 3) := by decide +kernel
theorem dX11_pebbles_70 : decode cX11_pebbles 70 = .ok (.bipush (-6), 2) := by decide +kernel
theorem dX11_pebbles_72 : decode cX11_pebbles 72 = .ok (.ireturn, 1) := by decide +kernel
set_option maxRecDepth 20000 in
theorem ggX11_greatestPull_X11_pullAt : GoodIn wsX11_greatestPull wsX11_pullAt := goodIn_r _ [5, 6, 7, 8, 9, 10, 4, 11, 12, 13, 14, 15, 16, 17, 18, 19, 20, 21, 22, 23, 24, 25, 26, 27, 28] (by decide +kernel) (by decide +kernel)
set_option maxRecDepth 20000 in
theorem gX11_greatestPull_X11_pullAt : GoodIn wsX11_greatestPull (wsV RX11 73 RX11 yX11_pullAt wsX11_pullAt) := goodIn_app (goodIn_of _ (by decide +kernel)) ggX11_greatestPull_X11_pullAt
theorem dX11_greatestPull_0 : decode cX11_greatestPull 0 = .ok (.iconst 0, 1) := by decide +kernel
theorem dX11_greatestPull_1 : decode cX11_greatestPull 1 = .ok (.istore_n 1, 1) := by decide +kernel
theorem dX11_greatestPull_2 : decode cX11_greatestPull 2 = .ok (.iconst 0, 1) := by decide +kernel
theorem dX11_greatestPull_3 : decode cX11_greatestPull 3 = .ok (.istore_n 2, 1) := by decide +kernel
theorem dX11_greatestPull_4 : decode cX11_greatestPull 4 = .ok (.iload_n 2, 1) := by decide +kernel
theorem dX11_greatestPull_5 : decode cX11_greatestPull 5 = .ok (.bipush 8, 2) := by decide +kernel
theorem dX11_greatestPull_7 : decode cX11_greatestPull 7 = .ok (.if_icmp .ge 37, 3) := by decide +kernel
theorem dX11_greatestPull_10 : decode cX11_greatestPull 10 = .ok (.aload_n 0, 1) := by decide +kernel
theorem dX11_greatestPull_11 : decode cX11_greatestPull 11 = .ok (.iload_n 2, 1) := by decide +kernel
theorem dX11_greatestPull_12 : decode cX11_greatestPull 12 = .ok (.invokevirtual 73, 3) := by decide +kernel
theorem dX11_greatestPull_15 : decode cX11_greatestPull 15 = .ok (.istore_n 3, 1) := by decide +kernel
theorem dX11_greatestPull_16 : decode cX11_greatestPull 16 = .ok (.iload_n 3, 1) := by decide +kernel
theorem dX11_greatestPull_17 : decode cX11_greatestPull 17 = .ok (.ifCond .ge 8, 3) := by decide +kernel
theorem dX11_greatestPull_20 : decode cX11_greatestPull 20 = .ok (.iload_n 3, 1) := by decide +kernel
theorem dX11_greatestPull_21 : decode cX11_greatestPull 21 = .ok (.ineg, 1) := by decide +kernel
theorem dX11_greatestPull_22 : decode cX11_greatestPull 22 = .ok (.goto 4, 3) := by decide +kernel
theorem dX11_greatestPull_25 : decode cX11_greatestPull 25 = .ok (.iload_n 3, 1) := by decide +kernel
theorem dX11_greatestPull_26 : decode cX11_greatestPull 26 = .ok (.istore_n 3, 1) := by decide +kernel
theorem dX11_greatestPull_27 : decode cX11_greatestPull 27 = .ok (.iload_n 3, 1) := by decide +kernel
theorem dX11_greatestPull_28 : decode cX11_greatestPull 28 = .ok (.iload_n 1, 1) := by decide +kernel
theorem dX11_greatestPull_29 : decode cX11_greatestPull 29 = .ok (.if_icmp .le 7, 3) := by decide +kernel
theorem dX11_greatestPull_32 : decode cX11_greatestPull 32 = .ok (.iload_n 3, 1) := by decide +kernel
theorem dX11_greatestPull_33 : decode cX11_greatestPull 33 = .ok (.goto 4, 3) := by decide +kernel
theorem dX11_greatestPull_36 : decode cX11_greatestPull 36 = .ok (.iload_n 1, 1) := by decide +kernel
theorem dX11_greatestPull_37 : decode cX11_greatestPull 37 = .ok (.istore_n 1, 1) := by decide +kernel
theorem dX11_greatestPull_38 : decode cX11_greatestPull 38 = .ok (.iinc 2 1, 3) := by decide +kernel
theorem dX11_greatestPull_41 : decode cX11_greatestPull 41 = .ok (.goto (-37), 3) := by decide +kernel
theorem dX11_greatestPull_44 : decode cX11_greatestPull 44 = .ok (.iload_n 1, 1) := by decide +kernel
theorem dX11_greatestPull_45 : decode cX11_greatestPull 45 = .ok (.ireturn, 1) := by decide +kernel
set_option maxRecDepth 20000 in
theorem ggX11_brake_X11_asNow : GoodIn wsX11_brake wsX11_asNow := goodIn_r _ [5, 6, 7, 8, 9, 10, 11, 12, 13, 26, 27, 28, 29, 30, 31, 32, 33, 34, 35, 36, 37, 38, 39, 40, 41, 42] (by decide +kernel) (by decide +kernel)
set_option maxRecDepth 20000 in
theorem gX11_brake_X11_asNow : GoodIn wsX11_brake (wsV RX11 76 RX11 yX11_asNow wsX11_asNow) := goodIn_app (goodIn_of _ (by decide +kernel)) ggX11_brake_X11_asNow
set_option maxRecDepth 20000 in
theorem ggX11_brake_X11_greatestPull : GoodIn wsX11_brake wsX11_greatestPull := goodIn_r _ [17, 18, 19, 20, 4, 21, 12, 10, 22, 23, 24, 25, 26, 27, 28, 29, 30, 31, 32, 33, 34, 35, 36, 37, 38, 39, 40, 41, 42] (by decide +kernel) (by decide +kernel)
set_option maxRecDepth 20000 in
theorem gX11_brake_X11_greatestPull : GoodIn wsX11_brake (wsV RX11 105 RX11 yX11_greatestPull wsX11_greatestPull) := goodIn_app (goodIn_of _ (by decide +kernel)) ggX11_brake_X11_greatestPull
theorem dX11_brake_0 : decode cX11_brake 0 = .ok (.aload_n 0, 1) := by decide +kernel
theorem dX11_brake_1 : decode cX11_brake 1 = .ok (.invokevirtual 76, 3) := by decide +kernel
theorem dX11_brake_4 : decode cX11_brake 4 = .ok (.aload_n 0, 1) := by decide +kernel
theorem dX11_brake_5 : decode cX11_brake 5 = .ok (.invokevirtual 105, 3) := by decide +kernel
theorem dX11_brake_8 : decode cX11_brake 8 = .ok (.ireturn, 1) := by decide +kernel
set_option maxRecDepth 20000 in
theorem ggX11_balance_X11_is8 : GoodIn wsX11_balance wsX11_is8 := goodIn_r _ [5, 6, 7, 4, 8] (by decide +kernel) (by decide +kernel)
set_option maxRecDepth 20000 in
theorem gX11_balance_X11_is8 : GoodIn wsX11_balance (va_wsS RX11 46 yX11_is8 wsX11_is8) := goodIn_app (goodIn_of _ (by decide +kernel)) ggX11_balance_X11_is8
set_option maxRecDepth 20000 in
theorem ggX11_balance_X11_in : GoodIn wsX11_balance wsX11_in := goodIn_r _ [8] (by decide +kernel) (by decide +kernel)
set_option maxRecDepth 20000 in
theorem gX11_balance_X11_in : GoodIn wsX11_balance (va_wsS RX11 42 yX11_in wsX11_in) := goodIn_app (goodIn_of _ (by decide +kernel)) ggX11_balance_X11_in
set_option maxRecDepth 20000 in
theorem ggX11_balance_X11_has : GoodIn wsX11_balance wsX11_has := goodIn_r _ [11] (by decide +kernel) (by decide +kernel)
set_option maxRecDepth 20000 in
theorem gX11_balance_X11_has : GoodIn wsX11_balance (va_wsS RX11 108 yX11_has wsX11_has) := goodIn_app (goodIn_of _ (by decide +kernel)) ggX11_balance_X11_has
set_option maxRecDepth 20000 in
theorem ggX11_balance_X11_powerOf : GoodIn wsX11_balance wsX11_powerOf := goodIn_r _ [14] (by decide +kernel) (by decide +kernel)
set_option maxRecDepth 20000 in
theorem gX11_balance_X11_powerOf : GoodIn wsX11_balance (va_wsS RX11 99 yX11_powerOf wsX11_powerOf) := goodIn_app (goodIn_of _ (by decide +kernel)) ggX11_balance_X11_powerOf
set_option maxRecDepth 20000 in
theorem ggX11_balance_X11_isSeated : GoodIn wsX11_balance wsX11_isSeated := goodIn_r _ [18, 19, 20, 12, 13, 4, 14, 9, 10, 11, 33, 34, 35, 36, 37, 38, 39, 40, 41, 42, 43, 44, 45, 46, 47, 48, 49] (by decide +kernel) (by decide +kernel)
set_option maxRecDepth 20000 in
theorem gX11_balance_X11_isSeated : GoodIn wsX11_balance (wsV RX11 112 RX11 yX11_isSeated wsX11_isSeated) := goodIn_app (goodIn_of _ (by decide +kernel)) ggX11_balance_X11_isSeated
set_option maxRecDepth 20000 in
theorem ggX11_balance_X11_greatestPull : GoodIn wsX11_balance wsX11_greatestPull := goodIn_r _ [24, 25, 26, 27, 4, 28, 20, 19, 29, 30, 31, 32, 33, 34, 35, 36, 37, 38, 39, 40, 41, 42, 43, 44, 45, 46, 47, 48, 49] (by decide +kernel) (by decide +kernel)
set_option maxRecDepth 20000 in
theorem gX11_balance_X11_greatestPull : GoodIn wsX11_balance (wsV RX11 105 RX11 yX11_greatestPull wsX11_greatestPull) := goodIn_app (goodIn_of _ (by decide +kernel)) ggX11_balance_X11_greatestPull
theorem dX11_balance_0 : decode cX11_balance 0 = .ok (.iload_n 2, 1) := by decide +kernel
theorem dX11_balance_1 : decode cX11_balance 1 = .ok (.iconst (-1), 1) := by decide +kernel
theorem dX11_balance_2 : decode cX11_balance 2 = .ok (.if_icmp .eq 31, 3) := by decide +kernel
theorem dX11_balance_5 : decode cX11_balance 5 = .ok (.iload_n 2, 1) := by decide +kernel
theorem dX11_balance_6 : decode cX11_balance 6 = .ok (.invokestatic 46, 3) := by decide +kernel
theorem dX11_balance_9 : decode cX11_balance 9 = .ok (.ifCond .eq 22, 3) := by decide +kernel
theorem dX11_balance_12 : decode cX11_balance 12 = .ok (.iload_n 1, 1) := by decide +kernel
theorem dX11_balance_13 : decode cX11_balance 13 = .ok (.iconst 0, 1) := by decide +kernel
theorem dX11_balance_14 : decode cX11_balance 14 = .ok (.sipush 255, 3) := by decide +kernel
theorem dX11_balance_17 : decode cX11_balance 17 = .ok (.invokestatic 42, 3) := by decide +kernel
theorem dX11_balance_20 : decode cX11_balance 20 = .ok (.ifCond .eq 13, 3) := by decide +kernel
theorem dX11_balance_23 : decode cX11_balance 23 = .ok (.iload_n 1, 1) := by decide +kernel
theorem dX11_balance_24 : decode cX11_balance 24 = .ok (.iload_n 2, 1) := by decide +kernel
theorem dX11_balance_25 : decode cX11_balance 25 = .ok (.invokestatic 108, 3) := by decide +kernel
theorem dX11_balance_28 : decode cX11_balance 28 = .ok (.ifCond .ne 5, 3) := by decide +kernel
theorem dX11_balance_31 : decode cX11_balance 31 = .ok (.iconst (-1), 1) := by decide +kernel
theorem dX11_balance_32 : decode cX11_balance 32 = .ok (.ireturn, 1) := by decide +kernel
theorem dX11_balance_33 : decode cX11_balance 33 = .ok (.iload_n 1, 1) := by decide +kernel
theorem dX11_balance_34 : decode cX11_balance 34 = .ok (.iconst 0, 1) := by decide +kernel
theorem dX11_balance_35 : decode cX11_balance 35 = .ok (.sipush 255, 3) := by decide +kernel
theorem dX11_balance_38 : decode cX11_balance 38 = .ok (.invokestatic 42, 3) := by decide +kernel
theorem dX11_balance_41 : decode cX11_balance 41 = .ok (.ifCond .ne 6, 3) := by decide +kernel
theorem dX11_balance_44 : decode cX11_balance 44 = .ok (.bipush (-2), 2) := by decide +kernel
theorem dX11_balance_46 : decode cX11_balance 46 = .ok (.ireturn, 1) := by decide +kernel
theorem dX11_balance_47 : decode cX11_balance 47 = .ok (.iconst 0, 1) := by decide +kernel
theorem dX11_balance_48 : decode cX11_balance 48 = .ok (.istore_n 3, 1) := by decide +kernel
theorem dX11_balance_49 : decode cX11_balance 49 = .ok (.iconst 0, 1) := by decide +kernel
theorem dX11_balance_50 : decode cX11_balance 50 = .ok (.istore 4, 2) := by decide +kernel
theorem dX11_balance_52 : decode cX11_balance 52 = .ok (.iconst 0, 1) := by decide +kernel
theorem dX11_balance_53 : decode cX11_balance 53 = .ok (.istore 5, 2) := by decide +kernel
theorem dX11_balance_55 : decode cX11_balance 55 = .ok (.iload 5, 2) := by decide +kernel
theorem dX11_balance_57 : decode cX11_balance 57 = .ok (.bipush 8, 2) := by decide +kernel
theorem dX11_balance_59 : decode cX11_balance 59 = .ok (.if_icmp .ge 39, 3) := by decide +kernel
theorem dX11_balance_62 : decode cX11_balance 62 = .ok (.iload_n 3, 1) := by decide +kernel
theorem dX11_balance_63 : decode cX11_balance 63 = .ok (.iload_n 1, 1) := by decide +kernel
theorem dX11_balance_64 : decode cX11_balance 64 = .ok (.iload 5, 2) := by decide +kernel
theorem dX11_balance_66 : decode cX11_balance 66 = .ok (.ishr, 1) := by decide +kernel
theorem dX11_balance_67 : decode cX11_balance 67 = .ok (.iconst 1, 1) := by decide +kernel
theorem dX11_balance_68 : decode cX11_balance 68 = .ok (.iand, 1) := by decide +kernel
theorem dX11_balance_69 : decode cX11_balance 69 = .ok (.iadd, 1) := by decide +kernel
theorem dX11_balance_70 : decode cX11_balance 70 = .ok (.istore_n 3, 1) := by decide +kernel
theorem dX11_balance_71 : decode cX11_balance 71 = .ok (.iload 4, 2) := by decide +kernel
theorem dX11_balance_73 : decode cX11_balance 73 = .ok (.iload 5, 2) := by decide +kernel
theorem dX11_balance_75 : decode cX11_balance 75 = .ok (.iload_n 2, 1) := by decide +kernel
theorem dX11_balance_76 : decode cX11_balance 76 = .ok (.if_icmp .ge 12, 3) := by decide +kernel
theorem dX11_balance_79 : decode cX11_balance 79 = .ok (.iload_n 1, 1) := by decide +kernel
theorem dX11_balance_80 : decode cX11_balance 80 = .ok (.iload 5, 2) := by decide +kernel
theorem dX11_balance_82 : decode cX11_balance 82 = .ok (.ishr, 1) := by decide +kernel
theorem dX11_balance_83 : decode cX11_balance 83 = .ok (.iconst 1, 1) := by decide +kernel
theorem dX11_balance_84 : decode cX11_balance 84 = .ok (.iand, 1) := by decide +kernel
theorem dX11_balance_85 : decode cX11_balance 85 = .ok (.goto 4, 3) := by decide +kernel
theorem dX11_balance_88 : decode cX11_balance 88 = .ok (.iconst 0, 1) := by decide +kernel
theorem dX11_balance_89 : decode cX11_balance 89 = .ok (.iadd, 1) := by decide +kernel
theorem dX11_balance_90 : decode cX11_balance 90 = .ok (.istore 4, 2) := by decide +kernel
theorem dX11_balance_92 : decode cX11_balance 92 = .ok (.iinc 5 1, 3) := by decide +kernel
theorem dX11_balance_95 : decode cX11_balance 95 = .ok (.goto (-40), 3) := by decide +kernel
theorem dX11_balance_98 : decode cX11_balance 98 = .ok (.iload_n 3, 1) := by decide +kernel
theorem dX11_balance_99 : decode cX11_balance 99 = .ok (.iconst 5, 1) := by decide +kernel
theorem dX11_balance_100 : decode cX11_balance 100 = .ok (.if_icmp .le 6, 3) := by decide +kernel
theorem dX11_balance_103 : decode cX11_balance 103 = .ok (.bipush (-4), 2) := by decide +kernel
theorem dX11_balance_105 : decode cX11_balance 105 = .ok (.ireturn, 1) := by decide +kernel
theorem dX11_balance_106 : decode cX11_balance 106 = .ok (.bipush 8, 2) := by decide +kernel
theorem dX11_balance_108 : decode cX11_balance 108 = .ok (.iload_n 3, 1) := by decide +kernel
theorem dX11_balance_109 : decode cX11_balance 109 = .ok (.invokestatic 99, 3) := by decide +kernel
theorem dX11_balance_112 : decode cX11_balance 112 = .ok (.istore 5, 2) := by decide +kernel
theorem dX11_balance_114 : decode cX11_balance 114 = .ok (.iconst 0, 1) := by decide +kernel
theorem dX11_balance_115 : decode cX11_balance 115 = .ok (.istore 6, 2) := by decide +kernel
theorem dX11_balance_117 : decode cX11_balance 117 = .ok (.bipush (-6), 2) := by decide +kernel
theorem dX11_balance_119 : decode cX11_balance 119 = .ok (.istore 7, 2) := by decide +kernel
theorem dX11_balance_121 : decode cX11_balance 121 = .ok (.iconst 0, 1) := by decide +kernel
theorem dX11_balance_122 : decode cX11_balance 122 = .ok (.istore 8, 2) := by decide +kernel
theorem dX11_balance_124 : decode cX11_balance 124 = .ok (.iload 8, 2) := by decide +kernel
theorem dX11_balance_126 : decode cX11_balance 126 = .ok (.iload 5, 2) := by decide +kernel
theorem dX11_balance_128 : decode cX11_balance 128 = .ok (.if_icmp .ge 48, 3) := by decide +kernel
theorem dX11_balance_131 : decode cX11_balance 131 = .ok (.aload_n 0, 1) := by decide +kernel
theorem dX11_balance_132 : decode cX11_balance 132 = .ok (.iload_n 1, 1) := by decide +kernel
theorem dX11_balance_133 : decode cX11_balance 133 = .ok (.iload_n 3, 1) := by decide +kernel
theorem dX11_balance_134 : decode cX11_balance 134 = .ok (.iload 8, 2) := by decide +kernel
theorem dX11_balance_136 : decode cX11_balance 136 = .ok (.invokevirtual 112, 3) := by decide +kernel
theorem dX11_balance_139 : decode cX11_balance 139 = .ok (.ifCond .eq 31, 3) := by decide +kernel
theorem dX11_balance_142 : decode cX11_balance 142 = .ok (.aload_n 0, 1) := by decide +kernel
theorem dX11_balance_143 : decode cX11_balance 143 = .ok (.invokevirtual 105, 3) := by decide +kernel
theorem dX11_balance_146 : decode cX11_balance 146 = .ok (.aload_n 0, 1) := by decide +kernel
theorem dX11_balance_147 : decode cX11_balance 147 = .ok (.getfield 19, 3) := by decide +kernel
theorem dX11_balance_150 : decode cX11_balance 150 = .ok (.if_icmp .gt 20, 3) := by decide +kernel
theorem dX11_balance_153 : decode cX11_balance 153 = .ok (.iload 7, 2) := by decide +kernel
theorem dX11_balance_155 : decode cX11_balance 155 = .ok (.ifCond .ge 8, 3) := by decide +kernel
theorem dX11_balance_158 : decode cX11_balance 158 = .ok (.iload 8, 2) := by decide +kernel
theorem dX11_balance_160 : decode cX11_balance 160 = .ok (.goto 5, 3) := by decide +kernel
theorem dX11_balance_163 : decode cX11_balance 163 = .ok (.iload 7, 2) := by decide +kernel
theorem dX11_balance_165 : decode cX11_balance 165 = .ok (.istore 7, 2) := by decide +kernel
theorem dX11_balance_167 : decode cX11_balance 167 = .ok (.iinc 6 1, 3) := by decide +kernel
theorem dX11_balance_170 : decode cX11_balance 170 = .ok (.iinc 8 1, 3) := by decide +kernel
theorem dX11_balance_173 : decode cX11_balance 173 = .ok (.goto (-49), 3) := by decide +kernel
theorem dX11_balance_176 : decode cX11_balance 176 = .ok (.iload_n 2, 1) := by decide +kernel
theorem dX11_balance_177 : decode cX11_balance 177 = .ok (.ifCond .ge 8, 3) := by decide +kernel
theorem dX11_balance_180 : decode cX11_balance 180 = .ok (.iload 6, 2) := by decide +kernel
theorem dX11_balance_182 : decode cX11_balance 182 = .ok (.goto 30, 3) := by decide +kernel
theorem dX11_balance_185 : decode cX11_balance 185 = .ok (.iload 7, 2) := by decide +kernel
theorem dX11_balance_187 : decode cX11_balance 187 = .ok (.ifCond .ge 8, 3) := by decide +kernel
theorem dX11_balance_190 : decode cX11_balance 190 = .ok (.bipush (-6), 2) := by decide +kernel
theorem dX11_balance_192 : decode cX11_balance 192 = .ok (.goto 20, 3) := by decide +kernel
theorem dX11_balance_195 : decode cX11_balance 195 = .ok (.iload 7, 2) := by decide +kernel
theorem dX11_balance_197 : decode cX11_balance 197 = .ok (.bipush 8, 2) := by decide +kernel
theorem dX11_balance_199 : decode cX11_balance 199 = .ok (.iload_n 3, 1) := by decide +kernel
theorem dX11_balance_200 : decode cX11_balance 200 = .ok (.iconst 1, 1) := by decide +kernel
theorem dX11_balance_201 : decode cX11_balance 201 = .ok (.isub, 1) := by decide +kernel
theorem dX11_balance_202 : decode cX11_balance 202 = .ok (.iload 4, 2) := by decide +kernel
theorem dX11_balance_204 : decode cX11_balance 204 = .ok (.isub, 1) := by decide +kernel
theorem dX11_balance_205 : decode cX11_balance 205 = .ok (.invokestatic 99, 3) := by decide +kernel
theorem dX11_balance_208 : decode cX11_balance 208 = .ok (.idiv, 1) := by decide +kernel
theorem dX11_balance_209 : decode cX11_balance 209 = .ok (.bipush 8, 2) := by decide +kernel
theorem dX11_balance_211 : decode cX11_balance 211 = .ok (.irem, 1) := by decide +kernel
theorem dX11_balance_212 : decode cX11_balance 212 = .ok (.ireturn, 1) := by decide +kernel
set_option maxRecDepth 20000 in
theorem ggX11_isSeated_X11_powerOf : GoodIn wsX11_isSeated wsX11_powerOf := goodIn_r _ [6] (by decide +kernel) (by decide +kernel)
set_option maxRecDepth 20000 in
theorem gX11_isSeated_X11_powerOf : GoodIn wsX11_isSeated (va_wsS RX11 99 yX11_powerOf wsX11_powerOf) := goodIn_app (goodIn_of _ (by decide +kernel)) ggX11_isSeated_X11_powerOf
set_option maxRecDepth 20000 in
theorem ggX11_isSeated_X11_has : GoodIn wsX11_isSeated wsX11_has := goodIn_r _ [9] (by decide +kernel) (by decide +kernel)
set_option maxRecDepth 20000 in
theorem gX11_isSeated_X11_has : GoodIn wsX11_isSeated (va_wsS RX11 108 yX11_has wsX11_has) := goodIn_app (goodIn_of _ (by decide +kernel)) ggX11_isSeated_X11_has
theorem dX11_isSeated_0 : decode cX11_isSeated 0 = .ok (.iconst 0, 1) := by decide +kernel
theorem dX11_isSeated_1 : decode cX11_isSeated 1 = .ok (.istore 4, 2) := by decide +kernel
theorem dX11_isSeated_3 : decode cX11_isSeated 3 = .ok (.iload 4, 2) := by decide +kernel
theorem dX11_isSeated_5 : decode cX11_isSeated 5 = .ok (.bipush 8, 2) := by decide +kernel
theorem dX11_isSeated_7 : decode cX11_isSeated 7 = .ok (.if_icmp .ge 26, 3) := by decide +kernel
theorem dX11_isSeated_10 : decode cX11_isSeated 10 = .ok (.aload_n 0, 1) := by decide +kernel
theorem dX11_isSeated_11 : decode cX11_isSeated 11 = .ok (.getfield 29, 3) := by decide +kernel
theorem dX11_isSeated_14 : decode cX11_isSeated 14 = .ok (.iload 4, 2) := by decide +kernel
theorem dX11_isSeated_16 : decode cX11_isSeated 16 = .ok (.bipush (-6), 2) := by decide +kernel
theorem dX11_isSeated_18 : decode cX11_isSeated 18 = .ok (.iastore, 1) := by decide +kernel
theorem dX11_isSeated_19 : decode cX11_isSeated 19 = .ok (.aload_n 0, 1) := by decide +kernel
theorem dX11_isSeated_20 : decode cX11_isSeated 20 = .ok (.getfield 32, 3) := by decide +kernel
theorem dX11_isSeated_23 : decode cX11_isSeated 23 = .ok (.iload 4, 2) := by decide +kernel
theorem dX11_isSeated_25 : decode cX11_isSeated 25 = .ok (.iconst 0, 1) := by decide +kernel
theorem dX11_isSeated_26 : decode cX11_isSeated 26 = .ok (.iastore, 1) := by decide +kernel
theorem dX11_isSeated_27 : decode cX11_isSeated 27 = .ok (.iinc 4 1, 3) := by decide +kernel
theorem dX11_isSeated_30 : decode cX11_isSeated 30 = .ok (.goto (-27), 3) := by decide +kernel
theorem dX11_isSeated_33 : decode cX11_isSeated 33 = .ok (.bipush 8, 2) := by decide +kernel
theorem dX11_isSeated_35 : decode cX11_isSeated 35 = .ok (.iload_n 2, 1) := by decide +kernel
theorem dX11_isSeated_36 : decode cX11_isSeated 36 = .ok (.invokestatic 99, 3) := by decide +kernel
theorem dX11_isSeated_39 : decode cX11_isSeated 39 = .ok (.istore 4, 2) := by decide +kernel
theorem dX11_isSeated_41 : decode cX11_isSeated 41 = .ok (.iconst 1, 1) := by decide +kernel
theorem dX11_isSeated_42 : decode cX11_isSeated 42 = .ok (.istore 5, 2) := by decide +kernel
theorem dX11_isSeated_44 : decode cX11_isSeated 44 = .ok (.iconst 0, 1) := by decide +kernel
theorem dX11_isSeated_45 : decode cX11_isSeated 45 = .ok (.istore 6, 2) := by decide +kernel
theorem dX11_isSeated_47 : decode cX11_isSeated 47 = .ok (.iload 6, 2) := by decide +kernel
theorem dX11_isSeated_49 : decode cX11_isSeated 49 = .ok (.bipush 8, 2) := by decide +kernel
theorem dX11_isSeated_51 : decode cX11_isSeated 51 = .ok (.if_icmp .ge 65, 3) := by decide +kernel
theorem dX11_isSeated_54 : decode cX11_isSeated 54 = .ok (.iload 5, 2) := by decide +kernel
theorem dX11_isSeated_56 : decode cX11_isSeated 56 = .ok (.ifCond .eq 60, 3) := by decide +kernel
theorem dX11_isSeated_59 : decode cX11_isSeated 59 = .ok (.iload_n 1, 1) := by decide +kernel
theorem dX11_isSeated_60 : decode cX11_isSeated 60 = .ok (.iload 6, 2) := by decide +kernel
theorem dX11_isSeated_62 : decode cX11_isSeated 62 = .ok (.invokestatic 108, 3) := by decide +kernel
theorem dX11_isSeated_65 : decode cX11_isSeated 65 = .ok (.ifCond .eq 45, 3) := by decide +kernel
theorem dX11_isSeated_68 : decode cX11_isSeated 68 = .ok (.iload 4, 2) := by decide +kernel
theorem dX11_isSeated_70 : decode cX11_isSeated 70 = .ok (.bipush 8, 2) := by decide +kernel
theorem dX11_isSeated_72 : decode cX11_isSeated 72 = .ok (.idiv, 1) := by decide +kernel
theorem dX11_isSeated_73 : decode cX11_isSeated 73 = .ok (.istore 4, 2) := by decide +kernel
theorem dX11_isSeated_75 : decode cX11_isSeated 75 = .ok (.iload_n 3, 1) := by decide +kernel
theorem dX11_isSeated_76 : decode cX11_isSeated 76 = .ok (.iload 4, 2) := by decide +kernel
theorem dX11_isSeated_78 : decode cX11_isSeated 78 = .ok (.idiv, 1) := by decide +kernel
theorem dX11_isSeated_79 : decode cX11_isSeated 79 = .ok (.bipush 8, 2) := by decide +kernel
theorem dX11_isSeated_81 : decode cX11_isSeated 81 = .ok (.irem, 1) := by decide +kernel
theorem dX11_isSeated_82 : decode cX11_isSeated 82 = .ok (.istore 7, 2) := by decide +kernel
theorem dX11_isSeated_84 : decode cX11_isSeated 84 = .ok (.aload_n 0, 1) := by decide +kernel
theorem dX11_isSeated_85 : decode cX11_isSeated 85 = .ok (.getfield 29, 3) := by decide +kernel
theorem dX11_isSeated_88 : decode cX11_isSeated 88 = .ok (.iload 7, 2) := by decide +kernel
theorem dX11_isSeated_90 : decode cX11_isSeated 90 = .ok (.iaload, 1) := by decide +kernel
theorem dX11_isSeated_91 : decode cX11_isSeated 91 = .ok (.ifCond .ge 7, 3) := by decide +kernel
theorem dX11_isSeated_94 : decode cX11_isSeated 94 = .ok (.iconst 1, 1) := by decide +kernel
theorem dX11_isSeated_95 : decode cX11_isSeated 95 = .ok (.goto 4, 3) := by decide +kernel
theorem dX11_isSeated_98 : decode cX11_isSeated 98 = .ok (.iconst 0, 1) := by decide +kernel
theorem dX11_isSeated_99 : decode cX11_isSeated 99 = .ok (.istore 5, 2) := by decide +kernel
theorem dX11_isSeated_101 : decode cX11_isSeated 101 = .ok (.aload_n 0, 1) := by decide +kernel
theorem dX11_isSeated_102 : decode cX11_isSeated 102 = .ok (.getfield 29, 3) := by decide +kernel
theorem dX11_isSeated_105 : decode cX11_isSeated 105 = .ok (.iload 7, 2) := by decide +kernel
theorem dX11_isSeated_107 : decode cX11_isSeated 107 = .ok (.iload 6, 2) := by decide +kernel
theorem dX11_isSeated_109 : decode cX11_isSeated 109 = .ok (.iastore, 1) := by decide +kernel
theorem dX11_isSeated_110 : decode cX11_isSeated 110 = .ok (.iinc 6 1, 3) := by decide +kernel
theorem dX11_isSeated_113 : decode cX11_isSeated 113 = .ok (.goto (-66), 3) := by decide +kernel
theorem dX11_isSeated_116 : decode cX11_isSeated 116 = .ok (.iload 5, 2) := by decide +kernel
theorem dX11_isSeated_118 : decode cX11_isSeated 118 = .ok (.ireturn, 1) := by decide +kernel
set_option maxRecDepth 20000 in
theorem ggX11_could_X11_is8 : GoodIn wsX11_could wsX11_is8 := goodIn_r _ [6, 7, 8, 5, 9] (by decide +kernel) (by decide +kernel)
set_option maxRecDepth 20000 in
theorem gX11_could_X11_is8 : GoodIn wsX11_could (va_wsS RX11 46 yX11_is8 wsX11_is8) := goodIn_app (goodIn_of _ (by decide +kernel)) ggX11_could_X11_is8
set_option maxRecDepth 20000 in
theorem ggX11_could_X11_in : GoodIn wsX11_could wsX11_in := goodIn_r _ [9] (by decide +kernel) (by decide +kernel)
set_option maxRecDepth 20000 in
theorem gX11_could_X11_in : GoodIn wsX11_could (va_wsS RX11 42 yX11_in wsX11_in) := goodIn_app (goodIn_of _ (by decide +kernel)) ggX11_could_X11_in
set_option maxRecDepth 20000 in
theorem ggX11_could_X11_faultOf : GoodIn wsX11_could wsX11_faultOf := goodIn_r _ [13, 14, 15, 7, 8, 5, 9, 52, 53, 54, 55, 56, 57, 58, 59, 60, 61, 62, 63, 64, 65, 66, 67, 68] (by decide +kernel) (by decide +kernel)
set_option maxRecDepth 20000 in
theorem gX11_could_X11_faultOf : GoodIn wsX11_could (wsV RX11 53 RX11 yX11_faultOf wsX11_faultOf) := goodIn_app (goodIn_of _ (by decide +kernel)) ggX11_could_X11_faultOf
set_option maxRecDepth 20000 in
theorem ggX11_could_X11_opens : GoodIn wsX11_could wsX11_opens := goodIn_r _ [19, 14, 15, 52, 53, 54, 55, 56, 57, 58, 59, 60, 61, 62, 63, 64, 65, 66, 67, 68] (by decide +kernel) (by decide +kernel)
set_option maxRecDepth 20000 in
theorem gX11_could_X11_opens : GoodIn wsX11_could (wsV RX11 82 RX11 yX11_opens wsX11_opens) := goodIn_app (goodIn_of _ (by decide +kernel)) ggX11_could_X11_opens
set_option maxRecDepth 20000 in
theorem ggX11_could_X11_goText : GoodIn wsX11_could wsX11_goText := goodIn_r _ [23, 24, 14, 15, 25, 2, 26, 27, 28, 29, 5, 30, 31, 32, 33, 34, 35, 16, 17, 18, 19, 7, 8, 9, 36, 37, 38, 39, 40, 41, 42, 43, 44, 45, 46, 47, 48, 1, 49, 50, 51, 52, 53, 54, 55, 56, 57, 58, 59, 60, 61, 62, 63, 64, 65, 66, 67, 68] (by decide +kernel) (by decide +kernel)
set_option maxRecDepth 20000 in
theorem gX11_could_X11_goText : GoodIn wsX11_could (wsV RX11 91 RX11 yX11_goText wsX11_goText) := goodIn_app (goodIn_of _ (by decide +kernel)) ggX11_could_X11_goText
theorem dX11_could_0 : decode cX11_could 0 = .ok (.iload_n 1, 1) := by decide +kernel
theorem dX11_could_1 : decode cX11_could 1 = .ok (.invokestatic 46, 3) := by decide +kernel
theorem dX11_could_4 : decode cX11_could 4 = .ok (.ifCond .eq 10, 3) := by decide +kernel
theorem dX11_could_7 : decode cX11_could 7 = .ok (.iload_n 2, 1) := by decide +kernel
theorem dX11_could_8 : decode cX11_could 8 = .ok (.invokestatic 46, 3) := by decide +kernel
theorem dX11_could_11 : decode cX11_could 11 = .ok (.ifCond .ne 5, 3) := by decide +kernel
theorem dX11_could_14 : decode cX11_could 14 = .ok (.iconst (-1), 1) := by decide +kernel
theorem dX11_could_15 : decode cX11_could 15 = .ok (.ireturn, 1) := by decide +kernel
theorem dX11_could_16 : decode cX11_could 16 = .ok (.iload_n 3, 1) := by decide +kernel
theorem dX11_could_17 : decode cX11_could 17 = .ok (.iconst 0, 1) := by decide +kernel
theorem dX11_could_18 : decode cX11_could 18 = .ok (.iconst 2, 1) := by decide +kernel
theorem dX11_could_19 : decode cX11_could 19 = .ok (.invokestatic 42, 3) := by decide +kernel
theorem dX11_could_22 : decode cX11_could 22 = .ok (.ifCond .ne 6, 3) := by decide +kernel
theorem dX11_could_25 : decode cX11_could 25 = .ok (.bipush (-2), 2) := by decide +kernel
theorem dX11_could_27 : decode cX11_could 27 = .ok (.ireturn, 1) := by decide +kernel
theorem dX11_could_28 : decode cX11_could 28 = .ok (.aload_n 0, 1) := by decide +kernel
theorem dX11_could_29 : decode cX11_could 29 = .ok (.invokevirtual 53, 3) := by decide +kernel
theorem dX11_could_32 : decode cX11_could 32 = .ok (.ifCond .lt 6, 3) := by decide +kernel
theorem dX11_could_35 : decode cX11_could 35 = .ok (.bipush (-5), 2) := by decide +kernel
theorem dX11_could_37 : decode cX11_could 37 = .ok (.ireturn, 1) := by decide +kernel
theorem dX11_could_38 : decode cX11_could 38 = .ok (.aload_n 0, 1) := by decide +kernel
theorem dX11_could_39 : decode cX11_could 39 = .ok (.invokevirtual 82, 3) := by decide +kernel
theorem dX11_could_42 : decode cX11_could 42 = .ok (.ifCond .le 6, 3) := by decide +kernel
theorem dX11_could_45 : decode cX11_could 45 = .ok (.bipush (-3), 2) := by decide +kernel
theorem dX11_could_47 : decode cX11_could 47 = .ok (.ireturn, 1) := by decide +kernel
theorem dX11_could_48 : decode cX11_could 48 = .ok (.aload_n 0, 1) := by decide +kernel
theorem dX11_could_49 : decode cX11_could 49 = .ok (.getfield 7, 3) := by decide +kernel
theorem dX11_could_52 : decode cX11_could 52 = .ok (.iload_n 1, 1) := by decide +kernel
theorem dX11_could_53 : decode cX11_could 53 = .ok (.iaload, 1) := by decide +kernel
theorem dX11_could_54 : decode cX11_could 54 = .ok (.istore 4, 2) := by decide +kernel
theorem dX11_could_56 : decode cX11_could 56 = .ok (.iconst 0, 1) := by decide +kernel
theorem dX11_could_57 : decode cX11_could 57 = .ok (.istore 5, 2) := by decide +kernel
theorem dX11_could_59 : decode cX11_could 59 = .ok (.bipush (-6), 2) := by decide +kernel
theorem dX11_could_61 : decode cX11_could 61 = .ok (.istore 6, 2) := by decide +kernel
theorem dX11_could_63 : decode cX11_could 63 = .ok (.bipush (-6), 2) := by decide +kernel
theorem dX11_could_65 : decode cX11_could 65 = .ok (.istore 7, 2) := by decide +kernel
theorem dX11_could_67 : decode cX11_could 67 = .ok (.iconst 1, 1) := by decide +kernel
theorem dX11_could_68 : decode cX11_could 68 = .ok (.istore 8, 2) := by decide +kernel
theorem dX11_could_70 : decode cX11_could 70 = .ok (.iload 8, 2) := by decide +kernel
theorem dX11_could_72 : decode cX11_could 72 = .ok (.bipush 100, 2) := by decide +kernel
theorem dX11_could_74 : decode cX11_could 74 = .ok (.if_icmp .ge 56, 3) := by decide +kernel
theorem dX11_could_77 : decode cX11_could 77 = .ok (.aload_n 0, 1) := by decide +kernel
theorem dX11_could_78 : decode cX11_could 78 = .ok (.getfield 7, 3) := by decide +kernel
theorem dX11_could_81 : decode cX11_could 81 = .ok (.iload_n 1, 1) := by decide +kernel
theorem dX11_could_82 : decode cX11_could 82 = .ok (.iload 8, 2) := by decide +kernel
theorem dX11_could_84 : decode cX11_could 84 = .ok (.iastore, 1) := by decide +kernel
theorem dX11_could_85 : decode cX11_could 85 = .ok (.aload_n 0, 1) := by decide +kernel
theorem dX11_could_86 : decode cX11_could 86 = .ok (.iconst 0, 1) := by decide +kernel
theorem dX11_could_87 : decode cX11_could 87 = .ok (.bipush (-6), 2) := by decide +kernel
theorem dX11_could_89 : decode cX11_could 89 = .ok (.invokevirtual 91, 3) := by decide +kernel
theorem dX11_could_92 : decode cX11_could 92 = .ok (.ifCond .ge 32, 3) := by decide +kernel
theorem dX11_could_95 : decode cX11_could 95 = .ok (.aload_n 0, 1) := by decide +kernel
theorem dX11_could_96 : decode cX11_could 96 = .ok (.getfield 60, 3) := by decide +kernel
theorem dX11_could_99 : decode cX11_could 99 = .ok (.iload_n 2, 1) := by decide +kernel
theorem dX11_could_100 : decode cX11_could 100 = .ok (.if_icmp .ne 24, 3) := by decide +kernel
theorem dX11_could_103 : decode cX11_could 103 = .ok (.iload 5, 2) := by decide +kernel
theorem dX11_could_105 : decode cX11_could 105 = .ok (.ifCond .ne 8, 3) := by decide +kernel
theorem dX11_could_108 : decode cX11_could 108 = .ok (.iload 8, 2) := by decide +kernel
theorem dX11_could_110 : decode cX11_could 110 = .ok (.goto 5, 3) := by decide +kernel
theorem dX11_could_113 : decode cX11_could 113 = .ok (.iload 6, 2) := by decide +kernel
theorem dX11_could_115 : decode cX11_could 115 = .ok (.istore 6, 2) := by decide +kernel
theorem dX11_could_117 : decode cX11_could 117 = .ok (.iload 8, 2) := by decide +kernel
theorem dX11_could_119 : decode cX11_could 119 = .ok (.istore 7, 2) := by decide +kernel
theorem dX11_could_121 : decode cX11_could 121 = .ok (.iinc 5 1, 3) := by decide +kernel
theorem dX11_could_124 : decode cX11_could 124 = .ok (.iinc 8 1, 3) := by decide +kernel
theorem dX11_could_127 : decode cX11_could 127 = .ok (.goto (-57), 3) := by decide +kernel
theorem dX11_could_130 : decode cX11_could 130 = .ok (.aload_n 0, 1) := by decide +kernel
theorem dX11_could_131 : decode cX11_could 131 = .ok (.getfield 7, 3) := by decide +kernel
theorem dX11_could_134 : decode cX11_could 134 = .ok (.iload_n 1, 1) := by decide +kernel
theorem dX11_could_135 : decode cX11_could 135 = .ok (.iload 4, 2) := by decide +kernel
theorem dX11_could_137 : decode cX11_could 137 = .ok (.iastore, 1) := by decide +kernel
theorem dX11_could_138 : decode cX11_could 138 = .ok (.iload_n 3, 1) := by decide +kernel
theorem dX11_could_139 : decode cX11_could 139 = .ok (.ifCond .ne 8, 3) := by decide +kernel
theorem dX11_could_142 : decode cX11_could 142 = .ok (.iload 5, 2) := by decide +kernel
theorem dX11_could_144 : decode cX11_could 144 = .ok (.goto 15, 3) := by decide +kernel
theorem dX11_could_147 : decode cX11_could 147 = .ok (.iload_n 3, 1) := by decide +kernel
theorem dX11_could_148 : decode cX11_could 148 = .ok (.iconst 1, 1) := by decide +kernel
theorem dX11_could_149 : decode cX11_could 149 = .ok (.if_icmp .ne 8, 3) := by decide +kernel
theorem dX11_could_152 : decode cX11_could 152 = .ok (.iload 6, 2) := by decide +kernel
theorem dX11_could_154 : decode cX11_could 154 = .ok (.goto 5, 3) := by decide +kernel
theorem dX11_could_157 : decode cX11_could 157 = .ok (.iload 7, 2) := by decide +kernel
theorem dX11_could_159 : decode cX11_could 159 = .ok (.ireturn, 1) := by decide +kernel
set_option maxRecDepth 20000 in
theorem ggX11_seen_X11_is8 : GoodIn wsX11_seen wsX11_is8 := goodIn_r _ [6, 7, 8, 5, 9] (by decide +kernel) (by decide +kernel)
set_option maxRecDepth 20000 in
theorem gX11_seen_X11_is8 : GoodIn wsX11_seen (va_wsS RX11 46 yX11_is8 wsX11_is8) := goodIn_app (goodIn_of _ (by decide +kernel)) ggX11_seen_X11_is8
theorem dX11_seen_0 : decode cX11_seen 0 = .ok (.iload_n 1, 1) := by decide +kernel
theorem dX11_seen_1 : decode cX11_seen 1 = .ok (.invokestatic 46, 3) := by decide +kernel
theorem dX11_seen_4 : decode cX11_seen 4 = .ok (.ifCond .eq 10, 3) := by decide +kernel
theorem dX11_seen_7 : decode cX11_seen 7 = .ok (.iload_n 2, 1) := by decide +kernel
theorem dX11_seen_8 : decode cX11_seen 8 = .ok (.invokestatic 46, 3) := by decide +kernel
theorem dX11_seen_11 : decode cX11_seen 11 = .ok (.ifCond .ne 5, 3) := by decide +kernel
theorem dX11_seen_14 : decode cX11_seen 14 = .ok (.iconst (-1), 1) := by decide +kernel
theorem dX11_seen_15 : decode cX11_seen 15 = .ok (.ireturn, 1) := by decide +kernel
theorem dX11_seen_16 : decode cX11_seen 16 = .ok (.aload_n 0, 1) := by decide +kernel
theorem dX11_seen_17 : decode cX11_seen 17 = .ok (.getfield 115, 3) := by decide +kernel
theorem dX11_seen_20 : decode cX11_seen 20 = .ok (.bipush 6, 2) := by decide +kernel
theorem dX11_seen_22 : decode cX11_seen 22 = .ok (.if_icmp .ne 6, 3) := by decide +kernel
theorem dX11_seen_25 : decode cX11_seen 25 = .ok (.bipush (-4), 2) := by decide +kernel
theorem dX11_seen_27 : decode cX11_seen 27 = .ok (.ireturn, 1) := by decide +kernel
theorem dX11_seen_28 : decode cX11_seen 28 = .ok (.aload_n 0, 1) := by decide +kernel
theorem dX11_seen_29 : decode cX11_seen 29 = .ok (.getfield 23, 3) := by decide +kernel
theorem dX11_seen_32 : decode cX11_seen 32 = .ok (.iconst 2, 1) := by decide +kernel
theorem dX11_seen_33 : decode cX11_seen 33 = .ok (.aload_n 0, 1) := by decide +kernel
theorem dX11_seen_34 : decode cX11_seen 34 = .ok (.getfield 115, 3) := by decide +kernel
theorem dX11_seen_37 : decode cX11_seen 37 = .ok (.imul, 1) := by decide +kernel
theorem dX11_seen_38 : decode cX11_seen 38 = .ok (.iload_n 1, 1) := by decide +kernel
theorem dX11_seen_39 : decode cX11_seen 39 = .ok (.iastore, 1) := by decide +kernel
theorem dX11_seen_40 : decode cX11_seen 40 = .ok (.aload_n 0, 1) := by decide +kernel
theorem dX11_seen_41 : decode cX11_seen 41 = .ok (.getfield 23, 3) := by decide +kernel
theorem dX11_seen_44 : decode cX11_seen 44 = .ok (.iconst 2, 1) := by decide +kernel
theorem dX11_seen_45 : decode cX11_seen 45 = .ok (.aload_n 0, 1) := by decide +kernel
theorem dX11_seen_46 : decode cX11_seen 46 = .ok (.getfield 115, 3) := by decide +kernel
theorem dX11_seen_49 : decode cX11_seen 49 = .ok (.imul, 1) := by decide +kernel
theorem dX11_seen_50 : decode cX11_seen 50 = .ok (.iconst 1, 1) := by decide +kernel
theorem dX11_seen_51 : decode cX11_seen 51 = .ok (.iadd, 1) := by decide +kernel
theorem dX11_seen_52 : decode cX11_seen 52 = .ok (.iload_n 2, 1) := by decide +kernel
theorem dX11_seen_53 : decode cX11_seen 53 = .ok (.iastore, 1) := by decide +kernel
theorem dX11_seen_54 : decode cX11_seen 54 = .ok (.aload_n 0, 1) := by decide +kernel
theorem dX11_seen_55 : decode cX11_seen 55 = .ok (.dup, 1) := by decide +kernel
theorem dX11_seen_56 : decode cX11_seen 56 = .ok (.getfield 115, 3) := by decide +kernel
theorem dX11_seen_59 : decode cX11_seen 59 = .ok (.iconst 1, 1) := by decide +kernel
theorem dX11_seen_60 : decode cX11_seen 60 = .ok (.iadd, 1) := by decide +kernel
theorem dX11_seen_61 : decode cX11_seen 61 = .ok (.putfield 115, 3) := by decide +kernel
theorem dX11_seen_64 : decode cX11_seen 64 = .ok (.aload_n 0, 1) := by decide +kernel
theorem dX11_seen_65 : decode cX11_seen 65 = .ok (.getfield 115, 3) := by decide +kernel
theorem dX11_seen_68 : decode cX11_seen 68 = .ok (.ireturn, 1) := by decide +kernel
theorem dX11_forget_0 : decode cX11_forget 0 = .ok (.aload_n 0, 1) := by decide +kernel
theorem dX11_forget_1 : decode cX11_forget 1 = .ok (.getfield 115, 3) := by decide +kernel
theorem dX11_forget_4 : decode cX11_forget 4 = .ok (.istore_n 1, 1) := by decide +kernel
theorem dX11_forget_5 : decode cX11_forget 5 = .ok (.aload_n 0, 1) := by decide +kernel
theorem dX11_forget_6 : decode cX11_forget 6 = .ok (.iconst 0, 1) := by decide +kernel
theorem dX11_forget_7 : decode cX11_forget 7 = .ok (.putfield 115, 3) := by decide +kernel
theorem dX11_forget_10 : decode cX11_forget 10 = .ok (.iload_n 1, 1) := by decide +kernel
theorem dX11_forget_11 : decode cX11_forget 11 = .ok (.ireturn, 1) := by decide +kernel
set_option maxRecDepth 20000 in
theorem ggX11_filled_X11_faultOf : GoodIn wsX11_filled wsX11_faultOf := goodIn_r _ [8, 9, 10, 11, 12, 7, 13, 54, 55, 56, 57, 58, 59, 60, 61, 62, 63, 64, 65, 66, 67, 68, 69, 70] (by decide +kernel) (by decide +kernel)
set_option maxRecDepth 20000 in
theorem gX11_filled_X11_faultOf : GoodIn wsX11_filled (wsV RX11 53 RX11 yX11_faultOf wsX11_faultOf) := goodIn_app (goodIn_of _ (by decide +kernel)) ggX11_filled_X11_faultOf
set_option maxRecDepth 20000 in
theorem ggX11_filled_X11_opens : GoodIn wsX11_filled wsX11_opens := goodIn_r _ [17, 9, 10, 54, 55, 56, 57, 58, 59, 60, 61, 62, 63, 64, 65, 66, 67, 68, 69, 70] (by decide +kernel) (by decide +kernel)
set_option maxRecDepth 20000 in
theorem gX11_filled_X11_opens : GoodIn wsX11_filled (wsV RX11 82 RX11 yX11_opens wsX11_opens) := goodIn_app (goodIn_of _ (by decide +kernel)) ggX11_filled_X11_opens
set_option maxRecDepth 20000 in
theorem ggX11_filled_X11_powerOf : GoodIn wsX11_filled wsX11_powerOf := goodIn_r _ [20] (by decide +kernel) (by decide +kernel)
set_option maxRecDepth 20000 in
theorem gX11_filled_X11_powerOf : GoodIn wsX11_filled (va_wsS RX11 99 yX11_powerOf wsX11_powerOf) := goodIn_app (goodIn_of _ (by decide +kernel)) ggX11_filled_X11_powerOf
set_option maxRecDepth 20000 in
theorem ggX11_filled_X11_goText : GoodIn wsX11_filled wsX11_goText := goodIn_r _ [24, 25, 9, 10, 2, 26, 27, 28, 29, 30, 7, 31, 32, 33, 34, 35, 36, 14, 15, 16, 17, 11, 12, 13, 37, 38, 39, 40, 41, 42, 43, 44, 45, 46, 47, 48, 49, 50, 51, 52, 53, 54, 55, 56, 57, 58, 59, 60, 61, 62, 63, 64, 65, 66, 67, 68, 69, 70] (by decide +kernel) (by decide +kernel)
set_option maxRecDepth 20000 in
theorem gX11_filled_X11_goText : GoodIn wsX11_filled (wsV RX11 91 RX11 yX11_goText wsX11_goText) := goodIn_app (goodIn_of _ (by decide +kernel)) ggX11_filled_X11_goText
set_option maxRecDepth 20000 in
theorem ggX11_filled_X11_in : GoodIn wsX11_filled wsX11_in := goodIn_r _ [13] (by decide +kernel) (by decide +kernel)
set_option maxRecDepth 20000 in
theorem gX11_filled_X11_in : GoodIn wsX11_filled (va_wsS RX11 42 yX11_in wsX11_in) := goodIn_app (goodIn_of _ (by decide +kernel)) ggX11_filled_X11_in
theorem dX11_filled_0 : decode cX11_filled 0 = .ok (.aload_n 0, 1) := by decide +kernel
theorem dX11_filled_1 : decode cX11_filled 1 = .ok (.invokevirtual 53, 3) := by decide +kernel
theorem dX11_filled_4 : decode cX11_filled 4 = .ok (.ifCond .lt 6, 3) := by decide +kernel
theorem dX11_filled_7 : decode cX11_filled 7 = .ok (.bipush (-5), 2) := by decide +kernel
theorem dX11_filled_9 : decode cX11_filled 9 = .ok (.ireturn, 1) := by decide +kernel
theorem dX11_filled_10 : decode cX11_filled 10 = .ok (.bipush 8, 2) := by decide +kernel
theorem dX11_filled_12 : decode cX11_filled 12 = .ok (.aload_n 0, 1) := by decide +kernel
theorem dX11_filled_13 : decode cX11_filled 13 = .ok (.invokevirtual 82, 3) := by decide +kernel
theorem dX11_filled_16 : decode cX11_filled 16 = .ok (.invokestatic 99, 3) := by decide +kernel
theorem dX11_filled_19 : decode cX11_filled 19 = .ok (.istore_n 2, 1) := by decide +kernel
theorem dX11_filled_20 : decode cX11_filled 20 = .ok (.iconst 0, 1) := by decide +kernel
theorem dX11_filled_21 : decode cX11_filled 21 = .ok (.istore_n 3, 1) := by decide +kernel
theorem dX11_filled_22 : decode cX11_filled 22 = .ok (.bipush (-6), 2) := by decide +kernel
theorem dX11_filled_24 : decode cX11_filled 24 = .ok (.istore 4, 2) := by decide +kernel
theorem dX11_filled_26 : decode cX11_filled 26 = .ok (.iconst 0, 1) := by decide +kernel
theorem dX11_filled_27 : decode cX11_filled 27 = .ok (.istore 5, 2) := by decide +kernel
theorem dX11_filled_29 : decode cX11_filled 29 = .ok (.iload 5, 2) := by decide +kernel
theorem dX11_filled_31 : decode cX11_filled 31 = .ok (.iload_n 2, 1) := by decide +kernel
theorem dX11_filled_32 : decode cX11_filled 32 = .ok (.if_icmp .ge 107, 3) := by decide +kernel
theorem dX11_filled_35 : decode cX11_filled 35 = .ok (.aload_n 0, 1) := by decide +kernel
theorem dX11_filled_36 : decode cX11_filled 36 = .ok (.iload 5, 2) := by decide +kernel
theorem dX11_filled_38 : decode cX11_filled 38 = .ok (.bipush (-6), 2) := by decide +kernel
theorem dX11_filled_40 : decode cX11_filled 40 = .ok (.invokevirtual 91, 3) := by decide +kernel
theorem dX11_filled_43 : decode cX11_filled 43 = .ok (.ifCond .ge 7, 3) := by decide +kernel
theorem dX11_filled_46 : decode cX11_filled 46 = .ok (.iconst 1, 1) := by decide +kernel
theorem dX11_filled_47 : decode cX11_filled 47 = .ok (.goto 4, 3) := by decide +kernel
theorem dX11_filled_50 : decode cX11_filled 50 = .ok (.iconst 0, 1) := by decide +kernel
theorem dX11_filled_51 : decode cX11_filled 51 = .ok (.istore 6, 2) := by decide +kernel
theorem dX11_filled_53 : decode cX11_filled 53 = .ok (.iconst 0, 1) := by decide +kernel
theorem dX11_filled_54 : decode cX11_filled 54 = .ok (.istore 7, 2) := by decide +kernel
theorem dX11_filled_56 : decode cX11_filled 56 = .ok (.iload 7, 2) := by decide +kernel
theorem dX11_filled_58 : decode cX11_filled 58 = .ok (.aload_n 0, 1) := by decide +kernel
theorem dX11_filled_59 : decode cX11_filled 59 = .ok (.getfield 115, 3) := by decide +kernel
theorem dX11_filled_62 : decode cX11_filled 62 = .ok (.if_icmp .ge 49, 3) := by decide +kernel
theorem dX11_filled_65 : decode cX11_filled 65 = .ok (.iload 6, 2) := by decide +kernel
theorem dX11_filled_67 : decode cX11_filled 67 = .ok (.ifCond .eq 44, 3) := by decide +kernel
theorem dX11_filled_70 : decode cX11_filled 70 = .ok (.aload_n 0, 1) := by decide +kernel
theorem dX11_filled_71 : decode cX11_filled 71 = .ok (.getfield 29, 3) := by decide +kernel
theorem dX11_filled_74 : decode cX11_filled 74 = .ok (.aload_n 0, 1) := by decide +kernel
theorem dX11_filled_75 : decode cX11_filled 75 = .ok (.getfield 23, 3) := by decide +kernel
theorem dX11_filled_78 : decode cX11_filled 78 = .ok (.iconst 2, 1) := by decide +kernel
theorem dX11_filled_79 : decode cX11_filled 79 = .ok (.iload 7, 2) := by decide +kernel
theorem dX11_filled_81 : decode cX11_filled 81 = .ok (.imul, 1) := by decide +kernel
theorem dX11_filled_82 : decode cX11_filled 82 = .ok (.iconst 1, 1) := by decide +kernel
theorem dX11_filled_83 : decode cX11_filled 83 = .ok (.iadd, 1) := by decide +kernel
theorem dX11_filled_84 : decode cX11_filled 84 = .ok (.iaload, 1) := by decide +kernel
theorem dX11_filled_85 : decode cX11_filled 85 = .ok (.iaload, 1) := by decide +kernel
theorem dX11_filled_86 : decode cX11_filled 86 = .ok (.aload_n 0, 1) := by decide +kernel
theorem dX11_filled_87 : decode cX11_filled 87 = .ok (.getfield 23, 3) := by decide +kernel
theorem dX11_filled_90 : decode cX11_filled 90 = .ok (.iconst 2, 1) := by decide +kernel
theorem dX11_filled_91 : decode cX11_filled 91 = .ok (.iload 7, 2) := by decide +kernel
theorem dX11_filled_93 : decode cX11_filled 93 = .ok (.imul, 1) := by decide +kernel
theorem dX11_filled_94 : decode cX11_filled 94 = .ok (.iaload, 1) := by decide +kernel
theorem dX11_filled_95 : decode cX11_filled 95 = .ok (.if_icmp .ne 7, 3) := by decide +kernel
theorem dX11_filled_98 : decode cX11_filled 98 = .ok (.iconst 1, 1) := by decide +kernel
theorem dX11_filled_99 : decode cX11_filled 99 = .ok (.goto 4, 3) := by decide +kernel
theorem dX11_filled_102 : decode cX11_filled 102 = .ok (.iconst 0, 1) := by decide +kernel
theorem dX11_filled_103 : decode cX11_filled 103 = .ok (.istore 6, 2) := by decide +kernel
theorem dX11_filled_105 : decode cX11_filled 105 = .ok (.iinc 7 1, 3) := by decide +kernel
theorem dX11_filled_108 : decode cX11_filled 108 = .ok (.goto (-52), 3) := by decide +kernel
theorem dX11_filled_111 : decode cX11_filled 111 = .ok (.iload 6, 2) := by decide +kernel
theorem dX11_filled_113 : decode cX11_filled 113 = .ok (.ifCond .eq 20, 3) := by decide +kernel
theorem dX11_filled_116 : decode cX11_filled 116 = .ok (.iload 4, 2) := by decide +kernel
theorem dX11_filled_118 : decode cX11_filled 118 = .ok (.ifCond .ge 8, 3) := by decide +kernel
theorem dX11_filled_121 : decode cX11_filled 121 = .ok (.iload 5, 2) := by decide +kernel
theorem dX11_filled_123 : decode cX11_filled 123 = .ok (.goto 5, 3) := by decide +kernel
theorem dX11_filled_126 : decode cX11_filled 126 = .ok (.iload 4, 2) := by decide +kernel
theorem dX11_filled_128 : decode cX11_filled 128 = .ok (.istore 4, 2) := by decide +kernel
theorem dX11_filled_130 : decode cX11_filled 130 = .ok (.iinc 3 1, 3) := by decide +kernel
theorem dX11_filled_133 : decode cX11_filled 133 = .ok (.iinc 5 1, 3) := by decide +kernel
theorem dX11_filled_136 : decode cX11_filled 136 = .ok (.goto (-107), 3) := by decide +kernel
theorem dX11_filled_139 : decode cX11_filled 139 = .ok (.iload_n 1, 1) := by decide +kernel
theorem dX11_filled_140 : decode cX11_filled 140 = .ok (.iconst (-1), 1) := by decide +kernel
theorem dX11_filled_141 : decode cX11_filled 141 = .ok (.if_icmp .ne 5, 3) := by decide +kernel
theorem dX11_filled_144 : decode cX11_filled 144 = .ok (.iload_n 3, 1) := by decide +kernel
theorem dX11_filled_145 : decode cX11_filled 145 = .ok (.ireturn, 1) := by decide +kernel
theorem dX11_filled_146 : decode cX11_filled 146 = .ok (.iload 4, 2) := by decide +kernel
theorem dX11_filled_148 : decode cX11_filled 148 = .ok (.ifCond .lt 39, 3) := by decide +kernel
theorem dX11_filled_151 : decode cX11_filled 151 = .ok (.iload_n 1, 1) := by decide +kernel
theorem dX11_filled_152 : decode cX11_filled 152 = .ok (.iconst 0, 1) := by decide +kernel
theorem dX11_filled_153 : decode cX11_filled 153 = .ok (.aload_n 0, 1) := by decide +kernel
theorem dX11_filled_154 : decode cX11_filled 154 = .ok (.invokevirtual 82, 3) := by decide +kernel
theorem dX11_filled_157 : decode cX11_filled 157 = .ok (.iconst 1, 1) := by decide +kernel
theorem dX11_filled_158 : decode cX11_filled 158 = .ok (.isub, 1) := by decide +kernel
theorem dX11_filled_159 : decode cX11_filled 159 = .ok (.invokestatic 42, 3) := by decide +kernel
theorem dX11_filled_162 : decode cX11_filled 162 = .ok (.ifCond .eq 25, 3) := by decide +kernel
theorem dX11_filled_165 : decode cX11_filled 165 = .ok (.iload 4, 2) := by decide +kernel
theorem dX11_filled_167 : decode cX11_filled 167 = .ok (.bipush 8, 2) := by decide +kernel
theorem dX11_filled_169 : decode cX11_filled 169 = .ok (.aload_n 0, 1) := by decide +kernel
theorem dX11_filled_170 : decode cX11_filled 170 = .ok (.invokevirtual 82, 3) := by decide +kernel
theorem dX11_filled_173 : decode cX11_filled 173 = .ok (.iconst 1, 1) := by decide +kernel
theorem dX11_filled_174 : decode cX11_filled 174 = .ok (.isub, 1) := by decide +kernel
theorem dX11_filled_175 : decode cX11_filled 175 = .ok (.iload_n 1, 1) := by decide +kernel
theorem dX11_filled_176 : decode cX11_filled 176 = .ok (.isub, 1) := by decide +kernel
theorem dX11_filled_177 : decode cX11_filled 177 = .ok (.invokestatic 99, 3) := by decide +kernel
theorem dX11_filled_180 : decode cX11_filled 180 = .ok (.idiv, 1) := by decide +kernel
theorem dX11_filled_181 : decode cX11_filled 181 = .ok (.bipush 8, 2) := by decide +kernel
theorem dX11_filled_183 : decode cX11_filled 183 = .ok (.irem, 1) := by decide +kernel
theorem dX11_filled_184 : decode cX11_filled 184 = .ok (.goto 5, 3) := by decide +kernel
theorem dX11_filled_187 : decode cX11_filled 187 = .ok (.bipush (-6), 2) := by decide +kernel
theorem dX11_filled_189 : decode cX11_filled 189 = .ok (.ireturn, 1) := by decide +kernel
set_option maxRecDepth 20000 in
theorem ggX11_offWheel_X11_carOf : GoodIn wsX11_offWheel wsX11_carOf := goodIn_r _ [5, 6, 7, 8, 9, 10, 11, 12, 13, 14, 15, 16, 17, 18, 19, 20, 21, 22, 23] (by decide +kernel) (by decide +kernel)
set_option maxRecDepth 20000 in
theorem gX11_offWheel_X11_carOf : GoodIn wsX11_offWheel (wsV RX11 85 RX11 yX11_carOf wsX11_carOf) := goodIn_app (goodIn_of _ (by decide +kernel)) ggX11_offWheel_X11_carOf
theorem dX11_offWheel_0 : decode cX11_offWheel 0 = .ok (.iload_n 1, 1) := by decide +kernel
theorem dX11_offWheel_1 : decode cX11_offWheel 1 = .ok (.istore_n 2, 1) := by decide +kernel
theorem dX11_offWheel_2 : decode cX11_offWheel 2 = .ok (.iconst 0, 1) := by decide +kernel
theorem dX11_offWheel_3 : decode cX11_offWheel 3 = .ok (.istore_n 3, 1) := by decide +kernel
theorem dX11_offWheel_4 : decode cX11_offWheel 4 = .ok (.iload_n 3, 1) := by decide +kernel
theorem dX11_offWheel_5 : decode cX11_offWheel 5 = .ok (.bipush 8, 2) := by decide +kernel
theorem dX11_offWheel_7 : decode cX11_offWheel 7 = .ok (.if_icmp .ge 26, 3) := by decide +kernel
theorem dX11_offWheel_10 : decode cX11_offWheel 10 = .ok (.aload_n 0, 1) := by decide +kernel
theorem dX11_offWheel_11 : decode cX11_offWheel 11 = .ok (.iload_n 3, 1) := by decide +kernel
theorem dX11_offWheel_12 : decode cX11_offWheel 12 = .ok (.invokevirtual 85, 3) := by decide +kernel
theorem dX11_offWheel_15 : decode cX11_offWheel 15 = .ok (.ifCond .ge 12, 3) := by decide +kernel
theorem dX11_offWheel_18 : decode cX11_offWheel 18 = .ok (.iload_n 2, 1) := by decide +kernel
theorem dX11_offWheel_19 : decode cX11_offWheel 19 = .ok (.ifCond .ne 5, 3) := by decide +kernel
theorem dX11_offWheel_22 : decode cX11_offWheel 22 = .ok (.iload_n 3, 1) := by decide +kernel
theorem dX11_offWheel_23 : decode cX11_offWheel 23 = .ok (.ireturn, 1) := by decide +kernel
theorem dX11_offWheel_24 : decode cX11_offWheel 24 = .ok (.iinc 2 (-1), 3) := by decide +kernel
theorem dX11_offWheel_27 : decode cX11_offWheel 27 = .ok (.iinc 3 1, 3) := by decide +kernel
theorem dX11_offWheel_30 : decode cX11_offWheel 30 = .ok (.goto (-26), 3) := by decide +kernel
theorem dX11_offWheel_33 : decode cX11_offWheel 33 = .ok (.bipush (-6), 2) := by decide +kernel
theorem dX11_offWheel_35 : decode cX11_offWheel 35 = .ok (.ireturn, 1) := by decide +kernel
set_option maxRecDepth 20000 in
theorem ggX11_chance_X11_is8 : GoodIn wsX11_chance wsX11_is8 := goodIn_r _ [9, 10, 11, 8, 12] (by decide +kernel) (by decide +kernel)
set_option maxRecDepth 20000 in
theorem gX11_chance_X11_is8 : GoodIn wsX11_chance (va_wsS RX11 46 yX11_is8 wsX11_is8) := goodIn_app (goodIn_of _ (by decide +kernel)) ggX11_chance_X11_is8
set_option maxRecDepth 20000 in
theorem ggX11_chance_X11_in : GoodIn wsX11_chance wsX11_in := goodIn_r _ [12] (by decide +kernel) (by decide +kernel)
set_option maxRecDepth 20000 in
theorem gX11_chance_X11_in : GoodIn wsX11_chance (va_wsS RX11 42 yX11_in wsX11_in) := goodIn_app (goodIn_of _ (by decide +kernel)) ggX11_chance_X11_in
set_option maxRecDepth 20000 in
theorem ggX11_chance_X11_powerOf : GoodIn wsX11_chance wsX11_powerOf := goodIn_r _ [15] (by decide +kernel) (by decide +kernel)
set_option maxRecDepth 20000 in
theorem gX11_chance_X11_powerOf : GoodIn wsX11_chance (va_wsS RX11 99 yX11_powerOf wsX11_powerOf) := goodIn_app (goodIn_of _ (by decide +kernel)) ggX11_chance_X11_powerOf
set_option maxRecDepth 20000 in
theorem ggX11_chance_X11_asNow : GoodIn wsX11_chance wsX11_asNow := goodIn_r _ [19, 20, 5, 21, 22, 4, 23, 24, 25, 47, 48, 49, 50, 51, 52, 53, 54, 55, 56, 57, 58, 59, 60, 61, 62, 63] (by decide +kernel) (by decide +kernel)
set_option maxRecDepth 20000 in
theorem gX11_chance_X11_asNow : GoodIn wsX11_chance (wsV RX11 76 RX11 yX11_asNow wsX11_asNow) := goodIn_app (goodIn_of _ (by decide +kernel)) ggX11_chance_X11_asNow
set_option maxRecDepth 20000 in
theorem ggX11_chance_X11_carOf : GoodIn wsX11_chance wsX11_carOf := goodIn_r _ [29, 4, 47, 48, 49, 50, 51, 52, 53, 54, 55, 56, 57, 58, 59, 60, 61, 62, 63] (by decide +kernel) (by decide +kernel)
set_option maxRecDepth 20000 in
theorem gX11_chance_X11_carOf : GoodIn wsX11_chance (wsV RX11 85 RX11 yX11_carOf wsX11_carOf) := goodIn_app (goodIn_of _ (by decide +kernel)) ggX11_chance_X11_carOf
set_option maxRecDepth 20000 in
theorem ggX11_chance_X11_offWheel : GoodIn wsX11_chance wsX11_offWheel := goodIn_r _ [33, 26, 27, 28, 8, 29, 4, 47, 48, 49, 50, 51, 52, 53, 54, 55, 56, 57, 58, 59, 60, 61, 62, 63] (by decide +kernel) (by decide +kernel)
set_option maxRecDepth 20000 in
theorem gX11_chance_X11_offWheel : GoodIn wsX11_chance (wsV RX11 124 RX11 yX11_offWheel wsX11_offWheel) := goodIn_app (goodIn_of _ (by decide +kernel)) ggX11_chance_X11_offWheel
set_option maxRecDepth 20000 in
theorem ggX11_chance_X11_letGo : GoodIn wsX11_chance wsX11_letGo := goodIn_r _ [37, 5, 38, 21, 22, 39, 40, 41, 8, 42, 24, 4, 43, 44, 45, 46, 47, 48, 49, 50, 51, 52, 53, 54, 55, 56, 57, 58, 59, 60, 61, 62, 63] (by decide +kernel) (by decide +kernel)
set_option maxRecDepth 20000 in
theorem gX11_chance_X11_letGo : GoodIn wsX11_chance (wsV RX11 88 RX11 yX11_letGo wsX11_letGo) := goodIn_app (goodIn_of _ (by decide +kernel)) ggX11_chance_X11_letGo
theorem dX11_chance_0 : decode cX11_chance 0 = .ok (.iload_n 1, 1) := by decide +kernel
theorem dX11_chance_1 : decode cX11_chance 1 = .ok (.invokestatic 46, 3) := by decide +kernel
theorem dX11_chance_4 : decode cX11_chance 4 = .ok (.ifCond .ne 7, 3) := by decide +kernel
theorem dX11_chance_7 : decode cX11_chance 7 = .ok (.ldc2_w 118, 3) := by decide +kernel
theorem dX11_chance_10 : decode cX11_chance 10 = .ok (.lreturn, 1) := by decide +kernel
theorem dX11_chance_11 : decode cX11_chance 11 = .ok (.iload_n 2, 1) := by decide +kernel
theorem dX11_chance_12 : decode cX11_chance 12 = .ok (.iconst 0, 1) := by decide +kernel
theorem dX11_chance_13 : decode cX11_chance 13 = .ok (.iconst 3, 1) := by decide +kernel
theorem dX11_chance_14 : decode cX11_chance 14 = .ok (.invokestatic 42, 3) := by decide +kernel
theorem dX11_chance_17 : decode cX11_chance 17 = .ok (.ifCond .eq 12, 3) := by decide +kernel
theorem dX11_chance_20 : decode cX11_chance 20 = .ok (.iload_n 3, 1) := by decide +kernel
theorem dX11_chance_21 : decode cX11_chance 21 = .ok (.iconst 0, 1) := by decide +kernel
theorem dX11_chance_22 : decode cX11_chance 22 = .ok (.iconst 1, 1) := by decide +kernel
theorem dX11_chance_23 : decode cX11_chance 23 = .ok (.invokestatic 42, 3) := by decide +kernel
theorem dX11_chance_26 : decode cX11_chance 26 = .ok (.ifCond .ne 7, 3) := by decide +kernel
theorem dX11_chance_29 : decode cX11_chance 29 = .ok (.ldc2_w 120, 3) := by decide +kernel
theorem dX11_chance_32 : decode cX11_chance 32 = .ok (.lreturn, 1) := by decide +kernel
theorem dX11_chance_33 : decode cX11_chance 33 = .ok (.lconst 0, 1) := by decide +kernel
theorem dX11_chance_34 : decode cX11_chance 34 = .ok (.lstore 4, 2) := by decide +kernel
theorem dX11_chance_36 : decode cX11_chance 36 = .ok (.lconst 1, 1) := by decide +kernel
theorem dX11_chance_37 : decode cX11_chance 37 = .ok (.lstore 6, 2) := by decide +kernel
theorem dX11_chance_39 : decode cX11_chance 39 = .ok (.iconst 0, 1) := by decide +kernel
theorem dX11_chance_40 : decode cX11_chance 40 = .ok (.istore 8, 2) := by decide +kernel
theorem dX11_chance_42 : decode cX11_chance 42 = .ok (.iload 8, 2) := by decide +kernel
theorem dX11_chance_44 : decode cX11_chance 44 = .ok (.iload_n 2, 1) := by decide +kernel
theorem dX11_chance_45 : decode cX11_chance 45 = .ok (.if_icmp .ge 17, 3) := by decide +kernel
theorem dX11_chance_48 : decode cX11_chance 48 = .ok (.lload 6, 2) := by decide +kernel
theorem dX11_chance_50 : decode cX11_chance 50 = .ok (.ldc2_w 122, 3) := by decide +kernel
theorem dX11_chance_53 : decode cX11_chance 53 = .ok (.lmul, 1) := by decide +kernel
theorem dX11_chance_54 : decode cX11_chance 54 = .ok (.lstore 6, 2) := by decide +kernel
theorem dX11_chance_56 : decode cX11_chance 56 = .ok (.iinc 8 1, 3) := by decide +kernel
theorem dX11_chance_59 : decode cX11_chance 59 = .ok (.goto (-17), 3) := by decide +kernel
theorem dX11_chance_62 : decode cX11_chance 62 = .ok (.bipush 8, 2) := by decide +kernel
theorem dX11_chance_64 : decode cX11_chance 64 = .ok (.iload_n 2, 1) := by decide +kernel
theorem dX11_chance_65 : decode cX11_chance 65 = .ok (.invokestatic 99, 3) := by decide +kernel
theorem dX11_chance_68 : decode cX11_chance 68 = .ok (.istore 8, 2) := by decide +kernel
theorem dX11_chance_70 : decode cX11_chance 70 = .ok (.iconst 0, 1) := by decide +kernel
theorem dX11_chance_71 : decode cX11_chance 71 = .ok (.istore 9, 2) := by decide +kernel
theorem dX11_chance_73 : decode cX11_chance 73 = .ok (.iload 9, 2) := by decide +kernel
theorem dX11_chance_75 : decode cX11_chance 75 = .ok (.iload 8, 2) := by decide +kernel
theorem dX11_chance_77 : decode cX11_chance 77 = .ok (.if_icmp .ge 205, 3) := by decide +kernel
theorem dX11_chance_80 : decode cX11_chance 80 = .ok (.aload_n 0, 1) := by decide +kernel
theorem dX11_chance_81 : decode cX11_chance 81 = .ok (.invokevirtual 76, 3) := by decide +kernel
theorem dX11_chance_84 : decode cX11_chance 84 = .ok (.lconst 1, 1) := by decide +kernel
theorem dX11_chance_85 : decode cX11_chance 85 = .ok (.lstore 10, 2) := by decide +kernel
theorem dX11_chance_87 : decode cX11_chance 87 = .ok (.iload 8, 2) := by decide +kernel
theorem dX11_chance_89 : decode cX11_chance 89 = .ok (.istore 12, 2) := by decide +kernel
theorem dX11_chance_91 : decode cX11_chance 91 = .ok (.iconst 0, 1) := by decide +kernel
theorem dX11_chance_92 : decode cX11_chance 92 = .ok (.istore 13, 2) := by decide +kernel
theorem dX11_chance_94 : decode cX11_chance 94 = .ok (.iload 13, 2) := by decide +kernel
theorem dX11_chance_96 : decode cX11_chance 96 = .ok (.iload_n 2, 1) := by decide +kernel
theorem dX11_chance_97 : decode cX11_chance 97 = .ok (.if_icmp .ge 155, 3) := by decide +kernel
theorem dX11_chance_100 : decode cX11_chance 100 = .ok (.iload 12, 2) := by decide +kernel
theorem dX11_chance_102 : decode cX11_chance 102 = .ok (.bipush 8, 2) := by decide +kernel
theorem dX11_chance_104 : decode cX11_chance 104 = .ok (.idiv, 1) := by decide +kernel
theorem dX11_chance_105 : decode cX11_chance 105 = .ok (.istore 12, 2) := by decide +kernel
theorem dX11_chance_107 : decode cX11_chance 107 = .ok (.iload 9, 2) := by decide +kernel
theorem dX11_chance_109 : decode cX11_chance 109 = .ok (.iload 12, 2) := by decide +kernel
theorem dX11_chance_111 : decode cX11_chance 111 = .ok (.idiv, 1) := by decide +kernel
theorem dX11_chance_112 : decode cX11_chance 112 = .ok (.bipush 8, 2) := by decide +kernel
theorem dX11_chance_114 : decode cX11_chance 114 = .ok (.irem, 1) := by decide +kernel
theorem dX11_chance_115 : decode cX11_chance 115 = .ok (.istore 14, 2) := by decide +kernel
theorem dX11_chance_117 : decode cX11_chance 117 = .ok (.iconst 0, 1) := by decide +kernel
theorem dX11_chance_118 : decode cX11_chance 118 = .ok (.istore 15, 2) := by decide +kernel
theorem dX11_chance_120 : decode cX11_chance 120 = .ok (.iconst 0, 1) := by decide +kernel
theorem dX11_chance_121 : decode cX11_chance 121 = .ok (.istore 16, 2) := by decide +kernel
theorem dX11_chance_123 : decode cX11_chance 123 = .ok (.iload 16, 2) := by decide +kernel
theorem dX11_chance_125 : decode cX11_chance 125 = .ok (.bipush 8, 2) := by decide +kernel
theorem dX11_chance_127 : decode cX11_chance 127 = .ok (.if_icmp .ge 28, 3) := by decide +kernel
theorem dX11_chance_130 : decode cX11_chance 130 = .ok (.iload 15, 2) := by decide +kernel
theorem dX11_chance_132 : decode cX11_chance 132 = .ok (.aload_n 0, 1) := by decide +kernel
theorem dX11_chance_133 : decode cX11_chance 133 = .ok (.iload 16, 2) := by decide +kernel
theorem dX11_chance_135 : decode cX11_chance 135 = .ok (.invokevirtual 85, 3) := by decide +kernel
theorem dX11_chance_138 : decode cX11_chance 138 = .ok (.ifCond .ge 7, 3) := by decide +kernel
theorem dX11_chance_141 : decode cX11_chance 141 = .ok (.iconst 1, 1) := by decide +kernel
theorem dX11_chance_142 : decode cX11_chance 142 = .ok (.goto 4, 3) := by decide +kernel
theorem dX11_chance_145 : decode cX11_chance 145 = .ok (.iconst 0, 1) := by decide +kernel
theorem dX11_chance_146 : decode cX11_chance 146 = .ok (.iadd, 1) := by decide +kernel
theorem dX11_chance_147 : decode cX11_chance 147 = .ok (.istore 15, 2) := by decide +kernel
theorem dX11_chance_149 : decode cX11_chance 149 = .ok (.iinc 16 1, 3) := by decide +kernel
theorem dX11_chance_152 : decode cX11_chance 152 = .ok (.goto (-29), 3) := by decide +kernel
theorem dX11_chance_155 : decode cX11_chance 155 = .ok (.aload_n 0, 1) := by decide +kernel
theorem dX11_chance_156 : decode cX11_chance 156 = .ok (.getfield 29, 3) := by decide +kernel
theorem dX11_chance_159 : decode cX11_chance 159 = .ok (.aload_n 0, 1) := by decide +kernel
theorem dX11_chance_160 : decode cX11_chance 160 = .ok (.getfield 60, 3) := by decide +kernel
theorem dX11_chance_163 : decode cX11_chance 163 = .ok (.iaload, 1) := by decide +kernel
theorem dX11_chance_164 : decode cX11_chance 164 = .ok (.ifCond .ge 8, 3) := by decide +kernel
theorem dX11_chance_167 : decode cX11_chance 167 = .ok (.iload 15, 2) := by decide +kernel
theorem dX11_chance_169 : decode cX11_chance 169 = .ok (.ifCond .ne 7, 3) := by decide +kernel
theorem dX11_chance_172 : decode cX11_chance 172 = .ok (.iconst 1, 1) := by decide +kernel
theorem dX11_chance_173 : decode cX11_chance 173 = .ok (.goto 5, 3) := by decide +kernel
theorem dX11_chance_176 : decode cX11_chance 176 = .ok (.iload 15, 2) := by decide +kernel
theorem dX11_chance_178 : decode cX11_chance 178 = .ok (.istore 16, 2) := by decide +kernel
theorem dX11_chance_180 : decode cX11_chance 180 = .ok (.lload 10, 2) := by decide +kernel
theorem dX11_chance_182 : decode cX11_chance 182 = .ok (.iload 14, 2) := by decide +kernel
theorem dX11_chance_184 : decode cX11_chance 184 = .ok (.iload 16, 2) := by decide +kernel
theorem dX11_chance_186 : decode cX11_chance 186 = .ok (.if_icmp .ge 13, 3) := by decide +kernel
theorem dX11_chance_189 : decode cX11_chance 189 = .ok (.ldc2_w 122, 3) := by decide +kernel
theorem dX11_chance_192 : decode cX11_chance 192 = .ok (.iload 16, 2) := by decide +kernel
theorem dX11_chance_194 : decode cX11_chance 194 = .ok (.i2l, 1) := by decide +kernel
theorem dX11_chance_195 : decode cX11_chance 195 = .ok (.ldiv, 1) := by decide +kernel
theorem dX11_chance_196 : decode cX11_chance 196 = .ok (.goto 4, 3) := by decide +kernel
theorem dX11_chance_199 : decode cX11_chance 199 = .ok (.lconst 0, 1) := by decide +kernel
theorem dX11_chance_200 : decode cX11_chance 200 = .ok (.lmul, 1) := by decide +kernel
theorem dX11_chance_201 : decode cX11_chance 201 = .ok (.lstore 10, 2) := by decide +kernel
theorem dX11_chance_203 : decode cX11_chance 203 = .ok (.iload 14, 2) := by decide +kernel
theorem dX11_chance_205 : decode cX11_chance 205 = .ok (.iload 16, 2) := by decide +kernel
theorem dX11_chance_207 : decode cX11_chance 207 = .ok (.if_icmp .ge 35, 3) := by decide +kernel
theorem dX11_chance_210 : decode cX11_chance 210 = .ok (.aload_n 0, 1) := by decide +kernel
theorem dX11_chance_211 : decode cX11_chance 211 = .ok (.getfield 29, 3) := by decide +kernel
theorem dX11_chance_214 : decode cX11_chance 214 = .ok (.aload_n 0, 1) := by decide +kernel
theorem dX11_chance_215 : decode cX11_chance 215 = .ok (.getfield 60, 3) := by decide +kernel
theorem dX11_chance_218 : decode cX11_chance 218 = .ok (.iaload, 1) := by decide +kernel
theorem dX11_chance_219 : decode cX11_chance 219 = .ok (.ifCond .ge 23, 3) := by decide +kernel
theorem dX11_chance_222 : decode cX11_chance 222 = .ok (.iload 15, 2) := by decide +kernel
theorem dX11_chance_224 : decode cX11_chance 224 = .ok (.ifCond .le 18, 3) := by decide +kernel
theorem dX11_chance_227 : decode cX11_chance 227 = .ok (.aload_n 0, 1) := by decide +kernel
theorem dX11_chance_228 : decode cX11_chance 228 = .ok (.getfield 29, 3) := by decide +kernel
theorem dX11_chance_231 : decode cX11_chance 231 = .ok (.aload_n 0, 1) := by decide +kernel
theorem dX11_chance_232 : decode cX11_chance 232 = .ok (.getfield 60, 3) := by decide +kernel
theorem dX11_chance_235 : decode cX11_chance 235 = .ok (.aload_n 0, 1) := by decide +kernel
theorem dX11_chance_236 : decode cX11_chance 236 = .ok (.iload 14, 2) := by decide +kernel
theorem dX11_chance_238 : decode cX11_chance 238 = .ok (.invokevirtual 124, 3) := by decide +kernel
theorem dX11_chance_241 : decode cX11_chance 241 = .ok (.iastore, 1) := by decide +kernel
theorem dX11_chance_242 : decode cX11_chance 242 = .ok (.aload_n 0, 1) := by decide +kernel
theorem dX11_chance_243 : decode cX11_chance 243 = .ok (.invokevirtual 88, 3) := by decide +kernel
theorem dX11_chance_246 : decode cX11_chance 246 = .ok (.iinc 13 1, 3) := by decide +kernel
theorem dX11_chance_249 : decode cX11_chance 249 = .ok (.goto (-155), 3) := by decide +kernel
theorem dX11_chance_252 : decode cX11_chance 252 = .ok (.lload 4, 2) := by decide +kernel
theorem dX11_chance_254 : decode cX11_chance 254 = .ok (.aload_n 0, 1) := by decide +kernel
theorem dX11_chance_255 : decode cX11_chance 255 = .ok (.getfield 29, 3) := by decide +kernel
theorem dX11_chance_258 : decode cX11_chance 258 = .ok (.aload_n 0, 1) := by decide +kernel
theorem dX11_chance_259 : decode cX11_chance 259 = .ok (.getfield 60, 3) := by decide +kernel
theorem dX11_chance_262 : decode cX11_chance 262 = .ok (.iaload, 1) := by decide +kernel
theorem dX11_chance_263 : decode cX11_chance 263 = .ok (.iload_n 1, 1) := by decide +kernel
theorem dX11_chance_264 : decode cX11_chance 264 = .ok (.if_icmp .ne 8, 3) := by decide +kernel
theorem dX11_chance_267 : decode cX11_chance 267 = .ok (.lload 10, 2) := by decide +kernel
theorem dX11_chance_269 : decode cX11_chance 269 = .ok (.goto 4, 3) := by decide +kernel
theorem dX11_chance_272 : decode cX11_chance 272 = .ok (.lconst 0, 1) := by decide +kernel
theorem dX11_chance_273 : decode cX11_chance 273 = .ok (.ladd, 1) := by decide +kernel
theorem dX11_chance_274 : decode cX11_chance 274 = .ok (.lstore 4, 2) := by decide +kernel
theorem dX11_chance_276 : decode cX11_chance 276 = .ok (.iinc 9 1, 3) := by decide +kernel
theorem dX11_chance_279 : decode cX11_chance 279 = .ok (.goto (-206), 3) := by decide +kernel
theorem dX11_chance_282 : decode cX11_chance 282 = .ok (.lload 4, 2) := by decide +kernel
theorem dX11_chance_284 : decode cX11_chance 284 = .ok (.lstore 9, 2) := by decide +kernel
theorem dX11_chance_286 : decode cX11_chance 286 = .ok (.lload 6, 2) := by decide +kernel
theorem dX11_chance_288 : decode cX11_chance 288 = .ok (.lstore 11, 2) := by decide +kernel
theorem dX11_chance_290 : decode cX11_chance 290 = .ok (.lload 11, 2) := by decide +kernel
theorem dX11_chance_292 : decode cX11_chance 292 = .ok (.lconst 0, 1) := by decide +kernel
theorem dX11_chance_293 : decode cX11_chance 293 = .ok (.lcmp, 1) := by decide +kernel
theorem dX11_chance_294 : decode cX11_chance 294 = .ok (.ifCond .eq 21, 3) := by decide +kernel
theorem dX11_chance_297 : decode cX11_chance 297 = .ok (.lload 9, 2) := by decide +kernel
theorem dX11_chance_299 : decode cX11_chance 299 = .ok (.lload 11, 2) := by decide +kernel
theorem dX11_chance_301 : decode cX11_chance 301 = .ok (.lrem, 1) := by decide +kernel
theorem dX11_chance_302 : decode cX11_chance 302 = .ok (.lstore 13, 2) := by decide +kernel
theorem dX11_chance_304 : decode cX11_chance 304 = .ok (.lload 11, 2) := by decide +kernel
theorem dX11_chance_306 : decode cX11_chance 306 = .ok (.lstore 9, 2) := by decide +kernel
theorem dX11_chance_308 : decode cX11_chance 308 = .ok (.lload 13, 2) := by decide +kernel
theorem dX11_chance_310 : decode cX11_chance 310 = .ok (.lstore 11, 2) := by decide +kernel
theorem dX11_chance_312 : decode cX11_chance 312 = .ok (.goto (-22), 3) := by decide +kernel
theorem dX11_chance_315 : decode cX11_chance 315 = .ok (.iload_n 3, 1) := by decide +kernel
theorem dX11_chance_316 : decode cX11_chance 316 = .ok (.ifCond .ne 11, 3) := by decide +kernel
theorem dX11_chance_319 : decode cX11_chance 319 = .ok (.lload 4, 2) := by decide +kernel
theorem dX11_chance_321 : decode cX11_chance 321 = .ok (.lload 9, 2) := by decide +kernel
theorem dX11_chance_323 : decode cX11_chance 323 = .ok (.ldiv, 1) := by decide +kernel
theorem dX11_chance_324 : decode cX11_chance 324 = .ok (.goto 8, 3) := by decide +kernel
theorem dX11_chance_327 : decode cX11_chance 327 = .ok (.lload 6, 2) := by decide +kernel
theorem dX11_chance_329 : decode cX11_chance 329 = .ok (.lload 9, 2) := by decide +kernel
theorem dX11_chance_331 : decode cX11_chance 331 = .ok (.ldiv, 1) := by decide +kernel
theorem dX11_chance_332 : decode cX11_chance 332 = .ok (.lreturn, 1) := by decide +kernel
set_option maxRecDepth 20000 in
theorem ggX11_year_X11_in : GoodIn wsX11_year wsX11_in := goodIn_r _ [8] (by decide +kernel) (by decide +kernel)
set_option maxRecDepth 20000 in
theorem gX11_year_X11_in : GoodIn wsX11_year (va_wsS RX11 42 yX11_in wsX11_in) := goodIn_app (goodIn_of _ (by decide +kernel)) ggX11_year_X11_in
set_option maxRecDepth 20000 in
theorem ggX11_year_X11_asNow : GoodIn wsX11_year wsX11_asNow := goodIn_r _ [12, 13, 3, 14, 4, 2, 15, 16, 17, 35, 36, 37, 38, 39, 40, 41, 42, 43, 44, 45, 46, 47, 48, 49, 50, 51] (by decide +kernel) (by decide +kernel)
set_option maxRecDepth 20000 in
theorem gX11_year_X11_asNow : GoodIn wsX11_year (wsV RX11 76 RX11 yX11_asNow wsX11_asNow) := goodIn_app (goodIn_of _ (by decide +kernel)) ggX11_year_X11_asNow
set_option maxRecDepth 20000 in
theorem ggX11_year_X11_carOf : GoodIn wsX11_year wsX11_carOf := goodIn_r _ [21, 2, 35, 36, 37, 38, 39, 40, 41, 42, 43, 44, 45, 46, 47, 48, 49, 50, 51] (by decide +kernel) (by decide +kernel)
set_option maxRecDepth 20000 in
theorem gX11_year_X11_carOf : GoodIn wsX11_year (wsV RX11 85 RX11 yX11_carOf wsX11_carOf) := goodIn_app (goodIn_of _ (by decide +kernel)) ggX11_year_X11_carOf
set_option maxRecDepth 20000 in
theorem ggX11_year_X11_letGo : GoodIn wsX11_year wsX11_letGo := goodIn_r _ [25, 3, 26, 14, 4, 27, 28, 29, 7, 30, 16, 2, 31, 32, 33, 34, 35, 36, 37, 38, 39, 40, 41, 42, 43, 44, 45, 46, 47, 48, 49, 50, 51] (by decide +kernel) (by decide +kernel)
set_option maxRecDepth 20000 in
theorem gX11_year_X11_letGo : GoodIn wsX11_year (wsV RX11 88 RX11 yX11_letGo wsX11_letGo) := goodIn_app (goodIn_of _ (by decide +kernel)) ggX11_year_X11_letGo
theorem dX11_year_0 : decode cX11_year 0 = .ok (.iload_n 3, 1) := by decide +kernel
theorem dX11_year_1 : decode cX11_year 1 = .ok (.iconst (-1), 1) := by decide +kernel
theorem dX11_year_2 : decode cX11_year 2 = .ok (.bipush 7, 2) := by decide +kernel
theorem dX11_year_4 : decode cX11_year 4 = .ok (.invokestatic 42, 3) := by decide +kernel
theorem dX11_year_7 : decode cX11_year 7 = .ok (.ifCond .ne 5, 3) := by decide +kernel
theorem dX11_year_10 : decode cX11_year 10 = .ok (.iconst (-1), 1) := by decide +kernel
theorem dX11_year_11 : decode cX11_year 11 = .ok (.ireturn, 1) := by decide +kernel
theorem dX11_year_12 : decode cX11_year 12 = .ok (.iload_n 1, 1) := by decide +kernel
theorem dX11_year_13 : decode cX11_year 13 = .ok (.iconst 0, 1) := by decide +kernel
theorem dX11_year_14 : decode cX11_year 14 = .ok (.sipush 9999, 3) := by decide +kernel
theorem dX11_year_17 : decode cX11_year 17 = .ok (.invokestatic 42, 3) := by decide +kernel
theorem dX11_year_20 : decode cX11_year 20 = .ok (.ifCond .eq 13, 3) := by decide +kernel
theorem dX11_year_23 : decode cX11_year 23 = .ok (.iload_n 2, 1) := by decide +kernel
theorem dX11_year_24 : decode cX11_year 24 = .ok (.iconst 1, 1) := by decide +kernel
theorem dX11_year_25 : decode cX11_year 25 = .ok (.bipush 99, 2) := by decide +kernel
theorem dX11_year_27 : decode cX11_year 27 = .ok (.invokestatic 42, 3) := by decide +kernel
theorem dX11_year_30 : decode cX11_year 30 = .ok (.ifCond .ne 6, 3) := by decide +kernel
theorem dX11_year_33 : decode cX11_year 33 = .ok (.bipush (-2), 2) := by decide +kernel
theorem dX11_year_35 : decode cX11_year 35 = .ok (.ireturn, 1) := by decide +kernel
theorem dX11_year_36 : decode cX11_year 36 = .ok (.aload_n 0, 1) := by decide +kernel
theorem dX11_year_37 : decode cX11_year 37 = .ok (.invokevirtual 76, 3) := by decide +kernel
theorem dX11_year_40 : decode cX11_year 40 = .ok (.iload_n 1, 1) := by decide +kernel
theorem dX11_year_41 : decode cX11_year 41 = .ok (.istore 4, 2) := by decide +kernel
theorem dX11_year_43 : decode cX11_year 43 = .ok (.iconst 0, 1) := by decide +kernel
theorem dX11_year_44 : decode cX11_year 44 = .ok (.istore 5, 2) := by decide +kernel
theorem dX11_year_46 : decode cX11_year 46 = .ok (.iconst 0, 1) := by decide +kernel
theorem dX11_year_47 : decode cX11_year 47 = .ok (.istore 6, 2) := by decide +kernel
theorem dX11_year_49 : decode cX11_year 49 = .ok (.iload 6, 2) := by decide +kernel
theorem dX11_year_51 : decode cX11_year 51 = .ok (.iload_n 2, 1) := by decide +kernel
theorem dX11_year_52 : decode cX11_year 52 = .ok (.if_icmp .ge 158, 3) := by decide +kernel
theorem dX11_year_55 : decode cX11_year 55 = .ok (.bipush 75, 2) := by decide +kernel
theorem dX11_year_57 : decode cX11_year 57 = .ok (.iload 4, 2) := by decide +kernel
theorem dX11_year_59 : decode cX11_year 59 = .ok (.imul, 1) := by decide +kernel
theorem dX11_year_60 : decode cX11_year 60 = .ok (.bipush 74, 2) := by decide +kernel
theorem dX11_year_62 : decode cX11_year 62 = .ok (.iadd, 1) := by decide +kernel
theorem dX11_year_63 : decode cX11_year 63 = .ok (.ldc 127, 2) := by decide +kernel
theorem dX11_year_65 : decode cX11_year 65 = .ok (.irem, 1) := by decide +kernel
theorem dX11_year_66 : decode cX11_year 66 = .ok (.istore 4, 2) := by decide +kernel
theorem dX11_year_68 : decode cX11_year 68 = .ok (.aload_n 0, 1) := by decide +kernel
theorem dX11_year_69 : decode cX11_year 69 = .ok (.getfield 29, 3) := by decide +kernel
theorem dX11_year_72 : decode cX11_year 72 = .ok (.aload_n 0, 1) := by decide +kernel
theorem dX11_year_73 : decode cX11_year 73 = .ok (.getfield 60, 3) := by decide +kernel
theorem dX11_year_76 : decode cX11_year 76 = .ok (.iload 4, 2) := by decide +kernel
theorem dX11_year_78 : decode cX11_year 78 = .ok (.iconst 2, 1) := by decide +kernel
theorem dX11_year_79 : decode cX11_year 79 = .ok (.irem, 1) := by decide +kernel
theorem dX11_year_80 : decode cX11_year 80 = .ok (.iconst 1, 1) := by decide +kernel
theorem dX11_year_81 : decode cX11_year 81 = .ok (.if_icmp .ne 8, 3) := by decide +kernel
theorem dX11_year_84 : decode cX11_year 84 = .ok (.bipush (-6), 2) := by decide +kernel
theorem dX11_year_86 : decode cX11_year 86 = .ok (.goto 12, 3) := by decide +kernel
theorem dX11_year_89 : decode cX11_year 89 = .ok (.aload_n 0, 1) := by decide +kernel
theorem dX11_year_90 : decode cX11_year 90 = .ok (.getfield 29, 3) := by decide +kernel
theorem dX11_year_93 : decode cX11_year 93 = .ok (.aload_n 0, 1) := by decide +kernel
theorem dX11_year_94 : decode cX11_year 94 = .ok (.getfield 60, 3) := by decide +kernel
theorem dX11_year_97 : decode cX11_year 97 = .ok (.iaload, 1) := by decide +kernel
theorem dX11_year_98 : decode cX11_year 98 = .ok (.iastore, 1) := by decide +kernel
theorem dX11_year_99 : decode cX11_year 99 = .ok (.iload 4, 2) := by decide +kernel
theorem dX11_year_101 : decode cX11_year 101 = .ok (.iconst 2, 1) := by decide +kernel
theorem dX11_year_102 : decode cX11_year 102 = .ok (.idiv, 1) := by decide +kernel
theorem dX11_year_103 : decode cX11_year 103 = .ok (.bipush 8, 2) := by decide +kernel
theorem dX11_year_105 : decode cX11_year 105 = .ok (.irem, 1) := by decide +kernel
theorem dX11_year_106 : decode cX11_year 106 = .ok (.istore 7, 2) := by decide +kernel
theorem dX11_year_108 : decode cX11_year 108 = .ok (.aload_n 0, 1) := by decide +kernel
theorem dX11_year_109 : decode cX11_year 109 = .ok (.getfield 29, 3) := by decide +kernel
theorem dX11_year_112 : decode cX11_year 112 = .ok (.aload_n 0, 1) := by decide +kernel
theorem dX11_year_113 : decode cX11_year 113 = .ok (.getfield 60, 3) := by decide +kernel
theorem dX11_year_116 : decode cX11_year 116 = .ok (.aload_n 0, 1) := by decide +kernel
theorem dX11_year_117 : decode cX11_year 117 = .ok (.getfield 29, 3) := by decide +kernel
theorem dX11_year_120 : decode cX11_year 120 = .ok (.aload_n 0, 1) := by decide +kernel
theorem dX11_year_121 : decode cX11_year 121 = .ok (.getfield 60, 3) := by decide +kernel
theorem dX11_year_124 : decode cX11_year 124 = .ok (.iaload, 1) := by decide +kernel
theorem dX11_year_125 : decode cX11_year 125 = .ok (.ifCond .ge 17, 3) := by decide +kernel
theorem dX11_year_128 : decode cX11_year 128 = .ok (.aload_n 0, 1) := by decide +kernel
theorem dX11_year_129 : decode cX11_year 129 = .ok (.iload 7, 2) := by decide +kernel
theorem dX11_year_131 : decode cX11_year 131 = .ok (.invokevirtual 85, 3) := by decide +kernel
theorem dX11_year_134 : decode cX11_year 134 = .ok (.ifCond .ge 8, 3) := by decide +kernel
theorem dX11_year_137 : decode cX11_year 137 = .ok (.iload 7, 2) := by decide +kernel
theorem dX11_year_139 : decode cX11_year 139 = .ok (.goto 12, 3) := by decide +kernel
theorem dX11_year_142 : decode cX11_year 142 = .ok (.aload_n 0, 1) := by decide +kernel
theorem dX11_year_143 : decode cX11_year 143 = .ok (.getfield 29, 3) := by decide +kernel
theorem dX11_year_146 : decode cX11_year 146 = .ok (.aload_n 0, 1) := by decide +kernel
theorem dX11_year_147 : decode cX11_year 147 = .ok (.getfield 60, 3) := by decide +kernel
theorem dX11_year_150 : decode cX11_year 150 = .ok (.iaload, 1) := by decide +kernel
theorem dX11_year_151 : decode cX11_year 151 = .ok (.iastore, 1) := by decide +kernel
theorem dX11_year_152 : decode cX11_year 152 = .ok (.aload_n 0, 1) := by decide +kernel
theorem dX11_year_153 : decode cX11_year 153 = .ok (.iload 4, 2) := by decide +kernel
theorem dX11_year_155 : decode cX11_year 155 = .ok (.bipush 16, 2) := by decide +kernel
theorem dX11_year_157 : decode cX11_year 157 = .ok (.idiv, 1) := by decide +kernel
theorem dX11_year_158 : decode cX11_year 158 = .ok (.iconst 3, 1) := by decide +kernel
theorem dX11_year_159 : decode cX11_year 159 = .ok (.irem, 1) := by decide +kernel
theorem dX11_year_160 : decode cX11_year 160 = .ok (.ifCond .ne 15, 3) := by decide +kernel
theorem dX11_year_163 : decode cX11_year 163 = .ok (.aload_n 0, 1) := by decide +kernel
theorem dX11_year_164 : decode cX11_year 164 = .ok (.getfield 60, 3) := by decide +kernel
theorem dX11_year_167 : decode cX11_year 167 = .ok (.iconst 1, 1) := by decide +kernel
theorem dX11_year_168 : decode cX11_year 168 = .ok (.iadd, 1) := by decide +kernel
theorem dX11_year_169 : decode cX11_year 169 = .ok (.bipush 8, 2) := by decide +kernel
theorem dX11_year_171 : decode cX11_year 171 = .ok (.irem, 1) := by decide +kernel
theorem dX11_year_172 : decode cX11_year 172 = .ok (.goto 7, 3) := by decide +kernel
theorem dX11_year_175 : decode cX11_year 175 = .ok (.aload_n 0, 1) := by decide +kernel
theorem dX11_year_176 : decode cX11_year 176 = .ok (.getfield 60, 3) := by decide +kernel
theorem dX11_year_179 : decode cX11_year 179 = .ok (.putfield 60, 3) := by decide +kernel
theorem dX11_year_182 : decode cX11_year 182 = .ok (.aload_n 0, 1) := by decide +kernel
theorem dX11_year_183 : decode cX11_year 183 = .ok (.invokevirtual 88, 3) := by decide +kernel
theorem dX11_year_186 : decode cX11_year 186 = .ok (.iload 5, 2) := by decide +kernel
theorem dX11_year_188 : decode cX11_year 188 = .ok (.aload_n 0, 1) := by decide +kernel
theorem dX11_year_189 : decode cX11_year 189 = .ok (.getfield 60, 3) := by decide +kernel
theorem dX11_year_192 : decode cX11_year 192 = .ok (.iload_n 3, 1) := by decide +kernel
theorem dX11_year_193 : decode cX11_year 193 = .ok (.if_icmp .ne 7, 3) := by decide +kernel
theorem dX11_year_196 : decode cX11_year 196 = .ok (.iconst 1, 1) := by decide +kernel
theorem dX11_year_197 : decode cX11_year 197 = .ok (.goto 4, 3) := by decide +kernel
theorem dX11_year_200 : decode cX11_year 200 = .ok (.iconst 0, 1) := by decide +kernel
theorem dX11_year_201 : decode cX11_year 201 = .ok (.iadd, 1) := by decide +kernel
theorem dX11_year_202 : decode cX11_year 202 = .ok (.istore 5, 2) := by decide +kernel
theorem dX11_year_204 : decode cX11_year 204 = .ok (.iinc 6 1, 3) := by decide +kernel
theorem dX11_year_207 : decode cX11_year 207 = .ok (.goto (-158), 3) := by decide +kernel
theorem dX11_year_210 : decode cX11_year 210 = .ok (.iload_n 3, 1) := by decide +kernel
theorem dX11_year_211 : decode cX11_year 211 = .ok (.ifCond .ge 10, 3) := by decide +kernel
theorem dX11_year_214 : decode cX11_year 214 = .ok (.aload_n 0, 1) := by decide +kernel
theorem dX11_year_215 : decode cX11_year 215 = .ok (.getfield 66, 3) := by decide +kernel
theorem dX11_year_218 : decode cX11_year 218 = .ok (.goto 5, 3) := by decide +kernel
theorem dX11_year_221 : decode cX11_year 221 = .ok (.iload 5, 2) := by decide +kernel
theorem dX11_year_223 : decode cX11_year 223 = .ok (.ireturn, 1) := by decide +kernel
set_option maxRecDepth 20000 in
theorem ggX11_image_X11_in : GoodIn wsX11_image wsX11_in := goodIn_r _ [13] (by decide +kernel) (by decide +kernel)
set_option maxRecDepth 20000 in
theorem gX11_image_X11_in : GoodIn wsX11_image (va_wsS RX11 42 yX11_in wsX11_in) := goodIn_app (goodIn_of _ (by decide +kernel)) ggX11_image_X11_in
theorem dX11_image_0 : decode cX11_image 0 = .ok (.iload_n 1, 1) := by decide +kernel
theorem dX11_image_1 : decode cX11_image 1 = .ok (.iconst 0, 1) := by decide +kernel
theorem dX11_image_2 : decode cX11_image 2 = .ok (.iconst 1, 1) := by decide +kernel
theorem dX11_image_3 : decode cX11_image 3 = .ok (.invokestatic 42, 3) := by decide +kernel
theorem dX11_image_6 : decode cX11_image 6 = .ok (.ifCond .ne 6, 3) := by decide +kernel
theorem dX11_image_9 : decode cX11_image 9 = .ok (.bipush (-2), 2) := by decide +kernel
theorem dX11_image_11 : decode cX11_image 11 = .ok (.ireturn, 1) := by decide +kernel
theorem dX11_image_12 : decode cX11_image 12 = .ok (.bipush 40, 2) := by decide +kernel
theorem dX11_image_14 : decode cX11_image 14 = .ok (.iload_n 1, 1) := by decide +kernel
theorem dX11_image_15 : decode cX11_image 15 = .ok (.imul, 1) := by decide +kernel
theorem dX11_image_16 : decode cX11_image 16 = .ok (.istore_n 2, 1) := by decide +kernel
theorem dX11_image_17 : decode cX11_image 17 = .ok (.iconst 0, 1) := by decide +kernel
theorem dX11_image_18 : decode cX11_image 18 = .ok (.istore_n 3, 1) := by decide +kernel
theorem dX11_image_19 : decode cX11_image 19 = .ok (.iload_n 3, 1) := by decide +kernel
theorem dX11_image_20 : decode cX11_image 20 = .ok (.bipush 8, 2) := by decide +kernel
theorem dX11_image_22 : decode cX11_image 22 = .ok (.if_icmp .ge 57, 3) := by decide +kernel
theorem dX11_image_25 : decode cX11_image 25 = .ok (.aload_n 0, 1) := by decide +kernel
theorem dX11_image_26 : decode cX11_image 26 = .ok (.getfield 35, 3) := by decide +kernel
theorem dX11_image_29 : decode cX11_image 29 = .ok (.iload_n 2, 1) := by decide +kernel
theorem dX11_image_30 : decode cX11_image 30 = .ok (.iload_n 3, 1) := by decide +kernel
theorem dX11_image_31 : decode cX11_image 31 = .ok (.iadd, 1) := by decide +kernel
theorem dX11_image_32 : decode cX11_image 32 = .ok (.aload_n 0, 1) := by decide +kernel
theorem dX11_image_33 : decode cX11_image 33 = .ok (.getfield 7, 3) := by decide +kernel
theorem dX11_image_36 : decode cX11_image 36 = .ok (.iload_n 3, 1) := by decide +kernel
theorem dX11_image_37 : decode cX11_image 37 = .ok (.iaload, 1) := by decide +kernel
theorem dX11_image_38 : decode cX11_image 38 = .ok (.iastore, 1) := by decide +kernel
theorem dX11_image_39 : decode cX11_image 39 = .ok (.aload_n 0, 1) := by decide +kernel
theorem dX11_image_40 : decode cX11_image 40 = .ok (.getfield 35, 3) := by decide +kernel
theorem dX11_image_43 : decode cX11_image 43 = .ok (.iload_n 2, 1) := by decide +kernel
theorem dX11_image_44 : decode cX11_image 44 = .ok (.bipush 8, 2) := by decide +kernel
theorem dX11_image_46 : decode cX11_image 46 = .ok (.iadd, 1) := by decide +kernel
theorem dX11_image_47 : decode cX11_image 47 = .ok (.iload_n 3, 1) := by decide +kernel
theorem dX11_image_48 : decode cX11_image 48 = .ok (.iadd, 1) := by decide +kernel
theorem dX11_image_49 : decode cX11_image 49 = .ok (.aload_n 0, 1) := by decide +kernel
theorem dX11_image_50 : decode cX11_image 50 = .ok (.getfield 13, 3) := by decide +kernel
theorem dX11_image_53 : decode cX11_image 53 = .ok (.iload_n 3, 1) := by decide +kernel
theorem dX11_image_54 : decode cX11_image 54 = .ok (.iaload, 1) := by decide +kernel
theorem dX11_image_55 : decode cX11_image 55 = .ok (.iastore, 1) := by decide +kernel
theorem dX11_image_56 : decode cX11_image 56 = .ok (.aload_n 0, 1) := by decide +kernel
theorem dX11_image_57 : decode cX11_image 57 = .ok (.getfield 35, 3) := by decide +kernel
theorem dX11_image_60 : decode cX11_image 60 = .ok (.iload_n 2, 1) := by decide +kernel
theorem dX11_image_61 : decode cX11_image 61 = .ok (.bipush 16, 2) := by decide +kernel
theorem dX11_image_63 : decode cX11_image 63 = .ok (.iadd, 1) := by decide +kernel
theorem dX11_image_64 : decode cX11_image 64 = .ok (.iload_n 3, 1) := by decide +kernel
theorem dX11_image_65 : decode cX11_image 65 = .ok (.iadd, 1) := by decide +kernel
theorem dX11_image_66 : decode cX11_image 66 = .ok (.aload_n 0, 1) := by decide +kernel
theorem dX11_image_67 : decode cX11_image 67 = .ok (.getfield 16, 3) := by decide +kernel
theorem dX11_image_70 : decode cX11_image 70 = .ok (.iload_n 3, 1) := by decide +kernel
theorem dX11_image_71 : decode cX11_image 71 = .ok (.iaload, 1) := by decide +kernel
theorem dX11_image_72 : decode cX11_image 72 = .ok (.iastore, 1) := by decide +kernel
theorem dX11_image_73 : decode cX11_image 73 = .ok (.iinc 3 1, 3) := by decide +kernel
theorem dX11_image_76 : decode cX11_image 76 = .ok (.goto (-57), 3) := by decide +kernel
theorem dX11_image_79 : decode cX11_image 79 = .ok (.iconst 0, 1) := by decide +kernel
theorem dX11_image_80 : decode cX11_image 80 = .ok (.istore_n 3, 1) := by decide +kernel
theorem dX11_image_81 : decode cX11_image 81 = .ok (.iload_n 3, 1) := by decide +kernel
theorem dX11_image_82 : decode cX11_image 82 = .ok (.bipush 12, 2) := by decide +kernel
theorem dX11_image_84 : decode cX11_image 84 = .ok (.if_icmp .ge 26, 3) := by decide +kernel
theorem dX11_image_87 : decode cX11_image 87 = .ok (.aload_n 0, 1) := by decide +kernel
theorem dX11_image_88 : decode cX11_image 88 = .ok (.getfield 35, 3) := by decide +kernel
theorem dX11_image_91 : decode cX11_image 91 = .ok (.iload_n 2, 1) := by decide +kernel
theorem dX11_image_92 : decode cX11_image 92 = .ok (.bipush 24, 2) := by decide +kernel
theorem dX11_image_94 : decode cX11_image 94 = .ok (.iadd, 1) := by decide +kernel
theorem dX11_image_95 : decode cX11_image 95 = .ok (.iload_n 3, 1) := by decide +kernel
theorem dX11_image_96 : decode cX11_image 96 = .ok (.iadd, 1) := by decide +kernel
theorem dX11_image_97 : decode cX11_image 97 = .ok (.aload_n 0, 1) := by decide +kernel
theorem dX11_image_98 : decode cX11_image 98 = .ok (.getfield 23, 3) := by decide +kernel
theorem dX11_image_101 : decode cX11_image 101 = .ok (.iload_n 3, 1) := by decide +kernel
theorem dX11_image_102 : decode cX11_image 102 = .ok (.iaload, 1) := by decide +kernel
theorem dX11_image_103 : decode cX11_image 103 = .ok (.iastore, 1) := by decide +kernel
theorem dX11_image_104 : decode cX11_image 104 = .ok (.iinc 3 1, 3) := by decide +kernel
theorem dX11_image_107 : decode cX11_image 107 = .ok (.goto (-26), 3) := by decide +kernel
theorem dX11_image_110 : decode cX11_image 110 = .ok (.aload_n 0, 1) := by decide +kernel
theorem dX11_image_111 : decode cX11_image 111 = .ok (.getfield 35, 3) := by decide +kernel
theorem dX11_image_114 : decode cX11_image 114 = .ok (.iload_n 2, 1) := by decide +kernel
theorem dX11_image_115 : decode cX11_image 115 = .ok (.bipush 36, 2) := by decide +kernel
theorem dX11_image_117 : decode cX11_image 117 = .ok (.iadd, 1) := by decide +kernel
theorem dX11_image_118 : decode cX11_image 118 = .ok (.aload_n 0, 1) := by decide +kernel
theorem dX11_image_119 : decode cX11_image 119 = .ok (.getfield 57, 3) := by decide +kernel
theorem dX11_image_122 : decode cX11_image 122 = .ok (.iastore, 1) := by decide +kernel
theorem dX11_image_123 : decode cX11_image 123 = .ok (.aload_n 0, 1) := by decide +kernel
theorem dX11_image_124 : decode cX11_image 124 = .ok (.getfield 35, 3) := by decide +kernel
theorem dX11_image_127 : decode cX11_image 127 = .ok (.iload_n 2, 1) := by decide +kernel
theorem dX11_image_128 : decode cX11_image 128 = .ok (.bipush 37, 2) := by decide +kernel
theorem dX11_image_130 : decode cX11_image 130 = .ok (.iadd, 1) := by decide +kernel
theorem dX11_image_131 : decode cX11_image 131 = .ok (.aload_n 0, 1) := by decide +kernel
theorem dX11_image_132 : decode cX11_image 132 = .ok (.getfield 19, 3) := by decide +kernel
theorem dX11_image_135 : decode cX11_image 135 = .ok (.iastore, 1) := by decide +kernel
theorem dX11_image_136 : decode cX11_image 136 = .ok (.aload_n 0, 1) := by decide +kernel
theorem dX11_image_137 : decode cX11_image 137 = .ok (.getfield 35, 3) := by decide +kernel
theorem dX11_image_140 : decode cX11_image 140 = .ok (.iload_n 2, 1) := by decide +kernel
theorem dX11_image_141 : decode cX11_image 141 = .ok (.bipush 38, 2) := by decide +kernel
theorem dX11_image_143 : decode cX11_image 143 = .ok (.iadd, 1) := by decide +kernel
theorem dX11_image_144 : decode cX11_image 144 = .ok (.aload_n 0, 1) := by decide +kernel
theorem dX11_image_145 : decode cX11_image 145 = .ok (.getfield 115, 3) := by decide +kernel
theorem dX11_image_148 : decode cX11_image 148 = .ok (.iastore, 1) := by decide +kernel
theorem dX11_image_149 : decode cX11_image 149 = .ok (.aload_n 0, 1) := by decide +kernel
theorem dX11_image_150 : decode cX11_image 150 = .ok (.getfield 38, 3) := by decide +kernel
theorem dX11_image_153 : decode cX11_image 153 = .ok (.iload_n 1, 1) := by decide +kernel
theorem dX11_image_154 : decode cX11_image 154 = .ok (.iconst 1, 1) := by decide +kernel
theorem dX11_image_155 : decode cX11_image 155 = .ok (.bastore, 1) := by decide +kernel
theorem dX11_image_156 : decode cX11_image 156 = .ok (.iconst 1, 1) := by decide +kernel
theorem dX11_image_157 : decode cX11_image 157 = .ok (.ireturn, 1) := by decide +kernel
set_option maxRecDepth 20000 in
theorem ggX11_restore_X11_in : GoodIn wsX11_restore wsX11_in := goodIn_r _ [13] (by decide +kernel) (by decide +kernel)
set_option maxRecDepth 20000 in
theorem gX11_restore_X11_in : GoodIn wsX11_restore (va_wsS RX11 42 yX11_in wsX11_in) := goodIn_app (goodIn_of _ (by decide +kernel)) ggX11_restore_X11_in
theorem dX11_restore_0 : decode cX11_restore 0 = .ok (.iload_n 1, 1) := by decide +kernel
theorem dX11_restore_1 : decode cX11_restore 1 = .ok (.iconst 0, 1) := by decide +kernel
theorem dX11_restore_2 : decode cX11_restore 2 = .ok (.iconst 1, 1) := by decide +kernel
theorem dX11_restore_3 : decode cX11_restore 3 = .ok (.invokestatic 42, 3) := by decide +kernel
theorem dX11_restore_6 : decode cX11_restore 6 = .ok (.ifCond .ne 6, 3) := by decide +kernel
theorem dX11_restore_9 : decode cX11_restore 9 = .ok (.bipush (-2), 2) := by decide +kernel
theorem dX11_restore_11 : decode cX11_restore 11 = .ok (.ireturn, 1) := by decide +kernel
theorem dX11_restore_12 : decode cX11_restore 12 = .ok (.aload_n 0, 1) := by decide +kernel
theorem dX11_restore_13 : decode cX11_restore 13 = .ok (.getfield 38, 3) := by decide +kernel
theorem dX11_restore_16 : decode cX11_restore 16 = .ok (.iload_n 1, 1) := by decide +kernel
theorem dX11_restore_17 : decode cX11_restore 17 = .ok (.baload, 1) := by decide +kernel
theorem dX11_restore_18 : decode cX11_restore 18 = .ok (.ifCond .ne 6, 3) := by decide +kernel
theorem dX11_restore_21 : decode cX11_restore 21 = .ok (.bipush (-3), 2) := by decide +kernel
theorem dX11_restore_23 : decode cX11_restore 23 = .ok (.ireturn, 1) := by decide +kernel
theorem dX11_restore_24 : decode cX11_restore 24 = .ok (.bipush 40, 2) := by decide +kernel
theorem dX11_restore_26 : decode cX11_restore 26 = .ok (.iload_n 1, 1) := by decide +kernel
theorem dX11_restore_27 : decode cX11_restore 27 = .ok (.imul, 1) := by decide +kernel
theorem dX11_restore_28 : decode cX11_restore 28 = .ok (.istore_n 2, 1) := by decide +kernel
theorem dX11_restore_29 : decode cX11_restore 29 = .ok (.iconst 0, 1) := by decide +kernel
theorem dX11_restore_30 : decode cX11_restore 30 = .ok (.istore_n 3, 1) := by decide +kernel
theorem dX11_restore_31 : decode cX11_restore 31 = .ok (.iload_n 3, 1) := by decide +kernel
theorem dX11_restore_32 : decode cX11_restore 32 = .ok (.bipush 8, 2) := by decide +kernel
theorem dX11_restore_34 : decode cX11_restore 34 = .ok (.if_icmp .ge 57, 3) := by decide +kernel
theorem dX11_restore_37 : decode cX11_restore 37 = .ok (.aload_n 0, 1) := by decide +kernel
theorem dX11_restore_38 : decode cX11_restore 38 = .ok (.getfield 7, 3) := by decide +kernel
theorem dX11_restore_41 : decode cX11_restore 41 = .ok (.iload_n 3, 1) := by decide +kernel
theorem dX11_restore_42 : decode cX11_restore 42 = .ok (.aload_n 0, 1) := by decide +kernel
theorem dX11_restore_43 : decode cX11_restore 43 = .ok (.getfield 35, 3) := by decide +kernel
theorem dX11_restore_46 : decode cX11_restore 46 = .ok (.iload_n 2, 1) := by decide +kernel
theorem dX11_restore_47 : decode cX11_restore 47 = .ok (.iload_n 3, 1) := by decide +kernel
theorem dX11_restore_48 : decode cX11_restore 48 = .ok (.iadd, 1) := by decide +kernel
theorem dX11_restore_49 : decode cX11_restore 49 = .ok (.iaload, 1) := by decide +kernel
theorem dX11_restore_50 : decode cX11_restore 50 = .ok (.iastore, 1) := by decide +kernel
theorem dX11_restore_51 : decode cX11_restore 51 = .ok (.aload_n 0, 1) := by decide +kernel
theorem dX11_restore_52 : decode cX11_restore 52 = .ok (.getfield 13, 3) := by decide +kernel
theorem dX11_restore_55 : decode cX11_restore 55 = .ok (.iload_n 3, 1) := by decide +kernel
theorem dX11_restore_56 : decode cX11_restore 56 = .ok (.aload_n 0, 1) := by decide +kernel
theorem dX11_restore_57 : decode cX11_restore 57 = .ok (.getfield 35, 3) := by decide +kernel
theorem dX11_restore_60 : decode cX11_restore 60 = .ok (.iload_n 2, 1) := by decide +kernel
theorem dX11_restore_61 : decode cX11_restore 61 = .ok (.bipush 8, 2) := by decide +kernel
theorem dX11_restore_63 : decode cX11_restore 63 = .ok (.iadd, 1) := by decide +kernel
theorem dX11_restore_64 : decode cX11_restore 64 = .ok (.iload_n 3, 1) := by decide +kernel
theorem dX11_restore_65 : decode cX11_restore 65 = .ok (.iadd, 1) := by decide +kernel
theorem dX11_restore_66 : decode cX11_restore 66 = .ok (.iaload, 1) := by decide +kernel
theorem dX11_restore_67 : decode cX11_restore 67 = .ok (.iastore, 1) := by decide +kernel
theorem dX11_restore_68 : decode cX11_restore 68 = .ok (.aload_n 0, 1) := by decide +kernel
theorem dX11_restore_69 : decode cX11_restore 69 = .ok (.getfield 16, 3) := by decide +kernel
theorem dX11_restore_72 : decode cX11_restore 72 = .ok (.iload_n 3, 1) := by decide +kernel
theorem dX11_restore_73 : decode cX11_restore 73 = .ok (.aload_n 0, 1) := by decide +kernel
theorem dX11_restore_74 : decode cX11_restore 74 = .ok (.getfield 35, 3) := by decide +kernel
theorem dX11_restore_77 : decode cX11_restore 77 = .ok (.iload_n 2, 1) := by decide +kernel
theorem dX11_restore_78 : decode cX11_restore 78 = .ok (.bipush 16, 2) := by decide +kernel
theorem dX11_restore_80 : decode cX11_restore 80 = .ok (.iadd, 1) := by decide +kernel
theorem dX11_restore_81 : decode cX11_restore 81 = .ok (.iload_n 3, 1) := by decide +kernel
theorem dX11_restore_82 : decode cX11_restore 82 = .ok (.iadd, 1) := by decide +kernel
theorem dX11_restore_83 : decode cX11_restore 83 = .ok (.iaload, 1) := by decide +kernel
theorem dX11_restore_84 : decode cX11_restore 84 = .ok (.iastore, 1) := by decide +kernel
theorem dX11_restore_85 : decode cX11_restore 85 = .ok (.iinc 3 1, 3) := by decide +kernel
theorem dX11_restore_88 : decode cX11_restore 88 = .ok (.goto (-57), 3) := by decide +kernel
theorem dX11_restore_91 : decode cX11_restore 91 = .ok (.iconst 0, 1) := by decide +kernel
theorem dX11_restore_92 : decode cX11_restore 92 = .ok (.istore_n 3, 1) := by decide +kernel
theorem dX11_restore_93 : decode cX11_restore 93 = .ok (.iload_n 3, 1) := by decide +kernel
theorem dX11_restore_94 : decode cX11_restore 94 = .ok (.bipush 12, 2) := by decide +kernel
theorem dX11_restore_96 : decode cX11_restore 96 = .ok (.if_icmp .ge 26, 3) := by decide +kernel
theorem dX11_restore_99 : decode cX11_restore 99 = .ok (.aload_n 0, 1) := by decide +kernel
theorem dX11_restore_100 : decode cX11_restore 100 = .ok (.getfield 23, 3) := by decide +kernel
theorem dX11_restore_103 : decode cX11_restore 103 = .ok (.iload_n 3, 1) := by decide +kernel
theorem dX11_restore_104 : decode cX11_restore 104 = .ok (.aload_n 0, 1) := by decide +kernel
theorem dX11_restore_105 : decode cX11_restore 105 = .ok (.getfield 35, 3) := by decide +kernel
theorem dX11_restore_108 : decode cX11_restore 108 = .ok (.iload_n 2, 1) := by decide +kernel
theorem dX11_restore_109 : decode cX11_restore 109 = .ok (.bipush 24, 2) := by decide +kernel
theorem dX11_restore_111 : decode cX11_restore 111 = .ok (.iadd, 1) := by decide +kernel
theorem dX11_restore_112 : decode cX11_restore 112 = .ok (.iload_n 3, 1) := by decide +kernel
theorem dX11_restore_113 : decode cX11_restore 113 = .ok (.iadd, 1) := by decide +kernel
theorem dX11_restore_114 : decode cX11_restore 114 = .ok (.iaload, 1) := by decide +kernel
theorem dX11_restore_115 : decode cX11_restore 115 = .ok (.iastore, 1) := by decide +kernel
theorem dX11_restore_116 : decode cX11_restore 116 = .ok (.iinc 3 1, 3) := by decide +kernel
theorem dX11_restore_119 : decode cX11_restore 119 = .ok (.goto (-26), 3) := by decide +kernel
theorem dX11_restore_122 : decode cX11_restore 122 = .ok (.aload_n 0, 1) := by decide +kernel
theorem dX11_restore_123 : decode cX11_restore 123 = .ok (.aload_n 0, 1) := by decide +kernel
theorem dX11_restore_124 : decode cX11_restore 124 = .ok (.getfield 35, 3) := by decide +kernel
theorem dX11_restore_127 : decode cX11_restore 127 = .ok (.iload_n 2, 1) := by decide +kernel
theorem dX11_restore_128 : decode cX11_restore 128 = .ok (.bipush 36, 2) := by decide +kernel
theorem dX11_restore_130 : decode cX11_restore 130 = .ok (.iadd, 1) := by decide +kernel
theorem dX11_restore_131 : decode cX11_restore 131 = .ok (.iaload, 1) := by decide +kernel
theorem dX11_restore_132 : decode cX11_restore 132 = .ok (.putfield 57, 3) := by decide +kernel
theorem dX11_restore_135 : decode cX11_restore 135 = .ok (.aload_n 0, 1) := by decide +kernel
theorem dX11_restore_136 : decode cX11_restore 136 = .ok (.aload_n 0, 1) := by decide +kernel
theorem dX11_restore_137 : decode cX11_restore 137 = .ok (.getfield 35, 3) := by decide +kernel
theorem dX11_restore_140 : decode cX11_restore 140 = .ok (.iload_n 2, 1) := by decide +kernel
theorem dX11_restore_141 : decode cX11_restore 141 = .ok (.bipush 37, 2) := by decide +kernel
theorem dX11_restore_143 : decode cX11_restore 143 = .ok (.iadd, 1) := by decide +kernel
theorem dX11_restore_144 : decode cX11_restore 144 = .ok (.iaload, 1) := by decide +kernel
theorem dX11_restore_145 : decode cX11_restore 145 = .ok (.putfield 19, 3) := by decide +kernel
theorem dX11_restore_148 : decode cX11_restore 148 = .ok (.aload_n 0, 1) := by decide +kernel
theorem dX11_restore_149 : decode cX11_restore 149 = .ok (.aload_n 0, 1) := by decide +kernel
theorem dX11_restore_150 : decode cX11_restore 150 = .ok (.getfield 35, 3) := by decide +kernel
theorem dX11_restore_153 : decode cX11_restore 153 = .ok (.iload_n 2, 1) := by decide +kernel
theorem dX11_restore_154 : decode cX11_restore 154 = .ok (.bipush 38, 2) := by decide +kernel
theorem dX11_restore_156 : decode cX11_restore 156 = .ok (.iadd, 1) := by decide +kernel
theorem dX11_restore_157 : decode cX11_restore 157 = .ok (.iaload, 1) := by decide +kernel
theorem dX11_restore_158 : decode cX11_restore 158 = .ok (.putfield 115, 3) := by decide +kernel
theorem dX11_restore_161 : decode cX11_restore 161 = .ok (.iconst 1, 1) := by decide +kernel
theorem dX11_restore_162 : decode cX11_restore 162 = .ok (.ireturn, 1) := by decide +kernel
set_option maxRecDepth 20000 in
theorem ggX11_told_X11_in : GoodIn wsX11_told wsX11_in := goodIn_r _ [9] (by decide +kernel) (by decide +kernel)
set_option maxRecDepth 20000 in
theorem gX11_told_X11_in : GoodIn wsX11_told (va_wsS RX11 42 yX11_in wsX11_in) := goodIn_app (goodIn_of _ (by decide +kernel)) ggX11_told_X11_in
set_option maxRecDepth 20000 in
theorem ggX11_told_X11_asNow : GoodIn wsX11_told wsX11_asNow := goodIn_r _ [13, 14, 15, 16, 17, 18, 5, 19, 20, 25, 26, 27, 28, 29, 30, 31, 32, 33, 34, 35, 36, 37, 38, 39, 40, 41] (by decide +kernel) (by decide +kernel)
set_option maxRecDepth 20000 in
theorem gX11_told_X11_asNow : GoodIn wsX11_told (wsV RX11 76 RX11 yX11_asNow wsX11_asNow) := goodIn_app (goodIn_of _ (by decide +kernel)) ggX11_told_X11_asNow
set_option maxRecDepth 20000 in
theorem ggX11_told_X11_carOf : GoodIn wsX11_told wsX11_carOf := goodIn_r _ [24, 18, 25, 26, 27, 28, 29, 30, 31, 32, 33, 34, 35, 36, 37, 38, 39, 40, 41] (by decide +kernel) (by decide +kernel)
set_option maxRecDepth 20000 in
theorem gX11_told_X11_carOf : GoodIn wsX11_told (wsV RX11 85 RX11 yX11_carOf wsX11_carOf) := goodIn_app (goodIn_of _ (by decide +kernel)) ggX11_told_X11_carOf
theorem dX11_told_0 : decode cX11_told 0 = .ok (.iload_n 1, 1) := by decide +kernel
theorem dX11_told_1 : decode cX11_told 1 = .ok (.bipush 10, 2) := by decide +kernel
theorem dX11_told_3 : decode cX11_told 3 = .ok (.bipush 17, 2) := by decide +kernel
theorem dX11_told_5 : decode cX11_told 5 = .ok (.invokestatic 42, 3) := by decide +kernel
theorem dX11_told_8 : decode cX11_told 8 = .ok (.ifCond .eq 13, 3) := by decide +kernel
theorem dX11_told_11 : decode cX11_told 11 = .ok (.aload_n 0, 1) := by decide +kernel
theorem dX11_told_12 : decode cX11_told 12 = .ok (.getfield 7, 3) := by decide +kernel
theorem dX11_told_15 : decode cX11_told 15 = .ok (.iload_n 1, 1) := by decide +kernel
theorem dX11_told_16 : decode cX11_told 16 = .ok (.bipush 10, 2) := by decide +kernel
theorem dX11_told_18 : decode cX11_told 18 = .ok (.isub, 1) := by decide +kernel
theorem dX11_told_19 : decode cX11_told 19 = .ok (.iaload, 1) := by decide +kernel
theorem dX11_told_20 : decode cX11_told 20 = .ok (.ireturn, 1) := by decide +kernel
theorem dX11_told_21 : decode cX11_told 21 = .ok (.iload_n 1, 1) := by decide +kernel
theorem dX11_told_22 : decode cX11_told 22 = .ok (.bipush 20, 2) := by decide +kernel
theorem dX11_told_24 : decode cX11_told 24 = .ok (.bipush 27, 2) := by decide +kernel
theorem dX11_told_26 : decode cX11_told 26 = .ok (.invokestatic 42, 3) := by decide +kernel
theorem dX11_told_29 : decode cX11_told 29 = .ok (.ifCond .eq 16, 3) := by decide +kernel
theorem dX11_told_32 : decode cX11_told 32 = .ok (.aload_n 0, 1) := by decide +kernel
theorem dX11_told_33 : decode cX11_told 33 = .ok (.invokevirtual 76, 3) := by decide +kernel
theorem dX11_told_36 : decode cX11_told 36 = .ok (.aload_n 0, 1) := by decide +kernel
theorem dX11_told_37 : decode cX11_told 37 = .ok (.iload_n 1, 1) := by decide +kernel
theorem dX11_told_38 : decode cX11_told 38 = .ok (.bipush 20, 2) := by decide +kernel
theorem dX11_told_40 : decode cX11_told 40 = .ok (.isub, 1) := by decide +kernel
theorem dX11_told_41 : decode cX11_told 41 = .ok (.invokevirtual 85, 3) := by decide +kernel
theorem dX11_told_44 : decode cX11_told 44 = .ok (.ireturn, 1) := by decide +kernel
theorem dX11_told_45 : decode cX11_told 45 = .ok (.iload_n 1, 1) := by decide +kernel
theorem dX11_told_46 : decode cX11_told 46 = .ok (.tableswitch 82 0 3 #[30, 35, 40, 45], 30) := by decide +kernel
theorem dX11_told_76 : decode cX11_told 76 = .ok (.aload_n 0, 1) := by decide +kernel
theorem dX11_told_77 : decode cX11_told 77 = .ok (.getfield 50, 3) := by decide +kernel
theorem dX11_told_80 : decode cX11_told 80 = .ok (.ireturn, 1) := by decide +kernel
theorem dX11_told_81 : decode cX11_told 81 = .ok (.aload_n 0, 1) := by decide +kernel
theorem dX11_told_82 : decode cX11_told 82 = .ok (.getfield 19, 3) := by decide +kernel
theorem dX11_told_85 : decode cX11_told 85 = .ok (.ireturn, 1) := by decide +kernel
theorem dX11_told_86 : decode cX11_told 86 = .ok (.aload_n 0, 1) := by decide +kernel
theorem dX11_told_87 : decode cX11_told 87 = .ok (.getfield 115, 3) := by decide +kernel
theorem dX11_told_90 : decode cX11_told 90 = .ok (.ireturn, 1) := by decide +kernel
theorem dX11_told_91 : decode cX11_told 91 = .ok (.iconst 0, 1) := by decide +kernel
theorem dX11_told_92 : decode cX11_told 92 = .ok (.istore_n 2, 1) := by decide +kernel
theorem dX11_told_93 : decode cX11_told 93 = .ok (.iconst 0, 1) := by decide +kernel
theorem dX11_told_94 : decode cX11_told 94 = .ok (.istore_n 3, 1) := by decide +kernel
theorem dX11_told_95 : decode cX11_told 95 = .ok (.iload_n 3, 1) := by decide +kernel
theorem dX11_told_96 : decode cX11_told 96 = .ok (.bipush 8, 2) := by decide +kernel
theorem dX11_told_98 : decode cX11_told 98 = .ok (.if_icmp .ge 28, 3) := by decide +kernel
theorem dX11_told_101 : decode cX11_told 101 = .ok (.iload_n 2, 1) := by decide +kernel
theorem dX11_told_102 : decode cX11_told 102 = .ok (.aload_n 0, 1) := by decide +kernel
theorem dX11_told_103 : decode cX11_told 103 = .ok (.getfield 13, 3) := by decide +kernel
theorem dX11_told_106 : decode cX11_told 106 = .ok (.iload_n 3, 1) := by decide +kernel
theorem dX11_told_107 : decode cX11_told 107 = .ok (.iaload, 1) := by decide +kernel
theorem dX11_told_108 : decode cX11_told 108 = .ok (.ifCond .ge 7, 3) := by decide +kernel
theorem dX11_told_111 : decode cX11_told 111 = .ok (.iconst 0, 1) := by decide +kernel
theorem dX11_told_112 : decode cX11_told 112 = .ok (.goto 6, 3) := by decide +kernel
theorem dX11_told_115 : decode cX11_told 115 = .ok (.iconst 1, 1) := by decide +kernel
theorem dX11_told_116 : decode cX11_told 116 = .ok (.iload_n 3, 1) := by decide +kernel
theorem dX11_told_117 : decode cX11_told 117 = .ok (.ishl, 1) := by decide +kernel
theorem dX11_told_118 : decode cX11_told 118 = .ok (.ior, 1) := by decide +kernel
theorem dX11_told_119 : decode cX11_told 119 = .ok (.istore_n 2, 1) := by decide +kernel
theorem dX11_told_120 : decode cX11_told 120 = .ok (.iinc 3 1, 3) := by decide +kernel
theorem dX11_told_123 : decode cX11_told 123 = .ok (.goto (-28), 3) := by decide +kernel
theorem dX11_told_126 : decode cX11_told 126 = .ok (.iload_n 2, 1) := by decide +kernel
theorem dX11_told_127 : decode cX11_told 127 = .ok (.ireturn, 1) := by decide +kernel
theorem dX11_told_128 : decode cX11_told 128 = .ok (.bipush (-2), 2) := by decide +kernel
theorem dX11_told_130 : decode cX11_told 130 = .ok (.ireturn, 1) := by decide +kernel
theorem dJ6_bitCount_0f7a4_0 : decode cJ6_bitCount_0f7a4 0 = .ok (.iload_n 0, 1) := by decide +kernel
theorem dJ6_bitCount_0f7a4_1 : decode cJ6_bitCount_0f7a4 1 = .ok (.iload_n 0, 1) := by decide +kernel
theorem dJ6_bitCount_0f7a4_2 : decode cJ6_bitCount_0f7a4 2 = .ok (.iconst 1, 1) := by decide +kernel
theorem dJ6_bitCount_0f7a4_3 : decode cJ6_bitCount_0f7a4 3 = .ok (.iushr, 1) := by decide +kernel
theorem dJ6_bitCount_0f7a4_4 : decode cJ6_bitCount_0f7a4 4 = .ok (.ldc_w 265, 3) := by decide +kernel
theorem dJ6_bitCount_0f7a4_7 : decode cJ6_bitCount_0f7a4 7 = .ok (.iand, 1) := by decide +kernel
theorem dJ6_bitCount_0f7a4_8 : decode cJ6_bitCount_0f7a4 8 = .ok (.isub, 1) := by decide +kernel
theorem dJ6_bitCount_0f7a4_9 : decode cJ6_bitCount_0f7a4 9 = .ok (.istore_n 0, 1) := by decide +kernel
theorem dJ6_bitCount_0f7a4_10 : decode cJ6_bitCount_0f7a4 10 = .ok (.iload_n 0, 1) := by decide +kernel
theorem dJ6_bitCount_0f7a4_11 : decode cJ6_bitCount_0f7a4 11 = .ok (.ldc_w 266, 3) := by decide +kernel
theorem dJ6_bitCount_0f7a4_14 : decode cJ6_bitCount_0f7a4 14 = .ok (.iand, 1) := by decide +kernel
theorem dJ6_bitCount_0f7a4_15 : decode cJ6_bitCount_0f7a4 15 = .ok (.iload_n 0, 1) := by decide +kernel
theorem dJ6_bitCount_0f7a4_16 : decode cJ6_bitCount_0f7a4 16 = .ok (.iconst 2, 1) := by decide +kernel
theorem dJ6_bitCount_0f7a4_17 : decode cJ6_bitCount_0f7a4 17 = .ok (.iushr, 1) := by decide +kernel
theorem dJ6_bitCount_0f7a4_18 : decode cJ6_bitCount_0f7a4 18 = .ok (.ldc_w 266, 3) := by decide +kernel
theorem dJ6_bitCount_0f7a4_21 : decode cJ6_bitCount_0f7a4 21 = .ok (.iand, 1) := by decide +kernel
theorem dJ6_bitCount_0f7a4_22 : decode cJ6_bitCount_0f7a4 22 = .ok (.iadd, 1) := by decide +kernel
theorem dJ6_bitCount_0f7a4_23 : decode cJ6_bitCount_0f7a4 23 = .ok (.istore_n 0, 1) := by decide +kernel
theorem dJ6_bitCount_0f7a4_24 : decode cJ6_bitCount_0f7a4 24 = .ok (.iload_n 0, 1) := by decide +kernel
theorem dJ6_bitCount_0f7a4_25 : decode cJ6_bitCount_0f7a4 25 = .ok (.iload_n 0, 1) := by decide +kernel
theorem dJ6_bitCount_0f7a4_26 : decode cJ6_bitCount_0f7a4 26 = .ok (.iconst 4, 1) := by decide +kernel
theorem dJ6_bitCount_0f7a4_27 : decode cJ6_bitCount_0f7a4 27 = .ok (.iushr, 1) := by decide +kernel
theorem dJ6_bitCount_0f7a4_28 : decode cJ6_bitCount_0f7a4 28 = .ok (.iadd, 1) := by decide +kernel
theorem dJ6_bitCount_0f7a4_29 : decode cJ6_bitCount_0f7a4 29 = .ok (.ldc_w 267, 3) := by decide +kernel
theorem dJ6_bitCount_0f7a4_32 : decode cJ6_bitCount_0f7a4 32 = .ok (.iand, 1) := by decide +kernel
theorem dJ6_bitCount_0f7a4_33 : decode cJ6_bitCount_0f7a4 33 = .ok (.istore_n 0, 1) := by decide +kernel
theorem dJ6_bitCount_0f7a4_34 : decode cJ6_bitCount_0f7a4 34 = .ok (.iload_n 0, 1) := by decide +kernel
theorem dJ6_bitCount_0f7a4_35 : decode cJ6_bitCount_0f7a4 35 = .ok (.iload_n 0, 1) := by decide +kernel
theorem dJ6_bitCount_0f7a4_36 : decode cJ6_bitCount_0f7a4 36 = .ok (.bipush 8, 2) := by decide +kernel
theorem dJ6_bitCount_0f7a4_38 : decode cJ6_bitCount_0f7a4 38 = .ok (.iushr, 1) := by decide +kernel
theorem dJ6_bitCount_0f7a4_39 : decode cJ6_bitCount_0f7a4 39 = .ok (.iadd, 1) := by decide +kernel
theorem dJ6_bitCount_0f7a4_40 : decode cJ6_bitCount_0f7a4 40 = .ok (.istore_n 0, 1) := by decide +kernel
theorem dJ6_bitCount_0f7a4_41 : decode cJ6_bitCount_0f7a4 41 = .ok (.iload_n 0, 1) := by decide +kernel
theorem dJ6_bitCount_0f7a4_42 : decode cJ6_bitCount_0f7a4 42 = .ok (.iload_n 0, 1) := by decide +kernel
theorem dJ6_bitCount_0f7a4_43 : decode cJ6_bitCount_0f7a4 43 = .ok (.bipush 16, 2) := by decide +kernel
theorem dJ6_bitCount_0f7a4_45 : decode cJ6_bitCount_0f7a4 45 = .ok (.iushr, 1) := by decide +kernel
theorem dJ6_bitCount_0f7a4_46 : decode cJ6_bitCount_0f7a4 46 = .ok (.iadd, 1) := by decide +kernel
theorem dJ6_bitCount_0f7a4_47 : decode cJ6_bitCount_0f7a4 47 = .ok (.istore_n 0, 1) := by decide +kernel
theorem dJ6_bitCount_0f7a4_48 : decode cJ6_bitCount_0f7a4 48 = .ok (.iload_n 0, 1) := by decide +kernel
theorem dJ6_bitCount_0f7a4_49 : decode cJ6_bitCount_0f7a4 49 = .ok (.bipush 63, 2) := by decide +kernel
theorem dJ6_bitCount_0f7a4_51 : decode cJ6_bitCount_0f7a4 51 = .ok (.iand, 1) := by decide +kernel
theorem dJ6_bitCount_0f7a4_52 : decode cJ6_bitCount_0f7a4 52 = .ok (.ireturn, 1) := by decide +kernel
theorem dJ9_floorMod_7cf53_0 : decode cJ9_floorMod_7cf53 0 = .ok (.iload_n 0, 1) := by decide +kernel
theorem dJ9_floorMod_7cf53_1 : decode cJ9_floorMod_7cf53 1 = .ok (.iload_n 1, 1) := by decide +kernel
theorem dJ9_floorMod_7cf53_2 : decode cJ9_floorMod_7cf53 2 = .ok (.irem, 1) := by decide +kernel
theorem dJ9_floorMod_7cf53_3 : decode cJ9_floorMod_7cf53 3 = .ok (.istore_n 2, 1) := by decide +kernel
theorem dJ9_floorMod_7cf53_4 : decode cJ9_floorMod_7cf53 4 = .ok (.iload_n 0, 1) := by decide +kernel
theorem dJ9_floorMod_7cf53_5 : decode cJ9_floorMod_7cf53 5 = .ok (.iload_n 1, 1) := by decide +kernel
theorem dJ9_floorMod_7cf53_6 : decode cJ9_floorMod_7cf53 6 = .ok (.ixor, 1) := by decide +kernel
theorem dJ9_floorMod_7cf53_7 : decode cJ9_floorMod_7cf53 7 = .ok (.ifCond .ge 11, 3) := by decide +kernel
theorem dJ9_floorMod_7cf53_10 : decode cJ9_floorMod_7cf53 10 = .ok (.iload_n 2, 1) := by decide +kernel
theorem dJ9_floorMod_7cf53_11 : decode cJ9_floorMod_7cf53 11 = .ok (.ifCond .eq 7, 3) := by decide +kernel
theorem dJ9_floorMod_7cf53_14 : decode cJ9_floorMod_7cf53 14 = .ok (.iload_n 2, 1) := by decide +kernel
theorem dJ9_floorMod_7cf53_15 : decode cJ9_floorMod_7cf53 15 = .ok (.iload_n 1, 1) := by decide +kernel
theorem dJ9_floorMod_7cf53_16 : decode cJ9_floorMod_7cf53 16 = .ok (.iadd, 1) := by decide +kernel
theorem dJ9_floorMod_7cf53_17 : decode cJ9_floorMod_7cf53 17 = .ok (.ireturn, 1) := by decide +kernel
theorem dJ9_floorMod_7cf53_18 : decode cJ9_floorMod_7cf53 18 = .ok (.iload_n 2, 1) := by decide +kernel
theorem dJ9_floorMod_7cf53_19 : decode cJ9_floorMod_7cf53 19 = .ok (.ireturn, 1) := by decide +kernel
theorem dJ9_abs_0f7a4_0 : decode cJ9_abs_0f7a4 0 = .ok (.iload_n 0, 1) := by decide +kernel
theorem dJ9_abs_0f7a4_1 : decode cJ9_abs_0f7a4 1 = .ok (.ifCond .ge 8, 3) := by decide +kernel
theorem dJ9_abs_0f7a4_4 : decode cJ9_abs_0f7a4 4 = .ok (.iload_n 0, 1) := by decide +kernel
theorem dJ9_abs_0f7a4_5 : decode cJ9_abs_0f7a4 5 = .ok (.ineg, 1) := by decide +kernel
theorem dJ9_abs_0f7a4_6 : decode cJ9_abs_0f7a4 6 = .ok (.goto 4, 3) := by decide +kernel
theorem dJ9_abs_0f7a4_9 : decode cJ9_abs_0f7a4 9 = .ok (.iload_n 0, 1) := by decide +kernel
theorem dJ9_abs_0f7a4_10 : decode cJ9_abs_0f7a4 10 = .ok (.ireturn, 1) := by decide +kernel
theorem dJ9_max_7cf53_0 : decode cJ9_max_7cf53 0 = .ok (.iload_n 0, 1) := by decide +kernel
theorem dJ9_max_7cf53_1 : decode cJ9_max_7cf53 1 = .ok (.iload_n 1, 1) := by decide +kernel
theorem dJ9_max_7cf53_2 : decode cJ9_max_7cf53 2 = .ok (.if_icmp .lt 7, 3) := by decide +kernel
theorem dJ9_max_7cf53_5 : decode cJ9_max_7cf53 5 = .ok (.iload_n 0, 1) := by decide +kernel
theorem dJ9_max_7cf53_6 : decode cJ9_max_7cf53 6 = .ok (.goto 4, 3) := by decide +kernel
theorem dJ9_max_7cf53_9 : decode cJ9_max_7cf53 9 = .ok (.iload_n 1, 1) := by decide +kernel
theorem dJ9_max_7cf53_10 : decode cJ9_max_7cf53 10 = .ok (.ireturn, 1) := by decide +kernel
theorem dJ9_min_7cf53_0 : decode cJ9_min_7cf53 0 = .ok (.iload_n 0, 1) := by decide +kernel
theorem dJ9_min_7cf53_1 : decode cJ9_min_7cf53 1 = .ok (.iload_n 1, 1) := by decide +kernel
theorem dJ9_min_7cf53_2 : decode cJ9_min_7cf53 2 = .ok (.if_icmp .gt 7, 3) := by decide +kernel
theorem dJ9_min_7cf53_5 : decode cJ9_min_7cf53 5 = .ok (.iload_n 0, 1) := by decide +kernel
theorem dJ9_min_7cf53_6 : decode cJ9_min_7cf53 6 = .ok (.goto 4, 3) := by decide +kernel
theorem dJ9_min_7cf53_9 : decode cJ9_min_7cf53 9 = .ok (.iload_n 1, 1) := by decide +kernel
theorem dJ9_min_7cf53_10 : decode cJ9_min_7cf53 10 = .ok (.ireturn, 1) := by decide +kernel
theorem dJ7_fill_53178_0 : decode cJ7_fill_53178 0 = .ok (.iconst 0, 1) := by decide +kernel
theorem dJ7_fill_53178_1 : decode cJ7_fill_53178 1 = .ok (.istore_n 2, 1) := by decide +kernel
theorem dJ7_fill_53178_2 : decode cJ7_fill_53178 2 = .ok (.aload_n 0, 1) := by decide +kernel
theorem dJ7_fill_53178_3 : decode cJ7_fill_53178 3 = .ok (.arraylength, 1) := by decide +kernel
theorem dJ7_fill_53178_4 : decode cJ7_fill_53178 4 = .ok (.istore_n 3, 1) := by decide +kernel
theorem dJ7_fill_53178_5 : decode cJ7_fill_53178 5 = .ok (.iload_n 2, 1) := by decide +kernel
theorem dJ7_fill_53178_6 : decode cJ7_fill_53178 6 = .ok (.iload_n 3, 1) := by decide +kernel
theorem dJ7_fill_53178_7 : decode cJ7_fill_53178 7 = .ok (.if_icmp .ge 13, 3) := by decide +kernel
theorem dJ7_fill_53178_10 : decode cJ7_fill_53178 10 = .ok (.aload_n 0, 1) := by decide +kernel
theorem dJ7_fill_53178_11 : decode cJ7_fill_53178 11 = .ok (.iload_n 2, 1) := by decide +kernel
theorem dJ7_fill_53178_12 : decode cJ7_fill_53178 12 = .ok (.iload_n 1, 1) := by decide +kernel
theorem dJ7_fill_53178_13 : decode cJ7_fill_53178 13 = .ok (.iastore, 1) := by decide +kernel
theorem dJ7_fill_53178_14 : decode cJ7_fill_53178 14 = .ok (.iinc 2 1, 3) := by decide +kernel
theorem dJ7_fill_53178_17 : decode cJ7_fill_53178 17 = .ok (.goto (-12), 3) := by decide +kernel
theorem dJ7_fill_53178_20 : decode cJ7_fill_53178 20 = .ok (.return_, 1) := by decide +kernel
