theorem dX9_clear_19 : decode cX9_clear 19 = .ok (.getfield 21, 3) := by decide +kernel
theorem dX9_clear_22 : decode cX9_clear 22 = .ok (.iconst 0, 1) := by decide +kernel
theorem dX9_clear_23 : decode cX9_clear 23 = .ok (.invokestatic 31, 3) := by decide +kernel
theorem dX9_clear_26 : decode cX9_clear 26 = .ok (.return_, 1) := by decide +kernel
set_option maxRecDepth 20000 in
theorem ggX9_weightOf_X10_at : GoodIn wsX9_weightOf wsX10_at := goodIn_r _ [4] (by decide +kernel) (by decide +kernel)
set_option maxRecDepth 20000 in
theorem gX9_weightOf_X10_at_n41 : GoodIn wsX9_weightOf (wsX10_at) := ggX9_weightOf_X10_at
theorem dX9_weightOf_0 : decode cX9_weightOf 0 = .ok (.aload_n 0, 1) := by decide +kernel
theorem dX9_weightOf_1 : decode cX9_weightOf 1 = .ok (.getfield 9, 3) := by decide +kernel
theorem dX9_weightOf_4 : decode cX9_weightOf 4 = .ok (.iload_n 1, 1) := by decide +kernel
theorem dX9_weightOf_5 : decode cX9_weightOf 5 = .ok (.invokestatic 41, 3) := by decide +kernel
theorem dX9_weightOf_8 : decode cX9_weightOf 8 = .ok (.ireturn, 1) := by decide +kernel
set_option maxRecDepth 20000 in
theorem ggX9_setWeight_X10_put : GoodIn wsX9_setWeight wsX10_put := goodIn_r _ [4] (by decide +kernel) (by decide +kernel)
set_option maxRecDepth 20000 in
theorem gX9_setWeight_X10_put_n45 : GoodIn wsX9_setWeight (wsX10_put) := ggX9_setWeight_X10_put
theorem dX9_setWeight_0 : decode cX9_setWeight 0 = .ok (.aload_n 0, 1) := by decide +kernel
theorem dX9_setWeight_1 : decode cX9_setWeight 1 = .ok (.getfield 9, 3) := by decide +kernel
theorem dX9_setWeight_4 : decode cX9_setWeight 4 = .ok (.iload_n 1, 1) := by decide +kernel
theorem dX9_setWeight_5 : decode cX9_setWeight 5 = .ok (.iload_n 2, 1) := by decide +kernel
theorem dX9_setWeight_6 : decode cX9_setWeight 6 = .ok (.invokestatic 45, 3) := by decide +kernel
theorem dX9_setWeight_9 : decode cX9_setWeight 9 = .ok (.return_, 1) := by decide +kernel
theorem dX9_friction_0 : decode cX9_friction 0 = .ok (.aload_n 0, 1) := by decide +kernel
theorem dX9_friction_1 : decode cX9_friction 1 = .ok (.getfield 28, 3) := by decide +kernel
theorem dX9_friction_4 : decode cX9_friction 4 = .ok (.ireturn, 1) := by decide +kernel
theorem dX9_setFriction_0 : decode cX9_setFriction 0 = .ok (.aload_n 0, 1) := by decide +kernel
theorem dX9_setFriction_1 : decode cX9_setFriction 1 = .ok (.iload_n 1, 1) := by decide +kernel
theorem dX9_setFriction_2 : decode cX9_setFriction 2 = .ok (.putfield 28, 3) := by decide +kernel
theorem dX9_setFriction_5 : decode cX9_setFriction 5 = .ok (.return_, 1) := by decide +kernel
theorem dX9_lowest_0 : decode cX9_lowest 0 = .ok (.aload_n 0, 1) := by decide +kernel
theorem dX9_lowest_1 : decode cX9_lowest 1 = .ok (.getfield 24, 3) := by decide +kernel
theorem dX9_lowest_4 : decode cX9_lowest 4 = .ok (.ireturn, 1) := by decide +kernel
set_option maxRecDepth 20000 in
theorem ggX9_riderOf_X10_at : GoodIn wsX9_riderOf wsX10_at := goodIn_r _ [4] (by decide +kernel) (by decide +kernel)
set_option maxRecDepth 20000 in
theorem gX9_riderOf_X10_at_n41 : GoodIn wsX9_riderOf (wsX10_at) := ggX9_riderOf_X10_at
theorem dX9_riderOf_0 : decode cX9_riderOf 0 = .ok (.aload_n 0, 1) := by decide +kernel
theorem dX9_riderOf_1 : decode cX9_riderOf 1 = .ok (.getfield 18, 3) := by decide +kernel
theorem dX9_riderOf_4 : decode cX9_riderOf 4 = .ok (.iload_n 1, 1) := by decide +kernel
theorem dX9_riderOf_5 : decode cX9_riderOf 5 = .ok (.invokestatic 41, 3) := by decide +kernel
theorem dX9_riderOf_8 : decode cX9_riderOf 8 = .ok (.ireturn, 1) := by decide +kernel
set_option maxRecDepth 20000 in
theorem ggX9_carOf_X10_at : GoodIn wsX9_carOf wsX10_at := goodIn_r _ [4] (by decide +kernel) (by decide +kernel)
set_option maxRecDepth 20000 in
theorem gX9_carOf_X10_at_n41 : GoodIn wsX9_carOf (wsX10_at) := ggX9_carOf_X10_at
theorem dX9_carOf_0 : decode cX9_carOf 0 = .ok (.aload_n 0, 1) := by decide +kernel
theorem dX9_carOf_1 : decode cX9_carOf 1 = .ok (.getfield 15, 3) := by decide +kernel
theorem dX9_carOf_4 : decode cX9_carOf 4 = .ok (.iload_n 1, 1) := by decide +kernel
theorem dX9_carOf_5 : decode cX9_carOf 5 = .ok (.invokestatic 41, 3) := by decide +kernel
theorem dX9_carOf_8 : decode cX9_carOf 8 = .ok (.ireturn, 1) := by decide +kernel
set_option maxRecDepth 20000 in
theorem ggX9_isAboard_X10_at : GoodIn wsX9_isAboard wsX10_at := goodIn_r _ [4] (by decide +kernel) (by decide +kernel)
set_option maxRecDepth 20000 in
theorem gX9_isAboard_X10_at_n41 : GoodIn wsX9_isAboard (wsX10_at) := ggX9_isAboard_X10_at
theorem dX9_isAboard_0 : decode cX9_isAboard 0 = .ok (.aload_n 0, 1) := by decide +kernel
theorem dX9_isAboard_1 : decode cX9_isAboard 1 = .ok (.getfield 15, 3) := by decide +kernel
theorem dX9_isAboard_4 : decode cX9_isAboard 4 = .ok (.iload_n 1, 1) := by decide +kernel
theorem dX9_isAboard_5 : decode cX9_isAboard 5 = .ok (.invokestatic 41, 3) := by decide +kernel
theorem dX9_isAboard_8 : decode cX9_isAboard 8 = .ok (.bipush (-6), 2) := by decide +kernel
theorem dX9_isAboard_10 : decode cX9_isAboard 10 = .ok (.if_icmp .eq 7, 3) := by decide +kernel
theorem dX9_isAboard_13 : decode cX9_isAboard 13 = .ok (.iconst 1, 1) := by decide +kernel
theorem dX9_isAboard_14 : decode cX9_isAboard 14 = .ok (.goto 4, 3) := by decide +kernel
theorem dX9_isAboard_17 : decode cX9_isAboard 17 = .ok (.iconst 0, 1) := by decide +kernel
theorem dX9_isAboard_18 : decode cX9_isAboard 18 = .ok (.ireturn, 1) := by decide +kernel
set_option maxRecDepth 20000 in
theorem ggX9_isLowest_X10_at : GoodIn wsX9_isLowest wsX10_at := goodIn_r _ [5] (by decide +kernel) (by decide +kernel)
set_option maxRecDepth 20000 in
theorem gX9_isLowest_X10_at_n41 : GoodIn wsX9_isLowest (wsX10_at) := ggX9_isLowest_X10_at
theorem dX9_isLowest_0 : decode cX9_isLowest 0 = .ok (.aload_n 0, 1) := by decide +kernel
theorem dX9_isLowest_1 : decode cX9_isLowest 1 = .ok (.getfield 15, 3) := by decide +kernel
theorem dX9_isLowest_4 : decode cX9_isLowest 4 = .ok (.iload_n 1, 1) := by decide +kernel
theorem dX9_isLowest_5 : decode cX9_isLowest 5 = .ok (.invokestatic 41, 3) := by decide +kernel
theorem dX9_isLowest_8 : decode cX9_isLowest 8 = .ok (.aload_n 0, 1) := by decide +kernel
theorem dX9_isLowest_9 : decode cX9_isLowest 9 = .ok (.getfield 24, 3) := by decide +kernel
theorem dX9_isLowest_12 : decode cX9_isLowest 12 = .ok (.if_icmp .ne 7, 3) := by decide +kernel
theorem dX9_isLowest_15 : decode cX9_isLowest 15 = .ok (.iconst 1, 1) := by decide +kernel
theorem dX9_isLowest_16 : decode cX9_isLowest 16 = .ok (.goto 4, 3) := by decide +kernel
theorem dX9_isLowest_19 : decode cX9_isLowest 19 = .ok (.iconst 0, 1) := by decide +kernel
theorem dX9_isLowest_20 : decode cX9_isLowest 20 = .ok (.ireturn, 1) := by decide +kernel
set_option maxRecDepth 20000 in
theorem ggX9_isTaken_X10_at : GoodIn wsX9_isTaken wsX10_at := goodIn_r _ [5] (by decide +kernel) (by decide +kernel)
set_option maxRecDepth 20000 in
theorem gX9_isTaken_X10_at_n41 : GoodIn wsX9_isTaken (wsX10_at) := ggX9_isTaken_X10_at
theorem dX9_isTaken_0 : decode cX9_isTaken 0 = .ok (.aload_n 0, 1) := by decide +kernel
theorem dX9_isTaken_1 : decode cX9_isTaken 1 = .ok (.getfield 18, 3) := by decide +kernel
theorem dX9_isTaken_4 : decode cX9_isTaken 4 = .ok (.aload_n 0, 1) := by decide +kernel
theorem dX9_isTaken_5 : decode cX9_isTaken 5 = .ok (.getfield 24, 3) := by decide +kernel
theorem dX9_isTaken_8 : decode cX9_isTaken 8 = .ok (.invokestatic 41, 3) := by decide +kernel
theorem dX9_isTaken_11 : decode cX9_isTaken 11 = .ok (.bipush (-6), 2) := by decide +kernel
theorem dX9_isTaken_13 : decode cX9_isTaken 13 = .ok (.if_icmp .eq 7, 3) := by decide +kernel
theorem dX9_isTaken_16 : decode cX9_isTaken 16 = .ok (.iconst 1, 1) := by decide +kernel
theorem dX9_isTaken_17 : decode cX9_isTaken 17 = .ok (.goto 4, 3) := by decide +kernel
theorem dX9_isTaken_20 : decode cX9_isTaken 20 = .ok (.iconst 0, 1) := by decide +kernel
theorem dX9_isTaken_21 : decode cX9_isTaken 21 = .ok (.ireturn, 1) := by decide +kernel
set_option maxRecDepth 20000 in
theorem ggX9_loadOf_X10_at : GoodIn wsX9_loadOf wsX10_at := goodIn_r _ [4] (by decide +kernel) (by decide +kernel)
set_option maxRecDepth 20000 in
theorem gX9_loadOf_X10_at_n41 : GoodIn wsX9_loadOf (wsX10_at) := ggX9_loadOf_X10_at
theorem dX9_loadOf_0 : decode cX9_loadOf 0 = .ok (.aload_n 0, 1) := by decide +kernel
theorem dX9_loadOf_1 : decode cX9_loadOf 1 = .ok (.getfield 21, 3) := by decide +kernel
theorem dX9_loadOf_4 : decode cX9_loadOf 4 = .ok (.iload_n 1, 1) := by decide +kernel
theorem dX9_loadOf_5 : decode cX9_loadOf 5 = .ok (.invokestatic 41, 3) := by decide +kernel
theorem dX9_loadOf_8 : decode cX9_loadOf 8 = .ok (.ireturn, 1) := by decide +kernel
set_option maxRecDepth 20000 in
theorem ggX9_setLoad_X10_put : GoodIn wsX9_setLoad wsX10_put := goodIn_r _ [4] (by decide +kernel) (by decide +kernel)
set_option maxRecDepth 20000 in
theorem gX9_setLoad_X10_put_n45 : GoodIn wsX9_setLoad (wsX10_put) := ggX9_setLoad_X10_put
theorem dX9_setLoad_0 : decode cX9_setLoad 0 = .ok (.aload_n 0, 1) := by decide +kernel
theorem dX9_setLoad_1 : decode cX9_setLoad 1 = .ok (.getfield 21, 3) := by decide +kernel
theorem dX9_setLoad_4 : decode cX9_setLoad 4 = .ok (.iload_n 1, 1) := by decide +kernel
theorem dX9_setLoad_5 : decode cX9_setLoad 5 = .ok (.iload_n 2, 1) := by decide +kernel
theorem dX9_setLoad_6 : decode cX9_setLoad 6 = .ok (.invokestatic 45, 3) := by decide +kernel
theorem dX9_setLoad_9 : decode cX9_setLoad 9 = .ok (.return_, 1) := by decide +kernel
set_option maxRecDepth 20000 in
theorem ggX9_placeOf_J9_floorMod_7cf53 : GoodIn wsX9_placeOf wsJ9_floorMod_7cf53 := goodIn_r _ [5] (by decide +kernel) (by decide +kernel)
set_option maxRecDepth 20000 in
theorem gX9_placeOf_J9_floorMod_7cf53 : GoodIn wsX9_placeOf (va_wsS RX9 49 yJ9_floorMod_7cf53 wsJ9_floorMod_7cf53) := goodIn_app (goodIn_of _ (by decide +kernel)) ggX9_placeOf_J9_floorMod_7cf53
theorem dX9_placeOf_0 : decode cX9_placeOf 0 = .ok (.iload_n 1, 1) := by decide +kernel
theorem dX9_placeOf_1 : decode cX9_placeOf 1 = .ok (.aload_n 0, 1) := by decide +kernel
theorem dX9_placeOf_2 : decode cX9_placeOf 2 = .ok (.getfield 24, 3) := by decide +kernel
theorem dX9_placeOf_5 : decode cX9_placeOf 5 = .ok (.isub, 1) := by decide +kernel
theorem dX9_placeOf_6 : decode cX9_placeOf 6 = .ok (.bipush 8, 2) := by decide +kernel
theorem dX9_placeOf_8 : decode cX9_placeOf 8 = .ok (.invokestatic 49, 3) := by decide +kernel
theorem dX9_placeOf_11 : decode cX9_placeOf 11 = .ok (.ireturn, 1) := by decide +kernel
set_option maxRecDepth 20000 in
theorem ggX9_takenCars_X10_at : GoodIn wsX9_takenCars wsX10_at := goodIn_r _ [4] (by decide +kernel) (by decide +kernel)
set_option maxRecDepth 20000 in
theorem gX9_takenCars_X10_at_n41 : GoodIn wsX9_takenCars (wsX10_at) := ggX9_takenCars_X10_at
theorem dX9_takenCars_0 : decode cX9_takenCars 0 = .ok (.iconst 0, 1) := by decide +kernel
theorem dX9_takenCars_1 : decode cX9_takenCars 1 = .ok (.istore_n 1, 1) := by decide +kernel
theorem dX9_takenCars_2 : decode cX9_takenCars 2 = .ok (.iconst 0, 1) := by decide +kernel
theorem dX9_takenCars_3 : decode cX9_takenCars 3 = .ok (.istore_n 2, 1) := by decide +kernel
theorem dX9_takenCars_4 : decode cX9_takenCars 4 = .ok (.iload_n 2, 1) := by decide +kernel
theorem dX9_takenCars_5 : decode cX9_takenCars 5 = .ok (.bipush 8, 2) := by decide +kernel
theorem dX9_takenCars_7 : decode cX9_takenCars 7 = .ok (.if_icmp .ge 28, 3) := by decide +kernel
theorem dX9_takenCars_10 : decode cX9_takenCars 10 = .ok (.aload_n 0, 1) := by decide +kernel
theorem dX9_takenCars_11 : decode cX9_takenCars 11 = .ok (.getfield 18, 3) := by decide +kernel
theorem dX9_takenCars_14 : decode cX9_takenCars 14 = .ok (.iload_n 2, 1) := by decide +kernel
theorem dX9_takenCars_15 : decode cX9_takenCars 15 = .ok (.invokestatic 41, 3) := by decide +kernel
theorem dX9_takenCars_18 : decode cX9_takenCars 18 = .ok (.bipush (-6), 2) := by decide +kernel
theorem dX9_takenCars_20 : decode cX9_takenCars 20 = .ok (.if_icmp .eq 9, 3) := by decide +kernel
theorem dX9_takenCars_23 : decode cX9_takenCars 23 = .ok (.iload_n 1, 1) := by decide +kernel
theorem dX9_takenCars_24 : decode cX9_takenCars 24 = .ok (.iconst 1, 1) := by decide +kernel
theorem dX9_takenCars_25 : decode cX9_takenCars 25 = .ok (.iload_n 2, 1) := by decide +kernel
theorem dX9_takenCars_26 : decode cX9_takenCars 26 = .ok (.ishl, 1) := by decide +kernel
theorem dX9_takenCars_27 : decode cX9_takenCars 27 = .ok (.ior, 1) := by decide +kernel
theorem dX9_takenCars_28 : decode cX9_takenCars 28 = .ok (.istore_n 1, 1) := by decide +kernel
theorem dX9_takenCars_29 : decode cX9_takenCars 29 = .ok (.iinc 2 1, 3) := by decide +kernel
theorem dX9_takenCars_32 : decode cX9_takenCars 32 = .ok (.goto (-28), 3) := by decide +kernel
theorem dX9_takenCars_35 : decode cX9_takenCars 35 = .ok (.iload_n 1, 1) := by decide +kernel
theorem dX9_takenCars_36 : decode cX9_takenCars 36 = .ok (.ireturn, 1) := by decide +kernel
set_option maxRecDepth 20000 in
theorem ggX9_seat_X10_put : GoodIn wsX9_seat wsX10_put := goodIn_r _ [5] (by decide +kernel) (by decide +kernel)
set_option maxRecDepth 20000 in
theorem gX9_seat_X10_put_n45 : GoodIn wsX9_seat (wsX10_put) := ggX9_seat_X10_put
theorem dX9_seat_0 : decode cX9_seat 0 = .ok (.aload_n 0, 1) := by decide +kernel
theorem dX9_seat_1 : decode cX9_seat 1 = .ok (.getfield 18, 3) := by decide +kernel
theorem dX9_seat_4 : decode cX9_seat 4 = .ok (.iload_n 2, 1) := by decide +kernel
theorem dX9_seat_5 : decode cX9_seat 5 = .ok (.iload_n 1, 1) := by decide +kernel
theorem dX9_seat_6 : decode cX9_seat 6 = .ok (.invokestatic 45, 3) := by decide +kernel
theorem dX9_seat_9 : decode cX9_seat 9 = .ok (.aload_n 0, 1) := by decide +kernel
theorem dX9_seat_10 : decode cX9_seat 10 = .ok (.getfield 15, 3) := by decide +kernel
theorem dX9_seat_13 : decode cX9_seat 13 = .ok (.iload_n 1, 1) := by decide +kernel
theorem dX9_seat_14 : decode cX9_seat 14 = .ok (.iload_n 2, 1) := by decide +kernel
theorem dX9_seat_15 : decode cX9_seat 15 = .ok (.invokestatic 45, 3) := by decide +kernel
theorem dX9_seat_18 : decode cX9_seat 18 = .ok (.return_, 1) := by decide +kernel
set_option maxRecDepth 20000 in
theorem ggX9_unseat_X10_at : GoodIn wsX9_unseat wsX10_at := goodIn_r _ [5] (by decide +kernel) (by decide +kernel)
set_option maxRecDepth 20000 in
theorem gX9_unseat_X10_at_n41 : GoodIn wsX9_unseat (wsX10_at) := ggX9_unseat_X10_at
set_option maxRecDepth 20000 in
theorem ggX9_unseat_X10_put : GoodIn wsX9_unseat wsX10_put := goodIn_r _ [7] (by decide +kernel) (by decide +kernel)
set_option maxRecDepth 20000 in
theorem gX9_unseat_X10_put_n45 : GoodIn wsX9_unseat (wsX10_put) := ggX9_unseat_X10_put
theorem dX9_unseat_0 : decode cX9_unseat 0 = .ok (.aload_n 0, 1) := by decide +kernel
theorem dX9_unseat_1 : decode cX9_unseat 1 = .ok (.getfield 15, 3) := by decide +kernel
theorem dX9_unseat_4 : decode cX9_unseat 4 = .ok (.aload_n 0, 1) := by decide +kernel
theorem dX9_unseat_5 : decode cX9_unseat 5 = .ok (.getfield 18, 3) := by decide +kernel
theorem dX9_unseat_8 : decode cX9_unseat 8 = .ok (.iload_n 1, 1) := by decide +kernel
theorem dX9_unseat_9 : decode cX9_unseat 9 = .ok (.invokestatic 41, 3) := by decide +kernel
theorem dX9_unseat_12 : decode cX9_unseat 12 = .ok (.bipush (-6), 2) := by decide +kernel
theorem dX9_unseat_14 : decode cX9_unseat 14 = .ok (.invokestatic 45, 3) := by decide +kernel
theorem dX9_unseat_17 : decode cX9_unseat 17 = .ok (.aload_n 0, 1) := by decide +kernel
theorem dX9_unseat_18 : decode cX9_unseat 18 = .ok (.getfield 18, 3) := by decide +kernel
theorem dX9_unseat_21 : decode cX9_unseat 21 = .ok (.iload_n 1, 1) := by decide +kernel
theorem dX9_unseat_22 : decode cX9_unseat 22 = .ok (.bipush (-6), 2) := by decide +kernel
theorem dX9_unseat_24 : decode cX9_unseat 24 = .ok (.invokestatic 45, 3) := by decide +kernel
theorem dX9_unseat_27 : decode cX9_unseat 27 = .ok (.return_, 1) := by decide +kernel
set_option maxRecDepth 20000 in
theorem ggX9_turn_J9_floorMod_7cf53 : GoodIn wsX9_turn wsJ9_floorMod_7cf53 := goodIn_r _ [5] (by decide +kernel) (by decide +kernel)
set_option maxRecDepth 20000 in
theorem gX9_turn_J9_floorMod_7cf53 : GoodIn wsX9_turn (va_wsS RX9 49 yJ9_floorMod_7cf53 wsJ9_floorMod_7cf53) := goodIn_app (goodIn_of _ (by decide +kernel)) ggX9_turn_J9_floorMod_7cf53
theorem dX9_turn_0 : decode cX9_turn 0 = .ok (.aload_n 0, 1) := by decide +kernel
theorem dX9_turn_1 : decode cX9_turn 1 = .ok (.aload_n 0, 1) := by decide +kernel
theorem dX9_turn_2 : decode cX9_turn 2 = .ok (.getfield 24, 3) := by decide +kernel
theorem dX9_turn_5 : decode cX9_turn 5 = .ok (.iload_n 1, 1) := by decide +kernel
theorem dX9_turn_6 : decode cX9_turn 6 = .ok (.iadd, 1) := by decide +kernel
theorem dX9_turn_7 : decode cX9_turn 7 = .ok (.bipush 8, 2) := by decide +kernel
theorem dX9_turn_9 : decode cX9_turn 9 = .ok (.invokestatic 49, 3) := by decide +kernel
theorem dX9_turn_12 : decode cX9_turn 12 = .ok (.putfield 24, 3) := by decide +kernel
theorem dX9_turn_15 : decode cX9_turn 15 = .ok (.return_, 1) := by decide +kernel
set_option maxRecDepth 20000 in
theorem ggX9_takeBack_J9_floorMod_7cf53 : GoodIn wsX9_takeBack wsJ9_floorMod_7cf53 := goodIn_r _ [5] (by decide +kernel) (by decide +kernel)
set_option maxRecDepth 20000 in
theorem gX9_takeBack_J9_floorMod_7cf53 : GoodIn wsX9_takeBack (va_wsS RX9 49 yJ9_floorMod_7cf53 wsJ9_floorMod_7cf53) := goodIn_app (goodIn_of _ (by decide +kernel)) ggX9_takeBack_J9_floorMod_7cf53
set_option maxRecDepth 20000 in
theorem ggX9_takeBack_X9_unseat : GoodIn wsX9_takeBack wsX9_unseat := goodIn_r _ [10, 11, 12, 13, 14, 15, 16, 17, 22, 23, 24, 25, 26, 27] (by decide +kernel) (by decide +kernel)
set_option maxRecDepth 20000 in
theorem gX9_takeBack_X9_unseat : GoodIn wsX9_takeBack (wsV RX9 55 RX9 yX9_unseat wsX9_unseat) := goodIn_app (goodIn_of _ (by decide +kernel)) ggX9_takeBack_X9_unseat
set_option maxRecDepth 20000 in
theorem ggX9_takeBack_X9_seat : GoodIn wsX9_takeBack wsX9_seat := goodIn_r _ [21, 12, 11, 16, 14, 17, 22, 23, 24, 25, 26, 27] (by decide +kernel) (by decide +kernel)
set_option maxRecDepth 20000 in
theorem gX9_takeBack_X9_seat : GoodIn wsX9_takeBack (wsV RX9 59 RX9 yX9_seat wsX9_seat) := goodIn_app (goodIn_of _ (by decide +kernel)) ggX9_takeBack_X9_seat
theorem dX9_takeBack_0 : decode cX9_takeBack 0 = .ok (.aload_n 0, 1) := by decide +kernel
theorem dX9_takeBack_1 : decode cX9_takeBack 1 = .ok (.iload_n 1, 1) := by decide +kernel
theorem dX9_takeBack_2 : decode cX9_takeBack 2 = .ok (.bipush 8, 2) := by decide +kernel
theorem dX9_takeBack_4 : decode cX9_takeBack 4 = .ok (.invokestatic 49, 3) := by decide +kernel
theorem dX9_takeBack_7 : decode cX9_takeBack 7 = .ok (.putfield 24, 3) := by decide +kernel
theorem dX9_takeBack_10 : decode cX9_takeBack 10 = .ok (.aload_n 0, 1) := by decide +kernel
theorem dX9_takeBack_11 : decode cX9_takeBack 11 = .ok (.iload_n 1, 1) := by decide +kernel
theorem dX9_takeBack_12 : decode cX9_takeBack 12 = .ok (.invokevirtual 55, 3) := by decide +kernel
theorem dX9_takeBack_15 : decode cX9_takeBack 15 = .ok (.iload_n 2, 1) := by decide +kernel
theorem dX9_takeBack_16 : decode cX9_takeBack 16 = .ok (.bipush (-6), 2) := by decide +kernel
theorem dX9_takeBack_18 : decode cX9_takeBack 18 = .ok (.if_icmp .eq 9, 3) := by decide +kernel
theorem dX9_takeBack_21 : decode cX9_takeBack 21 = .ok (.aload_n 0, 1) := by decide +kernel
theorem dX9_takeBack_22 : decode cX9_takeBack 22 = .ok (.iload_n 2, 1) := by decide +kernel
theorem dX9_takeBack_23 : decode cX9_takeBack 23 = .ok (.iload_n 1, 1) := by decide +kernel
theorem dX9_takeBack_24 : decode cX9_takeBack 24 = .ok (.invokevirtual 59, 3) := by decide +kernel
theorem dX9_takeBack_27 : decode cX9_takeBack 27 = .ok (.return_, 1) := by decide +kernel
set_option maxRecDepth 20000 in
theorem ggX9_pullNow_X9_pullAt : GoodIn wsX9_pullNow wsX9_pullAt := goodIn_r _ [6, 7, 8, 9, 10, 11, 12, 13, 14, 15, 16, 17, 18, 19, 20, 21, 22, 23] (by decide +kernel) (by decide +kernel)
set_option maxRecDepth 20000 in
theorem gX9_pullNow_X9_pullAt : GoodIn wsX9_pullNow (wsV RX9 63 RX9 yX9_pullAt wsX9_pullAt) := goodIn_app (goodIn_of _ (by decide +kernel)) ggX9_pullNow_X9_pullAt
theorem dX9_pullNow_0 : decode cX9_pullNow 0 = .ok (.aload_n 0, 1) := by decide +kernel
theorem dX9_pullNow_1 : decode cX9_pullNow 1 = .ok (.aload_n 0, 1) := by decide +kernel
theorem dX9_pullNow_2 : decode cX9_pullNow 2 = .ok (.getfield 24, 3) := by decide +kernel
theorem dX9_pullNow_5 : decode cX9_pullNow 5 = .ok (.invokevirtual 63, 3) := by decide +kernel
theorem dX9_pullNow_8 : decode cX9_pullNow 8 = .ok (.ireturn, 1) := by decide +kernel
set_option maxRecDepth 20000 in
theorem ggX9_pullAt_X10_at : GoodIn wsX9_pullAt wsX10_at := goodIn_r _ [7] (by decide +kernel) (by decide +kernel)
set_option maxRecDepth 20000 in
theorem gX9_pullAt_X10_at_n41 : GoodIn wsX9_pullAt (wsX10_at) := ggX9_pullAt_X10_at
set_option maxRecDepth 20000 in
theorem ggX9_pullAt_J9_floorMod_7cf53 : GoodIn wsX9_pullAt wsJ9_floorMod_7cf53 := goodIn_r _ [11] (by decide +kernel) (by decide +kernel)
set_option maxRecDepth 20000 in
theorem gX9_pullAt_J9_floorMod_7cf53 : GoodIn wsX9_pullAt (va_wsS RX9 49 yJ9_floorMod_7cf53 wsJ9_floorMod_7cf53) := goodIn_app (goodIn_of _ (by decide +kernel)) ggX9_pullAt_J9_floorMod_7cf53
theorem dX9_pullAt_0 : decode cX9_pullAt 0 = .ok (.iconst 0, 1) := by decide +kernel
theorem dX9_pullAt_1 : decode cX9_pullAt 1 = .ok (.istore_n 2, 1) := by decide +kernel
theorem dX9_pullAt_2 : decode cX9_pullAt 2 = .ok (.iconst 0, 1) := by decide +kernel
theorem dX9_pullAt_3 : decode cX9_pullAt 3 = .ok (.istore_n 3, 1) := by decide +kernel
theorem dX9_pullAt_4 : decode cX9_pullAt 4 = .ok (.iload_n 3, 1) := by decide +kernel
theorem dX9_pullAt_5 : decode cX9_pullAt 5 = .ok (.bipush 8, 2) := by decide +kernel
theorem dX9_pullAt_7 : decode cX9_pullAt 7 = .ok (.if_icmp .ge 70, 3) := by decide +kernel
theorem dX9_pullAt_10 : decode cX9_pullAt 10 = .ok (.aload_n 0, 1) := by decide +kernel
theorem dX9_pullAt_11 : decode cX9_pullAt 11 = .ok (.getfield 18, 3) := by decide +kernel
theorem dX9_pullAt_14 : decode cX9_pullAt 14 = .ok (.iload_n 3, 1) := by decide +kernel
theorem dX9_pullAt_15 : decode cX9_pullAt 15 = .ok (.invokestatic 41, 3) := by decide +kernel
theorem dX9_pullAt_18 : decode cX9_pullAt 18 = .ok (.istore 4, 2) := by decide +kernel
theorem dX9_pullAt_20 : decode cX9_pullAt 20 = .ok (.aload_n 0, 1) := by decide +kernel
theorem dX9_pullAt_21 : decode cX9_pullAt 21 = .ok (.getfield 21, 3) := by decide +kernel
theorem dX9_pullAt_24 : decode cX9_pullAt 24 = .ok (.iload_n 3, 1) := by decide +kernel
theorem dX9_pullAt_25 : decode cX9_pullAt 25 = .ok (.invokestatic 41, 3) := by decide +kernel
theorem dX9_pullAt_28 : decode cX9_pullAt 28 = .ok (.iload 4, 2) := by decide +kernel
theorem dX9_pullAt_30 : decode cX9_pullAt 30 = .ok (.bipush (-6), 2) := by decide +kernel
theorem dX9_pullAt_32 : decode cX9_pullAt 32 = .ok (.if_icmp .ne 7, 3) := by decide +kernel
theorem dX9_pullAt_35 : decode cX9_pullAt 35 = .ok (.iconst 0, 1) := by decide +kernel
theorem dX9_pullAt_36 : decode cX9_pullAt 36 = .ok (.goto 12, 3) := by decide +kernel
theorem dX9_pullAt_39 : decode cX9_pullAt 39 = .ok (.aload_n 0, 1) := by decide +kernel
theorem dX9_pullAt_40 : decode cX9_pullAt 40 = .ok (.getfield 9, 3) := by decide +kernel
theorem dX9_pullAt_43 : decode cX9_pullAt 43 = .ok (.iload 4, 2) := by decide +kernel
theorem dX9_pullAt_45 : decode cX9_pullAt 45 = .ok (.invokestatic 41, 3) := by decide +kernel
theorem dX9_pullAt_48 : decode cX9_pullAt 48 = .ok (.iadd, 1) := by decide +kernel
theorem dX9_pullAt_49 : decode cX9_pullAt 49 = .ok (.istore 5, 2) := by decide +kernel
theorem dX9_pullAt_51 : decode cX9_pullAt 51 = .ok (.iload_n 2, 1) := by decide +kernel
theorem dX9_pullAt_52 : decode cX9_pullAt 52 = .ok (.iload 5, 2) := by decide +kernel
theorem dX9_pullAt_54 : decode cX9_pullAt 54 = .ok (.getstatic 67, 3) := by decide +kernel
theorem dX9_pullAt_57 : decode cX9_pullAt 57 = .ok (.iload_n 3, 1) := by decide +kernel
theorem dX9_pullAt_58 : decode cX9_pullAt 58 = .ok (.iload_n 1, 1) := by decide +kernel
theorem dX9_pullAt_59 : decode cX9_pullAt 59 = .ok (.isub, 1) := by decide +kernel
theorem dX9_pullAt_60 : decode cX9_pullAt 60 = .ok (.bipush 8, 2) := by decide +kernel
theorem dX9_pullAt_62 : decode cX9_pullAt 62 = .ok (.invokestatic 49, 3) := by decide +kernel
theorem dX9_pullAt_65 : decode cX9_pullAt 65 = .ok (.invokestatic 41, 3) := by decide +kernel
theorem dX9_pullAt_68 : decode cX9_pullAt 68 = .ok (.imul, 1) := by decide +kernel
theorem dX9_pullAt_69 : decode cX9_pullAt 69 = .ok (.iadd, 1) := by decide +kernel
theorem dX9_pullAt_70 : decode cX9_pullAt 70 = .ok (.istore_n 2, 1) := by decide +kernel
theorem dX9_pullAt_71 : decode cX9_pullAt 71 = .ok (.iinc 3 1, 3) := by decide +kernel
theorem dX9_pullAt_74 : decode cX9_pullAt 74 = .ok (.goto (-70), 3) := by decide +kernel
theorem dX9_pullAt_77 : decode cX9_pullAt 77 = .ok (.iload_n 2, 1) := by decide +kernel
theorem dX9_pullAt_78 : decode cX9_pullAt 78 = .ok (.ireturn, 1) := by decide +kernel
set_option maxRecDepth 20000 in
theorem ggX9_greatestPull_X9_pullAt : GoodIn wsX9_greatestPull wsX9_pullAt := goodIn_r _ [12, 13, 14, 15, 16, 17, 18, 19, 20, 21, 22, 23, 24, 25, 26, 27, 28, 29] (by decide +kernel) (by decide +kernel)
set_option maxRecDepth 20000 in
theorem gX9_greatestPull_X9_pullAt : GoodIn wsX9_greatestPull (wsV RX9 63 RX9 yX9_pullAt wsX9_pullAt) := goodIn_app (goodIn_of _ (by decide +kernel)) ggX9_greatestPull_X9_pullAt
theorem dX9_greatestPull_0 : decode cX9_greatestPull 0 = .ok (.iconst 0, 1) := by decide +kernel
theorem dX9_greatestPull_1 : decode cX9_greatestPull 1 = .ok (.istore_n 1, 1) := by decide +kernel
theorem dX9_greatestPull_2 : decode cX9_greatestPull 2 = .ok (.iconst 0, 1) := by decide +kernel
theorem dX9_greatestPull_3 : decode cX9_greatestPull 3 = .ok (.istore_n 2, 1) := by decide +kernel
theorem dX9_greatestPull_4 : decode cX9_greatestPull 4 = .ok (.iload_n 2, 1) := by decide +kernel
theorem dX9_greatestPull_5 : decode cX9_greatestPull 5 = .ok (.bipush 8, 2) := by decide +kernel
theorem dX9_greatestPull_7 : decode cX9_greatestPull 7 = .ok (.if_icmp .ge 22, 3) := by decide +kernel
theorem dX9_greatestPull_10 : decode cX9_greatestPull 10 = .ok (.iload_n 1, 1) := by decide +kernel
theorem dX9_greatestPull_11 : decode cX9_greatestPull 11 = .ok (.aload_n 0, 1) := by decide +kernel
theorem dX9_greatestPull_12 : decode cX9_greatestPull 12 = .ok (.iload_n 2, 1) := by decide +kernel
theorem dX9_greatestPull_13 : decode cX9_greatestPull 13 = .ok (.invokevirtual 63, 3) := by decide +kernel
theorem dX9_greatestPull_16 : decode cX9_greatestPull 16 = .ok (.invokestatic 70, 3) := by decide +kernel
theorem dX9_greatestPull_19 : decode cX9_greatestPull 19 = .ok (.invokestatic 73, 3) := by decide +kernel
theorem dX9_greatestPull_22 : decode cX9_greatestPull 22 = .ok (.istore_n 1, 1) := by decide +kernel
theorem dX9_greatestPull_23 : decode cX9_greatestPull 23 = .ok (.iinc 2 1, 3) := by decide +kernel
theorem dX9_greatestPull_26 : decode cX9_greatestPull 26 = .ok (.goto (-22), 3) := by decide +kernel
theorem dX9_greatestPull_29 : decode cX9_greatestPull 29 = .ok (.iload_n 1, 1) := by decide +kernel
theorem dX9_greatestPull_30 : decode cX9_greatestPull 30 = .ok (.ireturn, 1) := by decide +kernel
set_option maxRecDepth 20000 in
theorem ggX9_letGo_X9_pullAt : GoodIn wsX9_letGo wsX9_pullAt := goodIn_r _ [6, 7, 8, 9, 10, 11, 12, 13, 14, 15, 16, 17, 27, 28, 29, 30, 31, 32] (by decide +kernel) (by decide +kernel)
set_option maxRecDepth 20000 in
theorem gX9_letGo_X9_pullAt : GoodIn wsX9_letGo (wsV RX9 63 RX9 yX9_pullAt wsX9_pullAt) := goodIn_app (goodIn_of _ (by decide +kernel)) ggX9_letGo_X9_pullAt
set_option maxRecDepth 20000 in
theorem ggX9_letGo_X9_wayOf : GoodIn wsX9_letGo wsX9_wayOf := goodIn_r _ [21, 22, 27, 28, 29, 30, 31, 32] (by decide +kernel) (by decide +kernel)
set_option maxRecDepth 20000 in
theorem gX9_letGo_X9_wayOf : GoodIn wsX9_letGo (wsV RX9 76 RX9 yX9_wayOf wsX9_wayOf) := goodIn_app (goodIn_of _ (by decide +kernel)) ggX9_letGo_X9_wayOf
set_option maxRecDepth 20000 in
theorem ggX9_letGo_X9_turn : GoodIn wsX9_letGo wsX9_turn := goodIn_r _ [26, 1, 14, 15, 16, 17, 27, 28, 29, 30, 31, 32] (by decide +kernel) (by decide +kernel)
set_option maxRecDepth 20000 in
theorem gX9_letGo_X9_turn : GoodIn wsX9_letGo (wsV RX9 79 RX9 yX9_turn wsX9_turn) := goodIn_app (goodIn_of _ (by decide +kernel)) ggX9_letGo_X9_turn
theorem dX9_letGo_0 : decode cX9_letGo 0 = .ok (.aload_n 0, 1) := by decide +kernel
theorem dX9_letGo_1 : decode cX9_letGo 1 = .ok (.aload_n 0, 1) := by decide +kernel
theorem dX9_letGo_2 : decode cX9_letGo 2 = .ok (.aload_n 0, 1) := by decide +kernel
theorem dX9_letGo_3 : decode cX9_letGo 3 = .ok (.getfield 24, 3) := by decide +kernel
theorem dX9_letGo_6 : decode cX9_letGo 6 = .ok (.invokevirtual 63, 3) := by decide +kernel
theorem dX9_letGo_9 : decode cX9_letGo 9 = .ok (.invokevirtual 76, 3) := by decide +kernel
theorem dX9_letGo_12 : decode cX9_letGo 12 = .ok (.istore_n 1, 1) := by decide +kernel
theorem dX9_letGo_13 : decode cX9_letGo 13 = .ok (.iload_n 1, 1) := by decide +kernel
theorem dX9_letGo_14 : decode cX9_letGo 14 = .ok (.istore_n 2, 1) := by decide +kernel
theorem dX9_letGo_15 : decode cX9_letGo 15 = .ok (.iconst 0, 1) := by decide +kernel
theorem dX9_letGo_16 : decode cX9_letGo 16 = .ok (.istore_n 3, 1) := by decide +kernel
theorem dX9_letGo_17 : decode cX9_letGo 17 = .ok (.iconst 0, 1) := by decide +kernel
theorem dX9_letGo_18 : decode cX9_letGo 18 = .ok (.istore 4, 2) := by decide +kernel
theorem dX9_letGo_20 : decode cX9_letGo 20 = .ok (.iload 4, 2) := by decide +kernel
theorem dX9_letGo_22 : decode cX9_letGo 22 = .ok (.bipush 8, 2) := by decide +kernel
theorem dX9_letGo_24 : decode cX9_letGo 24 = .ok (.if_icmp .ge 40, 3) := by decide +kernel
theorem dX9_letGo_27 : decode cX9_letGo 27 = .ok (.iload_n 2, 1) := by decide +kernel
theorem dX9_letGo_28 : decode cX9_letGo 28 = .ok (.ifCond .eq 36, 3) := by decide +kernel
theorem dX9_letGo_31 : decode cX9_letGo 31 = .ok (.iload_n 2, 1) := by decide +kernel
theorem dX9_letGo_32 : decode cX9_letGo 32 = .ok (.iload_n 1, 1) := by decide +kernel
theorem dX9_letGo_33 : decode cX9_letGo 33 = .ok (.if_icmp .ne 31, 3) := by decide +kernel
theorem dX9_letGo_36 : decode cX9_letGo 36 = .ok (.aload_n 0, 1) := by decide +kernel
theorem dX9_letGo_37 : decode cX9_letGo 37 = .ok (.iload_n 1, 1) := by decide +kernel
theorem dX9_letGo_38 : decode cX9_letGo 38 = .ok (.invokevirtual 79, 3) := by decide +kernel
theorem dX9_letGo_41 : decode cX9_letGo 41 = .ok (.iload_n 3, 1) := by decide +kernel
theorem dX9_letGo_42 : decode cX9_letGo 42 = .ok (.iload_n 1, 1) := by decide +kernel
theorem dX9_letGo_43 : decode cX9_letGo 43 = .ok (.iadd, 1) := by decide +kernel
theorem dX9_letGo_44 : decode cX9_letGo 44 = .ok (.istore_n 3, 1) := by decide +kernel
theorem dX9_letGo_45 : decode cX9_letGo 45 = .ok (.aload_n 0, 1) := by decide +kernel
theorem dX9_letGo_46 : decode cX9_letGo 46 = .ok (.aload_n 0, 1) := by decide +kernel
theorem dX9_letGo_47 : decode cX9_letGo 47 = .ok (.aload_n 0, 1) := by decide +kernel
theorem dX9_letGo_48 : decode cX9_letGo 48 = .ok (.getfield 24, 3) := by decide +kernel
theorem dX9_letGo_51 : decode cX9_letGo 51 = .ok (.invokevirtual 63, 3) := by decide +kernel
theorem dX9_letGo_54 : decode cX9_letGo 54 = .ok (.invokevirtual 76, 3) := by decide +kernel
theorem dX9_letGo_57 : decode cX9_letGo 57 = .ok (.istore_n 2, 1) := by decide +kernel
theorem dX9_letGo_58 : decode cX9_letGo 58 = .ok (.iinc 4 1, 3) := by decide +kernel
theorem dX9_letGo_61 : decode cX9_letGo 61 = .ok (.goto (-41), 3) := by decide +kernel
theorem dX9_letGo_64 : decode cX9_letGo 64 = .ok (.iload_n 3, 1) := by decide +kernel
theorem dX9_letGo_65 : decode cX9_letGo 65 = .ok (.ireturn, 1) := by decide +kernel
theorem dX9_wayOf_0 : decode cX9_wayOf 0 = .ok (.iload_n 1, 1) := by decide +kernel
theorem dX9_wayOf_1 : decode cX9_wayOf 1 = .ok (.aload_n 0, 1) := by decide +kernel
theorem dX9_wayOf_2 : decode cX9_wayOf 2 = .ok (.getfield 28, 3) := by decide +kernel
theorem dX9_wayOf_5 : decode cX9_wayOf 5 = .ok (.if_icmp .le 5, 3) := by decide +kernel
theorem dX9_wayOf_8 : decode cX9_wayOf 8 = .ok (.iconst 1, 1) := by decide +kernel
theorem dX9_wayOf_9 : decode cX9_wayOf 9 = .ok (.ireturn, 1) := by decide +kernel
theorem dX9_wayOf_10 : decode cX9_wayOf 10 = .ok (.iload_n 1, 1) := by decide +kernel
theorem dX9_wayOf_11 : decode cX9_wayOf 11 = .ok (.aload_n 0, 1) := by decide +kernel
theorem dX9_wayOf_12 : decode cX9_wayOf 12 = .ok (.getfield 28, 3) := by decide +kernel
theorem dX9_wayOf_15 : decode cX9_wayOf 15 = .ok (.ineg, 1) := by decide +kernel
theorem dX9_wayOf_16 : decode cX9_wayOf 16 = .ok (.if_icmp .ge 7, 3) := by decide +kernel
theorem dX9_wayOf_19 : decode cX9_wayOf 19 = .ok (.iconst (-1), 1) := by decide +kernel
theorem dX9_wayOf_20 : decode cX9_wayOf 20 = .ok (.goto 4, 3) := by decide +kernel
theorem dX9_wayOf_23 : decode cX9_wayOf 23 = .ok (.iconst 0, 1) := by decide +kernel
theorem dX9_wayOf_24 : decode cX9_wayOf 24 = .ok (.ireturn, 1) := by decide +kernel
set_option maxRecDepth 20000 in
theorem ggX10_init_X9_init : GoodIn wsX10_init wsX9_init := goodIn_r _ [36, 37, 2, 3, 38, 39, 40, 41, 42, 43, 44, 45, 46, 47, 48, 105, 106, 107, 108, 109, 110] (by decide +kernel) (by decide +kernel)
set_option maxRecDepth 20000 in
theorem gX10_init_X9_init : GoodIn wsX10_init (wsX9_init) := ggX10_init_X9_init
set_option maxRecDepth 20000 in
theorem ggX10_init_X4_init : GoodIn wsX10_init wsX4_init := goodIn_r _ [51, 52, 2, 3, 38, 53, 54, 55, 120, 121, 122] (by decide +kernel) (by decide +kernel)
set_option maxRecDepth 20000 in
theorem gX10_init_X4_init : GoodIn wsX10_init (wsX4_init) := ggX10_init_X4_init
set_option maxRecDepth 20000 in
theorem ggX10_init_X6_init : GoodIn wsX10_init wsX6_init := goodIn_r _ [58, 59, 2, 3, 38, 60, 61, 62, 123, 124, 125] (by decide +kernel) (by decide +kernel)
set_option maxRecDepth 20000 in
theorem gX10_init_X6_init : GoodIn wsX10_init (wsX6_init) := ggX10_init_X6_init
set_option maxRecDepth 20000 in
theorem ggX10_init_X7_init : GoodIn wsX10_init wsX7_init := goodIn_r _ [65, 66, 2, 3, 67, 5, 6, 68, 69, 70, 71, 72, 73, 74, 75, 35, 36, 37, 38, 39, 40, 41, 42, 43, 44, 45, 46, 47, 48, 105, 106, 107, 108, 109, 110, 126, 127, 128, 129, 130, 131, 132] (by decide +kernel) (by decide +kernel)
set_option maxRecDepth 20000 in
theorem gX10_init_X7_init : GoodIn wsX10_init (wsX7_init) := ggX10_init_X7_init
set_option maxRecDepth 20000 in
theorem ggX10_init_X5_init : GoodIn wsX10_init wsX5_init := goodIn_r _ [78, 79, 2, 3, 80, 5, 6, 81, 38, 82, 83, 84, 35, 36, 37, 39, 40, 41, 42, 43, 44, 45, 46, 47, 48, 105, 106, 107, 108, 109, 110, 133, 134, 135] (by decide +kernel) (by decide +kernel)
set_option maxRecDepth 20000 in
theorem gX10_init_X5_init : GoodIn wsX10_init (wsX5_init) := ggX10_init_X5_init
set_option maxRecDepth 20000 in
theorem ggX10_init_X8_init : GoodIn wsX10_init wsX8_init := goodIn_r _ [87, 88, 2, 3, 89, 5, 6, 90, 38, 91, 92, 93, 35, 36, 37, 39, 40, 41, 42, 43, 44, 45, 46, 47, 48, 105, 106, 107, 108, 109, 110, 136, 137, 138] (by decide +kernel) (by decide +kernel)
set_option maxRecDepth 20000 in
theorem gX10_init_X8_init : GoodIn wsX10_init (wsX8_init) := ggX10_init_X8_init
set_option maxRecDepth 20000 in
theorem ggX10_init_X2_init : GoodIn wsX10_init wsX2_init := goodIn_r _ [96, 97, 2, 3, 98, 5, 6, 99, 100, 14, 15, 101, 102, 103, 35, 36, 37, 38, 39, 40, 41, 42, 43, 44, 45, 46, 47, 48, 104, 57, 58, 59, 60, 61, 62, 105, 106, 107, 108, 109, 110, 139, 140, 141, 123, 124, 125] (by decide +kernel) (by decide +kernel)
set_option maxRecDepth 20000 in
theorem gX10_init_X2_init : GoodIn wsX10_init (wsX2_init) := ggX10_init_X2_init
theorem dX10_init_0 : decode cX10_init 0 = .ok (.aload_n 0, 1) := by decide +kernel
theorem dX10_init_1 : decode cX10_init 1 = .ok (.invokespecial 1, 3) := by decide +kernel
theorem dX10_init_4 : decode cX10_init 4 = .ok (.aload_n 0, 1) := by decide +kernel
theorem dX10_init_5 : decode cX10_init 5 = .ok (.new 7, 3) := by decide +kernel
theorem dX10_init_8 : decode cX10_init 8 = .ok (.dup, 1) := by decide +kernel
theorem dX10_init_9 : decode cX10_init 9 = .ok (.invokespecial 9, 3) := by decide +kernel
theorem dX10_init_12 : decode cX10_init 12 = .ok (.putfield 10, 3) := by decide +kernel
theorem dX10_init_15 : decode cX10_init 15 = .ok (.aload_n 0, 1) := by decide +kernel
theorem dX10_init_16 : decode cX10_init 16 = .ok (.new 7, 3) := by decide +kernel
theorem dX10_init_19 : decode cX10_init 19 = .ok (.dup, 1) := by decide +kernel
theorem dX10_init_20 : decode cX10_init 20 = .ok (.invokespecial 9, 3) := by decide +kernel
theorem dX10_init_23 : decode cX10_init 23 = .ok (.putfield 16, 3) := by decide +kernel
theorem dX10_init_26 : decode cX10_init 26 = .ok (.aload_n 0, 1) := by decide +kernel
theorem dX10_init_27 : decode cX10_init 27 = .ok (.new 19, 3) := by decide +kernel
theorem dX10_init_30 : decode cX10_init 30 = .ok (.dup, 1) := by decide +kernel
theorem dX10_init_31 : decode cX10_init 31 = .ok (.invokespecial 21, 3) := by decide +kernel
theorem dX10_init_34 : decode cX10_init 34 = .ok (.putfield 22, 3) := by decide +kernel
theorem dX10_init_37 : decode cX10_init 37 = .ok (.aload_n 0, 1) := by decide +kernel
theorem dX10_init_38 : decode cX10_init 38 = .ok (.new 26, 3) := by decide +kernel
theorem dX10_init_41 : decode cX10_init 41 = .ok (.dup, 1) := by decide +kernel
theorem dX10_init_42 : decode cX10_init 42 = .ok (.invokespecial 28, 3) := by decide +kernel
theorem dX10_init_45 : decode cX10_init 45 = .ok (.putfield 29, 3) := by decide +kernel
theorem dX10_init_48 : decode cX10_init 48 = .ok (.aload_n 0, 1) := by decide +kernel
theorem dX10_init_49 : decode cX10_init 49 = .ok (.new 33, 3) := by decide +kernel
theorem dX10_init_52 : decode cX10_init 52 = .ok (.dup, 1) := by decide +kernel
theorem dX10_init_53 : decode cX10_init 53 = .ok (.invokespecial 35, 3) := by decide +kernel
theorem dX10_init_56 : decode cX10_init 56 = .ok (.putfield 36, 3) := by decide +kernel
theorem dX10_init_59 : decode cX10_init 59 = .ok (.aload_n 0, 1) := by decide +kernel
theorem dX10_init_60 : decode cX10_init 60 = .ok (.new 40, 3) := by decide +kernel
theorem dX10_init_63 : decode cX10_init 63 = .ok (.dup, 1) := by decide +kernel
theorem dX10_init_64 : decode cX10_init 64 = .ok (.invokespecial 42, 3) := by decide +kernel
theorem dX10_init_67 : decode cX10_init 67 = .ok (.putfield 43, 3) := by decide +kernel
theorem dX10_init_70 : decode cX10_init 70 = .ok (.aload_n 0, 1) := by decide +kernel
theorem dX10_init_71 : decode cX10_init 71 = .ok (.new 47, 3) := by decide +kernel
theorem dX10_init_74 : decode cX10_init 74 = .ok (.dup, 1) := by decide +kernel
theorem dX10_init_75 : decode cX10_init 75 = .ok (.invokespecial 49, 3) := by decide +kernel
theorem dX10_init_78 : decode cX10_init 78 = .ok (.putfield 50, 3) := by decide +kernel
theorem dX10_init_81 : decode cX10_init 81 = .ok (.aload_n 0, 1) := by decide +kernel
theorem dX10_init_82 : decode cX10_init 82 = .ok (.new 54, 3) := by decide +kernel
theorem dX10_init_85 : decode cX10_init 85 = .ok (.dup, 1) := by decide +kernel
theorem dX10_init_86 : decode cX10_init 86 = .ok (.invokespecial 56, 3) := by decide +kernel
theorem dX10_init_89 : decode cX10_init 89 = .ok (.putfield 57, 3) := by decide +kernel
theorem dX10_init_92 : decode cX10_init 92 = .ok (.aload_n 0, 1) := by decide +kernel
theorem dX10_init_93 : decode cX10_init 93 = .ok (.new 54, 3) := by decide +kernel
theorem dX10_init_96 : decode cX10_init 96 = .ok (.dup, 1) := by decide +kernel
theorem dX10_init_97 : decode cX10_init 97 = .ok (.invokespecial 56, 3) := by decide +kernel
theorem dX10_init_100 : decode cX10_init 100 = .ok (.putfield 61, 3) := by decide +kernel
theorem dX10_init_103 : decode cX10_init 103 = .ok (.return_, 1) := by decide +kernel
set_option maxRecDepth 20000 in
theorem ggX10_weigh_X10_isPerson : GoodIn wsX10_weigh wsX10_isPerson := goodIn_r _ [5] (by decide +kernel) (by decide +kernel)
set_option maxRecDepth 20000 in
theorem gX10_weigh_X10_isPerson : GoodIn wsX10_weigh (va_wsS RX10 64 yX10_isPerson wsX10_isPerson) := goodIn_app (goodIn_of _ (by decide +kernel)) ggX10_weigh_X10_isPerson
set_option maxRecDepth 20000 in
theorem ggX10_weigh_X9_weightOf : GoodIn wsX10_weigh wsX9_weightOf := goodIn_r _ [10, 11, 12, 4, 13, 29, 30, 31, 32, 33, 34] (by decide +kernel) (by decide +kernel)
set_option maxRecDepth 20000 in
theorem gX10_weigh_X9_weightOf : GoodIn wsX10_weigh (wsV RX10 68 RX9 yX9_weightOf wsX9_weightOf) := goodIn_app (goodIn_of _ (by decide +kernel)) ggX10_weigh_X9_weightOf
set_option maxRecDepth 20000 in
theorem ggX10_weigh_X9_setWeight : GoodIn wsX10_weigh wsX9_setWeight := goodIn_r _ [17, 11, 18, 4, 19, 29, 30, 31, 32, 33, 34] (by decide +kernel) (by decide +kernel)
set_option maxRecDepth 20000 in
theorem gX10_weigh_X9_setWeight : GoodIn wsX10_weigh (wsV RX10 72 RX9 yX9_setWeight wsX9_setWeight) := goodIn_app (goodIn_of _ (by decide +kernel)) ggX10_weigh_X9_setWeight
theorem dX10_weigh_0 : decode cX10_weigh 0 = .ok (.iload_n 1, 1) := by decide +kernel
theorem dX10_weigh_1 : decode cX10_weigh 1 = .ok (.invokestatic 64, 3) := by decide +kernel
theorem dX10_weigh_4 : decode cX10_weigh 4 = .ok (.ifCond .ne 5, 3) := by decide +kernel
theorem dX10_weigh_7 : decode cX10_weigh 7 = .ok (.iconst (-1), 1) := by decide +kernel
theorem dX10_weigh_8 : decode cX10_weigh 8 = .ok (.ireturn, 1) := by decide +kernel
theorem dX10_weigh_9 : decode cX10_weigh 9 = .ok (.iload_n 2, 1) := by decide +kernel
theorem dX10_weigh_10 : decode cX10_weigh 10 = .ok (.iconst 1, 1) := by decide +kernel
theorem dX10_weigh_11 : decode cX10_weigh 11 = .ok (.if_icmp .lt 9, 3) := by decide +kernel
theorem dX10_weigh_14 : decode cX10_weigh 14 = .ok (.iload_n 2, 1) := by decide +kernel
theorem dX10_weigh_15 : decode cX10_weigh 15 = .ok (.bipush 99, 2) := by decide +kernel
theorem dX10_weigh_17 : decode cX10_weigh 17 = .ok (.if_icmp .le 6, 3) := by decide +kernel
theorem dX10_weigh_20 : decode cX10_weigh 20 = .ok (.bipush (-2), 2) := by decide +kernel
theorem dX10_weigh_22 : decode cX10_weigh 22 = .ok (.ireturn, 1) := by decide +kernel
theorem dX10_weigh_23 : decode cX10_weigh 23 = .ok (.aload_n 0, 1) := by decide +kernel
theorem dX10_weigh_24 : decode cX10_weigh 24 = .ok (.getfield 10, 3) := by decide +kernel
theorem dX10_weigh_27 : decode cX10_weigh 27 = .ok (.iload_n 1, 1) := by decide +kernel
theorem dX10_weigh_28 : decode cX10_weigh 28 = .ok (.invokevirtual 68, 3) := by decide +kernel
theorem dX10_weigh_31 : decode cX10_weigh 31 = .ok (.istore_n 3, 1) := by decide +kernel
theorem dX10_weigh_32 : decode cX10_weigh 32 = .ok (.aload_n 0, 1) := by decide +kernel
theorem dX10_weigh_33 : decode cX10_weigh 33 = .ok (.getfield 10, 3) := by decide +kernel
theorem dX10_weigh_36 : decode cX10_weigh 36 = .ok (.iload_n 1, 1) := by decide +kernel
theorem dX10_weigh_37 : decode cX10_weigh 37 = .ok (.iload_n 2, 1) := by decide +kernel
theorem dX10_weigh_38 : decode cX10_weigh 38 = .ok (.invokevirtual 72, 3) := by decide +kernel
theorem dX10_weigh_41 : decode cX10_weigh 41 = .ok (.iload_n 3, 1) := by decide +kernel
theorem dX10_weigh_42 : decode cX10_weigh 42 = .ok (.ireturn, 1) := by decide +kernel
set_option maxRecDepth 20000 in
theorem ggX10_drag_X9_friction : GoodIn wsX10_drag wsX9_friction := goodIn_r _ [6, 7, 21, 22, 23, 24, 25, 26] (by decide +kernel) (by decide +kernel)
set_option maxRecDepth 20000 in
theorem gX10_drag_X9_friction : GoodIn wsX10_drag (wsV RX10 76 RX9 yX9_friction wsX9_friction) := goodIn_app (goodIn_of _ (by decide +kernel)) ggX10_drag_X9_friction
set_option maxRecDepth 20000 in
theorem ggX10_drag_X9_setFriction : GoodIn wsX10_drag wsX9_setFriction := goodIn_r _ [11, 7, 21, 22, 23, 24, 25, 26] (by decide +kernel) (by decide +kernel)
set_option maxRecDepth 20000 in
theorem gX10_drag_X9_setFriction : GoodIn wsX10_drag (wsV RX10 80 RX9 yX9_setFriction wsX9_setFriction) := goodIn_app (goodIn_of _ (by decide +kernel)) ggX10_drag_X9_setFriction
theorem dX10_drag_0 : decode cX10_drag 0 = .ok (.iload_n 1, 1) := by decide +kernel
theorem dX10_drag_1 : decode cX10_drag 1 = .ok (.ifCond .lt 10, 3) := by decide +kernel
theorem dX10_drag_4 : decode cX10_drag 4 = .ok (.iload_n 1, 1) := by decide +kernel
theorem dX10_drag_5 : decode cX10_drag 5 = .ok (.sipush 9999, 3) := by decide +kernel
theorem dX10_drag_8 : decode cX10_drag 8 = .ok (.if_icmp .le 6, 3) := by decide +kernel
theorem dX10_drag_11 : decode cX10_drag 11 = .ok (.bipush (-2), 2) := by decide +kernel
theorem dX10_drag_13 : decode cX10_drag 13 = .ok (.ireturn, 1) := by decide +kernel
theorem dX10_drag_14 : decode cX10_drag 14 = .ok (.aload_n 0, 1) := by decide +kernel
theorem dX10_drag_15 : decode cX10_drag 15 = .ok (.getfield 10, 3) := by decide +kernel
theorem dX10_drag_18 : decode cX10_drag 18 = .ok (.invokevirtual 76, 3) := by decide +kernel
theorem dX10_drag_21 : decode cX10_drag 21 = .ok (.istore_n 2, 1) := by decide +kernel
theorem dX10_drag_22 : decode cX10_drag 22 = .ok (.aload_n 0, 1) := by decide +kernel
theorem dX10_drag_23 : decode cX10_drag 23 = .ok (.getfield 10, 3) := by decide +kernel
theorem dX10_drag_26 : decode cX10_drag 26 = .ok (.iload_n 1, 1) := by decide +kernel
theorem dX10_drag_27 : decode cX10_drag 27 = .ok (.invokevirtual 80, 3) := by decide +kernel
theorem dX10_drag_30 : decode cX10_drag 30 = .ok (.iload_n 2, 1) := by decide +kernel
theorem dX10_drag_31 : decode cX10_drag 31 = .ok (.ireturn, 1) := by decide +kernel
set_option maxRecDepth 20000 in
theorem ggX10_say_X4_length : GoodIn wsX10_say wsX4_length := goodIn_r _ [6, 7, 26, 27, 28] (by decide +kernel) (by decide +kernel)
set_option maxRecDepth 20000 in
theorem gX10_say_X4_length : GoodIn wsX10_say (wsV RX10 84 RX4 yX4_length wsX4_length) := goodIn_app (goodIn_of _ (by decide +kernel)) ggX10_say_X4_length
set_option maxRecDepth 20000 in
theorem ggX10_say_X4_write : GoodIn wsX10_say wsX4_write := goodIn_r _ [11, 7, 12, 13, 14, 15, 16, 26, 27, 28] (by decide +kernel) (by decide +kernel)
set_option maxRecDepth 20000 in
theorem gX10_say_X4_write : GoodIn wsX10_say (wsV RX10 87 RX4 yX4_write wsX4_write) := goodIn_app (goodIn_of _ (by decide +kernel)) ggX10_say_X4_write
theorem dX10_say_0 : decode cX10_say 0 = .ok (.iload_n 1, 1) := by decide +kernel
theorem dX10_say_1 : decode cX10_say 1 = .ok (.bipush 33, 2) := by decide +kernel
theorem dX10_say_3 : decode cX10_say 3 = .ok (.if_icmp .lt 9, 3) := by decide +kernel
theorem dX10_say_6 : decode cX10_say 6 = .ok (.iload_n 1, 1) := by decide +kernel
theorem dX10_say_7 : decode cX10_say 7 = .ok (.bipush 126, 2) := by decide +kernel
theorem dX10_say_9 : decode cX10_say 9 = .ok (.if_icmp .le 6, 3) := by decide +kernel
theorem dX10_say_12 : decode cX10_say 12 = .ok (.bipush (-2), 2) := by decide +kernel
theorem dX10_say_14 : decode cX10_say 14 = .ok (.ireturn, 1) := by decide +kernel
theorem dX10_say_15 : decode cX10_say 15 = .ok (.aload_n 0, 1) := by decide +kernel
theorem dX10_say_16 : decode cX10_say 16 = .ok (.getfield 22, 3) := by decide +kernel
theorem dX10_say_19 : decode cX10_say 19 = .ok (.invokevirtual 84, 3) := by decide +kernel
theorem dX10_say_22 : decode cX10_say 22 = .ok (.bipush 60, 2) := by decide +kernel
theorem dX10_say_24 : decode cX10_say 24 = .ok (.if_icmp .lt 6, 3) := by decide +kernel
theorem dX10_say_27 : decode cX10_say 27 = .ok (.bipush (-4), 2) := by decide +kernel
theorem dX10_say_29 : decode cX10_say 29 = .ok (.ireturn, 1) := by decide +kernel
theorem dX10_say_30 : decode cX10_say 30 = .ok (.aload_n 0, 1) := by decide +kernel
theorem dX10_say_31 : decode cX10_say 31 = .ok (.getfield 22, 3) := by decide +kernel
theorem dX10_say_34 : decode cX10_say 34 = .ok (.iload_n 1, 1) := by decide +kernel
theorem dX10_say_35 : decode cX10_say 35 = .ok (.invokevirtual 87, 3) := by decide +kernel
theorem dX10_say_38 : decode cX10_say 38 = .ok (.aload_n 0, 1) := by decide +kernel
theorem dX10_say_39 : decode cX10_say 39 = .ok (.getfield 22, 3) := by decide +kernel
theorem dX10_say_42 : decode cX10_say 42 = .ok (.invokevirtual 84, 3) := by decide +kernel
theorem dX10_say_45 : decode cX10_say 45 = .ok (.ireturn, 1) := by decide +kernel
set_option maxRecDepth 20000 in
theorem ggX10_wipe_X4_length : GoodIn wsX10_wipe wsX4_length := goodIn_r _ [6, 7, 22, 23, 24] (by decide +kernel) (by decide +kernel)
set_option maxRecDepth 20000 in
theorem gX10_wipe_X4_length : GoodIn wsX10_wipe (wsV RX10 84 RX4 yX4_length wsX4_length) := goodIn_app (goodIn_of _ (by decide +kernel)) ggX10_wipe_X4_length
set_option maxRecDepth 20000 in
theorem ggX10_wipe_X4_clear : GoodIn wsX10_wipe wsX4_clear := goodIn_r _ [11, 7, 12, 22, 23, 24] (by decide +kernel) (by decide +kernel)
set_option maxRecDepth 20000 in
theorem gX10_wipe_X4_clear : GoodIn wsX10_wipe (wsV RX10 90 RX4 yX4_clear wsX4_clear) := goodIn_app (goodIn_of _ (by decide +kernel)) ggX10_wipe_X4_clear
theorem dX10_wipe_0 : decode cX10_wipe 0 = .ok (.aload_n 0, 1) := by decide +kernel
theorem dX10_wipe_1 : decode cX10_wipe 1 = .ok (.getfield 22, 3) := by decide +kernel
theorem dX10_wipe_4 : decode cX10_wipe 4 = .ok (.invokevirtual 84, 3) := by decide +kernel
theorem dX10_wipe_7 : decode cX10_wipe 7 = .ok (.istore_n 1, 1) := by decide +kernel
theorem dX10_wipe_8 : decode cX10_wipe 8 = .ok (.aload_n 0, 1) := by decide +kernel
theorem dX10_wipe_9 : decode cX10_wipe 9 = .ok (.getfield 22, 3) := by decide +kernel
theorem dX10_wipe_12 : decode cX10_wipe 12 = .ok (.invokevirtual 90, 3) := by decide +kernel
theorem dX10_wipe_15 : decode cX10_wipe 15 = .ok (.iload_n 1, 1) := by decide +kernel
theorem dX10_wipe_16 : decode cX10_wipe 16 = .ok (.ireturn, 1) := by decide +kernel
set_option maxRecDepth 20000 in
theorem ggX10_fault_X4_firstFault : GoodIn wsX10_fault wsX4_firstFault := goodIn_r _ [6, 7, 8, 9, 10, 5, 11, 12, 13, 14, 15, 16, 17, 18, 19, 20, 21, 22, 23, 24, 25, 26, 27, 37, 38, 39] (by decide +kernel) (by decide +kernel)
set_option maxRecDepth 20000 in
theorem gX10_fault_X4_firstFault : GoodIn wsX10_fault (wsV RX10 93 RX4 yX4_firstFault wsX4_firstFault) := goodIn_app (goodIn_of _ (by decide +kernel)) ggX10_fault_X4_firstFault
theorem dX10_fault_0 : decode cX10_fault 0 = .ok (.aload_n 0, 1) := by decide +kernel
theorem dX10_fault_1 : decode cX10_fault 1 = .ok (.getfield 22, 3) := by decide +kernel
theorem dX10_fault_4 : decode cX10_fault 4 = .ok (.invokevirtual 93, 3) := by decide +kernel
theorem dX10_fault_7 : decode cX10_fault 7 = .ok (.ireturn, 1) := by decide +kernel
set_option maxRecDepth 20000 in
theorem ggX10_judge_X10_refuseText : GoodIn wsX10_judge wsX10_refuseText := goodIn_r _ [8, 3, 9, 10, 11, 12, 13, 14, 15, 16, 17, 18, 19, 20, 7, 21, 22, 23, 24, 25, 26, 27, 28, 29, 30, 31, 32, 33, 34, 35, 36, 37, 38, 165, 166, 167, 168, 169, 170, 171, 172, 173, 174, 175, 176] (by decide +kernel) (by decide +kernel)
set_option maxRecDepth 20000 in
theorem gX10_judge_X10_refuseText : GoodIn wsX10_judge (wsV RX10 96 RX10 yX10_refuseText wsX10_refuseText) := goodIn_app (goodIn_of _ (by decide +kernel)) ggX10_judge_X10_refuseText
set_option maxRecDepth 20000 in
theorem ggX10_judge_X7_tell : GoodIn wsX10_judge wsX7_tell := goodIn_r _ [43, 44, 45, 46, 47, 48, 49, 50, 51, 52, 53, 54, 55, 56, 57, 58, 59, 60, 61, 62, 7, 63, 64, 65, 66, 67, 68, 69, 70, 71, 72, 35, 36, 12, 37, 38, 73, 74, 75, 76, 14, 77, 16, 17, 18, 19, 20, 21, 78, 79, 80, 42, 81, 82, 83, 84, 85, 86, 87, 88, 89, 90, 91, 92, 93, 94, 95, 96, 97, 98, 99, 100, 101, 102, 103, 32, 33, 104, 105, 29, 30, 106, 107, 108, 109, 110, 111, 112, 113, 114, 115, 116, 117, 118, 119, 120, 121, 122, 123, 124, 26, 27, 125, 126, 127, 128, 129, 130, 131, 132, 133, 134, 135, 136, 137, 138, 139, 140, 141, 142, 143, 144, 145, 146, 147, 148, 149, 150, 151, 152, 153, 154, 155, 156, 177, 178, 179, 180, 181, 182, 183, 184, 185, 186, 187, 188, 189, 174, 175, 176] (by decide +kernel) (by decide +kernel)
set_option maxRecDepth 20000 in
theorem gX10_judge_X7_tell : GoodIn wsX10_judge (wsV RX10 99 RX7 yX7_tell wsX7_tell) := goodIn_app (goodIn_of _ (by decide +kernel)) ggX10_judge_X7_tell
set_option maxRecDepth 20000 in
theorem ggX10_judge_X7_failedEvent : GoodIn wsX10_judge wsX7_failedEvent := goodIn_r _ [160, 45, 177, 178, 179, 180, 181, 182, 183] (by decide +kernel) (by decide +kernel)
set_option maxRecDepth 20000 in
theorem gX10_judge_X7_failedEvent : GoodIn wsX10_judge (wsV RX10 103 RX7 yX7_failedEvent wsX7_failedEvent) := goodIn_app (goodIn_of _ (by decide +kernel)) ggX10_judge_X7_failedEvent
set_option maxRecDepth 20000 in
theorem ggX10_judge_X7_reason : GoodIn wsX10_judge wsX7_reason := goodIn_r _ [164, 46, 177, 178, 179, 180, 181, 182, 183] (by decide +kernel) (by decide +kernel)
set_option maxRecDepth 20000 in
theorem gX10_judge_X7_reason : GoodIn wsX10_judge (wsV RX10 106 RX7 yX7_reason wsX7_reason) := goodIn_app (goodIn_of _ (by decide +kernel)) ggX10_judge_X7_reason
theorem dX10_judge_0 : decode cX10_judge 0 = .ok (.iload_n 1, 1) := by decide +kernel
theorem dX10_judge_1 : decode cX10_judge 1 = .ok (.ifCond .lt 8, 3) := by decide +kernel
theorem dX10_judge_4 : decode cX10_judge 4 = .ok (.iload_n 1, 1) := by decide +kernel
theorem dX10_judge_5 : decode cX10_judge 5 = .ok (.iconst 1, 1) := by decide +kernel
theorem dX10_judge_6 : decode cX10_judge 6 = .ok (.if_icmp .le 6, 3) := by decide +kernel
theorem dX10_judge_9 : decode cX10_judge 9 = .ok (.bipush (-2), 2) := by decide +kernel
theorem dX10_judge_11 : decode cX10_judge 11 = .ok (.ireturn, 1) := by decide +kernel
theorem dX10_judge_12 : decode cX10_judge 12 = .ok (.aload_n 0, 1) := by decide +kernel
theorem dX10_judge_13 : decode cX10_judge 13 = .ok (.invokevirtual 96, 3) := by decide +kernel
theorem dX10_judge_16 : decode cX10_judge 16 = .ok (.istore_n 2, 1) := by decide +kernel
theorem dX10_judge_17 : decode cX10_judge 17 = .ok (.iload_n 2, 1) := by decide +kernel
theorem dX10_judge_18 : decode cX10_judge 18 = .ok (.ifCond .eq 5, 3) := by decide +kernel
theorem dX10_judge_21 : decode cX10_judge 21 = .ok (.iload_n 2, 1) := by decide +kernel
theorem dX10_judge_22 : decode cX10_judge 22 = .ok (.ireturn, 1) := by decide +kernel
theorem dX10_judge_23 : decode cX10_judge 23 = .ok (.aload_n 0, 1) := by decide +kernel
theorem dX10_judge_24 : decode cX10_judge 24 = .ok (.getfield 36, 3) := by decide +kernel
theorem dX10_judge_27 : decode cX10_judge 27 = .ok (.aload_n 0, 1) := by decide +kernel
theorem dX10_judge_28 : decode cX10_judge 28 = .ok (.getfield 10, 3) := by decide +kernel
theorem dX10_judge_31 : decode cX10_judge 31 = .ok (.aload_n 0, 1) := by decide +kernel
theorem dX10_judge_32 : decode cX10_judge 32 = .ok (.getfield 22, 3) := by decide +kernel
theorem dX10_judge_35 : decode cX10_judge 35 = .ok (.bipush (-6), 2) := by decide +kernel
theorem dX10_judge_37 : decode cX10_judge 37 = .ok (.iconst 0, 1) := by decide +kernel
theorem dX10_judge_38 : decode cX10_judge 38 = .ok (.invokevirtual 99, 3) := by decide +kernel
theorem dX10_judge_41 : decode cX10_judge 41 = .ok (.pop, 1) := by decide +kernel
theorem dX10_judge_42 : decode cX10_judge 42 = .ok (.iload_n 1, 1) := by decide +kernel
theorem dX10_judge_43 : decode cX10_judge 43 = .ok (.ifCond .ne 13, 3) := by decide +kernel
theorem dX10_judge_46 : decode cX10_judge 46 = .ok (.aload_n 0, 1) := by decide +kernel
theorem dX10_judge_47 : decode cX10_judge 47 = .ok (.getfield 36, 3) := by decide +kernel
theorem dX10_judge_50 : decode cX10_judge 50 = .ok (.invokevirtual 103, 3) := by decide +kernel
theorem dX10_judge_53 : decode cX10_judge 53 = .ok (.goto 10, 3) := by decide +kernel
theorem dX10_judge_56 : decode cX10_judge 56 = .ok (.aload_n 0, 1) := by decide +kernel
theorem dX10_judge_57 : decode cX10_judge 57 = .ok (.getfield 36, 3) := by decide +kernel
theorem dX10_judge_60 : decode cX10_judge 60 = .ok (.invokevirtual 106, 3) := by decide +kernel
theorem dX10_judge_63 : decode cX10_judge 63 = .ok (.ireturn, 1) := by decide +kernel
set_option maxRecDepth 20000 in
theorem ggX10_done_X10_refuseEvening : GoodIn wsX10_done wsX10_refuseEvening := goodIn_r _ [8, 2, 1, 3, 9, 10, 11, 7, 12, 13, 14, 15, 16, 17, 18, 19, 20, 21, 22, 23, 24, 25, 26, 27, 28, 29, 30, 31, 32, 33, 34, 35, 36, 37, 38, 39, 40, 41, 42, 43, 44, 45, 46, 47, 48, 49, 50, 51, 52, 53, 54, 55, 56, 57, 58, 59, 60, 61, 62, 63, 64, 65, 66, 67, 68, 69, 70, 71, 72, 73, 74, 75, 76, 77, 78, 79, 80, 81, 82, 83, 84, 85, 86, 87, 88, 89, 90, 91, 92, 93, 94, 95, 96, 97, 98, 99, 100, 101, 102, 103, 104, 105, 106, 107, 108, 109, 110, 111, 112, 113, 114, 115, 116, 117, 118, 119, 120, 121, 122, 123, 124, 125, 126, 127, 128, 129, 130, 131, 132, 133, 134, 135, 136, 137, 138, 139, 140, 141, 142, 143, 144, 145, 146, 147, 148, 149, 150, 151, 152, 153, 154, 155, 156, 157, 158, 159, 160, 171, 172, 173, 174, 175, 176, 177, 178, 179, 180, 181, 182, 183, 184, 185, 186, 187, 188, 189, 190, 191, 192, 193, 194, 195] (by decide +kernel) (by decide +kernel)
set_option maxRecDepth 20000 in
theorem gX10_done_X10_refuseEvening : GoodIn wsX10_done (wsV RX10 109 RX10 yX10_refuseEvening wsX10_refuseEvening) := goodIn_app (goodIn_of _ (by decide +kernel)) ggX10_done_X10_refuseEvening
set_option maxRecDepth 20000 in
theorem ggX10_done_X7_wheel : GoodIn wsX10_done wsX7_wheel := goodIn_r _ [164, 48, 183, 184, 185, 186, 187, 188, 189] (by decide +kernel) (by decide +kernel)
set_option maxRecDepth 20000 in
theorem gX10_done_X7_wheel : GoodIn wsX10_done (wsV RX10 112 RX7 yX7_wheel wsX7_wheel) := goodIn_app (goodIn_of _ (by decide +kernel)) ggX10_done_X7_wheel
set_option maxRecDepth 20000 in
theorem ggX10_done_X9_copyFrom : GoodIn wsX10_done wsX9_copyFrom := goodIn_r _ [59, 60, 61, 62, 63, 64, 65, 66, 7, 67, 68, 69, 70, 71, 72, 73, 74, 75, 190, 191, 192, 193, 194, 195] (by decide +kernel) (by decide +kernel)
set_option maxRecDepth 20000 in
theorem gX10_done_X9_copyFrom : GoodIn wsX10_done (wsV RX10 115 RX9 yX9_copyFrom wsX9_copyFrom) := goodIn_app (goodIn_of _ (by decide +kernel)) ggX10_done_X9_copyFrom
set_option maxRecDepth 20000 in
theorem ggX10_done_X4_length : GoodIn wsX10_done wsX4_length := goodIn_r _ [80, 18, 180, 181, 182] (by decide +kernel) (by decide +kernel)
set_option maxRecDepth 20000 in
theorem gX10_done_X4_length : GoodIn wsX10_done (wsV RX10 84 RX4 yX4_length wsX4_length) := goodIn_app (goodIn_of _ (by decide +kernel)) ggX10_done_X4_length
set_option maxRecDepth 20000 in
theorem ggX10_done_X4_clear : GoodIn wsX10_done wsX4_clear := goodIn_r _ [170, 18, 42, 180, 181, 182] (by decide +kernel) (by decide +kernel)
set_option maxRecDepth 20000 in
theorem gX10_done_X4_clear : GoodIn wsX10_done (wsV RX10 90 RX4 yX4_clear wsX4_clear) := goodIn_app (goodIn_of _ (by decide +kernel)) ggX10_done_X4_clear
theorem dX10_done_0 : decode cX10_done 0 = .ok (.aload_n 0, 1) := by decide +kernel
theorem dX10_done_1 : decode cX10_done 1 = .ok (.invokevirtual 109, 3) := by decide +kernel
theorem dX10_done_4 : decode cX10_done 4 = .ok (.istore_n 1, 1) := by decide +kernel
theorem dX10_done_5 : decode cX10_done 5 = .ok (.iload_n 1, 1) := by decide +kernel
theorem dX10_done_6 : decode cX10_done 6 = .ok (.ifCond .eq 5, 3) := by decide +kernel
theorem dX10_done_9 : decode cX10_done 9 = .ok (.iload_n 1, 1) := by decide +kernel
theorem dX10_done_10 : decode cX10_done 10 = .ok (.ireturn, 1) := by decide +kernel
theorem dX10_done_11 : decode cX10_done 11 = .ok (.aload_n 0, 1) := by decide +kernel
theorem dX10_done_12 : decode cX10_done 12 = .ok (.getfield 10, 3) := by decide +kernel
theorem dX10_done_15 : decode cX10_done 15 = .ok (.aload_n 0, 1) := by decide +kernel
theorem dX10_done_16 : decode cX10_done 16 = .ok (.getfield 36, 3) := by decide +kernel
theorem dX10_done_19 : decode cX10_done 19 = .ok (.invokevirtual 112, 3) := by decide +kernel
theorem dX10_done_22 : decode cX10_done 22 = .ok (.invokevirtual 115, 3) := by decide +kernel
theorem dX10_done_25 : decode cX10_done 25 = .ok (.aload_n 0, 1) := by decide +kernel
theorem dX10_done_26 : decode cX10_done 26 = .ok (.getfield 22, 3) := by decide +kernel
theorem dX10_done_29 : decode cX10_done 29 = .ok (.invokevirtual 84, 3) := by decide +kernel
theorem dX10_done_32 : decode cX10_done 32 = .ok (.istore_n 2, 1) := by decide +kernel
theorem dX10_done_33 : decode cX10_done 33 = .ok (.aload_n 0, 1) := by decide +kernel
theorem dX10_done_34 : decode cX10_done 34 = .ok (.getfield 22, 3) := by decide +kernel
theorem dX10_done_37 : decode cX10_done 37 = .ok (.invokevirtual 90, 3) := by decide +kernel
theorem dX10_done_40 : decode cX10_done 40 = .ok (.iload_n 2, 1) := by decide +kernel
theorem dX10_done_41 : decode cX10_done 41 = .ok (.ireturn, 1) := by decide +kernel
set_option maxRecDepth 20000 in
theorem ggX10_foot_X9_lowest : GoodIn wsX10_foot wsX9_lowest := goodIn_r _ [6, 7, 17, 18, 19, 20, 21, 22] (by decide +kernel) (by decide +kernel)
set_option maxRecDepth 20000 in
theorem gX10_foot_X9_lowest : GoodIn wsX10_foot (wsV RX10 119 RX9 yX9_lowest wsX9_lowest) := goodIn_app (goodIn_of _ (by decide +kernel)) ggX10_foot_X9_lowest
theorem dX10_foot_0 : decode cX10_foot 0 = .ok (.aload_n 0, 1) := by decide +kernel
theorem dX10_foot_1 : decode cX10_foot 1 = .ok (.getfield 10, 3) := by decide +kernel
theorem dX10_foot_4 : decode cX10_foot 4 = .ok (.invokevirtual 119, 3) := by decide +kernel
theorem dX10_foot_7 : decode cX10_foot 7 = .ok (.ireturn, 1) := by decide +kernel
set_option maxRecDepth 20000 in
theorem ggX10_car_X10_isCar : GoodIn wsX10_car wsX10_isCar := goodIn_r _ [5] (by decide +kernel) (by decide +kernel)
set_option maxRecDepth 20000 in
theorem gX10_car_X10_isCar : GoodIn wsX10_car (va_wsS RX10 122 yX10_isCar wsX10_isCar) := goodIn_app (goodIn_of _ (by decide +kernel)) ggX10_car_X10_isCar
set_option maxRecDepth 20000 in
theorem ggX10_car_X9_riderOf : GoodIn wsX10_car wsX9_riderOf := goodIn_r _ [10, 11, 12, 4, 13, 37, 38, 39, 40, 41, 42] (by decide +kernel) (by decide +kernel)
set_option maxRecDepth 20000 in
theorem gX10_car_X9_riderOf : GoodIn wsX10_car (wsV RX10 125 RX9 yX9_riderOf wsX9_riderOf) := goodIn_app (goodIn_of _ (by decide +kernel)) ggX10_car_X9_riderOf
set_option maxRecDepth 20000 in
theorem ggX10_car_X9_loadOf : GoodIn wsX10_car wsX9_loadOf := goodIn_r _ [17, 18, 12, 4, 13, 37, 38, 39, 40, 41, 42] (by decide +kernel) (by decide +kernel)
set_option maxRecDepth 20000 in
theorem gX10_car_X9_loadOf : GoodIn wsX10_car (wsV RX10 128 RX9 yX9_loadOf wsX9_loadOf) := goodIn_app (goodIn_of _ (by decide +kernel)) ggX10_car_X9_loadOf
set_option maxRecDepth 20000 in
theorem ggX10_car_X9_placeOf : GoodIn wsX10_car wsX9_placeOf := goodIn_r _ [22, 23, 24, 25, 26, 27, 37, 38, 39, 40, 41, 42] (by decide +kernel) (by decide +kernel)
set_option maxRecDepth 20000 in
theorem gX10_car_X9_placeOf : GoodIn wsX10_car (wsV RX10 131 RX9 yX9_placeOf wsX9_placeOf) := goodIn_app (goodIn_of _ (by decide +kernel)) ggX10_car_X9_placeOf
theorem dX10_car_0 : decode cX10_car 0 = .ok (.iload_n 1, 1) := by decide +kernel
theorem dX10_car_1 : decode cX10_car 1 = .ok (.invokestatic 122, 3) := by decide +kernel
theorem dX10_car_4 : decode cX10_car 4 = .ok (.ifCond .ne 5, 3) := by decide +kernel
theorem dX10_car_7 : decode cX10_car 7 = .ok (.iconst (-1), 1) := by decide +kernel
theorem dX10_car_8 : decode cX10_car 8 = .ok (.ireturn, 1) := by decide +kernel
theorem dX10_car_9 : decode cX10_car 9 = .ok (.iload_n 2, 1) := by decide +kernel
theorem dX10_car_10 : decode cX10_car 10 = .ok (.ifCond .lt 8, 3) := by decide +kernel
theorem dX10_car_13 : decode cX10_car 13 = .ok (.iload_n 2, 1) := by decide +kernel
theorem dX10_car_14 : decode cX10_car 14 = .ok (.iconst 2, 1) := by decide +kernel
theorem dX10_car_15 : decode cX10_car 15 = .ok (.if_icmp .le 6, 3) := by decide +kernel
theorem dX10_car_18 : decode cX10_car 18 = .ok (.bipush (-2), 2) := by decide +kernel
theorem dX10_car_20 : decode cX10_car 20 = .ok (.ireturn, 1) := by decide +kernel
theorem dX10_car_21 : decode cX10_car 21 = .ok (.iload_n 2, 1) := by decide +kernel
theorem dX10_car_22 : decode cX10_car 22 = .ok (.ifCond .ne 12, 3) := by decide +kernel
theorem dX10_car_25 : decode cX10_car 25 = .ok (.aload_n 0, 1) := by decide +kernel
theorem dX10_car_26 : decode cX10_car 26 = .ok (.getfield 10, 3) := by decide +kernel
theorem dX10_car_29 : decode cX10_car 29 = .ok (.iload_n 1, 1) := by decide +kernel
theorem dX10_car_30 : decode cX10_car 30 = .ok (.invokevirtual 125, 3) := by decide +kernel
theorem dX10_car_33 : decode cX10_car 33 = .ok (.ireturn, 1) := by decide +kernel
theorem dX10_car_34 : decode cX10_car 34 = .ok (.iload_n 2, 1) := by decide +kernel
theorem dX10_car_35 : decode cX10_car 35 = .ok (.iconst 1, 1) := by decide +kernel
theorem dX10_car_36 : decode cX10_car 36 = .ok (.if_icmp .ne 14, 3) := by decide +kernel
theorem dX10_car_39 : decode cX10_car 39 = .ok (.aload_n 0, 1) := by decide +kernel
theorem dX10_car_40 : decode cX10_car 40 = .ok (.getfield 10, 3) := by decide +kernel
theorem dX10_car_43 : decode cX10_car 43 = .ok (.iload_n 1, 1) := by decide +kernel
theorem dX10_car_44 : decode cX10_car 44 = .ok (.invokevirtual 128, 3) := by decide +kernel
theorem dX10_car_47 : decode cX10_car 47 = .ok (.goto 11, 3) := by decide +kernel
theorem dX10_car_50 : decode cX10_car 50 = .ok (.aload_n 0, 1) := by decide +kernel
theorem dX10_car_51 : decode cX10_car 51 = .ok (.getfield 10, 3) := by decide +kernel
theorem dX10_car_54 : decode cX10_car 54 = .ok (.iload_n 1, 1) := by decide +kernel
theorem dX10_car_55 : decode cX10_car 55 = .ok (.invokevirtual 131, 3) := by decide +kernel
theorem dX10_car_58 : decode cX10_car 58 = .ok (.ireturn, 1) := by decide +kernel
set_option maxRecDepth 20000 in
theorem ggX10_pull_X9_pullNow : GoodIn wsX10_pull wsX9_pullNow := goodIn_r _ [7, 8, 9, 10, 11, 6, 12, 13, 14, 15, 16, 17, 18, 19, 20, 21, 22, 23, 33, 34, 35, 36, 37, 38] (by decide +kernel) (by decide +kernel)
set_option maxRecDepth 20000 in
theorem gX10_pull_X9_pullNow : GoodIn wsX10_pull (wsV RX10 134 RX9 yX9_pullNow wsX9_pullNow) := goodIn_app (goodIn_of _ (by decide +kernel)) ggX10_pull_X9_pullNow
theorem dX10_pull_0 : decode cX10_pull 0 = .ok (.aload_n 0, 1) := by decide +kernel
theorem dX10_pull_1 : decode cX10_pull 1 = .ok (.getfield 10, 3) := by decide +kernel
theorem dX10_pull_4 : decode cX10_pull 4 = .ok (.invokevirtual 134, 3) := by decide +kernel
theorem dX10_pull_7 : decode cX10_pull 7 = .ok (.ldc 137, 2) := by decide +kernel
theorem dX10_pull_9 : decode cX10_pull 9 = .ok (.iadd, 1) := by decide +kernel
theorem dX10_pull_10 : decode cX10_pull 10 = .ok (.ireturn, 1) := by decide +kernel
set_option maxRecDepth 20000 in
theorem ggX10_behind_X10_refuseEvening : GoodIn wsX10_behind wsX10_refuseEvening := goodIn_r _ [7, 1, 8, 9, 10, 11, 12, 6, 13, 14, 15, 16, 17, 18, 19, 20, 21, 22, 23, 24, 25, 26, 27, 28, 29, 30, 31, 32, 33, 34, 35, 36, 37, 38, 39, 40, 41, 42, 43, 44, 45, 46, 47, 48, 49, 50, 51, 52, 53, 54, 55, 56, 57, 58, 59, 60, 61, 62, 63, 64, 65, 66, 67, 68, 69, 70, 71, 72, 73, 74, 75, 76, 77, 78, 79, 80, 81, 82, 83, 84, 85, 86, 87, 88, 89, 90, 91, 92, 93, 94, 95, 96, 97, 98, 99, 100, 101, 102, 103, 104, 105, 106, 107, 108, 109, 110, 111, 112, 113, 114, 115, 116, 117, 118, 119, 120, 121, 122, 123, 124, 125, 126, 127, 128, 129, 130, 131, 132, 133, 134, 135, 136, 137, 138, 139, 140, 141, 142, 143, 144, 145, 146, 147, 148, 149, 150, 151, 152, 153, 154, 155, 156, 157, 158, 159, 160, 161, 175, 176, 177, 178, 179, 180, 181, 182, 183, 184, 185, 186, 187, 188, 189, 190, 191, 192, 193, 194, 195, 196, 197, 198, 199] (by decide +kernel) (by decide +kernel)
set_option maxRecDepth 20000 in
theorem gX10_behind_X10_refuseEvening : GoodIn wsX10_behind (wsV RX10 109 RX10 yX10_refuseEvening wsX10_refuseEvening) := goodIn_app (goodIn_of _ (by decide +kernel)) ggX10_behind_X10_refuseEvening
set_option maxRecDepth 20000 in
theorem ggX10_behind_X7_wheel : GoodIn wsX10_behind wsX7_wheel := goodIn_r _ [165, 49, 187, 188, 189, 190, 191, 192, 193] (by decide +kernel) (by decide +kernel)
set_option maxRecDepth 20000 in
theorem gX10_behind_X7_wheel : GoodIn wsX10_behind (wsV RX10 112 RX7 yX7_wheel wsX7_wheel) := goodIn_app (goodIn_of _ (by decide +kernel)) ggX10_behind_X7_wheel
set_option maxRecDepth 20000 in
theorem ggX10_behind_X9_lowest : GoodIn wsX10_behind wsX9_lowest := goodIn_r _ [118, 65, 194, 195, 196, 197, 198, 199] (by decide +kernel) (by decide +kernel)
set_option maxRecDepth 20000 in
theorem gX10_behind_X9_lowest : GoodIn wsX10_behind (wsV RX10 119 RX9 yX9_lowest wsX9_lowest) := goodIn_app (goodIn_of _ (by decide +kernel)) ggX10_behind_X9_lowest
set_option maxRecDepth 20000 in
theorem ggX10_behind_X9_pullNow : GoodIn wsX10_behind wsX9_pullNow := goodIn_r _ [170, 65, 91, 92, 93, 59, 94, 63, 64, 61, 95, 25, 6, 26, 96, 97, 98, 99, 194, 195, 196, 197, 198, 199] (by decide +kernel) (by decide +kernel)
set_option maxRecDepth 20000 in
theorem gX10_behind_X9_pullNow : GoodIn wsX10_behind (wsV RX10 134 RX9 yX9_pullNow wsX9_pullNow) := goodIn_app (goodIn_of _ (by decide +kernel)) ggX10_behind_X9_pullNow
set_option maxRecDepth 20000 in
theorem ggX10_behind_X7_turned : GoodIn wsX10_behind wsX7_turned := goodIn_r _ [174, 52, 187, 188, 189, 190, 191, 192, 193] (by decide +kernel) (by decide +kernel)
set_option maxRecDepth 20000 in
theorem gX10_behind_X7_turned : GoodIn wsX10_behind (wsV RX10 138 RX7 yX7_turned wsX7_turned) := goodIn_app (goodIn_of _ (by decide +kernel)) ggX10_behind_X7_turned
theorem dX10_behind_0 : decode cX10_behind 0 = .ok (.iload_n 1, 1) := by decide +kernel
theorem dX10_behind_1 : decode cX10_behind 1 = .ok (.ifCond .lt 8, 3) := by decide +kernel
theorem dX10_behind_4 : decode cX10_behind 4 = .ok (.iload_n 1, 1) := by decide +kernel
theorem dX10_behind_5 : decode cX10_behind 5 = .ok (.iconst 2, 1) := by decide +kernel
theorem dX10_behind_6 : decode cX10_behind 6 = .ok (.if_icmp .le 6, 3) := by decide +kernel
theorem dX10_behind_9 : decode cX10_behind 9 = .ok (.bipush (-2), 2) := by decide +kernel
theorem dX10_behind_11 : decode cX10_behind 11 = .ok (.ireturn, 1) := by decide +kernel
theorem dX10_behind_12 : decode cX10_behind 12 = .ok (.aload_n 0, 1) := by decide +kernel
theorem dX10_behind_13 : decode cX10_behind 13 = .ok (.invokevirtual 109, 3) := by decide +kernel
theorem dX10_behind_16 : decode cX10_behind 16 = .ok (.istore_n 2, 1) := by decide +kernel
theorem dX10_behind_17 : decode cX10_behind 17 = .ok (.iload_n 2, 1) := by decide +kernel
theorem dX10_behind_18 : decode cX10_behind 18 = .ok (.ifCond .eq 5, 3) := by decide +kernel
theorem dX10_behind_21 : decode cX10_behind 21 = .ok (.iload_n 2, 1) := by decide +kernel
theorem dX10_behind_22 : decode cX10_behind 22 = .ok (.ireturn, 1) := by decide +kernel
theorem dX10_behind_23 : decode cX10_behind 23 = .ok (.iload_n 1, 1) := by decide +kernel
theorem dX10_behind_24 : decode cX10_behind 24 = .ok (.ifCond .ne 14, 3) := by decide +kernel
theorem dX10_behind_27 : decode cX10_behind 27 = .ok (.aload_n 0, 1) := by decide +kernel
theorem dX10_behind_28 : decode cX10_behind 28 = .ok (.getfield 36, 3) := by decide +kernel
theorem dX10_behind_31 : decode cX10_behind 31 = .ok (.invokevirtual 112, 3) := by decide +kernel
theorem dX10_behind_34 : decode cX10_behind 34 = .ok (.invokevirtual 119, 3) := by decide +kernel
theorem dX10_behind_37 : decode cX10_behind 37 = .ok (.ireturn, 1) := by decide +kernel
theorem dX10_behind_38 : decode cX10_behind 38 = .ok (.iload_n 1, 1) := by decide +kernel
theorem dX10_behind_39 : decode cX10_behind 39 = .ok (.iconst 1, 1) := by decide +kernel
theorem dX10_behind_40 : decode cX10_behind 40 = .ok (.if_icmp .ne 19, 3) := by decide +kernel
theorem dX10_behind_43 : decode cX10_behind 43 = .ok (.aload_n 0, 1) := by decide +kernel
theorem dX10_behind_44 : decode cX10_behind 44 = .ok (.getfield 36, 3) := by decide +kernel
theorem dX10_behind_47 : decode cX10_behind 47 = .ok (.invokevirtual 112, 3) := by decide +kernel
theorem dX10_behind_50 : decode cX10_behind 50 = .ok (.invokevirtual 134, 3) := by decide +kernel
theorem dX10_behind_53 : decode cX10_behind 53 = .ok (.ldc 137, 2) := by decide +kernel
theorem dX10_behind_55 : decode cX10_behind 55 = .ok (.iadd, 1) := by decide +kernel
theorem dX10_behind_56 : decode cX10_behind 56 = .ok (.goto 14, 3) := by decide +kernel
theorem dX10_behind_59 : decode cX10_behind 59 = .ok (.aload_n 0, 1) := by decide +kernel
theorem dX10_behind_60 : decode cX10_behind 60 = .ok (.getfield 36, 3) := by decide +kernel
theorem dX10_behind_63 : decode cX10_behind 63 = .ok (.invokevirtual 138, 3) := by decide +kernel
theorem dX10_behind_66 : decode cX10_behind 66 = .ok (.sipush 1000, 3) := by decide +kernel
theorem dX10_behind_69 : decode cX10_behind 69 = .ok (.iadd, 1) := by decide +kernel
theorem dX10_behind_70 : decode cX10_behind 70 = .ok (.ireturn, 1) := by decide +kernel
set_option maxRecDepth 20000 in
theorem ggX10_leftOut_X10_refuseEvening : GoodIn wsX10_leftOut wsX10_refuseEvening := goodIn_r _ [7, 1, 8, 2, 9, 10, 11, 6, 12, 13, 14, 15, 16, 17, 18, 19, 20, 21, 22, 23, 24, 25, 26, 27, 28, 29, 30, 31, 32, 33, 34, 35, 36, 37, 38, 39, 40, 41, 42, 43, 44, 45, 46, 47, 48, 49, 50, 51, 52, 53, 54, 55, 56, 57, 58, 59, 60, 61, 62, 63, 64, 65, 66, 67, 68, 69, 70, 71, 72, 73, 74, 75, 76, 77, 78, 79, 80, 81, 82, 83, 84, 85, 86, 87, 88, 89, 90, 91, 92, 93, 94, 95, 96, 97, 98, 99, 100, 101, 102, 103, 104, 105, 106, 107, 108, 109, 110, 111, 112, 113, 114, 115, 116, 117, 118, 119, 120, 121, 122, 123, 124, 125, 126, 127, 128, 129, 130, 131, 132, 133, 134, 135, 136, 137, 138, 139, 140, 141, 142, 143, 144, 145, 146, 147, 148, 149, 150, 151, 152, 153, 154, 155, 156, 157, 158, 159, 160, 173, 174, 175, 176, 177, 178, 179, 180, 181, 182, 183, 184, 185, 186, 187, 188, 189, 190, 191, 192, 193, 194, 195, 196, 197] (by decide +kernel) (by decide +kernel)
set_option maxRecDepth 20000 in
theorem gX10_leftOut_X10_refuseEvening : GoodIn wsX10_leftOut (wsV RX10 109 RX10 yX10_refuseEvening wsX10_refuseEvening) := goodIn_app (goodIn_of _ (by decide +kernel)) ggX10_leftOut_X10_refuseEvening
set_option maxRecDepth 20000 in
theorem ggX10_leftOut_X7_wheel : GoodIn wsX10_leftOut wsX7_wheel := goodIn_r _ [164, 48, 185, 186, 187, 188, 189, 190, 191] (by decide +kernel) (by decide +kernel)
set_option maxRecDepth 20000 in
theorem gX10_leftOut_X7_wheel : GoodIn wsX10_leftOut (wsV RX10 112 RX7 yX7_wheel wsX7_wheel) := goodIn_app (goodIn_of _ (by decide +kernel)) ggX10_leftOut_X7_wheel
set_option maxRecDepth 20000 in
theorem ggX10_leftOut_X9_lowest : GoodIn wsX10_leftOut wsX9_lowest := goodIn_r _ [117, 64, 192, 193, 194, 195, 196, 197] (by decide +kernel) (by decide +kernel)
set_option maxRecDepth 20000 in
theorem gX10_leftOut_X9_lowest : GoodIn wsX10_leftOut (wsV RX10 119 RX9 yX9_lowest wsX9_lowest) := goodIn_app (goodIn_of _ (by decide +kernel)) ggX10_leftOut_X9_lowest
set_option maxRecDepth 20000 in
theorem ggX10_leftOut_X4_length : GoodIn wsX10_leftOut wsX4_length := goodIn_r _ [80, 18, 182, 183, 184] (by decide +kernel) (by decide +kernel)
set_option maxRecDepth 20000 in
theorem gX10_leftOut_X4_length : GoodIn wsX10_leftOut (wsV RX10 84 RX4 yX4_length wsX4_length) := goodIn_app (goodIn_of _ (by decide +kernel)) ggX10_leftOut_X4_length
set_option maxRecDepth 20000 in
theorem ggX10_leftOut_X10_canBeLeftOut : GoodIn wsX10_leftOut wsX10_canBeLeftOut := goodIn_r _ [170, 2, 1, 8, 171, 20, 21, 16, 22, 23, 24, 6, 25, 172, 36, 37, 43, 44, 45, 46, 47, 48, 49, 50, 51, 52, 53, 54, 55, 56, 57, 58, 59, 60, 61, 62, 63, 64, 65, 66, 67, 68, 69, 70, 71, 72, 73, 74, 75, 76, 39, 40, 41, 42, 77, 78, 79, 80, 18, 81, 82, 83, 84, 85, 86, 87, 88, 89, 90, 91, 92, 93, 94, 95, 96, 97, 98, 99, 100, 101, 102, 103, 104, 105, 106, 107, 108, 109, 33, 34, 110, 111, 112, 113, 114, 115, 116, 117, 118, 119, 120, 121, 122, 123, 124, 125, 126, 127, 128, 30, 31, 129, 130, 131, 132, 133, 134, 135, 136, 137, 138, 139, 140, 141, 142, 143, 144, 145, 146, 147, 148, 149, 150, 151, 152, 153, 154, 155, 156, 157, 158, 159, 160, 161, 162, 163, 164, 165, 173, 174, 175, 176, 177, 178, 179, 180, 181, 182, 183, 184, 185, 186, 187, 188, 189, 190, 191, 192, 193, 194, 195, 196, 197] (by decide +kernel) (by decide +kernel)
set_option maxRecDepth 20000 in
theorem gX10_leftOut_X10_canBeLeftOut : GoodIn wsX10_leftOut (wsV RX10 141 RX10 yX10_canBeLeftOut wsX10_canBeLeftOut) := goodIn_app (goodIn_of _ (by decide +kernel)) ggX10_leftOut_X10_canBeLeftOut
theorem dX10_leftOut_0 : decode cX10_leftOut 0 = .ok (.aload_n 0, 1) := by decide +kernel
theorem dX10_leftOut_1 : decode cX10_leftOut 1 = .ok (.invokevirtual 109, 3) := by decide +kernel
theorem dX10_leftOut_4 : decode cX10_leftOut 4 = .ok (.istore_n 2, 1) := by decide +kernel
theorem dX10_leftOut_5 : decode cX10_leftOut 5 = .ok (.iload_n 2, 1) := by decide +kernel
theorem dX10_leftOut_6 : decode cX10_leftOut 6 = .ok (.ifCond .eq 5, 3) := by decide +kernel
theorem dX10_leftOut_9 : decode cX10_leftOut 9 = .ok (.iload_n 2, 1) := by decide +kernel
theorem dX10_leftOut_10 : decode cX10_leftOut 10 = .ok (.ireturn, 1) := by decide +kernel
theorem dX10_leftOut_11 : decode cX10_leftOut 11 = .ok (.aload_n 0, 1) := by decide +kernel
theorem dX10_leftOut_12 : decode cX10_leftOut 12 = .ok (.getfield 36, 3) := by decide +kernel
theorem dX10_leftOut_15 : decode cX10_leftOut 15 = .ok (.invokevirtual 112, 3) := by decide +kernel
theorem dX10_leftOut_18 : decode cX10_leftOut 18 = .ok (.invokevirtual 119, 3) := by decide +kernel
theorem dX10_leftOut_21 : decode cX10_leftOut 21 = .ok (.istore_n 3, 1) := by decide +kernel
theorem dX10_leftOut_22 : decode cX10_leftOut 22 = .ok (.iconst 0, 1) := by decide +kernel
theorem dX10_leftOut_23 : decode cX10_leftOut 23 = .ok (.istore 4, 2) := by decide +kernel
theorem dX10_leftOut_25 : decode cX10_leftOut 25 = .ok (.iconst 0, 1) := by decide +kernel
theorem dX10_leftOut_26 : decode cX10_leftOut 26 = .ok (.istore 5, 2) := by decide +kernel
theorem dX10_leftOut_28 : decode cX10_leftOut 28 = .ok (.iload 5, 2) := by decide +kernel
theorem dX10_leftOut_30 : decode cX10_leftOut 30 = .ok (.aload_n 0, 1) := by decide +kernel
theorem dX10_leftOut_31 : decode cX10_leftOut 31 = .ok (.getfield 22, 3) := by decide +kernel
theorem dX10_leftOut_34 : decode cX10_leftOut 34 = .ok (.invokevirtual 84, 3) := by decide +kernel
theorem dX10_leftOut_37 : decode cX10_leftOut 37 = .ok (.if_icmp .ge 31, 3) := by decide +kernel
theorem dX10_leftOut_40 : decode cX10_leftOut 40 = .ok (.aload_n 0, 1) := by decide +kernel
theorem dX10_leftOut_41 : decode cX10_leftOut 41 = .ok (.iload 5, 2) := by decide +kernel
theorem dX10_leftOut_43 : decode cX10_leftOut 43 = .ok (.iload_n 3, 1) := by decide +kernel
theorem dX10_leftOut_44 : decode cX10_leftOut 44 = .ok (.invokevirtual 141, 3) := by decide +kernel
theorem dX10_leftOut_47 : decode cX10_leftOut 47 = .ok (.ifCond .eq 15, 3) := by decide +kernel
theorem dX10_leftOut_50 : decode cX10_leftOut 50 = .ok (.iload 4, 2) := by decide +kernel
theorem dX10_leftOut_52 : decode cX10_leftOut 52 = .ok (.iload_n 1, 1) := by decide +kernel
theorem dX10_leftOut_53 : decode cX10_leftOut 53 = .ok (.if_icmp .ne 6, 3) := by decide +kernel
theorem dX10_leftOut_56 : decode cX10_leftOut 56 = .ok (.iload 5, 2) := by decide +kernel
theorem dX10_leftOut_58 : decode cX10_leftOut 58 = .ok (.ireturn, 1) := by decide +kernel
theorem dX10_leftOut_59 : decode cX10_leftOut 59 = .ok (.iinc 4 1, 3) := by decide +kernel
theorem dX10_leftOut_62 : decode cX10_leftOut 62 = .ok (.iinc 5 1, 3) := by decide +kernel
theorem dX10_leftOut_65 : decode cX10_leftOut 65 = .ok (.goto (-37), 3) := by decide +kernel
theorem dX10_leftOut_68 : decode cX10_leftOut 68 = .ok (.iload_n 1, 1) := by decide +kernel
theorem dX10_leftOut_69 : decode cX10_leftOut 69 = .ok (.iconst (-1), 1) := by decide +kernel
theorem dX10_leftOut_70 : decode cX10_leftOut 70 = .ok (.if_icmp .ne 8, 3) := by decide +kernel
theorem dX10_leftOut_73 : decode cX10_leftOut 73 = .ok (.iload 4, 2) := by decide +kernel
theorem dX10_leftOut_75 : decode cX10_leftOut 75 = .ok (.goto 5, 3) := by decide +kernel
theorem dX10_leftOut_78 : decode cX10_leftOut 78 = .ok (.bipush (-6), 2) := by decide +kernel
theorem dX10_leftOut_80 : decode cX10_leftOut 80 = .ok (.ireturn, 1) := by decide +kernel
set_option maxRecDepth 20000 in
theorem ggX10_down_X10_isPerson : GoodIn wsX10_down wsX10_isPerson := goodIn_r _ [6] (by decide +kernel) (by decide +kernel)
set_option maxRecDepth 20000 in
theorem gX10_down_X10_isPerson : GoodIn wsX10_down (va_wsS RX10 64 yX10_isPerson wsX10_isPerson) := goodIn_app (goodIn_of _ (by decide +kernel)) ggX10_down_X10_isPerson
set_option maxRecDepth 20000 in
theorem ggX10_down_X9_isAboard : GoodIn wsX10_down wsX9_isAboard := goodIn_r _ [11, 12, 13, 5, 14, 118, 119, 120, 121, 122, 123] (by decide +kernel) (by decide +kernel)
set_option maxRecDepth 20000 in
theorem gX10_down_X9_isAboard : GoodIn wsX10_down (wsV RX10 145 RX9 yX9_isAboard wsX9_isAboard) := goodIn_app (goodIn_of _ (by decide +kernel)) ggX10_down_X9_isAboard
set_option maxRecDepth 20000 in
theorem ggX10_down_X9_isLowest : GoodIn wsX10_down wsX9_isLowest := goodIn_r _ [18, 12, 19, 13, 5, 14, 118, 119, 120, 121, 122, 123] (by decide +kernel) (by decide +kernel)
set_option maxRecDepth 20000 in
theorem gX10_down_X9_isLowest : GoodIn wsX10_down (wsV RX10 148 RX9 yX9_isLowest wsX9_isLowest) := goodIn_app (goodIn_of _ (by decide +kernel)) ggX10_down_X9_isLowest
set_option maxRecDepth 20000 in
theorem ggX10_down_X9_copyFrom : GoodIn wsX10_down wsX9_copyFrom := goodIn_r _ [23, 24, 12, 25, 26, 19, 27, 28, 5, 29, 30, 31, 32, 33, 34, 35, 36, 37, 118, 119, 120, 121, 122, 123] (by decide +kernel) (by decide +kernel)
set_option maxRecDepth 20000 in
theorem gX10_down_X9_copyFrom : GoodIn wsX10_down (wsV RX10 115 RX9 yX9_copyFrom wsX9_copyFrom) := goodIn_app (goodIn_of _ (by decide +kernel)) ggX10_down_X9_copyFrom
set_option maxRecDepth 20000 in
theorem ggX10_down_X3_first : GoodIn wsX10_down wsX3_first := goodIn_r _ [41, 42, 43, 40, 44, 45, 46, 47, 10, 48, 19, 49, 50, 51, 52, 25, 13, 5, 14, 53, 54, 55, 56, 57, 58, 59, 60, 16, 17, 18, 12, 61, 8, 9, 11, 62, 63, 64, 65, 66, 67, 68, 69, 70, 4, 6, 71, 72, 73, 74, 75, 76, 77, 78, 79, 80, 81, 82, 26, 24, 83, 84, 85, 86, 87, 88, 89, 90, 91, 27, 92, 93, 94, 95, 96, 97, 98, 99, 100, 101, 118, 119, 120, 121, 122, 123] (by decide +kernel) (by decide +kernel)
set_option maxRecDepth 20000 in
theorem gX10_down_X3_first : GoodIn wsX10_down (va_wsS RX10 151 yX3_first wsX3_first) := goodIn_app (goodIn_of _ (by decide +kernel)) ggX10_down_X3_first
set_option maxRecDepth 20000 in
theorem ggX10_down_X10_tellMove : GoodIn wsX10_down wsX10_tellMove := goodIn_r _ [105, 1, 106, 107, 40, 108, 56, 57, 58, 10, 59, 25, 19, 13, 5, 14, 3, 4, 6, 109, 110, 111, 112, 113, 114, 115, 116, 117, 118, 119, 120, 121, 122, 123] (by decide +kernel) (by decide +kernel)
set_option maxRecDepth 20000 in
theorem gX10_down_X10_tellMove : GoodIn wsX10_down (wsV RX10 157 RX10 yX10_tellMove wsX10_tellMove) := goodIn_app (goodIn_of _ (by decide +kernel)) ggX10_down_X10_tellMove
theorem dX10_down_0 : decode cX10_down 0 = .ok (.iload_n 1, 1) := by decide +kernel
theorem dX10_down_1 : decode cX10_down 1 = .ok (.invokestatic 64, 3) := by decide +kernel
theorem dX10_down_4 : decode cX10_down 4 = .ok (.ifCond .ne 5, 3) := by decide +kernel
theorem dX10_down_7 : decode cX10_down 7 = .ok (.iconst (-1), 1) := by decide +kernel
theorem dX10_down_8 : decode cX10_down 8 = .ok (.ireturn, 1) := by decide +kernel
theorem dX10_down_9 : decode cX10_down 9 = .ok (.iload_n 2, 1) := by decide +kernel
theorem dX10_down_10 : decode cX10_down 10 = .ok (.ifCond .lt 8, 3) := by decide +kernel
theorem dX10_down_13 : decode cX10_down 13 = .ok (.iload_n 2, 1) := by decide +kernel
theorem dX10_down_14 : decode cX10_down 14 = .ok (.iconst 2, 1) := by decide +kernel
theorem dX10_down_15 : decode cX10_down 15 = .ok (.if_icmp .le 6, 3) := by decide +kernel
theorem dX10_down_18 : decode cX10_down 18 = .ok (.bipush (-2), 2) := by decide +kernel
theorem dX10_down_20 : decode cX10_down 20 = .ok (.ireturn, 1) := by decide +kernel
theorem dX10_down_21 : decode cX10_down 21 = .ok (.aload_n 0, 1) := by decide +kernel
theorem dX10_down_22 : decode cX10_down 22 = .ok (.getfield 10, 3) := by decide +kernel
theorem dX10_down_25 : decode cX10_down 25 = .ok (.iload_n 1, 1) := by decide +kernel
theorem dX10_down_26 : decode cX10_down 26 = .ok (.invokevirtual 145, 3) := by decide +kernel
theorem dX10_down_29 : decode cX10_down 29 = .ok (.ifCond .ne 6, 3) := by decide +kernel
theorem dX10_down_32 : decode cX10_down 32 = .ok (.bipush (-3), 2) := by decide +kernel
theorem dX10_down_34 : decode cX10_down 34 = .ok (.ireturn, 1) := by decide +kernel
theorem dX10_down_35 : decode cX10_down 35 = .ok (.aload_n 0, 1) := by decide +kernel
theorem dX10_down_36 : decode cX10_down 36 = .ok (.getfield 10, 3) := by decide +kernel
theorem dX10_down_39 : decode cX10_down 39 = .ok (.iload_n 1, 1) := by decide +kernel
theorem dX10_down_40 : decode cX10_down 40 = .ok (.invokevirtual 148, 3) := by decide +kernel
theorem dX10_down_43 : decode cX10_down 43 = .ok (.ifCond .eq 14, 3) := by decide +kernel
theorem dX10_down_46 : decode cX10_down 46 = .ok (.iload_n 2, 1) := by decide +kernel
theorem dX10_down_47 : decode cX10_down 47 = .ok (.ifCond .ne 7, 3) := by decide +kernel
theorem dX10_down_50 : decode cX10_down 50 = .ok (.iconst 0, 1) := by decide +kernel
theorem dX10_down_51 : decode cX10_down 51 = .ok (.goto 5, 3) := by decide +kernel
theorem dX10_down_54 : decode cX10_down 54 = .ok (.bipush (-6), 2) := by decide +kernel
theorem dX10_down_56 : decode cX10_down 56 = .ok (.ireturn, 1) := by decide +kernel
theorem dX10_down_57 : decode cX10_down 57 = .ok (.aload_n 0, 1) := by decide +kernel
theorem dX10_down_58 : decode cX10_down 58 = .ok (.getfield 16, 3) := by decide +kernel
theorem dX10_down_61 : decode cX10_down 61 = .ok (.aload_n 0, 1) := by decide +kernel
theorem dX10_down_62 : decode cX10_down 62 = .ok (.getfield 10, 3) := by decide +kernel
theorem dX10_down_65 : decode cX10_down 65 = .ok (.invokevirtual 115, 3) := by decide +kernel
theorem dX10_down_68 : decode cX10_down 68 = .ok (.iconst 1, 1) := by decide +kernel
theorem dX10_down_69 : decode cX10_down 69 = .ok (.istore_n 3, 1) := by decide +kernel
theorem dX10_down_70 : decode cX10_down 70 = .ok (.iload_n 3, 1) := by decide +kernel
theorem dX10_down_71 : decode cX10_down 71 = .ok (.iconst 3, 1) := by decide +kernel
theorem dX10_down_72 : decode cX10_down 72 = .ok (.if_icmp .gt 43, 3) := by decide +kernel
theorem dX10_down_75 : decode cX10_down 75 = .ok (.aload_n 0, 1) := by decide +kernel
theorem dX10_down_76 : decode cX10_down 76 = .ok (.getfield 16, 3) := by decide +kernel
theorem dX10_down_79 : decode cX10_down 79 = .ok (.iload_n 1, 1) := by decide +kernel
theorem dX10_down_80 : decode cX10_down 80 = .ok (.iload_n 3, 1) := by decide +kernel
theorem dX10_down_81 : decode cX10_down 81 = .ok (.invokestatic 151, 3) := by decide +kernel
theorem dX10_down_84 : decode cX10_down 84 = .ok (.istore 4, 2) := by decide +kernel
theorem dX10_down_86 : decode cX10_down 86 = .ok (.iload 4, 2) := by decide +kernel
theorem dX10_down_88 : decode cX10_down 88 = .ok (.bipush (-6), 2) := by decide +kernel
theorem dX10_down_90 : decode cX10_down 90 = .ok (.if_icmp .eq 19, 3) := by decide +kernel
theorem dX10_down_93 : decode cX10_down 93 = .ok (.iload_n 2, 1) := by decide +kernel
theorem dX10_down_94 : decode cX10_down 94 = .ok (.ifCond .ne 7, 3) := by decide +kernel
theorem dX10_down_97 : decode cX10_down 97 = .ok (.iload_n 3, 1) := by decide +kernel
theorem dX10_down_98 : decode cX10_down 98 = .ok (.goto 10, 3) := by decide +kernel
theorem dX10_down_101 : decode cX10_down 101 = .ok (.aload_n 0, 1) := by decide +kernel
theorem dX10_down_102 : decode cX10_down 102 = .ok (.iload 4, 2) := by decide +kernel
theorem dX10_down_104 : decode cX10_down 104 = .ok (.iload_n 2, 1) := by decide +kernel
theorem dX10_down_105 : decode cX10_down 105 = .ok (.invokevirtual 157, 3) := by decide +kernel
theorem dX10_down_108 : decode cX10_down 108 = .ok (.ireturn, 1) := by decide +kernel
theorem dX10_down_109 : decode cX10_down 109 = .ok (.iinc 3 1, 3) := by decide +kernel
theorem dX10_down_112 : decode cX10_down 112 = .ok (.goto (-42), 3) := by decide +kernel
theorem dX10_down_115 : decode cX10_down 115 = .ok (.bipush (-6), 2) := by decide +kernel
theorem dX10_down_117 : decode cX10_down 117 = .ok (.ireturn, 1) := by decide +kernel
set_option maxRecDepth 20000 in
theorem ggX10_pebbles_X10_isPerson : GoodIn wsX10_pebbles wsX10_isPerson := goodIn_r _ [6] (by decide +kernel) (by decide +kernel)
set_option maxRecDepth 20000 in
theorem gX10_pebbles_X10_isPerson : GoodIn wsX10_pebbles (va_wsS RX10 64 yX10_isPerson wsX10_isPerson) := goodIn_app (goodIn_of _ (by decide +kernel)) ggX10_pebbles_X10_isPerson
set_option maxRecDepth 20000 in
theorem ggX10_pebbles_X9_isAboard : GoodIn wsX10_pebbles wsX9_isAboard := goodIn_r _ [11, 12, 13, 5, 14, 78, 79, 80, 81, 82, 83] (by decide +kernel) (by decide +kernel)
set_option maxRecDepth 20000 in
theorem gX10_pebbles_X9_isAboard : GoodIn wsX10_pebbles (wsV RX10 145 RX9 yX9_isAboard wsX9_isAboard) := goodIn_app (goodIn_of _ (by decide +kernel)) ggX10_pebbles_X9_isAboard
set_option maxRecDepth 20000 in
theorem ggX10_pebbles_X9_copyFrom : GoodIn wsX10_pebbles wsX9_copyFrom := goodIn_r _ [18, 19, 12, 20, 21, 22, 23, 24, 5, 25, 26, 27, 28, 29, 30, 31, 32, 33, 78, 79, 80, 81, 82, 83] (by decide +kernel) (by decide +kernel)
set_option maxRecDepth 20000 in
theorem gX10_pebbles_X9_copyFrom : GoodIn wsX10_pebbles (wsV RX10 115 RX9 yX9_copyFrom wsX9_copyFrom) := goodIn_app (goodIn_of _ (by decide +kernel)) ggX10_pebbles_X9_copyFrom
set_option maxRecDepth 20000 in
theorem ggX10_pebbles_X9_lowest : GoodIn wsX10_pebbles wsX9_lowest := goodIn_r _ [37, 22, 78, 79, 80, 81, 82, 83] (by decide +kernel) (by decide +kernel)
set_option maxRecDepth 20000 in
theorem gX10_pebbles_X9_lowest : GoodIn wsX10_pebbles (wsV RX10 119 RX9 yX9_lowest wsX9_lowest) := goodIn_app (goodIn_of _ (by decide +kernel)) ggX10_pebbles_X9_lowest
set_option maxRecDepth 20000 in
theorem ggX10_pebbles_X9_setLoad : GoodIn wsX10_pebbles wsX9_setLoad := goodIn_r _ [41, 21, 42, 5, 43, 78, 79, 80, 81, 82, 83] (by decide +kernel) (by decide +kernel)
set_option maxRecDepth 20000 in
theorem gX10_pebbles_X9_setLoad : GoodIn wsX10_pebbles (wsV RX10 161 RX9 yX9_setLoad wsX9_setLoad) := goodIn_app (goodIn_of _ (by decide +kernel)) ggX10_pebbles_X9_setLoad
set_option maxRecDepth 20000 in
theorem ggX10_pebbles_X9_letGo : GoodIn wsX10_pebbles wsX9_letGo := goodIn_r _ [47, 22, 48, 49, 50, 10, 51, 20, 21, 19, 52, 13, 5, 14, 53, 54, 55, 56, 57, 58, 59, 60, 23, 61, 62, 63, 64, 78, 79, 80, 81, 82, 83] (by decide +kernel) (by decide +kernel)
set_option maxRecDepth 20000 in
theorem gX10_pebbles_X9_letGo : GoodIn wsX10_pebbles (wsV RX10 164 RX9 yX9_letGo wsX9_letGo) := goodIn_app (goodIn_of _ (by decide +kernel)) ggX10_pebbles_X9_letGo
set_option maxRecDepth 20000 in
theorem ggX10_pebbles_X9_isLowest : GoodIn wsX10_pebbles wsX9_isLowest := goodIn_r _ [68, 12, 22, 13, 5, 14, 78, 79, 80, 81, 82, 83] (by decide +kernel) (by decide +kernel)
set_option maxRecDepth 20000 in
theorem gX10_pebbles_X9_isLowest : GoodIn wsX10_pebbles (wsV RX10 148 RX9 yX9_isLowest wsX9_isLowest) := goodIn_app (goodIn_of _ (by decide +kernel)) ggX10_pebbles_X9_isLowest
theorem dX10_pebbles_0 : decode cX10_pebbles 0 = .ok (.iload_n 1, 1) := by decide +kernel
theorem dX10_pebbles_1 : decode cX10_pebbles 1 = .ok (.invokestatic 64, 3) := by decide +kernel
theorem dX10_pebbles_4 : decode cX10_pebbles 4 = .ok (.ifCond .ne 5, 3) := by decide +kernel
theorem dX10_pebbles_7 : decode cX10_pebbles 7 = .ok (.iconst (-1), 1) := by decide +kernel
theorem dX10_pebbles_8 : decode cX10_pebbles 8 = .ok (.ireturn, 1) := by decide +kernel
theorem dX10_pebbles_9 : decode cX10_pebbles 9 = .ok (.aload_n 0, 1) := by decide +kernel
theorem dX10_pebbles_10 : decode cX10_pebbles 10 = .ok (.getfield 10, 3) := by decide +kernel
theorem dX10_pebbles_13 : decode cX10_pebbles 13 = .ok (.iload_n 1, 1) := by decide +kernel
theorem dX10_pebbles_14 : decode cX10_pebbles 14 = .ok (.invokevirtual 145, 3) := by decide +kernel
theorem dX10_pebbles_17 : decode cX10_pebbles 17 = .ok (.ifCond .ne 6, 3) := by decide +kernel
theorem dX10_pebbles_20 : decode cX10_pebbles 20 = .ok (.bipush (-3), 2) := by decide +kernel
theorem dX10_pebbles_22 : decode cX10_pebbles 22 = .ok (.ireturn, 1) := by decide +kernel
theorem dX10_pebbles_23 : decode cX10_pebbles 23 = .ok (.iconst 0, 1) := by decide +kernel
theorem dX10_pebbles_24 : decode cX10_pebbles 24 = .ok (.istore_n 2, 1) := by decide +kernel
theorem dX10_pebbles_25 : decode cX10_pebbles 25 = .ok (.iload_n 2, 1) := by decide +kernel
theorem dX10_pebbles_26 : decode cX10_pebbles 26 = .ok (.bipush 99, 2) := by decide +kernel
theorem dX10_pebbles_28 : decode cX10_pebbles 28 = .ok (.if_icmp .gt 56, 3) := by decide +kernel
theorem dX10_pebbles_31 : decode cX10_pebbles 31 = .ok (.aload_n 0, 1) := by decide +kernel
theorem dX10_pebbles_32 : decode cX10_pebbles 32 = .ok (.getfield 16, 3) := by decide +kernel
theorem dX10_pebbles_35 : decode cX10_pebbles 35 = .ok (.aload_n 0, 1) := by decide +kernel
theorem dX10_pebbles_36 : decode cX10_pebbles 36 = .ok (.getfield 10, 3) := by decide +kernel
theorem dX10_pebbles_39 : decode cX10_pebbles 39 = .ok (.invokevirtual 115, 3) := by decide +kernel
theorem dX10_pebbles_42 : decode cX10_pebbles 42 = .ok (.aload_n 0, 1) := by decide +kernel
theorem dX10_pebbles_43 : decode cX10_pebbles 43 = .ok (.getfield 16, 3) := by decide +kernel
theorem dX10_pebbles_46 : decode cX10_pebbles 46 = .ok (.aload_n 0, 1) := by decide +kernel
theorem dX10_pebbles_47 : decode cX10_pebbles 47 = .ok (.getfield 16, 3) := by decide +kernel
theorem dX10_pebbles_50 : decode cX10_pebbles 50 = .ok (.invokevirtual 119, 3) := by decide +kernel
theorem dX10_pebbles_53 : decode cX10_pebbles 53 = .ok (.iload_n 2, 1) := by decide +kernel
theorem dX10_pebbles_54 : decode cX10_pebbles 54 = .ok (.invokevirtual 161, 3) := by decide +kernel
theorem dX10_pebbles_57 : decode cX10_pebbles 57 = .ok (.aload_n 0, 1) := by decide +kernel
theorem dX10_pebbles_58 : decode cX10_pebbles 58 = .ok (.getfield 16, 3) := by decide +kernel
theorem dX10_pebbles_61 : decode cX10_pebbles 61 = .ok (.invokevirtual 164, 3) := by decide +kernel
theorem dX10_pebbles_64 : decode cX10_pebbles 64 = .ok (.pop, 1) := by decide +kernel
theorem dX10_pebbles_65 : decode cX10_pebbles 65 = .ok (.aload_n 0, 1) := by decide +kernel
theorem dX10_pebbles_66 : decode cX10_pebbles 66 = .ok (.getfield 16, 3) := by decide +kernel
theorem dX10_pebbles_69 : decode cX10_pebbles 69 = .ok (.iload_n 1, 1) := by decide +kernel
theorem dX10_pebbles_70 : decode cX10_pebbles 70 = .ok (.invokevirtual 148, 3) := by decide +kernel
theorem dX10_pebbles_73 : decode cX10_pebbles 73 = .ok (.ifCond .eq 5, 3) := by decide +kernel
theorem dX10_pebbles_76 : decode cX10_pebbles 76 = .ok (.iload_n 2, 1) := by decide +kernel
theorem dX10_pebbles_77 : decode cX10_pebbles 77 = .ok (.ireturn, 1) := by decide +kernel
theorem dX10_pebbles_78 : decode cX10_pebbles 78 = .ok (.iinc 2 1, 3) := by decide +kernel
theorem dX10_pebbles_81 : decode cX10_pebbles 81 = .ok (.goto (-56), 3) := by decide +kernel
theorem dX10_pebbles_84 : decode cX10_pebbles 84 = .ok (.bipush (-6), 2) := by decide +kernel
theorem dX10_pebbles_86 : decode cX10_pebbles 86 = .ok (.ireturn, 1) := by decide +kernel
set_option maxRecDepth 20000 in
theorem ggX10_brake_X9_greatestPull : GoodIn wsX10_brake wsX9_greatestPull := goodIn_r _ [6, 7, 8, 9, 10, 11, 12, 13, 14, 15, 16, 5, 17, 18, 19, 20, 21, 22, 23, 24, 25, 26, 27, 28, 38, 39, 40, 41, 42, 43] (by decide +kernel) (by decide +kernel)
set_option maxRecDepth 20000 in
theorem gX10_brake_X9_greatestPull : GoodIn wsX10_brake (wsV RX10 167 RX9 yX9_greatestPull wsX9_greatestPull) := goodIn_app (goodIn_of _ (by decide +kernel)) ggX10_brake_X9_greatestPull
theorem dX10_brake_0 : decode cX10_brake 0 = .ok (.aload_n 0, 1) := by decide +kernel
theorem dX10_brake_1 : decode cX10_brake 1 = .ok (.getfield 10, 3) := by decide +kernel
theorem dX10_brake_4 : decode cX10_brake 4 = .ok (.invokevirtual 167, 3) := by decide +kernel
theorem dX10_brake_7 : decode cX10_brake 7 = .ok (.ireturn, 1) := by decide +kernel
set_option maxRecDepth 20000 in
theorem ggX10_balance_X10_isPerson : GoodIn wsX10_balance wsX10_isPerson := goodIn_r _ [6] (by decide +kernel) (by decide +kernel)
set_option maxRecDepth 20000 in
theorem gX10_balance_X10_isPerson : GoodIn wsX10_balance (va_wsS RX10 64 yX10_isPerson wsX10_isPerson) := goodIn_app (goodIn_of _ (by decide +kernel)) ggX10_balance_X10_isPerson
set_option maxRecDepth 20000 in
theorem ggX10_balance_X10_isOf : GoodIn wsX10_balance wsX10_isOf := goodIn_r _ [9] (by decide +kernel) (by decide +kernel)
set_option maxRecDepth 20000 in
theorem gX10_balance_X10_isOf : GoodIn wsX10_balance (va_wsS RX10 170 yX10_isOf wsX10_isOf) := goodIn_app (goodIn_of _ (by decide +kernel)) ggX10_balance_X10_isOf
set_option maxRecDepth 20000 in
theorem ggX10_balance_J6_bitCount_0f7a4 : GoodIn wsX10_balance wsJ6_bitCount_0f7a4 := goodIn_r _ [13, 14, 15, 16] (by decide +kernel) (by decide +kernel)
set_option maxRecDepth 20000 in
theorem gX10_balance_J6_bitCount_0f7a4 : GoodIn wsX10_balance (va_wsS RX10 173 yJ6_bitCount_0f7a4 wsJ6_bitCount_0f7a4) := goodIn_app (goodIn_of _ (by decide +kernel)) ggX10_balance_J6_bitCount_0f7a4
set_option maxRecDepth 20000 in
theorem ggX10_balance_X5_count : GoodIn wsX10_balance wsX5_count := goodIn_r _ [21, 22, 23, 24, 25, 26, 27, 28, 29, 30, 31, 32, 33, 34, 35, 5, 36, 37, 38, 39, 40, 41, 42, 43, 44, 45, 46, 47, 48, 49, 50, 51, 52, 53, 54, 20, 55, 8, 9, 56, 57, 58, 59, 60, 61, 62, 63, 64, 65, 66, 67, 68, 69, 70, 71, 72, 73, 74, 75, 76, 77, 78, 79, 80, 81, 82, 83, 84, 85, 86, 87, 88, 89, 90, 91, 92, 93, 94, 95, 96, 97, 98, 99, 100, 101, 102, 116, 117, 118, 119, 120, 121, 122, 123, 124] (by decide +kernel) (by decide +kernel)
set_option maxRecDepth 20000 in
theorem gX10_balance_X5_count : GoodIn wsX10_balance (wsV RX10 178 RX5 yX5_count wsX5_count) := goodIn_app (goodIn_of _ (by decide +kernel)) ggX10_balance_X5_count
set_option maxRecDepth 20000 in
theorem ggX10_balance_X5_carInFirst : GoodIn wsX10_balance wsX5_carInFirst := goodIn_r _ [106, 60, 76, 5, 77, 116, 117, 118] (by decide +kernel) (by decide +kernel)
set_option maxRecDepth 20000 in
theorem gX10_balance_X5_carInFirst : GoodIn wsX10_balance (wsV RX10 182 RX5 yX5_carInFirst wsX5_carInFirst) := goodIn_app (goodIn_of _ (by decide +kernel)) ggX10_balance_X5_carInFirst
theorem dX10_balance_0 : decode cX10_balance 0 = .ok (.iload_n 2, 1) := by decide +kernel
theorem dX10_balance_1 : decode cX10_balance 1 = .ok (.iconst (-1), 1) := by decide +kernel
theorem dX10_balance_2 : decode cX10_balance 2 = .ok (.if_icmp .eq 12, 3) := by decide +kernel
theorem dX10_balance_5 : decode cX10_balance 5 = .ok (.iload_n 2, 1) := by decide +kernel
theorem dX10_balance_6 : decode cX10_balance 6 = .ok (.invokestatic 64, 3) := by decide +kernel
theorem dX10_balance_9 : decode cX10_balance 9 = .ok (.ifCond .ne 5, 3) := by decide +kernel
theorem dX10_balance_12 : decode cX10_balance 12 = .ok (.iconst (-1), 1) := by decide +kernel
theorem dX10_balance_13 : decode cX10_balance 13 = .ok (.ireturn, 1) := by decide +kernel
theorem dX10_balance_14 : decode cX10_balance 14 = .ok (.iload_n 1, 1) := by decide +kernel
theorem dX10_balance_15 : decode cX10_balance 15 = .ok (.ifCond .lt 10, 3) := by decide +kernel
theorem dX10_balance_18 : decode cX10_balance 18 = .ok (.iload_n 1, 1) := by decide +kernel
theorem dX10_balance_19 : decode cX10_balance 19 = .ok (.sipush 256, 3) := by decide +kernel
theorem dX10_balance_22 : decode cX10_balance 22 = .ok (.if_icmp .lt 6, 3) := by decide +kernel
theorem dX10_balance_25 : decode cX10_balance 25 = .ok (.bipush (-2), 2) := by decide +kernel
theorem dX10_balance_27 : decode cX10_balance 27 = .ok (.ireturn, 1) := by decide +kernel
theorem dX10_balance_28 : decode cX10_balance 28 = .ok (.iload_n 2, 1) := by decide +kernel
theorem dX10_balance_29 : decode cX10_balance 29 = .ok (.iconst (-1), 1) := by decide +kernel
theorem dX10_balance_30 : decode cX10_balance 30 = .ok (.if_icmp .eq 13, 3) := by decide +kernel
theorem dX10_balance_33 : decode cX10_balance 33 = .ok (.iload_n 1, 1) := by decide +kernel
theorem dX10_balance_34 : decode cX10_balance 34 = .ok (.iload_n 2, 1) := by decide +kernel
theorem dX10_balance_35 : decode cX10_balance 35 = .ok (.invokestatic 170, 3) := by decide +kernel
theorem dX10_balance_38 : decode cX10_balance 38 = .ok (.ifCond .ne 5, 3) := by decide +kernel
theorem dX10_balance_41 : decode cX10_balance 41 = .ok (.iconst (-1), 1) := by decide +kernel
theorem dX10_balance_42 : decode cX10_balance 42 = .ok (.ireturn, 1) := by decide +kernel
theorem dX10_balance_43 : decode cX10_balance 43 = .ok (.iload_n 1, 1) := by decide +kernel
theorem dX10_balance_44 : decode cX10_balance 44 = .ok (.invokestatic 173, 3) := by decide +kernel
theorem dX10_balance_47 : decode cX10_balance 47 = .ok (.iconst 5, 1) := by decide +kernel
theorem dX10_balance_48 : decode cX10_balance 48 = .ok (.if_icmp .le 6, 3) := by decide +kernel
theorem dX10_balance_51 : decode cX10_balance 51 = .ok (.bipush (-4), 2) := by decide +kernel
theorem dX10_balance_53 : decode cX10_balance 53 = .ok (.ireturn, 1) := by decide +kernel
theorem dX10_balance_54 : decode cX10_balance 54 = .ok (.aload_n 0, 1) := by decide +kernel
theorem dX10_balance_55 : decode cX10_balance 55 = .ok (.getfield 43, 3) := by decide +kernel
theorem dX10_balance_58 : decode cX10_balance 58 = .ok (.aload_n 0, 1) := by decide +kernel
theorem dX10_balance_59 : decode cX10_balance 59 = .ok (.getfield 10, 3) := by decide +kernel
theorem dX10_balance_62 : decode cX10_balance 62 = .ok (.iload_n 1, 1) := by decide +kernel
theorem dX10_balance_63 : decode cX10_balance 63 = .ok (.invokevirtual 178, 3) := by decide +kernel
theorem dX10_balance_66 : decode cX10_balance 66 = .ok (.istore_n 3, 1) := by decide +kernel
theorem dX10_balance_67 : decode cX10_balance 67 = .ok (.iload_n 2, 1) := by decide +kernel
theorem dX10_balance_68 : decode cX10_balance 68 = .ok (.iconst (-1), 1) := by decide +kernel
theorem dX10_balance_69 : decode cX10_balance 69 = .ok (.if_icmp .ne 5, 3) := by decide +kernel
theorem dX10_balance_72 : decode cX10_balance 72 = .ok (.iload_n 3, 1) := by decide +kernel
theorem dX10_balance_73 : decode cX10_balance 73 = .ok (.ireturn, 1) := by decide +kernel
theorem dX10_balance_74 : decode cX10_balance 74 = .ok (.iload_n 3, 1) := by decide +kernel
theorem dX10_balance_75 : decode cX10_balance 75 = .ok (.ifCond .ne 8, 3) := by decide +kernel
theorem dX10_balance_78 : decode cX10_balance 78 = .ok (.bipush (-6), 2) := by decide +kernel
theorem dX10_balance_80 : decode cX10_balance 80 = .ok (.goto 11, 3) := by decide +kernel
theorem dX10_balance_83 : decode cX10_balance 83 = .ok (.aload_n 0, 1) := by decide +kernel
theorem dX10_balance_84 : decode cX10_balance 84 = .ok (.getfield 43, 3) := by decide +kernel
theorem dX10_balance_87 : decode cX10_balance 87 = .ok (.iload_n 2, 1) := by decide +kernel
theorem dX10_balance_88 : decode cX10_balance 88 = .ok (.invokevirtual 182, 3) := by decide +kernel
theorem dX10_balance_91 : decode cX10_balance 91 = .ok (.ireturn, 1) := by decide +kernel
set_option maxRecDepth 20000 in
theorem ggX10_could_X10_isPerson : GoodIn wsX10_could wsX10_isPerson := goodIn_r _ [4] (by decide +kernel) (by decide +kernel)
set_option maxRecDepth 20000 in
theorem gX10_could_X10_isPerson : GoodIn wsX10_could (va_wsS RX10 64 yX10_isPerson wsX10_isPerson) := goodIn_app (goodIn_of _ (by decide +kernel)) ggX10_could_X10_isPerson
set_option maxRecDepth 20000 in
theorem ggX10_could_X10_isCar : GoodIn wsX10_could wsX10_isCar := goodIn_r _ [7] (by decide +kernel) (by decide +kernel)
set_option maxRecDepth 20000 in
theorem gX10_could_X10_isCar : GoodIn wsX10_could (va_wsS RX10 122 yX10_isCar wsX10_isCar) := goodIn_app (goodIn_of _ (by decide +kernel)) ggX10_could_X10_isCar
set_option maxRecDepth 20000 in
theorem ggX10_could_X10_refuseText : GoodIn wsX10_could wsX10_refuseText := goodIn_r _ [11, 12, 13, 14, 15, 16, 17, 18, 19, 20, 21, 22, 23, 24, 3, 25, 26, 27, 28, 29, 30, 31, 32, 33, 34, 35, 36, 37, 38, 39, 40, 41, 42, 178, 179, 180, 181, 182, 183, 184, 185, 186, 187, 188, 189] (by decide +kernel) (by decide +kernel)
set_option maxRecDepth 20000 in
theorem gX10_could_X10_refuseText : GoodIn wsX10_could (wsV RX10 96 RX10 yX10_refuseText wsX10_refuseText) := goodIn_app (goodIn_of _ (by decide +kernel)) ggX10_could_X10_refuseText
set_option maxRecDepth 20000 in
theorem ggX10_could_X10_endsAt : GoodIn wsX10_could wsX10_endsAt := goodIn_r _ [46, 47, 48, 49, 12, 50, 51, 52, 53, 54, 55, 56, 57, 58, 59, 60, 61, 3, 62, 63, 64, 65, 66, 67, 68, 69, 70, 71, 72, 73, 74, 75, 76, 77, 78, 79, 80, 81, 82, 83, 84, 85, 86, 87, 88, 89, 90, 39, 40, 16, 41, 42, 91, 92, 93, 94, 18, 95, 20, 21, 22, 23, 24, 25, 96, 97, 98, 99, 100, 101, 102, 103, 104, 105, 106, 107, 108, 109, 110, 111, 112, 113, 114, 115, 116, 117, 118, 119, 120, 121, 36, 37, 122, 123, 33, 34, 124, 125, 126, 127, 128, 129, 130, 131, 132, 133, 134, 135, 136, 137, 138, 139, 140, 30, 31, 141, 142, 143, 144, 145, 146, 147, 148, 149, 150, 151, 152, 153, 154, 155, 156, 157, 158, 159, 160, 161, 162, 163, 164, 165, 166, 167, 168, 169, 170, 171, 172, 173, 174, 175, 176, 177, 178, 179, 180, 181, 182, 183, 184, 185, 186, 190, 191, 192, 193, 194, 195, 196, 197, 198, 199, 200, 201, 202, 187, 188, 189] (by decide +kernel) (by decide +kernel)
set_option maxRecDepth 20000 in
theorem gX10_could_X10_endsAt : GoodIn wsX10_could (wsV RX10 185 RX10 yX10_endsAt wsX10_endsAt) := goodIn_app (goodIn_of _ (by decide +kernel)) ggX10_could_X10_endsAt
theorem dX10_could_0 : decode cX10_could 0 = .ok (.iload_n 1, 1) := by decide +kernel
theorem dX10_could_1 : decode cX10_could 1 = .ok (.invokestatic 64, 3) := by decide +kernel
theorem dX10_could_4 : decode cX10_could 4 = .ok (.ifCond .eq 10, 3) := by decide +kernel
theorem dX10_could_7 : decode cX10_could 7 = .ok (.iload_n 2, 1) := by decide +kernel
theorem dX10_could_8 : decode cX10_could 8 = .ok (.invokestatic 122, 3) := by decide +kernel
theorem dX10_could_11 : decode cX10_could 11 = .ok (.ifCond .ne 5, 3) := by decide +kernel
theorem dX10_could_14 : decode cX10_could 14 = .ok (.iconst (-1), 1) := by decide +kernel
theorem dX10_could_15 : decode cX10_could 15 = .ok (.ireturn, 1) := by decide +kernel
theorem dX10_could_16 : decode cX10_could 16 = .ok (.iload_n 3, 1) := by decide +kernel
theorem dX10_could_17 : decode cX10_could 17 = .ok (.ifCond .lt 8, 3) := by decide +kernel
theorem dX10_could_20 : decode cX10_could 20 = .ok (.iload_n 3, 1) := by decide +kernel
theorem dX10_could_21 : decode cX10_could 21 = .ok (.iconst 2, 1) := by decide +kernel
theorem dX10_could_22 : decode cX10_could 22 = .ok (.if_icmp .le 6, 3) := by decide +kernel
theorem dX10_could_25 : decode cX10_could 25 = .ok (.bipush (-2), 2) := by decide +kernel
theorem dX10_could_27 : decode cX10_could 27 = .ok (.ireturn, 1) := by decide +kernel
theorem dX10_could_28 : decode cX10_could 28 = .ok (.aload_n 0, 1) := by decide +kernel
theorem dX10_could_29 : decode cX10_could 29 = .ok (.invokevirtual 96, 3) := by decide +kernel
theorem dX10_could_32 : decode cX10_could 32 = .ok (.istore 4, 2) := by decide +kernel
theorem dX10_could_34 : decode cX10_could 34 = .ok (.iload 4, 2) := by decide +kernel
theorem dX10_could_36 : decode cX10_could 36 = .ok (.ifCond .eq 6, 3) := by decide +kernel
theorem dX10_could_39 : decode cX10_could 39 = .ok (.iload 4, 2) := by decide +kernel
theorem dX10_could_41 : decode cX10_could 41 = .ok (.ireturn, 1) := by decide +kernel
theorem dX10_could_42 : decode cX10_could 42 = .ok (.iconst 0, 1) := by decide +kernel
theorem dX10_could_43 : decode cX10_could 43 = .ok (.istore 5, 2) := by decide +kernel
theorem dX10_could_45 : decode cX10_could 45 = .ok (.bipush (-6), 2) := by decide +kernel
theorem dX10_could_47 : decode cX10_could 47 = .ok (.istore 6, 2) := by decide +kernel
theorem dX10_could_49 : decode cX10_could 49 = .ok (.bipush (-6), 2) := by decide +kernel
theorem dX10_could_51 : decode cX10_could 51 = .ok (.istore 7, 2) := by decide +kernel
theorem dX10_could_53 : decode cX10_could 53 = .ok (.iconst 1, 1) := by decide +kernel
theorem dX10_could_54 : decode cX10_could 54 = .ok (.istore 8, 2) := by decide +kernel
theorem dX10_could_56 : decode cX10_could 56 = .ok (.iload 8, 2) := by decide +kernel
theorem dX10_could_58 : decode cX10_could 58 = .ok (.bipush 99, 2) := by decide +kernel
theorem dX10_could_60 : decode cX10_could 60 = .ok (.if_icmp .gt 43, 3) := by decide +kernel
theorem dX10_could_63 : decode cX10_could 63 = .ok (.aload_n 0, 1) := by decide +kernel
theorem dX10_could_64 : decode cX10_could 64 = .ok (.iload_n 1, 1) := by decide +kernel
theorem dX10_could_65 : decode cX10_could 65 = .ok (.iload 8, 2) := by decide +kernel
theorem dX10_could_67 : decode cX10_could 67 = .ok (.iload_n 2, 1) := by decide +kernel
theorem dX10_could_68 : decode cX10_could 68 = .ok (.invokevirtual 185, 3) := by decide +kernel
theorem dX10_could_71 : decode cX10_could 71 = .ok (.ifCond .eq 26, 3) := by decide +kernel
theorem dX10_could_74 : decode cX10_could 74 = .ok (.iinc 5 1, 3) := by decide +kernel
theorem dX10_could_77 : decode cX10_could 77 = .ok (.iload 6, 2) := by decide +kernel
theorem dX10_could_79 : decode cX10_could 79 = .ok (.bipush (-6), 2) := by decide +kernel
theorem dX10_could_81 : decode cX10_could 81 = .ok (.if_icmp .ne 8, 3) := by decide +kernel
theorem dX10_could_84 : decode cX10_could 84 = .ok (.iload 8, 2) := by decide +kernel
theorem dX10_could_86 : decode cX10_could 86 = .ok (.goto 5, 3) := by decide +kernel
theorem dX10_could_89 : decode cX10_could 89 = .ok (.iload 6, 2) := by decide +kernel
theorem dX10_could_91 : decode cX10_could 91 = .ok (.istore 6, 2) := by decide +kernel
theorem dX10_could_93 : decode cX10_could 93 = .ok (.iload 8, 2) := by decide +kernel
theorem dX10_could_95 : decode cX10_could 95 = .ok (.istore 7, 2) := by decide +kernel
theorem dX10_could_97 : decode cX10_could 97 = .ok (.iinc 8 1, 3) := by decide +kernel
theorem dX10_could_100 : decode cX10_could 100 = .ok (.goto (-44), 3) := by decide +kernel
theorem dX10_could_103 : decode cX10_could 103 = .ok (.iload_n 3, 1) := by decide +kernel
theorem dX10_could_104 : decode cX10_could 104 = .ok (.ifCond .ne 6, 3) := by decide +kernel
theorem dX10_could_107 : decode cX10_could 107 = .ok (.iload 5, 2) := by decide +kernel
theorem dX10_could_109 : decode cX10_could 109 = .ok (.ireturn, 1) := by decide +kernel
theorem dX10_could_110 : decode cX10_could 110 = .ok (.iload_n 3, 1) := by decide +kernel
theorem dX10_could_111 : decode cX10_could 111 = .ok (.iconst 1, 1) := by decide +kernel
theorem dX10_could_112 : decode cX10_could 112 = .ok (.if_icmp .ne 8, 3) := by decide +kernel
theorem dX10_could_115 : decode cX10_could 115 = .ok (.iload 6, 2) := by decide +kernel
theorem dX10_could_117 : decode cX10_could 117 = .ok (.goto 5, 3) := by decide +kernel
theorem dX10_could_120 : decode cX10_could 120 = .ok (.iload 7, 2) := by decide +kernel
theorem dX10_could_122 : decode cX10_could 122 = .ok (.ireturn, 1) := by decide +kernel
set_option maxRecDepth 20000 in
theorem ggX10_seen_X10_isPerson : GoodIn wsX10_seen wsX10_isPerson := goodIn_r _ [5] (by decide +kernel) (by decide +kernel)
set_option maxRecDepth 20000 in
theorem gX10_seen_X10_isPerson : GoodIn wsX10_seen (va_wsS RX10 64 yX10_isPerson wsX10_isPerson) := goodIn_app (goodIn_of _ (by decide +kernel)) ggX10_seen_X10_isPerson
set_option maxRecDepth 20000 in
theorem ggX10_seen_X10_isCar : GoodIn wsX10_seen wsX10_isCar := goodIn_r _ [8] (by decide +kernel) (by decide +kernel)
set_option maxRecDepth 20000 in
theorem gX10_seen_X10_isCar : GoodIn wsX10_seen (va_wsS RX10 122 yX10_isCar wsX10_isCar) := goodIn_app (goodIn_of _ (by decide +kernel)) ggX10_seen_X10_isCar
set_option maxRecDepth 20000 in
theorem ggX10_seen_X6_count : GoodIn wsX10_seen wsX6_count := goodIn_r _ [13, 14, 32, 33, 34] (by decide +kernel) (by decide +kernel)
set_option maxRecDepth 20000 in
theorem gX10_seen_X6_count : GoodIn wsX10_seen (wsV RX10 189 RX6 yX6_count wsX6_count) := goodIn_app (goodIn_of _ (by decide +kernel)) ggX10_seen_X6_count
set_option maxRecDepth 20000 in
theorem ggX10_seen_X6_add : GoodIn wsX10_seen wsX6_add := goodIn_r _ [18, 14, 19, 20, 21, 4, 22, 32, 33, 34] (by decide +kernel) (by decide +kernel)
set_option maxRecDepth 20000 in
theorem gX10_seen_X6_add : GoodIn wsX10_seen (wsV RX10 191 RX6 yX6_add wsX6_add) := goodIn_app (goodIn_of _ (by decide +kernel)) ggX10_seen_X6_add
theorem dX10_seen_0 : decode cX10_seen 0 = .ok (.iload_n 1, 1) := by decide +kernel
theorem dX10_seen_1 : decode cX10_seen 1 = .ok (.invokestatic 64, 3) := by decide +kernel
theorem dX10_seen_4 : decode cX10_seen 4 = .ok (.ifCond .eq 10, 3) := by decide +kernel
theorem dX10_seen_7 : decode cX10_seen 7 = .ok (.iload_n 2, 1) := by decide +kernel
theorem dX10_seen_8 : decode cX10_seen 8 = .ok (.invokestatic 122, 3) := by decide +kernel
theorem dX10_seen_11 : decode cX10_seen 11 = .ok (.ifCond .ne 5, 3) := by decide +kernel
theorem dX10_seen_14 : decode cX10_seen 14 = .ok (.iconst (-1), 1) := by decide +kernel
theorem dX10_seen_15 : decode cX10_seen 15 = .ok (.ireturn, 1) := by decide +kernel
theorem dX10_seen_16 : decode cX10_seen 16 = .ok (.aload_n 0, 1) := by decide +kernel
theorem dX10_seen_17 : decode cX10_seen 17 = .ok (.getfield 29, 3) := by decide +kernel
theorem dX10_seen_20 : decode cX10_seen 20 = .ok (.invokevirtual 189, 3) := by decide +kernel
theorem dX10_seen_23 : decode cX10_seen 23 = .ok (.bipush 6, 2) := by decide +kernel
theorem dX10_seen_25 : decode cX10_seen 25 = .ok (.if_icmp .lt 6, 3) := by decide +kernel
theorem dX10_seen_28 : decode cX10_seen 28 = .ok (.bipush (-4), 2) := by decide +kernel
theorem dX10_seen_30 : decode cX10_seen 30 = .ok (.ireturn, 1) := by decide +kernel
theorem dX10_seen_31 : decode cX10_seen 31 = .ok (.aload_n 0, 1) := by decide +kernel
theorem dX10_seen_32 : decode cX10_seen 32 = .ok (.getfield 29, 3) := by decide +kernel
theorem dX10_seen_35 : decode cX10_seen 35 = .ok (.iload_n 1, 1) := by decide +kernel
theorem dX10_seen_36 : decode cX10_seen 36 = .ok (.iload_n 2, 1) := by decide +kernel
theorem dX10_seen_37 : decode cX10_seen 37 = .ok (.invokevirtual 191, 3) := by decide +kernel
theorem dX10_seen_40 : decode cX10_seen 40 = .ok (.aload_n 0, 1) := by decide +kernel
theorem dX10_seen_41 : decode cX10_seen 41 = .ok (.getfield 29, 3) := by decide +kernel
theorem dX10_seen_44 : decode cX10_seen 44 = .ok (.invokevirtual 189, 3) := by decide +kernel
theorem dX10_seen_47 : decode cX10_seen 47 = .ok (.ireturn, 1) := by decide +kernel
set_option maxRecDepth 20000 in
theorem ggX10_forget_X6_count : GoodIn wsX10_forget wsX6_count := goodIn_r _ [6, 7, 21, 22, 23] (by decide +kernel) (by decide +kernel)
set_option maxRecDepth 20000 in
theorem gX10_forget_X6_count : GoodIn wsX10_forget (wsV RX10 189 RX6 yX6_count wsX6_count) := goodIn_app (goodIn_of _ (by decide +kernel)) ggX10_forget_X6_count
set_option maxRecDepth 20000 in
theorem ggX10_forget_X6_clear : GoodIn wsX10_forget wsX6_clear := goodIn_r _ [11, 7, 21, 22, 23] (by decide +kernel) (by decide +kernel)
set_option maxRecDepth 20000 in
theorem gX10_forget_X6_clear : GoodIn wsX10_forget (wsV RX10 194 RX6 yX6_clear wsX6_clear) := goodIn_app (goodIn_of _ (by decide +kernel)) ggX10_forget_X6_clear
theorem dX10_forget_0 : decode cX10_forget 0 = .ok (.aload_n 0, 1) := by decide +kernel
theorem dX10_forget_1 : decode cX10_forget 1 = .ok (.getfield 29, 3) := by decide +kernel
theorem dX10_forget_4 : decode cX10_forget 4 = .ok (.invokevirtual 189, 3) := by decide +kernel
theorem dX10_forget_7 : decode cX10_forget 7 = .ok (.istore_n 1, 1) := by decide +kernel
theorem dX10_forget_8 : decode cX10_forget 8 = .ok (.aload_n 0, 1) := by decide +kernel
theorem dX10_forget_9 : decode cX10_forget 9 = .ok (.getfield 29, 3) := by decide +kernel
theorem dX10_forget_12 : decode cX10_forget 12 = .ok (.invokevirtual 194, 3) := by decide +kernel
theorem dX10_forget_15 : decode cX10_forget 15 = .ok (.iload_n 1, 1) := by decide +kernel
theorem dX10_forget_16 : decode cX10_forget 16 = .ok (.ireturn, 1) := by decide +kernel
set_option maxRecDepth 20000 in
theorem ggX10_filled_X4_firstFault : GoodIn wsX10_filled wsX4_firstFault := goodIn_r _ [6, 7, 8, 9, 10, 5, 11, 12, 13, 14, 15, 16, 17, 18, 19, 20, 21, 22, 23, 24, 25, 26, 27, 187, 188, 189] (by decide +kernel) (by decide +kernel)
set_option maxRecDepth 20000 in
theorem gX10_filled_X4_firstFault : GoodIn wsX10_filled (wsV RX10 93 RX4 yX4_firstFault wsX4_firstFault) := goodIn_app (goodIn_of _ (by decide +kernel)) ggX10_filled_X4_firstFault
set_option maxRecDepth 20000 in
theorem ggX10_filled_X4_asked : GoodIn wsX10_filled wsX4_asked := goodIn_r _ [31, 32, 187, 188, 189] (by decide +kernel) (by decide +kernel)
set_option maxRecDepth 20000 in
theorem gX10_filled_X4_asked : GoodIn wsX10_filled (wsV RX10 195 RX4 yX4_asked wsX4_asked) := goodIn_app (goodIn_of _ (by decide +kernel)) ggX10_filled_X4_asked
set_option maxRecDepth 20000 in
theorem ggX10_filled_X1_howMany : GoodIn wsX10_filled wsX1_howMany := goodIn_r _ [36] (by decide +kernel) (by decide +kernel)
set_option maxRecDepth 20000 in
theorem gX10_filled_X1_howMany : GoodIn wsX10_filled (va_wsS RX10 198 yX1_howMany wsX1_howMany) := goodIn_app (goodIn_of _ (by decide +kernel)) ggX10_filled_X1_howMany
set_option maxRecDepth 20000 in
theorem ggX10_filled_X10_holds : GoodIn wsX10_filled wsX10_holds := goodIn_r _ [40, 41, 42, 1, 43, 44, 45, 46, 47, 48, 49, 50, 51, 52, 53, 54, 55, 56, 57, 58, 59, 60, 61, 62, 63, 64, 65, 66, 67, 14, 68, 69, 70, 71, 72, 73, 74, 75, 76, 77, 29, 30, 5, 31, 32, 78, 79, 80, 81, 7, 82, 9, 10, 11, 12, 13, 15, 83, 84, 85, 86, 87, 88, 89, 90, 91, 92, 93, 94, 95, 96, 97, 98, 99, 100, 101, 102, 103, 104, 105, 106, 107, 108, 26, 27, 109, 110, 23, 24, 111, 112, 113, 114, 115, 116, 117, 118, 119, 120, 121, 122, 123, 124, 125, 126, 127, 128, 129, 20, 21, 130, 131, 132, 133, 134, 135, 136, 137, 138, 139, 140, 141, 142, 143, 35, 144, 145, 146, 147, 148, 149, 150, 151, 152, 153, 154, 155, 156, 157, 158, 159, 160, 161, 162, 163, 164, 165, 166, 167, 168, 169, 170, 171, 172, 173, 174, 175, 176, 178, 179, 180, 181, 182, 183, 184, 185, 186, 190, 191, 192, 193, 194, 195, 196, 197, 198, 199, 200, 201, 202, 187, 188, 189, 203, 204, 205] (by decide +kernel) (by decide +kernel)
set_option maxRecDepth 20000 in
theorem gX10_filled_X10_holds : GoodIn wsX10_filled (wsV RX10 203 RX10 yX10_holds wsX10_holds) := goodIn_app (goodIn_of _ (by decide +kernel)) ggX10_filled_X10_holds
set_option maxRecDepth 20000 in
theorem ggX10_filled_X1_personAt : GoodIn wsX10_filled wsX1_personAt := goodIn_r _ [144] (by decide +kernel) (by decide +kernel)
set_option maxRecDepth 20000 in
theorem gX10_filled_X1_personAt : GoodIn wsX10_filled (va_wsS RX10 206 yX1_personAt wsX1_personAt) := goodIn_app (goodIn_of _ (by decide +kernel)) ggX10_filled_X1_personAt
theorem dX10_filled_0 : decode cX10_filled 0 = .ok (.aload_n 0, 1) := by decide +kernel
theorem dX10_filled_1 : decode cX10_filled 1 = .ok (.getfield 22, 3) := by decide +kernel
theorem dX10_filled_4 : decode cX10_filled 4 = .ok (.invokevirtual 93, 3) := by decide +kernel
theorem dX10_filled_7 : decode cX10_filled 7 = .ok (.bipush (-6), 2) := by decide +kernel
theorem dX10_filled_9 : decode cX10_filled 9 = .ok (.if_icmp .eq 6, 3) := by decide +kernel
theorem dX10_filled_12 : decode cX10_filled 12 = .ok (.bipush (-5), 2) := by decide +kernel
theorem dX10_filled_14 : decode cX10_filled 14 = .ok (.ireturn, 1) := by decide +kernel
theorem dX10_filled_15 : decode cX10_filled 15 = .ok (.aload_n 0, 1) := by decide +kernel
theorem dX10_filled_16 : decode cX10_filled 16 = .ok (.getfield 22, 3) := by decide +kernel
theorem dX10_filled_19 : decode cX10_filled 19 = .ok (.invokevirtual 195, 3) := by decide +kernel
theorem dX10_filled_22 : decode cX10_filled 22 = .ok (.istore_n 2, 1) := by decide +kernel
theorem dX10_filled_23 : decode cX10_filled 23 = .ok (.iload_n 2, 1) := by decide +kernel
theorem dX10_filled_24 : decode cX10_filled 24 = .ok (.invokestatic 198, 3) := by decide +kernel
theorem dX10_filled_27 : decode cX10_filled 27 = .ok (.istore_n 3, 1) := by decide +kernel
theorem dX10_filled_28 : decode cX10_filled 28 = .ok (.iconst 0, 1) := by decide +kernel
theorem dX10_filled_29 : decode cX10_filled 29 = .ok (.istore 4, 2) := by decide +kernel
theorem dX10_filled_31 : decode cX10_filled 31 = .ok (.bipush (-6), 2) := by decide +kernel
theorem dX10_filled_33 : decode cX10_filled 33 = .ok (.istore 5, 2) := by decide +kernel
theorem dX10_filled_35 : decode cX10_filled 35 = .ok (.iconst 0, 1) := by decide +kernel
theorem dX10_filled_36 : decode cX10_filled 36 = .ok (.istore 6, 2) := by decide +kernel
theorem dX10_filled_38 : decode cX10_filled 38 = .ok (.iload 6, 2) := by decide +kernel
theorem dX10_filled_40 : decode cX10_filled 40 = .ok (.iload_n 3, 1) := by decide +kernel
theorem dX10_filled_41 : decode cX10_filled 41 = .ok (.if_icmp .ge 37, 3) := by decide +kernel
theorem dX10_filled_44 : decode cX10_filled 44 = .ok (.aload_n 0, 1) := by decide +kernel
theorem dX10_filled_45 : decode cX10_filled 45 = .ok (.iload 6, 2) := by decide +kernel
theorem dX10_filled_47 : decode cX10_filled 47 = .ok (.invokevirtual 203, 3) := by decide +kernel
theorem dX10_filled_50 : decode cX10_filled 50 = .ok (.ifCond .eq 22, 3) := by decide +kernel
theorem dX10_filled_53 : decode cX10_filled 53 = .ok (.iinc 4 1, 3) := by decide +kernel
theorem dX10_filled_56 : decode cX10_filled 56 = .ok (.iload 5, 2) := by decide +kernel
theorem dX10_filled_58 : decode cX10_filled 58 = .ok (.bipush (-6), 2) := by decide +kernel
theorem dX10_filled_60 : decode cX10_filled 60 = .ok (.if_icmp .ne 8, 3) := by decide +kernel
theorem dX10_filled_63 : decode cX10_filled 63 = .ok (.iload 6, 2) := by decide +kernel
theorem dX10_filled_65 : decode cX10_filled 65 = .ok (.goto 5, 3) := by decide +kernel
theorem dX10_filled_68 : decode cX10_filled 68 = .ok (.iload 5, 2) := by decide +kernel
theorem dX10_filled_70 : decode cX10_filled 70 = .ok (.istore 5, 2) := by decide +kernel
theorem dX10_filled_72 : decode cX10_filled 72 = .ok (.iinc 6 1, 3) := by decide +kernel
theorem dX10_filled_75 : decode cX10_filled 75 = .ok (.goto (-37), 3) := by decide +kernel
theorem dX10_filled_78 : decode cX10_filled 78 = .ok (.iload_n 1, 1) := by decide +kernel
theorem dX10_filled_79 : decode cX10_filled 79 = .ok (.iconst (-1), 1) := by decide +kernel
theorem dX10_filled_80 : decode cX10_filled 80 = .ok (.if_icmp .ne 6, 3) := by decide +kernel
theorem dX10_filled_83 : decode cX10_filled 83 = .ok (.iload 4, 2) := by decide +kernel
theorem dX10_filled_85 : decode cX10_filled 85 = .ok (.ireturn, 1) := by decide +kernel
theorem dX10_filled_86 : decode cX10_filled 86 = .ok (.iload 4, 2) := by decide +kernel
theorem dX10_filled_88 : decode cX10_filled 88 = .ok (.ifCond .eq 12, 3) := by decide +kernel
theorem dX10_filled_91 : decode cX10_filled 91 = .ok (.iload_n 1, 1) := by decide +kernel
theorem dX10_filled_92 : decode cX10_filled 92 = .ok (.ifCond .lt 8, 3) := by decide +kernel
theorem dX10_filled_95 : decode cX10_filled 95 = .ok (.iload_n 1, 1) := by decide +kernel
theorem dX10_filled_96 : decode cX10_filled 96 = .ok (.iload_n 2, 1) := by decide +kernel
theorem dX10_filled_97 : decode cX10_filled 97 = .ok (.if_icmp .lt 7, 3) := by decide +kernel
theorem dX10_filled_100 : decode cX10_filled 100 = .ok (.iconst 1, 1) := by decide +kernel
theorem dX10_filled_101 : decode cX10_filled 101 = .ok (.goto 4, 3) := by decide +kernel
theorem dX10_filled_104 : decode cX10_filled 104 = .ok (.iconst 0, 1) := by decide +kernel
theorem dX10_filled_105 : decode cX10_filled 105 = .ok (.istore 6, 2) := by decide +kernel
theorem dX10_filled_107 : decode cX10_filled 107 = .ok (.iload 6, 2) := by decide +kernel
theorem dX10_filled_109 : decode cX10_filled 109 = .ok (.ifCond .eq 8, 3) := by decide +kernel
theorem dX10_filled_112 : decode cX10_filled 112 = .ok (.bipush (-6), 2) := by decide +kernel
theorem dX10_filled_114 : decode cX10_filled 114 = .ok (.goto 10, 3) := by decide +kernel
theorem dX10_filled_117 : decode cX10_filled 117 = .ok (.iload 5, 2) := by decide +kernel
theorem dX10_filled_119 : decode cX10_filled 119 = .ok (.iload_n 1, 1) := by decide +kernel
theorem dX10_filled_120 : decode cX10_filled 120 = .ok (.iload_n 2, 1) := by decide +kernel
theorem dX10_filled_121 : decode cX10_filled 121 = .ok (.invokestatic 206, 3) := by decide +kernel
theorem dX10_filled_124 : decode cX10_filled 124 = .ok (.ireturn, 1) := by decide +kernel
set_option maxRecDepth 20000 in
theorem ggX10_chance_X10_isPerson : GoodIn wsX10_chance wsX10_isPerson := goodIn_r _ [8] (by decide +kernel) (by decide +kernel)
set_option maxRecDepth 20000 in
theorem gX10_chance_X10_isPerson : GoodIn wsX10_chance (va_wsS RX10 64 yX10_isPerson wsX10_isPerson) := goodIn_app (goodIn_of _ (by decide +kernel)) ggX10_chance_X10_isPerson
set_option maxRecDepth 20000 in
theorem ggX10_chance_X9_copyFrom : GoodIn wsX10_chance wsX9_copyFrom := goodIn_r _ [13, 14, 15, 16, 17, 18, 19, 20, 7, 21, 22, 23, 24, 25, 26, 27, 28, 29, 109, 110, 111, 112, 113, 114] (by decide +kernel) (by decide +kernel)
set_option maxRecDepth 20000 in
theorem gX10_chance_X9_copyFrom : GoodIn wsX10_chance (wsV RX10 115 RX9 yX9_copyFrom wsX9_copyFrom) := goodIn_app (goodIn_of _ (by decide +kernel)) ggX10_chance_X9_copyFrom
set_option maxRecDepth 20000 in
theorem ggX10_chance_X0_shares : GoodIn wsX10_chance wsX0_shares := goodIn_r _ [33, 34, 35, 32, 36, 37, 38, 39, 40, 12, 41, 15, 18, 42, 7, 43, 44, 45, 46, 47, 48, 49, 50, 51, 52, 53, 54, 16, 55, 56, 57, 58, 59, 60, 61, 62, 63, 64, 65, 66, 67, 68, 69, 70, 71, 72, 73, 74, 75, 76, 77, 78, 79, 17, 14, 80, 81, 82, 83, 84, 85, 86, 87, 88, 19, 89, 90, 91, 92, 93, 109, 110, 111, 112, 113, 114] (by decide +kernel) (by decide +kernel)
set_option maxRecDepth 20000 in
theorem gX10_chance_X0_shares : GoodIn wsX10_chance (va_wsS RX10 214 yX0_shares wsX0_shares) := goodIn_app (goodIn_of _ (by decide +kernel)) ggX10_chance_X0_shares
set_option maxRecDepth 20000 in
theorem ggX10_chance_X0_allShares : GoodIn wsX10_chance wsX0_allShares := goodIn_r _ [96, 37] (by decide +kernel) (by decide +kernel)
set_option maxRecDepth 20000 in
theorem gX10_chance_X0_allShares : GoodIn wsX10_chance (va_wsS RX10 220 yX0_allShares wsX0_allShares) := goodIn_app (goodIn_of _ (by decide +kernel)) ggX10_chance_X0_allShares
set_option maxRecDepth 20000 in
theorem ggX10_chance_X10_greatestDivisor : GoodIn wsX10_chance wsX10_greatestDivisor := goodIn_r _ [99] (by decide +kernel) (by decide +kernel)
set_option maxRecDepth 20000 in
theorem gX10_chance_X10_greatestDivisor : GoodIn wsX10_chance (va_wsS RX10 224 yX10_greatestDivisor wsX10_greatestDivisor) := goodIn_app (goodIn_of _ (by decide +kernel)) ggX10_chance_X10_greatestDivisor
theorem dX10_chance_0 : decode cX10_chance 0 = .ok (.iload_n 1, 1) := by decide +kernel
theorem dX10_chance_1 : decode cX10_chance 1 = .ok (.invokestatic 64, 3) := by decide +kernel
theorem dX10_chance_4 : decode cX10_chance 4 = .ok (.ifCond .ne 7, 3) := by decide +kernel
theorem dX10_chance_7 : decode cX10_chance 7 = .ok (.ldc2_w 210, 3) := by decide +kernel
theorem dX10_chance_10 : decode cX10_chance 10 = .ok (.lreturn, 1) := by decide +kernel
theorem dX10_chance_11 : decode cX10_chance 11 = .ok (.iload_n 2, 1) := by decide +kernel
theorem dX10_chance_12 : decode cX10_chance 12 = .ok (.ifCond .lt 17, 3) := by decide +kernel
theorem dX10_chance_15 : decode cX10_chance 15 = .ok (.iload_n 2, 1) := by decide +kernel
theorem dX10_chance_16 : decode cX10_chance 16 = .ok (.iconst 3, 1) := by decide +kernel
theorem dX10_chance_17 : decode cX10_chance 17 = .ok (.if_icmp .gt 12, 3) := by decide +kernel
theorem dX10_chance_20 : decode cX10_chance 20 = .ok (.iload_n 3, 1) := by decide +kernel
theorem dX10_chance_21 : decode cX10_chance 21 = .ok (.ifCond .lt 8, 3) := by decide +kernel
theorem dX10_chance_24 : decode cX10_chance 24 = .ok (.iload_n 3, 1) := by decide +kernel
theorem dX10_chance_25 : decode cX10_chance 25 = .ok (.iconst 1, 1) := by decide +kernel
theorem dX10_chance_26 : decode cX10_chance 26 = .ok (.if_icmp .le 7, 3) := by decide +kernel
theorem dX10_chance_29 : decode cX10_chance 29 = .ok (.ldc2_w 212, 3) := by decide +kernel
theorem dX10_chance_32 : decode cX10_chance 32 = .ok (.lreturn, 1) := by decide +kernel
theorem dX10_chance_33 : decode cX10_chance 33 = .ok (.aload_n 0, 1) := by decide +kernel
theorem dX10_chance_34 : decode cX10_chance 34 = .ok (.getfield 16, 3) := by decide +kernel
theorem dX10_chance_37 : decode cX10_chance 37 = .ok (.aload_n 0, 1) := by decide +kernel
theorem dX10_chance_38 : decode cX10_chance 38 = .ok (.getfield 10, 3) := by decide +kernel
theorem dX10_chance_41 : decode cX10_chance 41 = .ok (.invokevirtual 115, 3) := by decide +kernel
theorem dX10_chance_44 : decode cX10_chance 44 = .ok (.aload_n 0, 1) := by decide +kernel
theorem dX10_chance_45 : decode cX10_chance 45 = .ok (.getfield 16, 3) := by decide +kernel
theorem dX10_chance_48 : decode cX10_chance 48 = .ok (.iload_n 1, 1) := by decide +kernel
theorem dX10_chance_49 : decode cX10_chance 49 = .ok (.iload_n 2, 1) := by decide +kernel
theorem dX10_chance_50 : decode cX10_chance 50 = .ok (.invokestatic 214, 3) := by decide +kernel
theorem dX10_chance_53 : decode cX10_chance 53 = .ok (.lstore 4, 2) := by decide +kernel
theorem dX10_chance_55 : decode cX10_chance 55 = .ok (.iload_n 2, 1) := by decide +kernel
theorem dX10_chance_56 : decode cX10_chance 56 = .ok (.invokestatic 220, 3) := by decide +kernel
theorem dX10_chance_59 : decode cX10_chance 59 = .ok (.lstore 6, 2) := by decide +kernel
theorem dX10_chance_61 : decode cX10_chance 61 = .ok (.lload 4, 2) := by decide +kernel
theorem dX10_chance_63 : decode cX10_chance 63 = .ok (.lload 6, 2) := by decide +kernel
theorem dX10_chance_65 : decode cX10_chance 65 = .ok (.invokestatic 224, 3) := by decide +kernel
theorem dX10_chance_68 : decode cX10_chance 68 = .ok (.lstore 8, 2) := by decide +kernel
theorem dX10_chance_70 : decode cX10_chance 70 = .ok (.lload 8, 2) := by decide +kernel
theorem dX10_chance_72 : decode cX10_chance 72 = .ok (.lconst 0, 1) := by decide +kernel
theorem dX10_chance_73 : decode cX10_chance 73 = .ok (.lcmp, 1) := by decide +kernel
theorem dX10_chance_74 : decode cX10_chance 74 = .ok (.ifCond .gt 6, 3) := by decide +kernel
theorem dX10_chance_77 : decode cX10_chance 77 = .ok (.iload_n 3, 1) := by decide +kernel
theorem dX10_chance_78 : decode cX10_chance 78 = .ok (.i2l, 1) := by decide +kernel
theorem dX10_chance_79 : decode cX10_chance 79 = .ok (.lreturn, 1) := by decide +kernel
theorem dX10_chance_80 : decode cX10_chance 80 = .ok (.iload_n 3, 1) := by decide +kernel
theorem dX10_chance_81 : decode cX10_chance 81 = .ok (.ifCond .ne 11, 3) := by decide +kernel
theorem dX10_chance_84 : decode cX10_chance 84 = .ok (.lload 4, 2) := by decide +kernel
theorem dX10_chance_86 : decode cX10_chance 86 = .ok (.lload 8, 2) := by decide +kernel
theorem dX10_chance_88 : decode cX10_chance 88 = .ok (.ldiv, 1) := by decide +kernel
theorem dX10_chance_89 : decode cX10_chance 89 = .ok (.goto 8, 3) := by decide +kernel
theorem dX10_chance_92 : decode cX10_chance 92 = .ok (.lload 6, 2) := by decide +kernel
theorem dX10_chance_94 : decode cX10_chance 94 = .ok (.lload 8, 2) := by decide +kernel
theorem dX10_chance_96 : decode cX10_chance 96 = .ok (.ldiv, 1) := by decide +kernel
theorem dX10_chance_97 : decode cX10_chance 97 = .ok (.lreturn, 1) := by decide +kernel
set_option maxRecDepth 20000 in
theorem ggX10_year_X10_isCar : GoodIn wsX10_year wsX10_isCar := goodIn_r _ [6] (by decide +kernel) (by decide +kernel)
set_option maxRecDepth 20000 in
theorem gX10_year_X10_isCar : GoodIn wsX10_year (va_wsS RX10 122 yX10_isCar wsX10_isCar) := goodIn_app (goodIn_of _ (by decide +kernel)) ggX10_year_X10_isCar
set_option maxRecDepth 20000 in
theorem ggX10_year_X8_take : GoodIn wsX10_year wsX8_take := goodIn_r _ [11, 12, 13, 14, 15, 16, 17, 18, 19, 20, 21, 22, 23, 24, 25, 26, 27, 28, 29, 30, 31, 5, 32, 33, 34, 35, 36, 37, 38, 39, 40, 41, 42, 43, 44, 45, 46, 47, 48, 49, 50, 10, 51, 52, 53, 54, 55, 56, 57, 58, 59, 60, 61, 62, 63, 64, 65, 66, 67, 68, 69, 70, 71, 72, 73, 74, 75, 76, 77, 78, 79, 80, 81, 82, 83, 84, 85, 86, 87, 88, 89, 90, 91, 92, 93, 94, 112, 113, 114, 115, 116, 117, 118, 119, 120] (by decide +kernel) (by decide +kernel)
set_option maxRecDepth 20000 in
theorem gX10_year_X8_take : GoodIn wsX10_year (wsV RX10 228 RX8 yX8_take wsX8_take) := goodIn_app (goodIn_of _ (by decide +kernel)) ggX10_year_X8_take
set_option maxRecDepth 20000 in
theorem ggX10_year_X8_turned : GoodIn wsX10_year wsX8_turned := goodIn_r _ [98, 13, 112, 113, 114] (by decide +kernel) (by decide +kernel)
set_option maxRecDepth 20000 in
theorem gX10_year_X8_turned : GoodIn wsX10_year (wsV RX10 232 RX8 yX8_turned wsX8_turned) := goodIn_app (goodIn_of _ (by decide +kernel)) ggX10_year_X8_turned
set_option maxRecDepth 20000 in
theorem ggX10_year_X8_timesLowest : GoodIn wsX10_year wsX8_timesLowest := goodIn_r _ [102, 14, 60, 5, 61, 112, 113, 114] (by decide +kernel) (by decide +kernel)
set_option maxRecDepth 20000 in
theorem gX10_year_X8_timesLowest : GoodIn wsX10_year (wsV RX10 233 RX8 yX8_timesLowest wsX8_timesLowest) := goodIn_app (goodIn_of _ (by decide +kernel)) ggX10_year_X8_timesLowest
theorem dX10_year_0 : decode cX10_year 0 = .ok (.iload_n 3, 1) := by decide +kernel
theorem dX10_year_1 : decode cX10_year 1 = .ok (.iconst (-1), 1) := by decide +kernel
theorem dX10_year_2 : decode cX10_year 2 = .ok (.if_icmp .eq 12, 3) := by decide +kernel
theorem dX10_year_5 : decode cX10_year 5 = .ok (.iload_n 3, 1) := by decide +kernel
theorem dX10_year_6 : decode cX10_year 6 = .ok (.invokestatic 122, 3) := by decide +kernel
theorem dX10_year_9 : decode cX10_year 9 = .ok (.ifCond .ne 5, 3) := by decide +kernel
theorem dX10_year_12 : decode cX10_year 12 = .ok (.iconst (-1), 1) := by decide +kernel
theorem dX10_year_13 : decode cX10_year 13 = .ok (.ireturn, 1) := by decide +kernel
theorem dX10_year_14 : decode cX10_year 14 = .ok (.iload_n 1, 1) := by decide +kernel
theorem dX10_year_15 : decode cX10_year 15 = .ok (.ifCond .lt 21, 3) := by decide +kernel
theorem dX10_year_18 : decode cX10_year 18 = .ok (.iload_n 1, 1) := by decide +kernel
theorem dX10_year_19 : decode cX10_year 19 = .ok (.sipush 9999, 3) := by decide +kernel
theorem dX10_year_22 : decode cX10_year 22 = .ok (.if_icmp .gt 14, 3) := by decide +kernel
theorem dX10_year_25 : decode cX10_year 25 = .ok (.iload_n 2, 1) := by decide +kernel
theorem dX10_year_26 : decode cX10_year 26 = .ok (.iconst 1, 1) := by decide +kernel
theorem dX10_year_27 : decode cX10_year 27 = .ok (.if_icmp .lt 9, 3) := by decide +kernel
theorem dX10_year_30 : decode cX10_year 30 = .ok (.iload_n 2, 1) := by decide +kernel
theorem dX10_year_31 : decode cX10_year 31 = .ok (.bipush 99, 2) := by decide +kernel
theorem dX10_year_33 : decode cX10_year 33 = .ok (.if_icmp .le 6, 3) := by decide +kernel
theorem dX10_year_36 : decode cX10_year 36 = .ok (.bipush (-2), 2) := by decide +kernel
theorem dX10_year_38 : decode cX10_year 38 = .ok (.ireturn, 1) := by decide +kernel
theorem dX10_year_39 : decode cX10_year 39 = .ok (.aload_n 0, 1) := by decide +kernel
theorem dX10_year_40 : decode cX10_year 40 = .ok (.getfield 50, 3) := by decide +kernel
theorem dX10_year_43 : decode cX10_year 43 = .ok (.aload_n 0, 1) := by decide +kernel
theorem dX10_year_44 : decode cX10_year 44 = .ok (.getfield 10, 3) := by decide +kernel
theorem dX10_year_47 : decode cX10_year 47 = .ok (.iload_n 1, 1) := by decide +kernel
theorem dX10_year_48 : decode cX10_year 48 = .ok (.iload_n 2, 1) := by decide +kernel
theorem dX10_year_49 : decode cX10_year 49 = .ok (.invokevirtual 228, 3) := by decide +kernel
theorem dX10_year_52 : decode cX10_year 52 = .ok (.iload_n 3, 1) := by decide +kernel
theorem dX10_year_53 : decode cX10_year 53 = .ok (.iconst (-1), 1) := by decide +kernel
theorem dX10_year_54 : decode cX10_year 54 = .ok (.if_icmp .ne 13, 3) := by decide +kernel
theorem dX10_year_57 : decode cX10_year 57 = .ok (.aload_n 0, 1) := by decide +kernel
theorem dX10_year_58 : decode cX10_year 58 = .ok (.getfield 50, 3) := by decide +kernel
theorem dX10_year_61 : decode cX10_year 61 = .ok (.invokevirtual 232, 3) := by decide +kernel
theorem dX10_year_64 : decode cX10_year 64 = .ok (.goto 11, 3) := by decide +kernel
theorem dX10_year_67 : decode cX10_year 67 = .ok (.aload_n 0, 1) := by decide +kernel
theorem dX10_year_68 : decode cX10_year 68 = .ok (.getfield 50, 3) := by decide +kernel
theorem dX10_year_71 : decode cX10_year 71 = .ok (.iload_n 3, 1) := by decide +kernel
theorem dX10_year_72 : decode cX10_year 72 = .ok (.invokevirtual 233, 3) := by decide +kernel
theorem dX10_year_75 : decode cX10_year 75 = .ok (.ireturn, 1) := by decide +kernel
set_option maxRecDepth 20000 in
theorem ggX10_image_X10_imageOf : GoodIn wsX10_image wsX10_imageOf := goodIn_r _ [7, 8, 9, 47, 48, 49, 50, 51, 52, 53, 54, 55] (by decide +kernel) (by decide +kernel)
set_option maxRecDepth 20000 in
theorem gX10_image_X10_imageOf : GoodIn wsX10_image (wsV RX10 236 RX10 yX10_imageOf wsX10_imageOf) := goodIn_app (goodIn_of _ (by decide +kernel)) ggX10_image_X10_imageOf
set_option maxRecDepth 20000 in
theorem ggX10_image_X2_keep : GoodIn wsX10_image wsX2_keep := goodIn_r _ [14, 15, 16, 17, 18, 19, 20, 21, 22, 23, 24, 25, 26, 27, 28, 29, 6, 30, 31, 32, 33, 34, 35, 36, 37, 38, 39, 40, 41, 42, 43, 44, 45, 46, 56, 57, 58, 59, 60, 61, 62, 63, 64, 65, 66, 67] (by decide +kernel) (by decide +kernel)
set_option maxRecDepth 20000 in
theorem gX10_image_X2_keep : GoodIn wsX10_image (wsV RX10 240 RX2 yX2_keep wsX2_keep) := goodIn_app (goodIn_of _ (by decide +kernel)) ggX10_image_X2_keep
theorem dX10_image_0 : decode cX10_image 0 = .ok (.iload_n 1, 1) := by decide +kernel
theorem dX10_image_1 : decode cX10_image 1 = .ok (.ifCond .lt 8, 3) := by decide +kernel
theorem dX10_image_4 : decode cX10_image 4 = .ok (.iload_n 1, 1) := by decide +kernel
theorem dX10_image_5 : decode cX10_image 5 = .ok (.iconst 1, 1) := by decide +kernel
theorem dX10_image_6 : decode cX10_image 6 = .ok (.if_icmp .le 6, 3) := by decide +kernel
theorem dX10_image_9 : decode cX10_image 9 = .ok (.bipush (-2), 2) := by decide +kernel
theorem dX10_image_11 : decode cX10_image 11 = .ok (.ireturn, 1) := by decide +kernel
theorem dX10_image_12 : decode cX10_image 12 = .ok (.aload_n 0, 1) := by decide +kernel
theorem dX10_image_13 : decode cX10_image 13 = .ok (.iload_n 1, 1) := by decide +kernel
theorem dX10_image_14 : decode cX10_image 14 = .ok (.invokevirtual 236, 3) := by decide +kernel
theorem dX10_image_17 : decode cX10_image 17 = .ok (.aload_n 0, 1) := by decide +kernel
theorem dX10_image_18 : decode cX10_image 18 = .ok (.getfield 10, 3) := by decide +kernel
theorem dX10_image_21 : decode cX10_image 21 = .ok (.aload_n 0, 1) := by decide +kernel
theorem dX10_image_22 : decode cX10_image 22 = .ok (.getfield 29, 3) := by decide +kernel
theorem dX10_image_25 : decode cX10_image 25 = .ok (.invokevirtual 240, 3) := by decide +kernel
theorem dX10_image_28 : decode cX10_image 28 = .ok (.iconst 1, 1) := by decide +kernel
theorem dX10_image_29 : decode cX10_image 29 = .ok (.ireturn, 1) := by decide +kernel
set_option maxRecDepth 20000 in
theorem ggX10_restore_X10_imageOf : GoodIn wsX10_restore wsX10_imageOf := goodIn_r _ [7, 8, 9, 51, 52, 53, 54, 55, 56, 57, 58, 59] (by decide +kernel) (by decide +kernel)
set_option maxRecDepth 20000 in
theorem gX10_restore_X10_imageOf : GoodIn wsX10_restore (wsV RX10 236 RX10 yX10_imageOf wsX10_imageOf) := goodIn_app (goodIn_of _ (by decide +kernel)) ggX10_restore_X10_imageOf
set_option maxRecDepth 20000 in
theorem ggX10_restore_X2_isKept : GoodIn wsX10_restore wsX2_isKept := goodIn_r _ [14, 15, 60, 61, 62] (by decide +kernel) (by decide +kernel)
set_option maxRecDepth 20000 in
theorem gX10_restore_X2_isKept : GoodIn wsX10_restore (wsV RX10 244 RX2 yX2_isKept wsX2_isKept) := goodIn_app (goodIn_of _ (by decide +kernel)) ggX10_restore_X2_isKept
set_option maxRecDepth 20000 in
theorem ggX10_restore_X2_giveBack : GoodIn wsX10_restore wsX2_giveBack := goodIn_r _ [19, 20, 21, 22, 23, 24, 25, 26, 27, 28, 29, 30, 31, 32, 33, 6, 34, 35, 36, 37, 38, 39, 40, 41, 42, 43, 44, 45, 46, 47, 48, 49, 50, 60, 61, 62, 63, 64, 65, 66, 67, 68, 69, 70, 71] (by decide +kernel) (by decide +kernel)
set_option maxRecDepth 20000 in
theorem gX10_restore_X2_giveBack : GoodIn wsX10_restore (wsV RX10 248 RX2 yX2_giveBack wsX2_giveBack) := goodIn_app (goodIn_of _ (by decide +kernel)) ggX10_restore_X2_giveBack
theorem dX10_restore_0 : decode cX10_restore 0 = .ok (.iload_n 1, 1) := by decide +kernel
theorem dX10_restore_1 : decode cX10_restore 1 = .ok (.ifCond .lt 8, 3) := by decide +kernel
theorem dX10_restore_4 : decode cX10_restore 4 = .ok (.iload_n 1, 1) := by decide +kernel
theorem dX10_restore_5 : decode cX10_restore 5 = .ok (.iconst 1, 1) := by decide +kernel
theorem dX10_restore_6 : decode cX10_restore 6 = .ok (.if_icmp .le 6, 3) := by decide +kernel
theorem dX10_restore_9 : decode cX10_restore 9 = .ok (.bipush (-2), 2) := by decide +kernel
theorem dX10_restore_11 : decode cX10_restore 11 = .ok (.ireturn, 1) := by decide +kernel
theorem dX10_restore_12 : decode cX10_restore 12 = .ok (.aload_n 0, 1) := by decide +kernel
theorem dX10_restore_13 : decode cX10_restore 13 = .ok (.iload_n 1, 1) := by decide +kernel
theorem dX10_restore_14 : decode cX10_restore 14 = .ok (.invokevirtual 236, 3) := by decide +kernel
theorem dX10_restore_17 : decode cX10_restore 17 = .ok (.astore_n 2, 1) := by decide +kernel
theorem dX10_restore_18 : decode cX10_restore 18 = .ok (.aload_n 2, 1) := by decide +kernel
theorem dX10_restore_19 : decode cX10_restore 19 = .ok (.invokevirtual 244, 3) := by decide +kernel
theorem dX10_restore_22 : decode cX10_restore 22 = .ok (.ifCond .ne 6, 3) := by decide +kernel
theorem dX10_restore_25 : decode cX10_restore 25 = .ok (.bipush (-3), 2) := by decide +kernel
theorem dX10_restore_27 : decode cX10_restore 27 = .ok (.ireturn, 1) := by decide +kernel
theorem dX10_restore_28 : decode cX10_restore 28 = .ok (.aload_n 2, 1) := by decide +kernel
theorem dX10_restore_29 : decode cX10_restore 29 = .ok (.aload_n 0, 1) := by decide +kernel
theorem dX10_restore_30 : decode cX10_restore 30 = .ok (.getfield 10, 3) := by decide +kernel
theorem dX10_restore_33 : decode cX10_restore 33 = .ok (.aload_n 0, 1) := by decide +kernel
theorem dX10_restore_34 : decode cX10_restore 34 = .ok (.getfield 29, 3) := by decide +kernel
theorem dX10_restore_37 : decode cX10_restore 37 = .ok (.invokevirtual 248, 3) := by decide +kernel
theorem dX10_restore_40 : decode cX10_restore 40 = .ok (.iconst 1, 1) := by decide +kernel
theorem dX10_restore_41 : decode cX10_restore 41 = .ok (.ireturn, 1) := by decide +kernel
set_option maxRecDepth 20000 in
theorem ggX10_told_X9_weightOf : GoodIn wsX10_told wsX9_weightOf := goodIn_r _ [8, 9, 10, 11, 12, 49, 50, 51, 52, 53, 54] (by decide +kernel) (by decide +kernel)
set_option maxRecDepth 20000 in
theorem gX10_told_X9_weightOf : GoodIn wsX10_told (wsV RX10 68 RX9 yX9_weightOf wsX9_weightOf) := goodIn_app (goodIn_of _ (by decide +kernel)) ggX10_told_X9_weightOf
set_option maxRecDepth 20000 in
theorem ggX10_told_X9_carOf : GoodIn wsX10_told wsX9_carOf := goodIn_r _ [16, 17, 10, 11, 12, 49, 50, 51, 52, 53, 54] (by decide +kernel) (by decide +kernel)
set_option maxRecDepth 20000 in
theorem gX10_told_X9_carOf : GoodIn wsX10_told (wsV RX10 251 RX9 yX9_carOf wsX9_carOf) := goodIn_app (goodIn_of _ (by decide +kernel)) ggX10_told_X9_carOf
set_option maxRecDepth 20000 in
theorem ggX10_told_X4_length : GoodIn wsX10_told wsX4_length := goodIn_r _ [22, 23, 55, 56, 57] (by decide +kernel) (by decide +kernel)
set_option maxRecDepth 20000 in
theorem gX10_told_X4_length : GoodIn wsX10_told (wsV RX10 84 RX4 yX4_length wsX4_length) := goodIn_app (goodIn_of _ (by decide +kernel)) ggX10_told_X4_length
set_option maxRecDepth 20000 in
theorem ggX10_told_X9_friction : GoodIn wsX10_told wsX9_friction := goodIn_r _ [27, 28, 49, 50, 51, 52, 53, 54] (by decide +kernel) (by decide +kernel)
set_option maxRecDepth 20000 in
theorem gX10_told_X9_friction : GoodIn wsX10_told (wsV RX10 76 RX9 yX9_friction wsX9_friction) := goodIn_app (goodIn_of _ (by decide +kernel)) ggX10_told_X9_friction
set_option maxRecDepth 20000 in
theorem ggX10_told_X6_count : GoodIn wsX10_told wsX6_count := goodIn_r _ [33, 34, 58, 59, 60] (by decide +kernel) (by decide +kernel)
set_option maxRecDepth 20000 in
theorem gX10_told_X6_count : GoodIn wsX10_told (wsV RX10 189 RX6 yX6_count wsX6_count) := goodIn_app (goodIn_of _ (by decide +kernel)) ggX10_told_X6_count
set_option maxRecDepth 20000 in
theorem ggX10_told_X9_takenCars : GoodIn wsX10_told wsX9_takenCars := goodIn_r _ [38, 39, 10, 11, 12, 49, 50, 51, 52, 53, 54] (by decide +kernel) (by decide +kernel)
set_option maxRecDepth 20000 in
theorem gX10_told_X9_takenCars : GoodIn wsX10_told (wsV RX10 254 RX9 yX9_takenCars wsX9_takenCars) := goodIn_app (goodIn_of _ (by decide +kernel)) ggX10_told_X9_takenCars
theorem dX10_told_0 : decode cX10_told 0 = .ok (.iload_n 1, 1) := by decide +kernel
theorem dX10_told_1 : decode cX10_told 1 = .ok (.bipush 10, 2) := by decide +kernel
theorem dX10_told_3 : decode cX10_told 3 = .ok (.if_icmp .lt 21, 3) := by decide +kernel
theorem dX10_told_6 : decode cX10_told 6 = .ok (.iload_n 1, 1) := by decide +kernel
theorem dX10_told_7 : decode cX10_told 7 = .ok (.bipush 18, 2) := by decide +kernel
theorem dX10_told_9 : decode cX10_told 9 = .ok (.if_icmp .ge 15, 3) := by decide +kernel
theorem dX10_told_12 : decode cX10_told 12 = .ok (.aload_n 0, 1) := by decide +kernel
theorem dX10_told_13 : decode cX10_told 13 = .ok (.getfield 10, 3) := by decide +kernel
theorem dX10_told_16 : decode cX10_told 16 = .ok (.iload_n 1, 1) := by decide +kernel
theorem dX10_told_17 : decode cX10_told 17 = .ok (.bipush 10, 2) := by decide +kernel
theorem dX10_told_19 : decode cX10_told 19 = .ok (.isub, 1) := by decide +kernel
theorem dX10_told_20 : decode cX10_told 20 = .ok (.invokevirtual 68, 3) := by decide +kernel
theorem dX10_told_23 : decode cX10_told 23 = .ok (.ireturn, 1) := by decide +kernel
theorem dX10_told_24 : decode cX10_told 24 = .ok (.iload_n 1, 1) := by decide +kernel
theorem dX10_told_25 : decode cX10_told 25 = .ok (.bipush 20, 2) := by decide +kernel
theorem dX10_told_27 : decode cX10_told 27 = .ok (.if_icmp .lt 21, 3) := by decide +kernel
theorem dX10_told_30 : decode cX10_told 30 = .ok (.iload_n 1, 1) := by decide +kernel
theorem dX10_told_31 : decode cX10_told 31 = .ok (.bipush 28, 2) := by decide +kernel
theorem dX10_told_33 : decode cX10_told 33 = .ok (.if_icmp .ge 15, 3) := by decide +kernel
theorem dX10_told_36 : decode cX10_told 36 = .ok (.aload_n 0, 1) := by decide +kernel
theorem dX10_told_37 : decode cX10_told 37 = .ok (.getfield 10, 3) := by decide +kernel
theorem dX10_told_40 : decode cX10_told 40 = .ok (.iload_n 1, 1) := by decide +kernel
theorem dX10_told_41 : decode cX10_told 41 = .ok (.bipush 20, 2) := by decide +kernel
theorem dX10_told_43 : decode cX10_told 43 = .ok (.isub, 1) := by decide +kernel
theorem dX10_told_44 : decode cX10_told 44 = .ok (.invokevirtual 251, 3) := by decide +kernel
theorem dX10_told_47 : decode cX10_told 47 = .ok (.ireturn, 1) := by decide +kernel
theorem dX10_told_48 : decode cX10_told 48 = .ok (.iload_n 1, 1) := by decide +kernel
theorem dX10_told_49 : decode cX10_told 49 = .ok (.tableswitch 63 0 3 #[31, 39, 47, 55], 31) := by decide +kernel
theorem dX10_told_80 : decode cX10_told 80 = .ok (.aload_n 0, 1) := by decide +kernel
theorem dX10_told_81 : decode cX10_told 81 = .ok (.getfield 22, 3) := by decide +kernel
theorem dX10_told_84 : decode cX10_told 84 = .ok (.invokevirtual 84, 3) := by decide +kernel
theorem dX10_told_87 : decode cX10_told 87 = .ok (.ireturn, 1) := by decide +kernel
theorem dX10_told_88 : decode cX10_told 88 = .ok (.aload_n 0, 1) := by decide +kernel
theorem dX10_told_89 : decode cX10_told 89 = .ok (.getfield 10, 3) := by decide +kernel
theorem dX10_told_92 : decode cX10_told 92 = .ok (.invokevirtual 76, 3) := by decide +kernel
theorem dX10_told_95 : decode cX10_told 95 = .ok (.ireturn, 1) := by decide +kernel
theorem dX10_told_96 : decode cX10_told 96 = .ok (.aload_n 0, 1) := by decide +kernel
theorem dX10_told_97 : decode cX10_told 97 = .ok (.getfield 29, 3) := by decide +kernel
theorem dX10_told_100 : decode cX10_told 100 = .ok (.invokevirtual 189, 3) := by decide +kernel
theorem dX10_told_103 : decode cX10_told 103 = .ok (.ireturn, 1) := by decide +kernel
theorem dX10_told_104 : decode cX10_told 104 = .ok (.aload_n 0, 1) := by decide +kernel
theorem dX10_told_105 : decode cX10_told 105 = .ok (.getfield 10, 3) := by decide +kernel
theorem dX10_told_108 : decode cX10_told 108 = .ok (.invokevirtual 254, 3) := by decide +kernel
theorem dX10_told_111 : decode cX10_told 111 = .ok (.ireturn, 1) := by decide +kernel
theorem dX10_told_112 : decode cX10_told 112 = .ok (.bipush (-2), 2) := by decide +kernel
theorem dX10_told_114 : decode cX10_told 114 = .ok (.ireturn, 1) := by decide +kernel
theorem dX10_isPerson_0 : decode cX10_isPerson 0 = .ok (.iload_n 0, 1) := by decide +kernel
theorem dX10_isPerson_1 : decode cX10_isPerson 1 = .ok (.ifCond .lt 13, 3) := by decide +kernel
theorem dX10_isPerson_4 : decode cX10_isPerson 4 = .ok (.iload_n 0, 1) := by decide +kernel
theorem dX10_isPerson_5 : decode cX10_isPerson 5 = .ok (.bipush 8, 2) := by decide +kernel
theorem dX10_isPerson_7 : decode cX10_isPerson 7 = .ok (.if_icmp .ge 7, 3) := by decide +kernel
theorem dX10_isPerson_10 : decode cX10_isPerson 10 = .ok (.iconst 1, 1) := by decide +kernel
theorem dX10_isPerson_11 : decode cX10_isPerson 11 = .ok (.goto 4, 3) := by decide +kernel
theorem dX10_isPerson_14 : decode cX10_isPerson 14 = .ok (.iconst 0, 1) := by decide +kernel
theorem dX10_isPerson_15 : decode cX10_isPerson 15 = .ok (.ireturn, 1) := by decide +kernel
theorem dX10_isCar_0 : decode cX10_isCar 0 = .ok (.iload_n 0, 1) := by decide +kernel
theorem dX10_isCar_1 : decode cX10_isCar 1 = .ok (.ifCond .lt 13, 3) := by decide +kernel
theorem dX10_isCar_4 : decode cX10_isCar 4 = .ok (.iload_n 0, 1) := by decide +kernel
theorem dX10_isCar_5 : decode cX10_isCar 5 = .ok (.bipush 8, 2) := by decide +kernel
theorem dX10_isCar_7 : decode cX10_isCar 7 = .ok (.if_icmp .ge 7, 3) := by decide +kernel
theorem dX10_isCar_10 : decode cX10_isCar 10 = .ok (.iconst 1, 1) := by decide +kernel
