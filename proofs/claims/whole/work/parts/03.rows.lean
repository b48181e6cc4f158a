theorem dX0_init_0 : decode cX0_init 0 = .ok (.aload_n 0, 1) := by decide +kernel
theorem dX0_init_1 : decode cX0_init 1 = .ok (.invokespecial 3, 3) := by decide +kernel
theorem dX0_init_4 : decode cX0_init 4 = .ok (.return_, 1) := by decide +kernel
theorem dX0_place_0 : decode cX0_place 0 = .ok (.aload_n 0, 1) := by decide +kernel
theorem dX0_place_1 : decode cX0_place 1 = .ok (.iload_n 1, 1) := by decide +kernel
theorem dX0_place_2 : decode cX0_place 2 = .ok (.putfield 9, 3) := by decide +kernel
theorem dX0_place_5 : decode cX0_place 5 = .ok (.aload_n 0, 1) := by decide +kernel
theorem dX0_place_6 : decode cX0_place 6 = .ok (.iload_n 2, 1) := by decide +kernel
theorem dX0_place_7 : decode cX0_place 7 = .ok (.putfield 15, 3) := by decide +kernel
theorem dX0_place_10 : decode cX0_place 10 = .ok (.aload_n 0, 1) := by decide +kernel
theorem dX0_place_11 : decode cX0_place 11 = .ok (.iload_n 3, 1) := by decide +kernel
theorem dX0_place_12 : decode cX0_place 12 = .ok (.putfield 18, 3) := by decide +kernel
theorem dX0_place_15 : decode cX0_place 15 = .ok (.return_, 1) := by decide +kernel
set_option maxRecDepth 20000 in
theorem ggX0_toStart_X0_place : GoodIn wsX0_toStart wsX0_place := goodIn_r _ [7, 8, 9, 10, 21, 22, 23] (by decide +kernel) (by decide +kernel)
set_option maxRecDepth 20000 in
theorem gX0_toStart_X0_place : GoodIn wsX0_toStart (wsV RX0 29 RX0 yX0_place wsX0_place) := goodIn_app (goodIn_of _ (by decide +kernel)) ggX0_toStart_X0_place
theorem dX0_toStart_0 : decode cX0_toStart 0 = .ok (.aload_n 0, 1) := by decide +kernel
theorem dX0_toStart_1 : decode cX0_toStart 1 = .ok (.aload_n 1, 1) := by decide +kernel
theorem dX0_toStart_2 : decode cX0_toStart 2 = .ok (.getfield 21, 3) := by decide +kernel
theorem dX0_toStart_5 : decode cX0_toStart 5 = .ok (.aload_n 1, 1) := by decide +kernel
theorem dX0_toStart_6 : decode cX0_toStart 6 = .ok (.getfield 26, 3) := by decide +kernel
theorem dX0_toStart_9 : decode cX0_toStart 9 = .ok (.iconst 0, 1) := by decide +kernel
theorem dX0_toStart_10 : decode cX0_toStart 10 = .ok (.invokevirtual 29, 3) := by decide +kernel
theorem dX0_toStart_13 : decode cX0_toStart 13 = .ok (.return_, 1) := by decide +kernel
set_option maxRecDepth 20000 in
theorem ggX0_move_X1_kindAt : GoodIn wsX0_move wsX1_kindAt := goodIn_r _ [8, 9, 10, 11, 38, 39, 40, 41, 42, 43, 44, 45, 46, 47] (by decide +kernel) (by decide +kernel)
set_option maxRecDepth 20000 in
theorem gX0_move_X1_kindAt : GoodIn wsX0_move (wsV RX0 33 RX1 yX1_kindAt wsX1_kindAt) := goodIn_app (goodIn_of _ (by decide +kernel)) ggX0_move_X1_kindAt
set_option maxRecDepth 20000 in
theorem ggX0_move_X0_walk : GoodIn wsX0_move wsX0_walk := goodIn_r _ [16, 1, 2, 4, 5, 6, 7, 8, 9, 10, 11, 35, 36, 37, 38, 39, 40, 41, 42, 43, 44, 45, 46, 47] (by decide +kernel) (by decide +kernel)
set_option maxRecDepth 20000 in
theorem gX0_move_X0_walk : GoodIn wsX0_move (wsV RX0 37 RX0 yX0_walk wsX0_walk) := goodIn_app (goodIn_of _ (by decide +kernel)) ggX0_move_X0_walk
set_option maxRecDepth 20000 in
theorem ggX0_move_X0_rise : GoodIn wsX0_move wsX0_rise := goodIn_r _ [20, 1, 2, 3, 4, 5, 6, 7, 8, 9, 10, 11, 35, 36, 37, 38, 39, 40, 41, 42, 43, 44, 45, 46, 47] (by decide +kernel) (by decide +kernel)
set_option maxRecDepth 20000 in
theorem gX0_move_X0_rise : GoodIn wsX0_move (wsV RX0 41 RX0 yX0_rise wsX0_rise) := goodIn_app (goodIn_of _ (by decide +kernel)) ggX0_move_X0_rise
set_option maxRecDepth 20000 in
theorem ggX0_move_X0_fall : GoodIn wsX0_move wsX0_fall := goodIn_r _ [24, 1, 2, 4, 5, 6, 7, 8, 9, 10, 11, 35, 36, 37, 38, 39, 40, 41, 42, 43, 44, 45, 46, 47] (by decide +kernel) (by decide +kernel)
set_option maxRecDepth 20000 in
theorem gX0_move_X0_fall : GoodIn wsX0_move (wsV RX0 45 RX0 yX0_fall wsX0_fall) := goodIn_app (goodIn_of _ (by decide +kernel)) ggX0_move_X0_fall
set_option maxRecDepth 20000 in
theorem ggX0_move_X0_look : GoodIn wsX0_move wsX0_look := goodIn_r _ [28, 1, 2, 3, 4, 5, 6, 7, 8, 9, 10, 11, 29, 30, 31, 32, 33, 34, 35, 36, 37, 38, 39, 40, 41, 42, 43, 44, 45, 46, 47] (by decide +kernel) (by decide +kernel)
set_option maxRecDepth 20000 in
theorem gX0_move_X0_look : GoodIn wsX0_move (wsV RX0 48 RX0 yX0_look wsX0_look) := goodIn_app (goodIn_of _ (by decide +kernel)) ggX0_move_X0_look
theorem dX0_move_0 : decode cX0_move 0 = .ok (.iload_n 2, 1) := by decide +kernel
theorem dX0_move_1 : decode cX0_move 1 = .ok (.iconst 3, 1) := by decide +kernel
theorem dX0_move_2 : decode cX0_move 2 = .ok (.if_icmp .lt 26, 3) := by decide +kernel
theorem dX0_move_5 : decode cX0_move 5 = .ok (.aload_n 1, 1) := by decide +kernel
theorem dX0_move_6 : decode cX0_move 6 = .ok (.aload_n 0, 1) := by decide +kernel
theorem dX0_move_7 : decode cX0_move 7 = .ok (.getfield 9, 3) := by decide +kernel
theorem dX0_move_10 : decode cX0_move 10 = .ok (.aload_n 0, 1) := by decide +kernel
theorem dX0_move_11 : decode cX0_move 11 = .ok (.getfield 15, 3) := by decide +kernel
theorem dX0_move_14 : decode cX0_move 14 = .ok (.iconst 1, 1) := by decide +kernel
theorem dX0_move_15 : decode cX0_move 15 = .ok (.iadd, 1) := by decide +kernel
theorem dX0_move_16 : decode cX0_move 16 = .ok (.invokevirtual 33, 3) := by decide +kernel
theorem dX0_move_19 : decode cX0_move 19 = .ok (.iconst 1, 1) := by decide +kernel
theorem dX0_move_20 : decode cX0_move 20 = .ok (.if_icmp .ne 8, 3) := by decide +kernel
theorem dX0_move_23 : decode cX0_move 23 = .ok (.aload_n 0, 1) := by decide +kernel
theorem dX0_move_24 : decode cX0_move 24 = .ok (.iconst 2, 1) := by decide +kernel
theorem dX0_move_25 : decode cX0_move 25 = .ok (.putfield 18, 3) := by decide +kernel
theorem dX0_move_28 : decode cX0_move 28 = .ok (.aload_n 0, 1) := by decide +kernel
theorem dX0_move_29 : decode cX0_move 29 = .ok (.aload_n 1, 1) := by decide +kernel
theorem dX0_move_30 : decode cX0_move 30 = .ok (.iload_n 2, 1) := by decide +kernel
theorem dX0_move_31 : decode cX0_move 31 = .ok (.invokevirtual 37, 3) := by decide +kernel
theorem dX0_move_34 : decode cX0_move 34 = .ok (.aload_n 0, 1) := by decide +kernel
theorem dX0_move_35 : decode cX0_move 35 = .ok (.getfield 18, 3) := by decide +kernel
theorem dX0_move_38 : decode cX0_move 38 = .ok (.ifCond .le 11, 3) := by decide +kernel
theorem dX0_move_41 : decode cX0_move 41 = .ok (.aload_n 0, 1) := by decide +kernel
theorem dX0_move_42 : decode cX0_move 42 = .ok (.aload_n 1, 1) := by decide +kernel
theorem dX0_move_43 : decode cX0_move 43 = .ok (.invokevirtual 41, 3) := by decide +kernel
theorem dX0_move_46 : decode cX0_move 46 = .ok (.goto 8, 3) := by decide +kernel
theorem dX0_move_49 : decode cX0_move 49 = .ok (.aload_n 0, 1) := by decide +kernel
theorem dX0_move_50 : decode cX0_move 50 = .ok (.aload_n 1, 1) := by decide +kernel
theorem dX0_move_51 : decode cX0_move 51 = .ok (.invokevirtual 45, 3) := by decide +kernel
theorem dX0_move_54 : decode cX0_move 54 = .ok (.aload_n 0, 1) := by decide +kernel
theorem dX0_move_55 : decode cX0_move 55 = .ok (.aload_n 1, 1) := by decide +kernel
theorem dX0_move_56 : decode cX0_move 56 = .ok (.invokevirtual 48, 3) := by decide +kernel
theorem dX0_move_59 : decode cX0_move 59 = .ok (.ireturn, 1) := by decide +kernel
set_option maxRecDepth 20000 in
theorem ggX0_walk_X1_kindAt : GoodIn wsX0_walk wsX1_kindAt := goodIn_r _ [7, 8, 9, 10, 14, 15, 16, 17, 18, 19, 20, 21, 22, 23] (by decide +kernel) (by decide +kernel)
set_option maxRecDepth 20000 in
theorem gX0_walk_X1_kindAt : GoodIn wsX0_walk (wsV RX0 33 RX1 yX1_kindAt wsX1_kindAt) := goodIn_app (goodIn_of _ (by decide +kernel)) ggX0_walk_X1_kindAt
theorem dX0_walk_0 : decode cX0_walk 0 = .ok (.aload_n 0, 1) := by decide +kernel
theorem dX0_walk_1 : decode cX0_walk 1 = .ok (.getfield 9, 3) := by decide +kernel
theorem dX0_walk_4 : decode cX0_walk 4 = .ok (.istore_n 3, 1) := by decide +kernel
theorem dX0_walk_5 : decode cX0_walk 5 = .ok (.iload_n 2, 1) := by decide +kernel
theorem dX0_walk_6 : decode cX0_walk 6 = .ok (.iconst 1, 1) := by decide +kernel
theorem dX0_walk_7 : decode cX0_walk 7 = .ok (.if_icmp .eq 8, 3) := by decide +kernel
theorem dX0_walk_10 : decode cX0_walk 10 = .ok (.iload_n 2, 1) := by decide +kernel
theorem dX0_walk_11 : decode cX0_walk 11 = .ok (.iconst 4, 1) := by decide +kernel
theorem dX0_walk_12 : decode cX0_walk 12 = .ok (.if_icmp .ne 13, 3) := by decide +kernel
theorem dX0_walk_15 : decode cX0_walk 15 = .ok (.aload_n 0, 1) := by decide +kernel
theorem dX0_walk_16 : decode cX0_walk 16 = .ok (.getfield 9, 3) := by decide +kernel
theorem dX0_walk_19 : decode cX0_walk 19 = .ok (.iconst 1, 1) := by decide +kernel
theorem dX0_walk_20 : decode cX0_walk 20 = .ok (.isub, 1) := by decide +kernel
theorem dX0_walk_21 : decode cX0_walk 21 = .ok (.istore_n 3, 1) := by decide +kernel
theorem dX0_walk_22 : decode cX0_walk 22 = .ok (.goto 20, 3) := by decide +kernel
theorem dX0_walk_25 : decode cX0_walk 25 = .ok (.iload_n 2, 1) := by decide +kernel
theorem dX0_walk_26 : decode cX0_walk 26 = .ok (.iconst 2, 1) := by decide +kernel
theorem dX0_walk_27 : decode cX0_walk 27 = .ok (.if_icmp .eq 8, 3) := by decide +kernel
theorem dX0_walk_30 : decode cX0_walk 30 = .ok (.iload_n 2, 1) := by decide +kernel
theorem dX0_walk_31 : decode cX0_walk 31 = .ok (.iconst 5, 1) := by decide +kernel
theorem dX0_walk_32 : decode cX0_walk 32 = .ok (.if_icmp .ne 10, 3) := by decide +kernel
theorem dX0_walk_35 : decode cX0_walk 35 = .ok (.aload_n 0, 1) := by decide +kernel
theorem dX0_walk_36 : decode cX0_walk 36 = .ok (.getfield 9, 3) := by decide +kernel
theorem dX0_walk_39 : decode cX0_walk 39 = .ok (.iconst 1, 1) := by decide +kernel
theorem dX0_walk_40 : decode cX0_walk 40 = .ok (.iadd, 1) := by decide +kernel
theorem dX0_walk_41 : decode cX0_walk 41 = .ok (.istore_n 3, 1) := by decide +kernel
theorem dX0_walk_42 : decode cX0_walk 42 = .ok (.aload_n 1, 1) := by decide +kernel
theorem dX0_walk_43 : decode cX0_walk 43 = .ok (.iload_n 3, 1) := by decide +kernel
theorem dX0_walk_44 : decode cX0_walk 44 = .ok (.aload_n 0, 1) := by decide +kernel
theorem dX0_walk_45 : decode cX0_walk 45 = .ok (.getfield 15, 3) := by decide +kernel
theorem dX0_walk_48 : decode cX0_walk 48 = .ok (.invokevirtual 33, 3) := by decide +kernel
theorem dX0_walk_51 : decode cX0_walk 51 = .ok (.istore 4, 2) := by decide +kernel
theorem dX0_walk_53 : decode cX0_walk 53 = .ok (.iload 4, 2) := by decide +kernel
theorem dX0_walk_55 : decode cX0_walk 55 = .ok (.iconst (-1), 1) := by decide +kernel
theorem dX0_walk_56 : decode cX0_walk 56 = .ok (.if_icmp .eq 14, 3) := by decide +kernel
theorem dX0_walk_59 : decode cX0_walk 59 = .ok (.iload 4, 2) := by decide +kernel
theorem dX0_walk_61 : decode cX0_walk 61 = .ok (.iconst 1, 1) := by decide +kernel
theorem dX0_walk_62 : decode cX0_walk 62 = .ok (.if_icmp .eq 8, 3) := by decide +kernel
theorem dX0_walk_65 : decode cX0_walk 65 = .ok (.aload_n 0, 1) := by decide +kernel
theorem dX0_walk_66 : decode cX0_walk 66 = .ok (.iload_n 3, 1) := by decide +kernel
theorem dX0_walk_67 : decode cX0_walk 67 = .ok (.putfield 9, 3) := by decide +kernel
theorem dX0_walk_70 : decode cX0_walk 70 = .ok (.return_, 1) := by decide +kernel
set_option maxRecDepth 20000 in
theorem ggX0_rise_X1_kindAt : GoodIn wsX0_rise wsX1_kindAt := goodIn_r _ [8, 9, 10, 11, 15, 16, 17, 18, 19, 20, 21, 22, 23, 24] (by decide +kernel) (by decide +kernel)
set_option maxRecDepth 20000 in
theorem gX0_rise_X1_kindAt : GoodIn wsX0_rise (wsV RX0 33 RX1 yX1_kindAt wsX1_kindAt) := goodIn_app (goodIn_of _ (by decide +kernel)) ggX0_rise_X1_kindAt
theorem dX0_rise_0 : decode cX0_rise 0 = .ok (.aload_n 1, 1) := by decide +kernel
theorem dX0_rise_1 : decode cX0_rise 1 = .ok (.aload_n 0, 1) := by decide +kernel
theorem dX0_rise_2 : decode cX0_rise 2 = .ok (.getfield 9, 3) := by decide +kernel
theorem dX0_rise_5 : decode cX0_rise 5 = .ok (.aload_n 0, 1) := by decide +kernel
theorem dX0_rise_6 : decode cX0_rise 6 = .ok (.getfield 15, 3) := by decide +kernel
theorem dX0_rise_9 : decode cX0_rise 9 = .ok (.iconst 1, 1) := by decide +kernel
theorem dX0_rise_10 : decode cX0_rise 10 = .ok (.isub, 1) := by decide +kernel
theorem dX0_rise_11 : decode cX0_rise 11 = .ok (.invokevirtual 33, 3) := by decide +kernel
theorem dX0_rise_14 : decode cX0_rise 14 = .ok (.istore_n 2, 1) := by decide +kernel
theorem dX0_rise_15 : decode cX0_rise 15 = .ok (.iload_n 2, 1) := by decide +kernel
theorem dX0_rise_16 : decode cX0_rise 16 = .ok (.iconst (-1), 1) := by decide +kernel
theorem dX0_rise_17 : decode cX0_rise 17 = .ok (.if_icmp .eq 8, 3) := by decide +kernel
theorem dX0_rise_20 : decode cX0_rise 20 = .ok (.iload_n 2, 1) := by decide +kernel
theorem dX0_rise_21 : decode cX0_rise 21 = .ok (.iconst 1, 1) := by decide +kernel
theorem dX0_rise_22 : decode cX0_rise 22 = .ok (.if_icmp .ne 11, 3) := by decide +kernel
theorem dX0_rise_25 : decode cX0_rise 25 = .ok (.aload_n 0, 1) := by decide +kernel
theorem dX0_rise_26 : decode cX0_rise 26 = .ok (.iconst 0, 1) := by decide +kernel
theorem dX0_rise_27 : decode cX0_rise 27 = .ok (.putfield 18, 3) := by decide +kernel
theorem dX0_rise_30 : decode cX0_rise 30 = .ok (.goto 23, 3) := by decide +kernel
theorem dX0_rise_33 : decode cX0_rise 33 = .ok (.aload_n 0, 1) := by decide +kernel
theorem dX0_rise_34 : decode cX0_rise 34 = .ok (.dup, 1) := by decide +kernel
theorem dX0_rise_35 : decode cX0_rise 35 = .ok (.getfield 15, 3) := by decide +kernel
theorem dX0_rise_38 : decode cX0_rise 38 = .ok (.iconst 1, 1) := by decide +kernel
theorem dX0_rise_39 : decode cX0_rise 39 = .ok (.isub, 1) := by decide +kernel
theorem dX0_rise_40 : decode cX0_rise 40 = .ok (.putfield 15, 3) := by decide +kernel
theorem dX0_rise_43 : decode cX0_rise 43 = .ok (.aload_n 0, 1) := by decide +kernel
theorem dX0_rise_44 : decode cX0_rise 44 = .ok (.dup, 1) := by decide +kernel
theorem dX0_rise_45 : decode cX0_rise 45 = .ok (.getfield 18, 3) := by decide +kernel
theorem dX0_rise_48 : decode cX0_rise 48 = .ok (.iconst 1, 1) := by decide +kernel
theorem dX0_rise_49 : decode cX0_rise 49 = .ok (.isub, 1) := by decide +kernel
theorem dX0_rise_50 : decode cX0_rise 50 = .ok (.putfield 18, 3) := by decide +kernel
theorem dX0_rise_53 : decode cX0_rise 53 = .ok (.return_, 1) := by decide +kernel
set_option maxRecDepth 20000 in
theorem ggX0_fall_X1_kindAt : GoodIn wsX0_fall wsX1_kindAt := goodIn_r _ [7, 8, 9, 10, 14, 15, 16, 17, 18, 19, 20, 21, 22, 23] (by decide +kernel) (by decide +kernel)
set_option maxRecDepth 20000 in
theorem gX0_fall_X1_kindAt : GoodIn wsX0_fall (wsV RX0 33 RX1 yX1_kindAt wsX1_kindAt) := goodIn_app (goodIn_of _ (by decide +kernel)) ggX0_fall_X1_kindAt
theorem dX0_fall_0 : decode cX0_fall 0 = .ok (.aload_n 1, 1) := by decide +kernel
theorem dX0_fall_1 : decode cX0_fall 1 = .ok (.aload_n 0, 1) := by decide +kernel
theorem dX0_fall_2 : decode cX0_fall 2 = .ok (.getfield 9, 3) := by decide +kernel
theorem dX0_fall_5 : decode cX0_fall 5 = .ok (.aload_n 0, 1) := by decide +kernel
theorem dX0_fall_6 : decode cX0_fall 6 = .ok (.getfield 15, 3) := by decide +kernel
theorem dX0_fall_9 : decode cX0_fall 9 = .ok (.iconst 1, 1) := by decide +kernel
theorem dX0_fall_10 : decode cX0_fall 10 = .ok (.iadd, 1) := by decide +kernel
theorem dX0_fall_11 : decode cX0_fall 11 = .ok (.invokevirtual 33, 3) := by decide +kernel
theorem dX0_fall_14 : decode cX0_fall 14 = .ok (.iconst 1, 1) := by decide +kernel
theorem dX0_fall_15 : decode cX0_fall 15 = .ok (.if_icmp .eq 13, 3) := by decide +kernel
theorem dX0_fall_18 : decode cX0_fall 18 = .ok (.aload_n 0, 1) := by decide +kernel
theorem dX0_fall_19 : decode cX0_fall 19 = .ok (.dup, 1) := by decide +kernel
theorem dX0_fall_20 : decode cX0_fall 20 = .ok (.getfield 15, 3) := by decide +kernel
theorem dX0_fall_23 : decode cX0_fall 23 = .ok (.iconst 1, 1) := by decide +kernel
theorem dX0_fall_24 : decode cX0_fall 24 = .ok (.iadd, 1) := by decide +kernel
theorem dX0_fall_25 : decode cX0_fall 25 = .ok (.putfield 15, 3) := by decide +kernel
theorem dX0_fall_28 : decode cX0_fall 28 = .ok (.return_, 1) := by decide +kernel
set_option maxRecDepth 20000 in
theorem ggX0_look_X1_kindAt : GoodIn wsX0_look wsX1_kindAt := goodIn_r _ [8, 9, 10, 11, 21, 22, 23, 24, 25, 26, 27, 28, 29, 30] (by decide +kernel) (by decide +kernel)
set_option maxRecDepth 20000 in
theorem gX0_look_X1_kindAt : GoodIn wsX0_look (wsV RX0 33 RX1 yX1_kindAt wsX1_kindAt) := goodIn_app (goodIn_of _ (by decide +kernel)) ggX0_look_X1_kindAt
set_option maxRecDepth 20000 in
theorem ggX0_look_X1_flagAt : GoodIn wsX0_look wsX1_flagAt := goodIn_r _ [15, 16, 17, 21, 22, 23, 24, 25, 26, 27, 28, 29, 30] (by decide +kernel) (by decide +kernel)
set_option maxRecDepth 20000 in
theorem gX0_look_X1_flagAt : GoodIn wsX0_look (wsV RX0 52 RX1 yX1_flagAt wsX1_flagAt) := goodIn_app (goodIn_of _ (by decide +kernel)) ggX0_look_X1_flagAt
theorem dX0_look_0 : decode cX0_look 0 = .ok (.aload_n 1, 1) := by decide +kernel
theorem dX0_look_1 : decode cX0_look 1 = .ok (.aload_n 0, 1) := by decide +kernel
theorem dX0_look_2 : decode cX0_look 2 = .ok (.getfield 9, 3) := by decide +kernel
theorem dX0_look_5 : decode cX0_look 5 = .ok (.aload_n 0, 1) := by decide +kernel
theorem dX0_look_6 : decode cX0_look 6 = .ok (.getfield 15, 3) := by decide +kernel
theorem dX0_look_9 : decode cX0_look 9 = .ok (.invokevirtual 33, 3) := by decide +kernel
theorem dX0_look_12 : decode cX0_look 12 = .ok (.istore_n 2, 1) := by decide +kernel
theorem dX0_look_13 : decode cX0_look 13 = .ok (.iload_n 2, 1) := by decide +kernel
theorem dX0_look_14 : decode cX0_look 14 = .ok (.iconst (-1), 1) := by decide +kernel
theorem dX0_look_15 : decode cX0_look 15 = .ok (.if_icmp .eq 8, 3) := by decide +kernel
theorem dX0_look_18 : decode cX0_look 18 = .ok (.iload_n 2, 1) := by decide +kernel
theorem dX0_look_19 : decode cX0_look 19 = .ok (.iconst 2, 1) := by decide +kernel
theorem dX0_look_20 : decode cX0_look 20 = .ok (.if_icmp .ne 5, 3) := by decide +kernel
theorem dX0_look_23 : decode cX0_look 23 = .ok (.iconst 1, 1) := by decide +kernel
theorem dX0_look_24 : decode cX0_look 24 = .ok (.ireturn, 1) := by decide +kernel
theorem dX0_look_25 : decode cX0_look 25 = .ok (.iload_n 2, 1) := by decide +kernel
theorem dX0_look_26 : decode cX0_look 26 = .ok (.iconst 3, 1) := by decide +kernel
theorem dX0_look_27 : decode cX0_look 27 = .ok (.if_icmp .ne 8, 3) := by decide +kernel
theorem dX0_look_30 : decode cX0_look 30 = .ok (.aload_n 0, 1) := by decide +kernel
theorem dX0_look_31 : decode cX0_look 31 = .ok (.iconst 4, 1) := by decide +kernel
theorem dX0_look_32 : decode cX0_look 32 = .ok (.putfield 18, 3) := by decide +kernel
theorem dX0_look_35 : decode cX0_look 35 = .ok (.aload_n 1, 1) := by decide +kernel
theorem dX0_look_36 : decode cX0_look 36 = .ok (.aload_n 0, 1) := by decide +kernel
theorem dX0_look_37 : decode cX0_look 37 = .ok (.getfield 9, 3) := by decide +kernel
theorem dX0_look_40 : decode cX0_look 40 = .ok (.aload_n 0, 1) := by decide +kernel
theorem dX0_look_41 : decode cX0_look 41 = .ok (.getfield 15, 3) := by decide +kernel
theorem dX0_look_44 : decode cX0_look 44 = .ok (.invokevirtual 52, 3) := by decide +kernel
theorem dX0_look_47 : decode cX0_look 47 = .ok (.ifCond .eq 7, 3) := by decide +kernel
theorem dX0_look_50 : decode cX0_look 50 = .ok (.iconst 2, 1) := by decide +kernel
theorem dX0_look_51 : decode cX0_look 51 = .ok (.goto 4, 3) := by decide +kernel
theorem dX0_look_54 : decode cX0_look 54 = .ok (.iconst 0, 1) := by decide +kernel
theorem dX0_look_55 : decode cX0_look 55 = .ok (.ireturn, 1) := by decide +kernel
set_option maxRecDepth 20000 in
theorem ggX1_init_X1_put : GoodIn wsX1_init wsX1_put := goodIn_r _ [22, 7, 23, 24, 25, 21, 26, 4, 5, 34, 35, 36, 37, 38, 39, 40, 41, 42, 43] (by decide +kernel) (by decide +kernel)
set_option maxRecDepth 20000 in
theorem gX1_init_X1_put : GoodIn wsX1_init (wsV RX1 22 RX1 yX1_put wsX1_put) := goodIn_app (goodIn_of _ (by decide +kernel)) ggX1_init_X1_put
set_option maxRecDepth 20000 in
theorem ggX1_init_X4_init : GoodIn wsX1_init wsX4_init := goodIn_r _ [29, 30, 2, 3, 6, 31, 32, 33, 44, 45, 46] (by decide +kernel) (by decide +kernel)
set_option maxRecDepth 20000 in
theorem gX1_init_X4_init : GoodIn wsX1_init (wsX4_init) := ggX1_init_X4_init
theorem dX1_init_0 : decode cX1_init 0 = .ok (.aload_n 0, 1) := by decide +kernel
theorem dX1_init_1 : decode cX1_init 1 = .ok (.invokespecial 3, 3) := by decide +kernel
theorem dX1_init_4 : decode cX1_init 4 = .ok (.aload_n 0, 1) := by decide +kernel
theorem dX1_init_5 : decode cX1_init 5 = .ok (.iload_n 1, 1) := by decide +kernel
theorem dX1_init_6 : decode cX1_init 6 = .ok (.putfield 9, 3) := by decide +kernel
theorem dX1_init_9 : decode cX1_init 9 = .ok (.aload_n 0, 1) := by decide +kernel
theorem dX1_init_10 : decode cX1_init 10 = .ok (.iload_n 2, 1) := by decide +kernel
theorem dX1_init_11 : decode cX1_init 11 = .ok (.putfield 15, 3) := by decide +kernel
theorem dX1_init_14 : decode cX1_init 14 = .ok (.aload_n 0, 1) := by decide +kernel
theorem dX1_init_15 : decode cX1_init 15 = .ok (.bipush 96, 2) := by decide +kernel
theorem dX1_init_17 : decode cX1_init 17 = .ok (.newarray .int, 2) := by decide +kernel
theorem dX1_init_19 : decode cX1_init 19 = .ok (.putfield 18, 3) := by decide +kernel
theorem dX1_init_22 : decode cX1_init 22 = .ok (.iconst 0, 1) := by decide +kernel
theorem dX1_init_23 : decode cX1_init 23 = .ok (.istore_n 3, 1) := by decide +kernel
theorem dX1_init_24 : decode cX1_init 24 = .ok (.iload_n 3, 1) := by decide +kernel
theorem dX1_init_25 : decode cX1_init 25 = .ok (.iload_n 1, 1) := by decide +kernel
theorem dX1_init_26 : decode cX1_init 26 = .ok (.if_icmp .ge 18, 3) := by decide +kernel
theorem dX1_init_29 : decode cX1_init 29 = .ok (.aload_n 0, 1) := by decide +kernel
theorem dX1_init_30 : decode cX1_init 30 = .ok (.iload_n 3, 1) := by decide +kernel
theorem dX1_init_31 : decode cX1_init 31 = .ok (.iload_n 2, 1) := by decide +kernel
theorem dX1_init_32 : decode cX1_init 32 = .ok (.iconst 1, 1) := by decide +kernel
theorem dX1_init_33 : decode cX1_init 33 = .ok (.isub, 1) := by decide +kernel
theorem dX1_init_34 : decode cX1_init 34 = .ok (.iconst 1, 1) := by decide +kernel
theorem dX1_init_35 : decode cX1_init 35 = .ok (.invokevirtual 22, 3) := by decide +kernel
theorem dX1_init_38 : decode cX1_init 38 = .ok (.iinc 3 1, 3) := by decide +kernel
theorem dX1_init_41 : decode cX1_init 41 = .ok (.goto (-17), 3) := by decide +kernel
theorem dX1_init_44 : decode cX1_init 44 = .ok (.aload_n 0, 1) := by decide +kernel
theorem dX1_init_45 : decode cX1_init 45 = .ok (.iconst 4, 1) := by decide +kernel
theorem dX1_init_46 : decode cX1_init 46 = .ok (.anewarray 26, 3) := by decide +kernel
theorem dX1_init_49 : decode cX1_init 49 = .ok (.putfield 28, 3) := by decide +kernel
theorem dX1_init_52 : decode cX1_init 52 = .ok (.iconst 0, 1) := by decide +kernel
theorem dX1_init_53 : decode cX1_init 53 = .ok (.istore_n 3, 1) := by decide +kernel
theorem dX1_init_54 : decode cX1_init 54 = .ok (.iload_n 3, 1) := by decide +kernel
theorem dX1_init_55 : decode cX1_init 55 = .ok (.iconst 4, 1) := by decide +kernel
theorem dX1_init_56 : decode cX1_init 56 = .ok (.if_icmp .ge 22, 3) := by decide +kernel
theorem dX1_init_59 : decode cX1_init 59 = .ok (.aload_n 0, 1) := by decide +kernel
theorem dX1_init_60 : decode cX1_init 60 = .ok (.getfield 28, 3) := by decide +kernel
theorem dX1_init_63 : decode cX1_init 63 = .ok (.iload_n 3, 1) := by decide +kernel
theorem dX1_init_64 : decode cX1_init 64 = .ok (.new 26, 3) := by decide +kernel
theorem dX1_init_67 : decode cX1_init 67 = .ok (.dup, 1) := by decide +kernel
theorem dX1_init_68 : decode cX1_init 68 = .ok (.invokespecial 32, 3) := by decide +kernel
theorem dX1_init_71 : decode cX1_init 71 = .ok (.aastore, 1) := by decide +kernel
theorem dX1_init_72 : decode cX1_init 72 = .ok (.iinc 3 1, 3) := by decide +kernel
theorem dX1_init_75 : decode cX1_init 75 = .ok (.goto (-21), 3) := by decide +kernel
theorem dX1_init_78 : decode cX1_init 78 = .ok (.aload_n 0, 1) := by decide +kernel
theorem dX1_init_79 : decode cX1_init 79 = .ok (.iconst 0, 1) := by decide +kernel
theorem dX1_init_80 : decode cX1_init 80 = .ok (.putfield 33, 3) := by decide +kernel
theorem dX1_init_83 : decode cX1_init 83 = .ok (.aload_n 0, 1) := by decide +kernel
theorem dX1_init_84 : decode cX1_init 84 = .ok (.iload_n 2, 1) := by decide +kernel
theorem dX1_init_85 : decode cX1_init 85 = .ok (.iconst 2, 1) := by decide +kernel
theorem dX1_init_86 : decode cX1_init 86 = .ok (.isub, 1) := by decide +kernel
theorem dX1_init_87 : decode cX1_init 87 = .ok (.putfield 36, 3) := by decide +kernel
theorem dX1_init_90 : decode cX1_init 90 = .ok (.aload_n 0, 1) := by decide +kernel
theorem dX1_init_91 : decode cX1_init 91 = .ok (.iload_n 1, 1) := by decide +kernel
theorem dX1_init_92 : decode cX1_init 92 = .ok (.iconst 1, 1) := by decide +kernel
theorem dX1_init_93 : decode cX1_init 93 = .ok (.isub, 1) := by decide +kernel
theorem dX1_init_94 : decode cX1_init 94 = .ok (.putfield 39, 3) := by decide +kernel
theorem dX1_init_97 : decode cX1_init 97 = .ok (.aload_n 0, 1) := by decide +kernel
theorem dX1_init_98 : decode cX1_init 98 = .ok (.iload_n 2, 1) := by decide +kernel
theorem dX1_init_99 : decode cX1_init 99 = .ok (.iconst 2, 1) := by decide +kernel
theorem dX1_init_100 : decode cX1_init 100 = .ok (.isub, 1) := by decide +kernel
theorem dX1_init_101 : decode cX1_init 101 = .ok (.putfield 42, 3) := by decide +kernel
theorem dX1_init_104 : decode cX1_init 104 = .ok (.aload_n 0, 1) := by decide +kernel
theorem dX1_init_105 : decode cX1_init 105 = .ok (.iconst (-1), 1) := by decide +kernel
theorem dX1_init_106 : decode cX1_init 106 = .ok (.putfield 45, 3) := by decide +kernel
theorem dX1_init_109 : decode cX1_init 109 = .ok (.aload_n 0, 1) := by decide +kernel
theorem dX1_init_110 : decode cX1_init 110 = .ok (.iconst 0, 1) := by decide +kernel
theorem dX1_init_111 : decode cX1_init 111 = .ok (.putfield 48, 3) := by decide +kernel
theorem dX1_init_114 : decode cX1_init 114 = .ok (.return_, 1) := by decide +kernel
theorem dX1_kindAt_0 : decode cX1_kindAt 0 = .ok (.iload_n 1, 1) := by decide +kernel
theorem dX1_kindAt_1 : decode cX1_kindAt 1 = .ok (.ifCond .lt 27, 3) := by decide +kernel
theorem dX1_kindAt_4 : decode cX1_kindAt 4 = .ok (.iload_n 1, 1) := by decide +kernel
theorem dX1_kindAt_5 : decode cX1_kindAt 5 = .ok (.aload_n 0, 1) := by decide +kernel
theorem dX1_kindAt_6 : decode cX1_kindAt 6 = .ok (.getfield 9, 3) := by decide +kernel
theorem dX1_kindAt_9 : decode cX1_kindAt 9 = .ok (.if_icmp .ge 19, 3) := by decide +kernel
theorem dX1_kindAt_12 : decode cX1_kindAt 12 = .ok (.iload_n 2, 1) := by decide +kernel
theorem dX1_kindAt_13 : decode cX1_kindAt 13 = .ok (.ifCond .lt 15, 3) := by decide +kernel
theorem dX1_kindAt_16 : decode cX1_kindAt 16 = .ok (.iload_n 2, 1) := by decide +kernel
theorem dX1_kindAt_17 : decode cX1_kindAt 17 = .ok (.aload_n 0, 1) := by decide +kernel
theorem dX1_kindAt_18 : decode cX1_kindAt 18 = .ok (.getfield 15, 3) := by decide +kernel
theorem dX1_kindAt_21 : decode cX1_kindAt 21 = .ok (.if_icmp .ge 7, 3) := by decide +kernel
theorem dX1_kindAt_24 : decode cX1_kindAt 24 = .ok (.iconst 1, 1) := by decide +kernel
theorem dX1_kindAt_25 : decode cX1_kindAt 25 = .ok (.goto 4, 3) := by decide +kernel
theorem dX1_kindAt_28 : decode cX1_kindAt 28 = .ok (.iconst 0, 1) := by decide +kernel
theorem dX1_kindAt_29 : decode cX1_kindAt 29 = .ok (.istore_n 3, 1) := by decide +kernel
theorem dX1_kindAt_30 : decode cX1_kindAt 30 = .ok (.iload_n 3, 1) := by decide +kernel
theorem dX1_kindAt_31 : decode cX1_kindAt 31 = .ok (.ifCond .eq 17, 3) := by decide +kernel
theorem dX1_kindAt_34 : decode cX1_kindAt 34 = .ok (.aload_n 0, 1) := by decide +kernel
theorem dX1_kindAt_35 : decode cX1_kindAt 35 = .ok (.getfield 18, 3) := by decide +kernel
theorem dX1_kindAt_38 : decode cX1_kindAt 38 = .ok (.iload_n 2, 1) := by decide +kernel
theorem dX1_kindAt_39 : decode cX1_kindAt 39 = .ok (.bipush 12, 2) := by decide +kernel
theorem dX1_kindAt_41 : decode cX1_kindAt 41 = .ok (.imul, 1) := by decide +kernel
theorem dX1_kindAt_42 : decode cX1_kindAt 42 = .ok (.iload_n 1, 1) := by decide +kernel
theorem dX1_kindAt_43 : decode cX1_kindAt 43 = .ok (.iadd, 1) := by decide +kernel
theorem dX1_kindAt_44 : decode cX1_kindAt 44 = .ok (.iaload, 1) := by decide +kernel
theorem dX1_kindAt_45 : decode cX1_kindAt 45 = .ok (.goto 4, 3) := by decide +kernel
theorem dX1_kindAt_48 : decode cX1_kindAt 48 = .ok (.iconst (-1), 1) := by decide +kernel
theorem dX1_kindAt_49 : decode cX1_kindAt 49 = .ok (.ireturn, 1) := by decide +kernel
set_option maxRecDepth 20000 in
theorem ggX1_put_X1_kindAt : GoodIn wsX1_put wsX1_kindAt := goodIn_r _ [6, 7, 8, 1, 9, 10, 11, 12, 13, 14, 15, 16, 17, 18] (by decide +kernel) (by decide +kernel)
set_option maxRecDepth 20000 in
theorem gX1_put_X1_kindAt : GoodIn wsX1_put (wsV RX1 52 RX1 yX1_kindAt wsX1_kindAt) := goodIn_app (goodIn_of _ (by decide +kernel)) ggX1_put_X1_kindAt
theorem dX1_put_0 : decode cX1_put 0 = .ok (.aload_n 0, 1) := by decide +kernel
theorem dX1_put_1 : decode cX1_put 1 = .ok (.iload_n 1, 1) := by decide +kernel
theorem dX1_put_2 : decode cX1_put 2 = .ok (.iload_n 2, 1) := by decide +kernel
theorem dX1_put_3 : decode cX1_put 3 = .ok (.invokevirtual 52, 3) := by decide +kernel
theorem dX1_put_6 : decode cX1_put 6 = .ok (.iconst (-1), 1) := by decide +kernel
theorem dX1_put_7 : decode cX1_put 7 = .ok (.if_icmp .eq 15, 3) := by decide +kernel
theorem dX1_put_10 : decode cX1_put 10 = .ok (.aload_n 0, 1) := by decide +kernel
theorem dX1_put_11 : decode cX1_put 11 = .ok (.getfield 18, 3) := by decide +kernel
theorem dX1_put_14 : decode cX1_put 14 = .ok (.iload_n 2, 1) := by decide +kernel
theorem dX1_put_15 : decode cX1_put 15 = .ok (.bipush 12, 2) := by decide +kernel
theorem dX1_put_17 : decode cX1_put 17 = .ok (.imul, 1) := by decide +kernel
theorem dX1_put_18 : decode cX1_put 18 = .ok (.iload_n 1, 1) := by decide +kernel
theorem dX1_put_19 : decode cX1_put 19 = .ok (.iadd, 1) := by decide +kernel
theorem dX1_put_20 : decode cX1_put 20 = .ok (.iload_n 3, 1) := by decide +kernel
theorem dX1_put_21 : decode cX1_put 21 = .ok (.iastore, 1) := by decide +kernel
theorem dX1_put_22 : decode cX1_put 22 = .ok (.return_, 1) := by decide +kernel
theorem dX1_startsAt_0 : decode cX1_startsAt 0 = .ok (.iload_n 1, 1) := by decide +kernel
theorem dX1_startsAt_1 : decode cX1_startsAt 1 = .ok (.aload_n 0, 1) := by decide +kernel
theorem dX1_startsAt_2 : decode cX1_startsAt 2 = .ok (.getfield 33, 3) := by decide +kernel
theorem dX1_startsAt_5 : decode cX1_startsAt 5 = .ok (.if_icmp .ne 15, 3) := by decide +kernel
theorem dX1_startsAt_8 : decode cX1_startsAt 8 = .ok (.iload_n 2, 1) := by decide +kernel
theorem dX1_startsAt_9 : decode cX1_startsAt 9 = .ok (.aload_n 0, 1) := by decide +kernel
theorem dX1_startsAt_10 : decode cX1_startsAt 10 = .ok (.getfield 36, 3) := by decide +kernel
theorem dX1_startsAt_13 : decode cX1_startsAt 13 = .ok (.if_icmp .ne 7, 3) := by decide +kernel
theorem dX1_startsAt_16 : decode cX1_startsAt 16 = .ok (.iconst 1, 1) := by decide +kernel
theorem dX1_startsAt_17 : decode cX1_startsAt 17 = .ok (.goto 4, 3) := by decide +kernel
theorem dX1_startsAt_20 : decode cX1_startsAt 20 = .ok (.iconst 0, 1) := by decide +kernel
theorem dX1_startsAt_21 : decode cX1_startsAt 21 = .ok (.ireturn, 1) := by decide +kernel
theorem dX1_flagAt_0 : decode cX1_flagAt 0 = .ok (.iload_n 1, 1) := by decide +kernel
theorem dX1_flagAt_1 : decode cX1_flagAt 1 = .ok (.aload_n 0, 1) := by decide +kernel
theorem dX1_flagAt_2 : decode cX1_flagAt 2 = .ok (.getfield 39, 3) := by decide +kernel
theorem dX1_flagAt_5 : decode cX1_flagAt 5 = .ok (.if_icmp .ne 15, 3) := by decide +kernel
theorem dX1_flagAt_8 : decode cX1_flagAt 8 = .ok (.iload_n 2, 1) := by decide +kernel
theorem dX1_flagAt_9 : decode cX1_flagAt 9 = .ok (.aload_n 0, 1) := by decide +kernel
theorem dX1_flagAt_10 : decode cX1_flagAt 10 = .ok (.getfield 42, 3) := by decide +kernel
theorem dX1_flagAt_13 : decode cX1_flagAt 13 = .ok (.if_icmp .ne 7, 3) := by decide +kernel
theorem dX1_flagAt_16 : decode cX1_flagAt 16 = .ok (.iconst 1, 1) := by decide +kernel
theorem dX1_flagAt_17 : decode cX1_flagAt 17 = .ok (.goto 4, 3) := by decide +kernel
theorem dX1_flagAt_20 : decode cX1_flagAt 20 = .ok (.iconst 0, 1) := by decide +kernel
theorem dX1_flagAt_21 : decode cX1_flagAt 21 = .ok (.ireturn, 1) := by decide +kernel
set_option maxRecDepth 20000 in
theorem ggX1_fillBySeed_X1_kindGrownFrom : GoodIn wsX1_fillBySeed wsX1_kindGrownFrom := goodIn_r _ [11] (by decide +kernel) (by decide +kernel)
set_option maxRecDepth 20000 in
theorem gX1_fillBySeed_X1_kindGrownFrom : GoodIn wsX1_fillBySeed (va_wsS RX1 57 yX1_kindGrownFrom wsX1_kindGrownFrom) := goodIn_app (goodIn_of _ (by decide +kernel)) ggX1_fillBySeed_X1_kindGrownFrom
set_option maxRecDepth 20000 in
theorem ggX1_fillBySeed_X1_put : GoodIn wsX1_fillBySeed wsX1_put := goodIn_r _ [15, 16, 17, 18, 19, 10, 20, 2, 1, 21, 22, 23, 24, 25, 26, 27, 28, 29, 30] (by decide +kernel) (by decide +kernel)
set_option maxRecDepth 20000 in
theorem gX1_fillBySeed_X1_put : GoodIn wsX1_fillBySeed (wsV RX1 22 RX1 yX1_put wsX1_put) := goodIn_app (goodIn_of _ (by decide +kernel)) ggX1_fillBySeed_X1_put
theorem dX1_fillBySeed_0 : decode cX1_fillBySeed 0 = .ok (.iload_n 1, 1) := by decide +kernel
theorem dX1_fillBySeed_1 : decode cX1_fillBySeed 1 = .ok (.istore_n 2, 1) := by decide +kernel
theorem dX1_fillBySeed_2 : decode cX1_fillBySeed 2 = .ok (.iconst 0, 1) := by decide +kernel
theorem dX1_fillBySeed_3 : decode cX1_fillBySeed 3 = .ok (.istore_n 3, 1) := by decide +kernel
theorem dX1_fillBySeed_4 : decode cX1_fillBySeed 4 = .ok (.iload_n 3, 1) := by decide +kernel
theorem dX1_fillBySeed_5 : decode cX1_fillBySeed 5 = .ok (.aload_n 0, 1) := by decide +kernel
theorem dX1_fillBySeed_6 : decode cX1_fillBySeed 6 = .ok (.getfield 15, 3) := by decide +kernel
theorem dX1_fillBySeed_9 : decode cX1_fillBySeed 9 = .ok (.if_icmp .ge 71, 3) := by decide +kernel
theorem dX1_fillBySeed_12 : decode cX1_fillBySeed 12 = .ok (.iconst 0, 1) := by decide +kernel
theorem dX1_fillBySeed_13 : decode cX1_fillBySeed 13 = .ok (.istore 4, 2) := by decide +kernel
theorem dX1_fillBySeed_15 : decode cX1_fillBySeed 15 = .ok (.iload 4, 2) := by decide +kernel
theorem dX1_fillBySeed_17 : decode cX1_fillBySeed 17 = .ok (.aload_n 0, 1) := by decide +kernel
theorem dX1_fillBySeed_18 : decode cX1_fillBySeed 18 = .ok (.getfield 9, 3) := by decide +kernel
theorem dX1_fillBySeed_21 : decode cX1_fillBySeed 21 = .ok (.if_icmp .ge 53, 3) := by decide +kernel
theorem dX1_fillBySeed_24 : decode cX1_fillBySeed 24 = .ok (.iload_n 2, 1) := by decide +kernel
theorem dX1_fillBySeed_25 : decode cX1_fillBySeed 25 = .ok (.sipush 1103, 3) := by decide +kernel
theorem dX1_fillBySeed_28 : decode cX1_fillBySeed 28 = .ok (.imul, 1) := by decide +kernel
theorem dX1_fillBySeed_29 : decode cX1_fillBySeed 29 = .ok (.sipush 12345, 3) := by decide +kernel
theorem dX1_fillBySeed_32 : decode cX1_fillBySeed 32 = .ok (.iadd, 1) := by decide +kernel
theorem dX1_fillBySeed_33 : decode cX1_fillBySeed 33 = .ok (.ldc 56, 2) := by decide +kernel
theorem dX1_fillBySeed_35 : decode cX1_fillBySeed 35 = .ok (.irem, 1) := by decide +kernel
theorem dX1_fillBySeed_36 : decode cX1_fillBySeed 36 = .ok (.istore_n 2, 1) := by decide +kernel
theorem dX1_fillBySeed_37 : decode cX1_fillBySeed 37 = .ok (.aload_n 0, 1) := by decide +kernel
theorem dX1_fillBySeed_38 : decode cX1_fillBySeed 38 = .ok (.iload 4, 2) := by decide +kernel
theorem dX1_fillBySeed_40 : decode cX1_fillBySeed 40 = .ok (.iload_n 3, 1) := by decide +kernel
theorem dX1_fillBySeed_41 : decode cX1_fillBySeed 41 = .ok (.iload_n 3, 1) := by decide +kernel
theorem dX1_fillBySeed_42 : decode cX1_fillBySeed 42 = .ok (.aload_n 0, 1) := by decide +kernel
theorem dX1_fillBySeed_43 : decode cX1_fillBySeed 43 = .ok (.getfield 15, 3) := by decide +kernel
theorem dX1_fillBySeed_46 : decode cX1_fillBySeed 46 = .ok (.iconst 1, 1) := by decide +kernel
theorem dX1_fillBySeed_47 : decode cX1_fillBySeed 47 = .ok (.isub, 1) := by decide +kernel
theorem dX1_fillBySeed_48 : decode cX1_fillBySeed 48 = .ok (.if_icmp .ne 7, 3) := by decide +kernel
theorem dX1_fillBySeed_51 : decode cX1_fillBySeed 51 = .ok (.iconst 1, 1) := by decide +kernel
theorem dX1_fillBySeed_52 : decode cX1_fillBySeed 52 = .ok (.goto 13, 3) := by decide +kernel
theorem dX1_fillBySeed_55 : decode cX1_fillBySeed 55 = .ok (.iload_n 2, 1) := by decide +kernel
theorem dX1_fillBySeed_56 : decode cX1_fillBySeed 56 = .ok (.bipush 16, 2) := by decide +kernel
theorem dX1_fillBySeed_58 : decode cX1_fillBySeed 58 = .ok (.idiv, 1) := by decide +kernel
theorem dX1_fillBySeed_59 : decode cX1_fillBySeed 59 = .ok (.bipush 16, 2) := by decide +kernel
theorem dX1_fillBySeed_61 : decode cX1_fillBySeed 61 = .ok (.irem, 1) := by decide +kernel
theorem dX1_fillBySeed_62 : decode cX1_fillBySeed 62 = .ok (.invokestatic 57, 3) := by decide +kernel
theorem dX1_fillBySeed_65 : decode cX1_fillBySeed 65 = .ok (.invokevirtual 22, 3) := by decide +kernel
theorem dX1_fillBySeed_68 : decode cX1_fillBySeed 68 = .ok (.iinc 4 1, 3) := by decide +kernel
theorem dX1_fillBySeed_71 : decode cX1_fillBySeed 71 = .ok (.goto (-56), 3) := by decide +kernel
theorem dX1_fillBySeed_74 : decode cX1_fillBySeed 74 = .ok (.iinc 3 1, 3) := by decide +kernel
theorem dX1_fillBySeed_77 : decode cX1_fillBySeed 77 = .ok (.goto (-73), 3) := by decide +kernel
theorem dX1_fillBySeed_80 : decode cX1_fillBySeed 80 = .ok (.aload_n 0, 1) := by decide +kernel
theorem dX1_fillBySeed_81 : decode cX1_fillBySeed 81 = .ok (.aload_n 0, 1) := by decide +kernel
theorem dX1_fillBySeed_82 : decode cX1_fillBySeed 82 = .ok (.getfield 33, 3) := by decide +kernel
theorem dX1_fillBySeed_85 : decode cX1_fillBySeed 85 = .ok (.aload_n 0, 1) := by decide +kernel
theorem dX1_fillBySeed_86 : decode cX1_fillBySeed 86 = .ok (.getfield 36, 3) := by decide +kernel
theorem dX1_fillBySeed_89 : decode cX1_fillBySeed 89 = .ok (.iconst 0, 1) := by decide +kernel
theorem dX1_fillBySeed_90 : decode cX1_fillBySeed 90 = .ok (.invokevirtual 22, 3) := by decide +kernel
theorem dX1_fillBySeed_93 : decode cX1_fillBySeed 93 = .ok (.aload_n 0, 1) := by decide +kernel
theorem dX1_fillBySeed_94 : decode cX1_fillBySeed 94 = .ok (.aload_n 0, 1) := by decide +kernel
theorem dX1_fillBySeed_95 : decode cX1_fillBySeed 95 = .ok (.getfield 39, 3) := by decide +kernel
theorem dX1_fillBySeed_98 : decode cX1_fillBySeed 98 = .ok (.aload_n 0, 1) := by decide +kernel
theorem dX1_fillBySeed_99 : decode cX1_fillBySeed 99 = .ok (.getfield 42, 3) := by decide +kernel
theorem dX1_fillBySeed_102 : decode cX1_fillBySeed 102 = .ok (.iconst 0, 1) := by decide +kernel
theorem dX1_fillBySeed_103 : decode cX1_fillBySeed 103 = .ok (.invokevirtual 22, 3) := by decide +kernel
theorem dX1_fillBySeed_106 : decode cX1_fillBySeed 106 = .ok (.return_, 1) := by decide +kernel
theorem dX1_kindGrownFrom_0 : decode cX1_kindGrownFrom 0 = .ok (.iload_n 0, 1) := by decide +kernel
theorem dX1_kindGrownFrom_1 : decode cX1_kindGrownFrom 1 = .ok (.iconst 3, 1) := by decide +kernel
theorem dX1_kindGrownFrom_2 : decode cX1_kindGrownFrom 2 = .ok (.if_icmp .gt 5, 3) := by decide +kernel
theorem dX1_kindGrownFrom_5 : decode cX1_kindGrownFrom 5 = .ok (.iconst 1, 1) := by decide +kernel
theorem dX1_kindGrownFrom_6 : decode cX1_kindGrownFrom 6 = .ok (.ireturn, 1) := by decide +kernel
theorem dX1_kindGrownFrom_7 : decode cX1_kindGrownFrom 7 = .ok (.iload_n 0, 1) := by decide +kernel
theorem dX1_kindGrownFrom_8 : decode cX1_kindGrownFrom 8 = .ok (.iconst 4, 1) := by decide +kernel
theorem dX1_kindGrownFrom_9 : decode cX1_kindGrownFrom 9 = .ok (.if_icmp .ne 5, 3) := by decide +kernel
theorem dX1_kindGrownFrom_12 : decode cX1_kindGrownFrom 12 = .ok (.iconst 2, 1) := by decide +kernel
theorem dX1_kindGrownFrom_13 : decode cX1_kindGrownFrom 13 = .ok (.ireturn, 1) := by decide +kernel
theorem dX1_kindGrownFrom_14 : decode cX1_kindGrownFrom 14 = .ok (.iload_n 0, 1) := by decide +kernel
theorem dX1_kindGrownFrom_15 : decode cX1_kindGrownFrom 15 = .ok (.iconst 5, 1) := by decide +kernel
theorem dX1_kindGrownFrom_16 : decode cX1_kindGrownFrom 16 = .ok (.if_icmp .ne 7, 3) := by decide +kernel
theorem dX1_kindGrownFrom_19 : decode cX1_kindGrownFrom 19 = .ok (.iconst 3, 1) := by decide +kernel
theorem dX1_kindGrownFrom_20 : decode cX1_kindGrownFrom 20 = .ok (.goto 4, 3) := by decide +kernel
theorem dX1_kindGrownFrom_23 : decode cX1_kindGrownFrom 23 = .ok (.iconst 0, 1) := by decide +kernel
theorem dX1_kindGrownFrom_24 : decode cX1_kindGrownFrom 24 = .ok (.ireturn, 1) := by decide +kernel
set_option maxRecDepth 20000 in
theorem ggX1_countBlocks_X1_kindAt : GoodIn wsX1_countBlocks wsX1_kindAt := goodIn_r _ [7, 2, 1, 8, 9, 10, 11, 12, 13, 14, 15, 16, 17, 18] (by decide +kernel) (by decide +kernel)
set_option maxRecDepth 20000 in
theorem gX1_countBlocks_X1_kindAt : GoodIn wsX1_countBlocks (wsV RX1 52 RX1 yX1_kindAt wsX1_kindAt) := goodIn_app (goodIn_of _ (by decide +kernel)) ggX1_countBlocks_X1_kindAt
theorem dX1_countBlocks_0 : decode cX1_countBlocks 0 = .ok (.iconst 0, 1) := by decide +kernel
theorem dX1_countBlocks_1 : decode cX1_countBlocks 1 = .ok (.istore_n 1, 1) := by decide +kernel
theorem dX1_countBlocks_2 : decode cX1_countBlocks 2 = .ok (.iconst 0, 1) := by decide +kernel
theorem dX1_countBlocks_3 : decode cX1_countBlocks 3 = .ok (.istore_n 2, 1) := by decide +kernel
theorem dX1_countBlocks_4 : decode cX1_countBlocks 4 = .ok (.iload_n 2, 1) := by decide +kernel
theorem dX1_countBlocks_5 : decode cX1_countBlocks 5 = .ok (.aload_n 0, 1) := by decide +kernel
theorem dX1_countBlocks_6 : decode cX1_countBlocks 6 = .ok (.getfield 15, 3) := by decide +kernel
theorem dX1_countBlocks_9 : decode cX1_countBlocks 9 = .ok (.if_icmp .ge 38, 3) := by decide +kernel
theorem dX1_countBlocks_12 : decode cX1_countBlocks 12 = .ok (.iconst 0, 1) := by decide +kernel
theorem dX1_countBlocks_13 : decode cX1_countBlocks 13 = .ok (.istore_n 3, 1) := by decide +kernel
theorem dX1_countBlocks_14 : decode cX1_countBlocks 14 = .ok (.iload_n 3, 1) := by decide +kernel
theorem dX1_countBlocks_15 : decode cX1_countBlocks 15 = .ok (.aload_n 0, 1) := by decide +kernel
theorem dX1_countBlocks_16 : decode cX1_countBlocks 16 = .ok (.getfield 9, 3) := by decide +kernel
theorem dX1_countBlocks_19 : decode cX1_countBlocks 19 = .ok (.if_icmp .ge 22, 3) := by decide +kernel
theorem dX1_countBlocks_22 : decode cX1_countBlocks 22 = .ok (.aload_n 0, 1) := by decide +kernel
theorem dX1_countBlocks_23 : decode cX1_countBlocks 23 = .ok (.iload_n 3, 1) := by decide +kernel
theorem dX1_countBlocks_24 : decode cX1_countBlocks 24 = .ok (.iload_n 2, 1) := by decide +kernel
theorem dX1_countBlocks_25 : decode cX1_countBlocks 25 = .ok (.invokevirtual 52, 3) := by decide +kernel
theorem dX1_countBlocks_28 : decode cX1_countBlocks 28 = .ok (.iconst 1, 1) := by decide +kernel
theorem dX1_countBlocks_29 : decode cX1_countBlocks 29 = .ok (.if_icmp .ne 6, 3) := by decide +kernel
theorem dX1_countBlocks_32 : decode cX1_countBlocks 32 = .ok (.iinc 1 1, 3) := by decide +kernel
theorem dX1_countBlocks_35 : decode cX1_countBlocks 35 = .ok (.iinc 3 1, 3) := by decide +kernel
theorem dX1_countBlocks_38 : decode cX1_countBlocks 38 = .ok (.goto (-24), 3) := by decide +kernel
theorem dX1_countBlocks_41 : decode cX1_countBlocks 41 = .ok (.iinc 2 1, 3) := by decide +kernel
theorem dX1_countBlocks_44 : decode cX1_countBlocks 44 = .ok (.goto (-40), 3) := by decide +kernel
theorem dX1_countBlocks_47 : decode cX1_countBlocks 47 = .ok (.iload_n 1, 1) := by decide +kernel
theorem dX1_countBlocks_48 : decode cX1_countBlocks 48 = .ok (.ireturn, 1) := by decide +kernel
set_option maxRecDepth 20000 in
theorem ggX1_forgetWayAndRecords_X4_clear : GoodIn wsX1_forgetWayAndRecords wsX4_clear := goodIn_r _ [8, 9, 10, 21, 22, 23] (by decide +kernel) (by decide +kernel)
set_option maxRecDepth 20000 in
theorem gX1_forgetWayAndRecords_X4_clear : GoodIn wsX1_forgetWayAndRecords (wsV RX1 61 RX4 yX4_clear wsX4_clear) := goodIn_app (goodIn_of _ (by decide +kernel)) ggX1_forgetWayAndRecords_X4_clear
theorem dX1_forgetWayAndRecords_0 : decode cX1_forgetWayAndRecords 0 = .ok (.aload_n 0, 1) := by decide +kernel
theorem dX1_forgetWayAndRecords_1 : decode cX1_forgetWayAndRecords 1 = .ok (.iconst (-1), 1) := by decide +kernel
theorem dX1_forgetWayAndRecords_2 : decode cX1_forgetWayAndRecords 2 = .ok (.putfield 45, 3) := by decide +kernel
theorem dX1_forgetWayAndRecords_5 : decode cX1_forgetWayAndRecords 5 = .ok (.aload_n 0, 1) := by decide +kernel
theorem dX1_forgetWayAndRecords_6 : decode cX1_forgetWayAndRecords 6 = .ok (.iconst 0, 1) := by decide +kernel
theorem dX1_forgetWayAndRecords_7 : decode cX1_forgetWayAndRecords 7 = .ok (.putfield 48, 3) := by decide +kernel
theorem dX1_forgetWayAndRecords_10 : decode cX1_forgetWayAndRecords 10 = .ok (.aload_n 0, 1) := by decide +kernel
theorem dX1_forgetWayAndRecords_11 : decode cX1_forgetWayAndRecords 11 = .ok (.getfield 28, 3) := by decide +kernel
theorem dX1_forgetWayAndRecords_14 : decode cX1_forgetWayAndRecords 14 = .ok (.astore_n 1, 1) := by decide +kernel
theorem dX1_forgetWayAndRecords_15 : decode cX1_forgetWayAndRecords 15 = .ok (.aload_n 1, 1) := by decide +kernel
theorem dX1_forgetWayAndRecords_16 : decode cX1_forgetWayAndRecords 16 = .ok (.arraylength, 1) := by decide +kernel
theorem dX1_forgetWayAndRecords_17 : decode cX1_forgetWayAndRecords 17 = .ok (.istore_n 2, 1) := by decide +kernel
theorem dX1_forgetWayAndRecords_18 : decode cX1_forgetWayAndRecords 18 = .ok (.iconst 0, 1) := by decide +kernel
theorem dX1_forgetWayAndRecords_19 : decode cX1_forgetWayAndRecords 19 = .ok (.istore_n 3, 1) := by decide +kernel
theorem dX1_forgetWayAndRecords_20 : decode cX1_forgetWayAndRecords 20 = .ok (.iload_n 3, 1) := by decide +kernel
theorem dX1_forgetWayAndRecords_21 : decode cX1_forgetWayAndRecords 21 = .ok (.iload_n 2, 1) := by decide +kernel
theorem dX1_forgetWayAndRecords_22 : decode cX1_forgetWayAndRecords 22 = .ok (.if_icmp .ge 19, 3) := by decide +kernel
theorem dX1_forgetWayAndRecords_25 : decode cX1_forgetWayAndRecords 25 = .ok (.aload_n 1, 1) := by decide +kernel
theorem dX1_forgetWayAndRecords_26 : decode cX1_forgetWayAndRecords 26 = .ok (.iload_n 3, 1) := by decide +kernel
theorem dX1_forgetWayAndRecords_27 : decode cX1_forgetWayAndRecords 27 = .ok (.aaload, 1) := by decide +kernel
theorem dX1_forgetWayAndRecords_28 : decode cX1_forgetWayAndRecords 28 = .ok (.astore 4, 2) := by decide +kernel
theorem dX1_forgetWayAndRecords_30 : decode cX1_forgetWayAndRecords 30 = .ok (.aload 4, 2) := by decide +kernel
theorem dX1_forgetWayAndRecords_32 : decode cX1_forgetWayAndRecords 32 = .ok (.invokevirtual 61, 3) := by decide +kernel
theorem dX1_forgetWayAndRecords_35 : decode cX1_forgetWayAndRecords 35 = .ok (.iinc 3 1, 3) := by decide +kernel
theorem dX1_forgetWayAndRecords_38 : decode cX1_forgetWayAndRecords 38 = .ok (.goto (-18), 3) := by decide +kernel
theorem dX1_forgetWayAndRecords_41 : decode cX1_forgetWayAndRecords 41 = .ok (.return_, 1) := by decide +kernel
theorem dX1_tapeOf_0 : decode cX1_tapeOf 0 = .ok (.iload_n 1, 1) := by decide +kernel
theorem dX1_tapeOf_1 : decode cX1_tapeOf 1 = .ok (.ifCond .lt 12, 3) := by decide +kernel
theorem dX1_tapeOf_4 : decode cX1_tapeOf 4 = .ok (.iload_n 1, 1) := by decide +kernel
theorem dX1_tapeOf_5 : decode cX1_tapeOf 5 = .ok (.aload_n 0, 1) := by decide +kernel
theorem dX1_tapeOf_6 : decode cX1_tapeOf 6 = .ok (.getfield 28, 3) := by decide +kernel
theorem dX1_tapeOf_9 : decode cX1_tapeOf 9 = .ok (.arraylength, 1) := by decide +kernel
theorem dX1_tapeOf_10 : decode cX1_tapeOf 10 = .ok (.if_icmp .lt 7, 3) := by decide +kernel
theorem dX1_tapeOf_13 : decode cX1_tapeOf 13 = .ok (.aconst_null, 1) := by decide +kernel
theorem dX1_tapeOf_14 : decode cX1_tapeOf 14 = .ok (.goto 9, 3) := by decide +kernel
theorem dX1_tapeOf_17 : decode cX1_tapeOf 17 = .ok (.aload_n 0, 1) := by decide +kernel
theorem dX1_tapeOf_18 : decode cX1_tapeOf 18 = .ok (.getfield 28, 3) := by decide +kernel
theorem dX1_tapeOf_21 : decode cX1_tapeOf 21 = .ok (.iload_n 1, 1) := by decide +kernel
theorem dX1_tapeOf_22 : decode cX1_tapeOf 22 = .ok (.aaload, 1) := by decide +kernel
theorem dX1_tapeOf_23 : decode cX1_tapeOf 23 = .ok (.areturn, 1) := by decide +kernel
set_option maxRecDepth 20000 in
theorem ggX1_keepIfBetter_X1_tapeOf : GoodIn wsX1_keepIfBetter wsX1_tapeOf := goodIn_r _ [6, 7, 19, 20, 21, 22, 23, 24, 25, 26, 27, 28] (by decide +kernel) (by decide +kernel)
set_option maxRecDepth 20000 in
theorem gX1_keepIfBetter_X1_tapeOf : GoodIn wsX1_keepIfBetter (wsV RX1 64 RX1 yX1_tapeOf wsX1_tapeOf) := goodIn_app (goodIn_of _ (by decide +kernel)) ggX1_keepIfBetter_X1_tapeOf
set_option maxRecDepth 20000 in
theorem ggX1_keepIfBetter_X4_copy : GoodIn wsX1_keepIfBetter wsX4_copy := goodIn_r _ [12, 13, 14, 15, 16, 17, 18] (by decide +kernel) (by decide +kernel)
set_option maxRecDepth 20000 in
theorem gX1_keepIfBetter_X4_copy : GoodIn wsX1_keepIfBetter (wsV RX1 71 RX4 yX4_copy wsX4_copy) := goodIn_app (goodIn_of _ (by decide +kernel)) ggX1_keepIfBetter_X4_copy
theorem dX1_keepIfBetter_0 : decode cX1_keepIfBetter 0 = .ok (.aload_n 0, 1) := by decide +kernel
theorem dX1_keepIfBetter_1 : decode cX1_keepIfBetter 1 = .ok (.iload_n 1, 1) := by decide +kernel
theorem dX1_keepIfBetter_2 : decode cX1_keepIfBetter 2 = .ok (.invokevirtual 64, 3) := by decide +kernel
theorem dX1_keepIfBetter_5 : decode cX1_keepIfBetter 5 = .ok (.astore_n 3, 1) := by decide +kernel
theorem dX1_keepIfBetter_6 : decode cX1_keepIfBetter 6 = .ok (.aload_n 3, 1) := by decide +kernel
theorem dX1_keepIfBetter_7 : decode cX1_keepIfBetter 7 = .ok (.ifnull 27, 3) := by decide +kernel
theorem dX1_keepIfBetter_10 : decode cX1_keepIfBetter 10 = .ok (.aload_n 3, 1) := by decide +kernel
theorem dX1_keepIfBetter_11 : decode cX1_keepIfBetter 11 = .ok (.getfield 68, 3) := by decide +kernel
theorem dX1_keepIfBetter_14 : decode cX1_keepIfBetter 14 = .ok (.iconst (-1), 1) := by decide +kernel
theorem dX1_keepIfBetter_15 : decode cX1_keepIfBetter 15 = .ok (.if_icmp .eq 14, 3) := by decide +kernel
theorem dX1_keepIfBetter_18 : decode cX1_keepIfBetter 18 = .ok (.aload_n 3, 1) := by decide +kernel
theorem dX1_keepIfBetter_19 : decode cX1_keepIfBetter 19 = .ok (.getfield 68, 3) := by decide +kernel
theorem dX1_keepIfBetter_22 : decode cX1_keepIfBetter 22 = .ok (.aload_n 2, 1) := by decide +kernel
theorem dX1_keepIfBetter_23 : decode cX1_keepIfBetter 23 = .ok (.getfield 68, 3) := by decide +kernel
theorem dX1_keepIfBetter_26 : decode cX1_keepIfBetter 26 = .ok (.if_icmp .le 8, 3) := by decide +kernel
theorem dX1_keepIfBetter_29 : decode cX1_keepIfBetter 29 = .ok (.aload_n 3, 1) := by decide +kernel
theorem dX1_keepIfBetter_30 : decode cX1_keepIfBetter 30 = .ok (.aload_n 2, 1) := by decide +kernel
theorem dX1_keepIfBetter_31 : decode cX1_keepIfBetter 31 = .ok (.invokevirtual 71, 3) := by decide +kernel
theorem dX1_keepIfBetter_34 : decode cX1_keepIfBetter 34 = .ok (.return_, 1) := by decide +kernel
theorem dX1_fastestPlayer_0 : decode cX1_fastestPlayer 0 = .ok (.iconst (-1), 1) := by decide +kernel
theorem dX1_fastestPlayer_1 : decode cX1_fastestPlayer 1 = .ok (.istore_n 1, 1) := by decide +kernel
theorem dX1_fastestPlayer_2 : decode cX1_fastestPlayer 2 = .ok (.bipush 101, 2) := by decide +kernel
theorem dX1_fastestPlayer_4 : decode cX1_fastestPlayer 4 = .ok (.istore_n 2, 1) := by decide +kernel
theorem dX1_fastestPlayer_5 : decode cX1_fastestPlayer 5 = .ok (.iconst 0, 1) := by decide +kernel
theorem dX1_fastestPlayer_6 : decode cX1_fastestPlayer 6 = .ok (.istore_n 3, 1) := by decide +kernel
theorem dX1_fastestPlayer_7 : decode cX1_fastestPlayer 7 = .ok (.iload_n 3, 1) := by decide +kernel
theorem dX1_fastestPlayer_8 : decode cX1_fastestPlayer 8 = .ok (.aload_n 0, 1) := by decide +kernel
theorem dX1_fastestPlayer_9 : decode cX1_fastestPlayer 9 = .ok (.getfield 28, 3) := by decide +kernel
theorem dX1_fastestPlayer_12 : decode cX1_fastestPlayer 12 = .ok (.arraylength, 1) := by decide +kernel
theorem dX1_fastestPlayer_13 : decode cX1_fastestPlayer 13 = .ok (.if_icmp .ge 37, 3) := by decide +kernel
theorem dX1_fastestPlayer_16 : decode cX1_fastestPlayer 16 = .ok (.aload_n 0, 1) := by decide +kernel
theorem dX1_fastestPlayer_17 : decode cX1_fastestPlayer 17 = .ok (.getfield 28, 3) := by decide +kernel
theorem dX1_fastestPlayer_20 : decode cX1_fastestPlayer 20 = .ok (.iload_n 3, 1) := by decide +kernel
theorem dX1_fastestPlayer_21 : decode cX1_fastestPlayer 21 = .ok (.aaload, 1) := by decide +kernel
theorem dX1_fastestPlayer_22 : decode cX1_fastestPlayer 22 = .ok (.getfield 68, 3) := by decide +kernel
theorem dX1_fastestPlayer_25 : decode cX1_fastestPlayer 25 = .ok (.istore 4, 2) := by decide +kernel
theorem dX1_fastestPlayer_27 : decode cX1_fastestPlayer 27 = .ok (.iload 4, 2) := by decide +kernel
theorem dX1_fastestPlayer_29 : decode cX1_fastestPlayer 29 = .ok (.iconst (-1), 1) := by decide +kernel
theorem dX1_fastestPlayer_30 : decode cX1_fastestPlayer 30 = .ok (.if_icmp .eq 14, 3) := by decide +kernel
theorem dX1_fastestPlayer_33 : decode cX1_fastestPlayer 33 = .ok (.iload 4, 2) := by decide +kernel
theorem dX1_fastestPlayer_35 : decode cX1_fastestPlayer 35 = .ok (.iload_n 2, 1) := by decide +kernel
theorem dX1_fastestPlayer_36 : decode cX1_fastestPlayer 36 = .ok (.if_icmp .ge 8, 3) := by decide +kernel
theorem dX1_fastestPlayer_39 : decode cX1_fastestPlayer 39 = .ok (.iload_n 3, 1) := by decide +kernel
theorem dX1_fastestPlayer_40 : decode cX1_fastestPlayer 40 = .ok (.istore_n 1, 1) := by decide +kernel
theorem dX1_fastestPlayer_41 : decode cX1_fastestPlayer 41 = .ok (.iload 4, 2) := by decide +kernel
theorem dX1_fastestPlayer_43 : decode cX1_fastestPlayer 43 = .ok (.istore_n 2, 1) := by decide +kernel
theorem dX1_fastestPlayer_44 : decode cX1_fastestPlayer 44 = .ok (.iinc 3 1, 3) := by decide +kernel
theorem dX1_fastestPlayer_47 : decode cX1_fastestPlayer 47 = .ok (.goto (-40), 3) := by decide +kernel
theorem dX1_fastestPlayer_50 : decode cX1_fastestPlayer 50 = .ok (.iload_n 1, 1) := by decide +kernel
theorem dX1_fastestPlayer_51 : decode cX1_fastestPlayer 51 = .ok (.ireturn, 1) := by decide +kernel
set_option maxRecDepth 20000 in
theorem ggX2_init_X0_init : GoodIn wsX2_init wsX0_init := goodIn_r _ [16, 17, 2, 3] (by decide +kernel) (by decide +kernel)
set_option maxRecDepth 20000 in
theorem gX2_init_X0_init_n11 : GoodIn wsX2_init (wsX0_init) := ggX2_init_X0_init
set_option maxRecDepth 20000 in
theorem ggX2_init_X4_init : GoodIn wsX2_init wsX4_init := goodIn_r _ [20, 21, 2, 3, 22, 23, 24, 25, 34, 35, 36] (by decide +kernel) (by decide +kernel)
set_option maxRecDepth 20000 in
theorem gX2_init_X4_init : GoodIn wsX2_init (wsX4_init) := ggX2_init_X4_init
theorem dX2_init_0 : decode cX2_init 0 = .ok (.aload_n 0, 1) := by decide +kernel
theorem dX2_init_1 : decode cX2_init 1 = .ok (.invokespecial 3, 3) := by decide +kernel
theorem dX2_init_4 : decode cX2_init 4 = .ok (.aload_n 0, 1) := by decide +kernel
theorem dX2_init_5 : decode cX2_init 5 = .ok (.new 9, 3) := by decide +kernel
theorem dX2_init_8 : decode cX2_init 8 = .ok (.dup, 1) := by decide +kernel
theorem dX2_init_9 : decode cX2_init 9 = .ok (.invokespecial 11, 3) := by decide +kernel
theorem dX2_init_12 : decode cX2_init 12 = .ok (.putfield 12, 3) := by decide +kernel
theorem dX2_init_15 : decode cX2_init 15 = .ok (.aload_n 0, 1) := by decide +kernel
theorem dX2_init_16 : decode cX2_init 16 = .ok (.new 18, 3) := by decide +kernel
theorem dX2_init_19 : decode cX2_init 19 = .ok (.dup, 1) := by decide +kernel
theorem dX2_init_20 : decode cX2_init 20 = .ok (.invokespecial 20, 3) := by decide +kernel
theorem dX2_init_23 : decode cX2_init 23 = .ok (.putfield 21, 3) := by decide +kernel
theorem dX2_init_26 : decode cX2_init 26 = .ok (.aload_n 0, 1) := by decide +kernel
theorem dX2_init_27 : decode cX2_init 27 = .ok (.aconst_null, 1) := by decide +kernel
theorem dX2_init_28 : decode cX2_init 28 = .ok (.putfield 25, 3) := by decide +kernel
theorem dX2_init_31 : decode cX2_init 31 = .ok (.aload_n 0, 1) := by decide +kernel
theorem dX2_init_32 : decode cX2_init 32 = .ok (.iconst 0, 1) := by decide +kernel
theorem dX2_init_33 : decode cX2_init 33 = .ok (.putfield 29, 3) := by decide +kernel
theorem dX2_init_36 : decode cX2_init 36 = .ok (.aload_n 0, 1) := by decide +kernel
theorem dX2_init_37 : decode cX2_init 37 = .ok (.iconst 0, 1) := by decide +kernel
theorem dX2_init_38 : decode cX2_init 38 = .ok (.putfield 33, 3) := by decide +kernel
theorem dX2_init_41 : decode cX2_init 41 = .ok (.return_, 1) := by decide +kernel
set_option maxRecDepth 20000 in
theorem ggX2_start_X0_toStart : GoodIn wsX2_start wsX0_toStart := goodIn_r _ [12, 13, 14, 15, 16, 17, 11, 18, 19, 20, 21, 41, 42, 43, 44, 45, 46, 47, 48, 49, 50, 38, 39, 40] (by decide +kernel) (by decide +kernel)
set_option maxRecDepth 20000 in
theorem gX2_start_X0_toStart : GoodIn wsX2_start (wsV RX2 36 RX0 yX0_toStart wsX0_toStart) := goodIn_app (goodIn_of _ (by decide +kernel)) ggX2_start_X0_toStart
set_option maxRecDepth 20000 in
theorem ggX2_start_X4_rewind : GoodIn wsX2_start wsX4_rewind := goodIn_r _ [26, 27, 28, 51, 52, 53] (by decide +kernel) (by decide +kernel)
set_option maxRecDepth 20000 in
theorem gX2_start_X4_rewind : GoodIn wsX2_start (wsV RX2 40 RX4 yX4_rewind wsX4_rewind) := goodIn_app (goodIn_of _ (by decide +kernel)) ggX2_start_X4_rewind
set_option maxRecDepth 20000 in
theorem ggX2_start_X4_noteColumn : GoodIn wsX2_start wsX4_noteColumn := goodIn_r _ [32, 28, 27, 51, 52, 53] (by decide +kernel) (by decide +kernel)
set_option maxRecDepth 20000 in
theorem gX2_start_X4_noteColumn : GoodIn wsX2_start (wsV RX2 51 RX4 yX4_noteColumn wsX4_noteColumn) := goodIn_app (goodIn_of _ (by decide +kernel)) ggX2_start_X4_noteColumn
theorem dX2_start_0 : decode cX2_start 0 = .ok (.aload_n 0, 1) := by decide +kernel
theorem dX2_start_1 : decode cX2_start 1 = .ok (.iload_n 1, 1) := by decide +kernel
theorem dX2_start_2 : decode cX2_start 2 = .ok (.putfield 29, 3) := by decide +kernel
theorem dX2_start_5 : decode cX2_start 5 = .ok (.aload_n 0, 1) := by decide +kernel
theorem dX2_start_6 : decode cX2_start 6 = .ok (.aload_n 2, 1) := by decide +kernel
theorem dX2_start_7 : decode cX2_start 7 = .ok (.putfield 25, 3) := by decide +kernel
theorem dX2_start_10 : decode cX2_start 10 = .ok (.aload_n 0, 1) := by decide +kernel
theorem dX2_start_11 : decode cX2_start 11 = .ok (.iconst 0, 1) := by decide +kernel
theorem dX2_start_12 : decode cX2_start 12 = .ok (.putfield 33, 3) := by decide +kernel
theorem dX2_start_15 : decode cX2_start 15 = .ok (.aload_n 0, 1) := by decide +kernel
theorem dX2_start_16 : decode cX2_start 16 = .ok (.getfield 12, 3) := by decide +kernel
theorem dX2_start_19 : decode cX2_start 19 = .ok (.aload_n 2, 1) := by decide +kernel
theorem dX2_start_20 : decode cX2_start 20 = .ok (.invokevirtual 36, 3) := by decide +kernel
theorem dX2_start_23 : decode cX2_start 23 = .ok (.aload_n 0, 1) := by decide +kernel
theorem dX2_start_24 : decode cX2_start 24 = .ok (.getfield 21, 3) := by decide +kernel
theorem dX2_start_27 : decode cX2_start 27 = .ok (.invokevirtual 40, 3) := by decide +kernel
theorem dX2_start_30 : decode cX2_start 30 = .ok (.aload_n 0, 1) := by decide +kernel
theorem dX2_start_31 : decode cX2_start 31 = .ok (.getfield 21, 3) := by decide +kernel
theorem dX2_start_34 : decode cX2_start 34 = .ok (.aload_n 0, 1) := by decide +kernel
theorem dX2_start_35 : decode cX2_start 35 = .ok (.getfield 12, 3) := by decide +kernel
theorem dX2_start_38 : decode cX2_start 38 = .ok (.getfield 43, 3) := by decide +kernel
theorem dX2_start_41 : decode cX2_start 41 = .ok (.aload_n 2, 1) := by decide +kernel
theorem dX2_start_42 : decode cX2_start 42 = .ok (.getfield 46, 3) := by decide +kernel
theorem dX2_start_45 : decode cX2_start 45 = .ok (.invokevirtual 51, 3) := by decide +kernel
theorem dX2_start_48 : decode cX2_start 48 = .ok (.return_, 1) := by decide +kernel
set_option maxRecDepth 20000 in
theorem ggX2_advance_X0_move : GoodIn wsX2_advance wsX0_move := goodIn_r _ [11, 12, 13, 14, 15, 16, 17, 18, 19, 20, 21, 22, 23, 24, 25, 10, 26, 27, 28, 29, 30, 31, 32, 33, 34, 35, 36, 37, 38, 39, 40, 41, 42, 43, 44, 62, 63, 64, 65, 66, 67, 68, 69, 70, 71, 72, 73, 74] (by decide +kernel) (by decide +kernel)
set_option maxRecDepth 20000 in
theorem gX2_advance_X0_move : GoodIn wsX2_advance (wsV RX2 55 RX0 yX0_move wsX0_move) := goodIn_app (goodIn_of _ (by decide +kernel)) ggX2_advance_X0_move
set_option maxRecDepth 20000 in
theorem ggX2_advance_X4_append : GoodIn wsX2_advance wsX4_append := goodIn_r _ [49, 50, 51, 75, 76, 77] (by decide +kernel) (by decide +kernel)
set_option maxRecDepth 20000 in
theorem gX2_advance_X4_append : GoodIn wsX2_advance (wsV RX2 59 RX4 yX4_append wsX4_append) := goodIn_app (goodIn_of _ (by decide +kernel)) ggX2_advance_X4_append
set_option maxRecDepth 20000 in
theorem ggX2_advance_X4_noteColumn : GoodIn wsX2_advance wsX4_noteColumn := goodIn_r _ [55, 56, 50, 75, 76, 77] (by decide +kernel) (by decide +kernel)
set_option maxRecDepth 20000 in
theorem gX2_advance_X4_noteColumn : GoodIn wsX2_advance (wsV RX2 51 RX4 yX4_noteColumn wsX4_noteColumn) := goodIn_app (goodIn_of _ (by decide +kernel)) ggX2_advance_X4_noteColumn
theorem dX2_advance_0 : decode cX2_advance 0 = .ok (.aload_n 0, 1) := by decide +kernel
theorem dX2_advance_1 : decode cX2_advance 1 = .ok (.aload_n 0, 1) := by decide +kernel
theorem dX2_advance_2 : decode cX2_advance 2 = .ok (.getfield 12, 3) := by decide +kernel
theorem dX2_advance_5 : decode cX2_advance 5 = .ok (.aload_n 1, 1) := by decide +kernel
theorem dX2_advance_6 : decode cX2_advance 6 = .ok (.iload_n 2, 1) := by decide +kernel
theorem dX2_advance_7 : decode cX2_advance 7 = .ok (.invokevirtual 55, 3) := by decide +kernel
theorem dX2_advance_10 : decode cX2_advance 10 = .ok (.putfield 33, 3) := by decide +kernel
theorem dX2_advance_13 : decode cX2_advance 13 = .ok (.aload_n 0, 1) := by decide +kernel
theorem dX2_advance_14 : decode cX2_advance 14 = .ok (.getfield 21, 3) := by decide +kernel
theorem dX2_advance_17 : decode cX2_advance 17 = .ok (.iload_n 2, 1) := by decide +kernel
theorem dX2_advance_18 : decode cX2_advance 18 = .ok (.invokevirtual 59, 3) := by decide +kernel
theorem dX2_advance_21 : decode cX2_advance 21 = .ok (.aload_n 0, 1) := by decide +kernel
theorem dX2_advance_22 : decode cX2_advance 22 = .ok (.getfield 21, 3) := by decide +kernel
theorem dX2_advance_25 : decode cX2_advance 25 = .ok (.aload_n 0, 1) := by decide +kernel
theorem dX2_advance_26 : decode cX2_advance 26 = .ok (.getfield 12, 3) := by decide +kernel
theorem dX2_advance_29 : decode cX2_advance 29 = .ok (.getfield 43, 3) := by decide +kernel
theorem dX2_advance_32 : decode cX2_advance 32 = .ok (.aload_n 1, 1) := by decide +kernel
theorem dX2_advance_33 : decode cX2_advance 33 = .ok (.getfield 46, 3) := by decide +kernel
theorem dX2_advance_36 : decode cX2_advance 36 = .ok (.invokevirtual 51, 3) := by decide +kernel
theorem dX2_advance_39 : decode cX2_advance 39 = .ok (.aload_n 0, 1) := by decide +kernel
theorem dX2_advance_40 : decode cX2_advance 40 = .ok (.getfield 33, 3) := by decide +kernel
theorem dX2_advance_43 : decode cX2_advance 43 = .ok (.ifCond .ne 20, 3) := by decide +kernel
theorem dX2_advance_46 : decode cX2_advance 46 = .ok (.aload_n 0, 1) := by decide +kernel
theorem dX2_advance_47 : decode cX2_advance 47 = .ok (.getfield 21, 3) := by decide +kernel
theorem dX2_advance_50 : decode cX2_advance 50 = .ok (.getfield 63, 3) := by decide +kernel
theorem dX2_advance_53 : decode cX2_advance 53 = .ok (.bipush 100, 2) := by decide +kernel
theorem dX2_advance_55 : decode cX2_advance 55 = .ok (.if_icmp .lt 8, 3) := by decide +kernel
theorem dX2_advance_58 : decode cX2_advance 58 = .ok (.aload_n 0, 1) := by decide +kernel
theorem dX2_advance_59 : decode cX2_advance 59 = .ok (.iconst 1, 1) := by decide +kernel
theorem dX2_advance_60 : decode cX2_advance 60 = .ok (.putfield 33, 3) := by decide +kernel
theorem dX2_advance_63 : decode cX2_advance 63 = .ok (.return_, 1) := by decide +kernel
set_option maxRecDepth 20000 in
theorem ggX3_init_X0_init : GoodIn wsX3_init wsX0_init := goodIn_r _ [16, 17, 2, 3] (by decide +kernel) (by decide +kernel)
set_option maxRecDepth 20000 in
theorem gX3_init_X0_init_n23 : GoodIn wsX3_init (wsX0_init) := ggX3_init_X0_init
theorem dX3_init_0 : decode cX3_init 0 = .ok (.aload_n 0, 1) := by decide +kernel
theorem dX3_init_1 : decode cX3_init 1 = .ok (.invokespecial 3, 3) := by decide +kernel
theorem dX3_init_4 : decode cX3_init 4 = .ok (.aload_n 0, 1) := by decide +kernel
theorem dX3_init_5 : decode cX3_init 5 = .ok (.sipush 480, 3) := by decide +kernel
theorem dX3_init_8 : decode cX3_init 8 = .ok (.newarray .int, 2) := by decide +kernel
theorem dX3_init_10 : decode cX3_init 10 = .ok (.putfield 11, 3) := by decide +kernel
theorem dX3_init_13 : decode cX3_init 13 = .ok (.aload_n 0, 1) := by decide +kernel
theorem dX3_init_14 : decode cX3_init 14 = .ok (.sipush 480, 3) := by decide +kernel
theorem dX3_init_17 : decode cX3_init 17 = .ok (.newarray .int, 2) := by decide +kernel
theorem dX3_init_19 : decode cX3_init 19 = .ok (.putfield 15, 3) := by decide +kernel
theorem dX3_init_22 : decode cX3_init 22 = .ok (.aload_n 0, 1) := by decide +kernel
theorem dX3_init_23 : decode cX3_init 23 = .ok (.sipush 480, 3) := by decide +kernel
theorem dX3_init_26 : decode cX3_init 26 = .ok (.newarray .int, 2) := by decide +kernel
theorem dX3_init_28 : decode cX3_init 28 = .ok (.putfield 18, 3) := by decide +kernel
theorem dX3_init_31 : decode cX3_init 31 = .ok (.aload_n 0, 1) := by decide +kernel
theorem dX3_init_32 : decode cX3_init 32 = .ok (.new 21, 3) := by decide +kernel
theorem dX3_init_35 : decode cX3_init 35 = .ok (.dup, 1) := by decide +kernel
theorem dX3_init_36 : decode cX3_init 36 = .ok (.invokespecial 23, 3) := by decide +kernel
theorem dX3_init_39 : decode cX3_init 39 = .ok (.putfield 24, 3) := by decide +kernel
theorem dX3_init_42 : decode cX3_init 42 = .ok (.aload_n 0, 1) := by decide +kernel
theorem dX3_init_43 : decode cX3_init 43 = .ok (.iconst 0, 1) := by decide +kernel
theorem dX3_init_44 : decode cX3_init 44 = .ok (.putfield 28, 3) := by decide +kernel
theorem dX3_init_47 : decode cX3_init 47 = .ok (.aload_n 0, 1) := by decide +kernel
theorem dX3_init_48 : decode cX3_init 48 = .ok (.iconst (-1), 1) := by decide +kernel
theorem dX3_init_49 : decode cX3_init 49 = .ok (.putfield 32, 3) := by decide +kernel
theorem dX3_init_52 : decode cX3_init 52 = .ok (.aload_n 0, 1) := by decide +kernel
theorem dX3_init_53 : decode cX3_init 53 = .ok (.iconst (-1), 1) := by decide +kernel
theorem dX3_init_54 : decode cX3_init 54 = .ok (.putfield 35, 3) := by decide +kernel
theorem dX3_init_57 : decode cX3_init 57 = .ok (.return_, 1) := by decide +kernel
theorem dX3_findNothing_0 : decode cX3_findNothing 0 = .ok (.aload_n 0, 1) := by decide +kernel
theorem dX3_findNothing_1 : decode cX3_findNothing 1 = .ok (.iconst (-1), 1) := by decide +kernel
theorem dX3_findNothing_2 : decode cX3_findNothing 2 = .ok (.putfield 32, 3) := by decide +kernel
theorem dX3_findNothing_5 : decode cX3_findNothing 5 = .ok (.aload_n 0, 1) := by decide +kernel
theorem dX3_findNothing_6 : decode cX3_findNothing 6 = .ok (.iconst (-1), 1) := by decide +kernel
theorem dX3_findNothing_7 : decode cX3_findNothing 7 = .ok (.putfield 35, 3) := by decide +kernel
theorem dX3_findNothing_10 : decode cX3_findNothing 10 = .ok (.return_, 1) := by decide +kernel
set_option maxRecDepth 20000 in
theorem ggX3_findWin_X3_findNothing : GoodIn wsX3_findWin wsX3_findNothing := goodIn_r _ [9, 2, 10, 70, 71, 72, 73, 74, 75, 76] (by decide +kernel) (by decide +kernel)
set_option maxRecDepth 20000 in
theorem gX3_findWin_X3_findNothing : GoodIn wsX3_findWin (wsV RX3 38 RX3 yX3_findNothing wsX3_findNothing) := goodIn_app (goodIn_of _ (by decide +kernel)) ggX3_findWin_X3_findNothing
set_option maxRecDepth 20000 in
theorem ggX3_findWin_X3_forgetPlaces : GoodIn wsX3_findWin wsX3_forgetPlaces := goodIn_r _ [14, 1, 4, 70, 71, 72, 73, 74, 75, 76] (by decide +kernel) (by decide +kernel)
set_option maxRecDepth 20000 in
theorem gX3_findWin_X3_forgetPlaces : GoodIn wsX3_findWin (wsV RX3 41 RX3 yX3_forgetPlaces wsX3_forgetPlaces) := goodIn_app (goodIn_of _ (by decide +kernel)) ggX3_findWin_X3_forgetPlaces
set_option maxRecDepth 20000 in
theorem ggX3_findWin_X3_reach : GoodIn wsX3_findWin wsX3_reach := goodIn_r _ [18, 19, 20, 21, 1, 4, 22, 3, 77, 78, 79, 70, 71, 72, 73, 74, 75, 76] (by decide +kernel) (by decide +kernel)
set_option maxRecDepth 20000 in
theorem gX3_findWin_X3_reach : GoodIn wsX3_findWin (wsV RX3 44 RX3 yX3_reach wsX3_reach) := goodIn_app (goodIn_of _ (by decide +kernel)) ggX3_findWin_X3_reach
set_option maxRecDepth 20000 in
theorem ggX3_findWin_X3_tryInputs : GoodIn wsX3_findWin wsX3_tryInputs := goodIn_r _ [26, 22, 27, 2, 10, 28, 29, 30, 31, 32, 33, 34, 35, 36, 37, 38, 39, 40, 41, 42, 43, 44, 45, 46, 47, 48, 49, 50, 51, 52, 53, 54, 55, 56, 57, 58, 59, 60, 61, 62, 63, 64, 65, 66, 67, 68, 69, 15, 16, 17, 8, 18, 19, 20, 21, 1, 4, 3, 70, 71, 72, 73, 74, 75, 76, 77, 78, 79, 80, 81, 82, 83, 84, 85, 86, 87, 88, 89] (by decide +kernel) (by decide +kernel)
set_option maxRecDepth 20000 in
theorem gX3_findWin_X3_tryInputs : GoodIn wsX3_findWin (wsV RX3 48 RX3 yX3_tryInputs wsX3_tryInputs) := goodIn_app (goodIn_of _ (by decide +kernel)) ggX3_findWin_X3_tryInputs
theorem dX3_findWin_0 : decode cX3_findWin 0 = .ok (.aload_n 0, 1) := by decide +kernel
theorem dX3_findWin_1 : decode cX3_findWin 1 = .ok (.invokevirtual 38, 3) := by decide +kernel
theorem dX3_findWin_4 : decode cX3_findWin 4 = .ok (.aload_n 0, 1) := by decide +kernel
theorem dX3_findWin_5 : decode cX3_findWin 5 = .ok (.invokevirtual 41, 3) := by decide +kernel
theorem dX3_findWin_8 : decode cX3_findWin 8 = .ok (.aload_n 0, 1) := by decide +kernel
theorem dX3_findWin_9 : decode cX3_findWin 9 = .ok (.aload_n 2, 1) := by decide +kernel
theorem dX3_findWin_10 : decode cX3_findWin 10 = .ok (.iconst 0, 1) := by decide +kernel
theorem dX3_findWin_11 : decode cX3_findWin 11 = .ok (.iconst (-1), 1) := by decide +kernel
theorem dX3_findWin_12 : decode cX3_findWin 12 = .ok (.invokevirtual 44, 3) := by decide +kernel
theorem dX3_findWin_15 : decode cX3_findWin 15 = .ok (.iconst 0, 1) := by decide +kernel
theorem dX3_findWin_16 : decode cX3_findWin 16 = .ok (.istore 4, 2) := by decide +kernel
theorem dX3_findWin_18 : decode cX3_findWin 18 = .ok (.iload 4, 2) := by decide +kernel
theorem dX3_findWin_20 : decode cX3_findWin 20 = .ok (.aload_n 0, 1) := by decide +kernel
theorem dX3_findWin_21 : decode cX3_findWin 21 = .ok (.getfield 28, 3) := by decide +kernel
theorem dX3_findWin_24 : decode cX3_findWin 24 = .ok (.if_icmp .ge 75, 3) := by decide +kernel
theorem dX3_findWin_27 : decode cX3_findWin 27 = .ok (.iload 4, 2) := by decide +kernel
theorem dX3_findWin_29 : decode cX3_findWin 29 = .ok (.sipush 480, 3) := by decide +kernel
theorem dX3_findWin_32 : decode cX3_findWin 32 = .ok (.if_icmp .ge 67, 3) := by decide +kernel
theorem dX3_findWin_35 : decode cX3_findWin 35 = .ok (.aload_n 0, 1) := by decide +kernel
theorem dX3_findWin_36 : decode cX3_findWin 36 = .ok (.getfield 32, 3) := by decide +kernel
theorem dX3_findWin_39 : decode cX3_findWin 39 = .ok (.iconst (-1), 1) := by decide +kernel
theorem dX3_findWin_40 : decode cX3_findWin 40 = .ok (.if_icmp .ne 59, 3) := by decide +kernel
theorem dX3_findWin_43 : decode cX3_findWin 43 = .ok (.aload_n 0, 1) := by decide +kernel
theorem dX3_findWin_44 : decode cX3_findWin 44 = .ok (.getfield 18, 3) := by decide +kernel
theorem dX3_findWin_47 : decode cX3_findWin 47 = .ok (.iload 4, 2) := by decide +kernel
theorem dX3_findWin_49 : decode cX3_findWin 49 = .ok (.iaload, 1) := by decide +kernel
theorem dX3_findWin_50 : decode cX3_findWin 50 = .ok (.istore 5, 2) := by decide +kernel
theorem dX3_findWin_52 : decode cX3_findWin 52 = .ok (.iload 5, 2) := by decide +kernel
theorem dX3_findWin_54 : decode cX3_findWin 54 = .ok (.ifCond .lt 22, 3) := by decide +kernel
theorem dX3_findWin_57 : decode cX3_findWin 57 = .ok (.iload 5, 2) := by decide +kernel
theorem dX3_findWin_59 : decode cX3_findWin 59 = .ok (.sipush 480, 3) := by decide +kernel
theorem dX3_findWin_62 : decode cX3_findWin 62 = .ok (.if_icmp .ge 14, 3) := by decide +kernel
theorem dX3_findWin_65 : decode cX3_findWin 65 = .ok (.aload_n 0, 1) := by decide +kernel
theorem dX3_findWin_66 : decode cX3_findWin 66 = .ok (.getfield 11, 3) := by decide +kernel
theorem dX3_findWin_69 : decode cX3_findWin 69 = .ok (.iload 5, 2) := by decide +kernel
theorem dX3_findWin_71 : decode cX3_findWin 71 = .ok (.iaload, 1) := by decide +kernel
theorem dX3_findWin_72 : decode cX3_findWin 72 = .ok (.iload_n 3, 1) := by decide +kernel
theorem dX3_findWin_73 : decode cX3_findWin 73 = .ok (.if_icmp .lt 4, 3) := by decide +kernel
theorem dX3_findWin_76 : decode cX3_findWin 76 = .ok (.return_, 1) := by decide +kernel
theorem dX3_findWin_77 : decode cX3_findWin 77 = .ok (.aload_n 0, 1) := by decide +kernel
theorem dX3_findWin_78 : decode cX3_findWin 78 = .ok (.aload_n 1, 1) := by decide +kernel
theorem dX3_findWin_79 : decode cX3_findWin 79 = .ok (.iload 5, 2) := by decide +kernel
theorem dX3_findWin_81 : decode cX3_findWin 81 = .ok (.aload_n 0, 1) := by decide +kernel
theorem dX3_findWin_82 : decode cX3_findWin 82 = .ok (.getfield 11, 3) := by decide +kernel
theorem dX3_findWin_85 : decode cX3_findWin 85 = .ok (.iload 5, 2) := by decide +kernel
theorem dX3_findWin_87 : decode cX3_findWin 87 = .ok (.iaload, 1) := by decide +kernel
theorem dX3_findWin_88 : decode cX3_findWin 88 = .ok (.iconst 1, 1) := by decide +kernel
theorem dX3_findWin_89 : decode cX3_findWin 89 = .ok (.iadd, 1) := by decide +kernel
theorem dX3_findWin_90 : decode cX3_findWin 90 = .ok (.invokevirtual 48, 3) := by decide +kernel
theorem dX3_findWin_93 : decode cX3_findWin 93 = .ok (.iinc 4 1, 3) := by decide +kernel
theorem dX3_findWin_96 : decode cX3_findWin 96 = .ok (.goto (-78), 3) := by decide +kernel
theorem dX3_findWin_99 : decode cX3_findWin 99 = .ok (.return_, 1) := by decide +kernel
theorem dX3_forgetPlaces_0 : decode cX3_forgetPlaces 0 = .ok (.aload_n 0, 1) := by decide +kernel
theorem dX3_forgetPlaces_1 : decode cX3_forgetPlaces 1 = .ok (.iconst 0, 1) := by decide +kernel
theorem dX3_forgetPlaces_2 : decode cX3_forgetPlaces 2 = .ok (.putfield 28, 3) := by decide +kernel
theorem dX3_forgetPlaces_5 : decode cX3_forgetPlaces 5 = .ok (.iconst 0, 1) := by decide +kernel
theorem dX3_forgetPlaces_6 : decode cX3_forgetPlaces 6 = .ok (.istore_n 1, 1) := by decide +kernel
theorem dX3_forgetPlaces_7 : decode cX3_forgetPlaces 7 = .ok (.iload_n 1, 1) := by decide +kernel
theorem dX3_forgetPlaces_8 : decode cX3_forgetPlaces 8 = .ok (.sipush 480, 3) := by decide +kernel
theorem dX3_forgetPlaces_11 : decode cX3_forgetPlaces 11 = .ok (.if_icmp .ge 16, 3) := by decide +kernel
theorem dX3_forgetPlaces_14 : decode cX3_forgetPlaces 14 = .ok (.aload_n 0, 1) := by decide +kernel
theorem dX3_forgetPlaces_15 : decode cX3_forgetPlaces 15 = .ok (.getfield 11, 3) := by decide +kernel
theorem dX3_forgetPlaces_18 : decode cX3_forgetPlaces 18 = .ok (.iload_n 1, 1) := by decide +kernel
theorem dX3_forgetPlaces_19 : decode cX3_forgetPlaces 19 = .ok (.iconst (-1), 1) := by decide +kernel
theorem dX3_forgetPlaces_20 : decode cX3_forgetPlaces 20 = .ok (.iastore, 1) := by decide +kernel
theorem dX3_forgetPlaces_21 : decode cX3_forgetPlaces 21 = .ok (.iinc 1 1, 3) := by decide +kernel
theorem dX3_forgetPlaces_24 : decode cX3_forgetPlaces 24 = .ok (.goto (-17), 3) := by decide +kernel
theorem dX3_forgetPlaces_27 : decode cX3_forgetPlaces 27 = .ok (.return_, 1) := by decide +kernel
theorem dX3_reach_0 : decode cX3_reach 0 = .ok (.aload_n 1, 1) := by decide +kernel
theorem dX3_reach_1 : decode cX3_reach 1 = .ok (.getfield 52, 3) := by decide +kernel
theorem dX3_reach_4 : decode cX3_reach 4 = .ok (.bipush 12, 2) := by decide +kernel
theorem dX3_reach_6 : decode cX3_reach 6 = .ok (.imul, 1) := by decide +kernel
theorem dX3_reach_7 : decode cX3_reach 7 = .ok (.aload_n 1, 1) := by decide +kernel
theorem dX3_reach_8 : decode cX3_reach 8 = .ok (.getfield 55, 3) := by decide +kernel
theorem dX3_reach_11 : decode cX3_reach 11 = .ok (.iadd, 1) := by decide +kernel
theorem dX3_reach_12 : decode cX3_reach 12 = .ok (.iconst 5, 1) := by decide +kernel
theorem dX3_reach_13 : decode cX3_reach 13 = .ok (.imul, 1) := by decide +kernel
theorem dX3_reach_14 : decode cX3_reach 14 = .ok (.aload_n 1, 1) := by decide +kernel
theorem dX3_reach_15 : decode cX3_reach 15 = .ok (.getfield 58, 3) := by decide +kernel
theorem dX3_reach_18 : decode cX3_reach 18 = .ok (.iadd, 1) := by decide +kernel
theorem dX3_reach_19 : decode cX3_reach 19 = .ok (.istore 4, 2) := by decide +kernel
theorem dX3_reach_21 : decode cX3_reach 21 = .ok (.iload 4, 2) := by decide +kernel
theorem dX3_reach_23 : decode cX3_reach 23 = .ok (.ifCond .lt 32, 3) := by decide +kernel
theorem dX3_reach_26 : decode cX3_reach 26 = .ok (.iload 4, 2) := by decide +kernel
theorem dX3_reach_28 : decode cX3_reach 28 = .ok (.sipush 480, 3) := by decide +kernel
theorem dX3_reach_31 : decode cX3_reach 31 = .ok (.if_icmp .ge 24, 3) := by decide +kernel
theorem dX3_reach_34 : decode cX3_reach 34 = .ok (.aload_n 0, 1) := by decide +kernel
theorem dX3_reach_35 : decode cX3_reach 35 = .ok (.getfield 28, 3) := by decide +kernel
theorem dX3_reach_38 : decode cX3_reach 38 = .ok (.sipush 480, 3) := by decide +kernel
theorem dX3_reach_41 : decode cX3_reach 41 = .ok (.if_icmp .ge 14, 3) := by decide +kernel
theorem dX3_reach_44 : decode cX3_reach 44 = .ok (.aload_n 0, 1) := by decide +kernel
theorem dX3_reach_45 : decode cX3_reach 45 = .ok (.getfield 11, 3) := by decide +kernel
theorem dX3_reach_48 : decode cX3_reach 48 = .ok (.iload 4, 2) := by decide +kernel
theorem dX3_reach_50 : decode cX3_reach 50 = .ok (.iaload, 1) := by decide +kernel
theorem dX3_reach_51 : decode cX3_reach 51 = .ok (.iconst (-1), 1) := by decide +kernel
theorem dX3_reach_52 : decode cX3_reach 52 = .ok (.if_icmp .eq 4, 3) := by decide +kernel
theorem dX3_reach_55 : decode cX3_reach 55 = .ok (.return_, 1) := by decide +kernel
theorem dX3_reach_56 : decode cX3_reach 56 = .ok (.aload_n 0, 1) := by decide +kernel
theorem dX3_reach_57 : decode cX3_reach 57 = .ok (.getfield 11, 3) := by decide +kernel
theorem dX3_reach_60 : decode cX3_reach 60 = .ok (.iload 4, 2) := by decide +kernel
theorem dX3_reach_62 : decode cX3_reach 62 = .ok (.iload_n 2, 1) := by decide +kernel
theorem dX3_reach_63 : decode cX3_reach 63 = .ok (.iastore, 1) := by decide +kernel
theorem dX3_reach_64 : decode cX3_reach 64 = .ok (.aload_n 0, 1) := by decide +kernel
theorem dX3_reach_65 : decode cX3_reach 65 = .ok (.getfield 15, 3) := by decide +kernel
theorem dX3_reach_68 : decode cX3_reach 68 = .ok (.iload 4, 2) := by decide +kernel
theorem dX3_reach_70 : decode cX3_reach 70 = .ok (.iload_n 3, 1) := by decide +kernel
theorem dX3_reach_71 : decode cX3_reach 71 = .ok (.iastore, 1) := by decide +kernel
theorem dX3_reach_72 : decode cX3_reach 72 = .ok (.aload_n 0, 1) := by decide +kernel
theorem dX3_reach_73 : decode cX3_reach 73 = .ok (.getfield 18, 3) := by decide +kernel
theorem dX3_reach_76 : decode cX3_reach 76 = .ok (.aload_n 0, 1) := by decide +kernel
theorem dX3_reach_77 : decode cX3_reach 77 = .ok (.getfield 28, 3) := by decide +kernel
theorem dX3_reach_80 : decode cX3_reach 80 = .ok (.iload 4, 2) := by decide +kernel
theorem dX3_reach_82 : decode cX3_reach 82 = .ok (.iastore, 1) := by decide +kernel
theorem dX3_reach_83 : decode cX3_reach 83 = .ok (.aload_n 0, 1) := by decide +kernel
theorem dX3_reach_84 : decode cX3_reach 84 = .ok (.dup, 1) := by decide +kernel
theorem dX3_reach_85 : decode cX3_reach 85 = .ok (.getfield 28, 3) := by decide +kernel
theorem dX3_reach_88 : decode cX3_reach 88 = .ok (.iconst 1, 1) := by decide +kernel
theorem dX3_reach_89 : decode cX3_reach 89 = .ok (.iadd, 1) := by decide +kernel
theorem dX3_reach_90 : decode cX3_reach 90 = .ok (.putfield 28, 3) := by decide +kernel
theorem dX3_reach_93 : decode cX3_reach 93 = .ok (.return_, 1) := by decide +kernel
set_option maxRecDepth 20000 in
theorem ggX3_tryInputs_X0_place : GoodIn wsX3_tryInputs wsX0_place := goodIn_r _ [9, 10, 11, 12, 65, 66, 67] (by decide +kernel) (by decide +kernel)
set_option maxRecDepth 20000 in
theorem gX3_tryInputs_X0_place : GoodIn wsX3_tryInputs (wsV RX3 61 RX0 yX0_place wsX0_place) := goodIn_app (goodIn_of _ (by decide +kernel)) ggX3_tryInputs_X0_place
set_option maxRecDepth 20000 in
theorem ggX3_tryInputs_X0_move : GoodIn wsX3_tryInputs wsX0_move := goodIn_r _ [16, 10, 11, 12, 17, 18, 19, 20, 21, 22, 23, 24, 25, 26, 27, 8, 28, 29, 30, 31, 32, 33, 34, 35, 36, 37, 38, 39, 40, 41, 42, 43, 44, 45, 46, 65, 66, 67, 68, 69, 70, 71, 72, 73, 74, 75, 76, 77] (by decide +kernel) (by decide +kernel)
set_option maxRecDepth 20000 in
theorem gX3_tryInputs_X0_move : GoodIn wsX3_tryInputs (wsV RX3 65 RX0 yX0_move wsX0_move) := goodIn_app (goodIn_of _ (by decide +kernel)) ggX3_tryInputs_X0_move
set_option maxRecDepth 20000 in
theorem ggX3_tryInputs_X3_reach : GoodIn wsX3_tryInputs wsX3_reach := goodIn_r _ [51, 52, 53, 54, 55, 56, 1, 57, 65, 66, 67, 58, 59, 60, 61, 62, 63, 64] (by decide +kernel) (by decide +kernel)
set_option maxRecDepth 20000 in
theorem gX3_tryInputs_X3_reach : GoodIn wsX3_tryInputs (wsV RX3 44 RX3 yX3_reach wsX3_reach) := goodIn_app (goodIn_of _ (by decide +kernel)) ggX3_tryInputs_X3_reach
theorem dX3_tryInputs_0 : decode cX3_tryInputs 0 = .ok (.iload_n 2, 1) := by decide +kernel
theorem dX3_tryInputs_1 : decode cX3_tryInputs 1 = .ok (.ifCond .lt 10, 3) := by decide +kernel
theorem dX3_tryInputs_4 : decode cX3_tryInputs 4 = .ok (.iload_n 2, 1) := by decide +kernel
theorem dX3_tryInputs_5 : decode cX3_tryInputs 5 = .ok (.sipush 480, 3) := by decide +kernel
theorem dX3_tryInputs_8 : decode cX3_tryInputs 8 = .ok (.if_icmp .lt 7, 3) := by decide +kernel
theorem dX3_tryInputs_11 : decode cX3_tryInputs 11 = .ok (.iconst (-1), 1) := by decide +kernel
theorem dX3_tryInputs_12 : decode cX3_tryInputs 12 = .ok (.goto 9, 3) := by decide +kernel
theorem dX3_tryInputs_15 : decode cX3_tryInputs 15 = .ok (.aload_n 0, 1) := by decide +kernel
theorem dX3_tryInputs_16 : decode cX3_tryInputs 16 = .ok (.getfield 15, 3) := by decide +kernel
theorem dX3_tryInputs_19 : decode cX3_tryInputs 19 = .ok (.iload_n 2, 1) := by decide +kernel
theorem dX3_tryInputs_20 : decode cX3_tryInputs 20 = .ok (.iaload, 1) := by decide +kernel
theorem dX3_tryInputs_21 : decode cX3_tryInputs 21 = .ok (.istore 4, 2) := by decide +kernel
theorem dX3_tryInputs_23 : decode cX3_tryInputs 23 = .ok (.iload_n 2, 1) := by decide +kernel
theorem dX3_tryInputs_24 : decode cX3_tryInputs 24 = .ok (.iconst 5, 1) := by decide +kernel
theorem dX3_tryInputs_25 : decode cX3_tryInputs 25 = .ok (.idiv, 1) := by decide +kernel
theorem dX3_tryInputs_26 : decode cX3_tryInputs 26 = .ok (.istore 5, 2) := by decide +kernel
theorem dX3_tryInputs_28 : decode cX3_tryInputs 28 = .ok (.iconst 0, 1) := by decide +kernel
theorem dX3_tryInputs_29 : decode cX3_tryInputs 29 = .ok (.istore 6, 2) := by decide +kernel
theorem dX3_tryInputs_31 : decode cX3_tryInputs 31 = .ok (.iload 6, 2) := by decide +kernel
theorem dX3_tryInputs_33 : decode cX3_tryInputs 33 = .ok (.bipush 6, 2) := by decide +kernel
theorem dX3_tryInputs_35 : decode cX3_tryInputs 35 = .ok (.if_icmp .ge 90, 3) := by decide +kernel
theorem dX3_tryInputs_38 : decode cX3_tryInputs 38 = .ok (.aload_n 0, 1) := by decide +kernel
theorem dX3_tryInputs_39 : decode cX3_tryInputs 39 = .ok (.getfield 24, 3) := by decide +kernel
theorem dX3_tryInputs_42 : decode cX3_tryInputs 42 = .ok (.iload 5, 2) := by decide +kernel
theorem dX3_tryInputs_44 : decode cX3_tryInputs 44 = .ok (.bipush 12, 2) := by decide +kernel
theorem dX3_tryInputs_46 : decode cX3_tryInputs 46 = .ok (.irem, 1) := by decide +kernel
theorem dX3_tryInputs_47 : decode cX3_tryInputs 47 = .ok (.iload 5, 2) := by decide +kernel
theorem dX3_tryInputs_49 : decode cX3_tryInputs 49 = .ok (.bipush 12, 2) := by decide +kernel
theorem dX3_tryInputs_51 : decode cX3_tryInputs 51 = .ok (.idiv, 1) := by decide +kernel
theorem dX3_tryInputs_52 : decode cX3_tryInputs 52 = .ok (.iload_n 2, 1) := by decide +kernel
theorem dX3_tryInputs_53 : decode cX3_tryInputs 53 = .ok (.iconst 5, 1) := by decide +kernel
theorem dX3_tryInputs_54 : decode cX3_tryInputs 54 = .ok (.irem, 1) := by decide +kernel
theorem dX3_tryInputs_55 : decode cX3_tryInputs 55 = .ok (.invokevirtual 61, 3) := by decide +kernel
theorem dX3_tryInputs_58 : decode cX3_tryInputs 58 = .ok (.aload_n 0, 1) := by decide +kernel
theorem dX3_tryInputs_59 : decode cX3_tryInputs 59 = .ok (.getfield 24, 3) := by decide +kernel
theorem dX3_tryInputs_62 : decode cX3_tryInputs 62 = .ok (.aload_n 1, 1) := by decide +kernel
theorem dX3_tryInputs_63 : decode cX3_tryInputs 63 = .ok (.iload 6, 2) := by decide +kernel
theorem dX3_tryInputs_65 : decode cX3_tryInputs 65 = .ok (.invokevirtual 65, 3) := by decide +kernel
theorem dX3_tryInputs_68 : decode cX3_tryInputs 68 = .ok (.istore 7, 2) := by decide +kernel
theorem dX3_tryInputs_70 : decode cX3_tryInputs 70 = .ok (.iload 4, 2) := by decide +kernel
theorem dX3_tryInputs_72 : decode cX3_tryInputs 72 = .ok (.iconst (-1), 1) := by decide +kernel
theorem dX3_tryInputs_73 : decode cX3_tryInputs 73 = .ok (.if_icmp .ne 8, 3) := by decide +kernel
theorem dX3_tryInputs_76 : decode cX3_tryInputs 76 = .ok (.iload 6, 2) := by decide +kernel
theorem dX3_tryInputs_78 : decode cX3_tryInputs 78 = .ok (.goto 5, 3) := by decide +kernel
theorem dX3_tryInputs_81 : decode cX3_tryInputs 81 = .ok (.iload 4, 2) := by decide +kernel
theorem dX3_tryInputs_83 : decode cX3_tryInputs 83 = .ok (.istore 8, 2) := by decide +kernel
theorem dX3_tryInputs_85 : decode cX3_tryInputs 85 = .ok (.iload 7, 2) := by decide +kernel
theorem dX3_tryInputs_87 : decode cX3_tryInputs 87 = .ok (.iconst 2, 1) := by decide +kernel
theorem dX3_tryInputs_88 : decode cX3_tryInputs 88 = .ok (.if_icmp .ne 15, 3) := by decide +kernel
theorem dX3_tryInputs_91 : decode cX3_tryInputs 91 = .ok (.aload_n 0, 1) := by decide +kernel
theorem dX3_tryInputs_92 : decode cX3_tryInputs 92 = .ok (.iload_n 3, 1) := by decide +kernel
theorem dX3_tryInputs_93 : decode cX3_tryInputs 93 = .ok (.putfield 32, 3) := by decide +kernel
theorem dX3_tryInputs_96 : decode cX3_tryInputs 96 = .ok (.aload_n 0, 1) := by decide +kernel
theorem dX3_tryInputs_97 : decode cX3_tryInputs 97 = .ok (.iload 8, 2) := by decide +kernel
theorem dX3_tryInputs_99 : decode cX3_tryInputs 99 = .ok (.putfield 35, 3) := by decide +kernel
theorem dX3_tryInputs_102 : decode cX3_tryInputs 102 = .ok (.return_, 1) := by decide +kernel
theorem dX3_tryInputs_103 : decode cX3_tryInputs 103 = .ok (.iload 7, 2) := by decide +kernel
theorem dX3_tryInputs_105 : decode cX3_tryInputs 105 = .ok (.ifCond .ne 14, 3) := by decide +kernel
theorem dX3_tryInputs_108 : decode cX3_tryInputs 108 = .ok (.aload_n 0, 1) := by decide +kernel
theorem dX3_tryInputs_109 : decode cX3_tryInputs 109 = .ok (.aload_n 0, 1) := by decide +kernel
theorem dX3_tryInputs_110 : decode cX3_tryInputs 110 = .ok (.getfield 24, 3) := by decide +kernel
theorem dX3_tryInputs_113 : decode cX3_tryInputs 113 = .ok (.iload_n 3, 1) := by decide +kernel
theorem dX3_tryInputs_114 : decode cX3_tryInputs 114 = .ok (.iload 8, 2) := by decide +kernel
theorem dX3_tryInputs_116 : decode cX3_tryInputs 116 = .ok (.invokevirtual 44, 3) := by decide +kernel
theorem dX3_tryInputs_119 : decode cX3_tryInputs 119 = .ok (.iinc 6 1, 3) := by decide +kernel
theorem dX3_tryInputs_122 : decode cX3_tryInputs 122 = .ok (.goto (-91), 3) := by decide +kernel
theorem dX3_tryInputs_125 : decode cX3_tryInputs 125 = .ok (.return_, 1) := by decide +kernel
theorem dX4_init_0 : decode cX4_init 0 = .ok (.aload_n 0, 1) := by decide +kernel
theorem dX4_init_1 : decode cX4_init 1 = .ok (.invokespecial 3, 3) := by decide +kernel
theorem dX4_init_4 : decode cX4_init 4 = .ok (.aload_n 0, 1) := by decide +kernel
theorem dX4_init_5 : decode cX4_init 5 = .ok (.bipush 100, 2) := by decide +kernel
theorem dX4_init_7 : decode cX4_init 7 = .ok (.newarray .int, 2) := by decide +kernel
theorem dX4_init_9 : decode cX4_init 9 = .ok (.putfield 9, 3) := by decide +kernel
theorem dX4_init_12 : decode cX4_init 12 = .ok (.aload_n 0, 1) := by decide +kernel
theorem dX4_init_13 : decode cX4_init 13 = .ok (.iconst (-1), 1) := by decide +kernel
theorem dX4_init_14 : decode cX4_init 14 = .ok (.putfield 15, 3) := by decide +kernel
theorem dX4_init_17 : decode cX4_init 17 = .ok (.aload_n 0, 1) := by decide +kernel
theorem dX4_init_18 : decode cX4_init 18 = .ok (.iconst (-1), 1) := by decide +kernel
theorem dX4_init_19 : decode cX4_init 19 = .ok (.putfield 19, 3) := by decide +kernel
theorem dX4_init_22 : decode cX4_init 22 = .ok (.return_, 1) := by decide +kernel
theorem dX4_clear_0 : decode cX4_clear 0 = .ok (.aload_n 0, 1) := by decide +kernel
theorem dX4_clear_1 : decode cX4_clear 1 = .ok (.iconst (-1), 1) := by decide +kernel
theorem dX4_clear_2 : decode cX4_clear 2 = .ok (.putfield 15, 3) := by decide +kernel
theorem dX4_clear_5 : decode cX4_clear 5 = .ok (.aload_n 0, 1) := by decide +kernel
theorem dX4_clear_6 : decode cX4_clear 6 = .ok (.iconst (-1), 1) := by decide +kernel
theorem dX4_clear_7 : decode cX4_clear 7 = .ok (.putfield 19, 3) := by decide +kernel
theorem dX4_clear_10 : decode cX4_clear 10 = .ok (.return_, 1) := by decide +kernel
theorem dX4_rewind_0 : decode cX4_rewind 0 = .ok (.aload_n 0, 1) := by decide +kernel
theorem dX4_rewind_1 : decode cX4_rewind 1 = .ok (.iconst 0, 1) := by decide +kernel
theorem dX4_rewind_2 : decode cX4_rewind 2 = .ok (.putfield 15, 3) := by decide +kernel
theorem dX4_rewind_5 : decode cX4_rewind 5 = .ok (.aload_n 0, 1) := by decide +kernel
theorem dX4_rewind_6 : decode cX4_rewind 6 = .ok (.iconst (-1), 1) := by decide +kernel
theorem dX4_rewind_7 : decode cX4_rewind 7 = .ok (.putfield 19, 3) := by decide +kernel
theorem dX4_rewind_10 : decode cX4_rewind 10 = .ok (.return_, 1) := by decide +kernel
theorem dX4_append_0 : decode cX4_append 0 = .ok (.aload_n 0, 1) := by decide +kernel
theorem dX4_append_1 : decode cX4_append 1 = .ok (.getfield 15, 3) := by decide +kernel
theorem dX4_append_4 : decode cX4_append 4 = .ok (.ifCond .lt 35, 3) := by decide +kernel
theorem dX4_append_7 : decode cX4_append 7 = .ok (.aload_n 0, 1) := by decide +kernel
theorem dX4_append_8 : decode cX4_append 8 = .ok (.getfield 15, 3) := by decide +kernel
theorem dX4_append_11 : decode cX4_append 11 = .ok (.aload_n 0, 1) := by decide +kernel
theorem dX4_append_12 : decode cX4_append 12 = .ok (.getfield 9, 3) := by decide +kernel
theorem dX4_append_15 : decode cX4_append 15 = .ok (.arraylength, 1) := by decide +kernel
theorem dX4_append_16 : decode cX4_append 16 = .ok (.if_icmp .ge 23, 3) := by decide +kernel
theorem dX4_append_19 : decode cX4_append 19 = .ok (.aload_n 0, 1) := by decide +kernel
theorem dX4_append_20 : decode cX4_append 20 = .ok (.getfield 9, 3) := by decide +kernel
theorem dX4_append_23 : decode cX4_append 23 = .ok (.aload_n 0, 1) := by decide +kernel
theorem dX4_append_24 : decode cX4_append 24 = .ok (.getfield 15, 3) := by decide +kernel
theorem dX4_append_27 : decode cX4_append 27 = .ok (.iload_n 1, 1) := by decide +kernel
theorem dX4_append_28 : decode cX4_append 28 = .ok (.iastore, 1) := by decide +kernel
theorem dX4_append_29 : decode cX4_append 29 = .ok (.aload_n 0, 1) := by decide +kernel
theorem dX4_append_30 : decode cX4_append 30 = .ok (.dup, 1) := by decide +kernel
theorem dX4_append_31 : decode cX4_append 31 = .ok (.getfield 15, 3) := by decide +kernel
theorem dX4_append_34 : decode cX4_append 34 = .ok (.iconst 1, 1) := by decide +kernel
theorem dX4_append_35 : decode cX4_append 35 = .ok (.iadd, 1) := by decide +kernel
theorem dX4_append_36 : decode cX4_append 36 = .ok (.putfield 15, 3) := by decide +kernel
theorem dX4_append_39 : decode cX4_append 39 = .ok (.return_, 1) := by decide +kernel
theorem dX4_inputOf_0 : decode cX4_inputOf 0 = .ok (.iload_n 1, 1) := by decide +kernel
theorem dX4_inputOf_1 : decode cX4_inputOf 1 = .ok (.ifCond .lt 21, 3) := by decide +kernel
theorem dX4_inputOf_4 : decode cX4_inputOf 4 = .ok (.iload_n 1, 1) := by decide +kernel
theorem dX4_inputOf_5 : decode cX4_inputOf 5 = .ok (.aload_n 0, 1) := by decide +kernel
theorem dX4_inputOf_6 : decode cX4_inputOf 6 = .ok (.getfield 9, 3) := by decide +kernel
theorem dX4_inputOf_9 : decode cX4_inputOf 9 = .ok (.arraylength, 1) := by decide +kernel
theorem dX4_inputOf_10 : decode cX4_inputOf 10 = .ok (.if_icmp .ge 12, 3) := by decide +kernel
theorem dX4_inputOf_13 : decode cX4_inputOf 13 = .ok (.aload_n 0, 1) := by decide +kernel
theorem dX4_inputOf_14 : decode cX4_inputOf 14 = .ok (.getfield 9, 3) := by decide +kernel
theorem dX4_inputOf_17 : decode cX4_inputOf 17 = .ok (.iload_n 1, 1) := by decide +kernel
theorem dX4_inputOf_18 : decode cX4_inputOf 18 = .ok (.iaload, 1) := by decide +kernel
theorem dX4_inputOf_19 : decode cX4_inputOf 19 = .ok (.goto 4, 3) := by decide +kernel
theorem dX4_inputOf_22 : decode cX4_inputOf 22 = .ok (.iconst 0, 1) := by decide +kernel
theorem dX4_inputOf_23 : decode cX4_inputOf 23 = .ok (.ireturn, 1) := by decide +kernel
theorem dX4_noteColumn_0 : decode cX4_noteColumn 0 = .ok (.aload_n 0, 1) := by decide +kernel
theorem dX4_noteColumn_1 : decode cX4_noteColumn 1 = .ok (.getfield 19, 3) := by decide +kernel
theorem dX4_noteColumn_4 : decode cX4_noteColumn 4 = .ok (.iconst (-1), 1) := by decide +kernel
theorem dX4_noteColumn_5 : decode cX4_noteColumn 5 = .ok (.if_icmp .ne 18, 3) := by decide +kernel
theorem dX4_noteColumn_8 : decode cX4_noteColumn 8 = .ok (.iload_n 1, 1) := by decide +kernel
theorem dX4_noteColumn_9 : decode cX4_noteColumn 9 = .ok (.iconst 2, 1) := by decide +kernel
theorem dX4_noteColumn_10 : decode cX4_noteColumn 10 = .ok (.imul, 1) := by decide +kernel
theorem dX4_noteColumn_11 : decode cX4_noteColumn 11 = .ok (.iload_n 2, 1) := by decide +kernel
theorem dX4_noteColumn_12 : decode cX4_noteColumn 12 = .ok (.if_icmp .lt 11, 3) := by decide +kernel
theorem dX4_noteColumn_15 : decode cX4_noteColumn 15 = .ok (.aload_n 0, 1) := by decide +kernel
theorem dX4_noteColumn_16 : decode cX4_noteColumn 16 = .ok (.aload_n 0, 1) := by decide +kernel
theorem dX4_noteColumn_17 : decode cX4_noteColumn 17 = .ok (.getfield 15, 3) := by decide +kernel
theorem dX4_noteColumn_20 : decode cX4_noteColumn 20 = .ok (.putfield 19, 3) := by decide +kernel
theorem dX4_noteColumn_23 : decode cX4_noteColumn 23 = .ok (.return_, 1) := by decide +kernel
theorem dX4_copy_0 : decode cX4_copy 0 = .ok (.iconst 0, 1) := by decide +kernel
theorem dX4_copy_1 : decode cX4_copy 1 = .ok (.istore_n 2, 1) := by decide +kernel
theorem dX4_copy_2 : decode cX4_copy 2 = .ok (.iload_n 2, 1) := by decide +kernel
theorem dX4_copy_3 : decode cX4_copy 3 = .ok (.bipush 100, 2) := by decide +kernel
theorem dX4_copy_5 : decode cX4_copy 5 = .ok (.if_icmp .ge 21, 3) := by decide +kernel
theorem dX4_copy_8 : decode cX4_copy 8 = .ok (.aload_n 0, 1) := by decide +kernel
theorem dX4_copy_9 : decode cX4_copy 9 = .ok (.getfield 9, 3) := by decide +kernel
theorem dX4_copy_12 : decode cX4_copy 12 = .ok (.iload_n 2, 1) := by decide +kernel
theorem dX4_copy_13 : decode cX4_copy 13 = .ok (.aload_n 1, 1) := by decide +kernel
theorem dX4_copy_14 : decode cX4_copy 14 = .ok (.getfield 9, 3) := by decide +kernel
theorem dX4_copy_17 : decode cX4_copy 17 = .ok (.iload_n 2, 1) := by decide +kernel
theorem dX4_copy_18 : decode cX4_copy 18 = .ok (.iaload, 1) := by decide +kernel
theorem dX4_copy_19 : decode cX4_copy 19 = .ok (.iastore, 1) := by decide +kernel
theorem dX4_copy_20 : decode cX4_copy 20 = .ok (.iinc 2 1, 3) := by decide +kernel
theorem dX4_copy_23 : decode cX4_copy 23 = .ok (.goto (-21), 3) := by decide +kernel
theorem dX4_copy_26 : decode cX4_copy 26 = .ok (.aload_n 0, 1) := by decide +kernel
theorem dX4_copy_27 : decode cX4_copy 27 = .ok (.aload_n 1, 1) := by decide +kernel
theorem dX4_copy_28 : decode cX4_copy 28 = .ok (.getfield 15, 3) := by decide +kernel
theorem dX4_copy_31 : decode cX4_copy 31 = .ok (.putfield 15, 3) := by decide +kernel
theorem dX4_copy_34 : decode cX4_copy 34 = .ok (.aload_n 0, 1) := by decide +kernel
theorem dX4_copy_35 : decode cX4_copy 35 = .ok (.aload_n 1, 1) := by decide +kernel
theorem dX4_copy_36 : decode cX4_copy 36 = .ok (.getfield 19, 3) := by decide +kernel
theorem dX4_copy_39 : decode cX4_copy 39 = .ok (.putfield 19, 3) := by decide +kernel
theorem dX4_copy_42 : decode cX4_copy 42 = .ok (.return_, 1) := by decide +kernel
set_option maxRecDepth 20000 in
theorem ggX5_init_X2_init : GoodIn wsX5_init wsX2_init := goodIn_r _ [21, 22, 2, 3, 23, 12, 13, 24, 25, 26, 27, 28, 29, 30, 31, 32, 33, 34, 35, 36, 37, 38, 39, 40, 41, 42, 65, 66, 67, 60, 61, 62, 63, 64, 75, 76, 77] (by decide +kernel) (by decide +kernel)
set_option maxRecDepth 20000 in
theorem gX5_init_X2_init : GoodIn wsX5_init (wsX2_init) := ggX5_init_X2_init
set_option maxRecDepth 20000 in
theorem ggX5_init_X0_init : GoodIn wsX5_init wsX0_init := goodIn_r _ [33, 34, 2, 3] (by decide +kernel) (by decide +kernel)
set_option maxRecDepth 20000 in
theorem gX5_init_X0_init_n28 : GoodIn wsX5_init (wsX0_init) := ggX5_init_X0_init
set_option maxRecDepth 20000 in
theorem ggX5_init_X3_init : GoodIn wsX5_init wsX3_init := goodIn_r _ [45, 46, 2, 3, 39, 47, 48, 49, 50, 12, 13, 51, 52, 53, 54, 32, 33, 34, 68, 69, 70, 71, 72, 73, 74, 65, 66, 67] (by decide +kernel) (by decide +kernel)
set_option maxRecDepth 20000 in
theorem gX5_init_X3_init : GoodIn wsX5_init (wsX3_init) := ggX5_init_X3_init
theorem dX5_init_0 : decode cX5_init 0 = .ok (.aload_n 0, 1) := by decide +kernel
theorem dX5_init_1 : decode cX5_init 1 = .ok (.invokespecial 3, 3) := by decide +kernel
theorem dX5_init_4 : decode cX5_init 4 = .ok (.aload_n 0, 1) := by decide +kernel
theorem dX5_init_5 : decode cX5_init 5 = .ok (.bipush 6, 2) := by decide +kernel
theorem dX5_init_7 : decode cX5_init 7 = .ok (.anewarray 9, 3) := by decide +kernel
theorem dX5_init_10 : decode cX5_init 10 = .ok (.putfield 11, 3) := by decide +kernel
theorem dX5_init_13 : decode cX5_init 13 = .ok (.aload_n 0, 1) := by decide +kernel
theorem dX5_init_14 : decode cX5_init 14 = .ok (.iconst 0, 1) := by decide +kernel
theorem dX5_init_15 : decode cX5_init 15 = .ok (.putfield 15, 3) := by decide +kernel
theorem dX5_init_18 : decode cX5_init 18 = .ok (.aload_n 0, 1) := by decide +kernel
theorem dX5_init_19 : decode cX5_init 19 = .ok (.new 19, 3) := by decide +kernel
theorem dX5_init_22 : decode cX5_init 22 = .ok (.dup, 1) := by decide +kernel
theorem dX5_init_23 : decode cX5_init 23 = .ok (.invokespecial 21, 3) := by decide +kernel
theorem dX5_init_26 : decode cX5_init 26 = .ok (.putfield 22, 3) := by decide +kernel
theorem dX5_init_29 : decode cX5_init 29 = .ok (.aload_n 0, 1) := by decide +kernel
theorem dX5_init_30 : decode cX5_init 30 = .ok (.new 26, 3) := by decide +kernel
theorem dX5_init_33 : decode cX5_init 33 = .ok (.dup, 1) := by decide +kernel
theorem dX5_init_34 : decode cX5_init 34 = .ok (.invokespecial 28, 3) := by decide +kernel
theorem dX5_init_37 : decode cX5_init 37 = .ok (.putfield 29, 3) := by decide +kernel
theorem dX5_init_40 : decode cX5_init 40 = .ok (.aload_n 0, 1) := by decide +kernel
theorem dX5_init_41 : decode cX5_init 41 = .ok (.new 33, 3) := by decide +kernel
theorem dX5_init_44 : decode cX5_init 44 = .ok (.dup, 1) := by decide +kernel
theorem dX5_init_45 : decode cX5_init 45 = .ok (.invokespecial 35, 3) := by decide +kernel
theorem dX5_init_48 : decode cX5_init 48 = .ok (.putfield 36, 3) := by decide +kernel
theorem dX5_init_51 : decode cX5_init 51 = .ok (.return_, 1) := by decide +kernel
set_option maxRecDepth 20000 in
theorem ggX5_addLevel_X1_init : GoodIn wsX5_addLevel wsX1_init := goodIn_r _ [12, 13, 14, 15, 16, 17, 18, 19, 20, 21, 22, 23, 24, 25, 26, 27, 28, 29, 30, 31, 32, 9, 33, 34, 35, 36, 37, 38, 39, 40, 41, 42, 43, 44, 50, 51, 52, 53, 54, 55, 56, 57, 58, 59, 60, 61, 62] (by decide +kernel) (by decide +kernel)
set_option maxRecDepth 20000 in
theorem gX5_addLevel_X1_init : GoodIn wsX5_addLevel (wsX1_init) := ggX5_addLevel_X1_init
theorem dX5_addLevel_0 : decode cX5_addLevel 0 = .ok (.iload_n 1, 1) := by decide +kernel
theorem dX5_addLevel_1 : decode cX5_addLevel 1 = .ok (.iconst 2, 1) := by decide +kernel
theorem dX5_addLevel_2 : decode cX5_addLevel 2 = .ok (.if_icmp .lt 20, 3) := by decide +kernel
theorem dX5_addLevel_5 : decode cX5_addLevel 5 = .ok (.iload_n 1, 1) := by decide +kernel
theorem dX5_addLevel_6 : decode cX5_addLevel 6 = .ok (.bipush 12, 2) := by decide +kernel
theorem dX5_addLevel_8 : decode cX5_addLevel 8 = .ok (.if_icmp .gt 14, 3) := by decide +kernel
theorem dX5_addLevel_11 : decode cX5_addLevel 11 = .ok (.iload_n 2, 1) := by decide +kernel
theorem dX5_addLevel_12 : decode cX5_addLevel 12 = .ok (.iconst 2, 1) := by decide +kernel
theorem dX5_addLevel_13 : decode cX5_addLevel 13 = .ok (.if_icmp .lt 9, 3) := by decide +kernel
theorem dX5_addLevel_16 : decode cX5_addLevel 16 = .ok (.iload_n 2, 1) := by decide +kernel
theorem dX5_addLevel_17 : decode cX5_addLevel 17 = .ok (.bipush 8, 2) := by decide +kernel
theorem dX5_addLevel_19 : decode cX5_addLevel 19 = .ok (.if_icmp .le 13, 3) := by decide +kernel
theorem dX5_addLevel_22 : decode cX5_addLevel 22 = .ok (.new 40, 3) := by decide +kernel
theorem dX5_addLevel_25 : decode cX5_addLevel 25 = .ok (.dup, 1) := by decide +kernel
theorem dX5_addLevel_26 : decode cX5_addLevel 26 = .ok (.ldc 42, 2) := by decide +kernel
theorem dX5_addLevel_28 : decode cX5_addLevel 28 = .ok (.invokespecial 44, 3) := by decide +kernel
theorem dX5_addLevel_31 : decode cX5_addLevel 31 = .ok (.athrow, 1) := by decide +kernel
theorem dX5_addLevel_32 : decode cX5_addLevel 32 = .ok (.aload_n 0, 1) := by decide +kernel
theorem dX5_addLevel_33 : decode cX5_addLevel 33 = .ok (.getfield 15, 3) := by decide +kernel
theorem dX5_addLevel_36 : decode cX5_addLevel 36 = .ok (.ifCond .lt 15, 3) := by decide +kernel
theorem dX5_addLevel_39 : decode cX5_addLevel 39 = .ok (.aload_n 0, 1) := by decide +kernel
theorem dX5_addLevel_40 : decode cX5_addLevel 40 = .ok (.getfield 15, 3) := by decide +kernel
theorem dX5_addLevel_43 : decode cX5_addLevel 43 = .ok (.aload_n 0, 1) := by decide +kernel
theorem dX5_addLevel_44 : decode cX5_addLevel 44 = .ok (.getfield 11, 3) := by decide +kernel
theorem dX5_addLevel_47 : decode cX5_addLevel 47 = .ok (.arraylength, 1) := by decide +kernel
theorem dX5_addLevel_48 : decode cX5_addLevel 48 = .ok (.if_icmp .lt 13, 3) := by decide +kernel
theorem dX5_addLevel_51 : decode cX5_addLevel 51 = .ok (.new 47, 3) := by decide +kernel
theorem dX5_addLevel_54 : decode cX5_addLevel 54 = .ok (.dup, 1) := by decide +kernel
theorem dX5_addLevel_55 : decode cX5_addLevel 55 = .ok (.ldc 49, 2) := by decide +kernel
theorem dX5_addLevel_57 : decode cX5_addLevel 57 = .ok (.invokespecial 51, 3) := by decide +kernel
theorem dX5_addLevel_60 : decode cX5_addLevel 60 = .ok (.athrow, 1) := by decide +kernel
theorem dX5_addLevel_61 : decode cX5_addLevel 61 = .ok (.aload_n 0, 1) := by decide +kernel
theorem dX5_addLevel_62 : decode cX5_addLevel 62 = .ok (.getfield 15, 3) := by decide +kernel
theorem dX5_addLevel_65 : decode cX5_addLevel 65 = .ok (.istore_n 3, 1) := by decide +kernel
theorem dX5_addLevel_66 : decode cX5_addLevel 66 = .ok (.aload_n 0, 1) := by decide +kernel
theorem dX5_addLevel_67 : decode cX5_addLevel 67 = .ok (.getfield 11, 3) := by decide +kernel
theorem dX5_addLevel_70 : decode cX5_addLevel 70 = .ok (.iload_n 3, 1) := by decide +kernel
theorem dX5_addLevel_71 : decode cX5_addLevel 71 = .ok (.new 9, 3) := by decide +kernel
theorem dX5_addLevel_74 : decode cX5_addLevel 74 = .ok (.dup, 1) := by decide +kernel
theorem dX5_addLevel_75 : decode cX5_addLevel 75 = .ok (.iload_n 1, 1) := by decide +kernel
theorem dX5_addLevel_76 : decode cX5_addLevel 76 = .ok (.iload_n 2, 1) := by decide +kernel
theorem dX5_addLevel_77 : decode cX5_addLevel 77 = .ok (.invokespecial 52, 3) := by decide +kernel
theorem dX5_addLevel_80 : decode cX5_addLevel 80 = .ok (.aastore, 1) := by decide +kernel
theorem dX5_addLevel_81 : decode cX5_addLevel 81 = .ok (.aload_n 0, 1) := by decide +kernel
theorem dX5_addLevel_82 : decode cX5_addLevel 82 = .ok (.iload_n 3, 1) := by decide +kernel
theorem dX5_addLevel_83 : decode cX5_addLevel 83 = .ok (.iconst 1, 1) := by decide +kernel
theorem dX5_addLevel_84 : decode cX5_addLevel 84 = .ok (.iadd, 1) := by decide +kernel
theorem dX5_addLevel_85 : decode cX5_addLevel 85 = .ok (.putfield 15, 3) := by decide +kernel
theorem dX5_addLevel_88 : decode cX5_addLevel 88 = .ok (.iload_n 3, 1) := by decide +kernel
theorem dX5_addLevel_89 : decode cX5_addLevel 89 = .ok (.ireturn, 1) := by decide +kernel
set_option maxRecDepth 20000 in
theorem ggX5_setCell_X5_levelWithCell : GoodIn wsX5_setCell wsX5_levelWithCell := goodIn_ca (goodIn_r _ [9, 10, 11, 12, 13, 14, 8, 15, 16, 17, 18, 19, 20, 21, 22, 23, 24, 62, 63, 64, 65, 66, 67, 68, 69, 70, 71, 72, 73, 74, 75, 76] (by decide +kernel) (by decide +kernel)) (goodIn_sub (fun _ h => List.mem_cons_of_mem _ (List.mem_append_right _ h)) (by decide +kernel))
set_option maxRecDepth 20000 in
theorem gX5_setCell_X5_levelWithCell : GoodIn wsX5_setCell (wsV RX5 55 RX5 yX5_levelWithCell wsX5_levelWithCell) := goodIn_app (goodIn_of _ (by decide +kernel)) ggX5_setCell_X5_levelWithCell
set_option maxRecDepth 20000 in
theorem ggX5_setCell_X1_startsAt : GoodIn wsX5_setCell wsX1_startsAt := goodIn_r _ [28, 29, 30, 67, 68, 69, 70, 71, 72, 73, 74, 75, 76] (by decide +kernel) (by decide +kernel)
set_option maxRecDepth 20000 in
theorem gX5_setCell_X1_startsAt : GoodIn wsX5_setCell (wsV RX5 61 RX1 yX1_startsAt wsX1_startsAt) := goodIn_app (goodIn_of _ (by decide +kernel)) ggX5_setCell_X1_startsAt
set_option maxRecDepth 20000 in
theorem ggX5_setCell_X1_flagAt : GoodIn wsX5_setCell wsX1_flagAt := goodIn_r _ [34, 35, 36, 67, 68, 69, 70, 71, 72, 73, 74, 75, 76] (by decide +kernel) (by decide +kernel)
set_option maxRecDepth 20000 in
theorem gX5_setCell_X1_flagAt : GoodIn wsX5_setCell (wsV RX5 65 RX1 yX1_flagAt wsX1_flagAt) := goodIn_app (goodIn_of _ (by decide +kernel)) ggX5_setCell_X1_flagAt
set_option maxRecDepth 20000 in
theorem ggX5_setCell_X1_kindAt : GoodIn wsX5_setCell wsX1_kindAt := goodIn_r _ [21, 22, 23, 24, 67, 68, 69, 70, 71, 72, 73, 74, 75, 76] (by decide +kernel) (by decide +kernel)
set_option maxRecDepth 20000 in
theorem gX5_setCell_X1_kindAt : GoodIn wsX5_setCell (wsV RX5 70 RX1 yX1_kindAt wsX1_kindAt) := goodIn_app (goodIn_of _ (by decide +kernel)) ggX5_setCell_X1_kindAt
set_option maxRecDepth 20000 in
theorem ggX5_setCell_X1_put : GoodIn wsX5_setCell wsX1_put := goodIn_r _ [40, 24, 41, 18, 19, 20, 21, 22, 23, 67, 68, 69, 70, 71, 72, 73, 74, 75, 76] (by decide +kernel) (by decide +kernel)
set_option maxRecDepth 20000 in
theorem gX5_setCell_X1_put : GoodIn wsX5_setCell (wsV RX5 74 RX1 yX1_put wsX1_put) := goodIn_app (goodIn_of _ (by decide +kernel)) ggX5_setCell_X1_put
set_option maxRecDepth 20000 in
theorem ggX5_setCell_X5_voidWhatWasFound : GoodIn wsX5_setCell wsX5_voidWhatWasFound := goodIn_r _ [45, 46, 47, 48, 49, 50, 20, 51, 52, 53, 54, 55, 56, 57, 58, 59, 60, 61, 62, 63, 64, 65, 66, 77, 78, 79, 80, 81, 67, 68, 69, 70, 71, 72, 73, 74, 75, 76, 82, 83, 84] (by decide +kernel) (by decide +kernel)
set_option maxRecDepth 20000 in
theorem gX5_setCell_X5_voidWhatWasFound : GoodIn wsX5_setCell (wsV RX5 78 RX5 yX5_voidWhatWasFound wsX5_voidWhatWasFound) := goodIn_app (goodIn_of _ (by decide +kernel)) ggX5_setCell_X5_voidWhatWasFound
theorem dX5_setCell_0 : decode cX5_setCell 0 = .ok (.aload_n 0, 1) := by decide +kernel
theorem dX5_setCell_1 : decode cX5_setCell 1 = .ok (.iload_n 1, 1) := by decide +kernel
theorem dX5_setCell_2 : decode cX5_setCell 2 = .ok (.iload_n 2, 1) := by decide +kernel
theorem dX5_setCell_3 : decode cX5_setCell 3 = .ok (.iload_n 3, 1) := by decide +kernel
theorem dX5_setCell_4 : decode cX5_setCell 4 = .ok (.invokevirtual 55, 3) := by decide +kernel
theorem dX5_setCell_7 : decode cX5_setCell 7 = .ok (.astore 5, 2) := by decide +kernel
theorem dX5_setCell_9 : decode cX5_setCell 9 = .ok (.iload 4, 2) := by decide +kernel
theorem dX5_setCell_11 : decode cX5_setCell 11 = .ok (.ifCond .lt 9, 3) := by decide +kernel
theorem dX5_setCell_14 : decode cX5_setCell 14 = .ok (.iload 4, 2) := by decide +kernel
theorem dX5_setCell_16 : decode cX5_setCell 16 = .ok (.iconst 3, 1) := by decide +kernel
theorem dX5_setCell_17 : decode cX5_setCell 17 = .ok (.if_icmp .le 13, 3) := by decide +kernel
theorem dX5_setCell_20 : decode cX5_setCell 20 = .ok (.new 40, 3) := by decide +kernel
theorem dX5_setCell_23 : decode cX5_setCell 23 = .ok (.dup, 1) := by decide +kernel
theorem dX5_setCell_24 : decode cX5_setCell 24 = .ok (.ldc 59, 2) := by decide +kernel
theorem dX5_setCell_26 : decode cX5_setCell 26 = .ok (.invokespecial 44, 3) := by decide +kernel
theorem dX5_setCell_29 : decode cX5_setCell 29 = .ok (.athrow, 1) := by decide +kernel
theorem dX5_setCell_30 : decode cX5_setCell 30 = .ok (.iload 4, 2) := by decide +kernel
theorem dX5_setCell_32 : decode cX5_setCell 32 = .ok (.iconst 1, 1) := by decide +kernel
theorem dX5_setCell_33 : decode cX5_setCell 33 = .ok (.if_icmp .ne 33, 3) := by decide +kernel
theorem dX5_setCell_36 : decode cX5_setCell 36 = .ok (.aload 5, 2) := by decide +kernel
theorem dX5_setCell_38 : decode cX5_setCell 38 = .ok (.iload_n 2, 1) := by decide +kernel
theorem dX5_setCell_39 : decode cX5_setCell 39 = .ok (.iload_n 3, 1) := by decide +kernel
theorem dX5_setCell_40 : decode cX5_setCell 40 = .ok (.invokevirtual 61, 3) := by decide +kernel
theorem dX5_setCell_43 : decode cX5_setCell 43 = .ok (.ifCond .ne 13, 3) := by decide +kernel
theorem dX5_setCell_46 : decode cX5_setCell 46 = .ok (.aload 5, 2) := by decide +kernel
theorem dX5_setCell_48 : decode cX5_setCell 48 = .ok (.iload_n 2, 1) := by decide +kernel
theorem dX5_setCell_49 : decode cX5_setCell 49 = .ok (.iload_n 3, 1) := by decide +kernel
theorem dX5_setCell_50 : decode cX5_setCell 50 = .ok (.invokevirtual 65, 3) := by decide +kernel
theorem dX5_setCell_53 : decode cX5_setCell 53 = .ok (.ifCond .eq 13, 3) := by decide +kernel
theorem dX5_setCell_56 : decode cX5_setCell 56 = .ok (.new 47, 3) := by decide +kernel
theorem dX5_setCell_59 : decode cX5_setCell 59 = .ok (.dup, 1) := by decide +kernel
theorem dX5_setCell_60 : decode cX5_setCell 60 = .ok (.ldc 68, 2) := by decide +kernel
theorem dX5_setCell_62 : decode cX5_setCell 62 = .ok (.invokespecial 51, 3) := by decide +kernel
theorem dX5_setCell_65 : decode cX5_setCell 65 = .ok (.athrow, 1) := by decide +kernel
theorem dX5_setCell_66 : decode cX5_setCell 66 = .ok (.aload 5, 2) := by decide +kernel
theorem dX5_setCell_68 : decode cX5_setCell 68 = .ok (.iload_n 2, 1) := by decide +kernel
theorem dX5_setCell_69 : decode cX5_setCell 69 = .ok (.iload_n 3, 1) := by decide +kernel
theorem dX5_setCell_70 : decode cX5_setCell 70 = .ok (.invokevirtual 70, 3) := by decide +kernel
theorem dX5_setCell_73 : decode cX5_setCell 73 = .ok (.istore 6, 2) := by decide +kernel
theorem dX5_setCell_75 : decode cX5_setCell 75 = .ok (.aload 5, 2) := by decide +kernel
theorem dX5_setCell_77 : decode cX5_setCell 77 = .ok (.iload_n 2, 1) := by decide +kernel
theorem dX5_setCell_78 : decode cX5_setCell 78 = .ok (.iload_n 3, 1) := by decide +kernel
theorem dX5_setCell_79 : decode cX5_setCell 79 = .ok (.iload 4, 2) := by decide +kernel
theorem dX5_setCell_81 : decode cX5_setCell 81 = .ok (.invokevirtual 74, 3) := by decide +kernel
theorem dX5_setCell_84 : decode cX5_setCell 84 = .ok (.aload_n 0, 1) := by decide +kernel
theorem dX5_setCell_85 : decode cX5_setCell 85 = .ok (.aload 5, 2) := by decide +kernel
theorem dX5_setCell_87 : decode cX5_setCell 87 = .ok (.invokevirtual 78, 3) := by decide +kernel
theorem dX5_setCell_90 : decode cX5_setCell 90 = .ok (.iload 6, 2) := by decide +kernel
theorem dX5_setCell_92 : decode cX5_setCell 92 = .ok (.ireturn, 1) := by decide +kernel
set_option maxRecDepth 20000 in
theorem ggX5_setStart_X5_levelWithoutBlockAt : GoodIn wsX5_setStart wsX5_levelWithoutBlockAt := goodIn_ca (goodIn_ca (goodIn_r _ [7, 8, 9, 10, 11, 12, 6, 13, 14, 15, 16, 17, 18, 19, 20, 21, 22, 23, 24, 25, 26, 27, 28, 59, 60, 61, 62, 63, 49, 50, 51, 52, 53, 54, 55, 56, 57, 58] (by decide +kernel) (by decide +kernel)) (goodIn_sub (fun _ h => List.mem_cons_of_mem _ (List.mem_append_left _ (List.mem_append_right _ h))) (by decide +kernel))) (goodIn_sub (fun _ h => List.mem_cons_of_mem _ (List.mem_append_right _ h)) (by decide +kernel))
set_option maxRecDepth 20000 in
theorem gX5_setStart_X5_levelWithoutBlockAt : GoodIn wsX5_setStart (wsV RX5 82 RX5 yX5_levelWithoutBlockAt wsX5_levelWithoutBlockAt) := goodIn_app (goodIn_of _ (by decide +kernel)) ggX5_setStart_X5_levelWithoutBlockAt
set_option maxRecDepth 20000 in
theorem ggX5_setStart_X5_voidWhatWasFound : GoodIn wsX5_setStart wsX5_voidWhatWasFound := goodIn_r _ [32, 33, 34, 35, 36, 37, 24, 38, 39, 40, 41, 42, 43, 44, 45, 46, 47, 48, 59, 60, 61, 62, 63, 64, 65, 66, 67, 68, 49, 50, 51, 52, 53, 54, 55, 56, 57, 58, 69, 70, 71] (by decide +kernel) (by decide +kernel)
set_option maxRecDepth 20000 in
theorem gX5_setStart_X5_voidWhatWasFound : GoodIn wsX5_setStart (wsV RX5 78 RX5 yX5_voidWhatWasFound wsX5_voidWhatWasFound) := goodIn_app (goodIn_of _ (by decide +kernel)) ggX5_setStart_X5_voidWhatWasFound
theorem dX5_setStart_0 : decode cX5_setStart 0 = .ok (.aload_n 0, 1) := by decide +kernel
theorem dX5_setStart_1 : decode cX5_setStart 1 = .ok (.iload_n 1, 1) := by decide +kernel
theorem dX5_setStart_2 : decode cX5_setStart 2 = .ok (.iload_n 2, 1) := by decide +kernel
theorem dX5_setStart_3 : decode cX5_setStart 3 = .ok (.iload_n 3, 1) := by decide +kernel
theorem dX5_setStart_4 : decode cX5_setStart 4 = .ok (.invokevirtual 82, 3) := by decide +kernel
theorem dX5_setStart_7 : decode cX5_setStart 7 = .ok (.astore 4, 2) := by decide +kernel
theorem dX5_setStart_9 : decode cX5_setStart 9 = .ok (.aload 4, 2) := by decide +kernel
theorem dX5_setStart_11 : decode cX5_setStart 11 = .ok (.iload_n 2, 1) := by decide +kernel
theorem dX5_setStart_12 : decode cX5_setStart 12 = .ok (.putfield 85, 3) := by decide +kernel
theorem dX5_setStart_15 : decode cX5_setStart 15 = .ok (.aload 4, 2) := by decide +kernel
theorem dX5_setStart_17 : decode cX5_setStart 17 = .ok (.iload_n 3, 1) := by decide +kernel
theorem dX5_setStart_18 : decode cX5_setStart 18 = .ok (.putfield 88, 3) := by decide +kernel
theorem dX5_setStart_21 : decode cX5_setStart 21 = .ok (.aload_n 0, 1) := by decide +kernel
theorem dX5_setStart_22 : decode cX5_setStart 22 = .ok (.aload 4, 2) := by decide +kernel
theorem dX5_setStart_24 : decode cX5_setStart 24 = .ok (.invokevirtual 78, 3) := by decide +kernel
theorem dX5_setStart_27 : decode cX5_setStart 27 = .ok (.return_, 1) := by decide +kernel
set_option maxRecDepth 20000 in
theorem ggX5_setFlag_X5_levelWithoutBlockAt : GoodIn wsX5_setFlag wsX5_levelWithoutBlockAt := goodIn_ca (goodIn_ca (goodIn_r _ [7, 8, 9, 10, 11, 12, 6, 13, 14, 15, 16, 17, 18, 19, 20, 21, 22, 23, 24, 25, 26, 27, 28, 59, 60, 61, 62, 63, 49, 50, 51, 52, 53, 54, 55, 56, 57, 58] (by decide +kernel) (by decide +kernel)) (goodIn_sub (fun _ h => List.mem_cons_of_mem _ (List.mem_append_left _ (List.mem_append_right _ h))) (by decide +kernel))) (goodIn_sub (fun _ h => List.mem_cons_of_mem _ (List.mem_append_right _ h)) (by decide +kernel))
set_option maxRecDepth 20000 in
theorem gX5_setFlag_X5_levelWithoutBlockAt : GoodIn wsX5_setFlag (wsV RX5 82 RX5 yX5_levelWithoutBlockAt wsX5_levelWithoutBlockAt) := goodIn_app (goodIn_of _ (by decide +kernel)) ggX5_setFlag_X5_levelWithoutBlockAt
set_option maxRecDepth 20000 in
theorem ggX5_setFlag_X5_voidWhatWasFound : GoodIn wsX5_setFlag wsX5_voidWhatWasFound := goodIn_r _ [32, 33, 34, 35, 36, 37, 24, 38, 39, 40, 41, 42, 43, 44, 45, 46, 47, 48, 59, 60, 61, 62, 63, 64, 65, 66, 67, 68, 49, 50, 51, 52, 53, 54, 55, 56, 57, 58, 69, 70, 71] (by decide +kernel) (by decide +kernel)
set_option maxRecDepth 20000 in
theorem gX5_setFlag_X5_voidWhatWasFound : GoodIn wsX5_setFlag (wsV RX5 78 RX5 yX5_voidWhatWasFound wsX5_voidWhatWasFound) := goodIn_app (goodIn_of _ (by decide +kernel)) ggX5_setFlag_X5_voidWhatWasFound
theorem dX5_setFlag_0 : decode cX5_setFlag 0 = .ok (.aload_n 0, 1) := by decide +kernel
theorem dX5_setFlag_1 : decode cX5_setFlag 1 = .ok (.iload_n 1, 1) := by decide +kernel
theorem dX5_setFlag_2 : decode cX5_setFlag 2 = .ok (.iload_n 2, 1) := by decide +kernel
theorem dX5_setFlag_3 : decode cX5_setFlag 3 = .ok (.iload_n 3, 1) := by decide +kernel
theorem dX5_setFlag_4 : decode cX5_setFlag 4 = .ok (.invokevirtual 82, 3) := by decide +kernel
theorem dX5_setFlag_7 : decode cX5_setFlag 7 = .ok (.astore 4, 2) := by decide +kernel
theorem dX5_setFlag_9 : decode cX5_setFlag 9 = .ok (.aload 4, 2) := by decide +kernel
theorem dX5_setFlag_11 : decode cX5_setFlag 11 = .ok (.iload_n 2, 1) := by decide +kernel
theorem dX5_setFlag_12 : decode cX5_setFlag 12 = .ok (.putfield 91, 3) := by decide +kernel
theorem dX5_setFlag_15 : decode cX5_setFlag 15 = .ok (.aload 4, 2) := by decide +kernel
theorem dX5_setFlag_17 : decode cX5_setFlag 17 = .ok (.iload_n 3, 1) := by decide +kernel
theorem dX5_setFlag_18 : decode cX5_setFlag 18 = .ok (.putfield 94, 3) := by decide +kernel
theorem dX5_setFlag_21 : decode cX5_setFlag 21 = .ok (.aload_n 0, 1) := by decide +kernel
theorem dX5_setFlag_22 : decode cX5_setFlag 22 = .ok (.aload 4, 2) := by decide +kernel
theorem dX5_setFlag_24 : decode cX5_setFlag 24 = .ok (.invokevirtual 78, 3) := by decide +kernel
theorem dX5_setFlag_27 : decode cX5_setFlag 27 = .ok (.return_, 1) := by decide +kernel
set_option maxRecDepth 20000 in
theorem ggX5_grow_X5_levelNumbered : GoodIn wsX5_grow wsX5_levelNumbered := goodIn_ca (goodIn_r _ [8, 9, 10, 11, 60, 61, 62, 63, 64] (by decide +kernel) (by decide +kernel)) (goodIn_sub (fun _ h => List.mem_cons_of_mem _ (List.mem_append_right _ h)) (by decide +kernel))
set_option maxRecDepth 20000 in
theorem gX5_grow_X5_levelNumbered : GoodIn wsX5_grow (wsV RX5 97 RX5 yX5_levelNumbered wsX5_levelNumbered) := goodIn_app (goodIn_of _ (by decide +kernel)) ggX5_grow_X5_levelNumbered
set_option maxRecDepth 20000 in
theorem ggX5_grow_X1_fillBySeed : GoodIn wsX5_grow wsX1_fillBySeed := goodIn_r _ [16, 17, 18, 19, 20, 21, 22, 23, 24, 25, 15, 26, 27, 28, 29, 30, 31, 32, 33, 34, 35, 65, 66, 67, 68, 69, 70, 71, 72, 73, 74] (by decide +kernel) (by decide +kernel)
set_option maxRecDepth 20000 in
theorem gX5_grow_X1_fillBySeed : GoodIn wsX5_grow (wsV RX5 104 RX1 yX1_fillBySeed wsX1_fillBySeed) := goodIn_app (goodIn_of _ (by decide +kernel)) ggX5_grow_X1_fillBySeed
set_option maxRecDepth 20000 in
theorem ggX5_grow_X5_voidWhatWasFound : GoodIn wsX5_grow wsX5_voidWhatWasFound := goodIn_r _ [39, 40, 41, 42, 43, 44, 15, 45, 46, 47, 48, 49, 50, 51, 52, 53, 54, 55, 60, 61, 62, 63, 64, 75, 76, 77, 78, 79, 65, 66, 67, 68, 69, 70, 71, 72, 73, 74, 80, 81, 82] (by decide +kernel) (by decide +kernel)
set_option maxRecDepth 20000 in
theorem gX5_grow_X5_voidWhatWasFound : GoodIn wsX5_grow (wsV RX5 78 RX5 yX5_voidWhatWasFound wsX5_voidWhatWasFound) := goodIn_app (goodIn_of _ (by decide +kernel)) ggX5_grow_X5_voidWhatWasFound
set_option maxRecDepth 20000 in
theorem ggX5_grow_X1_countBlocks : GoodIn wsX5_grow wsX1_countBlocks := goodIn_r _ [59, 17, 18, 32, 33, 34, 15, 35, 31, 65, 66, 67, 68, 69, 70, 71, 72, 73, 74] (by decide +kernel) (by decide +kernel)
set_option maxRecDepth 20000 in
theorem gX5_grow_X1_countBlocks : GoodIn wsX5_grow (wsV RX5 108 RX1 yX1_countBlocks wsX1_countBlocks) := goodIn_app (goodIn_of _ (by decide +kernel)) ggX5_grow_X1_countBlocks
theorem dX5_grow_0 : decode cX5_grow 0 = .ok (.aload_n 0, 1) := by decide +kernel
theorem dX5_grow_1 : decode cX5_grow 1 = .ok (.iload_n 1, 1) := by decide +kernel
theorem dX5_grow_2 : decode cX5_grow 2 = .ok (.invokevirtual 97, 3) := by decide +kernel
theorem dX5_grow_5 : decode cX5_grow 5 = .ok (.astore_n 3, 1) := by decide +kernel
theorem dX5_grow_6 : decode cX5_grow 6 = .ok (.iload_n 2, 1) := by decide +kernel
theorem dX5_grow_7 : decode cX5_grow 7 = .ok (.ifCond .lt 9, 3) := by decide +kernel
theorem dX5_grow_10 : decode cX5_grow 10 = .ok (.iload_n 2, 1) := by decide +kernel
theorem dX5_grow_11 : decode cX5_grow 11 = .ok (.ldc 101, 2) := by decide +kernel
theorem dX5_grow_13 : decode cX5_grow 13 = .ok (.if_icmp .le 13, 3) := by decide +kernel
theorem dX5_grow_16 : decode cX5_grow 16 = .ok (.new 40, 3) := by decide +kernel
theorem dX5_grow_19 : decode cX5_grow 19 = .ok (.dup, 1) := by decide +kernel
theorem dX5_grow_20 : decode cX5_grow 20 = .ok (.ldc 102, 2) := by decide +kernel
theorem dX5_grow_22 : decode cX5_grow 22 = .ok (.invokespecial 44, 3) := by decide +kernel
theorem dX5_grow_25 : decode cX5_grow 25 = .ok (.athrow, 1) := by decide +kernel
theorem dX5_grow_26 : decode cX5_grow 26 = .ok (.aload_n 3, 1) := by decide +kernel
theorem dX5_grow_27 : decode cX5_grow 27 = .ok (.iload_n 2, 1) := by decide +kernel
theorem dX5_grow_28 : decode cX5_grow 28 = .ok (.invokevirtual 104, 3) := by decide +kernel
theorem dX5_grow_31 : decode cX5_grow 31 = .ok (.aload_n 0, 1) := by decide +kernel
theorem dX5_grow_32 : decode cX5_grow 32 = .ok (.aload_n 3, 1) := by decide +kernel
theorem dX5_grow_33 : decode cX5_grow 33 = .ok (.invokevirtual 78, 3) := by decide +kernel
theorem dX5_grow_36 : decode cX5_grow 36 = .ok (.aload_n 3, 1) := by decide +kernel
theorem dX5_grow_37 : decode cX5_grow 37 = .ok (.invokevirtual 108, 3) := by decide +kernel
theorem dX5_grow_40 : decode cX5_grow 40 = .ok (.ireturn, 1) := by decide +kernel
set_option maxRecDepth 20000 in
theorem ggX5_cell_X5_levelWithCell : GoodIn wsX5_cell wsX5_levelWithCell := goodIn_ca (goodIn_r _ [5, 6, 7, 8, 9, 10, 4, 11, 12, 13, 14, 15, 16, 17, 18, 19, 20, 21, 22, 23, 24, 25, 26, 27, 28, 29, 30, 31, 32, 33, 34, 35] (by decide +kernel) (by decide +kernel)) (goodIn_sub (fun _ h => List.mem_cons_of_mem _ (List.mem_append_right _ h)) (by decide +kernel))
set_option maxRecDepth 20000 in
theorem gX5_cell_X5_levelWithCell : GoodIn wsX5_cell (wsV RX5 55 RX5 yX5_levelWithCell wsX5_levelWithCell) := goodIn_app (goodIn_of _ (by decide +kernel)) ggX5_cell_X5_levelWithCell
set_option maxRecDepth 20000 in
theorem ggX5_cell_X1_kindAt : GoodIn wsX5_cell wsX1_kindAt := goodIn_r _ [17, 18, 19, 20, 26, 27, 28, 29, 30, 31, 32, 33, 34, 35] (by decide +kernel) (by decide +kernel)
set_option maxRecDepth 20000 in
theorem gX5_cell_X1_kindAt : GoodIn wsX5_cell (wsV RX5 70 RX1 yX1_kindAt wsX1_kindAt) := goodIn_app (goodIn_of _ (by decide +kernel)) ggX5_cell_X1_kindAt
theorem dX5_cell_0 : decode cX5_cell 0 = .ok (.aload_n 0, 1) := by decide +kernel
theorem dX5_cell_1 : decode cX5_cell 1 = .ok (.iload_n 1, 1) := by decide +kernel
theorem dX5_cell_2 : decode cX5_cell 2 = .ok (.iload_n 2, 1) := by decide +kernel
theorem dX5_cell_3 : decode cX5_cell 3 = .ok (.iload_n 3, 1) := by decide +kernel
theorem dX5_cell_4 : decode cX5_cell 4 = .ok (.invokevirtual 55, 3) := by decide +kernel
theorem dX5_cell_7 : decode cX5_cell 7 = .ok (.iload_n 2, 1) := by decide +kernel
theorem dX5_cell_8 : decode cX5_cell 8 = .ok (.iload_n 3, 1) := by decide +kernel
theorem dX5_cell_9 : decode cX5_cell 9 = .ok (.invokevirtual 70, 3) := by decide +kernel
theorem dX5_cell_12 : decode cX5_cell 12 = .ok (.ireturn, 1) := by decide +kernel
theorem dX5_levels_0 : decode cX5_levels 0 = .ok (.aload_n 0, 1) := by decide +kernel
theorem dX5_levels_1 : decode cX5_levels 1 = .ok (.getfield 15, 3) := by decide +kernel
theorem dX5_levels_4 : decode cX5_levels 4 = .ok (.ireturn, 1) := by decide +kernel
set_option maxRecDepth 20000 in
theorem ggX5_solve_X5_levelNumbered : GoodIn wsX5_solve wsX5_levelNumbered := goodIn_ca (goodIn_r _ [9, 10, 11, 12, 93, 94, 95, 96, 97] (by decide +kernel) (by decide +kernel)) (goodIn_sub (fun _ h => List.mem_cons_of_mem _ (List.mem_append_right _ h)) (by decide +kernel))
set_option maxRecDepth 20000 in
theorem gX5_solve_X5_levelNumbered : GoodIn wsX5_solve (wsV RX5 97 RX5 yX5_levelNumbered wsX5_levelNumbered) := goodIn_app (goodIn_of _ (by decide +kernel)) ggX5_solve_X5_levelNumbered
set_option maxRecDepth 20000 in
theorem ggX5_solve_X0_toStart : GoodIn wsX5_solve wsX0_toStart := goodIn_r _ [17, 18, 19, 20, 21, 22, 16, 23, 24, 25, 26, 105, 106, 107, 108, 109, 110, 111, 112, 113, 114, 115, 116, 117] (by decide +kernel) (by decide +kernel)
set_option maxRecDepth 20000 in
theorem gX5_solve_X0_toStart : GoodIn wsX5_solve (wsV RX5 112 RX0 yX0_toStart wsX0_toStart) := goodIn_app (goodIn_of _ (by decide +kernel)) ggX5_solve_X0_toStart
set_option maxRecDepth 20000 in
theorem ggX5_solve_X3_findWin : GoodIn wsX5_solve wsX3_findWin := goodIn_r _ [31, 32, 33, 34, 35, 36, 37, 38, 30, 39, 40, 41, 42, 43, 44, 45, 46, 47, 48, 49, 50, 51, 52, 53, 54, 55, 56, 57, 58, 21, 22, 16, 23, 24, 25, 26, 59, 60, 61, 62, 63, 64, 65, 66, 67, 68, 69, 70, 71, 72, 73, 74, 75, 76, 77, 78, 79, 80, 81, 82, 83, 84, 85, 86, 87, 88, 89, 90, 91, 92, 98, 99, 100, 101, 102, 103, 104, 115, 116, 117, 105, 106, 107, 108, 109, 110, 111, 112, 113, 114] (by decide +kernel) (by decide +kernel)
set_option maxRecDepth 20000 in
theorem gX5_solve_X3_findWin : GoodIn wsX5_solve (wsV RX5 115 RX3 yX3_findWin wsX3_findWin) := goodIn_app (goodIn_of _ (by decide +kernel)) ggX5_solve_X3_findWin
theorem dX5_solve_0 : decode cX5_solve 0 = .ok (.aload_n 0, 1) := by decide +kernel
theorem dX5_solve_1 : decode cX5_solve 1 = .ok (.iload_n 1, 1) := by decide +kernel
theorem dX5_solve_2 : decode cX5_solve 2 = .ok (.invokevirtual 97, 3) := by decide +kernel
theorem dX5_solve_5 : decode cX5_solve 5 = .ok (.astore_n 2, 1) := by decide +kernel
theorem dX5_solve_6 : decode cX5_solve 6 = .ok (.aload_n 0, 1) := by decide +kernel
theorem dX5_solve_7 : decode cX5_solve 7 = .ok (.getfield 29, 3) := by decide +kernel
theorem dX5_solve_10 : decode cX5_solve 10 = .ok (.aload_n 2, 1) := by decide +kernel
theorem dX5_solve_11 : decode cX5_solve 11 = .ok (.invokevirtual 112, 3) := by decide +kernel
theorem dX5_solve_14 : decode cX5_solve 14 = .ok (.aload_n 0, 1) := by decide +kernel
theorem dX5_solve_15 : decode cX5_solve 15 = .ok (.getfield 36, 3) := by decide +kernel
theorem dX5_solve_18 : decode cX5_solve 18 = .ok (.aload_n 2, 1) := by decide +kernel
theorem dX5_solve_19 : decode cX5_solve 19 = .ok (.aload_n 0, 1) := by decide +kernel
theorem dX5_solve_20 : decode cX5_solve 20 = .ok (.getfield 29, 3) := by decide +kernel
theorem dX5_solve_23 : decode cX5_solve 23 = .ok (.bipush 100, 2) := by decide +kernel
theorem dX5_solve_25 : decode cX5_solve 25 = .ok (.invokevirtual 115, 3) := by decide +kernel
theorem dX5_solve_28 : decode cX5_solve 28 = .ok (.aload_n 2, 1) := by decide +kernel
theorem dX5_solve_29 : decode cX5_solve 29 = .ok (.aload_n 0, 1) := by decide +kernel
theorem dX5_solve_30 : decode cX5_solve 30 = .ok (.getfield 36, 3) := by decide +kernel
theorem dX5_solve_33 : decode cX5_solve 33 = .ok (.getfield 119, 3) := by decide +kernel
theorem dX5_solve_36 : decode cX5_solve 36 = .ok (.putfield 122, 3) := by decide +kernel
theorem dX5_solve_39 : decode cX5_solve 39 = .ok (.aload_n 2, 1) := by decide +kernel
theorem dX5_solve_40 : decode cX5_solve 40 = .ok (.getfield 122, 3) := by decide +kernel
theorem dX5_solve_43 : decode cX5_solve 43 = .ok (.ireturn, 1) := by decide +kernel
set_option maxRecDepth 20000 in
theorem ggX5_way_X5_levelNumbered : GoodIn wsX5_way wsX5_levelNumbered := goodIn_ca (goodIn_r _ [6, 7, 8, 9, 20, 21, 22, 23, 24] (by decide +kernel) (by decide +kernel)) (goodIn_sub (fun _ h => List.mem_cons_of_mem _ (List.mem_append_right _ h)) (by decide +kernel))
set_option maxRecDepth 20000 in
theorem gX5_way_X5_levelNumbered : GoodIn wsX5_way (wsV RX5 97 RX5 yX5_levelNumbered wsX5_levelNumbered) := goodIn_app (goodIn_of _ (by decide +kernel)) ggX5_way_X5_levelNumbered
theorem dX5_way_0 : decode cX5_way 0 = .ok (.aload_n 0, 1) := by decide +kernel
theorem dX5_way_1 : decode cX5_way 1 = .ok (.iload_n 1, 1) := by decide +kernel
theorem dX5_way_2 : decode cX5_way 2 = .ok (.invokevirtual 97, 3) := by decide +kernel
theorem dX5_way_5 : decode cX5_way 5 = .ok (.getfield 122, 3) := by decide +kernel
theorem dX5_way_8 : decode cX5_way 8 = .ok (.ireturn, 1) := by decide +kernel
set_option maxRecDepth 20000 in
theorem ggX5_open_X5_levelNumbered : GoodIn wsX5_open wsX5_levelNumbered := goodIn_ca (goodIn_r _ [9, 10, 11, 12, 23, 24, 25, 26, 27] (by decide +kernel) (by decide +kernel)) (goodIn_sub (fun _ h => List.mem_cons_of_mem _ (List.mem_append_right _ h)) (by decide +kernel))
set_option maxRecDepth 20000 in
theorem gX5_open_X5_levelNumbered : GoodIn wsX5_open (wsV RX5 97 RX5 yX5_levelNumbered wsX5_levelNumbered) := goodIn_app (goodIn_of _ (by decide +kernel)) ggX5_open_X5_levelNumbered
theorem dX5_open_0 : decode cX5_open 0 = .ok (.aload_n 0, 1) := by decide +kernel
theorem dX5_open_1 : decode cX5_open 1 = .ok (.iload_n 1, 1) := by decide +kernel
theorem dX5_open_2 : decode cX5_open 2 = .ok (.invokevirtual 97, 3) := by decide +kernel
theorem dX5_open_5 : decode cX5_open 5 = .ok (.astore_n 2, 1) := by decide +kernel
theorem dX5_open_6 : decode cX5_open 6 = .ok (.aload_n 2, 1) := by decide +kernel
theorem dX5_open_7 : decode cX5_open 7 = .ok (.getfield 122, 3) := by decide +kernel
theorem dX5_open_10 : decode cX5_open 10 = .ok (.iconst (-1), 1) := by decide +kernel
theorem dX5_open_11 : decode cX5_open 11 = .ok (.if_icmp .ne 13, 3) := by decide +kernel
theorem dX5_open_14 : decode cX5_open 14 = .ok (.new 47, 3) := by decide +kernel
theorem dX5_open_17 : decode cX5_open 17 = .ok (.dup, 1) := by decide +kernel
theorem dX5_open_18 : decode cX5_open 18 = .ok (.ldc 123, 2) := by decide +kernel
theorem dX5_open_20 : decode cX5_open 20 = .ok (.invokespecial 51, 3) := by decide +kernel
theorem dX5_open_23 : decode cX5_open 23 = .ok (.athrow, 1) := by decide +kernel
theorem dX5_open_24 : decode cX5_open 24 = .ok (.aload_n 2, 1) := by decide +kernel
theorem dX5_open_25 : decode cX5_open 25 = .ok (.getfield 125, 3) := by decide +kernel
theorem dX5_open_28 : decode cX5_open 28 = .ok (.istore_n 3, 1) := by decide +kernel
theorem dX5_open_29 : decode cX5_open 29 = .ok (.aload_n 2, 1) := by decide +kernel
theorem dX5_open_30 : decode cX5_open 30 = .ok (.iconst 1, 1) := by decide +kernel
theorem dX5_open_31 : decode cX5_open 31 = .ok (.putfield 125, 3) := by decide +kernel
theorem dX5_open_34 : decode cX5_open 34 = .ok (.iload_n 3, 1) := by decide +kernel
theorem dX5_open_35 : decode cX5_open 35 = .ok (.ireturn, 1) := by decide +kernel
set_option maxRecDepth 20000 in
theorem ggX5_isOpen_X5_levelNumbered : GoodIn wsX5_isOpen wsX5_levelNumbered := goodIn_ca (goodIn_r _ [6, 7, 8, 9, 20, 21, 22, 23, 24] (by decide +kernel) (by decide +kernel)) (goodIn_sub (fun _ h => List.mem_cons_of_mem _ (List.mem_append_right _ h)) (by decide +kernel))
set_option maxRecDepth 20000 in
theorem gX5_isOpen_X5_levelNumbered : GoodIn wsX5_isOpen (wsV RX5 97 RX5 yX5_levelNumbered wsX5_levelNumbered) := goodIn_app (goodIn_of _ (by decide +kernel)) ggX5_isOpen_X5_levelNumbered
theorem dX5_isOpen_0 : decode cX5_isOpen 0 = .ok (.aload_n 0, 1) := by decide +kernel
theorem dX5_isOpen_1 : decode cX5_isOpen 1 = .ok (.iload_n 1, 1) := by decide +kernel
theorem dX5_isOpen_2 : decode cX5_isOpen 2 = .ok (.invokevirtual 97, 3) := by decide +kernel
theorem dX5_isOpen_5 : decode cX5_isOpen 5 = .ok (.getfield 125, 3) := by decide +kernel
theorem dX5_isOpen_8 : decode cX5_isOpen 8 = .ok (.ireturn, 1) := by decide +kernel
set_option maxRecDepth 20000 in
theorem ggX5_begin_X5_levelNumbered : GoodIn wsX5_begin wsX5_levelNumbered := goodIn_ca (goodIn_r _ [13, 1, 2, 14, 62, 63, 64, 65, 66] (by decide +kernel) (by decide +kernel)) (goodIn_sub (fun _ h => List.mem_cons_of_mem _ (List.mem_append_left _ (List.mem_append_right _ h))) (by decide +kernel))
set_option maxRecDepth 20000 in
theorem gX5_begin_X5_levelNumbered : GoodIn wsX5_begin (wsV RX5 97 RX5 yX5_levelNumbered wsX5_levelNumbered) := goodIn_app (goodIn_of _ (by decide +kernel)) ggX5_begin_X5_levelNumbered
set_option maxRecDepth 20000 in
theorem ggX5_begin_X2_start : GoodIn wsX5_begin wsX2_start := goodIn_r _ [19, 20, 21, 22, 23, 24, 25, 26, 27, 28, 29, 30, 31, 32, 33, 34, 35, 36, 37, 38, 39, 40, 41, 42, 43, 44, 45, 46, 47, 48, 49, 50, 51, 67, 68, 69, 70, 71, 72, 73, 74, 52, 53, 54, 55, 56, 57, 58, 59, 60, 61, 75, 76, 77] (by decide +kernel) (by decide +kernel)
set_option maxRecDepth 20000 in
theorem gX5_begin_X2_start : GoodIn wsX5_begin (wsV RX5 136 RX2 yX2_start wsX2_start) := goodIn_app (goodIn_of _ (by decide +kernel)) ggX5_begin_X2_start
theorem dX5_begin_0 : decode cX5_begin 0 = .ok (.iload_n 1, 1) := by decide +kernel
theorem dX5_begin_1 : decode cX5_begin 1 = .ok (.ifCond .lt 8, 3) := by decide +kernel
theorem dX5_begin_4 : decode cX5_begin 4 = .ok (.iload_n 1, 1) := by decide +kernel
theorem dX5_begin_5 : decode cX5_begin 5 = .ok (.iconst 4, 1) := by decide +kernel
theorem dX5_begin_6 : decode cX5_begin 6 = .ok (.if_icmp .lt 13, 3) := by decide +kernel
theorem dX5_begin_9 : decode cX5_begin 9 = .ok (.new 129, 3) := by decide +kernel
theorem dX5_begin_12 : decode cX5_begin 12 = .ok (.dup, 1) := by decide +kernel
theorem dX5_begin_13 : decode cX5_begin 13 = .ok (.ldc 131, 2) := by decide +kernel
theorem dX5_begin_15 : decode cX5_begin 15 = .ok (.invokespecial 133, 3) := by decide +kernel
theorem dX5_begin_18 : decode cX5_begin 18 = .ok (.athrow, 1) := by decide +kernel
theorem dX5_begin_19 : decode cX5_begin 19 = .ok (.aload_n 0, 1) := by decide +kernel
theorem dX5_begin_20 : decode cX5_begin 20 = .ok (.iload_n 2, 1) := by decide +kernel
theorem dX5_begin_21 : decode cX5_begin 21 = .ok (.invokevirtual 97, 3) := by decide +kernel
theorem dX5_begin_24 : decode cX5_begin 24 = .ok (.astore_n 3, 1) := by decide +kernel
theorem dX5_begin_25 : decode cX5_begin 25 = .ok (.aload_n 3, 1) := by decide +kernel
theorem dX5_begin_26 : decode cX5_begin 26 = .ok (.getfield 125, 3) := by decide +kernel
theorem dX5_begin_29 : decode cX5_begin 29 = .ok (.ifCond .ne 13, 3) := by decide +kernel
theorem dX5_begin_32 : decode cX5_begin 32 = .ok (.new 47, 3) := by decide +kernel
theorem dX5_begin_35 : decode cX5_begin 35 = .ok (.dup, 1) := by decide +kernel
theorem dX5_begin_36 : decode cX5_begin 36 = .ok (.ldc 134, 2) := by decide +kernel
theorem dX5_begin_38 : decode cX5_begin 38 = .ok (.invokespecial 51, 3) := by decide +kernel
theorem dX5_begin_41 : decode cX5_begin 41 = .ok (.athrow, 1) := by decide +kernel
theorem dX5_begin_42 : decode cX5_begin 42 = .ok (.aload_n 0, 1) := by decide +kernel
theorem dX5_begin_43 : decode cX5_begin 43 = .ok (.getfield 22, 3) := by decide +kernel
theorem dX5_begin_46 : decode cX5_begin 46 = .ok (.iload_n 1, 1) := by decide +kernel
theorem dX5_begin_47 : decode cX5_begin 47 = .ok (.aload_n 3, 1) := by decide +kernel
theorem dX5_begin_48 : decode cX5_begin 48 = .ok (.invokevirtual 136, 3) := by decide +kernel
theorem dX5_begin_51 : decode cX5_begin 51 = .ok (.aload_n 0, 1) := by decide +kernel
theorem dX5_begin_52 : decode cX5_begin 52 = .ok (.getfield 22, 3) := by decide +kernel
theorem dX5_begin_55 : decode cX5_begin 55 = .ok (.getfield 140, 3) := by decide +kernel
theorem dX5_begin_58 : decode cX5_begin 58 = .ok (.getfield 143, 3) := by decide +kernel
theorem dX5_begin_61 : decode cX5_begin 61 = .ok (.ireturn, 1) := by decide +kernel
set_option maxRecDepth 20000 in
theorem ggX5_play_X2_advance : GoodIn wsX5_play wsX2_advance := goodIn_r _ [14, 15, 16, 17, 18, 19, 20, 21, 22, 23, 24, 25, 26, 27, 28, 29, 30, 31, 32, 33, 34, 35, 36, 37, 38, 39, 40, 41, 42, 43, 44, 45, 46, 47, 48, 49, 50, 51, 52, 53, 54, 55, 56, 57, 58, 59, 60, 61, 62, 63, 64, 65, 66, 67, 68, 69, 70, 90, 91, 92, 93, 94, 95, 96, 97, 98, 99, 100, 101, 102, 103, 104, 105, 106, 107, 108, 109, 110] (by decide +kernel) (by decide +kernel)
set_option maxRecDepth 20000 in
theorem gX5_play_X2_advance : GoodIn wsX5_play (wsV RX5 157 RX2 yX2_advance wsX2_advance) := goodIn_app (goodIn_of _ (by decide +kernel)) ggX5_play_X2_advance
set_option maxRecDepth 20000 in
theorem ggX5_play_X1_keepIfBetter : GoodIn wsX5_play wsX1_keepIfBetter := goodIn_r _ [74, 75, 76, 77, 78, 32, 79, 80, 81, 82, 83, 62, 84, 65, 64, 70, 108, 109, 110, 98, 99, 100, 101, 102, 103, 104, 105, 106, 107] (by decide +kernel) (by decide +kernel)
set_option maxRecDepth 20000 in
theorem gX5_play_X1_keepIfBetter : GoodIn wsX5_play (wsV RX5 168 RX1 yX1_keepIfBetter wsX1_keepIfBetter) := goodIn_app (goodIn_of _ (by decide +kernel)) ggX5_play_X1_keepIfBetter
theorem dX5_play_0 : decode cX5_play 0 = .ok (.iload_n 1, 1) := by decide +kernel
theorem dX5_play_1 : decode cX5_play 1 = .ok (.ifCond .lt 9, 3) := by decide +kernel
theorem dX5_play_4 : decode cX5_play 4 = .ok (.iload_n 1, 1) := by decide +kernel
theorem dX5_play_5 : decode cX5_play 5 = .ok (.bipush 6, 2) := by decide +kernel
theorem dX5_play_7 : decode cX5_play 7 = .ok (.if_icmp .lt 13, 3) := by decide +kernel
theorem dX5_play_10 : decode cX5_play 10 = .ok (.new 40, 3) := by decide +kernel
theorem dX5_play_13 : decode cX5_play 13 = .ok (.dup, 1) := by decide +kernel
theorem dX5_play_14 : decode cX5_play 14 = .ok (.ldc 146, 2) := by decide +kernel
theorem dX5_play_16 : decode cX5_play 16 = .ok (.invokespecial 44, 3) := by decide +kernel
theorem dX5_play_19 : decode cX5_play 19 = .ok (.athrow, 1) := by decide +kernel
theorem dX5_play_20 : decode cX5_play 20 = .ok (.aload_n 0, 1) := by decide +kernel
theorem dX5_play_21 : decode cX5_play 21 = .ok (.getfield 22, 3) := by decide +kernel
theorem dX5_play_24 : decode cX5_play 24 = .ok (.getfield 148, 3) := by decide +kernel
theorem dX5_play_27 : decode cX5_play 27 = .ok (.astore_n 2, 1) := by decide +kernel
theorem dX5_play_28 : decode cX5_play 28 = .ok (.aload_n 2, 1) := by decide +kernel
theorem dX5_play_29 : decode cX5_play 29 = .ok (.ifnull 13, 3) := by decide +kernel
theorem dX5_play_32 : decode cX5_play 32 = .ok (.aload_n 0, 1) := by decide +kernel
theorem dX5_play_33 : decode cX5_play 33 = .ok (.getfield 22, 3) := by decide +kernel
theorem dX5_play_36 : decode cX5_play 36 = .ok (.getfield 152, 3) := by decide +kernel
theorem dX5_play_39 : decode cX5_play 39 = .ok (.ifCond .eq 13, 3) := by decide +kernel
theorem dX5_play_42 : decode cX5_play 42 = .ok (.new 47, 3) := by decide +kernel
theorem dX5_play_45 : decode cX5_play 45 = .ok (.dup, 1) := by decide +kernel
theorem dX5_play_46 : decode cX5_play 46 = .ok (.ldc 155, 2) := by decide +kernel
theorem dX5_play_48 : decode cX5_play 48 = .ok (.invokespecial 51, 3) := by decide +kernel
theorem dX5_play_51 : decode cX5_play 51 = .ok (.athrow, 1) := by decide +kernel
theorem dX5_play_52 : decode cX5_play 52 = .ok (.aload_n 0, 1) := by decide +kernel
theorem dX5_play_53 : decode cX5_play 53 = .ok (.getfield 22, 3) := by decide +kernel
theorem dX5_play_56 : decode cX5_play 56 = .ok (.aload_n 2, 1) := by decide +kernel
theorem dX5_play_57 : decode cX5_play 57 = .ok (.iload_n 1, 1) := by decide +kernel
theorem dX5_play_58 : decode cX5_play 58 = .ok (.invokevirtual 157, 3) := by decide +kernel
theorem dX5_play_61 : decode cX5_play 61 = .ok (.aload_n 0, 1) := by decide +kernel
theorem dX5_play_62 : decode cX5_play 62 = .ok (.getfield 22, 3) := by decide +kernel
theorem dX5_play_65 : decode cX5_play 65 = .ok (.getfield 152, 3) := by decide +kernel
theorem dX5_play_68 : decode cX5_play 68 = .ok (.iconst 2, 1) := by decide +kernel
theorem dX5_play_69 : decode cX5_play 69 = .ok (.if_icmp .ne 21, 3) := by decide +kernel
theorem dX5_play_72 : decode cX5_play 72 = .ok (.aload_n 2, 1) := by decide +kernel
theorem dX5_play_73 : decode cX5_play 73 = .ok (.aload_n 0, 1) := by decide +kernel
theorem dX5_play_74 : decode cX5_play 74 = .ok (.getfield 22, 3) := by decide +kernel
theorem dX5_play_77 : decode cX5_play 77 = .ok (.getfield 161, 3) := by decide +kernel
theorem dX5_play_80 : decode cX5_play 80 = .ok (.aload_n 0, 1) := by decide +kernel
theorem dX5_play_81 : decode cX5_play 81 = .ok (.getfield 22, 3) := by decide +kernel
theorem dX5_play_84 : decode cX5_play 84 = .ok (.getfield 164, 3) := by decide +kernel
theorem dX5_play_87 : decode cX5_play 87 = .ok (.invokevirtual 168, 3) := by decide +kernel
theorem dX5_play_90 : decode cX5_play 90 = .ok (.aload_n 0, 1) := by decide +kernel
theorem dX5_play_91 : decode cX5_play 91 = .ok (.getfield 22, 3) := by decide +kernel
theorem dX5_play_94 : decode cX5_play 94 = .ok (.getfield 152, 3) := by decide +kernel
theorem dX5_play_97 : decode cX5_play 97 = .ok (.ireturn, 1) := by decide +kernel
theorem dX5_state_0 : decode cX5_state 0 = .ok (.aload_n 0, 1) := by decide +kernel
theorem dX5_state_1 : decode cX5_state 1 = .ok (.getfield 22, 3) := by decide +kernel
theorem dX5_state_4 : decode cX5_state 4 = .ok (.getfield 148, 3) := by decide +kernel
theorem dX5_state_7 : decode cX5_state 7 = .ok (.ifnonnull 7, 3) := by decide +kernel
theorem dX5_state_10 : decode cX5_state 10 = .ok (.iconst (-1), 1) := by decide +kernel
theorem dX5_state_11 : decode cX5_state 11 = .ok (.goto 10, 3) := by decide +kernel
theorem dX5_state_14 : decode cX5_state 14 = .ok (.aload_n 0, 1) := by decide +kernel
theorem dX5_state_15 : decode cX5_state 15 = .ok (.getfield 22, 3) := by decide +kernel
theorem dX5_state_18 : decode cX5_state 18 = .ok (.getfield 152, 3) := by decide +kernel
theorem dX5_state_21 : decode cX5_state 21 = .ok (.ireturn, 1) := by decide +kernel
theorem dX5_frames_0 : decode cX5_frames 0 = .ok (.aload_n 0, 1) := by decide +kernel
theorem dX5_frames_1 : decode cX5_frames 1 = .ok (.getfield 22, 3) := by decide +kernel
theorem dX5_frames_4 : decode cX5_frames 4 = .ok (.getfield 148, 3) := by decide +kernel
theorem dX5_frames_7 : decode cX5_frames 7 = .ok (.ifnonnull 7, 3) := by decide +kernel
theorem dX5_frames_10 : decode cX5_frames 10 = .ok (.iconst (-1), 1) := by decide +kernel
theorem dX5_frames_11 : decode cX5_frames 11 = .ok (.goto 13, 3) := by decide +kernel
theorem dX5_frames_14 : decode cX5_frames 14 = .ok (.aload_n 0, 1) := by decide +kernel
theorem dX5_frames_15 : decode cX5_frames 15 = .ok (.getfield 22, 3) := by decide +kernel
theorem dX5_frames_18 : decode cX5_frames 18 = .ok (.getfield 164, 3) := by decide +kernel
theorem dX5_frames_21 : decode cX5_frames 21 = .ok (.getfield 172, 3) := by decide +kernel
theorem dX5_frames_24 : decode cX5_frames 24 = .ok (.ireturn, 1) := by decide +kernel
theorem dX5_heroX_0 : decode cX5_heroX 0 = .ok (.aload_n 0, 1) := by decide +kernel
theorem dX5_heroX_1 : decode cX5_heroX 1 = .ok (.getfield 22, 3) := by decide +kernel
theorem dX5_heroX_4 : decode cX5_heroX 4 = .ok (.getfield 148, 3) := by decide +kernel
theorem dX5_heroX_7 : decode cX5_heroX 7 = .ok (.ifnonnull 7, 3) := by decide +kernel
theorem dX5_heroX_10 : decode cX5_heroX 10 = .ok (.iconst (-1), 1) := by decide +kernel
theorem dX5_heroX_11 : decode cX5_heroX 11 = .ok (.goto 13, 3) := by decide +kernel
theorem dX5_heroX_14 : decode cX5_heroX 14 = .ok (.aload_n 0, 1) := by decide +kernel
theorem dX5_heroX_15 : decode cX5_heroX 15 = .ok (.getfield 22, 3) := by decide +kernel
theorem dX5_heroX_18 : decode cX5_heroX 18 = .ok (.getfield 140, 3) := by decide +kernel
theorem dX5_heroX_21 : decode cX5_heroX 21 = .ok (.getfield 143, 3) := by decide +kernel
theorem dX5_heroX_24 : decode cX5_heroX 24 = .ok (.ireturn, 1) := by decide +kernel
theorem dX5_heroY_0 : decode cX5_heroY 0 = .ok (.aload_n 0, 1) := by decide +kernel
theorem dX5_heroY_1 : decode cX5_heroY 1 = .ok (.getfield 22, 3) := by decide +kernel
theorem dX5_heroY_4 : decode cX5_heroY 4 = .ok (.getfield 148, 3) := by decide +kernel
theorem dX5_heroY_7 : decode cX5_heroY 7 = .ok (.ifnonnull 7, 3) := by decide +kernel
theorem dX5_heroY_10 : decode cX5_heroY 10 = .ok (.iconst (-1), 1) := by decide +kernel
theorem dX5_heroY_11 : decode cX5_heroY 11 = .ok (.goto 13, 3) := by decide +kernel
theorem dX5_heroY_14 : decode cX5_heroY 14 = .ok (.aload_n 0, 1) := by decide +kernel
theorem dX5_heroY_15 : decode cX5_heroY 15 = .ok (.getfield 22, 3) := by decide +kernel
theorem dX5_heroY_18 : decode cX5_heroY 18 = .ok (.getfield 140, 3) := by decide +kernel
theorem dX5_heroY_21 : decode cX5_heroY 21 = .ok (.getfield 177, 3) := by decide +kernel
theorem dX5_heroY_24 : decode cX5_heroY 24 = .ok (.ireturn, 1) := by decide +kernel
theorem dX5_lift_0 : decode cX5_lift 0 = .ok (.aload_n 0, 1) := by decide +kernel
theorem dX5_lift_1 : decode cX5_lift 1 = .ok (.getfield 22, 3) := by decide +kernel
theorem dX5_lift_4 : decode cX5_lift 4 = .ok (.getfield 148, 3) := by decide +kernel
theorem dX5_lift_7 : decode cX5_lift 7 = .ok (.ifnonnull 7, 3) := by decide +kernel
theorem dX5_lift_10 : decode cX5_lift 10 = .ok (.iconst (-1), 1) := by decide +kernel
theorem dX5_lift_11 : decode cX5_lift 11 = .ok (.goto 13, 3) := by decide +kernel
theorem dX5_lift_14 : decode cX5_lift 14 = .ok (.aload_n 0, 1) := by decide +kernel
theorem dX5_lift_15 : decode cX5_lift 15 = .ok (.getfield 22, 3) := by decide +kernel
theorem dX5_lift_18 : decode cX5_lift 18 = .ok (.getfield 140, 3) := by decide +kernel
theorem dX5_lift_21 : decode cX5_lift 21 = .ok (.getfield 180, 3) := by decide +kernel
theorem dX5_lift_24 : decode cX5_lift 24 = .ok (.ireturn, 1) := by decide +kernel
set_option maxRecDepth 20000 in
theorem ggX5_left_X5_findWinOfRun : GoodIn wsX5_left wsX5_findWinOfRun := goodIn_r _ [7, 8, 9, 10, 1, 11, 12, 13, 14, 15, 16, 17, 18, 19, 20, 21, 22, 23, 24, 25, 26, 27, 28, 29, 30, 31, 32, 33, 34, 35, 36, 37, 38, 39, 40, 41, 42, 43, 44, 45, 46, 47, 48, 49, 50, 51, 52, 53, 54, 55, 56, 57, 58, 59, 60, 61, 62, 63, 64, 65, 66, 67, 68, 69, 70, 71, 72, 73, 74, 75, 76, 77, 78, 79, 80, 81, 82, 83, 84, 85, 86, 87, 88, 89, 90, 91, 92, 100, 101, 102, 103, 104, 105, 106, 107, 93, 94, 95, 96, 97, 98, 99, 108, 109, 110, 111, 112, 113, 114, 115, 116, 117, 118, 119, 120] (by decide +kernel) (by decide +kernel)
set_option maxRecDepth 20000 in
theorem gX5_left_X5_findWinOfRun : GoodIn wsX5_left (wsV RX5 183 RX5 yX5_findWinOfRun wsX5_findWinOfRun) := goodIn_app (goodIn_of _ (by decide +kernel)) ggX5_left_X5_findWinOfRun
theorem dX5_left_0 : decode cX5_left 0 = .ok (.aload_n 0, 1) := by decide +kernel
theorem dX5_left_1 : decode cX5_left 1 = .ok (.invokevirtual 183, 3) := by decide +kernel
theorem dX5_left_4 : decode cX5_left 4 = .ok (.aload_n 0, 1) := by decide +kernel
theorem dX5_left_5 : decode cX5_left 5 = .ok (.getfield 36, 3) := by decide +kernel
theorem dX5_left_8 : decode cX5_left 8 = .ok (.getfield 119, 3) := by decide +kernel
theorem dX5_left_11 : decode cX5_left 11 = .ok (.ireturn, 1) := by decide +kernel
set_option maxRecDepth 20000 in
theorem ggX5_hint_X5_findWinOfRun : GoodIn wsX5_hint wsX5_findWinOfRun := goodIn_r _ [7, 8, 9, 10, 1, 11, 12, 13, 14, 15, 16, 17, 18, 19, 20, 21, 22, 23, 24, 25, 26, 27, 28, 29, 30, 31, 32, 33, 34, 35, 36, 37, 38, 39, 40, 41, 42, 43, 44, 45, 46, 47, 48, 49, 50, 51, 52, 53, 54, 55, 56, 57, 58, 59, 60, 61, 62, 63, 64, 65, 66, 67, 68, 69, 70, 71, 72, 73, 74, 75, 76, 77, 78, 79, 80, 81, 82, 83, 84, 85, 86, 87, 88, 89, 90, 91, 92, 100, 101, 102, 103, 104, 105, 106, 107, 93, 94, 95, 96, 97, 98, 99, 108, 109, 110, 111, 112, 113, 114, 115, 116, 117, 118, 119, 120] (by decide +kernel) (by decide +kernel)
set_option maxRecDepth 20000 in
theorem gX5_hint_X5_findWinOfRun : GoodIn wsX5_hint (wsV RX5 183 RX5 yX5_findWinOfRun wsX5_findWinOfRun) := goodIn_app (goodIn_of _ (by decide +kernel)) ggX5_hint_X5_findWinOfRun
theorem dX5_hint_0 : decode cX5_hint 0 = .ok (.aload_n 0, 1) := by decide +kernel
theorem dX5_hint_1 : decode cX5_hint 1 = .ok (.invokevirtual 183, 3) := by decide +kernel
theorem dX5_hint_4 : decode cX5_hint 4 = .ok (.aload_n 0, 1) := by decide +kernel
theorem dX5_hint_5 : decode cX5_hint 5 = .ok (.getfield 36, 3) := by decide +kernel
theorem dX5_hint_8 : decode cX5_hint 8 = .ok (.getfield 186, 3) := by decide +kernel
theorem dX5_hint_11 : decode cX5_hint 11 = .ok (.ireturn, 1) := by decide +kernel
set_option maxRecDepth 20000 in
theorem ggX5_record_X5_tapeOf : GoodIn wsX5_record wsX5_tapeOf := goodIn_ca (goodIn_r _ [6, 7, 8, 9, 10, 11, 5, 12, 13, 14, 15, 16, 17, 18, 19, 23, 24, 25, 26, 27, 28, 29, 30, 31, 32, 33, 34, 35, 36, 37] (by decide +kernel) (by decide +kernel)) (goodIn_sub (fun _ h => List.mem_cons_of_mem _ (List.mem_append_right _ h)) (by decide +kernel))
set_option maxRecDepth 20000 in
theorem gX5_record_X5_tapeOf : GoodIn wsX5_record (wsV RX5 189 RX5 yX5_tapeOf wsX5_tapeOf) := goodIn_app (goodIn_of _ (by decide +kernel)) ggX5_record_X5_tapeOf
theorem dX5_record_0 : decode cX5_record 0 = .ok (.aload_n 0, 1) := by decide +kernel
theorem dX5_record_1 : decode cX5_record 1 = .ok (.iload_n 1, 1) := by decide +kernel
theorem dX5_record_2 : decode cX5_record 2 = .ok (.iload_n 2, 1) := by decide +kernel
theorem dX5_record_3 : decode cX5_record 3 = .ok (.invokevirtual 189, 3) := by decide +kernel
theorem dX5_record_6 : decode cX5_record 6 = .ok (.getfield 172, 3) := by decide +kernel
theorem dX5_record_9 : decode cX5_record 9 = .ok (.ireturn, 1) := by decide +kernel
set_option maxRecDepth 20000 in
theorem ggX5_half_X5_tapeOf : GoodIn wsX5_half wsX5_tapeOf := goodIn_ca (goodIn_r _ [6, 7, 8, 9, 10, 11, 5, 12, 13, 14, 15, 16, 17, 18, 19, 23, 24, 25, 26, 27, 28, 29, 30, 31, 32, 33, 34, 35, 36, 37] (by decide +kernel) (by decide +kernel)) (goodIn_sub (fun _ h => List.mem_cons_of_mem _ (List.mem_append_right _ h)) (by decide +kernel))
set_option maxRecDepth 20000 in
theorem gX5_half_X5_tapeOf : GoodIn wsX5_half (wsV RX5 189 RX5 yX5_tapeOf wsX5_tapeOf) := goodIn_app (goodIn_of _ (by decide +kernel)) ggX5_half_X5_tapeOf
theorem dX5_half_0 : decode cX5_half 0 = .ok (.aload_n 0, 1) := by decide +kernel
theorem dX5_half_1 : decode cX5_half 1 = .ok (.iload_n 1, 1) := by decide +kernel
theorem dX5_half_2 : decode cX5_half 2 = .ok (.iload_n 2, 1) := by decide +kernel
theorem dX5_half_3 : decode cX5_half 3 = .ok (.invokevirtual 189, 3) := by decide +kernel
theorem dX5_half_6 : decode cX5_half 6 = .ok (.getfield 193, 3) := by decide +kernel
theorem dX5_half_9 : decode cX5_half 9 = .ok (.ireturn, 1) := by decide +kernel
set_option maxRecDepth 20000 in
theorem ggX5_bestPlayer_X5_levelNumbered : GoodIn wsX5_bestPlayer wsX5_levelNumbered := goodIn_ca (goodIn_r _ [5, 6, 7, 8, 16, 17, 18, 19, 20] (by decide +kernel) (by decide +kernel)) (goodIn_sub (fun _ h => List.mem_cons_of_mem _ (List.mem_append_right _ h)) (by decide +kernel))
set_option maxRecDepth 20000 in
theorem gX5_bestPlayer_X5_levelNumbered : GoodIn wsX5_bestPlayer (wsV RX5 97 RX5 yX5_levelNumbered wsX5_levelNumbered) := goodIn_app (goodIn_of _ (by decide +kernel)) ggX5_bestPlayer_X5_levelNumbered
set_option maxRecDepth 20000 in
theorem ggX5_bestPlayer_X1_fastestPlayer : GoodIn wsX5_bestPlayer wsX1_fastestPlayer := goodIn_r _ [13, 14, 15, 21, 22, 23, 24, 25, 26, 27, 28, 29, 30, 31, 32, 33] (by decide +kernel) (by decide +kernel)
set_option maxRecDepth 20000 in
theorem gX5_bestPlayer_X1_fastestPlayer : GoodIn wsX5_bestPlayer (wsV RX5 196 RX1 yX1_fastestPlayer wsX1_fastestPlayer) := goodIn_app (goodIn_of _ (by decide +kernel)) ggX5_bestPlayer_X1_fastestPlayer
theorem dX5_bestPlayer_0 : decode cX5_bestPlayer 0 = .ok (.aload_n 0, 1) := by decide +kernel
theorem dX5_bestPlayer_1 : decode cX5_bestPlayer 1 = .ok (.iload_n 1, 1) := by decide +kernel
theorem dX5_bestPlayer_2 : decode cX5_bestPlayer 2 = .ok (.invokevirtual 97, 3) := by decide +kernel
theorem dX5_bestPlayer_5 : decode cX5_bestPlayer 5 = .ok (.invokevirtual 196, 3) := by decide +kernel
theorem dX5_bestPlayer_8 : decode cX5_bestPlayer 8 = .ok (.ireturn, 1) := by decide +kernel
set_option maxRecDepth 20000 in
theorem ggX5_ghost_X1_fastestPlayer : GoodIn wsX5_ghost wsX1_fastestPlayer := goodIn_r _ [12, 13, 14, 93, 94, 95, 96, 97, 98, 99, 100, 101, 102, 87, 88, 89] (by decide +kernel) (by decide +kernel)
set_option maxRecDepth 20000 in
theorem gX5_ghost_X1_fastestPlayer : GoodIn wsX5_ghost (wsV RX5 196 RX1 yX1_fastestPlayer wsX1_fastestPlayer) := goodIn_app (goodIn_of _ (by decide +kernel)) ggX5_ghost_X1_fastestPlayer
set_option maxRecDepth 20000 in
theorem ggX5_ghost_X1_tapeOf : GoodIn wsX5_ghost wsX1_tapeOf := goodIn_r _ [18, 13, 93, 94, 95, 96, 97, 98, 99, 100, 101, 102] (by decide +kernel) (by decide +kernel)
set_option maxRecDepth 20000 in
theorem gX5_ghost_X1_tapeOf : GoodIn wsX5_ghost (wsV RX5 199 RX1 yX1_tapeOf wsX1_tapeOf) := goodIn_app (goodIn_of _ (by decide +kernel)) ggX5_ghost_X1_tapeOf
set_option maxRecDepth 20000 in
theorem ggX5_ghost_X5_follow : GoodIn wsX5_ghost wsX5_follow := goodIn_r _ [23, 5, 4, 24, 25, 26, 27, 28, 29, 30, 31, 32, 33, 34, 35, 36, 37, 38, 39, 40, 41, 42, 43, 44, 45, 46, 47, 48, 49, 50, 11, 51, 52, 53, 54, 55, 56, 57, 58, 59, 60, 61, 62, 63, 64, 65, 66, 67, 68, 69, 70, 71, 72, 73, 74, 75, 76, 77, 78, 79, 80, 81, 87, 88, 89, 93, 94, 95, 96, 97, 98, 99, 100, 101, 102, 90, 91, 92] (by decide +kernel) (by decide +kernel)
set_option maxRecDepth 20000 in
theorem gX5_ghost_X5_follow : GoodIn wsX5_ghost (wsV RX5 202 RX5 yX5_follow wsX5_follow) := goodIn_app (goodIn_of _ (by decide +kernel)) ggX5_ghost_X5_follow
theorem dX5_ghost_0 : decode cX5_ghost 0 = .ok (.aload_n 0, 1) := by decide +kernel
theorem dX5_ghost_1 : decode cX5_ghost 1 = .ok (.getfield 22, 3) := by decide +kernel
theorem dX5_ghost_4 : decode cX5_ghost 4 = .ok (.getfield 148, 3) := by decide +kernel
theorem dX5_ghost_7 : decode cX5_ghost 7 = .ok (.astore_n 1, 1) := by decide +kernel
theorem dX5_ghost_8 : decode cX5_ghost 8 = .ok (.aload_n 1, 1) := by decide +kernel
theorem dX5_ghost_9 : decode cX5_ghost 9 = .ok (.ifnonnull 5, 3) := by decide +kernel
theorem dX5_ghost_12 : decode cX5_ghost 12 = .ok (.iconst (-1), 1) := by decide +kernel
theorem dX5_ghost_13 : decode cX5_ghost 13 = .ok (.ireturn, 1) := by decide +kernel
theorem dX5_ghost_14 : decode cX5_ghost 14 = .ok (.aload_n 1, 1) := by decide +kernel
theorem dX5_ghost_15 : decode cX5_ghost 15 = .ok (.aload_n 1, 1) := by decide +kernel
theorem dX5_ghost_16 : decode cX5_ghost 16 = .ok (.invokevirtual 196, 3) := by decide +kernel
theorem dX5_ghost_19 : decode cX5_ghost 19 = .ok (.invokevirtual 199, 3) := by decide +kernel
theorem dX5_ghost_22 : decode cX5_ghost 22 = .ok (.astore_n 2, 1) := by decide +kernel
theorem dX5_ghost_23 : decode cX5_ghost 23 = .ok (.aload_n 2, 1) := by decide +kernel
theorem dX5_ghost_24 : decode cX5_ghost 24 = .ok (.ifnonnull 5, 3) := by decide +kernel
theorem dX5_ghost_27 : decode cX5_ghost 27 = .ok (.iconst (-1), 1) := by decide +kernel
theorem dX5_ghost_28 : decode cX5_ghost 28 = .ok (.ireturn, 1) := by decide +kernel
theorem dX5_ghost_29 : decode cX5_ghost 29 = .ok (.aload_n 0, 1) := by decide +kernel
theorem dX5_ghost_30 : decode cX5_ghost 30 = .ok (.aload_n 1, 1) := by decide +kernel
theorem dX5_ghost_31 : decode cX5_ghost 31 = .ok (.aload_n 2, 1) := by decide +kernel
theorem dX5_ghost_32 : decode cX5_ghost 32 = .ok (.aload_n 0, 1) := by decide +kernel
theorem dX5_ghost_33 : decode cX5_ghost 33 = .ok (.getfield 22, 3) := by decide +kernel
theorem dX5_ghost_36 : decode cX5_ghost 36 = .ok (.getfield 164, 3) := by decide +kernel
theorem dX5_ghost_39 : decode cX5_ghost 39 = .ok (.getfield 172, 3) := by decide +kernel
theorem dX5_ghost_42 : decode cX5_ghost 42 = .ok (.invokevirtual 202, 3) := by decide +kernel
theorem dX5_ghost_45 : decode cX5_ghost 45 = .ok (.pop, 1) := by decide +kernel
theorem dX5_ghost_46 : decode cX5_ghost 46 = .ok (.bipush 100, 2) := by decide +kernel
theorem dX5_ghost_48 : decode cX5_ghost 48 = .ok (.aload_n 0, 1) := by decide +kernel
theorem dX5_ghost_49 : decode cX5_ghost 49 = .ok (.getfield 29, 3) := by decide +kernel
theorem dX5_ghost_52 : decode cX5_ghost 52 = .ok (.getfield 177, 3) := by decide +kernel
theorem dX5_ghost_55 : decode cX5_ghost 55 = .ok (.imul, 1) := by decide +kernel
theorem dX5_ghost_56 : decode cX5_ghost 56 = .ok (.aload_n 0, 1) := by decide +kernel
theorem dX5_ghost_57 : decode cX5_ghost 57 = .ok (.getfield 29, 3) := by decide +kernel
theorem dX5_ghost_60 : decode cX5_ghost 60 = .ok (.getfield 143, 3) := by decide +kernel
theorem dX5_ghost_63 : decode cX5_ghost 63 = .ok (.iadd, 1) := by decide +kernel
theorem dX5_ghost_64 : decode cX5_ghost 64 = .ok (.ireturn, 1) := by decide +kernel
set_option maxRecDepth 20000 in
theorem ggX5_replay_X5_tapeOf : GoodIn wsX5_replay wsX5_tapeOf := goodIn_ca (goodIn_r _ [6, 7, 8, 9, 10, 11, 5, 12, 13, 14, 15, 16, 17, 18, 19, 81, 82, 83, 84, 85, 86, 87, 88, 89, 90, 91, 92, 93, 94, 95] (by decide +kernel) (by decide +kernel)) (goodIn_sub (fun _ h => List.mem_cons_of_mem _ (List.mem_append_right _ h)) (by decide +kernel))
set_option maxRecDepth 20000 in
theorem gX5_replay_X5_tapeOf : GoodIn wsX5_replay (wsV RX5 189 RX5 yX5_tapeOf wsX5_tapeOf) := goodIn_app (goodIn_of _ (by decide +kernel)) ggX5_replay_X5_tapeOf
set_option maxRecDepth 20000 in
theorem ggX5_replay_X5_levelNumbered : GoodIn wsX5_replay wsX5_levelNumbered := goodIn_ca (goodIn_r _ [12, 7, 8, 13, 81, 82, 83, 84, 85] (by decide +kernel) (by decide +kernel)) (goodIn_sub (fun _ h => List.mem_cons_of_mem _ (List.mem_append_right _ h)) (by decide +kernel))
set_option maxRecDepth 20000 in
theorem gX5_replay_X5_levelNumbered : GoodIn wsX5_replay (wsV RX5 97 RX5 yX5_levelNumbered wsX5_levelNumbered) := goodIn_app (goodIn_of _ (by decide +kernel)) ggX5_replay_X5_levelNumbered
set_option maxRecDepth 20000 in
theorem ggX5_replay_X5_follow : GoodIn wsX5_replay wsX5_follow := goodIn_r _ [23, 24, 1, 25, 26, 27, 28, 29, 30, 31, 32, 33, 34, 35, 36, 37, 38, 39, 40, 41, 42, 43, 44, 45, 46, 47, 48, 49, 50, 51, 17, 52, 53, 54, 55, 56, 57, 58, 59, 60, 61, 62, 63, 64, 65, 66, 67, 68, 69, 70, 71, 72, 73, 74, 75, 76, 77, 81, 82, 83, 84, 85, 78, 79, 80, 86, 87, 88, 89, 90, 91, 92, 93, 94, 95, 96, 97, 98] (by decide +kernel) (by decide +kernel)
set_option maxRecDepth 20000 in
theorem gX5_replay_X5_follow : GoodIn wsX5_replay (wsV RX5 202 RX5 yX5_follow wsX5_follow) := goodIn_app (goodIn_of _ (by decide +kernel)) ggX5_replay_X5_follow
theorem dX5_replay_0 : decode cX5_replay 0 = .ok (.aload_n 0, 1) := by decide +kernel
theorem dX5_replay_1 : decode cX5_replay 1 = .ok (.iload_n 1, 1) := by decide +kernel
theorem dX5_replay_2 : decode cX5_replay 2 = .ok (.iload_n 2, 1) := by decide +kernel
theorem dX5_replay_3 : decode cX5_replay 3 = .ok (.invokevirtual 189, 3) := by decide +kernel
theorem dX5_replay_6 : decode cX5_replay 6 = .ok (.astore_n 3, 1) := by decide +kernel
theorem dX5_replay_7 : decode cX5_replay 7 = .ok (.aload_n 0, 1) := by decide +kernel
theorem dX5_replay_8 : decode cX5_replay 8 = .ok (.aload_n 0, 1) := by decide +kernel
theorem dX5_replay_9 : decode cX5_replay 9 = .ok (.iload_n 1, 1) := by decide +kernel
theorem dX5_replay_10 : decode cX5_replay 10 = .ok (.invokevirtual 97, 3) := by decide +kernel
theorem dX5_replay_13 : decode cX5_replay 13 = .ok (.aload_n 3, 1) := by decide +kernel
theorem dX5_replay_14 : decode cX5_replay 14 = .ok (.aload_n 3, 1) := by decide +kernel
theorem dX5_replay_15 : decode cX5_replay 15 = .ok (.getfield 172, 3) := by decide +kernel
theorem dX5_replay_18 : decode cX5_replay 18 = .ok (.invokevirtual 202, 3) := by decide +kernel
theorem dX5_replay_21 : decode cX5_replay 21 = .ok (.ireturn, 1) := by decide +kernel
theorem dX5_levelNumbered_0 : decode cX5_levelNumbered 0 = .ok (.iload_n 1, 1) := by decide +kernel
theorem dX5_levelNumbered_1 : decode cX5_levelNumbered 1 = .ok (.ifCond .lt 12, 3) := by decide +kernel
theorem dX5_levelNumbered_4 : decode cX5_levelNumbered 4 = .ok (.iload_n 1, 1) := by decide +kernel
theorem dX5_levelNumbered_5 : decode cX5_levelNumbered 5 = .ok (.aload_n 0, 1) := by decide +kernel
theorem dX5_levelNumbered_6 : decode cX5_levelNumbered 6 = .ok (.getfield 11, 3) := by decide +kernel
theorem dX5_levelNumbered_9 : decode cX5_levelNumbered 9 = .ok (.arraylength, 1) := by decide +kernel
theorem dX5_levelNumbered_10 : decode cX5_levelNumbered 10 = .ok (.if_icmp .lt 13, 3) := by decide +kernel
theorem dX5_levelNumbered_13 : decode cX5_levelNumbered 13 = .ok (.new 129, 3) := by decide +kernel
theorem dX5_levelNumbered_16 : decode cX5_levelNumbered 16 = .ok (.dup, 1) := by decide +kernel
theorem dX5_levelNumbered_17 : decode cX5_levelNumbered 17 = .ok (.ldc 206, 2) := by decide +kernel
theorem dX5_levelNumbered_19 : decode cX5_levelNumbered 19 = .ok (.invokespecial 133, 3) := by decide +kernel
theorem dX5_levelNumbered_22 : decode cX5_levelNumbered 22 = .ok (.athrow, 1) := by decide +kernel
theorem dX5_levelNumbered_23 : decode cX5_levelNumbered 23 = .ok (.aload_n 0, 1) := by decide +kernel
theorem dX5_levelNumbered_24 : decode cX5_levelNumbered 24 = .ok (.getfield 11, 3) := by decide +kernel
theorem dX5_levelNumbered_27 : decode cX5_levelNumbered 27 = .ok (.iload_n 1, 1) := by decide +kernel
theorem dX5_levelNumbered_28 : decode cX5_levelNumbered 28 = .ok (.aaload, 1) := by decide +kernel
theorem dX5_levelNumbered_29 : decode cX5_levelNumbered 29 = .ok (.astore_n 2, 1) := by decide +kernel
theorem dX5_levelNumbered_30 : decode cX5_levelNumbered 30 = .ok (.aload_n 2, 1) := by decide +kernel
theorem dX5_levelNumbered_31 : decode cX5_levelNumbered 31 = .ok (.ifnonnull 13, 3) := by decide +kernel
theorem dX5_levelNumbered_34 : decode cX5_levelNumbered 34 = .ok (.new 129, 3) := by decide +kernel
theorem dX5_levelNumbered_37 : decode cX5_levelNumbered 37 = .ok (.dup, 1) := by decide +kernel
theorem dX5_levelNumbered_38 : decode cX5_levelNumbered 38 = .ok (.ldc 206, 2) := by decide +kernel
theorem dX5_levelNumbered_40 : decode cX5_levelNumbered 40 = .ok (.invokespecial 133, 3) := by decide +kernel
theorem dX5_levelNumbered_43 : decode cX5_levelNumbered 43 = .ok (.athrow, 1) := by decide +kernel
theorem dX5_levelNumbered_44 : decode cX5_levelNumbered 44 = .ok (.aload_n 2, 1) := by decide +kernel
theorem dX5_levelNumbered_45 : decode cX5_levelNumbered 45 = .ok (.areturn, 1) := by decide +kernel
set_option maxRecDepth 20000 in
theorem ggX5_levelWithCell_X5_levelNumbered : GoodIn wsX5_levelWithCell wsX5_levelNumbered := goodIn_ca (goodIn_r _ [7, 1, 2, 8, 17, 18, 19, 20, 21] (by decide +kernel) (by decide +kernel)) (goodIn_sub (fun _ h => List.mem_cons_of_mem _ (List.mem_append_right _ h)) (by decide +kernel))
set_option maxRecDepth 20000 in
theorem gX5_levelWithCell_X5_levelNumbered : GoodIn wsX5_levelWithCell (wsV RX5 97 RX5 yX5_levelNumbered wsX5_levelNumbered) := goodIn_app (goodIn_of _ (by decide +kernel)) ggX5_levelWithCell_X5_levelNumbered
set_option maxRecDepth 20000 in
theorem ggX5_levelWithCell_X1_kindAt : GoodIn wsX5_levelWithCell wsX1_kindAt := goodIn_r _ [13, 14, 15, 16, 22, 23, 24, 25, 26, 27, 28, 29, 30, 31] (by decide +kernel) (by decide +kernel)
set_option maxRecDepth 20000 in
theorem gX5_levelWithCell_X1_kindAt : GoodIn wsX5_levelWithCell (wsV RX5 70 RX1 yX1_kindAt wsX1_kindAt) := goodIn_app (goodIn_of _ (by decide +kernel)) ggX5_levelWithCell_X1_kindAt
theorem dX5_levelWithCell_0 : decode cX5_levelWithCell 0 = .ok (.aload_n 0, 1) := by decide +kernel
theorem dX5_levelWithCell_1 : decode cX5_levelWithCell 1 = .ok (.iload_n 1, 1) := by decide +kernel
theorem dX5_levelWithCell_2 : decode cX5_levelWithCell 2 = .ok (.invokevirtual 97, 3) := by decide +kernel
theorem dX5_levelWithCell_5 : decode cX5_levelWithCell 5 = .ok (.astore 4, 2) := by decide +kernel
theorem dX5_levelWithCell_7 : decode cX5_levelWithCell 7 = .ok (.aload 4, 2) := by decide +kernel
theorem dX5_levelWithCell_9 : decode cX5_levelWithCell 9 = .ok (.iload_n 2, 1) := by decide +kernel
theorem dX5_levelWithCell_10 : decode cX5_levelWithCell 10 = .ok (.iload_n 3, 1) := by decide +kernel
theorem dX5_levelWithCell_11 : decode cX5_levelWithCell 11 = .ok (.invokevirtual 70, 3) := by decide +kernel
theorem dX5_levelWithCell_14 : decode cX5_levelWithCell 14 = .ok (.iconst (-1), 1) := by decide +kernel
theorem dX5_levelWithCell_15 : decode cX5_levelWithCell 15 = .ok (.if_icmp .ne 13, 3) := by decide +kernel
theorem dX5_levelWithCell_18 : decode cX5_levelWithCell 18 = .ok (.new 129, 3) := by decide +kernel
theorem dX5_levelWithCell_21 : decode cX5_levelWithCell 21 = .ok (.dup, 1) := by decide +kernel
theorem dX5_levelWithCell_22 : decode cX5_levelWithCell 22 = .ok (.ldc 208, 2) := by decide +kernel
theorem dX5_levelWithCell_24 : decode cX5_levelWithCell 24 = .ok (.invokespecial 133, 3) := by decide +kernel
theorem dX5_levelWithCell_27 : decode cX5_levelWithCell 27 = .ok (.athrow, 1) := by decide +kernel
theorem dX5_levelWithCell_28 : decode cX5_levelWithCell 28 = .ok (.aload 4, 2) := by decide +kernel
theorem dX5_levelWithCell_30 : decode cX5_levelWithCell 30 = .ok (.areturn, 1) := by decide +kernel
set_option maxRecDepth 20000 in
theorem ggX5_levelWithoutBlockAt_X5_levelWithCell : GoodIn wsX5_levelWithoutBlockAt wsX5_levelWithCell := goodIn_ca (goodIn_r _ [7, 8, 9, 10, 11, 12, 6, 13, 14, 15, 16, 17, 18, 19, 20, 21, 22, 23, 24, 25, 26, 27, 28, 29, 30, 31, 32, 33, 34, 35, 36, 37] (by decide +kernel) (by decide +kernel)) (goodIn_sub (fun _ h => List.mem_cons_of_mem _ (List.mem_append_right _ h)) (by decide +kernel))
set_option maxRecDepth 20000 in
theorem gX5_levelWithoutBlockAt_X5_levelWithCell : GoodIn wsX5_levelWithoutBlockAt (wsV RX5 55 RX5 yX5_levelWithCell wsX5_levelWithCell) := goodIn_app (goodIn_of _ (by decide +kernel)) ggX5_levelWithoutBlockAt_X5_levelWithCell
set_option maxRecDepth 20000 in
theorem ggX5_levelWithoutBlockAt_X1_kindAt : GoodIn wsX5_levelWithoutBlockAt wsX1_kindAt := goodIn_r _ [19, 20, 21, 22, 28, 29, 30, 31, 32, 33, 34, 35, 36, 37] (by decide +kernel) (by decide +kernel)
set_option maxRecDepth 20000 in
theorem gX5_levelWithoutBlockAt_X1_kindAt : GoodIn wsX5_levelWithoutBlockAt (wsV RX5 70 RX1 yX1_kindAt wsX1_kindAt) := goodIn_app (goodIn_of _ (by decide +kernel)) ggX5_levelWithoutBlockAt_X1_kindAt
theorem dX5_levelWithoutBlockAt_0 : decode cX5_levelWithoutBlockAt 0 = .ok (.aload_n 0, 1) := by decide +kernel
theorem dX5_levelWithoutBlockAt_1 : decode cX5_levelWithoutBlockAt 1 = .ok (.iload_n 1, 1) := by decide +kernel
theorem dX5_levelWithoutBlockAt_2 : decode cX5_levelWithoutBlockAt 2 = .ok (.iload_n 2, 1) := by decide +kernel
theorem dX5_levelWithoutBlockAt_3 : decode cX5_levelWithoutBlockAt 3 = .ok (.iload_n 3, 1) := by decide +kernel
theorem dX5_levelWithoutBlockAt_4 : decode cX5_levelWithoutBlockAt 4 = .ok (.invokevirtual 55, 3) := by decide +kernel
theorem dX5_levelWithoutBlockAt_7 : decode cX5_levelWithoutBlockAt 7 = .ok (.astore 4, 2) := by decide +kernel
theorem dX5_levelWithoutBlockAt_9 : decode cX5_levelWithoutBlockAt 9 = .ok (.aload 4, 2) := by decide +kernel
theorem dX5_levelWithoutBlockAt_11 : decode cX5_levelWithoutBlockAt 11 = .ok (.iload_n 2, 1) := by decide +kernel
theorem dX5_levelWithoutBlockAt_12 : decode cX5_levelWithoutBlockAt 12 = .ok (.iload_n 3, 1) := by decide +kernel
theorem dX5_levelWithoutBlockAt_13 : decode cX5_levelWithoutBlockAt 13 = .ok (.invokevirtual 70, 3) := by decide +kernel
theorem dX5_levelWithoutBlockAt_16 : decode cX5_levelWithoutBlockAt 16 = .ok (.iconst 1, 1) := by decide +kernel
theorem dX5_levelWithoutBlockAt_17 : decode cX5_levelWithoutBlockAt 17 = .ok (.if_icmp .ne 13, 3) := by decide +kernel
theorem dX5_levelWithoutBlockAt_20 : decode cX5_levelWithoutBlockAt 20 = .ok (.new 47, 3) := by decide +kernel
theorem dX5_levelWithoutBlockAt_23 : decode cX5_levelWithoutBlockAt 23 = .ok (.dup, 1) := by decide +kernel
theorem dX5_levelWithoutBlockAt_24 : decode cX5_levelWithoutBlockAt 24 = .ok (.ldc 210, 2) := by decide +kernel
theorem dX5_levelWithoutBlockAt_26 : decode cX5_levelWithoutBlockAt 26 = .ok (.invokespecial 51, 3) := by decide +kernel
theorem dX5_levelWithoutBlockAt_29 : decode cX5_levelWithoutBlockAt 29 = .ok (.athrow, 1) := by decide +kernel
theorem dX5_levelWithoutBlockAt_30 : decode cX5_levelWithoutBlockAt 30 = .ok (.aload 4, 2) := by decide +kernel
theorem dX5_levelWithoutBlockAt_32 : decode cX5_levelWithoutBlockAt 32 = .ok (.areturn, 1) := by decide +kernel
set_option maxRecDepth 20000 in
theorem ggX5_tapeOf_X5_levelNumbered : GoodIn wsX5_tapeOf wsX5_levelNumbered := goodIn_ca (goodIn_r _ [7, 1, 2, 8, 15, 16, 17, 18, 19] (by decide +kernel) (by decide +kernel)) (goodIn_sub (fun _ h => List.mem_cons_of_mem _ (List.mem_append_right _ h)) (by decide +kernel))
set_option maxRecDepth 20000 in
theorem gX5_tapeOf_X5_levelNumbered : GoodIn wsX5_tapeOf (wsV RX5 97 RX5 yX5_levelNumbered wsX5_levelNumbered) := goodIn_app (goodIn_of _ (by decide +kernel)) ggX5_tapeOf_X5_levelNumbered
set_option maxRecDepth 20000 in
theorem ggX5_tapeOf_X1_tapeOf : GoodIn wsX5_tapeOf wsX1_tapeOf := goodIn_r _ [13, 14, 20, 21, 22, 23, 24, 25, 26, 27, 28, 29] (by decide +kernel) (by decide +kernel)
set_option maxRecDepth 20000 in
theorem gX5_tapeOf_X1_tapeOf : GoodIn wsX5_tapeOf (wsV RX5 199 RX1 yX1_tapeOf wsX1_tapeOf) := goodIn_app (goodIn_of _ (by decide +kernel)) ggX5_tapeOf_X1_tapeOf
theorem dX5_tapeOf_0 : decode cX5_tapeOf 0 = .ok (.aload_n 0, 1) := by decide +kernel
theorem dX5_tapeOf_1 : decode cX5_tapeOf 1 = .ok (.iload_n 1, 1) := by decide +kernel
theorem dX5_tapeOf_2 : decode cX5_tapeOf 2 = .ok (.invokevirtual 97, 3) := by decide +kernel
theorem dX5_tapeOf_5 : decode cX5_tapeOf 5 = .ok (.iload_n 2, 1) := by decide +kernel
theorem dX5_tapeOf_6 : decode cX5_tapeOf 6 = .ok (.invokevirtual 199, 3) := by decide +kernel
theorem dX5_tapeOf_9 : decode cX5_tapeOf 9 = .ok (.astore_n 3, 1) := by decide +kernel
theorem dX5_tapeOf_10 : decode cX5_tapeOf 10 = .ok (.aload_n 3, 1) := by decide +kernel
theorem dX5_tapeOf_11 : decode cX5_tapeOf 11 = .ok (.ifnonnull 13, 3) := by decide +kernel
theorem dX5_tapeOf_14 : decode cX5_tapeOf 14 = .ok (.new 129, 3) := by decide +kernel
theorem dX5_tapeOf_17 : decode cX5_tapeOf 17 = .ok (.dup, 1) := by decide +kernel
theorem dX5_tapeOf_18 : decode cX5_tapeOf 18 = .ok (.ldc 131, 2) := by decide +kernel
theorem dX5_tapeOf_20 : decode cX5_tapeOf 20 = .ok (.invokespecial 133, 3) := by decide +kernel
theorem dX5_tapeOf_23 : decode cX5_tapeOf 23 = .ok (.athrow, 1) := by decide +kernel
theorem dX5_tapeOf_24 : decode cX5_tapeOf 24 = .ok (.aload_n 3, 1) := by decide +kernel
theorem dX5_tapeOf_25 : decode cX5_tapeOf 25 = .ok (.areturn, 1) := by decide +kernel
set_option maxRecDepth 20000 in
theorem ggX5_voidWhatWasFound_X1_forgetWayAndRecords : GoodIn wsX5_voidWhatWasFound wsX1_forgetWayAndRecords := goodIn_r _ [7, 8, 9, 10, 11, 12, 13, 14, 15, 16, 17, 28, 29, 30, 31, 32, 33, 34, 35, 36, 37, 38, 39, 40] (by decide +kernel) (by decide +kernel)
set_option maxRecDepth 20000 in
theorem gX5_voidWhatWasFound_X1_forgetWayAndRecords : GoodIn wsX5_voidWhatWasFound (wsV RX5 212 RX1 yX1_forgetWayAndRecords wsX1_forgetWayAndRecords) := goodIn_app (goodIn_of _ (by decide +kernel)) ggX5_voidWhatWasFound_X1_forgetWayAndRecords
theorem dX5_voidWhatWasFound_0 : decode cX5_voidWhatWasFound 0 = .ok (.aload_n 1, 1) := by decide +kernel
theorem dX5_voidWhatWasFound_1 : decode cX5_voidWhatWasFound 1 = .ok (.invokevirtual 212, 3) := by decide +kernel
theorem dX5_voidWhatWasFound_4 : decode cX5_voidWhatWasFound 4 = .ok (.aload_n 0, 1) := by decide +kernel
theorem dX5_voidWhatWasFound_5 : decode cX5_voidWhatWasFound 5 = .ok (.getfield 22, 3) := by decide +kernel
theorem dX5_voidWhatWasFound_8 : decode cX5_voidWhatWasFound 8 = .ok (.getfield 148, 3) := by decide +kernel
theorem dX5_voidWhatWasFound_11 : decode cX5_voidWhatWasFound 11 = .ok (.aload_n 1, 1) := by decide +kernel
theorem dX5_voidWhatWasFound_12 : decode cX5_voidWhatWasFound 12 = .ok (.if_acmp .ne 11, 3) := by decide +kernel
theorem dX5_voidWhatWasFound_15 : decode cX5_voidWhatWasFound 15 = .ok (.aload_n 0, 1) := by decide +kernel
theorem dX5_voidWhatWasFound_16 : decode cX5_voidWhatWasFound 16 = .ok (.getfield 22, 3) := by decide +kernel
theorem dX5_voidWhatWasFound_19 : decode cX5_voidWhatWasFound 19 = .ok (.aconst_null, 1) := by decide +kernel
theorem dX5_voidWhatWasFound_20 : decode cX5_voidWhatWasFound 20 = .ok (.putfield 148, 3) := by decide +kernel
theorem dX5_voidWhatWasFound_23 : decode cX5_voidWhatWasFound 23 = .ok (.return_, 1) := by decide +kernel
set_option maxRecDepth 20000 in
theorem ggX5_findWinOfRun_X3_findNothing : GoodIn wsX5_findWinOfRun wsX3_findNothing := goodIn_r _ [12, 13, 14, 95, 96, 97, 98, 99, 100, 101] (by decide +kernel) (by decide +kernel)
set_option maxRecDepth 20000 in
theorem gX5_findWinOfRun_X3_findNothing : GoodIn wsX5_findWinOfRun (wsV RX5 215 RX3 yX3_findNothing wsX3_findNothing) := goodIn_app (goodIn_of _ (by decide +kernel)) ggX5_findWinOfRun_X3_findNothing
set_option maxRecDepth 20000 in
theorem ggX5_findWinOfRun_X3_findWin : GoodIn wsX5_findWinOfRun wsX3_findWin := goodIn_r _ [18, 19, 13, 20, 21, 22, 9, 10, 11, 12, 14, 23, 24, 25, 26, 27, 28, 29, 30, 31, 32, 33, 34, 35, 36, 37, 38, 39, 40, 41, 42, 43, 44, 45, 46, 47, 48, 49, 50, 51, 52, 53, 54, 55, 56, 57, 58, 59, 60, 61, 62, 63, 64, 65, 66, 67, 68, 69, 70, 71, 72, 73, 74, 75, 76, 77, 78, 79, 80, 81, 95, 96, 97, 98, 99, 100, 101, 102, 103, 104, 105, 106, 107, 108, 109, 110, 111, 112, 113, 114] (by decide +kernel) (by decide +kernel)
set_option maxRecDepth 20000 in
theorem gX5_findWinOfRun_X3_findWin : GoodIn wsX5_findWinOfRun (wsV RX5 115 RX3 yX3_findWin wsX3_findWin) := goodIn_app (goodIn_of _ (by decide +kernel)) ggX5_findWinOfRun_X3_findWin
theorem dX5_findWinOfRun_0 : decode cX5_findWinOfRun 0 = .ok (.aload_n 0, 1) := by decide +kernel
theorem dX5_findWinOfRun_1 : decode cX5_findWinOfRun 1 = .ok (.getfield 22, 3) := by decide +kernel
theorem dX5_findWinOfRun_4 : decode cX5_findWinOfRun 4 = .ok (.getfield 148, 3) := by decide +kernel
theorem dX5_findWinOfRun_7 : decode cX5_findWinOfRun 7 = .ok (.astore_n 1, 1) := by decide +kernel
theorem dX5_findWinOfRun_8 : decode cX5_findWinOfRun 8 = .ok (.aload_n 1, 1) := by decide +kernel
theorem dX5_findWinOfRun_9 : decode cX5_findWinOfRun 9 = .ok (.ifnull 13, 3) := by decide +kernel
theorem dX5_findWinOfRun_12 : decode cX5_findWinOfRun 12 = .ok (.aload_n 0, 1) := by decide +kernel
theorem dX5_findWinOfRun_13 : decode cX5_findWinOfRun 13 = .ok (.getfield 22, 3) := by decide +kernel
theorem dX5_findWinOfRun_16 : decode cX5_findWinOfRun 16 = .ok (.getfield 152, 3) := by decide +kernel
theorem dX5_findWinOfRun_19 : decode cX5_findWinOfRun 19 = .ok (.ifCond .eq 13, 3) := by decide +kernel
theorem dX5_findWinOfRun_22 : decode cX5_findWinOfRun 22 = .ok (.aload_n 0, 1) := by decide +kernel
theorem dX5_findWinOfRun_23 : decode cX5_findWinOfRun 23 = .ok (.getfield 36, 3) := by decide +kernel
theorem dX5_findWinOfRun_26 : decode cX5_findWinOfRun 26 = .ok (.invokevirtual 215, 3) := by decide +kernel
theorem dX5_findWinOfRun_29 : decode cX5_findWinOfRun 29 = .ok (.goto 31, 3) := by decide +kernel
theorem dX5_findWinOfRun_32 : decode cX5_findWinOfRun 32 = .ok (.aload_n 0, 1) := by decide +kernel
theorem dX5_findWinOfRun_33 : decode cX5_findWinOfRun 33 = .ok (.getfield 36, 3) := by decide +kernel
theorem dX5_findWinOfRun_36 : decode cX5_findWinOfRun 36 = .ok (.aload_n 1, 1) := by decide +kernel
theorem dX5_findWinOfRun_37 : decode cX5_findWinOfRun 37 = .ok (.aload_n 0, 1) := by decide +kernel
theorem dX5_findWinOfRun_38 : decode cX5_findWinOfRun 38 = .ok (.getfield 22, 3) := by decide +kernel
theorem dX5_findWinOfRun_41 : decode cX5_findWinOfRun 41 = .ok (.getfield 140, 3) := by decide +kernel
theorem dX5_findWinOfRun_44 : decode cX5_findWinOfRun 44 = .ok (.bipush 100, 2) := by decide +kernel
theorem dX5_findWinOfRun_46 : decode cX5_findWinOfRun 46 = .ok (.aload_n 0, 1) := by decide +kernel
theorem dX5_findWinOfRun_47 : decode cX5_findWinOfRun 47 = .ok (.getfield 22, 3) := by decide +kernel
theorem dX5_findWinOfRun_50 : decode cX5_findWinOfRun 50 = .ok (.getfield 164, 3) := by decide +kernel
theorem dX5_findWinOfRun_53 : decode cX5_findWinOfRun 53 = .ok (.getfield 172, 3) := by decide +kernel
theorem dX5_findWinOfRun_56 : decode cX5_findWinOfRun 56 = .ok (.isub, 1) := by decide +kernel
theorem dX5_findWinOfRun_57 : decode cX5_findWinOfRun 57 = .ok (.invokevirtual 115, 3) := by decide +kernel
theorem dX5_findWinOfRun_60 : decode cX5_findWinOfRun 60 = .ok (.return_, 1) := by decide +kernel
set_option maxRecDepth 20000 in
theorem ggX5_follow_X0_toStart : GoodIn wsX5_follow wsX0_toStart := goodIn_r _ [7, 8, 9, 10, 11, 12, 6, 13, 14, 15, 16, 65, 66, 67, 68, 69, 70, 71, 72, 73, 74, 75, 76, 77] (by decide +kernel) (by decide +kernel)
set_option maxRecDepth 20000 in
theorem gX5_follow_X0_toStart : GoodIn wsX5_follow (wsV RX5 112 RX0 yX0_toStart wsX0_toStart) := goodIn_app (goodIn_of _ (by decide +kernel)) ggX5_follow_X0_toStart
set_option maxRecDepth 20000 in
theorem ggX5_follow_X4_inputOf : GoodIn wsX5_follow wsX4_inputOf := goodIn_r _ [21, 22, 62, 63, 64] (by decide +kernel) (by decide +kernel)
set_option maxRecDepth 20000 in
theorem gX5_follow_X4_inputOf : GoodIn wsX5_follow (wsV RX5 218 RX4 yX4_inputOf wsX4_inputOf) := goodIn_app (goodIn_of _ (by decide +kernel)) ggX5_follow_X4_inputOf
set_option maxRecDepth 20000 in
theorem ggX5_follow_X0_move : GoodIn wsX5_follow wsX0_move := goodIn_r _ [26, 14, 15, 16, 27, 28, 29, 30, 31, 32, 33, 34, 35, 36, 37, 6, 38, 39, 40, 41, 42, 43, 44, 45, 46, 47, 48, 49, 50, 51, 52, 53, 54, 55, 56, 75, 76, 77, 65, 66, 67, 68, 69, 70, 71, 72, 73, 74] (by decide +kernel) (by decide +kernel)
set_option maxRecDepth 20000 in
theorem gX5_follow_X0_move : GoodIn wsX5_follow (wsV RX5 222 RX0 yX0_move wsX0_move) := goodIn_app (goodIn_of _ (by decide +kernel)) ggX5_follow_X0_move
theorem dX5_follow_0 : decode cX5_follow 0 = .ok (.aload_n 0, 1) := by decide +kernel
theorem dX5_follow_1 : decode cX5_follow 1 = .ok (.getfield 29, 3) := by decide +kernel
theorem dX5_follow_4 : decode cX5_follow 4 = .ok (.aload_n 1, 1) := by decide +kernel
theorem dX5_follow_5 : decode cX5_follow 5 = .ok (.invokevirtual 112, 3) := by decide +kernel
theorem dX5_follow_8 : decode cX5_follow 8 = .ok (.iconst 0, 1) := by decide +kernel
theorem dX5_follow_9 : decode cX5_follow 9 = .ok (.istore 4, 2) := by decide +kernel
theorem dX5_follow_11 : decode cX5_follow 11 = .ok (.iload 4, 2) := by decide +kernel
theorem dX5_follow_13 : decode cX5_follow 13 = .ok (.iload_n 3, 1) := by decide +kernel
theorem dX5_follow_14 : decode cX5_follow 14 = .ok (.if_icmp .ge 41, 3) := by decide +kernel
theorem dX5_follow_17 : decode cX5_follow 17 = .ok (.iload 4, 2) := by decide +kernel
theorem dX5_follow_19 : decode cX5_follow 19 = .ok (.aload_n 2, 1) := by decide +kernel
theorem dX5_follow_20 : decode cX5_follow 20 = .ok (.getfield 172, 3) := by decide +kernel
theorem dX5_follow_23 : decode cX5_follow 23 = .ok (.if_icmp .ge 32, 3) := by decide +kernel
theorem dX5_follow_26 : decode cX5_follow 26 = .ok (.aload_n 0, 1) := by decide +kernel
theorem dX5_follow_27 : decode cX5_follow 27 = .ok (.getfield 29, 3) := by decide +kernel
theorem dX5_follow_30 : decode cX5_follow 30 = .ok (.aload_n 1, 1) := by decide +kernel
theorem dX5_follow_31 : decode cX5_follow 31 = .ok (.aload_n 2, 1) := by decide +kernel
theorem dX5_follow_32 : decode cX5_follow 32 = .ok (.iload 4, 2) := by decide +kernel
theorem dX5_follow_34 : decode cX5_follow 34 = .ok (.invokevirtual 218, 3) := by decide +kernel
theorem dX5_follow_37 : decode cX5_follow 37 = .ok (.invokevirtual 222, 3) := by decide +kernel
theorem dX5_follow_40 : decode cX5_follow 40 = .ok (.iconst 2, 1) := by decide +kernel
theorem dX5_follow_41 : decode cX5_follow 41 = .ok (.if_icmp .ne 8, 3) := by decide +kernel
theorem dX5_follow_44 : decode cX5_follow 44 = .ok (.iload 4, 2) := by decide +kernel
theorem dX5_follow_46 : decode cX5_follow 46 = .ok (.iconst 1, 1) := by decide +kernel
theorem dX5_follow_47 : decode cX5_follow 47 = .ok (.iadd, 1) := by decide +kernel
theorem dX5_follow_48 : decode cX5_follow 48 = .ok (.ireturn, 1) := by decide +kernel
theorem dX5_follow_49 : decode cX5_follow 49 = .ok (.iinc 4 1, 3) := by decide +kernel
theorem dX5_follow_52 : decode cX5_follow 52 = .ok (.goto (-41), 3) := by decide +kernel
theorem dX5_follow_55 : decode cX5_follow 55 = .ok (.iconst (-1), 1) := by decide +kernel
theorem dX5_follow_56 : decode cX5_follow 56 = .ok (.ireturn, 1) := by decide +kernel
theorem dX6_init_0 : decode cX6_init 0 = .ok (.aload_n 0, 1) := by decide +kernel
theorem dX6_init_1 : decode cX6_init 1 = .ok (.invokespecial 1, 3) := by decide +kernel
theorem dX6_init_4 : decode cX6_init 4 = .ok (.aload_n 0, 1) := by decide +kernel
theorem dX6_init_5 : decode cX6_init 5 = .ok (.bipush 6, 2) := by decide +kernel
theorem dX6_init_7 : decode cX6_init 7 = .ok (.newarray .int, 2) := by decide +kernel
theorem dX6_init_9 : decode cX6_init 9 = .ok (.putfield 7, 3) := by decide +kernel
theorem dX6_init_12 : decode cX6_init 12 = .ok (.aload_n 0, 1) := by decide +kernel
theorem dX6_init_13 : decode cX6_init 13 = .ok (.bipush 6, 2) := by decide +kernel
theorem dX6_init_15 : decode cX6_init 15 = .ok (.newarray .int, 2) := by decide +kernel
theorem dX6_init_17 : decode cX6_init 17 = .ok (.putfield 13, 3) := by decide +kernel
theorem dX6_init_20 : decode cX6_init 20 = .ok (.aload_n 0, 1) := by decide +kernel
theorem dX6_init_21 : decode cX6_init 21 = .ok (.sipush 576, 3) := by decide +kernel
theorem dX6_init_24 : decode cX6_init 24 = .ok (.newarray .int, 2) := by decide +kernel
theorem dX6_init_26 : decode cX6_init 26 = .ok (.putfield 16, 3) := by decide +kernel
theorem dX6_init_29 : decode cX6_init 29 = .ok (.aload_n 0, 1) := by decide +kernel
theorem dX6_init_30 : decode cX6_init 30 = .ok (.bipush 6, 2) := by decide +kernel
theorem dX6_init_32 : decode cX6_init 32 = .ok (.newarray .int, 2) := by decide +kernel
theorem dX6_init_34 : decode cX6_init 34 = .ok (.putfield 19, 3) := by decide +kernel
theorem dX6_init_37 : decode cX6_init 37 = .ok (.aload_n 0, 1) := by decide +kernel
theorem dX6_init_38 : decode cX6_init 38 = .ok (.bipush 6, 2) := by decide +kernel
theorem dX6_init_40 : decode cX6_init 40 = .ok (.newarray .int, 2) := by decide +kernel
theorem dX6_init_42 : decode cX6_init 42 = .ok (.putfield 22, 3) := by decide +kernel
theorem dX6_init_45 : decode cX6_init 45 = .ok (.aload_n 0, 1) := by decide +kernel
theorem dX6_init_46 : decode cX6_init 46 = .ok (.bipush 6, 2) := by decide +kernel
theorem dX6_init_48 : decode cX6_init 48 = .ok (.newarray .int, 2) := by decide +kernel
theorem dX6_init_50 : decode cX6_init 50 = .ok (.putfield 25, 3) := by decide +kernel
theorem dX6_init_53 : decode cX6_init 53 = .ok (.aload_n 0, 1) := by decide +kernel
theorem dX6_init_54 : decode cX6_init 54 = .ok (.bipush 6, 2) := by decide +kernel
theorem dX6_init_56 : decode cX6_init 56 = .ok (.newarray .int, 2) := by decide +kernel
theorem dX6_init_58 : decode cX6_init 58 = .ok (.putfield 28, 3) := by decide +kernel
theorem dX6_init_61 : decode cX6_init 61 = .ok (.aload_n 0, 1) := by decide +kernel
theorem dX6_init_62 : decode cX6_init 62 = .ok (.bipush 6, 2) := by decide +kernel
theorem dX6_init_64 : decode cX6_init 64 = .ok (.newarray .int, 2) := by decide +kernel
theorem dX6_init_66 : decode cX6_init 66 = .ok (.putfield 31, 3) := by decide +kernel
theorem dX6_init_69 : decode cX6_init 69 = .ok (.aload_n 0, 1) := by decide +kernel
theorem dX6_init_70 : decode cX6_init 70 = .ok (.bipush 6, 2) := by decide +kernel
theorem dX6_init_72 : decode cX6_init 72 = .ok (.newarray .boolean, 2) := by decide +kernel
theorem dX6_init_74 : decode cX6_init 74 = .ok (.putfield 34, 3) := by decide +kernel
theorem dX6_init_77 : decode cX6_init 77 = .ok (.aload_n 0, 1) := by decide +kernel
theorem dX6_init_78 : decode cX6_init 78 = .ok (.bipush 24, 2) := by decide +kernel
theorem dX6_init_80 : decode cX6_init 80 = .ok (.newarray .int, 2) := by decide +kernel
theorem dX6_init_82 : decode cX6_init 82 = .ok (.putfield 38, 3) := by decide +kernel
theorem dX6_init_85 : decode cX6_init 85 = .ok (.aload_n 0, 1) := by decide +kernel
theorem dX6_init_86 : decode cX6_init 86 = .ok (.sipush 2400, 3) := by decide +kernel
theorem dX6_init_89 : decode cX6_init 89 = .ok (.newarray .int, 2) := by decide +kernel
theorem dX6_init_91 : decode cX6_init 91 = .ok (.putfield 41, 3) := by decide +kernel
theorem dX6_init_94 : decode cX6_init 94 = .ok (.aload_n 0, 1) := by decide +kernel
theorem dX6_init_95 : decode cX6_init 95 = .ok (.iconst (-1), 1) := by decide +kernel
theorem dX6_init_96 : decode cX6_init 96 = .ok (.putfield 44, 3) := by decide +kernel
theorem dX6_init_99 : decode cX6_init 99 = .ok (.aload_n 0, 1) := by decide +kernel
theorem dX6_init_100 : decode cX6_init 100 = .ok (.bipush 100, 2) := by decide +kernel
theorem dX6_init_102 : decode cX6_init 102 = .ok (.newarray .int, 2) := by decide +kernel
theorem dX6_init_104 : decode cX6_init 104 = .ok (.putfield 48, 3) := by decide +kernel
theorem dX6_init_107 : decode cX6_init 107 = .ok (.aload_n 0, 1) := by decide +kernel
theorem dX6_init_108 : decode cX6_init 108 = .ok (.sipush 480, 3) := by decide +kernel
theorem dX6_init_111 : decode cX6_init 111 = .ok (.newarray .boolean, 2) := by decide +kernel
theorem dX6_init_113 : decode cX6_init 113 = .ok (.putfield 51, 3) := by decide +kernel
theorem dX6_init_116 : decode cX6_init 116 = .ok (.aload_n 0, 1) := by decide +kernel
theorem dX6_init_117 : decode cX6_init 117 = .ok (.sipush 480, 3) := by decide +kernel
theorem dX6_init_120 : decode cX6_init 120 = .ok (.newarray .int, 2) := by decide +kernel
theorem dX6_init_122 : decode cX6_init 122 = .ok (.putfield 54, 3) := by decide +kernel
theorem dX6_init_125 : decode cX6_init 125 = .ok (.aload_n 0, 1) := by decide +kernel
theorem dX6_init_126 : decode cX6_init 126 = .ok (.sipush 480, 3) := by decide +kernel
theorem dX6_init_129 : decode cX6_init 129 = .ok (.newarray .int, 2) := by decide +kernel
theorem dX6_init_131 : decode cX6_init 131 = .ok (.putfield 57, 3) := by decide +kernel
theorem dX6_init_134 : decode cX6_init 134 = .ok (.return_, 1) := by decide +kernel
theorem dX6_thrown_0 : decode cX6_thrown 0 = .ok (.aload_n 0, 1) := by decide +kernel
theorem dX6_thrown_1 : decode cX6_thrown 1 = .ok (.getfield 60, 3) := by decide +kernel
theorem dX6_thrown_4 : decode cX6_thrown 4 = .ok (.ireturn, 1) := by decide +kernel
theorem dX6_in_0 : decode cX6_in 0 = .ok (.iload_n 0, 1) := by decide +kernel
theorem dX6_in_1 : decode cX6_in 1 = .ok (.iload_n 1, 1) := by decide +kernel
theorem dX6_in_2 : decode cX6_in 2 = .ok (.if_icmp .lt 12, 3) := by decide +kernel
theorem dX6_in_5 : decode cX6_in 5 = .ok (.iload_n 0, 1) := by decide +kernel
theorem dX6_in_6 : decode cX6_in 6 = .ok (.iload_n 2, 1) := by decide +kernel
theorem dX6_in_7 : decode cX6_in 7 = .ok (.if_icmp .gt 7, 3) := by decide +kernel
theorem dX6_in_10 : decode cX6_in 10 = .ok (.iconst 1, 1) := by decide +kernel
theorem dX6_in_11 : decode cX6_in 11 = .ok (.goto 4, 3) := by decide +kernel
theorem dX6_in_14 : decode cX6_in 14 = .ok (.iconst 0, 1) := by decide +kernel
theorem dX6_in_15 : decode cX6_in 15 = .ok (.ireturn, 1) := by decide +kernel
theorem dX6_goes_0 : decode cX6_goes 0 = .ok (.aload_n 0, 1) := by decide +kernel
theorem dX6_goes_1 : decode cX6_goes 1 = .ok (.iload_n 1, 1) := by decide +kernel
theorem dX6_goes_2 : decode cX6_goes 2 = .ok (.ifCond .ne 7, 3) := by decide +kernel
theorem dX6_goes_5 : decode cX6_goes 5 = .ok (.iconst 1, 1) := by decide +kernel
theorem dX6_goes_6 : decode cX6_goes 6 = .ok (.goto 20, 3) := by decide +kernel
theorem dX6_goes_9 : decode cX6_goes 9 = .ok (.iload_n 2, 1) := by decide +kernel
theorem dX6_goes_10 : decode cX6_goes 10 = .ok (.ifCond .ne 7, 3) := by decide +kernel
theorem dX6_goes_13 : decode cX6_goes 13 = .ok (.iconst 2, 1) := by decide +kernel
theorem dX6_goes_14 : decode cX6_goes 14 = .ok (.goto 12, 3) := by decide +kernel
theorem dX6_goes_17 : decode cX6_goes 17 = .ok (.iload_n 3, 1) := by decide +kernel
theorem dX6_goes_18 : decode cX6_goes 18 = .ok (.ifCond .eq 7, 3) := by decide +kernel
theorem dX6_goes_21 : decode cX6_goes 21 = .ok (.iconst 0, 1) := by decide +kernel
theorem dX6_goes_22 : decode cX6_goes 22 = .ok (.goto 4, 3) := by decide +kernel
theorem dX6_goes_25 : decode cX6_goes 25 = .ok (.iconst 3, 1) := by decide +kernel
theorem dX6_goes_26 : decode cX6_goes 26 = .ok (.putfield 60, 3) := by decide +kernel
theorem dX6_goes_29 : decode cX6_goes 29 = .ok (.aload_n 0, 1) := by decide +kernel
theorem dX6_goes_30 : decode cX6_goes 30 = .ok (.getfield 60, 3) := by decide +kernel
theorem dX6_goes_33 : decode cX6_goes 33 = .ok (.ifCond .ne 7, 3) := by decide +kernel
theorem dX6_goes_36 : decode cX6_goes 36 = .ok (.iconst 1, 1) := by decide +kernel
theorem dX6_goes_37 : decode cX6_goes 37 = .ok (.goto 4, 3) := by decide +kernel
theorem dX6_goes_40 : decode cX6_goes 40 = .ok (.iconst 0, 1) := by decide +kernel
theorem dX6_goes_41 : decode cX6_goes 41 = .ok (.ireturn, 1) := by decide +kernel
set_option maxRecDepth 20000 in
theorem ggX6_isLevel_X6_in : GoodIn wsX6_isLevel wsX6_in := goodIn_r _ [5] (by decide +kernel) (by decide +kernel)
set_option maxRecDepth 20000 in
theorem gX6_isLevel_X6_in : GoodIn wsX6_isLevel (va_wsS RX6 66 yX6_in wsX6_in) := goodIn_app (goodIn_of _ (by decide +kernel)) ggX6_isLevel_X6_in
theorem dX6_isLevel_0 : decode cX6_isLevel 0 = .ok (.iload_n 1, 1) := by decide +kernel
theorem dX6_isLevel_1 : decode cX6_isLevel 1 = .ok (.iconst 0, 1) := by decide +kernel
theorem dX6_isLevel_2 : decode cX6_isLevel 2 = .ok (.aload_n 0, 1) := by decide +kernel
theorem dX6_isLevel_3 : decode cX6_isLevel 3 = .ok (.getfield 63, 3) := by decide +kernel
theorem dX6_isLevel_6 : decode cX6_isLevel 6 = .ok (.iconst 1, 1) := by decide +kernel
theorem dX6_isLevel_7 : decode cX6_isLevel 7 = .ok (.isub, 1) := by decide +kernel
theorem dX6_isLevel_8 : decode cX6_isLevel 8 = .ok (.invokestatic 66, 3) := by decide +kernel
theorem dX6_isLevel_11 : decode cX6_isLevel 11 = .ok (.ireturn, 1) := by decide +kernel
set_option maxRecDepth 20000 in
theorem ggX6_isPlayer_X6_in : GoodIn wsX6_isPlayer wsX6_in := goodIn_r _ [4] (by decide +kernel) (by decide +kernel)
set_option maxRecDepth 20000 in
theorem gX6_isPlayer_X6_in : GoodIn wsX6_isPlayer (va_wsS RX6 66 yX6_in wsX6_in) := goodIn_app (goodIn_of _ (by decide +kernel)) ggX6_isPlayer_X6_in
theorem dX6_isPlayer_0 : decode cX6_isPlayer 0 = .ok (.iload_n 0, 1) := by decide +kernel
theorem dX6_isPlayer_1 : decode cX6_isPlayer 1 = .ok (.iconst 0, 1) := by decide +kernel
theorem dX6_isPlayer_2 : decode cX6_isPlayer 2 = .ok (.iconst 3, 1) := by decide +kernel
theorem dX6_isPlayer_3 : decode cX6_isPlayer 3 = .ok (.invokestatic 66, 3) := by decide +kernel
theorem dX6_isPlayer_6 : decode cX6_isPlayer 6 = .ok (.ireturn, 1) := by decide +kernel
set_option maxRecDepth 20000 in
theorem ggX6_isCell_X6_isLevel : GoodIn wsX6_isCell wsX6_isLevel := goodIn_r _ [7, 8, 9, 10, 6, 11, 12, 13, 14, 15, 16, 17, 18, 19, 20, 21, 22, 23, 24, 25, 26, 27, 28, 29, 30, 31, 32, 33, 34, 35, 36, 37, 38, 39] (by decide +kernel) (by decide +kernel)
set_option maxRecDepth 20000 in
theorem gX6_isCell_X6_isLevel : GoodIn wsX6_isCell (wsV RX6 70 RX6 yX6_isLevel wsX6_isLevel) := goodIn_app (goodIn_of _ (by decide +kernel)) ggX6_isCell_X6_isLevel
set_option maxRecDepth 20000 in
theorem ggX6_isCell_X6_in : GoodIn wsX6_isCell wsX6_in := goodIn_r _ [11] (by decide +kernel) (by decide +kernel)
set_option maxRecDepth 20000 in
theorem gX6_isCell_X6_in : GoodIn wsX6_isCell (va_wsS RX6 66 yX6_in wsX6_in) := goodIn_app (goodIn_of _ (by decide +kernel)) ggX6_isCell_X6_in
theorem dX6_isCell_0 : decode cX6_isCell 0 = .ok (.aload_n 0, 1) := by decide +kernel
theorem dX6_isCell_1 : decode cX6_isCell 1 = .ok (.iload_n 1, 1) := by decide +kernel
theorem dX6_isCell_2 : decode cX6_isCell 2 = .ok (.invokevirtual 70, 3) := by decide +kernel
theorem dX6_isCell_5 : decode cX6_isCell 5 = .ok (.ifCond .eq 39, 3) := by decide +kernel
theorem dX6_isCell_8 : decode cX6_isCell 8 = .ok (.iload_n 2, 1) := by decide +kernel
theorem dX6_isCell_9 : decode cX6_isCell 9 = .ok (.iconst 0, 1) := by decide +kernel
theorem dX6_isCell_10 : decode cX6_isCell 10 = .ok (.aload_n 0, 1) := by decide +kernel
theorem dX6_isCell_11 : decode cX6_isCell 11 = .ok (.getfield 7, 3) := by decide +kernel
theorem dX6_isCell_14 : decode cX6_isCell 14 = .ok (.iload_n 1, 1) := by decide +kernel
theorem dX6_isCell_15 : decode cX6_isCell 15 = .ok (.iaload, 1) := by decide +kernel
theorem dX6_isCell_16 : decode cX6_isCell 16 = .ok (.iconst 1, 1) := by decide +kernel
theorem dX6_isCell_17 : decode cX6_isCell 17 = .ok (.isub, 1) := by decide +kernel
theorem dX6_isCell_18 : decode cX6_isCell 18 = .ok (.invokestatic 66, 3) := by decide +kernel
theorem dX6_isCell_21 : decode cX6_isCell 21 = .ok (.ifCond .eq 23, 3) := by decide +kernel
theorem dX6_isCell_24 : decode cX6_isCell 24 = .ok (.iload_n 3, 1) := by decide +kernel
theorem dX6_isCell_25 : decode cX6_isCell 25 = .ok (.iconst 0, 1) := by decide +kernel
theorem dX6_isCell_26 : decode cX6_isCell 26 = .ok (.aload_n 0, 1) := by decide +kernel
theorem dX6_isCell_27 : decode cX6_isCell 27 = .ok (.getfield 13, 3) := by decide +kernel
theorem dX6_isCell_30 : decode cX6_isCell 30 = .ok (.iload_n 1, 1) := by decide +kernel
theorem dX6_isCell_31 : decode cX6_isCell 31 = .ok (.iaload, 1) := by decide +kernel
theorem dX6_isCell_32 : decode cX6_isCell 32 = .ok (.iconst 1, 1) := by decide +kernel
theorem dX6_isCell_33 : decode cX6_isCell 33 = .ok (.isub, 1) := by decide +kernel
theorem dX6_isCell_34 : decode cX6_isCell 34 = .ok (.invokestatic 66, 3) := by decide +kernel
theorem dX6_isCell_37 : decode cX6_isCell 37 = .ok (.ifCond .eq 7, 3) := by decide +kernel
theorem dX6_isCell_40 : decode cX6_isCell 40 = .ok (.iconst 1, 1) := by decide +kernel
theorem dX6_isCell_41 : decode cX6_isCell 41 = .ok (.goto 4, 3) := by decide +kernel
theorem dX6_isCell_44 : decode cX6_isCell 44 = .ok (.iconst 0, 1) := by decide +kernel
theorem dX6_isCell_45 : decode cX6_isCell 45 = .ok (.ireturn, 1) := by decide +kernel
theorem dX6_at_0 : decode cX6_at 0 = .ok (.bipush 96, 2) := by decide +kernel
theorem dX6_at_2 : decode cX6_at 2 = .ok (.iload_n 0, 1) := by decide +kernel
theorem dX6_at_3 : decode cX6_at 3 = .ok (.imul, 1) := by decide +kernel
theorem dX6_at_4 : decode cX6_at 4 = .ok (.bipush 12, 2) := by decide +kernel
theorem dX6_at_6 : decode cX6_at 6 = .ok (.iload_n 2, 1) := by decide +kernel
theorem dX6_at_7 : decode cX6_at 7 = .ok (.imul, 1) := by decide +kernel
theorem dX6_at_8 : decode cX6_at 8 = .ok (.iadd, 1) := by decide +kernel
theorem dX6_at_9 : decode cX6_at 9 = .ok (.iload_n 1, 1) := by decide +kernel
theorem dX6_at_10 : decode cX6_at 10 = .ok (.iadd, 1) := by decide +kernel
theorem dX6_at_11 : decode cX6_at 11 = .ok (.ireturn, 1) := by decide +kernel
set_option maxRecDepth 20000 in
theorem ggX6_isBlock_X6_isCell : GoodIn wsX6_isBlock wsX6_isCell := goodIn_r _ [6, 7, 8, 9, 10, 11, 5, 12, 13, 14, 15, 16, 20, 21, 22, 23, 24, 25, 26, 27, 28, 29, 30, 31, 32, 33, 34, 35, 36, 37, 38, 39, 40, 41, 42, 43, 44, 45, 46, 47] (by decide +kernel) (by decide +kernel)
set_option maxRecDepth 20000 in
theorem gX6_isBlock_X6_isCell : GoodIn wsX6_isBlock (wsV RX6 74 RX6 yX6_isCell wsX6_isCell) := goodIn_app (goodIn_of _ (by decide +kernel)) ggX6_isBlock_X6_isCell
set_option maxRecDepth 20000 in
theorem ggX6_isBlock_X6_at : GoodIn wsX6_isBlock wsX6_at := goodIn_r _ [19] (by decide +kernel) (by decide +kernel)
set_option maxRecDepth 20000 in
theorem gX6_isBlock_X6_at : GoodIn wsX6_isBlock (va_wsS RX6 77 yX6_at wsX6_at) := goodIn_app (goodIn_of _ (by decide +kernel)) ggX6_isBlock_X6_at
theorem dX6_isBlock_0 : decode cX6_isBlock 0 = .ok (.aload_n 0, 1) := by decide +kernel
theorem dX6_isBlock_1 : decode cX6_isBlock 1 = .ok (.iload_n 1, 1) := by decide +kernel
theorem dX6_isBlock_2 : decode cX6_isBlock 2 = .ok (.iload_n 2, 1) := by decide +kernel
theorem dX6_isBlock_3 : decode cX6_isBlock 3 = .ok (.iload_n 3, 1) := by decide +kernel
theorem dX6_isBlock_4 : decode cX6_isBlock 4 = .ok (.invokevirtual 74, 3) := by decide +kernel
theorem dX6_isBlock_7 : decode cX6_isBlock 7 = .ok (.ifCond .eq 22, 3) := by decide +kernel
theorem dX6_isBlock_10 : decode cX6_isBlock 10 = .ok (.aload_n 0, 1) := by decide +kernel
theorem dX6_isBlock_11 : decode cX6_isBlock 11 = .ok (.getfield 16, 3) := by decide +kernel
theorem dX6_isBlock_14 : decode cX6_isBlock 14 = .ok (.iload_n 1, 1) := by decide +kernel
theorem dX6_isBlock_15 : decode cX6_isBlock 15 = .ok (.iload_n 2, 1) := by decide +kernel
theorem dX6_isBlock_16 : decode cX6_isBlock 16 = .ok (.iload_n 3, 1) := by decide +kernel
theorem dX6_isBlock_17 : decode cX6_isBlock 17 = .ok (.invokestatic 77, 3) := by decide +kernel
theorem dX6_isBlock_20 : decode cX6_isBlock 20 = .ok (.iaload, 1) := by decide +kernel
theorem dX6_isBlock_21 : decode cX6_isBlock 21 = .ok (.iconst 1, 1) := by decide +kernel
theorem dX6_isBlock_22 : decode cX6_isBlock 22 = .ok (.if_icmp .ne 7, 3) := by decide +kernel
theorem dX6_isBlock_25 : decode cX6_isBlock 25 = .ok (.iconst 1, 1) := by decide +kernel
theorem dX6_isBlock_26 : decode cX6_isBlock 26 = .ok (.goto 4, 3) := by decide +kernel
theorem dX6_isBlock_29 : decode cX6_isBlock 29 = .ok (.iconst 0, 1) := by decide +kernel
theorem dX6_isBlock_30 : decode cX6_isBlock 30 = .ok (.ireturn, 1) := by decide +kernel
set_option maxRecDepth 20000 in
theorem ggX6_isFree_X6_isCell : GoodIn wsX6_isFree wsX6_isCell := goodIn_r _ [6, 7, 8, 9, 10, 11, 5, 12, 13, 14, 15, 16, 20, 21, 22, 23, 24, 25, 26, 27, 28, 29, 30, 31, 32, 33, 34, 35, 36, 37, 38, 39, 40, 41, 42, 43, 44, 45, 46, 47] (by decide +kernel) (by decide +kernel)
set_option maxRecDepth 20000 in
theorem gX6_isFree_X6_isCell : GoodIn wsX6_isFree (wsV RX6 74 RX6 yX6_isCell wsX6_isCell) := goodIn_app (goodIn_of _ (by decide +kernel)) ggX6_isFree_X6_isCell
set_option maxRecDepth 20000 in
theorem ggX6_isFree_X6_at : GoodIn wsX6_isFree wsX6_at := goodIn_r _ [19] (by decide +kernel) (by decide +kernel)
set_option maxRecDepth 20000 in
theorem gX6_isFree_X6_at : GoodIn wsX6_isFree (va_wsS RX6 77 yX6_at wsX6_at) := goodIn_app (goodIn_of _ (by decide +kernel)) ggX6_isFree_X6_at
theorem dX6_isFree_0 : decode cX6_isFree 0 = .ok (.aload_n 0, 1) := by decide +kernel
theorem dX6_isFree_1 : decode cX6_isFree 1 = .ok (.iload_n 1, 1) := by decide +kernel
theorem dX6_isFree_2 : decode cX6_isFree 2 = .ok (.iload_n 2, 1) := by decide +kernel
theorem dX6_isFree_3 : decode cX6_isFree 3 = .ok (.iload_n 3, 1) := by decide +kernel
theorem dX6_isFree_4 : decode cX6_isFree 4 = .ok (.invokevirtual 74, 3) := by decide +kernel
theorem dX6_isFree_7 : decode cX6_isFree 7 = .ok (.ifCond .eq 22, 3) := by decide +kernel
theorem dX6_isFree_10 : decode cX6_isFree 10 = .ok (.aload_n 0, 1) := by decide +kernel
theorem dX6_isFree_11 : decode cX6_isFree 11 = .ok (.getfield 16, 3) := by decide +kernel
theorem dX6_isFree_14 : decode cX6_isFree 14 = .ok (.iload_n 1, 1) := by decide +kernel
theorem dX6_isFree_15 : decode cX6_isFree 15 = .ok (.iload_n 2, 1) := by decide +kernel
theorem dX6_isFree_16 : decode cX6_isFree 16 = .ok (.iload_n 3, 1) := by decide +kernel
theorem dX6_isFree_17 : decode cX6_isFree 17 = .ok (.invokestatic 77, 3) := by decide +kernel
theorem dX6_isFree_20 : decode cX6_isFree 20 = .ok (.iaload, 1) := by decide +kernel
theorem dX6_isFree_21 : decode cX6_isFree 21 = .ok (.iconst 1, 1) := by decide +kernel
theorem dX6_isFree_22 : decode cX6_isFree 22 = .ok (.if_icmp .eq 7, 3) := by decide +kernel
theorem dX6_isFree_25 : decode cX6_isFree 25 = .ok (.iconst 1, 1) := by decide +kernel
theorem dX6_isFree_26 : decode cX6_isFree 26 = .ok (.goto 4, 3) := by decide +kernel
theorem dX6_isFree_29 : decode cX6_isFree 29 = .ok (.iconst 0, 1) := by decide +kernel
theorem dX6_isFree_30 : decode cX6_isFree 30 = .ok (.ireturn, 1) := by decide +kernel
theorem dX6_isAt_0 : decode cX6_isAt 0 = .ok (.aload_n 0, 1) := by decide +kernel
theorem dX6_isAt_1 : decode cX6_isAt 1 = .ok (.iload_n 1, 1) := by decide +kernel
theorem dX6_isAt_2 : decode cX6_isAt 2 = .ok (.putfield 81, 3) := by decide +kernel
theorem dX6_isAt_5 : decode cX6_isAt 5 = .ok (.aload_n 0, 1) := by decide +kernel
theorem dX6_isAt_6 : decode cX6_isAt 6 = .ok (.iload_n 2, 1) := by decide +kernel
theorem dX6_isAt_7 : decode cX6_isAt 7 = .ok (.putfield 84, 3) := by decide +kernel
theorem dX6_isAt_10 : decode cX6_isAt 10 = .ok (.aload_n 0, 1) := by decide +kernel
theorem dX6_isAt_11 : decode cX6_isAt 11 = .ok (.iload_n 3, 1) := by decide +kernel
theorem dX6_isAt_12 : decode cX6_isAt 12 = .ok (.putfield 87, 3) := by decide +kernel
theorem dX6_isAt_15 : decode cX6_isAt 15 = .ok (.aload_n 0, 1) := by decide +kernel
theorem dX6_isAt_16 : decode cX6_isAt 16 = .ok (.iconst 0, 1) := by decide +kernel
theorem dX6_isAt_17 : decode cX6_isAt 17 = .ok (.putfield 90, 3) := by decide +kernel
theorem dX6_isAt_20 : decode cX6_isAt 20 = .ok (.return_, 1) := by decide +kernel
set_option maxRecDepth 20000 in
theorem ggX6_frame_X6_isBlock : GoodIn wsX6_frame wsX6_isBlock := goodIn_r _ [12, 4, 13, 14, 15, 11, 16, 17, 18, 19, 20, 21, 22, 23, 24, 25, 26, 27, 28, 29, 34, 35, 36, 37, 38, 39, 40, 41, 42, 43, 44, 45, 46, 47, 48, 49, 50, 51, 52, 53, 54, 55, 56, 57, 58, 59, 60, 61] (by decide +kernel) (by decide +kernel)
set_option maxRecDepth 20000 in
theorem gX6_frame_X6_isBlock : GoodIn wsX6_frame (wsV RX6 93 RX6 yX6_isBlock wsX6_isBlock) := goodIn_app (goodIn_of _ (by decide +kernel)) ggX6_frame_X6_isBlock
set_option maxRecDepth 20000 in
theorem ggX6_frame_X6_isFree : GoodIn wsX6_frame wsX6_isFree := goodIn_r _ [33, 4, 13, 14, 15, 11, 16, 17, 18, 19, 20, 21, 22, 23, 24, 25, 26, 27, 28, 29, 34, 35, 36, 37, 38, 39, 40, 41, 42, 43, 44, 45, 46, 47, 48, 49, 50, 51, 52, 53, 54, 55, 56, 57, 58, 59, 60, 61] (by decide +kernel) (by decide +kernel)
set_option maxRecDepth 20000 in
theorem gX6_frame_X6_isFree : GoodIn wsX6_frame (wsV RX6 96 RX6 yX6_isFree wsX6_isFree) := goodIn_app (goodIn_of _ (by decide +kernel)) ggX6_frame_X6_isFree
set_option maxRecDepth 20000 in
theorem ggX6_frame_X6_isCell : GoodIn wsX6_frame wsX6_isCell := goodIn_r _ [16, 17, 18, 19, 20, 21, 11, 22, 23, 24, 25, 26, 34, 35, 36, 37, 38, 39, 40, 41, 42, 43, 44, 45, 46, 47, 48, 49, 50, 51, 52, 53, 54, 55, 56, 57, 58, 59, 60, 61] (by decide +kernel) (by decide +kernel)
set_option maxRecDepth 20000 in
theorem gX6_frame_X6_isCell : GoodIn wsX6_frame (wsV RX6 74 RX6 yX6_isCell wsX6_isCell) := goodIn_app (goodIn_of _ (by decide +kernel)) ggX6_frame_X6_isCell
set_option maxRecDepth 20000 in
theorem ggX6_frame_X6_at : GoodIn wsX6_frame wsX6_at := goodIn_r _ [29] (by decide +kernel) (by decide +kernel)
set_option maxRecDepth 20000 in
theorem gX6_frame_X6_at : GoodIn wsX6_frame (va_wsS RX6 77 yX6_at wsX6_at) := goodIn_app (goodIn_of _ (by decide +kernel)) ggX6_frame_X6_at
theorem dX6_frame_0 : decode cX6_frame 0 = .ok (.iload_n 2, 1) := by decide +kernel
theorem dX6_frame_1 : decode cX6_frame 1 = .ok (.iconst 3, 1) := by decide +kernel
theorem dX6_frame_2 : decode cX6_frame 2 = .ok (.if_icmp .lt 26, 3) := by decide +kernel
theorem dX6_frame_5 : decode cX6_frame 5 = .ok (.aload_n 0, 1) := by decide +kernel
theorem dX6_frame_6 : decode cX6_frame 6 = .ok (.iload_n 1, 1) := by decide +kernel
theorem dX6_frame_7 : decode cX6_frame 7 = .ok (.aload_n 0, 1) := by decide +kernel
theorem dX6_frame_8 : decode cX6_frame 8 = .ok (.getfield 81, 3) := by decide +kernel
theorem dX6_frame_11 : decode cX6_frame 11 = .ok (.aload_n 0, 1) := by decide +kernel
theorem dX6_frame_12 : decode cX6_frame 12 = .ok (.getfield 84, 3) := by decide +kernel
theorem dX6_frame_15 : decode cX6_frame 15 = .ok (.iconst 1, 1) := by decide +kernel
theorem dX6_frame_16 : decode cX6_frame 16 = .ok (.iadd, 1) := by decide +kernel
theorem dX6_frame_17 : decode cX6_frame 17 = .ok (.invokevirtual 93, 3) := by decide +kernel
theorem dX6_frame_20 : decode cX6_frame 20 = .ok (.ifCond .eq 8, 3) := by decide +kernel
theorem dX6_frame_23 : decode cX6_frame 23 = .ok (.aload_n 0, 1) := by decide +kernel
theorem dX6_frame_24 : decode cX6_frame 24 = .ok (.iconst 2, 1) := by decide +kernel
theorem dX6_frame_25 : decode cX6_frame 25 = .ok (.putfield 87, 3) := by decide +kernel
theorem dX6_frame_28 : decode cX6_frame 28 = .ok (.iload_n 2, 1) := by decide +kernel
theorem dX6_frame_29 : decode cX6_frame 29 = .ok (.iconst 1, 1) := by decide +kernel
theorem dX6_frame_30 : decode cX6_frame 30 = .ok (.if_icmp .eq 8, 3) := by decide +kernel
theorem dX6_frame_33 : decode cX6_frame 33 = .ok (.iload_n 2, 1) := by decide +kernel
theorem dX6_frame_34 : decode cX6_frame 34 = .ok (.iconst 4, 1) := by decide +kernel
theorem dX6_frame_35 : decode cX6_frame 35 = .ok (.if_icmp .ne 7, 3) := by decide +kernel
theorem dX6_frame_38 : decode cX6_frame 38 = .ok (.iconst (-1), 1) := by decide +kernel
theorem dX6_frame_39 : decode cX6_frame 39 = .ok (.goto 18, 3) := by decide +kernel
theorem dX6_frame_42 : decode cX6_frame 42 = .ok (.iload_n 2, 1) := by decide +kernel
theorem dX6_frame_43 : decode cX6_frame 43 = .ok (.iconst 2, 1) := by decide +kernel
theorem dX6_frame_44 : decode cX6_frame 44 = .ok (.if_icmp .eq 8, 3) := by decide +kernel
theorem dX6_frame_47 : decode cX6_frame 47 = .ok (.iload_n 2, 1) := by decide +kernel
theorem dX6_frame_48 : decode cX6_frame 48 = .ok (.iconst 5, 1) := by decide +kernel
theorem dX6_frame_49 : decode cX6_frame 49 = .ok (.if_icmp .ne 7, 3) := by decide +kernel
theorem dX6_frame_52 : decode cX6_frame 52 = .ok (.iconst 1, 1) := by decide +kernel
theorem dX6_frame_53 : decode cX6_frame 53 = .ok (.goto 4, 3) := by decide +kernel
theorem dX6_frame_56 : decode cX6_frame 56 = .ok (.iconst 0, 1) := by decide +kernel
theorem dX6_frame_57 : decode cX6_frame 57 = .ok (.istore_n 3, 1) := by decide +kernel
theorem dX6_frame_58 : decode cX6_frame 58 = .ok (.aload_n 0, 1) := by decide +kernel
theorem dX6_frame_59 : decode cX6_frame 59 = .ok (.dup, 1) := by decide +kernel
theorem dX6_frame_60 : decode cX6_frame 60 = .ok (.getfield 81, 3) := by decide +kernel
theorem dX6_frame_63 : decode cX6_frame 63 = .ok (.iload_n 3, 1) := by decide +kernel
theorem dX6_frame_64 : decode cX6_frame 64 = .ok (.ifCond .eq 25, 3) := by decide +kernel
theorem dX6_frame_67 : decode cX6_frame 67 = .ok (.aload_n 0, 1) := by decide +kernel
theorem dX6_frame_68 : decode cX6_frame 68 = .ok (.iload_n 1, 1) := by decide +kernel
theorem dX6_frame_69 : decode cX6_frame 69 = .ok (.aload_n 0, 1) := by decide +kernel
theorem dX6_frame_70 : decode cX6_frame 70 = .ok (.getfield 81, 3) := by decide +kernel
theorem dX6_frame_73 : decode cX6_frame 73 = .ok (.iload_n 3, 1) := by decide +kernel
theorem dX6_frame_74 : decode cX6_frame 74 = .ok (.iadd, 1) := by decide +kernel
theorem dX6_frame_75 : decode cX6_frame 75 = .ok (.aload_n 0, 1) := by decide +kernel
theorem dX6_frame_76 : decode cX6_frame 76 = .ok (.getfield 84, 3) := by decide +kernel
theorem dX6_frame_79 : decode cX6_frame 79 = .ok (.invokevirtual 96, 3) := by decide +kernel
theorem dX6_frame_82 : decode cX6_frame 82 = .ok (.ifCond .eq 7, 3) := by decide +kernel
theorem dX6_frame_85 : decode cX6_frame 85 = .ok (.iload_n 3, 1) := by decide +kernel
theorem dX6_frame_86 : decode cX6_frame 86 = .ok (.goto 4, 3) := by decide +kernel
theorem dX6_frame_89 : decode cX6_frame 89 = .ok (.iconst 0, 1) := by decide +kernel
theorem dX6_frame_90 : decode cX6_frame 90 = .ok (.iadd, 1) := by decide +kernel
theorem dX6_frame_91 : decode cX6_frame 91 = .ok (.putfield 81, 3) := by decide +kernel
theorem dX6_frame_94 : decode cX6_frame 94 = .ok (.aload_n 0, 1) := by decide +kernel
theorem dX6_frame_95 : decode cX6_frame 95 = .ok (.getfield 87, 3) := by decide +kernel
theorem dX6_frame_98 : decode cX6_frame 98 = .ok (.ifCond .le 61, 3) := by decide +kernel
theorem dX6_frame_101 : decode cX6_frame 101 = .ok (.aload_n 0, 1) := by decide +kernel
theorem dX6_frame_102 : decode cX6_frame 102 = .ok (.iload_n 1, 1) := by decide +kernel
theorem dX6_frame_103 : decode cX6_frame 103 = .ok (.aload_n 0, 1) := by decide +kernel
theorem dX6_frame_104 : decode cX6_frame 104 = .ok (.getfield 81, 3) := by decide +kernel
theorem dX6_frame_107 : decode cX6_frame 107 = .ok (.aload_n 0, 1) := by decide +kernel
theorem dX6_frame_108 : decode cX6_frame 108 = .ok (.getfield 84, 3) := by decide +kernel
theorem dX6_frame_111 : decode cX6_frame 111 = .ok (.iconst 1, 1) := by decide +kernel
theorem dX6_frame_112 : decode cX6_frame 112 = .ok (.isub, 1) := by decide +kernel
theorem dX6_frame_113 : decode cX6_frame 113 = .ok (.invokevirtual 96, 3) := by decide +kernel
theorem dX6_frame_116 : decode cX6_frame 116 = .ok (.istore 4, 2) := by decide +kernel
theorem dX6_frame_118 : decode cX6_frame 118 = .ok (.aload_n 0, 1) := by decide +kernel
theorem dX6_frame_119 : decode cX6_frame 119 = .ok (.dup, 1) := by decide +kernel
theorem dX6_frame_120 : decode cX6_frame 120 = .ok (.getfield 84, 3) := by decide +kernel
theorem dX6_frame_123 : decode cX6_frame 123 = .ok (.iload 4, 2) := by decide +kernel
theorem dX6_frame_125 : decode cX6_frame 125 = .ok (.ifCond .eq 7, 3) := by decide +kernel
theorem dX6_frame_128 : decode cX6_frame 128 = .ok (.iconst 1, 1) := by decide +kernel
theorem dX6_frame_129 : decode cX6_frame 129 = .ok (.goto 4, 3) := by decide +kernel
theorem dX6_frame_132 : decode cX6_frame 132 = .ok (.iconst 0, 1) := by decide +kernel
theorem dX6_frame_133 : decode cX6_frame 133 = .ok (.isub, 1) := by decide +kernel
theorem dX6_frame_134 : decode cX6_frame 134 = .ok (.putfield 84, 3) := by decide +kernel
theorem dX6_frame_137 : decode cX6_frame 137 = .ok (.aload_n 0, 1) := by decide +kernel
theorem dX6_frame_138 : decode cX6_frame 138 = .ok (.iload 4, 2) := by decide +kernel
theorem dX6_frame_140 : decode cX6_frame 140 = .ok (.ifCond .eq 12, 3) := by decide +kernel
theorem dX6_frame_143 : decode cX6_frame 143 = .ok (.aload_n 0, 1) := by decide +kernel
theorem dX6_frame_144 : decode cX6_frame 144 = .ok (.getfield 87, 3) := by decide +kernel
theorem dX6_frame_147 : decode cX6_frame 147 = .ok (.iconst 1, 1) := by decide +kernel
theorem dX6_frame_148 : decode cX6_frame 148 = .ok (.isub, 1) := by decide +kernel
theorem dX6_frame_149 : decode cX6_frame 149 = .ok (.goto 4, 3) := by decide +kernel
theorem dX6_frame_152 : decode cX6_frame 152 = .ok (.iconst 0, 1) := by decide +kernel
theorem dX6_frame_153 : decode cX6_frame 153 = .ok (.putfield 87, 3) := by decide +kernel
theorem dX6_frame_156 : decode cX6_frame 156 = .ok (.goto 31, 3) := by decide +kernel
theorem dX6_frame_159 : decode cX6_frame 159 = .ok (.aload_n 0, 1) := by decide +kernel
theorem dX6_frame_160 : decode cX6_frame 160 = .ok (.iload_n 1, 1) := by decide +kernel
theorem dX6_frame_161 : decode cX6_frame 161 = .ok (.aload_n 0, 1) := by decide +kernel
theorem dX6_frame_162 : decode cX6_frame 162 = .ok (.getfield 81, 3) := by decide +kernel
theorem dX6_frame_165 : decode cX6_frame 165 = .ok (.aload_n 0, 1) := by decide +kernel
theorem dX6_frame_166 : decode cX6_frame 166 = .ok (.getfield 84, 3) := by decide +kernel
theorem dX6_frame_169 : decode cX6_frame 169 = .ok (.iconst 1, 1) := by decide +kernel
theorem dX6_frame_170 : decode cX6_frame 170 = .ok (.iadd, 1) := by decide +kernel
theorem dX6_frame_171 : decode cX6_frame 171 = .ok (.invokevirtual 93, 3) := by decide +kernel
theorem dX6_frame_174 : decode cX6_frame 174 = .ok (.ifCond .ne 13, 3) := by decide +kernel
theorem dX6_frame_177 : decode cX6_frame 177 = .ok (.aload_n 0, 1) := by decide +kernel
theorem dX6_frame_178 : decode cX6_frame 178 = .ok (.dup, 1) := by decide +kernel
theorem dX6_frame_179 : decode cX6_frame 179 = .ok (.getfield 84, 3) := by decide +kernel
theorem dX6_frame_182 : decode cX6_frame 182 = .ok (.iconst 1, 1) := by decide +kernel
theorem dX6_frame_183 : decode cX6_frame 183 = .ok (.iadd, 1) := by decide +kernel
theorem dX6_frame_184 : decode cX6_frame 184 = .ok (.putfield 84, 3) := by decide +kernel
theorem dX6_frame_187 : decode cX6_frame 187 = .ok (.aload_n 0, 1) := by decide +kernel
theorem dX6_frame_188 : decode cX6_frame 188 = .ok (.iload_n 1, 1) := by decide +kernel
theorem dX6_frame_189 : decode cX6_frame 189 = .ok (.aload_n 0, 1) := by decide +kernel
theorem dX6_frame_190 : decode cX6_frame 190 = .ok (.getfield 81, 3) := by decide +kernel
theorem dX6_frame_193 : decode cX6_frame 193 = .ok (.aload_n 0, 1) := by decide +kernel
theorem dX6_frame_194 : decode cX6_frame 194 = .ok (.getfield 84, 3) := by decide +kernel
theorem dX6_frame_197 : decode cX6_frame 197 = .ok (.invokevirtual 74, 3) := by decide +kernel
theorem dX6_frame_200 : decode cX6_frame 200 = .ok (.ifCond .eq 24, 3) := by decide +kernel
theorem dX6_frame_203 : decode cX6_frame 203 = .ok (.aload_n 0, 1) := by decide +kernel
theorem dX6_frame_204 : decode cX6_frame 204 = .ok (.getfield 16, 3) := by decide +kernel
theorem dX6_frame_207 : decode cX6_frame 207 = .ok (.iload_n 1, 1) := by decide +kernel
theorem dX6_frame_208 : decode cX6_frame 208 = .ok (.aload_n 0, 1) := by decide +kernel
theorem dX6_frame_209 : decode cX6_frame 209 = .ok (.getfield 81, 3) := by decide +kernel
theorem dX6_frame_212 : decode cX6_frame 212 = .ok (.aload_n 0, 1) := by decide +kernel
theorem dX6_frame_213 : decode cX6_frame 213 = .ok (.getfield 84, 3) := by decide +kernel
theorem dX6_frame_216 : decode cX6_frame 216 = .ok (.invokestatic 77, 3) := by decide +kernel
theorem dX6_frame_219 : decode cX6_frame 219 = .ok (.iaload, 1) := by decide +kernel
theorem dX6_frame_220 : decode cX6_frame 220 = .ok (.iconst 2, 1) := by decide +kernel
theorem dX6_frame_221 : decode cX6_frame 221 = .ok (.if_icmp .ne 9, 3) := by decide +kernel
theorem dX6_frame_224 : decode cX6_frame 224 = .ok (.aload_n 0, 1) := by decide +kernel
theorem dX6_frame_225 : decode cX6_frame 225 = .ok (.iconst 1, 1) := by decide +kernel
theorem dX6_frame_226 : decode cX6_frame 226 = .ok (.putfield 90, 3) := by decide +kernel
theorem dX6_frame_229 : decode cX6_frame 229 = .ok (.return_, 1) := by decide +kernel
theorem dX6_frame_230 : decode cX6_frame 230 = .ok (.aload_n 0, 1) := by decide +kernel
theorem dX6_frame_231 : decode cX6_frame 231 = .ok (.aload_n 0, 1) := by decide +kernel
theorem dX6_frame_232 : decode cX6_frame 232 = .ok (.getfield 16, 3) := by decide +kernel
theorem dX6_frame_235 : decode cX6_frame 235 = .ok (.iload_n 1, 1) := by decide +kernel
theorem dX6_frame_236 : decode cX6_frame 236 = .ok (.aload_n 0, 1) := by decide +kernel
theorem dX6_frame_237 : decode cX6_frame 237 = .ok (.getfield 81, 3) := by decide +kernel
theorem dX6_frame_240 : decode cX6_frame 240 = .ok (.aload_n 0, 1) := by decide +kernel
theorem dX6_frame_241 : decode cX6_frame 241 = .ok (.getfield 84, 3) := by decide +kernel
theorem dX6_frame_244 : decode cX6_frame 244 = .ok (.invokestatic 77, 3) := by decide +kernel
theorem dX6_frame_247 : decode cX6_frame 247 = .ok (.iaload, 1) := by decide +kernel
theorem dX6_frame_248 : decode cX6_frame 248 = .ok (.iconst 3, 1) := by decide +kernel
theorem dX6_frame_249 : decode cX6_frame 249 = .ok (.if_icmp .ne 7, 3) := by decide +kernel
theorem dX6_frame_252 : decode cX6_frame 252 = .ok (.iconst 4, 1) := by decide +kernel
theorem dX6_frame_253 : decode cX6_frame 253 = .ok (.goto 7, 3) := by decide +kernel
theorem dX6_frame_256 : decode cX6_frame 256 = .ok (.aload_n 0, 1) := by decide +kernel
theorem dX6_frame_257 : decode cX6_frame 257 = .ok (.getfield 87, 3) := by decide +kernel
theorem dX6_frame_260 : decode cX6_frame 260 = .ok (.putfield 87, 3) := by decide +kernel
theorem dX6_frame_263 : decode cX6_frame 263 = .ok (.aload_n 0, 1) := by decide +kernel
theorem dX6_frame_264 : decode cX6_frame 264 = .ok (.aload_n 0, 1) := by decide +kernel
theorem dX6_frame_265 : decode cX6_frame 265 = .ok (.getfield 81, 3) := by decide +kernel
theorem dX6_frame_268 : decode cX6_frame 268 = .ok (.aload_n 0, 1) := by decide +kernel
theorem dX6_frame_269 : decode cX6_frame 269 = .ok (.getfield 25, 3) := by decide +kernel
theorem dX6_frame_272 : decode cX6_frame 272 = .ok (.iload_n 1, 1) := by decide +kernel
theorem dX6_frame_273 : decode cX6_frame 273 = .ok (.iaload, 1) := by decide +kernel
theorem dX6_frame_274 : decode cX6_frame 274 = .ok (.if_icmp .ne 20, 3) := by decide +kernel
theorem dX6_frame_277 : decode cX6_frame 277 = .ok (.aload_n 0, 1) := by decide +kernel
theorem dX6_frame_278 : decode cX6_frame 278 = .ok (.getfield 84, 3) := by decide +kernel
theorem dX6_frame_281 : decode cX6_frame 281 = .ok (.aload_n 0, 1) := by decide +kernel
theorem dX6_frame_282 : decode cX6_frame 282 = .ok (.getfield 28, 3) := by decide +kernel
theorem dX6_frame_285 : decode cX6_frame 285 = .ok (.iload_n 1, 1) := by decide +kernel
theorem dX6_frame_286 : decode cX6_frame 286 = .ok (.iaload, 1) := by decide +kernel
theorem dX6_frame_287 : decode cX6_frame 287 = .ok (.if_icmp .ne 7, 3) := by decide +kernel
theorem dX6_frame_290 : decode cX6_frame 290 = .ok (.iconst 2, 1) := by decide +kernel
theorem dX6_frame_291 : decode cX6_frame 291 = .ok (.goto 4, 3) := by decide +kernel
theorem dX6_frame_294 : decode cX6_frame 294 = .ok (.iconst 0, 1) := by decide +kernel
theorem dX6_frame_295 : decode cX6_frame 295 = .ok (.putfield 90, 3) := by decide +kernel
theorem dX6_frame_298 : decode cX6_frame 298 = .ok (.return_, 1) := by decide +kernel
set_option maxRecDepth 20000 in
theorem ggX6_least_X6_isAt : GoodIn wsX6_least wsX6_isAt := goodIn_r _ [12, 5, 4, 6, 3, 45, 46, 47, 48, 49, 50, 51, 52, 53, 54, 55, 56, 57, 58, 59, 60, 61, 62, 63, 64, 65, 66, 67, 68, 69, 70, 71, 72] (by decide +kernel) (by decide +kernel)
set_option maxRecDepth 20000 in
theorem gX6_least_X6_isAt : GoodIn wsX6_least (wsV RX6 99 RX6 yX6_isAt wsX6_isAt) := goodIn_app (goodIn_of _ (by decide +kernel)) ggX6_least_X6_isAt
set_option maxRecDepth 20000 in
theorem ggX6_least_X6_frame : GoodIn wsX6_least wsX6_frame := goodIn_r _ [16, 5, 4, 6, 17, 3, 18, 19, 20, 21, 22, 11, 23, 24, 25, 26, 27, 28, 29, 30, 31, 32, 33, 34, 35, 36, 37, 38, 39, 40, 41, 42, 43, 44, 45, 46, 47, 48, 49, 50, 51, 52, 53, 54, 55, 56, 57, 58, 59, 60, 61, 62, 63, 64, 65, 66, 67, 68, 69, 70, 71, 72] (by decide +kernel) (by decide +kernel)
set_option maxRecDepth 20000 in
theorem gX6_least_X6_frame : GoodIn wsX6_least (wsV RX6 103 RX6 yX6_frame wsX6_frame) := goodIn_app (goodIn_of _ (by decide +kernel)) ggX6_least_X6_frame
theorem dX6_least_0 : decode cX6_least 0 = .ok (.iconst 0, 1) := by decide +kernel
theorem dX6_least_1 : decode cX6_least 1 = .ok (.istore 6, 2) := by decide +kernel
theorem dX6_least_3 : decode cX6_least 3 = .ok (.iload 6, 2) := by decide +kernel
theorem dX6_least_5 : decode cX6_least 5 = .ok (.sipush 480, 3) := by decide +kernel
theorem dX6_least_8 : decode cX6_least 8 = .ok (.if_icmp .ge 17, 3) := by decide +kernel
theorem dX6_least_11 : decode cX6_least 11 = .ok (.aload_n 0, 1) := by decide +kernel
theorem dX6_least_12 : decode cX6_least 12 = .ok (.getfield 51, 3) := by decide +kernel
theorem dX6_least_15 : decode cX6_least 15 = .ok (.iload 6, 2) := by decide +kernel
theorem dX6_least_17 : decode cX6_least 17 = .ok (.iconst 0, 1) := by decide +kernel
theorem dX6_least_18 : decode cX6_least 18 = .ok (.bastore, 1) := by decide +kernel
theorem dX6_least_19 : decode cX6_least 19 = .ok (.iinc 6 1, 3) := by decide +kernel
theorem dX6_least_22 : decode cX6_least 22 = .ok (.goto (-19), 3) := by decide +kernel
theorem dX6_least_25 : decode cX6_least 25 = .ok (.iconst 1, 1) := by decide +kernel
theorem dX6_least_26 : decode cX6_least 26 = .ok (.istore 6, 2) := by decide +kernel
theorem dX6_least_28 : decode cX6_least 28 = .ok (.aload_n 0, 1) := by decide +kernel
theorem dX6_least_29 : decode cX6_least 29 = .ok (.getfield 54, 3) := by decide +kernel
theorem dX6_least_32 : decode cX6_least 32 = .ok (.iconst 0, 1) := by decide +kernel
theorem dX6_least_33 : decode cX6_least 33 = .ok (.iconst 5, 1) := by decide +kernel
theorem dX6_least_34 : decode cX6_least 34 = .ok (.bipush 12, 2) := by decide +kernel
theorem dX6_least_36 : decode cX6_least 36 = .ok (.iload_n 3, 1) := by decide +kernel
theorem dX6_least_37 : decode cX6_least 37 = .ok (.imul, 1) := by decide +kernel
theorem dX6_least_38 : decode cX6_least 38 = .ok (.iload_n 2, 1) := by decide +kernel
theorem dX6_least_39 : decode cX6_least 39 = .ok (.iadd, 1) := by decide +kernel
theorem dX6_least_40 : decode cX6_least 40 = .ok (.imul, 1) := by decide +kernel
theorem dX6_least_41 : decode cX6_least 41 = .ok (.iload 4, 2) := by decide +kernel
theorem dX6_least_43 : decode cX6_least 43 = .ok (.iadd, 1) := by decide +kernel
theorem dX6_least_44 : decode cX6_least 44 = .ok (.iastore, 1) := by decide +kernel
theorem dX6_least_45 : decode cX6_least 45 = .ok (.aload_n 0, 1) := by decide +kernel
theorem dX6_least_46 : decode cX6_least 46 = .ok (.getfield 51, 3) := by decide +kernel
theorem dX6_least_49 : decode cX6_least 49 = .ok (.aload_n 0, 1) := by decide +kernel
theorem dX6_least_50 : decode cX6_least 50 = .ok (.getfield 54, 3) := by decide +kernel
theorem dX6_least_53 : decode cX6_least 53 = .ok (.iconst 0, 1) := by decide +kernel
theorem dX6_least_54 : decode cX6_least 54 = .ok (.iaload, 1) := by decide +kernel
theorem dX6_least_55 : decode cX6_least 55 = .ok (.iconst 1, 1) := by decide +kernel
theorem dX6_least_56 : decode cX6_least 56 = .ok (.bastore, 1) := by decide +kernel
theorem dX6_least_57 : decode cX6_least 57 = .ok (.iconst 1, 1) := by decide +kernel
theorem dX6_least_58 : decode cX6_least 58 = .ok (.istore 7, 2) := by decide +kernel
theorem dX6_least_60 : decode cX6_least 60 = .ok (.iload 7, 2) := by decide +kernel
theorem dX6_least_62 : decode cX6_least 62 = .ok (.iload 5, 2) := by decide +kernel
theorem dX6_least_64 : decode cX6_least 64 = .ok (.if_icmp .gt 208, 3) := by decide +kernel
theorem dX6_least_67 : decode cX6_least 67 = .ok (.iload 6, 2) := by decide +kernel
theorem dX6_least_69 : decode cX6_least 69 = .ok (.ifCond .le 203, 3) := by decide +kernel
theorem dX6_least_72 : decode cX6_least 72 = .ok (.iconst 0, 1) := by decide +kernel
theorem dX6_least_73 : decode cX6_least 73 = .ok (.istore 8, 2) := by decide +kernel
theorem dX6_least_75 : decode cX6_least 75 = .ok (.iconst 0, 1) := by decide +kernel
theorem dX6_least_76 : decode cX6_least 76 = .ok (.istore 9, 2) := by decide +kernel
theorem dX6_least_78 : decode cX6_least 78 = .ok (.iload 9, 2) := by decide +kernel
theorem dX6_least_80 : decode cX6_least 80 = .ok (.iload 6, 2) := by decide +kernel
theorem dX6_least_82 : decode cX6_least 82 = .ok (.if_icmp .ge 150, 3) := by decide +kernel
theorem dX6_least_85 : decode cX6_least 85 = .ok (.iconst 0, 1) := by decide +kernel
theorem dX6_least_86 : decode cX6_least 86 = .ok (.istore 10, 2) := by decide +kernel
theorem dX6_least_88 : decode cX6_least 88 = .ok (.iload 10, 2) := by decide +kernel
theorem dX6_least_90 : decode cX6_least 90 = .ok (.bipush 6, 2) := by decide +kernel
theorem dX6_least_92 : decode cX6_least 92 = .ok (.if_icmp .ge 134, 3) := by decide +kernel
theorem dX6_least_95 : decode cX6_least 95 = .ok (.aload_n 0, 1) := by decide +kernel
theorem dX6_least_96 : decode cX6_least 96 = .ok (.aload_n 0, 1) := by decide +kernel
theorem dX6_least_97 : decode cX6_least 97 = .ok (.getfield 54, 3) := by decide +kernel
theorem dX6_least_100 : decode cX6_least 100 = .ok (.iload 9, 2) := by decide +kernel
theorem dX6_least_102 : decode cX6_least 102 = .ok (.iaload, 1) := by decide +kernel
theorem dX6_least_103 : decode cX6_least 103 = .ok (.iconst 5, 1) := by decide +kernel
theorem dX6_least_104 : decode cX6_least 104 = .ok (.idiv, 1) := by decide +kernel
theorem dX6_least_105 : decode cX6_least 105 = .ok (.bipush 12, 2) := by decide +kernel
theorem dX6_least_107 : decode cX6_least 107 = .ok (.irem, 1) := by decide +kernel
theorem dX6_least_108 : decode cX6_least 108 = .ok (.aload_n 0, 1) := by decide +kernel
theorem dX6_least_109 : decode cX6_least 109 = .ok (.getfield 54, 3) := by decide +kernel
theorem dX6_least_112 : decode cX6_least 112 = .ok (.iload 9, 2) := by decide +kernel
theorem dX6_least_114 : decode cX6_least 114 = .ok (.iaload, 1) := by decide +kernel
theorem dX6_least_115 : decode cX6_least 115 = .ok (.iconst 5, 1) := by decide +kernel
theorem dX6_least_116 : decode cX6_least 116 = .ok (.idiv, 1) := by decide +kernel
theorem dX6_least_117 : decode cX6_least 117 = .ok (.bipush 12, 2) := by decide +kernel
theorem dX6_least_119 : decode cX6_least 119 = .ok (.idiv, 1) := by decide +kernel
theorem dX6_least_120 : decode cX6_least 120 = .ok (.aload_n 0, 1) := by decide +kernel
theorem dX6_least_121 : decode cX6_least 121 = .ok (.getfield 54, 3) := by decide +kernel
theorem dX6_least_124 : decode cX6_least 124 = .ok (.iload 9, 2) := by decide +kernel
theorem dX6_least_126 : decode cX6_least 126 = .ok (.iaload, 1) := by decide +kernel
theorem dX6_least_127 : decode cX6_least 127 = .ok (.iconst 5, 1) := by decide +kernel
theorem dX6_least_128 : decode cX6_least 128 = .ok (.irem, 1) := by decide +kernel
theorem dX6_least_129 : decode cX6_least 129 = .ok (.invokevirtual 99, 3) := by decide +kernel
theorem dX6_least_132 : decode cX6_least 132 = .ok (.aload_n 0, 1) := by decide +kernel
theorem dX6_least_133 : decode cX6_least 133 = .ok (.iload_n 1, 1) := by decide +kernel
theorem dX6_least_134 : decode cX6_least 134 = .ok (.iload 10, 2) := by decide +kernel
theorem dX6_least_136 : decode cX6_least 136 = .ok (.invokevirtual 103, 3) := by decide +kernel
theorem dX6_least_139 : decode cX6_least 139 = .ok (.aload_n 0, 1) := by decide +kernel
theorem dX6_least_140 : decode cX6_least 140 = .ok (.getfield 90, 3) := by decide +kernel
theorem dX6_least_143 : decode cX6_least 143 = .ok (.iconst 2, 1) := by decide +kernel
theorem dX6_least_144 : decode cX6_least 144 = .ok (.if_icmp .ne 6, 3) := by decide +kernel
theorem dX6_least_147 : decode cX6_least 147 = .ok (.iload 7, 2) := by decide +kernel
theorem dX6_least_149 : decode cX6_least 149 = .ok (.ireturn, 1) := by decide +kernel
theorem dX6_least_150 : decode cX6_least 150 = .ok (.aload_n 0, 1) := by decide +kernel
theorem dX6_least_151 : decode cX6_least 151 = .ok (.getfield 90, 3) := by decide +kernel
theorem dX6_least_154 : decode cX6_least 154 = .ok (.iconst 1, 1) := by decide +kernel
theorem dX6_least_155 : decode cX6_least 155 = .ok (.if_icmp .ne 7, 3) := by decide +kernel
theorem dX6_least_158 : decode cX6_least 158 = .ok (.iconst 0, 1) := by decide +kernel
theorem dX6_least_159 : decode cX6_least 159 = .ok (.goto 22, 3) := by decide +kernel
theorem dX6_least_162 : decode cX6_least 162 = .ok (.iconst 5, 1) := by decide +kernel
theorem dX6_least_163 : decode cX6_least 163 = .ok (.bipush 12, 2) := by decide +kernel
theorem dX6_least_165 : decode cX6_least 165 = .ok (.aload_n 0, 1) := by decide +kernel
theorem dX6_least_166 : decode cX6_least 166 = .ok (.getfield 84, 3) := by decide +kernel
theorem dX6_least_169 : decode cX6_least 169 = .ok (.imul, 1) := by decide +kernel
theorem dX6_least_170 : decode cX6_least 170 = .ok (.aload_n 0, 1) := by decide +kernel
theorem dX6_least_171 : decode cX6_least 171 = .ok (.getfield 81, 3) := by decide +kernel
theorem dX6_least_174 : decode cX6_least 174 = .ok (.iadd, 1) := by decide +kernel
theorem dX6_least_175 : decode cX6_least 175 = .ok (.imul, 1) := by decide +kernel
theorem dX6_least_176 : decode cX6_least 176 = .ok (.aload_n 0, 1) := by decide +kernel
theorem dX6_least_177 : decode cX6_least 177 = .ok (.getfield 87, 3) := by decide +kernel
theorem dX6_least_180 : decode cX6_least 180 = .ok (.iadd, 1) := by decide +kernel
theorem dX6_least_181 : decode cX6_least 181 = .ok (.istore 11, 2) := by decide +kernel
theorem dX6_least_183 : decode cX6_least 183 = .ok (.aload_n 0, 1) := by decide +kernel
theorem dX6_least_184 : decode cX6_least 184 = .ok (.getfield 90, 3) := by decide +kernel
theorem dX6_least_187 : decode cX6_least 187 = .ok (.ifCond .ne 33, 3) := by decide +kernel
theorem dX6_least_190 : decode cX6_least 190 = .ok (.aload_n 0, 1) := by decide +kernel
theorem dX6_least_191 : decode cX6_least 191 = .ok (.getfield 51, 3) := by decide +kernel
theorem dX6_least_194 : decode cX6_least 194 = .ok (.iload 11, 2) := by decide +kernel
theorem dX6_least_196 : decode cX6_least 196 = .ok (.baload, 1) := by decide +kernel
theorem dX6_least_197 : decode cX6_least 197 = .ok (.ifCond .ne 23, 3) := by decide +kernel
theorem dX6_least_200 : decode cX6_least 200 = .ok (.aload_n 0, 1) := by decide +kernel
theorem dX6_least_201 : decode cX6_least 201 = .ok (.getfield 51, 3) := by decide +kernel
theorem dX6_least_204 : decode cX6_least 204 = .ok (.iload 11, 2) := by decide +kernel
theorem dX6_least_206 : decode cX6_least 206 = .ok (.iconst 1, 1) := by decide +kernel
theorem dX6_least_207 : decode cX6_least 207 = .ok (.bastore, 1) := by decide +kernel
theorem dX6_least_208 : decode cX6_least 208 = .ok (.aload_n 0, 1) := by decide +kernel
theorem dX6_least_209 : decode cX6_least 209 = .ok (.getfield 57, 3) := by decide +kernel
theorem dX6_least_212 : decode cX6_least 212 = .ok (.iload 8, 2) := by decide +kernel
theorem dX6_least_214 : decode cX6_least 214 = .ok (.iload 11, 2) := by decide +kernel
theorem dX6_least_216 : decode cX6_least 216 = .ok (.iastore, 1) := by decide +kernel
theorem dX6_least_217 : decode cX6_least 217 = .ok (.iinc 8 1, 3) := by decide +kernel
theorem dX6_least_220 : decode cX6_least 220 = .ok (.iinc 10 1, 3) := by decide +kernel
theorem dX6_least_223 : decode cX6_least 223 = .ok (.goto (-135), 3) := by decide +kernel
theorem dX6_least_226 : decode cX6_least 226 = .ok (.iinc 9 1, 3) := by decide +kernel
theorem dX6_least_229 : decode cX6_least 229 = .ok (.goto (-151), 3) := by decide +kernel
theorem dX6_least_232 : decode cX6_least 232 = .ok (.iconst 0, 1) := by decide +kernel
theorem dX6_least_233 : decode cX6_least 233 = .ok (.istore 9, 2) := by decide +kernel
theorem dX6_least_235 : decode cX6_least 235 = .ok (.iload 9, 2) := by decide +kernel
theorem dX6_least_237 : decode cX6_least 237 = .ok (.iload 8, 2) := by decide +kernel
theorem dX6_least_239 : decode cX6_least 239 = .ok (.if_icmp .ge 23, 3) := by decide +kernel
theorem dX6_least_242 : decode cX6_least 242 = .ok (.aload_n 0, 1) := by decide +kernel
theorem dX6_least_243 : decode cX6_least 243 = .ok (.getfield 54, 3) := by decide +kernel
theorem dX6_least_246 : decode cX6_least 246 = .ok (.iload 9, 2) := by decide +kernel
theorem dX6_least_248 : decode cX6_least 248 = .ok (.aload_n 0, 1) := by decide +kernel
theorem dX6_least_249 : decode cX6_least 249 = .ok (.getfield 57, 3) := by decide +kernel
theorem dX6_least_252 : decode cX6_least 252 = .ok (.iload 9, 2) := by decide +kernel
theorem dX6_least_254 : decode cX6_least 254 = .ok (.iaload, 1) := by decide +kernel
theorem dX6_least_255 : decode cX6_least 255 = .ok (.iastore, 1) := by decide +kernel
theorem dX6_least_256 : decode cX6_least 256 = .ok (.iinc 9 1, 3) := by decide +kernel
theorem dX6_least_259 : decode cX6_least 259 = .ok (.goto (-24), 3) := by decide +kernel
theorem dX6_least_262 : decode cX6_least 262 = .ok (.iload 8, 2) := by decide +kernel
theorem dX6_least_264 : decode cX6_least 264 = .ok (.istore 6, 2) := by decide +kernel
theorem dX6_least_266 : decode cX6_least 266 = .ok (.iinc 7 1, 3) := by decide +kernel
theorem dX6_least_269 : decode cX6_least 269 = .ok (.goto (-209), 3) := by decide +kernel
theorem dX6_least_272 : decode cX6_least 272 = .ok (.iconst (-1), 1) := by decide +kernel
theorem dX6_least_273 : decode cX6_least 273 = .ok (.ireturn, 1) := by decide +kernel
theorem dX6_edits_0 : decode cX6_edits 0 = .ok (.aload_n 0, 1) := by decide +kernel
theorem dX6_edits_1 : decode cX6_edits 1 = .ok (.getfield 31, 3) := by decide +kernel
theorem dX6_edits_4 : decode cX6_edits 4 = .ok (.iload_n 1, 1) := by decide +kernel
theorem dX6_edits_5 : decode cX6_edits 5 = .ok (.iconst (-1), 1) := by decide +kernel
theorem dX6_edits_6 : decode cX6_edits 6 = .ok (.iastore, 1) := by decide +kernel
theorem dX6_edits_7 : decode cX6_edits 7 = .ok (.aload_n 0, 1) := by decide +kernel
theorem dX6_edits_8 : decode cX6_edits 8 = .ok (.getfield 34, 3) := by decide +kernel
theorem dX6_edits_11 : decode cX6_edits 11 = .ok (.iload_n 1, 1) := by decide +kernel
theorem dX6_edits_12 : decode cX6_edits 12 = .ok (.iconst 0, 1) := by decide +kernel
theorem dX6_edits_13 : decode cX6_edits 13 = .ok (.bastore, 1) := by decide +kernel
theorem dX6_edits_14 : decode cX6_edits 14 = .ok (.iconst 0, 1) := by decide +kernel
theorem dX6_edits_15 : decode cX6_edits 15 = .ok (.istore_n 2, 1) := by decide +kernel
theorem dX6_edits_16 : decode cX6_edits 16 = .ok (.iload_n 2, 1) := by decide +kernel
theorem dX6_edits_17 : decode cX6_edits 17 = .ok (.iconst 4, 1) := by decide +kernel
theorem dX6_edits_18 : decode cX6_edits 18 = .ok (.if_icmp .ge 20, 3) := by decide +kernel
theorem dX6_edits_21 : decode cX6_edits 21 = .ok (.aload_n 0, 1) := by decide +kernel
theorem dX6_edits_22 : decode cX6_edits 22 = .ok (.getfield 38, 3) := by decide +kernel
theorem dX6_edits_25 : decode cX6_edits 25 = .ok (.iconst 4, 1) := by decide +kernel
theorem dX6_edits_26 : decode cX6_edits 26 = .ok (.iload_n 1, 1) := by decide +kernel
theorem dX6_edits_27 : decode cX6_edits 27 = .ok (.imul, 1) := by decide +kernel
theorem dX6_edits_28 : decode cX6_edits 28 = .ok (.iload_n 2, 1) := by decide +kernel
theorem dX6_edits_29 : decode cX6_edits 29 = .ok (.iadd, 1) := by decide +kernel
theorem dX6_edits_30 : decode cX6_edits 30 = .ok (.iconst (-1), 1) := by decide +kernel
theorem dX6_edits_31 : decode cX6_edits 31 = .ok (.iastore, 1) := by decide +kernel
theorem dX6_edits_32 : decode cX6_edits 32 = .ok (.iinc 2 1, 3) := by decide +kernel
theorem dX6_edits_35 : decode cX6_edits 35 = .ok (.goto (-19), 3) := by decide +kernel
theorem dX6_edits_38 : decode cX6_edits 38 = .ok (.aload_n 0, 1) := by decide +kernel
theorem dX6_edits_39 : decode cX6_edits 39 = .ok (.aload_n 0, 1) := by decide +kernel
theorem dX6_edits_40 : decode cX6_edits 40 = .ok (.getfield 44, 3) := by decide +kernel
theorem dX6_edits_43 : decode cX6_edits 43 = .ok (.iload_n 1, 1) := by decide +kernel
theorem dX6_edits_44 : decode cX6_edits 44 = .ok (.if_icmp .ne 7, 3) := by decide +kernel
theorem dX6_edits_47 : decode cX6_edits 47 = .ok (.iconst (-1), 1) := by decide +kernel
theorem dX6_edits_48 : decode cX6_edits 48 = .ok (.goto 7, 3) := by decide +kernel
theorem dX6_edits_51 : decode cX6_edits 51 = .ok (.aload_n 0, 1) := by decide +kernel
theorem dX6_edits_52 : decode cX6_edits 52 = .ok (.getfield 44, 3) := by decide +kernel
theorem dX6_edits_55 : decode cX6_edits 55 = .ok (.putfield 44, 3) := by decide +kernel
theorem dX6_edits_58 : decode cX6_edits 58 = .ok (.return_, 1) := by decide +kernel
set_option maxRecDepth 20000 in
theorem ggX6_addLevel_X6_in : GoodIn wsX6_addLevel wsX6_in := goodIn_r _ [12] (by decide +kernel) (by decide +kernel)
set_option maxRecDepth 20000 in
theorem gX6_addLevel_X6_in : GoodIn wsX6_addLevel (va_wsS RX6 66 yX6_in wsX6_in) := goodIn_app (goodIn_of _ (by decide +kernel)) ggX6_addLevel_X6_in
set_option maxRecDepth 20000 in
theorem ggX6_addLevel_X6_goes : GoodIn wsX6_addLevel wsX6_goes := goodIn_r _ [16, 17, 29, 30, 31, 32, 33, 34, 35, 36, 37, 38, 39, 40, 41, 42, 43, 44, 45, 46, 47, 48, 49, 50, 51, 52, 53, 54, 55, 56] (by decide +kernel) (by decide +kernel)
set_option maxRecDepth 20000 in
theorem gX6_addLevel_X6_goes : GoodIn wsX6_addLevel (wsV RX6 107 RX6 yX6_goes wsX6_goes) := goodIn_app (goodIn_of _ (by decide +kernel)) ggX6_addLevel_X6_goes
set_option maxRecDepth 20000 in
theorem ggX6_addLevel_X6_at : GoodIn wsX6_addLevel wsX6_at := goodIn_r _ [20] (by decide +kernel) (by decide +kernel)
set_option maxRecDepth 20000 in
theorem gX6_addLevel_X6_at : GoodIn wsX6_addLevel (va_wsS RX6 77 yX6_at wsX6_at) := goodIn_app (goodIn_of _ (by decide +kernel)) ggX6_addLevel_X6_at
set_option maxRecDepth 20000 in
theorem ggX6_addLevel_X6_edits : GoodIn wsX6_addLevel wsX6_edits := goodIn_r _ [24, 25, 26, 27, 28, 29, 30, 31, 32, 33, 34, 35, 36, 37, 38, 39, 40, 41, 42, 43, 44, 45, 46, 47, 48, 49, 50, 51, 52, 53, 54, 55, 56] (by decide +kernel) (by decide +kernel)
set_option maxRecDepth 20000 in
theorem gX6_addLevel_X6_edits : GoodIn wsX6_addLevel (wsV RX6 111 RX6 yX6_edits wsX6_edits) := goodIn_app (goodIn_of _ (by decide +kernel)) ggX6_addLevel_X6_edits
theorem dX6_addLevel_0 : decode cX6_addLevel 0 = .ok (.aload_n 0, 1) := by decide +kernel
theorem dX6_addLevel_1 : decode cX6_addLevel 1 = .ok (.iload_n 1, 1) := by decide +kernel
theorem dX6_addLevel_2 : decode cX6_addLevel 2 = .ok (.iconst 2, 1) := by decide +kernel
theorem dX6_addLevel_3 : decode cX6_addLevel 3 = .ok (.bipush 12, 2) := by decide +kernel
theorem dX6_addLevel_5 : decode cX6_addLevel 5 = .ok (.invokestatic 66, 3) := by decide +kernel
theorem dX6_addLevel_8 : decode cX6_addLevel 8 = .ok (.ifCond .eq 17, 3) := by decide +kernel
theorem dX6_addLevel_11 : decode cX6_addLevel 11 = .ok (.iload_n 2, 1) := by decide +kernel
theorem dX6_addLevel_12 : decode cX6_addLevel 12 = .ok (.iconst 2, 1) := by decide +kernel
theorem dX6_addLevel_13 : decode cX6_addLevel 13 = .ok (.bipush 8, 2) := by decide +kernel
theorem dX6_addLevel_15 : decode cX6_addLevel 15 = .ok (.invokestatic 66, 3) := by decide +kernel
theorem dX6_addLevel_18 : decode cX6_addLevel 18 = .ok (.ifCond .eq 7, 3) := by decide +kernel
theorem dX6_addLevel_21 : decode cX6_addLevel 21 = .ok (.iconst 1, 1) := by decide +kernel
theorem dX6_addLevel_22 : decode cX6_addLevel 22 = .ok (.goto 4, 3) := by decide +kernel
theorem dX6_addLevel_25 : decode cX6_addLevel 25 = .ok (.iconst 0, 1) := by decide +kernel
theorem dX6_addLevel_26 : decode cX6_addLevel 26 = .ok (.aload_n 0, 1) := by decide +kernel
theorem dX6_addLevel_27 : decode cX6_addLevel 27 = .ok (.getfield 63, 3) := by decide +kernel
theorem dX6_addLevel_30 : decode cX6_addLevel 30 = .ok (.bipush 6, 2) := by decide +kernel
theorem dX6_addLevel_32 : decode cX6_addLevel 32 = .ok (.if_icmp .ge 7, 3) := by decide +kernel
theorem dX6_addLevel_35 : decode cX6_addLevel 35 = .ok (.iconst 1, 1) := by decide +kernel
theorem dX6_addLevel_36 : decode cX6_addLevel 36 = .ok (.goto 4, 3) := by decide +kernel
theorem dX6_addLevel_39 : decode cX6_addLevel 39 = .ok (.iconst 0, 1) := by decide +kernel
theorem dX6_addLevel_40 : decode cX6_addLevel 40 = .ok (.iconst 1, 1) := by decide +kernel
theorem dX6_addLevel_41 : decode cX6_addLevel 41 = .ok (.invokevirtual 107, 3) := by decide +kernel
theorem dX6_addLevel_44 : decode cX6_addLevel 44 = .ok (.ifCond .ne 5, 3) := by decide +kernel
theorem dX6_addLevel_47 : decode cX6_addLevel 47 = .ok (.iconst 0, 1) := by decide +kernel
theorem dX6_addLevel_48 : decode cX6_addLevel 48 = .ok (.ireturn, 1) := by decide +kernel
theorem dX6_addLevel_49 : decode cX6_addLevel 49 = .ok (.aload_n 0, 1) := by decide +kernel
theorem dX6_addLevel_50 : decode cX6_addLevel 50 = .ok (.getfield 7, 3) := by decide +kernel
theorem dX6_addLevel_53 : decode cX6_addLevel 53 = .ok (.aload_n 0, 1) := by decide +kernel
theorem dX6_addLevel_54 : decode cX6_addLevel 54 = .ok (.getfield 63, 3) := by decide +kernel
theorem dX6_addLevel_57 : decode cX6_addLevel 57 = .ok (.iload_n 1, 1) := by decide +kernel
theorem dX6_addLevel_58 : decode cX6_addLevel 58 = .ok (.iastore, 1) := by decide +kernel
theorem dX6_addLevel_59 : decode cX6_addLevel 59 = .ok (.aload_n 0, 1) := by decide +kernel
theorem dX6_addLevel_60 : decode cX6_addLevel 60 = .ok (.getfield 13, 3) := by decide +kernel
theorem dX6_addLevel_63 : decode cX6_addLevel 63 = .ok (.aload_n 0, 1) := by decide +kernel
theorem dX6_addLevel_64 : decode cX6_addLevel 64 = .ok (.getfield 63, 3) := by decide +kernel
theorem dX6_addLevel_67 : decode cX6_addLevel 67 = .ok (.iload_n 2, 1) := by decide +kernel
theorem dX6_addLevel_68 : decode cX6_addLevel 68 = .ok (.iastore, 1) := by decide +kernel
theorem dX6_addLevel_69 : decode cX6_addLevel 69 = .ok (.iconst 0, 1) := by decide +kernel
theorem dX6_addLevel_70 : decode cX6_addLevel 70 = .ok (.istore_n 3, 1) := by decide +kernel
theorem dX6_addLevel_71 : decode cX6_addLevel 71 = .ok (.iload_n 3, 1) := by decide +kernel
theorem dX6_addLevel_72 : decode cX6_addLevel 72 = .ok (.iload_n 1, 1) := by decide +kernel
theorem dX6_addLevel_73 : decode cX6_addLevel 73 = .ok (.if_icmp .ge 26, 3) := by decide +kernel
theorem dX6_addLevel_76 : decode cX6_addLevel 76 = .ok (.aload_n 0, 1) := by decide +kernel
theorem dX6_addLevel_77 : decode cX6_addLevel 77 = .ok (.getfield 16, 3) := by decide +kernel
theorem dX6_addLevel_80 : decode cX6_addLevel 80 = .ok (.aload_n 0, 1) := by decide +kernel
theorem dX6_addLevel_81 : decode cX6_addLevel 81 = .ok (.getfield 63, 3) := by decide +kernel
theorem dX6_addLevel_84 : decode cX6_addLevel 84 = .ok (.iload_n 3, 1) := by decide +kernel
theorem dX6_addLevel_85 : decode cX6_addLevel 85 = .ok (.iload_n 2, 1) := by decide +kernel
theorem dX6_addLevel_86 : decode cX6_addLevel 86 = .ok (.iconst 1, 1) := by decide +kernel
theorem dX6_addLevel_87 : decode cX6_addLevel 87 = .ok (.isub, 1) := by decide +kernel
theorem dX6_addLevel_88 : decode cX6_addLevel 88 = .ok (.invokestatic 77, 3) := by decide +kernel
theorem dX6_addLevel_91 : decode cX6_addLevel 91 = .ok (.iconst 1, 1) := by decide +kernel
theorem dX6_addLevel_92 : decode cX6_addLevel 92 = .ok (.iastore, 1) := by decide +kernel
theorem dX6_addLevel_93 : decode cX6_addLevel 93 = .ok (.iinc 3 1, 3) := by decide +kernel
theorem dX6_addLevel_96 : decode cX6_addLevel 96 = .ok (.goto (-25), 3) := by decide +kernel
theorem dX6_addLevel_99 : decode cX6_addLevel 99 = .ok (.aload_n 0, 1) := by decide +kernel
theorem dX6_addLevel_100 : decode cX6_addLevel 100 = .ok (.getfield 19, 3) := by decide +kernel
theorem dX6_addLevel_103 : decode cX6_addLevel 103 = .ok (.aload_n 0, 1) := by decide +kernel
theorem dX6_addLevel_104 : decode cX6_addLevel 104 = .ok (.getfield 63, 3) := by decide +kernel
theorem dX6_addLevel_107 : decode cX6_addLevel 107 = .ok (.iconst 0, 1) := by decide +kernel
theorem dX6_addLevel_108 : decode cX6_addLevel 108 = .ok (.iastore, 1) := by decide +kernel
theorem dX6_addLevel_109 : decode cX6_addLevel 109 = .ok (.aload_n 0, 1) := by decide +kernel
theorem dX6_addLevel_110 : decode cX6_addLevel 110 = .ok (.getfield 22, 3) := by decide +kernel
theorem dX6_addLevel_113 : decode cX6_addLevel 113 = .ok (.aload_n 0, 1) := by decide +kernel
theorem dX6_addLevel_114 : decode cX6_addLevel 114 = .ok (.getfield 63, 3) := by decide +kernel
theorem dX6_addLevel_117 : decode cX6_addLevel 117 = .ok (.iload_n 2, 1) := by decide +kernel
theorem dX6_addLevel_118 : decode cX6_addLevel 118 = .ok (.iconst 2, 1) := by decide +kernel
theorem dX6_addLevel_119 : decode cX6_addLevel 119 = .ok (.isub, 1) := by decide +kernel
theorem dX6_addLevel_120 : decode cX6_addLevel 120 = .ok (.iastore, 1) := by decide +kernel
theorem dX6_addLevel_121 : decode cX6_addLevel 121 = .ok (.aload_n 0, 1) := by decide +kernel
theorem dX6_addLevel_122 : decode cX6_addLevel 122 = .ok (.getfield 25, 3) := by decide +kernel
theorem dX6_addLevel_125 : decode cX6_addLevel 125 = .ok (.aload_n 0, 1) := by decide +kernel
theorem dX6_addLevel_126 : decode cX6_addLevel 126 = .ok (.getfield 63, 3) := by decide +kernel
theorem dX6_addLevel_129 : decode cX6_addLevel 129 = .ok (.iload_n 1, 1) := by decide +kernel
theorem dX6_addLevel_130 : decode cX6_addLevel 130 = .ok (.iconst 1, 1) := by decide +kernel
theorem dX6_addLevel_131 : decode cX6_addLevel 131 = .ok (.isub, 1) := by decide +kernel
theorem dX6_addLevel_132 : decode cX6_addLevel 132 = .ok (.iastore, 1) := by decide +kernel
theorem dX6_addLevel_133 : decode cX6_addLevel 133 = .ok (.aload_n 0, 1) := by decide +kernel
theorem dX6_addLevel_134 : decode cX6_addLevel 134 = .ok (.getfield 28, 3) := by decide +kernel
theorem dX6_addLevel_137 : decode cX6_addLevel 137 = .ok (.aload_n 0, 1) := by decide +kernel
theorem dX6_addLevel_138 : decode cX6_addLevel 138 = .ok (.getfield 63, 3) := by decide +kernel
theorem dX6_addLevel_141 : decode cX6_addLevel 141 = .ok (.iload_n 2, 1) := by decide +kernel
theorem dX6_addLevel_142 : decode cX6_addLevel 142 = .ok (.iconst 2, 1) := by decide +kernel
theorem dX6_addLevel_143 : decode cX6_addLevel 143 = .ok (.isub, 1) := by decide +kernel
theorem dX6_addLevel_144 : decode cX6_addLevel 144 = .ok (.iastore, 1) := by decide +kernel
theorem dX6_addLevel_145 : decode cX6_addLevel 145 = .ok (.aload_n 0, 1) := by decide +kernel
theorem dX6_addLevel_146 : decode cX6_addLevel 146 = .ok (.aload_n 0, 1) := by decide +kernel
theorem dX6_addLevel_147 : decode cX6_addLevel 147 = .ok (.getfield 63, 3) := by decide +kernel
theorem dX6_addLevel_150 : decode cX6_addLevel 150 = .ok (.invokevirtual 111, 3) := by decide +kernel
theorem dX6_addLevel_153 : decode cX6_addLevel 153 = .ok (.aload_n 0, 1) := by decide +kernel
theorem dX6_addLevel_154 : decode cX6_addLevel 154 = .ok (.dup, 1) := by decide +kernel
theorem dX6_addLevel_155 : decode cX6_addLevel 155 = .ok (.getfield 63, 3) := by decide +kernel
theorem dX6_addLevel_158 : decode cX6_addLevel 158 = .ok (.iconst 1, 1) := by decide +kernel
theorem dX6_addLevel_159 : decode cX6_addLevel 159 = .ok (.iadd, 1) := by decide +kernel
theorem dX6_addLevel_160 : decode cX6_addLevel 160 = .ok (.putfield 63, 3) := by decide +kernel
theorem dX6_addLevel_163 : decode cX6_addLevel 163 = .ok (.aload_n 0, 1) := by decide +kernel
theorem dX6_addLevel_164 : decode cX6_addLevel 164 = .ok (.getfield 63, 3) := by decide +kernel
theorem dX6_addLevel_167 : decode cX6_addLevel 167 = .ok (.iconst 1, 1) := by decide +kernel
theorem dX6_addLevel_168 : decode cX6_addLevel 168 = .ok (.isub, 1) := by decide +kernel
theorem dX6_addLevel_169 : decode cX6_addLevel 169 = .ok (.ireturn, 1) := by decide +kernel
theorem dX6_isMark_0 : decode cX6_isMark 0 = .ok (.aload_n 0, 1) := by decide +kernel
theorem dX6_isMark_1 : decode cX6_isMark 1 = .ok (.getfield 19, 3) := by decide +kernel
theorem dX6_isMark_4 : decode cX6_isMark 4 = .ok (.iload_n 1, 1) := by decide +kernel
theorem dX6_isMark_5 : decode cX6_isMark 5 = .ok (.iaload, 1) := by decide +kernel
theorem dX6_isMark_6 : decode cX6_isMark 6 = .ok (.iload_n 2, 1) := by decide +kernel
theorem dX6_isMark_7 : decode cX6_isMark 7 = .ok (.if_icmp .ne 13, 3) := by decide +kernel
theorem dX6_isMark_10 : decode cX6_isMark 10 = .ok (.aload_n 0, 1) := by decide +kernel
theorem dX6_isMark_11 : decode cX6_isMark 11 = .ok (.getfield 22, 3) := by decide +kernel
theorem dX6_isMark_14 : decode cX6_isMark 14 = .ok (.iload_n 1, 1) := by decide +kernel
theorem dX6_isMark_15 : decode cX6_isMark 15 = .ok (.iaload, 1) := by decide +kernel
theorem dX6_isMark_16 : decode cX6_isMark 16 = .ok (.iload_n 3, 1) := by decide +kernel
theorem dX6_isMark_17 : decode cX6_isMark 17 = .ok (.if_icmp .eq 23, 3) := by decide +kernel
theorem dX6_isMark_20 : decode cX6_isMark 20 = .ok (.aload_n 0, 1) := by decide +kernel
theorem dX6_isMark_21 : decode cX6_isMark 21 = .ok (.getfield 25, 3) := by decide +kernel
theorem dX6_isMark_24 : decode cX6_isMark 24 = .ok (.iload_n 1, 1) := by decide +kernel
theorem dX6_isMark_25 : decode cX6_isMark 25 = .ok (.iaload, 1) := by decide +kernel
theorem dX6_isMark_26 : decode cX6_isMark 26 = .ok (.iload_n 2, 1) := by decide +kernel
theorem dX6_isMark_27 : decode cX6_isMark 27 = .ok (.if_icmp .ne 17, 3) := by decide +kernel
theorem dX6_isMark_30 : decode cX6_isMark 30 = .ok (.aload_n 0, 1) := by decide +kernel
theorem dX6_isMark_31 : decode cX6_isMark 31 = .ok (.getfield 28, 3) := by decide +kernel
theorem dX6_isMark_34 : decode cX6_isMark 34 = .ok (.iload_n 1, 1) := by decide +kernel
theorem dX6_isMark_35 : decode cX6_isMark 35 = .ok (.iaload, 1) := by decide +kernel
theorem dX6_isMark_36 : decode cX6_isMark 36 = .ok (.iload_n 3, 1) := by decide +kernel
theorem dX6_isMark_37 : decode cX6_isMark 37 = .ok (.if_icmp .ne 7, 3) := by decide +kernel
theorem dX6_isMark_40 : decode cX6_isMark 40 = .ok (.iconst 1, 1) := by decide +kernel
theorem dX6_isMark_41 : decode cX6_isMark 41 = .ok (.goto 4, 3) := by decide +kernel
theorem dX6_isMark_44 : decode cX6_isMark 44 = .ok (.iconst 0, 1) := by decide +kernel
theorem dX6_isMark_45 : decode cX6_isMark 45 = .ok (.ireturn, 1) := by decide +kernel
set_option maxRecDepth 20000 in
theorem ggX6_setCell_X6_isCell : GoodIn wsX6_setCell wsX6_isCell := goodIn_r _ [6, 7, 8, 9, 10, 11, 5, 12, 13, 14, 15, 16, 41, 42, 43, 44, 45, 46, 47, 48, 49, 50, 51, 52, 53, 54, 55, 56, 57, 58, 59, 60, 61, 62, 63, 64, 65, 66, 67, 68] (by decide +kernel) (by decide +kernel)
set_option maxRecDepth 20000 in
theorem gX6_setCell_X6_isCell : GoodIn wsX6_setCell (wsV RX6 74 RX6 yX6_isCell wsX6_isCell) := goodIn_app (goodIn_of _ (by decide +kernel)) ggX6_setCell_X6_isCell
set_option maxRecDepth 20000 in
theorem ggX6_setCell_X6_in : GoodIn wsX6_setCell wsX6_in := goodIn_r _ [16] (by decide +kernel) (by decide +kernel)
set_option maxRecDepth 20000 in
theorem gX6_setCell_X6_in : GoodIn wsX6_setCell (va_wsS RX6 66 yX6_in wsX6_in) := goodIn_app (goodIn_of _ (by decide +kernel)) ggX6_setCell_X6_in
set_option maxRecDepth 20000 in
theorem ggX6_setCell_X6_isMark : GoodIn wsX6_setCell wsX6_isMark := goodIn_r _ [20, 21, 22, 23, 24, 41, 42, 43, 44, 45, 46, 47, 48, 49, 50, 51, 52, 53, 54, 55, 56, 57, 58, 59, 60, 61, 62, 63, 64, 65, 66, 67, 68] (by decide +kernel) (by decide +kernel)
set_option maxRecDepth 20000 in
theorem gX6_setCell_X6_isMark : GoodIn wsX6_setCell (wsV RX6 115 RX6 yX6_isMark wsX6_isMark) := goodIn_app (goodIn_of _ (by decide +kernel)) ggX6_setCell_X6_isMark
set_option maxRecDepth 20000 in
theorem ggX6_setCell_X6_goes : GoodIn wsX6_setCell wsX6_goes := goodIn_r _ [28, 29, 41, 42, 43, 44, 45, 46, 47, 48, 49, 50, 51, 52, 53, 54, 55, 56, 57, 58, 59, 60, 61, 62, 63, 64, 65, 66, 67, 68] (by decide +kernel) (by decide +kernel)
set_option maxRecDepth 20000 in
theorem gX6_setCell_X6_goes : GoodIn wsX6_setCell (wsV RX6 107 RX6 yX6_goes wsX6_goes) := goodIn_app (goodIn_of _ (by decide +kernel)) ggX6_setCell_X6_goes
set_option maxRecDepth 20000 in
theorem ggX6_setCell_X6_at : GoodIn wsX6_setCell wsX6_at := goodIn_r _ [32] (by decide +kernel) (by decide +kernel)
set_option maxRecDepth 20000 in
theorem gX6_setCell_X6_at : GoodIn wsX6_setCell (va_wsS RX6 77 yX6_at wsX6_at) := goodIn_app (goodIn_of _ (by decide +kernel)) ggX6_setCell_X6_at
set_option maxRecDepth 20000 in
theorem ggX6_setCell_X6_edits : GoodIn wsX6_setCell wsX6_edits := goodIn_r _ [36, 37, 38, 39, 40, 41, 42, 43, 44, 45, 46, 47, 48, 49, 50, 51, 52, 53, 54, 55, 56, 57, 58, 59, 60, 61, 62, 63, 64, 65, 66, 67, 68] (by decide +kernel) (by decide +kernel)
set_option maxRecDepth 20000 in
theorem gX6_setCell_X6_edits : GoodIn wsX6_setCell (wsV RX6 111 RX6 yX6_edits wsX6_edits) := goodIn_app (goodIn_of _ (by decide +kernel)) ggX6_setCell_X6_edits
theorem dX6_setCell_0 : decode cX6_setCell 0 = .ok (.aload_n 0, 1) := by decide +kernel
theorem dX6_setCell_1 : decode cX6_setCell 1 = .ok (.iload_n 1, 1) := by decide +kernel
theorem dX6_setCell_2 : decode cX6_setCell 2 = .ok (.iload_n 2, 1) := by decide +kernel
theorem dX6_setCell_3 : decode cX6_setCell 3 = .ok (.iload_n 3, 1) := by decide +kernel
theorem dX6_setCell_4 : decode cX6_setCell 4 = .ok (.invokevirtual 74, 3) := by decide +kernel
theorem dX6_setCell_7 : decode cX6_setCell 7 = .ok (.istore 5, 2) := by decide +kernel
theorem dX6_setCell_9 : decode cX6_setCell 9 = .ok (.aload_n 0, 1) := by decide +kernel
theorem dX6_setCell_10 : decode cX6_setCell 10 = .ok (.iload 5, 2) := by decide +kernel
theorem dX6_setCell_12 : decode cX6_setCell 12 = .ok (.iload 4, 2) := by decide +kernel
theorem dX6_setCell_14 : decode cX6_setCell 14 = .ok (.iconst 0, 1) := by decide +kernel
theorem dX6_setCell_15 : decode cX6_setCell 15 = .ok (.iconst 3, 1) := by decide +kernel
theorem dX6_setCell_16 : decode cX6_setCell 16 = .ok (.invokestatic 66, 3) := by decide +kernel
theorem dX6_setCell_19 : decode cX6_setCell 19 = .ok (.iload 5, 2) := by decide +kernel
theorem dX6_setCell_21 : decode cX6_setCell 21 = .ok (.ifCond .eq 23, 3) := by decide +kernel
theorem dX6_setCell_24 : decode cX6_setCell 24 = .ok (.iload 4, 2) := by decide +kernel
theorem dX6_setCell_26 : decode cX6_setCell 26 = .ok (.iconst 1, 1) := by decide +kernel
theorem dX6_setCell_27 : decode cX6_setCell 27 = .ok (.if_icmp .ne 13, 3) := by decide +kernel
theorem dX6_setCell_30 : decode cX6_setCell 30 = .ok (.aload_n 0, 1) := by decide +kernel
theorem dX6_setCell_31 : decode cX6_setCell 31 = .ok (.iload_n 1, 1) := by decide +kernel
theorem dX6_setCell_32 : decode cX6_setCell 32 = .ok (.iload_n 2, 1) := by decide +kernel
theorem dX6_setCell_33 : decode cX6_setCell 33 = .ok (.iload_n 3, 1) := by decide +kernel
theorem dX6_setCell_34 : decode cX6_setCell 34 = .ok (.invokevirtual 115, 3) := by decide +kernel
theorem dX6_setCell_37 : decode cX6_setCell 37 = .ok (.ifCond .ne 7, 3) := by decide +kernel
theorem dX6_setCell_40 : decode cX6_setCell 40 = .ok (.iconst 1, 1) := by decide +kernel
theorem dX6_setCell_41 : decode cX6_setCell 41 = .ok (.goto 4, 3) := by decide +kernel
theorem dX6_setCell_44 : decode cX6_setCell 44 = .ok (.iconst 0, 1) := by decide +kernel
theorem dX6_setCell_45 : decode cX6_setCell 45 = .ok (.invokevirtual 107, 3) := by decide +kernel
theorem dX6_setCell_48 : decode cX6_setCell 48 = .ok (.ifCond .ne 5, 3) := by decide +kernel
theorem dX6_setCell_51 : decode cX6_setCell 51 = .ok (.iconst 0, 1) := by decide +kernel
theorem dX6_setCell_52 : decode cX6_setCell 52 = .ok (.ireturn, 1) := by decide +kernel
theorem dX6_setCell_53 : decode cX6_setCell 53 = .ok (.aload_n 0, 1) := by decide +kernel
theorem dX6_setCell_54 : decode cX6_setCell 54 = .ok (.getfield 16, 3) := by decide +kernel
theorem dX6_setCell_57 : decode cX6_setCell 57 = .ok (.iload_n 1, 1) := by decide +kernel
theorem dX6_setCell_58 : decode cX6_setCell 58 = .ok (.iload_n 2, 1) := by decide +kernel
theorem dX6_setCell_59 : decode cX6_setCell 59 = .ok (.iload_n 3, 1) := by decide +kernel
theorem dX6_setCell_60 : decode cX6_setCell 60 = .ok (.invokestatic 77, 3) := by decide +kernel
theorem dX6_setCell_63 : decode cX6_setCell 63 = .ok (.iaload, 1) := by decide +kernel
theorem dX6_setCell_64 : decode cX6_setCell 64 = .ok (.istore 6, 2) := by decide +kernel
theorem dX6_setCell_66 : decode cX6_setCell 66 = .ok (.aload_n 0, 1) := by decide +kernel
theorem dX6_setCell_67 : decode cX6_setCell 67 = .ok (.getfield 16, 3) := by decide +kernel
theorem dX6_setCell_70 : decode cX6_setCell 70 = .ok (.iload_n 1, 1) := by decide +kernel
theorem dX6_setCell_71 : decode cX6_setCell 71 = .ok (.iload_n 2, 1) := by decide +kernel
theorem dX6_setCell_72 : decode cX6_setCell 72 = .ok (.iload_n 3, 1) := by decide +kernel
theorem dX6_setCell_73 : decode cX6_setCell 73 = .ok (.invokestatic 77, 3) := by decide +kernel
theorem dX6_setCell_76 : decode cX6_setCell 76 = .ok (.iload 4, 2) := by decide +kernel
theorem dX6_setCell_78 : decode cX6_setCell 78 = .ok (.iastore, 1) := by decide +kernel
theorem dX6_setCell_79 : decode cX6_setCell 79 = .ok (.aload_n 0, 1) := by decide +kernel
theorem dX6_setCell_80 : decode cX6_setCell 80 = .ok (.iload_n 1, 1) := by decide +kernel
theorem dX6_setCell_81 : decode cX6_setCell 81 = .ok (.invokevirtual 111, 3) := by decide +kernel
theorem dX6_setCell_84 : decode cX6_setCell 84 = .ok (.iload 6, 2) := by decide +kernel
theorem dX6_setCell_86 : decode cX6_setCell 86 = .ok (.ireturn, 1) := by decide +kernel
set_option maxRecDepth 20000 in
theorem ggX6_setStart_X6_isCell : GoodIn wsX6_setStart wsX6_isCell := goodIn_r _ [7, 8, 9, 10, 11, 12, 6, 13, 14, 15, 16, 17, 39, 40, 41, 42, 43, 44, 45, 46, 47, 48, 49, 50, 51, 52, 53, 54, 55, 56, 57, 58, 59, 60, 61, 62, 63, 64, 65, 66] (by decide +kernel) (by decide +kernel)
set_option maxRecDepth 20000 in
theorem gX6_setStart_X6_isCell : GoodIn wsX6_setStart (wsV RX6 74 RX6 yX6_isCell wsX6_isCell) := goodIn_app (goodIn_of _ (by decide +kernel)) ggX6_setStart_X6_isCell
set_option maxRecDepth 20000 in
theorem ggX6_setStart_X6_isBlock : GoodIn wsX6_setStart wsX6_isBlock := goodIn_r _ [21, 22, 3, 4, 5, 6, 7, 8, 9, 10, 11, 12, 13, 14, 15, 16, 17, 23, 24, 25, 39, 40, 41, 42, 43, 44, 45, 46, 47, 48, 49, 50, 51, 52, 53, 54, 55, 56, 57, 58, 59, 60, 61, 62, 63, 64, 65, 66] (by decide +kernel) (by decide +kernel)
set_option maxRecDepth 20000 in
theorem gX6_setStart_X6_isBlock : GoodIn wsX6_setStart (wsV RX6 93 RX6 yX6_isBlock wsX6_isBlock) := goodIn_app (goodIn_of _ (by decide +kernel)) ggX6_setStart_X6_isBlock
set_option maxRecDepth 20000 in
theorem ggX6_setStart_X6_goes : GoodIn wsX6_setStart wsX6_goes := goodIn_r _ [29, 30, 39, 40, 41, 42, 43, 44, 45, 46, 47, 48, 49, 50, 51, 52, 53, 54, 55, 56, 57, 58, 59, 60, 61, 62, 63, 64, 65, 66] (by decide +kernel) (by decide +kernel)
set_option maxRecDepth 20000 in
theorem gX6_setStart_X6_goes : GoodIn wsX6_setStart (wsV RX6 107 RX6 yX6_goes wsX6_goes) := goodIn_app (goodIn_of _ (by decide +kernel)) ggX6_setStart_X6_goes
set_option maxRecDepth 20000 in
theorem ggX6_setStart_X6_edits : GoodIn wsX6_setStart wsX6_edits := goodIn_r _ [34, 35, 36, 37, 38, 39, 40, 41, 42, 43, 44, 45, 46, 47, 48, 49, 50, 51, 52, 53, 54, 55, 56, 57, 58, 59, 60, 61, 62, 63, 64, 65, 66] (by decide +kernel) (by decide +kernel)
set_option maxRecDepth 20000 in
theorem gX6_setStart_X6_edits : GoodIn wsX6_setStart (wsV RX6 111 RX6 yX6_edits wsX6_edits) := goodIn_app (goodIn_of _ (by decide +kernel)) ggX6_setStart_X6_edits
theorem dX6_setStart_0 : decode cX6_setStart 0 = .ok (.aload_n 0, 1) := by decide +kernel
theorem dX6_setStart_1 : decode cX6_setStart 1 = .ok (.iload_n 1, 1) := by decide +kernel
theorem dX6_setStart_2 : decode cX6_setStart 2 = .ok (.iload_n 2, 1) := by decide +kernel
theorem dX6_setStart_3 : decode cX6_setStart 3 = .ok (.iload_n 3, 1) := by decide +kernel
theorem dX6_setStart_4 : decode cX6_setStart 4 = .ok (.invokevirtual 74, 3) := by decide +kernel
theorem dX6_setStart_7 : decode cX6_setStart 7 = .ok (.istore 4, 2) := by decide +kernel
theorem dX6_setStart_9 : decode cX6_setStart 9 = .ok (.aload_n 0, 1) := by decide +kernel
theorem dX6_setStart_10 : decode cX6_setStart 10 = .ok (.iload 4, 2) := by decide +kernel
theorem dX6_setStart_12 : decode cX6_setStart 12 = .ok (.iload 4, 2) := by decide +kernel
theorem dX6_setStart_14 : decode cX6_setStart 14 = .ok (.ifCond .eq 17, 3) := by decide +kernel
theorem dX6_setStart_17 : decode cX6_setStart 17 = .ok (.aload_n 0, 1) := by decide +kernel
theorem dX6_setStart_18 : decode cX6_setStart 18 = .ok (.iload_n 1, 1) := by decide +kernel
theorem dX6_setStart_19 : decode cX6_setStart 19 = .ok (.iload_n 2, 1) := by decide +kernel
theorem dX6_setStart_20 : decode cX6_setStart 20 = .ok (.iload_n 3, 1) := by decide +kernel
theorem dX6_setStart_21 : decode cX6_setStart 21 = .ok (.invokevirtual 93, 3) := by decide +kernel
theorem dX6_setStart_24 : decode cX6_setStart 24 = .ok (.ifCond .ne 7, 3) := by decide +kernel
theorem dX6_setStart_27 : decode cX6_setStart 27 = .ok (.iconst 1, 1) := by decide +kernel
theorem dX6_setStart_28 : decode cX6_setStart 28 = .ok (.goto 4, 3) := by decide +kernel
theorem dX6_setStart_31 : decode cX6_setStart 31 = .ok (.iconst 0, 1) := by decide +kernel
theorem dX6_setStart_32 : decode cX6_setStart 32 = .ok (.iconst 1, 1) := by decide +kernel
theorem dX6_setStart_33 : decode cX6_setStart 33 = .ok (.invokevirtual 107, 3) := by decide +kernel
theorem dX6_setStart_36 : decode cX6_setStart 36 = .ok (.ifCond .eq 22, 3) := by decide +kernel
theorem dX6_setStart_39 : decode cX6_setStart 39 = .ok (.aload_n 0, 1) := by decide +kernel
theorem dX6_setStart_40 : decode cX6_setStart 40 = .ok (.getfield 19, 3) := by decide +kernel
theorem dX6_setStart_43 : decode cX6_setStart 43 = .ok (.iload_n 1, 1) := by decide +kernel
theorem dX6_setStart_44 : decode cX6_setStart 44 = .ok (.iload_n 2, 1) := by decide +kernel
theorem dX6_setStart_45 : decode cX6_setStart 45 = .ok (.iastore, 1) := by decide +kernel
theorem dX6_setStart_46 : decode cX6_setStart 46 = .ok (.aload_n 0, 1) := by decide +kernel
theorem dX6_setStart_47 : decode cX6_setStart 47 = .ok (.getfield 22, 3) := by decide +kernel
theorem dX6_setStart_50 : decode cX6_setStart 50 = .ok (.iload_n 1, 1) := by decide +kernel
theorem dX6_setStart_51 : decode cX6_setStart 51 = .ok (.iload_n 3, 1) := by decide +kernel
theorem dX6_setStart_52 : decode cX6_setStart 52 = .ok (.iastore, 1) := by decide +kernel
theorem dX6_setStart_53 : decode cX6_setStart 53 = .ok (.aload_n 0, 1) := by decide +kernel
theorem dX6_setStart_54 : decode cX6_setStart 54 = .ok (.iload_n 1, 1) := by decide +kernel
theorem dX6_setStart_55 : decode cX6_setStart 55 = .ok (.invokevirtual 111, 3) := by decide +kernel
theorem dX6_setStart_58 : decode cX6_setStart 58 = .ok (.return_, 1) := by decide +kernel
set_option maxRecDepth 20000 in
theorem ggX6_setFlag_X6_isCell : GoodIn wsX6_setFlag wsX6_isCell := goodIn_r _ [7, 8, 9, 10, 11, 12, 6, 13, 14, 15, 16, 17, 39, 40, 41, 42, 43, 44, 45, 46, 47, 48, 49, 50, 51, 52, 53, 54, 55, 56, 57, 58, 59, 60, 61, 62, 63, 64, 65, 66] (by decide +kernel) (by decide +kernel)
set_option maxRecDepth 20000 in
theorem gX6_setFlag_X6_isCell : GoodIn wsX6_setFlag (wsV RX6 74 RX6 yX6_isCell wsX6_isCell) := goodIn_app (goodIn_of _ (by decide +kernel)) ggX6_setFlag_X6_isCell
set_option maxRecDepth 20000 in
theorem ggX6_setFlag_X6_isBlock : GoodIn wsX6_setFlag wsX6_isBlock := goodIn_r _ [21, 22, 3, 4, 5, 6, 7, 8, 9, 10, 11, 12, 13, 14, 15, 16, 17, 23, 24, 25, 39, 40, 41, 42, 43, 44, 45, 46, 47, 48, 49, 50, 51, 52, 53, 54, 55, 56, 57, 58, 59, 60, 61, 62, 63, 64, 65, 66] (by decide +kernel) (by decide +kernel)
set_option maxRecDepth 20000 in
theorem gX6_setFlag_X6_isBlock : GoodIn wsX6_setFlag (wsV RX6 93 RX6 yX6_isBlock wsX6_isBlock) := goodIn_app (goodIn_of _ (by decide +kernel)) ggX6_setFlag_X6_isBlock
set_option maxRecDepth 20000 in
theorem ggX6_setFlag_X6_goes : GoodIn wsX6_setFlag wsX6_goes := goodIn_r _ [29, 30, 39, 40, 41, 42, 43, 44, 45, 46, 47, 48, 49, 50, 51, 52, 53, 54, 55, 56, 57, 58, 59, 60, 61, 62, 63, 64, 65, 66] (by decide +kernel) (by decide +kernel)
set_option maxRecDepth 20000 in
theorem gX6_setFlag_X6_goes : GoodIn wsX6_setFlag (wsV RX6 107 RX6 yX6_goes wsX6_goes) := goodIn_app (goodIn_of _ (by decide +kernel)) ggX6_setFlag_X6_goes
set_option maxRecDepth 20000 in
theorem ggX6_setFlag_X6_edits : GoodIn wsX6_setFlag wsX6_edits := goodIn_r _ [34, 35, 36, 37, 38, 39, 40, 41, 42, 43, 44, 45, 46, 47, 48, 49, 50, 51, 52, 53, 54, 55, 56, 57, 58, 59, 60, 61, 62, 63, 64, 65, 66] (by decide +kernel) (by decide +kernel)
set_option maxRecDepth 20000 in
theorem gX6_setFlag_X6_edits : GoodIn wsX6_setFlag (wsV RX6 111 RX6 yX6_edits wsX6_edits) := goodIn_app (goodIn_of _ (by decide +kernel)) ggX6_setFlag_X6_edits
theorem dX6_setFlag_0 : decode cX6_setFlag 0 = .ok (.aload_n 0, 1) := by decide +kernel
theorem dX6_setFlag_1 : decode cX6_setFlag 1 = .ok (.iload_n 1, 1) := by decide +kernel
theorem dX6_setFlag_2 : decode cX6_setFlag 2 = .ok (.iload_n 2, 1) := by decide +kernel
theorem dX6_setFlag_3 : decode cX6_setFlag 3 = .ok (.iload_n 3, 1) := by decide +kernel
theorem dX6_setFlag_4 : decode cX6_setFlag 4 = .ok (.invokevirtual 74, 3) := by decide +kernel
theorem dX6_setFlag_7 : decode cX6_setFlag 7 = .ok (.istore 4, 2) := by decide +kernel
theorem dX6_setFlag_9 : decode cX6_setFlag 9 = .ok (.aload_n 0, 1) := by decide +kernel
theorem dX6_setFlag_10 : decode cX6_setFlag 10 = .ok (.iload 4, 2) := by decide +kernel
theorem dX6_setFlag_12 : decode cX6_setFlag 12 = .ok (.iload 4, 2) := by decide +kernel
theorem dX6_setFlag_14 : decode cX6_setFlag 14 = .ok (.ifCond .eq 17, 3) := by decide +kernel
theorem dX6_setFlag_17 : decode cX6_setFlag 17 = .ok (.aload_n 0, 1) := by decide +kernel
theorem dX6_setFlag_18 : decode cX6_setFlag 18 = .ok (.iload_n 1, 1) := by decide +kernel
theorem dX6_setFlag_19 : decode cX6_setFlag 19 = .ok (.iload_n 2, 1) := by decide +kernel
theorem dX6_setFlag_20 : decode cX6_setFlag 20 = .ok (.iload_n 3, 1) := by decide +kernel
theorem dX6_setFlag_21 : decode cX6_setFlag 21 = .ok (.invokevirtual 93, 3) := by decide +kernel
theorem dX6_setFlag_24 : decode cX6_setFlag 24 = .ok (.ifCond .ne 7, 3) := by decide +kernel
theorem dX6_setFlag_27 : decode cX6_setFlag 27 = .ok (.iconst 1, 1) := by decide +kernel
theorem dX6_setFlag_28 : decode cX6_setFlag 28 = .ok (.goto 4, 3) := by decide +kernel
theorem dX6_setFlag_31 : decode cX6_setFlag 31 = .ok (.iconst 0, 1) := by decide +kernel
theorem dX6_setFlag_32 : decode cX6_setFlag 32 = .ok (.iconst 1, 1) := by decide +kernel
theorem dX6_setFlag_33 : decode cX6_setFlag 33 = .ok (.invokevirtual 107, 3) := by decide +kernel
theorem dX6_setFlag_36 : decode cX6_setFlag 36 = .ok (.ifCond .eq 22, 3) := by decide +kernel
theorem dX6_setFlag_39 : decode cX6_setFlag 39 = .ok (.aload_n 0, 1) := by decide +kernel
theorem dX6_setFlag_40 : decode cX6_setFlag 40 = .ok (.getfield 25, 3) := by decide +kernel
theorem dX6_setFlag_43 : decode cX6_setFlag 43 = .ok (.iload_n 1, 1) := by decide +kernel
theorem dX6_setFlag_44 : decode cX6_setFlag 44 = .ok (.iload_n 2, 1) := by decide +kernel
theorem dX6_setFlag_45 : decode cX6_setFlag 45 = .ok (.iastore, 1) := by decide +kernel
theorem dX6_setFlag_46 : decode cX6_setFlag 46 = .ok (.aload_n 0, 1) := by decide +kernel
theorem dX6_setFlag_47 : decode cX6_setFlag 47 = .ok (.getfield 28, 3) := by decide +kernel
theorem dX6_setFlag_50 : decode cX6_setFlag 50 = .ok (.iload_n 1, 1) := by decide +kernel
theorem dX6_setFlag_51 : decode cX6_setFlag 51 = .ok (.iload_n 3, 1) := by decide +kernel
theorem dX6_setFlag_52 : decode cX6_setFlag 52 = .ok (.iastore, 1) := by decide +kernel
theorem dX6_setFlag_53 : decode cX6_setFlag 53 = .ok (.aload_n 0, 1) := by decide +kernel
theorem dX6_setFlag_54 : decode cX6_setFlag 54 = .ok (.iload_n 1, 1) := by decide +kernel
theorem dX6_setFlag_55 : decode cX6_setFlag 55 = .ok (.invokevirtual 111, 3) := by decide +kernel
theorem dX6_setFlag_58 : decode cX6_setFlag 58 = .ok (.return_, 1) := by decide +kernel
set_option maxRecDepth 20000 in
theorem ggX6_grow_X6_isLevel : GoodIn wsX6_grow wsX6_isLevel := goodIn_r _ [10, 11, 12, 13, 9, 14, 39, 40, 41, 42, 43, 44, 45, 46, 47, 48, 49, 50, 51, 52, 53, 54, 55, 56, 57, 58, 59, 60, 61, 62, 63, 64, 65, 66] (by decide +kernel) (by decide +kernel)
set_option maxRecDepth 20000 in
theorem gX6_grow_X6_isLevel : GoodIn wsX6_grow (wsV RX6 70 RX6 yX6_isLevel wsX6_isLevel) := goodIn_app (goodIn_of _ (by decide +kernel)) ggX6_grow_X6_isLevel
set_option maxRecDepth 20000 in
theorem ggX6_grow_X6_in : GoodIn wsX6_grow wsX6_in := goodIn_r _ [14] (by decide +kernel) (by decide +kernel)
set_option maxRecDepth 20000 in
theorem gX6_grow_X6_in : GoodIn wsX6_grow (va_wsS RX6 66 yX6_in wsX6_in) := goodIn_app (goodIn_of _ (by decide +kernel)) ggX6_grow_X6_in
set_option maxRecDepth 20000 in
theorem ggX6_grow_X6_goes : GoodIn wsX6_grow wsX6_goes := goodIn_r _ [18, 19, 39, 40, 41, 42, 43, 44, 45, 46, 47, 48, 49, 50, 51, 52, 53, 54, 55, 56, 57, 58, 59, 60, 61, 62, 63, 64, 65, 66] (by decide +kernel) (by decide +kernel)
set_option maxRecDepth 20000 in
theorem gX6_grow_X6_goes : GoodIn wsX6_grow (wsV RX6 107 RX6 yX6_goes wsX6_goes) := goodIn_app (goodIn_of _ (by decide +kernel)) ggX6_grow_X6_goes
set_option maxRecDepth 20000 in
theorem ggX6_grow_X6_isMark : GoodIn wsX6_grow wsX6_isMark := goodIn_r _ [23, 24, 25, 26, 27, 39, 40, 41, 42, 43, 44, 45, 46, 47, 48, 49, 50, 51, 52, 53, 54, 55, 56, 57, 58, 59, 60, 61, 62, 63, 64, 65, 66] (by decide +kernel) (by decide +kernel)
set_option maxRecDepth 20000 in
theorem gX6_grow_X6_isMark : GoodIn wsX6_grow (wsV RX6 115 RX6 yX6_isMark wsX6_isMark) := goodIn_app (goodIn_of _ (by decide +kernel)) ggX6_grow_X6_isMark
set_option maxRecDepth 20000 in
theorem ggX6_grow_X6_at : GoodIn wsX6_grow wsX6_at := goodIn_r _ [30] (by decide +kernel) (by decide +kernel)
set_option maxRecDepth 20000 in
theorem gX6_grow_X6_at : GoodIn wsX6_grow (va_wsS RX6 77 yX6_at wsX6_at) := goodIn_app (goodIn_of _ (by decide +kernel)) ggX6_grow_X6_at
set_option maxRecDepth 20000 in
theorem ggX6_grow_X6_edits : GoodIn wsX6_grow wsX6_edits := goodIn_r _ [34, 35, 36, 37, 38, 39, 40, 41, 42, 43, 44, 45, 46, 47, 48, 49, 50, 51, 52, 53, 54, 55, 56, 57, 58, 59, 60, 61, 62, 63, 64, 65, 66] (by decide +kernel) (by decide +kernel)
set_option maxRecDepth 20000 in
theorem gX6_grow_X6_edits : GoodIn wsX6_grow (wsV RX6 111 RX6 yX6_edits wsX6_edits) := goodIn_app (goodIn_of _ (by decide +kernel)) ggX6_grow_X6_edits
theorem dX6_grow_0 : decode cX6_grow 0 = .ok (.aload_n 0, 1) := by decide +kernel
theorem dX6_grow_1 : decode cX6_grow 1 = .ok (.aload_n 0, 1) := by decide +kernel
theorem dX6_grow_2 : decode cX6_grow 2 = .ok (.iload_n 1, 1) := by decide +kernel
theorem dX6_grow_3 : decode cX6_grow 3 = .ok (.invokevirtual 70, 3) := by decide +kernel
theorem dX6_grow_6 : decode cX6_grow 6 = .ok (.iload_n 2, 1) := by decide +kernel
theorem dX6_grow_7 : decode cX6_grow 7 = .ok (.iconst 0, 1) := by decide +kernel
theorem dX6_grow_8 : decode cX6_grow 8 = .ok (.ldc 118, 2) := by decide +kernel
theorem dX6_grow_10 : decode cX6_grow 10 = .ok (.invokestatic 66, 3) := by decide +kernel
theorem dX6_grow_13 : decode cX6_grow 13 = .ok (.iconst 1, 1) := by decide +kernel
theorem dX6_grow_14 : decode cX6_grow 14 = .ok (.invokevirtual 107, 3) := by decide +kernel
theorem dX6_grow_17 : decode cX6_grow 17 = .ok (.ifCond .ne 5, 3) := by decide +kernel
theorem dX6_grow_20 : decode cX6_grow 20 = .ok (.iconst 0, 1) := by decide +kernel
theorem dX6_grow_21 : decode cX6_grow 21 = .ok (.ireturn, 1) := by decide +kernel
theorem dX6_grow_22 : decode cX6_grow 22 = .ok (.iload_n 2, 1) := by decide +kernel
theorem dX6_grow_23 : decode cX6_grow 23 = .ok (.istore_n 3, 1) := by decide +kernel
theorem dX6_grow_24 : decode cX6_grow 24 = .ok (.iconst 0, 1) := by decide +kernel
theorem dX6_grow_25 : decode cX6_grow 25 = .ok (.istore 4, 2) := by decide +kernel
theorem dX6_grow_27 : decode cX6_grow 27 = .ok (.iconst 0, 1) := by decide +kernel
theorem dX6_grow_28 : decode cX6_grow 28 = .ok (.istore 5, 2) := by decide +kernel
theorem dX6_grow_30 : decode cX6_grow 30 = .ok (.iload 5, 2) := by decide +kernel
theorem dX6_grow_32 : decode cX6_grow 32 = .ok (.aload_n 0, 1) := by decide +kernel
theorem dX6_grow_33 : decode cX6_grow 33 = .ok (.getfield 13, 3) := by decide +kernel
theorem dX6_grow_36 : decode cX6_grow 36 = .ok (.iload_n 1, 1) := by decide +kernel
theorem dX6_grow_37 : decode cX6_grow 37 = .ok (.iaload, 1) := by decide +kernel
theorem dX6_grow_38 : decode cX6_grow 38 = .ok (.if_icmp .ge 148, 3) := by decide +kernel
theorem dX6_grow_41 : decode cX6_grow 41 = .ok (.iconst 0, 1) := by decide +kernel
theorem dX6_grow_42 : decode cX6_grow 42 = .ok (.istore 6, 2) := by decide +kernel
theorem dX6_grow_44 : decode cX6_grow 44 = .ok (.iload 6, 2) := by decide +kernel
theorem dX6_grow_46 : decode cX6_grow 46 = .ok (.aload_n 0, 1) := by decide +kernel
theorem dX6_grow_47 : decode cX6_grow 47 = .ok (.getfield 7, 3) := by decide +kernel
theorem dX6_grow_50 : decode cX6_grow 50 = .ok (.iload_n 1, 1) := by decide +kernel
theorem dX6_grow_51 : decode cX6_grow 51 = .ok (.iaload, 1) := by decide +kernel
theorem dX6_grow_52 : decode cX6_grow 52 = .ok (.if_icmp .ge 128, 3) := by decide +kernel
theorem dX6_grow_55 : decode cX6_grow 55 = .ok (.iload_n 3, 1) := by decide +kernel
theorem dX6_grow_56 : decode cX6_grow 56 = .ok (.sipush 1103, 3) := by decide +kernel
theorem dX6_grow_59 : decode cX6_grow 59 = .ok (.imul, 1) := by decide +kernel
theorem dX6_grow_60 : decode cX6_grow 60 = .ok (.sipush 12345, 3) := by decide +kernel
theorem dX6_grow_63 : decode cX6_grow 63 = .ok (.iadd, 1) := by decide +kernel
theorem dX6_grow_64 : decode cX6_grow 64 = .ok (.ldc 119, 2) := by decide +kernel
theorem dX6_grow_66 : decode cX6_grow 66 = .ok (.irem, 1) := by decide +kernel
theorem dX6_grow_67 : decode cX6_grow 67 = .ok (.istore_n 3, 1) := by decide +kernel
theorem dX6_grow_68 : decode cX6_grow 68 = .ok (.iload_n 3, 1) := by decide +kernel
theorem dX6_grow_69 : decode cX6_grow 69 = .ok (.bipush 16, 2) := by decide +kernel
theorem dX6_grow_71 : decode cX6_grow 71 = .ok (.idiv, 1) := by decide +kernel
theorem dX6_grow_72 : decode cX6_grow 72 = .ok (.bipush 16, 2) := by decide +kernel
theorem dX6_grow_74 : decode cX6_grow 74 = .ok (.irem, 1) := by decide +kernel
theorem dX6_grow_75 : decode cX6_grow 75 = .ok (.istore 7, 2) := by decide +kernel
theorem dX6_grow_77 : decode cX6_grow 77 = .ok (.iload 7, 2) := by decide +kernel
theorem dX6_grow_79 : decode cX6_grow 79 = .ok (.iconst 3, 1) := by decide +kernel
theorem dX6_grow_80 : decode cX6_grow 80 = .ok (.if_icmp .le 16, 3) := by decide +kernel
theorem dX6_grow_83 : decode cX6_grow 83 = .ok (.iload 5, 2) := by decide +kernel
theorem dX6_grow_85 : decode cX6_grow 85 = .ok (.aload_n 0, 1) := by decide +kernel
theorem dX6_grow_86 : decode cX6_grow 86 = .ok (.getfield 13, 3) := by decide +kernel
theorem dX6_grow_89 : decode cX6_grow 89 = .ok (.iload_n 1, 1) := by decide +kernel
theorem dX6_grow_90 : decode cX6_grow 90 = .ok (.iaload, 1) := by decide +kernel
theorem dX6_grow_91 : decode cX6_grow 91 = .ok (.iconst 1, 1) := by decide +kernel
theorem dX6_grow_92 : decode cX6_grow 92 = .ok (.isub, 1) := by decide +kernel
theorem dX6_grow_93 : decode cX6_grow 93 = .ok (.if_icmp .ne 7, 3) := by decide +kernel
theorem dX6_grow_96 : decode cX6_grow 96 = .ok (.iconst 1, 1) := by decide +kernel
theorem dX6_grow_97 : decode cX6_grow 97 = .ok (.goto 24, 3) := by decide +kernel
theorem dX6_grow_100 : decode cX6_grow 100 = .ok (.iload 7, 2) := by decide +kernel
theorem dX6_grow_102 : decode cX6_grow 102 = .ok (.iconst 4, 1) := by decide +kernel
theorem dX6_grow_103 : decode cX6_grow 103 = .ok (.if_icmp .ne 7, 3) := by decide +kernel
theorem dX6_grow_106 : decode cX6_grow 106 = .ok (.iconst 2, 1) := by decide +kernel
theorem dX6_grow_107 : decode cX6_grow 107 = .ok (.goto 14, 3) := by decide +kernel
theorem dX6_grow_110 : decode cX6_grow 110 = .ok (.iload 7, 2) := by decide +kernel
theorem dX6_grow_112 : decode cX6_grow 112 = .ok (.iconst 5, 1) := by decide +kernel
theorem dX6_grow_113 : decode cX6_grow 113 = .ok (.if_icmp .ne 7, 3) := by decide +kernel
theorem dX6_grow_116 : decode cX6_grow 116 = .ok (.iconst 3, 1) := by decide +kernel
theorem dX6_grow_117 : decode cX6_grow 117 = .ok (.goto 4, 3) := by decide +kernel
theorem dX6_grow_120 : decode cX6_grow 120 = .ok (.iconst 0, 1) := by decide +kernel
theorem dX6_grow_121 : decode cX6_grow 121 = .ok (.istore 8, 2) := by decide +kernel
theorem dX6_grow_123 : decode cX6_grow 123 = .ok (.aload_n 0, 1) := by decide +kernel
theorem dX6_grow_124 : decode cX6_grow 124 = .ok (.iload_n 1, 1) := by decide +kernel
theorem dX6_grow_125 : decode cX6_grow 125 = .ok (.iload 6, 2) := by decide +kernel
theorem dX6_grow_127 : decode cX6_grow 127 = .ok (.iload 5, 2) := by decide +kernel
theorem dX6_grow_129 : decode cX6_grow 129 = .ok (.invokevirtual 115, 3) := by decide +kernel
theorem dX6_grow_132 : decode cX6_grow 132 = .ok (.ifCond .eq 7, 3) := by decide +kernel
theorem dX6_grow_135 : decode cX6_grow 135 = .ok (.iconst 0, 1) := by decide +kernel
theorem dX6_grow_136 : decode cX6_grow 136 = .ok (.goto 5, 3) := by decide +kernel
theorem dX6_grow_139 : decode cX6_grow 139 = .ok (.iload 8, 2) := by decide +kernel
theorem dX6_grow_141 : decode cX6_grow 141 = .ok (.istore 8, 2) := by decide +kernel
theorem dX6_grow_143 : decode cX6_grow 143 = .ok (.aload_n 0, 1) := by decide +kernel
theorem dX6_grow_144 : decode cX6_grow 144 = .ok (.getfield 16, 3) := by decide +kernel
theorem dX6_grow_147 : decode cX6_grow 147 = .ok (.iload_n 1, 1) := by decide +kernel
theorem dX6_grow_148 : decode cX6_grow 148 = .ok (.iload 6, 2) := by decide +kernel
theorem dX6_grow_150 : decode cX6_grow 150 = .ok (.iload 5, 2) := by decide +kernel
theorem dX6_grow_152 : decode cX6_grow 152 = .ok (.invokestatic 77, 3) := by decide +kernel
theorem dX6_grow_155 : decode cX6_grow 155 = .ok (.iload 8, 2) := by decide +kernel
theorem dX6_grow_157 : decode cX6_grow 157 = .ok (.iastore, 1) := by decide +kernel
theorem dX6_grow_158 : decode cX6_grow 158 = .ok (.iload 4, 2) := by decide +kernel
theorem dX6_grow_160 : decode cX6_grow 160 = .ok (.iload 8, 2) := by decide +kernel
theorem dX6_grow_162 : decode cX6_grow 162 = .ok (.iconst 1, 1) := by decide +kernel
theorem dX6_grow_163 : decode cX6_grow 163 = .ok (.if_icmp .ne 7, 3) := by decide +kernel
theorem dX6_grow_166 : decode cX6_grow 166 = .ok (.iconst 1, 1) := by decide +kernel
theorem dX6_grow_167 : decode cX6_grow 167 = .ok (.goto 4, 3) := by decide +kernel
theorem dX6_grow_170 : decode cX6_grow 170 = .ok (.iconst 0, 1) := by decide +kernel
theorem dX6_grow_171 : decode cX6_grow 171 = .ok (.iadd, 1) := by decide +kernel
theorem dX6_grow_172 : decode cX6_grow 172 = .ok (.istore 4, 2) := by decide +kernel
theorem dX6_grow_174 : decode cX6_grow 174 = .ok (.iinc 6 1, 3) := by decide +kernel
theorem dX6_grow_177 : decode cX6_grow 177 = .ok (.goto (-133), 3) := by decide +kernel
theorem dX6_grow_180 : decode cX6_grow 180 = .ok (.iinc 5 1, 3) := by decide +kernel
theorem dX6_grow_183 : decode cX6_grow 183 = .ok (.goto (-153), 3) := by decide +kernel
theorem dX6_grow_186 : decode cX6_grow 186 = .ok (.aload_n 0, 1) := by decide +kernel
theorem dX6_grow_187 : decode cX6_grow 187 = .ok (.iload_n 1, 1) := by decide +kernel
theorem dX6_grow_188 : decode cX6_grow 188 = .ok (.invokevirtual 111, 3) := by decide +kernel
theorem dX6_grow_191 : decode cX6_grow 191 = .ok (.iload 4, 2) := by decide +kernel
theorem dX6_grow_193 : decode cX6_grow 193 = .ok (.ireturn, 1) := by decide +kernel
set_option maxRecDepth 20000 in
theorem ggX6_cell_X6_isCell : GoodIn wsX6_cell wsX6_isCell := goodIn_r _ [6, 7, 8, 9, 10, 11, 5, 12, 13, 14, 15, 16, 25, 26, 27, 28, 29, 30, 31, 32, 33, 34, 35, 36, 37, 38, 39, 40, 41, 42, 43, 44, 45, 46, 47, 48, 49, 50, 51, 52] (by decide +kernel) (by decide +kernel)
set_option maxRecDepth 20000 in
theorem gX6_cell_X6_isCell : GoodIn wsX6_cell (wsV RX6 74 RX6 yX6_isCell wsX6_isCell) := goodIn_app (goodIn_of _ (by decide +kernel)) ggX6_cell_X6_isCell
set_option maxRecDepth 20000 in
theorem ggX6_cell_X6_goes : GoodIn wsX6_cell wsX6_goes := goodIn_r _ [20, 21, 25, 26, 27, 28, 29, 30, 31, 32, 33, 34, 35, 36, 37, 38, 39, 40, 41, 42, 43, 44, 45, 46, 47, 48, 49, 50, 51, 52] (by decide +kernel) (by decide +kernel)
set_option maxRecDepth 20000 in
theorem gX6_cell_X6_goes : GoodIn wsX6_cell (wsV RX6 107 RX6 yX6_goes wsX6_goes) := goodIn_app (goodIn_of _ (by decide +kernel)) ggX6_cell_X6_goes
set_option maxRecDepth 20000 in
theorem ggX6_cell_X6_at : GoodIn wsX6_cell wsX6_at := goodIn_r _ [24] (by decide +kernel) (by decide +kernel)
set_option maxRecDepth 20000 in
theorem gX6_cell_X6_at : GoodIn wsX6_cell (va_wsS RX6 77 yX6_at wsX6_at) := goodIn_app (goodIn_of _ (by decide +kernel)) ggX6_cell_X6_at
theorem dX6_cell_0 : decode cX6_cell 0 = .ok (.aload_n 0, 1) := by decide +kernel
theorem dX6_cell_1 : decode cX6_cell 1 = .ok (.aload_n 0, 1) := by decide +kernel
theorem dX6_cell_2 : decode cX6_cell 2 = .ok (.iload_n 1, 1) := by decide +kernel
theorem dX6_cell_3 : decode cX6_cell 3 = .ok (.iload_n 2, 1) := by decide +kernel
theorem dX6_cell_4 : decode cX6_cell 4 = .ok (.iload_n 3, 1) := by decide +kernel
theorem dX6_cell_5 : decode cX6_cell 5 = .ok (.invokevirtual 74, 3) := by decide +kernel
theorem dX6_cell_8 : decode cX6_cell 8 = .ok (.iconst 1, 1) := by decide +kernel
theorem dX6_cell_9 : decode cX6_cell 9 = .ok (.iconst 1, 1) := by decide +kernel
theorem dX6_cell_10 : decode cX6_cell 10 = .ok (.invokevirtual 107, 3) := by decide +kernel
theorem dX6_cell_13 : decode cX6_cell 13 = .ok (.ifCond .eq 17, 3) := by decide +kernel
theorem dX6_cell_16 : decode cX6_cell 16 = .ok (.aload_n 0, 1) := by decide +kernel
theorem dX6_cell_17 : decode cX6_cell 17 = .ok (.getfield 16, 3) := by decide +kernel
theorem dX6_cell_20 : decode cX6_cell 20 = .ok (.iload_n 1, 1) := by decide +kernel
theorem dX6_cell_21 : decode cX6_cell 21 = .ok (.iload_n 2, 1) := by decide +kernel
theorem dX6_cell_22 : decode cX6_cell 22 = .ok (.iload_n 3, 1) := by decide +kernel
theorem dX6_cell_23 : decode cX6_cell 23 = .ok (.invokestatic 77, 3) := by decide +kernel
theorem dX6_cell_26 : decode cX6_cell 26 = .ok (.iaload, 1) := by decide +kernel
theorem dX6_cell_27 : decode cX6_cell 27 = .ok (.goto 4, 3) := by decide +kernel
theorem dX6_cell_30 : decode cX6_cell 30 = .ok (.iconst 0, 1) := by decide +kernel
theorem dX6_cell_31 : decode cX6_cell 31 = .ok (.ireturn, 1) := by decide +kernel
theorem dX6_levels_0 : decode cX6_levels 0 = .ok (.aload_n 0, 1) := by decide +kernel
theorem dX6_levels_1 : decode cX6_levels 1 = .ok (.iconst 0, 1) := by decide +kernel
theorem dX6_levels_2 : decode cX6_levels 2 = .ok (.putfield 60, 3) := by decide +kernel
theorem dX6_levels_5 : decode cX6_levels 5 = .ok (.aload_n 0, 1) := by decide +kernel
theorem dX6_levels_6 : decode cX6_levels 6 = .ok (.getfield 63, 3) := by decide +kernel
theorem dX6_levels_9 : decode cX6_levels 9 = .ok (.ireturn, 1) := by decide +kernel
set_option maxRecDepth 20000 in
theorem ggX6_solve_X6_isLevel : GoodIn wsX6_solve wsX6_isLevel := goodIn_r _ [8, 9, 10, 11, 7, 12, 57, 58, 59, 60, 61, 62, 63, 64, 65, 66, 67, 68, 69, 70, 71, 72, 73, 74, 75, 76, 77, 78, 79, 80, 81, 82, 83, 84] (by decide +kernel) (by decide +kernel)
set_option maxRecDepth 20000 in
theorem gX6_solve_X6_isLevel : GoodIn wsX6_solve (wsV RX6 70 RX6 yX6_isLevel wsX6_isLevel) := goodIn_app (goodIn_of _ (by decide +kernel)) ggX6_solve_X6_isLevel
set_option maxRecDepth 20000 in
theorem ggX6_solve_X6_goes : GoodIn wsX6_solve wsX6_goes := goodIn_r _ [16, 17, 57, 58, 59, 60, 61, 62, 63, 64, 65, 66, 67, 68, 69, 70, 71, 72, 73, 74, 75, 76, 77, 78, 79, 80, 81, 82, 83, 84] (by decide +kernel) (by decide +kernel)
set_option maxRecDepth 20000 in
theorem gX6_solve_X6_goes : GoodIn wsX6_solve (wsV RX6 107 RX6 yX6_goes wsX6_goes) := goodIn_app (goodIn_of _ (by decide +kernel)) ggX6_solve_X6_goes
set_option maxRecDepth 20000 in
theorem ggX6_solve_X6_least : GoodIn wsX6_solve wsX6_least := goodIn_r _ [21, 22, 23, 24, 25, 26, 27, 28, 29, 30, 31, 7, 32, 33, 34, 35, 36, 37, 38, 39, 40, 41, 42, 43, 44, 45, 46, 47, 48, 49, 4, 5, 6, 8, 9, 10, 11, 12, 50, 51, 52, 53, 54, 55, 56, 57, 58, 59, 60, 61, 62, 63, 64, 65, 66, 67, 68, 69, 70, 71, 72, 73, 74, 75, 76, 77, 78, 79, 80, 81, 82, 83, 84] (by decide +kernel) (by decide +kernel)
set_option maxRecDepth 20000 in
theorem gX6_solve_X6_least : GoodIn wsX6_solve (wsV RX6 120 RX6 yX6_least wsX6_least) := goodIn_app (goodIn_of _ (by decide +kernel)) ggX6_solve_X6_least
theorem dX6_solve_0 : decode cX6_solve 0 = .ok (.aload_n 0, 1) := by decide +kernel
theorem dX6_solve_1 : decode cX6_solve 1 = .ok (.aload_n 0, 1) := by decide +kernel
theorem dX6_solve_2 : decode cX6_solve 2 = .ok (.iload_n 1, 1) := by decide +kernel
theorem dX6_solve_3 : decode cX6_solve 3 = .ok (.invokevirtual 70, 3) := by decide +kernel
theorem dX6_solve_6 : decode cX6_solve 6 = .ok (.iconst 1, 1) := by decide +kernel
theorem dX6_solve_7 : decode cX6_solve 7 = .ok (.iconst 1, 1) := by decide +kernel
theorem dX6_solve_8 : decode cX6_solve 8 = .ok (.invokevirtual 107, 3) := by decide +kernel
theorem dX6_solve_11 : decode cX6_solve 11 = .ok (.ifCond .ne 5, 3) := by decide +kernel
theorem dX6_solve_14 : decode cX6_solve 14 = .ok (.iconst 0, 1) := by decide +kernel
theorem dX6_solve_15 : decode cX6_solve 15 = .ok (.ireturn, 1) := by decide +kernel
theorem dX6_solve_16 : decode cX6_solve 16 = .ok (.aload_n 0, 1) := by decide +kernel
theorem dX6_solve_17 : decode cX6_solve 17 = .ok (.getfield 31, 3) := by decide +kernel
theorem dX6_solve_20 : decode cX6_solve 20 = .ok (.iload_n 1, 1) := by decide +kernel
theorem dX6_solve_21 : decode cX6_solve 21 = .ok (.aload_n 0, 1) := by decide +kernel
theorem dX6_solve_22 : decode cX6_solve 22 = .ok (.iload_n 1, 1) := by decide +kernel
theorem dX6_solve_23 : decode cX6_solve 23 = .ok (.aload_n 0, 1) := by decide +kernel
theorem dX6_solve_24 : decode cX6_solve 24 = .ok (.getfield 19, 3) := by decide +kernel
theorem dX6_solve_27 : decode cX6_solve 27 = .ok (.iload_n 1, 1) := by decide +kernel
theorem dX6_solve_28 : decode cX6_solve 28 = .ok (.iaload, 1) := by decide +kernel
theorem dX6_solve_29 : decode cX6_solve 29 = .ok (.aload_n 0, 1) := by decide +kernel
theorem dX6_solve_30 : decode cX6_solve 30 = .ok (.getfield 22, 3) := by decide +kernel
theorem dX6_solve_33 : decode cX6_solve 33 = .ok (.iload_n 1, 1) := by decide +kernel
theorem dX6_solve_34 : decode cX6_solve 34 = .ok (.iaload, 1) := by decide +kernel
theorem dX6_solve_35 : decode cX6_solve 35 = .ok (.iconst 0, 1) := by decide +kernel
theorem dX6_solve_36 : decode cX6_solve 36 = .ok (.bipush 100, 2) := by decide +kernel
theorem dX6_solve_38 : decode cX6_solve 38 = .ok (.invokevirtual 120, 3) := by decide +kernel
theorem dX6_solve_41 : decode cX6_solve 41 = .ok (.iastore, 1) := by decide +kernel
theorem dX6_solve_42 : decode cX6_solve 42 = .ok (.aload_n 0, 1) := by decide +kernel
theorem dX6_solve_43 : decode cX6_solve 43 = .ok (.getfield 31, 3) := by decide +kernel
theorem dX6_solve_46 : decode cX6_solve 46 = .ok (.iload_n 1, 1) := by decide +kernel
theorem dX6_solve_47 : decode cX6_solve 47 = .ok (.iaload, 1) := by decide +kernel
theorem dX6_solve_48 : decode cX6_solve 48 = .ok (.ireturn, 1) := by decide +kernel
set_option maxRecDepth 20000 in
theorem ggX6_way_X6_isLevel : GoodIn wsX6_way wsX6_isLevel := goodIn_r _ [6, 7, 8, 9, 5, 10, 16, 17, 18, 19, 20, 21, 22, 23, 24, 25, 26, 27, 28, 29, 30, 31, 32, 33, 34, 35, 36, 37, 38, 39, 40, 41, 42, 43] (by decide +kernel) (by decide +kernel)
set_option maxRecDepth 20000 in
theorem gX6_way_X6_isLevel : GoodIn wsX6_way (wsV RX6 70 RX6 yX6_isLevel wsX6_isLevel) := goodIn_app (goodIn_of _ (by decide +kernel)) ggX6_way_X6_isLevel
set_option maxRecDepth 20000 in
theorem ggX6_way_X6_goes : GoodIn wsX6_way wsX6_goes := goodIn_r _ [14, 15, 16, 17, 18, 19, 20, 21, 22, 23, 24, 25, 26, 27, 28, 29, 30, 31, 32, 33, 34, 35, 36, 37, 38, 39, 40, 41, 42, 43] (by decide +kernel) (by decide +kernel)
set_option maxRecDepth 20000 in
theorem gX6_way_X6_goes : GoodIn wsX6_way (wsV RX6 107 RX6 yX6_goes wsX6_goes) := goodIn_app (goodIn_of _ (by decide +kernel)) ggX6_way_X6_goes
theorem dX6_way_0 : decode cX6_way 0 = .ok (.aload_n 0, 1) := by decide +kernel
theorem dX6_way_1 : decode cX6_way 1 = .ok (.aload_n 0, 1) := by decide +kernel
theorem dX6_way_2 : decode cX6_way 2 = .ok (.iload_n 1, 1) := by decide +kernel
theorem dX6_way_3 : decode cX6_way 3 = .ok (.invokevirtual 70, 3) := by decide +kernel
theorem dX6_way_6 : decode cX6_way 6 = .ok (.iconst 1, 1) := by decide +kernel
theorem dX6_way_7 : decode cX6_way 7 = .ok (.iconst 1, 1) := by decide +kernel
theorem dX6_way_8 : decode cX6_way 8 = .ok (.invokevirtual 107, 3) := by decide +kernel
theorem dX6_way_11 : decode cX6_way 11 = .ok (.ifCond .eq 12, 3) := by decide +kernel
theorem dX6_way_14 : decode cX6_way 14 = .ok (.aload_n 0, 1) := by decide +kernel
theorem dX6_way_15 : decode cX6_way 15 = .ok (.getfield 31, 3) := by decide +kernel
theorem dX6_way_18 : decode cX6_way 18 = .ok (.iload_n 1, 1) := by decide +kernel
theorem dX6_way_19 : decode cX6_way 19 = .ok (.iaload, 1) := by decide +kernel
theorem dX6_way_20 : decode cX6_way 20 = .ok (.goto 4, 3) := by decide +kernel
theorem dX6_way_23 : decode cX6_way 23 = .ok (.iconst 0, 1) := by decide +kernel
theorem dX6_way_24 : decode cX6_way 24 = .ok (.ireturn, 1) := by decide +kernel
set_option maxRecDepth 20000 in
theorem ggX6_open_X6_isLevel : GoodIn wsX6_open wsX6_isLevel := goodIn_r _ [7, 8, 9, 10, 6, 11, 17, 18, 19, 20, 21, 22, 23, 24, 25, 26, 27, 28, 29, 30, 31, 32, 33, 34, 35, 36, 37, 38, 39, 40, 41, 42, 43, 44] (by decide +kernel) (by decide +kernel)
set_option maxRecDepth 20000 in
theorem gX6_open_X6_isLevel : GoodIn wsX6_open (wsV RX6 70 RX6 yX6_isLevel wsX6_isLevel) := goodIn_app (goodIn_of _ (by decide +kernel)) ggX6_open_X6_isLevel
set_option maxRecDepth 20000 in
theorem ggX6_open_X6_goes : GoodIn wsX6_open wsX6_goes := goodIn_r _ [15, 16, 17, 18, 19, 20, 21, 22, 23, 24, 25, 26, 27, 28, 29, 30, 31, 32, 33, 34, 35, 36, 37, 38, 39, 40, 41, 42, 43, 44] (by decide +kernel) (by decide +kernel)
set_option maxRecDepth 20000 in
theorem gX6_open_X6_goes : GoodIn wsX6_open (wsV RX6 107 RX6 yX6_goes wsX6_goes) := goodIn_app (goodIn_of _ (by decide +kernel)) ggX6_open_X6_goes
theorem dX6_open_0 : decode cX6_open 0 = .ok (.aload_n 0, 1) := by decide +kernel
theorem dX6_open_1 : decode cX6_open 1 = .ok (.iload_n 1, 1) := by decide +kernel
theorem dX6_open_2 : decode cX6_open 2 = .ok (.invokevirtual 70, 3) := by decide +kernel
theorem dX6_open_5 : decode cX6_open 5 = .ok (.istore_n 2, 1) := by decide +kernel
theorem dX6_open_6 : decode cX6_open 6 = .ok (.aload_n 0, 1) := by decide +kernel
theorem dX6_open_7 : decode cX6_open 7 = .ok (.iload_n 2, 1) := by decide +kernel
theorem dX6_open_8 : decode cX6_open 8 = .ok (.iload_n 2, 1) := by decide +kernel
theorem dX6_open_9 : decode cX6_open 9 = .ok (.ifCond .eq 17, 3) := by decide +kernel
theorem dX6_open_12 : decode cX6_open 12 = .ok (.aload_n 0, 1) := by decide +kernel
theorem dX6_open_13 : decode cX6_open 13 = .ok (.getfield 31, 3) := by decide +kernel
theorem dX6_open_16 : decode cX6_open 16 = .ok (.iload_n 1, 1) := by decide +kernel
theorem dX6_open_17 : decode cX6_open 17 = .ok (.iaload, 1) := by decide +kernel
theorem dX6_open_18 : decode cX6_open 18 = .ok (.iconst (-1), 1) := by decide +kernel
theorem dX6_open_19 : decode cX6_open 19 = .ok (.if_icmp .eq 7, 3) := by decide +kernel
theorem dX6_open_22 : decode cX6_open 22 = .ok (.iconst 1, 1) := by decide +kernel
theorem dX6_open_23 : decode cX6_open 23 = .ok (.goto 4, 3) := by decide +kernel
theorem dX6_open_26 : decode cX6_open 26 = .ok (.iconst 0, 1) := by decide +kernel
theorem dX6_open_27 : decode cX6_open 27 = .ok (.iconst 1, 1) := by decide +kernel
theorem dX6_open_28 : decode cX6_open 28 = .ok (.invokevirtual 107, 3) := by decide +kernel
theorem dX6_open_31 : decode cX6_open 31 = .ok (.ifCond .ne 5, 3) := by decide +kernel
theorem dX6_open_34 : decode cX6_open 34 = .ok (.iconst 0, 1) := by decide +kernel
theorem dX6_open_35 : decode cX6_open 35 = .ok (.ireturn, 1) := by decide +kernel
theorem dX6_open_36 : decode cX6_open 36 = .ok (.aload_n 0, 1) := by decide +kernel
theorem dX6_open_37 : decode cX6_open 37 = .ok (.getfield 34, 3) := by decide +kernel
theorem dX6_open_40 : decode cX6_open 40 = .ok (.iload_n 1, 1) := by decide +kernel
theorem dX6_open_41 : decode cX6_open 41 = .ok (.baload, 1) := by decide +kernel
theorem dX6_open_42 : decode cX6_open 42 = .ok (.istore_n 3, 1) := by decide +kernel
theorem dX6_open_43 : decode cX6_open 43 = .ok (.aload_n 0, 1) := by decide +kernel
theorem dX6_open_44 : decode cX6_open 44 = .ok (.getfield 34, 3) := by decide +kernel
theorem dX6_open_47 : decode cX6_open 47 = .ok (.iload_n 1, 1) := by decide +kernel
theorem dX6_open_48 : decode cX6_open 48 = .ok (.iconst 1, 1) := by decide +kernel
theorem dX6_open_49 : decode cX6_open 49 = .ok (.bastore, 1) := by decide +kernel
theorem dX6_open_50 : decode cX6_open 50 = .ok (.iload_n 3, 1) := by decide +kernel
theorem dX6_open_51 : decode cX6_open 51 = .ok (.ireturn, 1) := by decide +kernel
set_option maxRecDepth 20000 in
theorem ggX6_isOpen_X6_isLevel : GoodIn wsX6_isOpen wsX6_isLevel := goodIn_r _ [6, 7, 8, 9, 5, 10, 16, 17, 18, 19, 20, 21, 22, 23, 24, 25, 26, 27, 28, 29, 30, 31, 32, 33, 34, 35, 36, 37, 38, 39, 40, 41, 42, 43] (by decide +kernel) (by decide +kernel)
set_option maxRecDepth 20000 in
theorem gX6_isOpen_X6_isLevel : GoodIn wsX6_isOpen (wsV RX6 70 RX6 yX6_isLevel wsX6_isLevel) := goodIn_app (goodIn_of _ (by decide +kernel)) ggX6_isOpen_X6_isLevel
set_option maxRecDepth 20000 in
theorem ggX6_isOpen_X6_goes : GoodIn wsX6_isOpen wsX6_goes := goodIn_r _ [14, 15, 16, 17, 18, 19, 20, 21, 22, 23, 24, 25, 26, 27, 28, 29, 30, 31, 32, 33, 34, 35, 36, 37, 38, 39, 40, 41, 42, 43] (by decide +kernel) (by decide +kernel)
set_option maxRecDepth 20000 in
theorem gX6_isOpen_X6_goes : GoodIn wsX6_isOpen (wsV RX6 107 RX6 yX6_goes wsX6_goes) := goodIn_app (goodIn_of _ (by decide +kernel)) ggX6_isOpen_X6_goes
theorem dX6_isOpen_0 : decode cX6_isOpen 0 = .ok (.aload_n 0, 1) := by decide +kernel
theorem dX6_isOpen_1 : decode cX6_isOpen 1 = .ok (.aload_n 0, 1) := by decide +kernel
theorem dX6_isOpen_2 : decode cX6_isOpen 2 = .ok (.iload_n 1, 1) := by decide +kernel
theorem dX6_isOpen_3 : decode cX6_isOpen 3 = .ok (.invokevirtual 70, 3) := by decide +kernel
theorem dX6_isOpen_6 : decode cX6_isOpen 6 = .ok (.iconst 1, 1) := by decide +kernel
theorem dX6_isOpen_7 : decode cX6_isOpen 7 = .ok (.iconst 1, 1) := by decide +kernel
theorem dX6_isOpen_8 : decode cX6_isOpen 8 = .ok (.invokevirtual 107, 3) := by decide +kernel
theorem dX6_isOpen_11 : decode cX6_isOpen 11 = .ok (.ifCond .eq 16, 3) := by decide +kernel
theorem dX6_isOpen_14 : decode cX6_isOpen 14 = .ok (.aload_n 0, 1) := by decide +kernel
theorem dX6_isOpen_15 : decode cX6_isOpen 15 = .ok (.getfield 34, 3) := by decide +kernel
theorem dX6_isOpen_18 : decode cX6_isOpen 18 = .ok (.iload_n 1, 1) := by decide +kernel
theorem dX6_isOpen_19 : decode cX6_isOpen 19 = .ok (.baload, 1) := by decide +kernel
theorem dX6_isOpen_20 : decode cX6_isOpen 20 = .ok (.ifCond .eq 7, 3) := by decide +kernel
theorem dX6_isOpen_23 : decode cX6_isOpen 23 = .ok (.iconst 1, 1) := by decide +kernel
theorem dX6_isOpen_24 : decode cX6_isOpen 24 = .ok (.goto 4, 3) := by decide +kernel
theorem dX6_isOpen_27 : decode cX6_isOpen 27 = .ok (.iconst 0, 1) := by decide +kernel
theorem dX6_isOpen_28 : decode cX6_isOpen 28 = .ok (.ireturn, 1) := by decide +kernel
set_option maxRecDepth 20000 in
theorem ggX6_begin_X6_isPlayer : GoodIn wsX6_begin wsX6_isPlayer := goodIn_r _ [14, 15, 16, 13, 17] (by decide +kernel) (by decide +kernel)
set_option maxRecDepth 20000 in
theorem gX6_begin_X6_isPlayer : GoodIn wsX6_begin (va_wsS RX6 124 yX6_isPlayer wsX6_isPlayer) := goodIn_app (goodIn_of _ (by decide +kernel)) ggX6_begin_X6_isPlayer
set_option maxRecDepth 20000 in
theorem ggX6_begin_X6_isLevel : GoodIn wsX6_begin wsX6_isLevel := goodIn_r _ [21, 22, 15, 16, 13, 17, 28, 29, 30, 31, 32, 33, 34, 35, 36, 37, 38, 39, 40, 41, 42, 43, 44, 45, 46, 47, 48, 49, 50, 51, 52, 53, 54, 55] (by decide +kernel) (by decide +kernel)
set_option maxRecDepth 20000 in
theorem gX6_begin_X6_isLevel : GoodIn wsX6_begin (wsV RX6 70 RX6 yX6_isLevel wsX6_isLevel) := goodIn_app (goodIn_of _ (by decide +kernel)) ggX6_begin_X6_isLevel
set_option maxRecDepth 20000 in
theorem ggX6_begin_X6_goes : GoodIn wsX6_begin wsX6_goes := goodIn_r _ [26, 27, 28, 29, 30, 31, 32, 33, 34, 35, 36, 37, 38, 39, 40, 41, 42, 43, 44, 45, 46, 47, 48, 49, 50, 51, 52, 53, 54, 55] (by decide +kernel) (by decide +kernel)
set_option maxRecDepth 20000 in
theorem gX6_begin_X6_goes : GoodIn wsX6_begin (wsV RX6 107 RX6 yX6_goes wsX6_goes) := goodIn_app (goodIn_of _ (by decide +kernel)) ggX6_begin_X6_goes
theorem dX6_begin_0 : decode cX6_begin 0 = .ok (.iload_n 1, 1) := by decide +kernel
theorem dX6_begin_1 : decode cX6_begin 1 = .ok (.invokestatic 124, 3) := by decide +kernel
theorem dX6_begin_4 : decode cX6_begin 4 = .ok (.ifCond .eq 15, 3) := by decide +kernel
theorem dX6_begin_7 : decode cX6_begin 7 = .ok (.aload_n 0, 1) := by decide +kernel
theorem dX6_begin_8 : decode cX6_begin 8 = .ok (.iload_n 2, 1) := by decide +kernel
theorem dX6_begin_9 : decode cX6_begin 9 = .ok (.invokevirtual 70, 3) := by decide +kernel
theorem dX6_begin_12 : decode cX6_begin 12 = .ok (.ifCond .eq 7, 3) := by decide +kernel
theorem dX6_begin_15 : decode cX6_begin 15 = .ok (.iconst 1, 1) := by decide +kernel
theorem dX6_begin_16 : decode cX6_begin 16 = .ok (.goto 4, 3) := by decide +kernel
theorem dX6_begin_19 : decode cX6_begin 19 = .ok (.iconst 0, 1) := by decide +kernel
theorem dX6_begin_20 : decode cX6_begin 20 = .ok (.istore_n 3, 1) := by decide +kernel
theorem dX6_begin_21 : decode cX6_begin 21 = .ok (.aload_n 0, 1) := by decide +kernel
theorem dX6_begin_22 : decode cX6_begin 22 = .ok (.iload_n 3, 1) := by decide +kernel
theorem dX6_begin_23 : decode cX6_begin 23 = .ok (.iload_n 3, 1) := by decide +kernel
theorem dX6_begin_24 : decode cX6_begin 24 = .ok (.ifCond .eq 16, 3) := by decide +kernel
theorem dX6_begin_27 : decode cX6_begin 27 = .ok (.aload_n 0, 1) := by decide +kernel
theorem dX6_begin_28 : decode cX6_begin 28 = .ok (.getfield 34, 3) := by decide +kernel
theorem dX6_begin_31 : decode cX6_begin 31 = .ok (.iload_n 2, 1) := by decide +kernel
theorem dX6_begin_32 : decode cX6_begin 32 = .ok (.baload, 1) := by decide +kernel
theorem dX6_begin_33 : decode cX6_begin 33 = .ok (.ifCond .eq 7, 3) := by decide +kernel
theorem dX6_begin_36 : decode cX6_begin 36 = .ok (.iconst 1, 1) := by decide +kernel
theorem dX6_begin_37 : decode cX6_begin 37 = .ok (.goto 4, 3) := by decide +kernel
theorem dX6_begin_40 : decode cX6_begin 40 = .ok (.iconst 0, 1) := by decide +kernel
theorem dX6_begin_41 : decode cX6_begin 41 = .ok (.iconst 1, 1) := by decide +kernel
theorem dX6_begin_42 : decode cX6_begin 42 = .ok (.invokevirtual 107, 3) := by decide +kernel
theorem dX6_begin_45 : decode cX6_begin 45 = .ok (.ifCond .ne 5, 3) := by decide +kernel
theorem dX6_begin_48 : decode cX6_begin 48 = .ok (.iconst 0, 1) := by decide +kernel
theorem dX6_begin_49 : decode cX6_begin 49 = .ok (.ireturn, 1) := by decide +kernel
theorem dX6_begin_50 : decode cX6_begin 50 = .ok (.aload_n 0, 1) := by decide +kernel
theorem dX6_begin_51 : decode cX6_begin 51 = .ok (.iload_n 1, 1) := by decide +kernel
theorem dX6_begin_52 : decode cX6_begin 52 = .ok (.putfield 127, 3) := by decide +kernel
theorem dX6_begin_55 : decode cX6_begin 55 = .ok (.aload_n 0, 1) := by decide +kernel
theorem dX6_begin_56 : decode cX6_begin 56 = .ok (.iload_n 2, 1) := by decide +kernel
theorem dX6_begin_57 : decode cX6_begin 57 = .ok (.putfield 44, 3) := by decide +kernel
theorem dX6_begin_60 : decode cX6_begin 60 = .ok (.aload_n 0, 1) := by decide +kernel
theorem dX6_begin_61 : decode cX6_begin 61 = .ok (.aload_n 0, 1) := by decide +kernel
theorem dX6_begin_62 : decode cX6_begin 62 = .ok (.getfield 19, 3) := by decide +kernel
theorem dX6_begin_65 : decode cX6_begin 65 = .ok (.iload_n 2, 1) := by decide +kernel
theorem dX6_begin_66 : decode cX6_begin 66 = .ok (.iaload, 1) := by decide +kernel
theorem dX6_begin_67 : decode cX6_begin 67 = .ok (.putfield 130, 3) := by decide +kernel
theorem dX6_begin_70 : decode cX6_begin 70 = .ok (.aload_n 0, 1) := by decide +kernel
theorem dX6_begin_71 : decode cX6_begin 71 = .ok (.aload_n 0, 1) := by decide +kernel
theorem dX6_begin_72 : decode cX6_begin 72 = .ok (.getfield 22, 3) := by decide +kernel
theorem dX6_begin_75 : decode cX6_begin 75 = .ok (.iload_n 2, 1) := by decide +kernel
theorem dX6_begin_76 : decode cX6_begin 76 = .ok (.iaload, 1) := by decide +kernel
theorem dX6_begin_77 : decode cX6_begin 77 = .ok (.putfield 133, 3) := by decide +kernel
theorem dX6_begin_80 : decode cX6_begin 80 = .ok (.aload_n 0, 1) := by decide +kernel
theorem dX6_begin_81 : decode cX6_begin 81 = .ok (.iconst 0, 1) := by decide +kernel
theorem dX6_begin_82 : decode cX6_begin 82 = .ok (.putfield 136, 3) := by decide +kernel
theorem dX6_begin_85 : decode cX6_begin 85 = .ok (.aload_n 0, 1) := by decide +kernel
theorem dX6_begin_86 : decode cX6_begin 86 = .ok (.iconst 0, 1) := by decide +kernel
theorem dX6_begin_87 : decode cX6_begin 87 = .ok (.putfield 139, 3) := by decide +kernel
theorem dX6_begin_90 : decode cX6_begin 90 = .ok (.aload_n 0, 1) := by decide +kernel
theorem dX6_begin_91 : decode cX6_begin 91 = .ok (.iconst 0, 1) := by decide +kernel
theorem dX6_begin_92 : decode cX6_begin 92 = .ok (.putfield 142, 3) := by decide +kernel
theorem dX6_begin_95 : decode cX6_begin 95 = .ok (.aload_n 0, 1) := by decide +kernel
theorem dX6_begin_96 : decode cX6_begin 96 = .ok (.getfield 130, 3) := by decide +kernel
theorem dX6_begin_99 : decode cX6_begin 99 = .ok (.ireturn, 1) := by decide +kernel
theorem dX6_runs_0 : decode cX6_runs 0 = .ok (.aload_n 0, 1) := by decide +kernel
theorem dX6_runs_1 : decode cX6_runs 1 = .ok (.getfield 44, 3) := by decide +kernel
theorem dX6_runs_4 : decode cX6_runs 4 = .ok (.iconst (-1), 1) := by decide +kernel
theorem dX6_runs_5 : decode cX6_runs 5 = .ok (.if_icmp .eq 14, 3) := by decide +kernel
theorem dX6_runs_8 : decode cX6_runs 8 = .ok (.aload_n 0, 1) := by decide +kernel
theorem dX6_runs_9 : decode cX6_runs 9 = .ok (.getfield 139, 3) := by decide +kernel
theorem dX6_runs_12 : decode cX6_runs 12 = .ok (.ifCond .ne 7, 3) := by decide +kernel
theorem dX6_runs_15 : decode cX6_runs 15 = .ok (.iconst 1, 1) := by decide +kernel
theorem dX6_runs_16 : decode cX6_runs 16 = .ok (.goto 4, 3) := by decide +kernel
theorem dX6_runs_19 : decode cX6_runs 19 = .ok (.iconst 0, 1) := by decide +kernel
theorem dX6_runs_20 : decode cX6_runs 20 = .ok (.ireturn, 1) := by decide +kernel
set_option maxRecDepth 20000 in
theorem ggX6_play_X6_in : GoodIn wsX6_play wsX6_in := goodIn_r _ [18] (by decide +kernel) (by decide +kernel)
set_option maxRecDepth 20000 in
theorem gX6_play_X6_in : GoodIn wsX6_play (va_wsS RX6 66 yX6_in wsX6_in) := goodIn_app (goodIn_of _ (by decide +kernel)) ggX6_play_X6_in
set_option maxRecDepth 20000 in
theorem ggX6_play_X6_runs : GoodIn wsX6_play wsX6_runs := goodIn_r _ [22, 4, 9, 61, 62, 63, 64, 65, 66, 67, 68, 69, 70, 71, 72, 73, 74, 75, 76, 77, 78, 79, 80, 81, 82, 83, 84, 85, 86, 87, 88] (by decide +kernel) (by decide +kernel)
set_option maxRecDepth 20000 in
theorem gX6_play_X6_runs : GoodIn wsX6_play (wsV RX6 145 RX6 yX6_runs wsX6_runs) := goodIn_app (goodIn_of _ (by decide +kernel)) ggX6_play_X6_runs
set_option maxRecDepth 20000 in
theorem ggX6_play_X6_goes : GoodIn wsX6_play wsX6_goes := goodIn_r _ [26, 27, 61, 62, 63, 64, 65, 66, 67, 68, 69, 70, 71, 72, 73, 74, 75, 76, 77, 78, 79, 80, 81, 82, 83, 84, 85, 86, 87, 88] (by decide +kernel) (by decide +kernel)
set_option maxRecDepth 20000 in
theorem gX6_play_X6_goes : GoodIn wsX6_play (wsV RX6 107 RX6 yX6_goes wsX6_goes) := goodIn_app (goodIn_of _ (by decide +kernel)) ggX6_play_X6_goes
set_option maxRecDepth 20000 in
theorem ggX6_play_X6_isAt : GoodIn wsX6_play wsX6_isAt := goodIn_r _ [31, 5, 6, 7, 8, 61, 62, 63, 64, 65, 66, 67, 68, 69, 70, 71, 72, 73, 74, 75, 76, 77, 78, 79, 80, 81, 82, 83, 84, 85, 86, 87, 88] (by decide +kernel) (by decide +kernel)
set_option maxRecDepth 20000 in
theorem gX6_play_X6_isAt : GoodIn wsX6_play (wsV RX6 99 RX6 yX6_isAt wsX6_isAt) := goodIn_app (goodIn_of _ (by decide +kernel)) ggX6_play_X6_isAt
set_option maxRecDepth 20000 in
theorem ggX6_play_X6_frame : GoodIn wsX6_play wsX6_frame := goodIn_r _ [35, 5, 6, 7, 36, 8, 37, 38, 39, 40, 41, 17, 42, 43, 44, 45, 46, 47, 48, 49, 50, 51, 52, 53, 15, 16, 18, 54, 55, 56, 57, 58, 59, 60, 61, 62, 63, 64, 65, 66, 67, 68, 69, 70, 71, 72, 73, 74, 75, 76, 77, 78, 79, 80, 81, 82, 83, 84, 85, 86, 87, 88] (by decide +kernel) (by decide +kernel)
set_option maxRecDepth 20000 in
theorem gX6_play_X6_frame : GoodIn wsX6_play (wsV RX6 103 RX6 yX6_frame wsX6_frame) := goodIn_app (goodIn_of _ (by decide +kernel)) ggX6_play_X6_frame
theorem dX6_play_0 : decode cX6_play 0 = .ok (.aload_n 0, 1) := by decide +kernel
theorem dX6_play_1 : decode cX6_play 1 = .ok (.iload_n 1, 1) := by decide +kernel
theorem dX6_play_2 : decode cX6_play 2 = .ok (.iconst 0, 1) := by decide +kernel
theorem dX6_play_3 : decode cX6_play 3 = .ok (.iconst 5, 1) := by decide +kernel
theorem dX6_play_4 : decode cX6_play 4 = .ok (.invokestatic 66, 3) := by decide +kernel
theorem dX6_play_7 : decode cX6_play 7 = .ok (.aload_n 0, 1) := by decide +kernel
theorem dX6_play_8 : decode cX6_play 8 = .ok (.invokevirtual 145, 3) := by decide +kernel
theorem dX6_play_11 : decode cX6_play 11 = .ok (.iconst 1, 1) := by decide +kernel
theorem dX6_play_12 : decode cX6_play 12 = .ok (.invokevirtual 107, 3) := by decide +kernel
theorem dX6_play_15 : decode cX6_play 15 = .ok (.ifCond .ne 5, 3) := by decide +kernel
theorem dX6_play_18 : decode cX6_play 18 = .ok (.iconst 0, 1) := by decide +kernel
theorem dX6_play_19 : decode cX6_play 19 = .ok (.ireturn, 1) := by decide +kernel
theorem dX6_play_20 : decode cX6_play 20 = .ok (.aload_n 0, 1) := by decide +kernel
theorem dX6_play_21 : decode cX6_play 21 = .ok (.aload_n 0, 1) := by decide +kernel
theorem dX6_play_22 : decode cX6_play 22 = .ok (.getfield 130, 3) := by decide +kernel
theorem dX6_play_25 : decode cX6_play 25 = .ok (.aload_n 0, 1) := by decide +kernel
theorem dX6_play_26 : decode cX6_play 26 = .ok (.getfield 133, 3) := by decide +kernel
theorem dX6_play_29 : decode cX6_play 29 = .ok (.aload_n 0, 1) := by decide +kernel
theorem dX6_play_30 : decode cX6_play 30 = .ok (.getfield 136, 3) := by decide +kernel
theorem dX6_play_33 : decode cX6_play 33 = .ok (.invokevirtual 99, 3) := by decide +kernel
theorem dX6_play_36 : decode cX6_play 36 = .ok (.aload_n 0, 1) := by decide +kernel
theorem dX6_play_37 : decode cX6_play 37 = .ok (.aload_n 0, 1) := by decide +kernel
theorem dX6_play_38 : decode cX6_play 38 = .ok (.getfield 44, 3) := by decide +kernel
theorem dX6_play_41 : decode cX6_play 41 = .ok (.iload_n 1, 1) := by decide +kernel
theorem dX6_play_42 : decode cX6_play 42 = .ok (.invokevirtual 103, 3) := by decide +kernel
theorem dX6_play_45 : decode cX6_play 45 = .ok (.aload_n 0, 1) := by decide +kernel
theorem dX6_play_46 : decode cX6_play 46 = .ok (.aload_n 0, 1) := by decide +kernel
theorem dX6_play_47 : decode cX6_play 47 = .ok (.getfield 81, 3) := by decide +kernel
theorem dX6_play_50 : decode cX6_play 50 = .ok (.putfield 130, 3) := by decide +kernel
theorem dX6_play_53 : decode cX6_play 53 = .ok (.aload_n 0, 1) := by decide +kernel
theorem dX6_play_54 : decode cX6_play 54 = .ok (.aload_n 0, 1) := by decide +kernel
theorem dX6_play_55 : decode cX6_play 55 = .ok (.getfield 84, 3) := by decide +kernel
theorem dX6_play_58 : decode cX6_play 58 = .ok (.putfield 133, 3) := by decide +kernel
theorem dX6_play_61 : decode cX6_play 61 = .ok (.aload_n 0, 1) := by decide +kernel
theorem dX6_play_62 : decode cX6_play 62 = .ok (.aload_n 0, 1) := by decide +kernel
theorem dX6_play_63 : decode cX6_play 63 = .ok (.getfield 87, 3) := by decide +kernel
theorem dX6_play_66 : decode cX6_play 66 = .ok (.putfield 136, 3) := by decide +kernel
theorem dX6_play_69 : decode cX6_play 69 = .ok (.aload_n 0, 1) := by decide +kernel
theorem dX6_play_70 : decode cX6_play 70 = .ok (.aload_n 0, 1) := by decide +kernel
theorem dX6_play_71 : decode cX6_play 71 = .ok (.getfield 90, 3) := by decide +kernel
theorem dX6_play_74 : decode cX6_play 74 = .ok (.putfield 139, 3) := by decide +kernel
theorem dX6_play_77 : decode cX6_play 77 = .ok (.aload_n 0, 1) := by decide +kernel
theorem dX6_play_78 : decode cX6_play 78 = .ok (.getfield 48, 3) := by decide +kernel
theorem dX6_play_81 : decode cX6_play 81 = .ok (.aload_n 0, 1) := by decide +kernel
theorem dX6_play_82 : decode cX6_play 82 = .ok (.getfield 142, 3) := by decide +kernel
theorem dX6_play_85 : decode cX6_play 85 = .ok (.iload_n 1, 1) := by decide +kernel
theorem dX6_play_86 : decode cX6_play 86 = .ok (.iastore, 1) := by decide +kernel
theorem dX6_play_87 : decode cX6_play 87 = .ok (.aload_n 0, 1) := by decide +kernel
theorem dX6_play_88 : decode cX6_play 88 = .ok (.dup, 1) := by decide +kernel
theorem dX6_play_89 : decode cX6_play 89 = .ok (.getfield 142, 3) := by decide +kernel
theorem dX6_play_92 : decode cX6_play 92 = .ok (.iconst 1, 1) := by decide +kernel
theorem dX6_play_93 : decode cX6_play 93 = .ok (.iadd, 1) := by decide +kernel
theorem dX6_play_94 : decode cX6_play 94 = .ok (.putfield 142, 3) := by decide +kernel
theorem dX6_play_97 : decode cX6_play 97 = .ok (.iconst 4, 1) := by decide +kernel
theorem dX6_play_98 : decode cX6_play 98 = .ok (.aload_n 0, 1) := by decide +kernel
theorem dX6_play_99 : decode cX6_play 99 = .ok (.getfield 44, 3) := by decide +kernel
theorem dX6_play_102 : decode cX6_play 102 = .ok (.imul, 1) := by decide +kernel
theorem dX6_play_103 : decode cX6_play 103 = .ok (.aload_n 0, 1) := by decide +kernel
theorem dX6_play_104 : decode cX6_play 104 = .ok (.getfield 127, 3) := by decide +kernel
theorem dX6_play_107 : decode cX6_play 107 = .ok (.iadd, 1) := by decide +kernel
theorem dX6_play_108 : decode cX6_play 108 = .ok (.istore_n 2, 1) := by decide +kernel
theorem dX6_play_109 : decode cX6_play 109 = .ok (.aload_n 0, 1) := by decide +kernel
theorem dX6_play_110 : decode cX6_play 110 = .ok (.getfield 139, 3) := by decide +kernel
theorem dX6_play_113 : decode cX6_play 113 = .ok (.iconst 2, 1) := by decide +kernel
theorem dX6_play_114 : decode cX6_play 114 = .ok (.if_icmp .ne 69, 3) := by decide +kernel
theorem dX6_play_117 : decode cX6_play 117 = .ok (.aload_n 0, 1) := by decide +kernel
theorem dX6_play_118 : decode cX6_play 118 = .ok (.getfield 38, 3) := by decide +kernel
theorem dX6_play_121 : decode cX6_play 121 = .ok (.iload_n 2, 1) := by decide +kernel
theorem dX6_play_122 : decode cX6_play 122 = .ok (.iaload, 1) := by decide +kernel
theorem dX6_play_123 : decode cX6_play 123 = .ok (.iconst (-1), 1) := by decide +kernel
theorem dX6_play_124 : decode cX6_play 124 = .ok (.if_icmp .eq 16, 3) := by decide +kernel
theorem dX6_play_127 : decode cX6_play 127 = .ok (.aload_n 0, 1) := by decide +kernel
theorem dX6_play_128 : decode cX6_play 128 = .ok (.getfield 142, 3) := by decide +kernel
theorem dX6_play_131 : decode cX6_play 131 = .ok (.aload_n 0, 1) := by decide +kernel
theorem dX6_play_132 : decode cX6_play 132 = .ok (.getfield 38, 3) := by decide +kernel
theorem dX6_play_135 : decode cX6_play 135 = .ok (.iload_n 2, 1) := by decide +kernel
theorem dX6_play_136 : decode cX6_play 136 = .ok (.iaload, 1) := by decide +kernel
theorem dX6_play_137 : decode cX6_play 137 = .ok (.if_icmp .ge 46, 3) := by decide +kernel
theorem dX6_play_140 : decode cX6_play 140 = .ok (.aload_n 0, 1) := by decide +kernel
theorem dX6_play_141 : decode cX6_play 141 = .ok (.getfield 38, 3) := by decide +kernel
theorem dX6_play_144 : decode cX6_play 144 = .ok (.iload_n 2, 1) := by decide +kernel
theorem dX6_play_145 : decode cX6_play 145 = .ok (.aload_n 0, 1) := by decide +kernel
theorem dX6_play_146 : decode cX6_play 146 = .ok (.getfield 142, 3) := by decide +kernel
theorem dX6_play_149 : decode cX6_play 149 = .ok (.iastore, 1) := by decide +kernel
theorem dX6_play_150 : decode cX6_play 150 = .ok (.iconst 0, 1) := by decide +kernel
theorem dX6_play_151 : decode cX6_play 151 = .ok (.istore_n 3, 1) := by decide +kernel
theorem dX6_play_152 : decode cX6_play 152 = .ok (.iload_n 3, 1) := by decide +kernel
theorem dX6_play_153 : decode cX6_play 153 = .ok (.aload_n 0, 1) := by decide +kernel
theorem dX6_play_154 : decode cX6_play 154 = .ok (.getfield 142, 3) := by decide +kernel
theorem dX6_play_157 : decode cX6_play 157 = .ok (.if_icmp .ge 26, 3) := by decide +kernel
theorem dX6_play_160 : decode cX6_play 160 = .ok (.aload_n 0, 1) := by decide +kernel
theorem dX6_play_161 : decode cX6_play 161 = .ok (.getfield 41, 3) := by decide +kernel
theorem dX6_play_164 : decode cX6_play 164 = .ok (.bipush 100, 2) := by decide +kernel
theorem dX6_play_166 : decode cX6_play 166 = .ok (.iload_n 2, 1) := by decide +kernel
theorem dX6_play_167 : decode cX6_play 167 = .ok (.imul, 1) := by decide +kernel
theorem dX6_play_168 : decode cX6_play 168 = .ok (.iload_n 3, 1) := by decide +kernel
theorem dX6_play_169 : decode cX6_play 169 = .ok (.iadd, 1) := by decide +kernel
theorem dX6_play_170 : decode cX6_play 170 = .ok (.aload_n 0, 1) := by decide +kernel
theorem dX6_play_171 : decode cX6_play 171 = .ok (.getfield 48, 3) := by decide +kernel
theorem dX6_play_174 : decode cX6_play 174 = .ok (.iload_n 3, 1) := by decide +kernel
theorem dX6_play_175 : decode cX6_play 175 = .ok (.iaload, 1) := by decide +kernel
theorem dX6_play_176 : decode cX6_play 176 = .ok (.iastore, 1) := by decide +kernel
theorem dX6_play_177 : decode cX6_play 177 = .ok (.iinc 3 1, 3) := by decide +kernel
theorem dX6_play_180 : decode cX6_play 180 = .ok (.goto (-28), 3) := by decide +kernel
theorem dX6_play_183 : decode cX6_play 183 = .ok (.aload_n 0, 1) := by decide +kernel
theorem dX6_play_184 : decode cX6_play 184 = .ok (.aload_n 0, 1) := by decide +kernel
theorem dX6_play_185 : decode cX6_play 185 = .ok (.getfield 139, 3) := by decide +kernel
theorem dX6_play_188 : decode cX6_play 188 = .ok (.ifCond .ne 16, 3) := by decide +kernel
theorem dX6_play_191 : decode cX6_play 191 = .ok (.aload_n 0, 1) := by decide +kernel
theorem dX6_play_192 : decode cX6_play 192 = .ok (.getfield 142, 3) := by decide +kernel
theorem dX6_play_195 : decode cX6_play 195 = .ok (.bipush 100, 2) := by decide +kernel
theorem dX6_play_197 : decode cX6_play 197 = .ok (.if_icmp .ne 7, 3) := by decide +kernel
theorem dX6_play_200 : decode cX6_play 200 = .ok (.iconst 1, 1) := by decide +kernel
theorem dX6_play_201 : decode cX6_play 201 = .ok (.goto 7, 3) := by decide +kernel
theorem dX6_play_204 : decode cX6_play 204 = .ok (.aload_n 0, 1) := by decide +kernel
theorem dX6_play_205 : decode cX6_play 205 = .ok (.getfield 139, 3) := by decide +kernel
theorem dX6_play_208 : decode cX6_play 208 = .ok (.putfield 139, 3) := by decide +kernel
theorem dX6_play_211 : decode cX6_play 211 = .ok (.aload_n 0, 1) := by decide +kernel
theorem dX6_play_212 : decode cX6_play 212 = .ok (.getfield 139, 3) := by decide +kernel
theorem dX6_play_215 : decode cX6_play 215 = .ok (.ireturn, 1) := by decide +kernel
theorem dX6_state_0 : decode cX6_state 0 = .ok (.aload_n 0, 1) := by decide +kernel
theorem dX6_state_1 : decode cX6_state 1 = .ok (.iconst 0, 1) := by decide +kernel
theorem dX6_state_2 : decode cX6_state 2 = .ok (.putfield 60, 3) := by decide +kernel
theorem dX6_state_5 : decode cX6_state 5 = .ok (.aload_n 0, 1) := by decide +kernel
theorem dX6_state_6 : decode cX6_state 6 = .ok (.getfield 44, 3) := by decide +kernel
theorem dX6_state_9 : decode cX6_state 9 = .ok (.iconst (-1), 1) := by decide +kernel
theorem dX6_state_10 : decode cX6_state 10 = .ok (.if_icmp .ne 7, 3) := by decide +kernel
theorem dX6_state_13 : decode cX6_state 13 = .ok (.iconst (-1), 1) := by decide +kernel
theorem dX6_state_14 : decode cX6_state 14 = .ok (.goto 7, 3) := by decide +kernel
theorem dX6_state_17 : decode cX6_state 17 = .ok (.aload_n 0, 1) := by decide +kernel
theorem dX6_state_18 : decode cX6_state 18 = .ok (.getfield 139, 3) := by decide +kernel
theorem dX6_state_21 : decode cX6_state 21 = .ok (.ireturn, 1) := by decide +kernel
theorem dX6_frames_0 : decode cX6_frames 0 = .ok (.aload_n 0, 1) := by decide +kernel
theorem dX6_frames_1 : decode cX6_frames 1 = .ok (.iconst 0, 1) := by decide +kernel
theorem dX6_frames_2 : decode cX6_frames 2 = .ok (.putfield 60, 3) := by decide +kernel
theorem dX6_frames_5 : decode cX6_frames 5 = .ok (.aload_n 0, 1) := by decide +kernel
theorem dX6_frames_6 : decode cX6_frames 6 = .ok (.getfield 44, 3) := by decide +kernel
theorem dX6_frames_9 : decode cX6_frames 9 = .ok (.iconst (-1), 1) := by decide +kernel
theorem dX6_frames_10 : decode cX6_frames 10 = .ok (.if_icmp .ne 7, 3) := by decide +kernel
theorem dX6_frames_13 : decode cX6_frames 13 = .ok (.iconst (-1), 1) := by decide +kernel
theorem dX6_frames_14 : decode cX6_frames 14 = .ok (.goto 7, 3) := by decide +kernel
theorem dX6_frames_17 : decode cX6_frames 17 = .ok (.aload_n 0, 1) := by decide +kernel
theorem dX6_frames_18 : decode cX6_frames 18 = .ok (.getfield 142, 3) := by decide +kernel
theorem dX6_frames_21 : decode cX6_frames 21 = .ok (.ireturn, 1) := by decide +kernel
theorem dX6_heroX_0 : decode cX6_heroX 0 = .ok (.aload_n 0, 1) := by decide +kernel
theorem dX6_heroX_1 : decode cX6_heroX 1 = .ok (.iconst 0, 1) := by decide +kernel
theorem dX6_heroX_2 : decode cX6_heroX 2 = .ok (.putfield 60, 3) := by decide +kernel
theorem dX6_heroX_5 : decode cX6_heroX 5 = .ok (.aload_n 0, 1) := by decide +kernel
theorem dX6_heroX_6 : decode cX6_heroX 6 = .ok (.getfield 44, 3) := by decide +kernel
theorem dX6_heroX_9 : decode cX6_heroX 9 = .ok (.iconst (-1), 1) := by decide +kernel
theorem dX6_heroX_10 : decode cX6_heroX 10 = .ok (.if_icmp .ne 7, 3) := by decide +kernel
theorem dX6_heroX_13 : decode cX6_heroX 13 = .ok (.iconst (-1), 1) := by decide +kernel
theorem dX6_heroX_14 : decode cX6_heroX 14 = .ok (.goto 7, 3) := by decide +kernel
theorem dX6_heroX_17 : decode cX6_heroX 17 = .ok (.aload_n 0, 1) := by decide +kernel
theorem dX6_heroX_18 : decode cX6_heroX 18 = .ok (.getfield 130, 3) := by decide +kernel
theorem dX6_heroX_21 : decode cX6_heroX 21 = .ok (.ireturn, 1) := by decide +kernel
theorem dX6_heroY_0 : decode cX6_heroY 0 = .ok (.aload_n 0, 1) := by decide +kernel
theorem dX6_heroY_1 : decode cX6_heroY 1 = .ok (.iconst 0, 1) := by decide +kernel
theorem dX6_heroY_2 : decode cX6_heroY 2 = .ok (.putfield 60, 3) := by decide +kernel
theorem dX6_heroY_5 : decode cX6_heroY 5 = .ok (.aload_n 0, 1) := by decide +kernel
theorem dX6_heroY_6 : decode cX6_heroY 6 = .ok (.getfield 44, 3) := by decide +kernel
theorem dX6_heroY_9 : decode cX6_heroY 9 = .ok (.iconst (-1), 1) := by decide +kernel
theorem dX6_heroY_10 : decode cX6_heroY 10 = .ok (.if_icmp .ne 7, 3) := by decide +kernel
theorem dX6_heroY_13 : decode cX6_heroY 13 = .ok (.iconst (-1), 1) := by decide +kernel
theorem dX6_heroY_14 : decode cX6_heroY 14 = .ok (.goto 7, 3) := by decide +kernel
theorem dX6_heroY_17 : decode cX6_heroY 17 = .ok (.aload_n 0, 1) := by decide +kernel
theorem dX6_heroY_18 : decode cX6_heroY 18 = .ok (.getfield 133, 3) := by decide +kernel
theorem dX6_heroY_21 : decode cX6_heroY 21 = .ok (.ireturn, 1) := by decide +kernel
theorem dX6_lift_0 : decode cX6_lift 0 = .ok (.aload_n 0, 1) := by decide +kernel
theorem dX6_lift_1 : decode cX6_lift 1 = .ok (.iconst 0, 1) := by decide +kernel
theorem dX6_lift_2 : decode cX6_lift 2 = .ok (.putfield 60, 3) := by decide +kernel
theorem dX6_lift_5 : decode cX6_lift 5 = .ok (.aload_n 0, 1) := by decide +kernel
theorem dX6_lift_6 : decode cX6_lift 6 = .ok (.getfield 44, 3) := by decide +kernel
theorem dX6_lift_9 : decode cX6_lift 9 = .ok (.iconst (-1), 1) := by decide +kernel
theorem dX6_lift_10 : decode cX6_lift 10 = .ok (.if_icmp .ne 7, 3) := by decide +kernel
theorem dX6_lift_13 : decode cX6_lift 13 = .ok (.iconst (-1), 1) := by decide +kernel
theorem dX6_lift_14 : decode cX6_lift 14 = .ok (.goto 7, 3) := by decide +kernel
theorem dX6_lift_17 : decode cX6_lift 17 = .ok (.aload_n 0, 1) := by decide +kernel
theorem dX6_lift_18 : decode cX6_lift 18 = .ok (.getfield 136, 3) := by decide +kernel
theorem dX6_lift_21 : decode cX6_lift 21 = .ok (.ireturn, 1) := by decide +kernel
set_option maxRecDepth 20000 in
theorem ggX6_left_X6_runs : GoodIn wsX6_left wsX6_runs := goodIn_r _ [11, 2, 12, 60, 61, 62, 63, 64, 65, 66, 67, 68, 69, 70, 71, 72, 73, 74, 75, 76, 77, 78, 79, 80, 81, 82, 83, 84, 85, 86, 87] (by decide +kernel) (by decide +kernel)
set_option maxRecDepth 20000 in
theorem gX6_left_X6_runs : GoodIn wsX6_left (wsV RX6 145 RX6 yX6_runs wsX6_runs) := goodIn_app (goodIn_of _ (by decide +kernel)) ggX6_left_X6_runs
set_option maxRecDepth 20000 in
theorem ggX6_left_X6_least : GoodIn wsX6_left wsX6_least := goodIn_r _ [16, 17, 18, 19, 20, 21, 22, 23, 24, 25, 26, 10, 27, 28, 29, 30, 31, 32, 33, 34, 35, 36, 37, 38, 39, 40, 41, 42, 43, 44, 45, 46, 47, 48, 49, 50, 51, 52, 53, 54, 55, 56, 57, 58, 59, 60, 61, 62, 63, 64, 65, 66, 67, 68, 69, 70, 71, 72, 73, 74, 75, 76, 77, 78, 79, 80, 81, 82, 83, 84, 85, 86, 87] (by decide +kernel) (by decide +kernel)
set_option maxRecDepth 20000 in
theorem gX6_left_X6_least : GoodIn wsX6_left (wsV RX6 120 RX6 yX6_least wsX6_least) := goodIn_app (goodIn_of _ (by decide +kernel)) ggX6_left_X6_least
theorem dX6_left_0 : decode cX6_left 0 = .ok (.aload_n 0, 1) := by decide +kernel
theorem dX6_left_1 : decode cX6_left 1 = .ok (.iconst 0, 1) := by decide +kernel
theorem dX6_left_2 : decode cX6_left 2 = .ok (.putfield 60, 3) := by decide +kernel
theorem dX6_left_5 : decode cX6_left 5 = .ok (.aload_n 0, 1) := by decide +kernel
theorem dX6_left_6 : decode cX6_left 6 = .ok (.invokevirtual 145, 3) := by decide +kernel
theorem dX6_left_9 : decode cX6_left 9 = .ok (.ifCond .eq 33, 3) := by decide +kernel
theorem dX6_left_12 : decode cX6_left 12 = .ok (.aload_n 0, 1) := by decide +kernel
theorem dX6_left_13 : decode cX6_left 13 = .ok (.aload_n 0, 1) := by decide +kernel
theorem dX6_left_14 : decode cX6_left 14 = .ok (.getfield 44, 3) := by decide +kernel
theorem dX6_left_17 : decode cX6_left 17 = .ok (.aload_n 0, 1) := by decide +kernel
theorem dX6_left_18 : decode cX6_left 18 = .ok (.getfield 130, 3) := by decide +kernel
theorem dX6_left_21 : decode cX6_left 21 = .ok (.aload_n 0, 1) := by decide +kernel
theorem dX6_left_22 : decode cX6_left 22 = .ok (.getfield 133, 3) := by decide +kernel
theorem dX6_left_25 : decode cX6_left 25 = .ok (.aload_n 0, 1) := by decide +kernel
theorem dX6_left_26 : decode cX6_left 26 = .ok (.getfield 136, 3) := by decide +kernel
theorem dX6_left_29 : decode cX6_left 29 = .ok (.bipush 100, 2) := by decide +kernel
theorem dX6_left_31 : decode cX6_left 31 = .ok (.aload_n 0, 1) := by decide +kernel
theorem dX6_left_32 : decode cX6_left 32 = .ok (.getfield 142, 3) := by decide +kernel
theorem dX6_left_35 : decode cX6_left 35 = .ok (.isub, 1) := by decide +kernel
theorem dX6_left_36 : decode cX6_left 36 = .ok (.invokevirtual 120, 3) := by decide +kernel
theorem dX6_left_39 : decode cX6_left 39 = .ok (.goto 4, 3) := by decide +kernel
theorem dX6_left_42 : decode cX6_left 42 = .ok (.iconst (-1), 1) := by decide +kernel
theorem dX6_left_43 : decode cX6_left 43 = .ok (.ireturn, 1) := by decide +kernel
set_option maxRecDepth 20000 in
theorem ggX6_hint_X6_left : GoodIn wsX6_hint wsX6_left := goodIn_r _ [13, 14, 4, 1, 2, 3, 15, 16, 17, 18, 12, 19, 20, 21, 22, 23, 24, 25, 26, 5, 7, 6, 8, 27, 28, 29, 30, 31, 32, 33, 34, 35, 36, 37, 38, 39, 40, 41, 42, 43, 44, 45, 46, 47, 48, 49, 50, 51, 52, 53, 54, 55, 56, 57, 58, 59, 60, 61, 62, 63, 64, 65, 66, 67, 68, 69, 70, 71, 72, 73, 74, 75, 76, 77, 78, 79, 80, 81, 82, 83, 84, 85, 86, 87, 88, 89, 90, 91] (by decide +kernel) (by decide +kernel)
set_option maxRecDepth 20000 in
theorem gX6_hint_X6_left : GoodIn wsX6_hint (wsV RX6 149 RX6 yX6_left wsX6_left) := goodIn_app (goodIn_of _ (by decide +kernel)) ggX6_hint_X6_left
set_option maxRecDepth 20000 in
theorem ggX6_hint_X6_isAt : GoodIn wsX6_hint wsX6_isAt := goodIn_r _ [31, 6, 7, 8, 5, 64, 65, 66, 67, 68, 69, 70, 71, 72, 73, 74, 75, 76, 77, 78, 79, 80, 81, 82, 83, 84, 85, 86, 87, 88, 89, 90, 91] (by decide +kernel) (by decide +kernel)
set_option maxRecDepth 20000 in
theorem gX6_hint_X6_isAt : GoodIn wsX6_hint (wsV RX6 99 RX6 yX6_isAt wsX6_isAt) := goodIn_app (goodIn_of _ (by decide +kernel)) ggX6_hint_X6_isAt
set_option maxRecDepth 20000 in
theorem ggX6_hint_X6_frame : GoodIn wsX6_hint wsX6_frame := goodIn_r _ [35, 6, 7, 8, 36, 5, 37, 38, 39, 40, 41, 12, 42, 43, 44, 45, 46, 47, 48, 49, 50, 51, 52, 53, 54, 55, 56, 57, 58, 59, 60, 61, 62, 63, 64, 65, 66, 67, 68, 69, 70, 71, 72, 73, 74, 75, 76, 77, 78, 79, 80, 81, 82, 83, 84, 85, 86, 87, 88, 89, 90, 91] (by decide +kernel) (by decide +kernel)
set_option maxRecDepth 20000 in
theorem gX6_hint_X6_frame : GoodIn wsX6_hint (wsV RX6 103 RX6 yX6_frame wsX6_frame) := goodIn_app (goodIn_of _ (by decide +kernel)) ggX6_hint_X6_frame
set_option maxRecDepth 20000 in
theorem ggX6_hint_X6_least : GoodIn wsX6_hint wsX6_least := goodIn_r _ [24, 25, 26, 5, 7, 6, 8, 27, 28, 29, 30, 12, 31, 32, 33, 34, 35, 36, 37, 38, 39, 40, 41, 42, 43, 44, 45, 46, 47, 48, 49, 50, 51, 52, 53, 54, 55, 56, 57, 58, 59, 60, 61, 62, 63, 64, 65, 66, 67, 68, 69, 70, 71, 72, 73, 74, 75, 76, 77, 78, 79, 80, 81, 82, 83, 84, 85, 86, 87, 88, 89, 90, 91] (by decide +kernel) (by decide +kernel)
set_option maxRecDepth 20000 in
theorem gX6_hint_X6_least : GoodIn wsX6_hint (wsV RX6 120 RX6 yX6_least wsX6_least) := goodIn_app (goodIn_of _ (by decide +kernel)) ggX6_hint_X6_least
theorem dX6_hint_0 : decode cX6_hint 0 = .ok (.aload_n 0, 1) := by decide +kernel
theorem dX6_hint_1 : decode cX6_hint 1 = .ok (.invokevirtual 149, 3) := by decide +kernel
theorem dX6_hint_4 : decode cX6_hint 4 = .ok (.istore_n 1, 1) := by decide +kernel
theorem dX6_hint_5 : decode cX6_hint 5 = .ok (.iconst 0, 1) := by decide +kernel
theorem dX6_hint_6 : decode cX6_hint 6 = .ok (.istore_n 2, 1) := by decide +kernel
theorem dX6_hint_7 : decode cX6_hint 7 = .ok (.iload_n 2, 1) := by decide +kernel
theorem dX6_hint_8 : decode cX6_hint 8 = .ok (.bipush 6, 2) := by decide +kernel
theorem dX6_hint_10 : decode cX6_hint 10 = .ok (.if_icmp .ge 105, 3) := by decide +kernel
theorem dX6_hint_13 : decode cX6_hint 13 = .ok (.iload_n 1, 1) := by decide +kernel
theorem dX6_hint_14 : decode cX6_hint 14 = .ok (.iconst (-1), 1) := by decide +kernel
theorem dX6_hint_15 : decode cX6_hint 15 = .ok (.if_icmp .eq 100, 3) := by decide +kernel
theorem dX6_hint_18 : decode cX6_hint 18 = .ok (.aload_n 0, 1) := by decide +kernel
theorem dX6_hint_19 : decode cX6_hint 19 = .ok (.aload_n 0, 1) := by decide +kernel
theorem dX6_hint_20 : decode cX6_hint 20 = .ok (.getfield 130, 3) := by decide +kernel
theorem dX6_hint_23 : decode cX6_hint 23 = .ok (.aload_n 0, 1) := by decide +kernel
theorem dX6_hint_24 : decode cX6_hint 24 = .ok (.getfield 133, 3) := by decide +kernel
theorem dX6_hint_27 : decode cX6_hint 27 = .ok (.aload_n 0, 1) := by decide +kernel
theorem dX6_hint_28 : decode cX6_hint 28 = .ok (.getfield 136, 3) := by decide +kernel
theorem dX6_hint_31 : decode cX6_hint 31 = .ok (.invokevirtual 99, 3) := by decide +kernel
theorem dX6_hint_34 : decode cX6_hint 34 = .ok (.aload_n 0, 1) := by decide +kernel
theorem dX6_hint_35 : decode cX6_hint 35 = .ok (.aload_n 0, 1) := by decide +kernel
theorem dX6_hint_36 : decode cX6_hint 36 = .ok (.getfield 44, 3) := by decide +kernel
theorem dX6_hint_39 : decode cX6_hint 39 = .ok (.iload_n 2, 1) := by decide +kernel
theorem dX6_hint_40 : decode cX6_hint 40 = .ok (.invokevirtual 103, 3) := by decide +kernel
theorem dX6_hint_43 : decode cX6_hint 43 = .ok (.aload_n 0, 1) := by decide +kernel
theorem dX6_hint_44 : decode cX6_hint 44 = .ok (.getfield 90, 3) := by decide +kernel
theorem dX6_hint_47 : decode cX6_hint 47 = .ok (.iconst 2, 1) := by decide +kernel
theorem dX6_hint_48 : decode cX6_hint 48 = .ok (.if_icmp .ne 12, 3) := by decide +kernel
theorem dX6_hint_51 : decode cX6_hint 51 = .ok (.iload_n 1, 1) := by decide +kernel
theorem dX6_hint_52 : decode cX6_hint 52 = .ok (.iconst 1, 1) := by decide +kernel
theorem dX6_hint_53 : decode cX6_hint 53 = .ok (.if_icmp .ne 7, 3) := by decide +kernel
theorem dX6_hint_56 : decode cX6_hint 56 = .ok (.iconst 1, 1) := by decide +kernel
theorem dX6_hint_57 : decode cX6_hint 57 = .ok (.goto 4, 3) := by decide +kernel
theorem dX6_hint_60 : decode cX6_hint 60 = .ok (.iconst 0, 1) := by decide +kernel
theorem dX6_hint_61 : decode cX6_hint 61 = .ok (.istore_n 3, 1) := by decide +kernel
theorem dX6_hint_62 : decode cX6_hint 62 = .ok (.iload_n 3, 1) := by decide +kernel
theorem dX6_hint_63 : decode cX6_hint 63 = .ok (.ifCond .ne 44, 3) := by decide +kernel
theorem dX6_hint_66 : decode cX6_hint 66 = .ok (.aload_n 0, 1) := by decide +kernel
theorem dX6_hint_67 : decode cX6_hint 67 = .ok (.getfield 90, 3) := by decide +kernel
theorem dX6_hint_70 : decode cX6_hint 70 = .ok (.ifCond .ne 39, 3) := by decide +kernel
theorem dX6_hint_73 : decode cX6_hint 73 = .ok (.iload_n 1, 1) := by decide +kernel
theorem dX6_hint_74 : decode cX6_hint 74 = .ok (.iconst 1, 1) := by decide +kernel
theorem dX6_hint_75 : decode cX6_hint 75 = .ok (.if_icmp .le 34, 3) := by decide +kernel
theorem dX6_hint_78 : decode cX6_hint 78 = .ok (.aload_n 0, 1) := by decide +kernel
theorem dX6_hint_79 : decode cX6_hint 79 = .ok (.aload_n 0, 1) := by decide +kernel
theorem dX6_hint_80 : decode cX6_hint 80 = .ok (.getfield 44, 3) := by decide +kernel
theorem dX6_hint_83 : decode cX6_hint 83 = .ok (.aload_n 0, 1) := by decide +kernel
theorem dX6_hint_84 : decode cX6_hint 84 = .ok (.getfield 81, 3) := by decide +kernel
theorem dX6_hint_87 : decode cX6_hint 87 = .ok (.aload_n 0, 1) := by decide +kernel
theorem dX6_hint_88 : decode cX6_hint 88 = .ok (.getfield 84, 3) := by decide +kernel
theorem dX6_hint_91 : decode cX6_hint 91 = .ok (.aload_n 0, 1) := by decide +kernel
theorem dX6_hint_92 : decode cX6_hint 92 = .ok (.getfield 87, 3) := by decide +kernel
theorem dX6_hint_95 : decode cX6_hint 95 = .ok (.iload_n 1, 1) := by decide +kernel
theorem dX6_hint_96 : decode cX6_hint 96 = .ok (.iconst 1, 1) := by decide +kernel
theorem dX6_hint_97 : decode cX6_hint 97 = .ok (.isub, 1) := by decide +kernel
theorem dX6_hint_98 : decode cX6_hint 98 = .ok (.invokevirtual 120, 3) := by decide +kernel
theorem dX6_hint_101 : decode cX6_hint 101 = .ok (.iload_n 1, 1) := by decide +kernel
theorem dX6_hint_102 : decode cX6_hint 102 = .ok (.iconst 1, 1) := by decide +kernel
theorem dX6_hint_103 : decode cX6_hint 103 = .ok (.isub, 1) := by decide +kernel
theorem dX6_hint_104 : decode cX6_hint 104 = .ok (.if_icmp .ne 5, 3) := by decide +kernel
theorem dX6_hint_107 : decode cX6_hint 107 = .ok (.iload_n 2, 1) := by decide +kernel
theorem dX6_hint_108 : decode cX6_hint 108 = .ok (.ireturn, 1) := by decide +kernel
theorem dX6_hint_109 : decode cX6_hint 109 = .ok (.iinc 2 1, 3) := by decide +kernel
theorem dX6_hint_112 : decode cX6_hint 112 = .ok (.goto (-105), 3) := by decide +kernel
theorem dX6_hint_115 : decode cX6_hint 115 = .ok (.iconst (-1), 1) := by decide +kernel
theorem dX6_hint_116 : decode cX6_hint 116 = .ok (.ireturn, 1) := by decide +kernel
set_option maxRecDepth 20000 in
theorem ggX6_isAsked_X6_isLevel : GoodIn wsX6_isAsked wsX6_isLevel := goodIn_r _ [5, 6, 7, 8, 4, 9, 18, 19, 20, 21, 22, 23, 24, 25, 26, 27, 28, 29, 30, 31, 32, 33, 34, 35, 36, 37, 38, 39, 40, 41, 42, 43, 44, 45] (by decide +kernel) (by decide +kernel)
set_option maxRecDepth 20000 in
theorem gX6_isAsked_X6_isLevel : GoodIn wsX6_isAsked (wsV RX6 70 RX6 yX6_isLevel wsX6_isLevel) := goodIn_app (goodIn_of _ (by decide +kernel)) ggX6_isAsked_X6_isLevel
set_option maxRecDepth 20000 in
theorem ggX6_isAsked_X6_isPlayer : GoodIn wsX6_isAsked wsX6_isPlayer := goodIn_r _ [12, 7, 8, 4, 9] (by decide +kernel) (by decide +kernel)
set_option maxRecDepth 20000 in
theorem gX6_isAsked_X6_isPlayer : GoodIn wsX6_isAsked (va_wsS RX6 124 yX6_isPlayer wsX6_isPlayer) := goodIn_app (goodIn_of _ (by decide +kernel)) ggX6_isAsked_X6_isPlayer
set_option maxRecDepth 20000 in
theorem ggX6_isAsked_X6_goes : GoodIn wsX6_isAsked wsX6_goes := goodIn_r _ [16, 17, 18, 19, 20, 21, 22, 23, 24, 25, 26, 27, 28, 29, 30, 31, 32, 33, 34, 35, 36, 37, 38, 39, 40, 41, 42, 43, 44, 45] (by decide +kernel) (by decide +kernel)
set_option maxRecDepth 20000 in
theorem gX6_isAsked_X6_goes : GoodIn wsX6_isAsked (wsV RX6 107 RX6 yX6_goes wsX6_goes) := goodIn_app (goodIn_of _ (by decide +kernel)) ggX6_isAsked_X6_goes
theorem dX6_isAsked_0 : decode cX6_isAsked 0 = .ok (.aload_n 0, 1) := by decide +kernel
theorem dX6_isAsked_1 : decode cX6_isAsked 1 = .ok (.aload_n 0, 1) := by decide +kernel
theorem dX6_isAsked_2 : decode cX6_isAsked 2 = .ok (.iload_n 1, 1) := by decide +kernel
theorem dX6_isAsked_3 : decode cX6_isAsked 3 = .ok (.invokevirtual 70, 3) := by decide +kernel
theorem dX6_isAsked_6 : decode cX6_isAsked 6 = .ok (.ifCond .eq 14, 3) := by decide +kernel
theorem dX6_isAsked_9 : decode cX6_isAsked 9 = .ok (.iload_n 2, 1) := by decide +kernel
theorem dX6_isAsked_10 : decode cX6_isAsked 10 = .ok (.invokestatic 124, 3) := by decide +kernel
theorem dX6_isAsked_13 : decode cX6_isAsked 13 = .ok (.ifCond .eq 7, 3) := by decide +kernel
theorem dX6_isAsked_16 : decode cX6_isAsked 16 = .ok (.iconst 1, 1) := by decide +kernel
theorem dX6_isAsked_17 : decode cX6_isAsked 17 = .ok (.goto 4, 3) := by decide +kernel
theorem dX6_isAsked_20 : decode cX6_isAsked 20 = .ok (.iconst 0, 1) := by decide +kernel
theorem dX6_isAsked_21 : decode cX6_isAsked 21 = .ok (.iconst 1, 1) := by decide +kernel
theorem dX6_isAsked_22 : decode cX6_isAsked 22 = .ok (.iconst 1, 1) := by decide +kernel
theorem dX6_isAsked_23 : decode cX6_isAsked 23 = .ok (.invokevirtual 107, 3) := by decide +kernel
theorem dX6_isAsked_26 : decode cX6_isAsked 26 = .ok (.ireturn, 1) := by decide +kernel
set_option maxRecDepth 20000 in
theorem ggX6_record_X6_isAsked : GoodIn wsX6_record wsX6_isAsked := goodIn_r _ [6, 7, 8, 9, 5, 10, 11, 12, 13, 14, 15, 16, 17, 18, 19, 20, 21, 22, 23, 24, 25, 26, 27, 28, 29, 30, 31, 32, 33, 34, 35, 36, 37, 38, 39, 40, 41, 42, 43, 44, 45, 46, 47, 48, 49, 50] (by decide +kernel) (by decide +kernel)
set_option maxRecDepth 20000 in
theorem gX6_record_X6_isAsked : GoodIn wsX6_record (wsV RX6 153 RX6 yX6_isAsked wsX6_isAsked) := goodIn_app (goodIn_of _ (by decide +kernel)) ggX6_record_X6_isAsked
theorem dX6_record_0 : decode cX6_record 0 = .ok (.aload_n 0, 1) := by decide +kernel
theorem dX6_record_1 : decode cX6_record 1 = .ok (.iload_n 1, 1) := by decide +kernel
theorem dX6_record_2 : decode cX6_record 2 = .ok (.iload_n 2, 1) := by decide +kernel
theorem dX6_record_3 : decode cX6_record 3 = .ok (.invokevirtual 153, 3) := by decide +kernel
theorem dX6_record_6 : decode cX6_record 6 = .ok (.ifCond .eq 16, 3) := by decide +kernel
theorem dX6_record_9 : decode cX6_record 9 = .ok (.aload_n 0, 1) := by decide +kernel
theorem dX6_record_10 : decode cX6_record 10 = .ok (.getfield 38, 3) := by decide +kernel
theorem dX6_record_13 : decode cX6_record 13 = .ok (.iconst 4, 1) := by decide +kernel
theorem dX6_record_14 : decode cX6_record 14 = .ok (.iload_n 1, 1) := by decide +kernel
theorem dX6_record_15 : decode cX6_record 15 = .ok (.imul, 1) := by decide +kernel
theorem dX6_record_16 : decode cX6_record 16 = .ok (.iload_n 2, 1) := by decide +kernel
theorem dX6_record_17 : decode cX6_record 17 = .ok (.iadd, 1) := by decide +kernel
theorem dX6_record_18 : decode cX6_record 18 = .ok (.iaload, 1) := by decide +kernel
theorem dX6_record_19 : decode cX6_record 19 = .ok (.goto 4, 3) := by decide +kernel
theorem dX6_record_22 : decode cX6_record 22 = .ok (.iconst 0, 1) := by decide +kernel
theorem dX6_record_23 : decode cX6_record 23 = .ok (.ireturn, 1) := by decide +kernel
set_option maxRecDepth 20000 in
theorem ggX6_leads_X6_isAt : GoodIn wsX6_leads wsX6_isAt := goodIn_r _ [9, 10, 11, 12, 13, 46, 47, 48, 49, 50, 51, 52, 53, 54, 55, 56, 57, 58, 59, 60, 61, 62, 63, 64, 65, 66, 67, 68, 69, 70, 71, 72, 73] (by decide +kernel) (by decide +kernel)
set_option maxRecDepth 20000 in
theorem gX6_leads_X6_isAt : GoodIn wsX6_leads (wsV RX6 99 RX6 yX6_isAt wsX6_isAt) := goodIn_app (goodIn_of _ (by decide +kernel)) ggX6_leads_X6_isAt
set_option maxRecDepth 20000 in
theorem ggX6_leads_X6_frame : GoodIn wsX6_leads wsX6_frame := goodIn_r _ [17, 10, 11, 12, 18, 13, 19, 20, 21, 22, 23, 8, 24, 25, 26, 27, 28, 29, 30, 31, 32, 33, 34, 35, 36, 37, 38, 39, 40, 41, 42, 43, 44, 45, 46, 47, 48, 49, 50, 51, 52, 53, 54, 55, 56, 57, 58, 59, 60, 61, 62, 63, 64, 65, 66, 67, 68, 69, 70, 71, 72, 73] (by decide +kernel) (by decide +kernel)
set_option maxRecDepth 20000 in
theorem gX6_leads_X6_frame : GoodIn wsX6_leads (wsV RX6 103 RX6 yX6_frame wsX6_frame) := goodIn_app (goodIn_of _ (by decide +kernel)) ggX6_leads_X6_frame
theorem dX6_leads_0 : decode cX6_leads 0 = .ok (.aload_n 0, 1) := by decide +kernel
theorem dX6_leads_1 : decode cX6_leads 1 = .ok (.aload_n 0, 1) := by decide +kernel
theorem dX6_leads_2 : decode cX6_leads 2 = .ok (.getfield 19, 3) := by decide +kernel
theorem dX6_leads_5 : decode cX6_leads 5 = .ok (.iload_n 1, 1) := by decide +kernel
theorem dX6_leads_6 : decode cX6_leads 6 = .ok (.iaload, 1) := by decide +kernel
theorem dX6_leads_7 : decode cX6_leads 7 = .ok (.aload_n 0, 1) := by decide +kernel
theorem dX6_leads_8 : decode cX6_leads 8 = .ok (.getfield 22, 3) := by decide +kernel
theorem dX6_leads_11 : decode cX6_leads 11 = .ok (.iload_n 1, 1) := by decide +kernel
theorem dX6_leads_12 : decode cX6_leads 12 = .ok (.iaload, 1) := by decide +kernel
theorem dX6_leads_13 : decode cX6_leads 13 = .ok (.iconst 0, 1) := by decide +kernel
theorem dX6_leads_14 : decode cX6_leads 14 = .ok (.invokevirtual 99, 3) := by decide +kernel
theorem dX6_leads_17 : decode cX6_leads 17 = .ok (.iconst 0, 1) := by decide +kernel
theorem dX6_leads_18 : decode cX6_leads 18 = .ok (.istore 4, 2) := by decide +kernel
theorem dX6_leads_20 : decode cX6_leads 20 = .ok (.iload 4, 2) := by decide +kernel
theorem dX6_leads_22 : decode cX6_leads 22 = .ok (.aload_n 0, 1) := by decide +kernel
theorem dX6_leads_23 : decode cX6_leads 23 = .ok (.getfield 38, 3) := by decide +kernel
theorem dX6_leads_26 : decode cX6_leads 26 = .ok (.iconst 4, 1) := by decide +kernel
theorem dX6_leads_27 : decode cX6_leads 27 = .ok (.iload_n 1, 1) := by decide +kernel
theorem dX6_leads_28 : decode cX6_leads 28 = .ok (.imul, 1) := by decide +kernel
theorem dX6_leads_29 : decode cX6_leads 29 = .ok (.iload_n 2, 1) := by decide +kernel
theorem dX6_leads_30 : decode cX6_leads 30 = .ok (.iadd, 1) := by decide +kernel
theorem dX6_leads_31 : decode cX6_leads 31 = .ok (.iaload, 1) := by decide +kernel
theorem dX6_leads_32 : decode cX6_leads 32 = .ok (.if_icmp .ge 36, 3) := by decide +kernel
theorem dX6_leads_35 : decode cX6_leads 35 = .ok (.iload 4, 2) := by decide +kernel
theorem dX6_leads_37 : decode cX6_leads 37 = .ok (.iload_n 3, 1) := by decide +kernel
theorem dX6_leads_38 : decode cX6_leads 38 = .ok (.if_icmp .ge 30, 3) := by decide +kernel
theorem dX6_leads_41 : decode cX6_leads 41 = .ok (.aload_n 0, 1) := by decide +kernel
theorem dX6_leads_42 : decode cX6_leads 42 = .ok (.iload_n 1, 1) := by decide +kernel
theorem dX6_leads_43 : decode cX6_leads 43 = .ok (.aload_n 0, 1) := by decide +kernel
theorem dX6_leads_44 : decode cX6_leads 44 = .ok (.getfield 41, 3) := by decide +kernel
theorem dX6_leads_47 : decode cX6_leads 47 = .ok (.bipush 100, 2) := by decide +kernel
theorem dX6_leads_49 : decode cX6_leads 49 = .ok (.iconst 4, 1) := by decide +kernel
theorem dX6_leads_50 : decode cX6_leads 50 = .ok (.iload_n 1, 1) := by decide +kernel
theorem dX6_leads_51 : decode cX6_leads 51 = .ok (.imul, 1) := by decide +kernel
theorem dX6_leads_52 : decode cX6_leads 52 = .ok (.iload_n 2, 1) := by decide +kernel
theorem dX6_leads_53 : decode cX6_leads 53 = .ok (.iadd, 1) := by decide +kernel
theorem dX6_leads_54 : decode cX6_leads 54 = .ok (.imul, 1) := by decide +kernel
theorem dX6_leads_55 : decode cX6_leads 55 = .ok (.iload 4, 2) := by decide +kernel
theorem dX6_leads_57 : decode cX6_leads 57 = .ok (.iadd, 1) := by decide +kernel
theorem dX6_leads_58 : decode cX6_leads 58 = .ok (.iaload, 1) := by decide +kernel
theorem dX6_leads_59 : decode cX6_leads 59 = .ok (.invokevirtual 103, 3) := by decide +kernel
theorem dX6_leads_62 : decode cX6_leads 62 = .ok (.iinc 4 1, 3) := by decide +kernel
theorem dX6_leads_65 : decode cX6_leads 65 = .ok (.goto (-45), 3) := by decide +kernel
theorem dX6_leads_68 : decode cX6_leads 68 = .ok (.return_, 1) := by decide +kernel
set_option maxRecDepth 20000 in
theorem ggX6_half_X6_isAsked : GoodIn wsX6_half wsX6_isAsked := goodIn_r _ [8, 9, 10, 11, 7, 12, 13, 14, 15, 16, 17, 18, 19, 20, 21, 22, 23, 24, 62, 63, 64, 65, 66, 67, 68, 69, 70, 71, 72, 73, 74, 75, 76, 77, 78, 79, 80, 81, 82, 83, 84, 85, 86, 87, 88, 89] (by decide +kernel) (by decide +kernel)
set_option maxRecDepth 20000 in
theorem gX6_half_X6_isAsked : GoodIn wsX6_half (wsV RX6 153 RX6 yX6_isAsked wsX6_isAsked) := goodIn_app (goodIn_of _ (by decide +kernel)) ggX6_half_X6_isAsked
set_option maxRecDepth 20000 in
theorem ggX6_half_X6_leads : GoodIn wsX6_half wsX6_leads := goodIn_r _ [28, 29, 30, 1, 31, 32, 33, 34, 7, 35, 2, 36, 37, 38, 39, 40, 41, 42, 43, 44, 45, 46, 47, 48, 49, 50, 51, 52, 53, 3, 54, 9, 10, 11, 12, 13, 14, 15, 16, 55, 56, 57, 58, 59, 60, 61, 62, 63, 64, 65, 66, 67, 68, 69, 70, 71, 72, 73, 74, 75, 76, 77, 78, 79, 80, 81, 82, 83, 84, 85, 86, 87, 88, 89] (by decide +kernel) (by decide +kernel)
set_option maxRecDepth 20000 in
theorem gX6_half_X6_leads : GoodIn wsX6_half (wsV RX6 157 RX6 yX6_leads wsX6_leads) := goodIn_app (goodIn_of _ (by decide +kernel)) ggX6_half_X6_leads
theorem dX6_half_0 : decode cX6_half 0 = .ok (.aload_n 0, 1) := by decide +kernel
theorem dX6_half_1 : decode cX6_half 1 = .ok (.iload_n 1, 1) := by decide +kernel
theorem dX6_half_2 : decode cX6_half 2 = .ok (.iload_n 2, 1) := by decide +kernel
theorem dX6_half_3 : decode cX6_half 3 = .ok (.invokevirtual 153, 3) := by decide +kernel
theorem dX6_half_6 : decode cX6_half 6 = .ok (.ifCond .ne 5, 3) := by decide +kernel
theorem dX6_half_9 : decode cX6_half 9 = .ok (.iconst 0, 1) := by decide +kernel
theorem dX6_half_10 : decode cX6_half 10 = .ok (.ireturn, 1) := by decide +kernel
theorem dX6_half_11 : decode cX6_half 11 = .ok (.iconst 0, 1) := by decide +kernel
theorem dX6_half_12 : decode cX6_half 12 = .ok (.istore_n 3, 1) := by decide +kernel
theorem dX6_half_13 : decode cX6_half 13 = .ok (.iload_n 3, 1) := by decide +kernel
theorem dX6_half_14 : decode cX6_half 14 = .ok (.aload_n 0, 1) := by decide +kernel
theorem dX6_half_15 : decode cX6_half 15 = .ok (.getfield 38, 3) := by decide +kernel
theorem dX6_half_18 : decode cX6_half 18 = .ok (.iconst 4, 1) := by decide +kernel
theorem dX6_half_19 : decode cX6_half 19 = .ok (.iload_n 1, 1) := by decide +kernel
theorem dX6_half_20 : decode cX6_half 20 = .ok (.imul, 1) := by decide +kernel
theorem dX6_half_21 : decode cX6_half 21 = .ok (.iload_n 2, 1) := by decide +kernel
theorem dX6_half_22 : decode cX6_half 22 = .ok (.iadd, 1) := by decide +kernel
theorem dX6_half_23 : decode cX6_half 23 = .ok (.iaload, 1) := by decide +kernel
theorem dX6_half_24 : decode cX6_half 24 = .ok (.if_icmp .gt 33, 3) := by decide +kernel
theorem dX6_half_27 : decode cX6_half 27 = .ok (.aload_n 0, 1) := by decide +kernel
theorem dX6_half_28 : decode cX6_half 28 = .ok (.iload_n 1, 1) := by decide +kernel
theorem dX6_half_29 : decode cX6_half 29 = .ok (.iload_n 2, 1) := by decide +kernel
theorem dX6_half_30 : decode cX6_half 30 = .ok (.iload_n 3, 1) := by decide +kernel
theorem dX6_half_31 : decode cX6_half 31 = .ok (.invokevirtual 157, 3) := by decide +kernel
theorem dX6_half_34 : decode cX6_half 34 = .ok (.iconst 2, 1) := by decide +kernel
theorem dX6_half_35 : decode cX6_half 35 = .ok (.aload_n 0, 1) := by decide +kernel
theorem dX6_half_36 : decode cX6_half 36 = .ok (.getfield 81, 3) := by decide +kernel
theorem dX6_half_39 : decode cX6_half 39 = .ok (.imul, 1) := by decide +kernel
theorem dX6_half_40 : decode cX6_half 40 = .ok (.aload_n 0, 1) := by decide +kernel
theorem dX6_half_41 : decode cX6_half 41 = .ok (.getfield 7, 3) := by decide +kernel
theorem dX6_half_44 : decode cX6_half 44 = .ok (.iload_n 1, 1) := by decide +kernel
theorem dX6_half_45 : decode cX6_half 45 = .ok (.iaload, 1) := by decide +kernel
theorem dX6_half_46 : decode cX6_half 46 = .ok (.if_icmp .lt 5, 3) := by decide +kernel
theorem dX6_half_49 : decode cX6_half 49 = .ok (.iload_n 3, 1) := by decide +kernel
theorem dX6_half_50 : decode cX6_half 50 = .ok (.ireturn, 1) := by decide +kernel
theorem dX6_half_51 : decode cX6_half 51 = .ok (.iinc 3 1, 3) := by decide +kernel
theorem dX6_half_54 : decode cX6_half 54 = .ok (.goto (-41), 3) := by decide +kernel
theorem dX6_half_57 : decode cX6_half 57 = .ok (.iconst (-1), 1) := by decide +kernel
theorem dX6_half_58 : decode cX6_half 58 = .ok (.ireturn, 1) := by decide +kernel
theorem dX6_best_0 : decode cX6_best 0 = .ok (.iconst (-1), 1) := by decide +kernel
theorem dX6_best_1 : decode cX6_best 1 = .ok (.istore_n 2, 1) := by decide +kernel
theorem dX6_best_2 : decode cX6_best 2 = .ok (.iconst 0, 1) := by decide +kernel
theorem dX6_best_3 : decode cX6_best 3 = .ok (.istore_n 3, 1) := by decide +kernel
theorem dX6_best_4 : decode cX6_best 4 = .ok (.iload_n 3, 1) := by decide +kernel
theorem dX6_best_5 : decode cX6_best 5 = .ok (.iconst 4, 1) := by decide +kernel
theorem dX6_best_6 : decode cX6_best 6 = .ok (.if_icmp .ge 53, 3) := by decide +kernel
theorem dX6_best_9 : decode cX6_best 9 = .ok (.aload_n 0, 1) := by decide +kernel
theorem dX6_best_10 : decode cX6_best 10 = .ok (.getfield 38, 3) := by decide +kernel
theorem dX6_best_13 : decode cX6_best 13 = .ok (.iconst 4, 1) := by decide +kernel
theorem dX6_best_14 : decode cX6_best 14 = .ok (.iload_n 1, 1) := by decide +kernel
theorem dX6_best_15 : decode cX6_best 15 = .ok (.imul, 1) := by decide +kernel
theorem dX6_best_16 : decode cX6_best 16 = .ok (.iload_n 3, 1) := by decide +kernel
theorem dX6_best_17 : decode cX6_best 17 = .ok (.iadd, 1) := by decide +kernel
theorem dX6_best_18 : decode cX6_best 18 = .ok (.iaload, 1) := by decide +kernel
theorem dX6_best_19 : decode cX6_best 19 = .ok (.istore 4, 2) := by decide +kernel
theorem dX6_best_21 : decode cX6_best 21 = .ok (.iload 4, 2) := by decide +kernel
theorem dX6_best_23 : decode cX6_best 23 = .ok (.iconst (-1), 1) := by decide +kernel
theorem dX6_best_24 : decode cX6_best 24 = .ok (.if_icmp .eq 27, 3) := by decide +kernel
theorem dX6_best_27 : decode cX6_best 27 = .ok (.iload_n 2, 1) := by decide +kernel
theorem dX6_best_28 : decode cX6_best 28 = .ok (.iconst (-1), 1) := by decide +kernel
theorem dX6_best_29 : decode cX6_best 29 = .ok (.if_icmp .eq 18, 3) := by decide +kernel
theorem dX6_best_32 : decode cX6_best 32 = .ok (.iload 4, 2) := by decide +kernel
theorem dX6_best_34 : decode cX6_best 34 = .ok (.aload_n 0, 1) := by decide +kernel
theorem dX6_best_35 : decode cX6_best 35 = .ok (.getfield 38, 3) := by decide +kernel
theorem dX6_best_38 : decode cX6_best 38 = .ok (.iconst 4, 1) := by decide +kernel
theorem dX6_best_39 : decode cX6_best 39 = .ok (.iload_n 1, 1) := by decide +kernel
theorem dX6_best_40 : decode cX6_best 40 = .ok (.imul, 1) := by decide +kernel
theorem dX6_best_41 : decode cX6_best 41 = .ok (.iload_n 2, 1) := by decide +kernel
theorem dX6_best_42 : decode cX6_best 42 = .ok (.iadd, 1) := by decide +kernel
theorem dX6_best_43 : decode cX6_best 43 = .ok (.iaload, 1) := by decide +kernel
theorem dX6_best_44 : decode cX6_best 44 = .ok (.if_icmp .ge 7, 3) := by decide +kernel
theorem dX6_best_47 : decode cX6_best 47 = .ok (.iload_n 3, 1) := by decide +kernel
theorem dX6_best_48 : decode cX6_best 48 = .ok (.goto 4, 3) := by decide +kernel
theorem dX6_best_51 : decode cX6_best 51 = .ok (.iload_n 2, 1) := by decide +kernel
theorem dX6_best_52 : decode cX6_best 52 = .ok (.istore_n 2, 1) := by decide +kernel
theorem dX6_best_53 : decode cX6_best 53 = .ok (.iinc 3 1, 3) := by decide +kernel
theorem dX6_best_56 : decode cX6_best 56 = .ok (.goto (-52), 3) := by decide +kernel
theorem dX6_best_59 : decode cX6_best 59 = .ok (.iload_n 2, 1) := by decide +kernel
theorem dX6_best_60 : decode cX6_best 60 = .ok (.ireturn, 1) := by decide +kernel
set_option maxRecDepth 20000 in
theorem ggX6_bestPlayer_X6_isLevel : GoodIn wsX6_bestPlayer wsX6_isLevel := goodIn_r _ [5, 6, 7, 8, 4, 9, 20, 21, 22, 23, 24, 25, 26, 27, 28, 29, 30, 31, 32, 33, 34, 35, 36, 37, 38, 39, 40, 41, 42, 43, 44, 45, 46, 47] (by decide +kernel) (by decide +kernel)
set_option maxRecDepth 20000 in
theorem gX6_bestPlayer_X6_isLevel : GoodIn wsX6_bestPlayer (wsV RX6 70 RX6 yX6_isLevel wsX6_isLevel) := goodIn_app (goodIn_of _ (by decide +kernel)) ggX6_bestPlayer_X6_isLevel
set_option maxRecDepth 20000 in
theorem ggX6_bestPlayer_X6_goes : GoodIn wsX6_bestPlayer wsX6_goes := goodIn_r _ [13, 14, 20, 21, 22, 23, 24, 25, 26, 27, 28, 29, 30, 31, 32, 33, 34, 35, 36, 37, 38, 39, 40, 41, 42, 43, 44, 45, 46, 47] (by decide +kernel) (by decide +kernel)
set_option maxRecDepth 20000 in
theorem gX6_bestPlayer_X6_goes : GoodIn wsX6_bestPlayer (wsV RX6 107 RX6 yX6_goes wsX6_goes) := goodIn_app (goodIn_of _ (by decide +kernel)) ggX6_bestPlayer_X6_goes
set_option maxRecDepth 20000 in
theorem ggX6_bestPlayer_X6_best : GoodIn wsX6_bestPlayer wsX6_best := goodIn_r _ [18, 19, 20, 21, 22, 23, 24, 25, 26, 27, 28, 29, 30, 31, 32, 33, 34, 35, 36, 37, 38, 39, 40, 41, 42, 43, 44, 45, 46, 47] (by decide +kernel) (by decide +kernel)
set_option maxRecDepth 20000 in
theorem gX6_bestPlayer_X6_best : GoodIn wsX6_bestPlayer (wsV RX6 160 RX6 yX6_best wsX6_best) := goodIn_app (goodIn_of _ (by decide +kernel)) ggX6_bestPlayer_X6_best
theorem dX6_bestPlayer_0 : decode cX6_bestPlayer 0 = .ok (.aload_n 0, 1) := by decide +kernel
theorem dX6_bestPlayer_1 : decode cX6_bestPlayer 1 = .ok (.aload_n 0, 1) := by decide +kernel
theorem dX6_bestPlayer_2 : decode cX6_bestPlayer 2 = .ok (.iload_n 1, 1) := by decide +kernel
theorem dX6_bestPlayer_3 : decode cX6_bestPlayer 3 = .ok (.invokevirtual 70, 3) := by decide +kernel
theorem dX6_bestPlayer_6 : decode cX6_bestPlayer 6 = .ok (.iconst 1, 1) := by decide +kernel
theorem dX6_bestPlayer_7 : decode cX6_bestPlayer 7 = .ok (.iconst 1, 1) := by decide +kernel
theorem dX6_bestPlayer_8 : decode cX6_bestPlayer 8 = .ok (.invokevirtual 107, 3) := by decide +kernel
theorem dX6_bestPlayer_11 : decode cX6_bestPlayer 11 = .ok (.ifCond .eq 11, 3) := by decide +kernel
theorem dX6_bestPlayer_14 : decode cX6_bestPlayer 14 = .ok (.aload_n 0, 1) := by decide +kernel
theorem dX6_bestPlayer_15 : decode cX6_bestPlayer 15 = .ok (.iload_n 1, 1) := by decide +kernel
theorem dX6_bestPlayer_16 : decode cX6_bestPlayer 16 = .ok (.invokevirtual 160, 3) := by decide +kernel
theorem dX6_bestPlayer_19 : decode cX6_bestPlayer 19 = .ok (.goto 4, 3) := by decide +kernel
theorem dX6_bestPlayer_22 : decode cX6_bestPlayer 22 = .ok (.iconst 0, 1) := by decide +kernel
theorem dX6_bestPlayer_23 : decode cX6_bestPlayer 23 = .ok (.ireturn, 1) := by decide +kernel
set_option maxRecDepth 20000 in
theorem ggX6_ghost_X6_best : GoodIn wsX6_ghost wsX6_best := goodIn_r _ [10, 11, 57, 58, 59, 60, 61, 62, 63, 64, 65, 66, 67, 68, 69, 70, 71, 72, 73, 74, 75, 76, 77, 78, 79, 80, 81, 82, 83, 84] (by decide +kernel) (by decide +kernel)
set_option maxRecDepth 20000 in
theorem gX6_ghost_X6_best : GoodIn wsX6_ghost (wsV RX6 160 RX6 yX6_best wsX6_best) := goodIn_app (goodIn_of _ (by decide +kernel)) ggX6_ghost_X6_best
set_option maxRecDepth 20000 in
theorem ggX6_ghost_X6_leads : GoodIn wsX6_ghost wsX6_leads := goodIn_r _ [15, 16, 17, 11, 18, 19, 20, 21, 9, 22, 5, 4, 23, 24, 25, 26, 27, 28, 29, 30, 31, 32, 33, 34, 35, 36, 37, 38, 39, 40, 41, 42, 43, 44, 45, 46, 47, 48, 49, 50, 51, 52, 53, 54, 55, 56, 57, 58, 59, 60, 61, 62, 63, 64, 65, 66, 67, 68, 69, 70, 71, 72, 73, 74, 75, 76, 77, 78, 79, 80, 81, 82, 83, 84] (by decide +kernel) (by decide +kernel)
set_option maxRecDepth 20000 in
theorem gX6_ghost_X6_leads : GoodIn wsX6_ghost (wsV RX6 157 RX6 yX6_leads wsX6_leads) := goodIn_app (goodIn_of _ (by decide +kernel)) ggX6_ghost_X6_leads
theorem dX6_ghost_0 : decode cX6_ghost 0 = .ok (.aload_n 0, 1) := by decide +kernel
theorem dX6_ghost_1 : decode cX6_ghost 1 = .ok (.iconst 0, 1) := by decide +kernel
theorem dX6_ghost_2 : decode cX6_ghost 2 = .ok (.putfield 60, 3) := by decide +kernel
theorem dX6_ghost_5 : decode cX6_ghost 5 = .ok (.aload_n 0, 1) := by decide +kernel
theorem dX6_ghost_6 : decode cX6_ghost 6 = .ok (.getfield 44, 3) := by decide +kernel
theorem dX6_ghost_9 : decode cX6_ghost 9 = .ok (.iconst (-1), 1) := by decide +kernel
theorem dX6_ghost_10 : decode cX6_ghost 10 = .ok (.if_icmp .ne 7, 3) := by decide +kernel
theorem dX6_ghost_13 : decode cX6_ghost 13 = .ok (.iconst (-1), 1) := by decide +kernel
theorem dX6_ghost_14 : decode cX6_ghost 14 = .ok (.goto 11, 3) := by decide +kernel
theorem dX6_ghost_17 : decode cX6_ghost 17 = .ok (.aload_n 0, 1) := by decide +kernel
theorem dX6_ghost_18 : decode cX6_ghost 18 = .ok (.aload_n 0, 1) := by decide +kernel
theorem dX6_ghost_19 : decode cX6_ghost 19 = .ok (.getfield 44, 3) := by decide +kernel
theorem dX6_ghost_22 : decode cX6_ghost 22 = .ok (.invokevirtual 160, 3) := by decide +kernel
theorem dX6_ghost_25 : decode cX6_ghost 25 = .ok (.istore_n 1, 1) := by decide +kernel
theorem dX6_ghost_26 : decode cX6_ghost 26 = .ok (.iload_n 1, 1) := by decide +kernel
theorem dX6_ghost_27 : decode cX6_ghost 27 = .ok (.iconst (-1), 1) := by decide +kernel
theorem dX6_ghost_28 : decode cX6_ghost 28 = .ok (.if_icmp .ne 5, 3) := by decide +kernel
theorem dX6_ghost_31 : decode cX6_ghost 31 = .ok (.iconst (-1), 1) := by decide +kernel
theorem dX6_ghost_32 : decode cX6_ghost 32 = .ok (.ireturn, 1) := by decide +kernel
theorem dX6_ghost_33 : decode cX6_ghost 33 = .ok (.aload_n 0, 1) := by decide +kernel
theorem dX6_ghost_34 : decode cX6_ghost 34 = .ok (.aload_n 0, 1) := by decide +kernel
theorem dX6_ghost_35 : decode cX6_ghost 35 = .ok (.getfield 44, 3) := by decide +kernel
theorem dX6_ghost_38 : decode cX6_ghost 38 = .ok (.iload_n 1, 1) := by decide +kernel
theorem dX6_ghost_39 : decode cX6_ghost 39 = .ok (.aload_n 0, 1) := by decide +kernel
theorem dX6_ghost_40 : decode cX6_ghost 40 = .ok (.getfield 142, 3) := by decide +kernel
theorem dX6_ghost_43 : decode cX6_ghost 43 = .ok (.invokevirtual 157, 3) := by decide +kernel
theorem dX6_ghost_46 : decode cX6_ghost 46 = .ok (.bipush 100, 2) := by decide +kernel
theorem dX6_ghost_48 : decode cX6_ghost 48 = .ok (.aload_n 0, 1) := by decide +kernel
theorem dX6_ghost_49 : decode cX6_ghost 49 = .ok (.getfield 84, 3) := by decide +kernel
theorem dX6_ghost_52 : decode cX6_ghost 52 = .ok (.imul, 1) := by decide +kernel
theorem dX6_ghost_53 : decode cX6_ghost 53 = .ok (.aload_n 0, 1) := by decide +kernel
theorem dX6_ghost_54 : decode cX6_ghost 54 = .ok (.getfield 81, 3) := by decide +kernel
theorem dX6_ghost_57 : decode cX6_ghost 57 = .ok (.iadd, 1) := by decide +kernel
theorem dX6_ghost_58 : decode cX6_ghost 58 = .ok (.ireturn, 1) := by decide +kernel
set_option maxRecDepth 20000 in
theorem ggX6_replay_X6_record : GoodIn wsX6_replay wsX6_record := goodIn_r _ [5, 6, 7, 8, 9, 4, 10, 11, 12, 13, 14, 15, 16, 17, 18, 19, 20, 21, 22, 23, 24, 25, 26, 27, 28, 29, 30, 31, 32, 33, 34, 35, 36, 37, 38, 39, 40, 41, 42, 43, 44, 45, 46, 47, 48, 49, 50, 51, 52, 53, 54] (by decide +kernel) (by decide +kernel)
set_option maxRecDepth 20000 in
theorem gX6_replay_X6_record : GoodIn wsX6_replay (wsV RX6 164 RX6 yX6_record wsX6_record) := goodIn_app (goodIn_of _ (by decide +kernel)) ggX6_replay_X6_record
theorem dX6_replay_0 : decode cX6_replay 0 = .ok (.aload_n 0, 1) := by decide +kernel
theorem dX6_replay_1 : decode cX6_replay 1 = .ok (.iload_n 1, 1) := by decide +kernel
theorem dX6_replay_2 : decode cX6_replay 2 = .ok (.iload_n 2, 1) := by decide +kernel
theorem dX6_replay_3 : decode cX6_replay 3 = .ok (.invokevirtual 164, 3) := by decide +kernel
theorem dX6_replay_6 : decode cX6_replay 6 = .ok (.ireturn, 1) := by decide +kernel
set_option maxRecDepth 20000 in
theorem ggL_addLevel_X5_addLevel : GoodIn wsL_addLevel wsX5_addLevel := goodIn_ca (goodIn_ca (goodIn_r _ [7, 8, 9, 10, 11, 12, 13, 14, 15, 16, 17, 18, 19, 20, 21, 22, 23, 24, 25, 26, 27, 28, 29, 30, 31, 32, 33, 34, 35, 36, 37, 38, 39, 40, 41, 42, 43, 44, 45, 46, 47, 48, 49, 50, 51, 52, 53, 54, 55, 56, 57, 58, 59, 60, 61, 62, 63, 64, 65, 66, 67, 68, 69] (by decide +kernel) (by decide +kernel)) (goodIn_sub (fun _ h => List.mem_cons_of_mem _ (List.mem_append_left _ (List.mem_append_right _ h))) (by decide +kernel))) (goodIn_sub (fun _ h => List.mem_cons_of_mem _ (List.mem_append_right _ h)) (by decide +kernel))
set_option maxRecDepth 20000 in
theorem gL_addLevel_X5_addLevel : GoodIn wsL_addLevel (wsV RL 7 RX5 yX5_addLevel wsX5_addLevel) := goodIn_app (goodIn_of _ (by decide +kernel)) ggL_addLevel_X5_addLevel
abbrev vwCl : List vw_C := [(RX0, TX0, 3), (RX1, TX1, 10), (RX2, TX2, 5), (RX3, TX3, 7), (RX4, TX4, 3), (RX5, TX5, 5), (RX6, TX6, 28)]
