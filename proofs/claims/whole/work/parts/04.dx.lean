theorem dX0_init_0 : decode cX0_init 0 = .ok (.aload_n 0, 1) := by decide +kernel
theorem dX0_init_1 : decode cX0_init 1 = .ok (.invokespecial 3, 3) := by decide +kernel
theorem dX0_init_4 : decode cX0_init 4 = .ok (.aload_n 0, 1) := by decide +kernel
theorem dX0_init_5 : decode cX0_init 5 = .ok (.iload_n 1, 1) := by decide +kernel
theorem dX0_init_6 : decode cX0_init 6 = .ok (.newarray .double, 2) := by decide +kernel
theorem dX0_init_8 : decode cX0_init 8 = .ok (.putfield 9, 3) := by decide +kernel
theorem dX0_init_11 : decode cX0_init 11 = .ok (.aload_n 0, 1) := by decide +kernel
theorem dX0_init_12 : decode cX0_init 12 = .ok (.iload_n 1, 1) := by decide +kernel
theorem dX0_init_13 : decode cX0_init 13 = .ok (.newarray .double, 2) := by decide +kernel
theorem dX0_init_15 : decode cX0_init 15 = .ok (.putfield 15, 3) := by decide +kernel
theorem dX0_init_18 : decode cX0_init 18 = .ok (.return_, 1) := by decide +kernel
theorem dX0_take_0 : decode cX0_take 0 = .ok (.iconst 0, 1) := by decide +kernel
theorem dX0_take_1 : decode cX0_take 1 = .ok (.istore_n 2, 1) := by decide +kernel
theorem dX0_take_2 : decode cX0_take 2 = .ok (.iload_n 2, 1) := by decide +kernel
theorem dX0_take_3 : decode cX0_take 3 = .ok (.aload_n 0, 1) := by decide +kernel
theorem dX0_take_4 : decode cX0_take 4 = .ok (.getfield 9, 3) := by decide +kernel
theorem dX0_take_7 : decode cX0_take 7 = .ok (.arraylength, 1) := by decide +kernel
theorem dX0_take_8 : decode cX0_take 8 = .ok (.if_icmp .ge 33, 3) := by decide +kernel
theorem dX0_take_11 : decode cX0_take 11 = .ok (.aload_n 0, 1) := by decide +kernel
theorem dX0_take_12 : decode cX0_take 12 = .ok (.getfield 9, 3) := by decide +kernel
theorem dX0_take_15 : decode cX0_take 15 = .ok (.iload_n 2, 1) := by decide +kernel
theorem dX0_take_16 : decode cX0_take 16 = .ok (.aload_n 1, 1) := by decide +kernel
theorem dX0_take_17 : decode cX0_take 17 = .ok (.getfield 18, 3) := by decide +kernel
theorem dX0_take_20 : decode cX0_take 20 = .ok (.iload_n 2, 1) := by decide +kernel
theorem dX0_take_21 : decode cX0_take 21 = .ok (.daload, 1) := by decide +kernel
theorem dX0_take_22 : decode cX0_take 22 = .ok (.dastore, 1) := by decide +kernel
theorem dX0_take_23 : decode cX0_take 23 = .ok (.aload_n 0, 1) := by decide +kernel
theorem dX0_take_24 : decode cX0_take 24 = .ok (.getfield 15, 3) := by decide +kernel
theorem dX0_take_27 : decode cX0_take 27 = .ok (.iload_n 2, 1) := by decide +kernel
theorem dX0_take_28 : decode cX0_take 28 = .ok (.aload_n 1, 1) := by decide +kernel
theorem dX0_take_29 : decode cX0_take 29 = .ok (.getfield 21, 3) := by decide +kernel
theorem dX0_take_32 : decode cX0_take 32 = .ok (.iload_n 2, 1) := by decide +kernel
theorem dX0_take_33 : decode cX0_take 33 = .ok (.daload, 1) := by decide +kernel
theorem dX0_take_34 : decode cX0_take 34 = .ok (.dastore, 1) := by decide +kernel
theorem dX0_take_35 : decode cX0_take 35 = .ok (.iinc 2 1, 3) := by decide +kernel
theorem dX0_take_38 : decode cX0_take 38 = .ok (.goto (-36), 3) := by decide +kernel
theorem dX0_take_41 : decode cX0_take 41 = .ok (.aload_n 0, 1) := by decide +kernel
theorem dX0_take_42 : decode cX0_take 42 = .ok (.iconst 1, 1) := by decide +kernel
theorem dX0_take_43 : decode cX0_take 43 = .ok (.putfield 22, 3) := by decide +kernel
theorem dX0_take_46 : decode cX0_take 46 = .ok (.return_, 1) := by decide +kernel
set_option maxRecDepth 20000 in
theorem ggX0_distance_X0_turnedX : GoodIn wsX0_distance wsX0_turnedX := goodIn_r _ [6, 1, 7, 12, 13, 14] (by decide +kernel) (by decide +kernel)
set_option maxRecDepth 20000 in
theorem gX0_distance_X0_turnedX : GoodIn wsX0_distance (wsV RX0 26 RX0 yX0_turnedX wsX0_turnedX) := goodIn_app (goodIn_of _ (by decide +kernel)) ggX0_distance_X0_turnedX
set_option maxRecDepth 20000 in
theorem ggX0_distance_X0_turnedY : GoodIn wsX0_distance wsX0_turnedY := goodIn_r _ [11, 7, 1, 12, 13, 14] (by decide +kernel) (by decide +kernel)
set_option maxRecDepth 20000 in
theorem gX0_distance_X0_turnedY : GoodIn wsX0_distance (wsV RX0 30 RX0 yX0_turnedY wsX0_turnedY) := goodIn_app (goodIn_of _ (by decide +kernel)) ggX0_distance_X0_turnedY
theorem dX0_distance_0 : decode cX0_distance 0 = .ok (.dconst 0, 1) := by decide +kernel
theorem dX0_distance_1 : decode cX0_distance 1 = .ok (.dstore_n 3, 1) := by decide +kernel
theorem dX0_distance_2 : decode cX0_distance 2 = .ok (.iconst 0, 1) := by decide +kernel
theorem dX0_distance_3 : decode cX0_distance 3 = .ok (.istore 5, 2) := by decide +kernel
theorem dX0_distance_5 : decode cX0_distance 5 = .ok (.iload 5, 2) := by decide +kernel
theorem dX0_distance_7 : decode cX0_distance 7 = .ok (.aload_n 0, 1) := by decide +kernel
theorem dX0_distance_8 : decode cX0_distance 8 = .ok (.getfield 9, 3) := by decide +kernel
theorem dX0_distance_11 : decode cX0_distance 11 = .ok (.arraylength, 1) := by decide +kernel
theorem dX0_distance_12 : decode cX0_distance 12 = .ok (.if_icmp .ge 57, 3) := by decide +kernel
theorem dX0_distance_15 : decode cX0_distance 15 = .ok (.aload_n 1, 1) := by decide +kernel
theorem dX0_distance_16 : decode cX0_distance 16 = .ok (.getfield 18, 3) := by decide +kernel
theorem dX0_distance_19 : decode cX0_distance 19 = .ok (.iload 5, 2) := by decide +kernel
theorem dX0_distance_21 : decode cX0_distance 21 = .ok (.daload, 1) := by decide +kernel
theorem dX0_distance_22 : decode cX0_distance 22 = .ok (.aload_n 0, 1) := by decide +kernel
theorem dX0_distance_23 : decode cX0_distance 23 = .ok (.iload 5, 2) := by decide +kernel
theorem dX0_distance_25 : decode cX0_distance 25 = .ok (.iload_n 2, 1) := by decide +kernel
theorem dX0_distance_26 : decode cX0_distance 26 = .ok (.invokevirtual 26, 3) := by decide +kernel
theorem dX0_distance_29 : decode cX0_distance 29 = .ok (.dsub, 1) := by decide +kernel
theorem dX0_distance_30 : decode cX0_distance 30 = .ok (.dstore 6, 2) := by decide +kernel
theorem dX0_distance_32 : decode cX0_distance 32 = .ok (.aload_n 1, 1) := by decide +kernel
theorem dX0_distance_33 : decode cX0_distance 33 = .ok (.getfield 21, 3) := by decide +kernel
theorem dX0_distance_36 : decode cX0_distance 36 = .ok (.iload 5, 2) := by decide +kernel
theorem dX0_distance_38 : decode cX0_distance 38 = .ok (.daload, 1) := by decide +kernel
theorem dX0_distance_39 : decode cX0_distance 39 = .ok (.aload_n 0, 1) := by decide +kernel
theorem dX0_distance_40 : decode cX0_distance 40 = .ok (.iload 5, 2) := by decide +kernel
theorem dX0_distance_42 : decode cX0_distance 42 = .ok (.iload_n 2, 1) := by decide +kernel
theorem dX0_distance_43 : decode cX0_distance 43 = .ok (.invokevirtual 30, 3) := by decide +kernel
theorem dX0_distance_46 : decode cX0_distance 46 = .ok (.dsub, 1) := by decide +kernel
theorem dX0_distance_47 : decode cX0_distance 47 = .ok (.dstore 8, 2) := by decide +kernel
theorem dX0_distance_49 : decode cX0_distance 49 = .ok (.dload_n 3, 1) := by decide +kernel
theorem dX0_distance_50 : decode cX0_distance 50 = .ok (.dload 6, 2) := by decide +kernel
theorem dX0_distance_52 : decode cX0_distance 52 = .ok (.dload 6, 2) := by decide +kernel
theorem dX0_distance_54 : decode cX0_distance 54 = .ok (.dmul, 1) := by decide +kernel
theorem dX0_distance_55 : decode cX0_distance 55 = .ok (.dload 8, 2) := by decide +kernel
theorem dX0_distance_57 : decode cX0_distance 57 = .ok (.dload 8, 2) := by decide +kernel
theorem dX0_distance_59 : decode cX0_distance 59 = .ok (.dmul, 1) := by decide +kernel
theorem dX0_distance_60 : decode cX0_distance 60 = .ok (.dadd, 1) := by decide +kernel
theorem dX0_distance_61 : decode cX0_distance 61 = .ok (.dadd, 1) := by decide +kernel
theorem dX0_distance_62 : decode cX0_distance 62 = .ok (.dstore_n 3, 1) := by decide +kernel
theorem dX0_distance_63 : decode cX0_distance 63 = .ok (.iinc 5 1, 3) := by decide +kernel
theorem dX0_distance_66 : decode cX0_distance 66 = .ok (.goto (-61), 3) := by decide +kernel
theorem dX0_distance_69 : decode cX0_distance 69 = .ok (.dload_n 3, 1) := by decide +kernel
theorem dX0_distance_70 : decode cX0_distance 70 = .ok (.dreturn, 1) := by decide +kernel
set_option maxRecDepth 20000 in
theorem ggX0_nearestTurn_X0_distance : GoodIn wsX0_nearestTurn wsX0_distance := goodIn_r _ [5, 6, 7, 8, 9, 4, 10, 11, 12, 13, 14, 15, 16, 17, 18, 19, 20, 21, 22, 23, 24, 25] (by decide +kernel) (by decide +kernel)
set_option maxRecDepth 20000 in
theorem gX0_nearestTurn_X0_distance : GoodIn wsX0_nearestTurn (wsV RX0 33 RX0 yX0_distance wsX0_distance) := goodIn_app (goodIn_of _ (by decide +kernel)) ggX0_nearestTurn_X0_distance
theorem dX0_nearestTurn_0 : decode cX0_nearestTurn 0 = .ok (.iconst 0, 1) := by decide +kernel
theorem dX0_nearestTurn_1 : decode cX0_nearestTurn 1 = .ok (.istore_n 2, 1) := by decide +kernel
theorem dX0_nearestTurn_2 : decode cX0_nearestTurn 2 = .ok (.aload_n 0, 1) := by decide +kernel
theorem dX0_nearestTurn_3 : decode cX0_nearestTurn 3 = .ok (.aload_n 1, 1) := by decide +kernel
theorem dX0_nearestTurn_4 : decode cX0_nearestTurn 4 = .ok (.iconst 0, 1) := by decide +kernel
theorem dX0_nearestTurn_5 : decode cX0_nearestTurn 5 = .ok (.invokevirtual 33, 3) := by decide +kernel
theorem dX0_nearestTurn_8 : decode cX0_nearestTurn 8 = .ok (.dstore_n 3, 1) := by decide +kernel
theorem dX0_nearestTurn_9 : decode cX0_nearestTurn 9 = .ok (.iconst 1, 1) := by decide +kernel
theorem dX0_nearestTurn_10 : decode cX0_nearestTurn 10 = .ok (.istore 5, 2) := by decide +kernel
theorem dX0_nearestTurn_12 : decode cX0_nearestTurn 12 = .ok (.iload 5, 2) := by decide +kernel
theorem dX0_nearestTurn_14 : decode cX0_nearestTurn 14 = .ok (.iconst 4, 1) := by decide +kernel
theorem dX0_nearestTurn_15 : decode cX0_nearestTurn 15 = .ok (.if_icmp .ge 31, 3) := by decide +kernel
theorem dX0_nearestTurn_18 : decode cX0_nearestTurn 18 = .ok (.aload_n 0, 1) := by decide +kernel
theorem dX0_nearestTurn_19 : decode cX0_nearestTurn 19 = .ok (.aload_n 1, 1) := by decide +kernel
theorem dX0_nearestTurn_20 : decode cX0_nearestTurn 20 = .ok (.iload 5, 2) := by decide +kernel
theorem dX0_nearestTurn_22 : decode cX0_nearestTurn 22 = .ok (.invokevirtual 33, 3) := by decide +kernel
theorem dX0_nearestTurn_25 : decode cX0_nearestTurn 25 = .ok (.dstore 6, 2) := by decide +kernel
theorem dX0_nearestTurn_27 : decode cX0_nearestTurn 27 = .ok (.dload 6, 2) := by decide +kernel
theorem dX0_nearestTurn_29 : decode cX0_nearestTurn 29 = .ok (.dload_n 3, 1) := by decide +kernel
theorem dX0_nearestTurn_30 : decode cX0_nearestTurn 30 = .ok (.dcmp .g, 1) := by decide +kernel
theorem dX0_nearestTurn_31 : decode cX0_nearestTurn 31 = .ok (.ifCond .ge 9, 3) := by decide +kernel
theorem dX0_nearestTurn_34 : decode cX0_nearestTurn 34 = .ok (.dload 6, 2) := by decide +kernel
theorem dX0_nearestTurn_36 : decode cX0_nearestTurn 36 = .ok (.dstore_n 3, 1) := by decide +kernel
theorem dX0_nearestTurn_37 : decode cX0_nearestTurn 37 = .ok (.iload 5, 2) := by decide +kernel
theorem dX0_nearestTurn_39 : decode cX0_nearestTurn 39 = .ok (.istore_n 2, 1) := by decide +kernel
theorem dX0_nearestTurn_40 : decode cX0_nearestTurn 40 = .ok (.iinc 5 1, 3) := by decide +kernel
theorem dX0_nearestTurn_43 : decode cX0_nearestTurn 43 = .ok (.goto (-31), 3) := by decide +kernel
theorem dX0_nearestTurn_46 : decode cX0_nearestTurn 46 = .ok (.iload_n 2, 1) := by decide +kernel
theorem dX0_nearestTurn_47 : decode cX0_nearestTurn 47 = .ok (.ireturn, 1) := by decide +kernel
theorem dX0_turnedX_0 : decode cX0_turnedX 0 = .ok (.iload_n 2, 1) := by decide +kernel
theorem dX0_turnedX_1 : decode cX0_turnedX 1 = .ok (.tableswitch 50 0 2 #[27, 34, 42], 27) := by decide +kernel
theorem dX0_turnedX_28 : decode cX0_turnedX 28 = .ok (.aload_n 0, 1) := by decide +kernel
theorem dX0_turnedX_29 : decode cX0_turnedX 29 = .ok (.getfield 9, 3) := by decide +kernel
theorem dX0_turnedX_32 : decode cX0_turnedX 32 = .ok (.iload_n 1, 1) := by decide +kernel
theorem dX0_turnedX_33 : decode cX0_turnedX 33 = .ok (.daload, 1) := by decide +kernel
theorem dX0_turnedX_34 : decode cX0_turnedX 34 = .ok (.dreturn, 1) := by decide +kernel
theorem dX0_turnedX_35 : decode cX0_turnedX 35 = .ok (.aload_n 0, 1) := by decide +kernel
theorem dX0_turnedX_36 : decode cX0_turnedX 36 = .ok (.getfield 15, 3) := by decide +kernel
theorem dX0_turnedX_39 : decode cX0_turnedX 39 = .ok (.iload_n 1, 1) := by decide +kernel
theorem dX0_turnedX_40 : decode cX0_turnedX 40 = .ok (.daload, 1) := by decide +kernel
theorem dX0_turnedX_41 : decode cX0_turnedX 41 = .ok (.dneg, 1) := by decide +kernel
theorem dX0_turnedX_42 : decode cX0_turnedX 42 = .ok (.dreturn, 1) := by decide +kernel
theorem dX0_turnedX_43 : decode cX0_turnedX 43 = .ok (.aload_n 0, 1) := by decide +kernel
theorem dX0_turnedX_44 : decode cX0_turnedX 44 = .ok (.getfield 9, 3) := by decide +kernel
theorem dX0_turnedX_47 : decode cX0_turnedX 47 = .ok (.iload_n 1, 1) := by decide +kernel
theorem dX0_turnedX_48 : decode cX0_turnedX 48 = .ok (.daload, 1) := by decide +kernel
theorem dX0_turnedX_49 : decode cX0_turnedX 49 = .ok (.dneg, 1) := by decide +kernel
theorem dX0_turnedX_50 : decode cX0_turnedX 50 = .ok (.dreturn, 1) := by decide +kernel
theorem dX0_turnedX_51 : decode cX0_turnedX 51 = .ok (.aload_n 0, 1) := by decide +kernel
theorem dX0_turnedX_52 : decode cX0_turnedX 52 = .ok (.getfield 15, 3) := by decide +kernel
theorem dX0_turnedX_55 : decode cX0_turnedX 55 = .ok (.iload_n 1, 1) := by decide +kernel
theorem dX0_turnedX_56 : decode cX0_turnedX 56 = .ok (.daload, 1) := by decide +kernel
theorem dX0_turnedX_57 : decode cX0_turnedX 57 = .ok (.dreturn, 1) := by decide +kernel
theorem dX0_turnedY_0 : decode cX0_turnedY 0 = .ok (.iload_n 2, 1) := by decide +kernel
theorem dX0_turnedY_1 : decode cX0_turnedY 1 = .ok (.tableswitch 49 0 2 #[27, 34, 41], 27) := by decide +kernel
theorem dX0_turnedY_28 : decode cX0_turnedY 28 = .ok (.aload_n 0, 1) := by decide +kernel
theorem dX0_turnedY_29 : decode cX0_turnedY 29 = .ok (.getfield 15, 3) := by decide +kernel
theorem dX0_turnedY_32 : decode cX0_turnedY 32 = .ok (.iload_n 1, 1) := by decide +kernel
theorem dX0_turnedY_33 : decode cX0_turnedY 33 = .ok (.daload, 1) := by decide +kernel
theorem dX0_turnedY_34 : decode cX0_turnedY 34 = .ok (.dreturn, 1) := by decide +kernel
theorem dX0_turnedY_35 : decode cX0_turnedY 35 = .ok (.aload_n 0, 1) := by decide +kernel
theorem dX0_turnedY_36 : decode cX0_turnedY 36 = .ok (.getfield 9, 3) := by decide +kernel
theorem dX0_turnedY_39 : decode cX0_turnedY 39 = .ok (.iload_n 1, 1) := by decide +kernel
theorem dX0_turnedY_40 : decode cX0_turnedY 40 = .ok (.daload, 1) := by decide +kernel
theorem dX0_turnedY_41 : decode cX0_turnedY 41 = .ok (.dreturn, 1) := by decide +kernel
theorem dX0_turnedY_42 : decode cX0_turnedY 42 = .ok (.aload_n 0, 1) := by decide +kernel
theorem dX0_turnedY_43 : decode cX0_turnedY 43 = .ok (.getfield 15, 3) := by decide +kernel
theorem dX0_turnedY_46 : decode cX0_turnedY 46 = .ok (.iload_n 1, 1) := by decide +kernel
theorem dX0_turnedY_47 : decode cX0_turnedY 47 = .ok (.daload, 1) := by decide +kernel
theorem dX0_turnedY_48 : decode cX0_turnedY 48 = .ok (.dneg, 1) := by decide +kernel
theorem dX0_turnedY_49 : decode cX0_turnedY 49 = .ok (.dreturn, 1) := by decide +kernel
theorem dX0_turnedY_50 : decode cX0_turnedY 50 = .ok (.aload_n 0, 1) := by decide +kernel
theorem dX0_turnedY_51 : decode cX0_turnedY 51 = .ok (.getfield 9, 3) := by decide +kernel
theorem dX0_turnedY_54 : decode cX0_turnedY 54 = .ok (.iload_n 1, 1) := by decide +kernel
theorem dX0_turnedY_55 : decode cX0_turnedY 55 = .ok (.daload, 1) := by decide +kernel
theorem dX0_turnedY_56 : decode cX0_turnedY 56 = .ok (.dneg, 1) := by decide +kernel
theorem dX0_turnedY_57 : decode cX0_turnedY 57 = .ok (.dreturn, 1) := by decide +kernel
theorem dX1_init_0 : decode cX1_init 0 = .ok (.aload_n 0, 1) := by decide +kernel
theorem dX1_init_1 : decode cX1_init 1 = .ok (.invokespecial 3, 3) := by decide +kernel
theorem dX1_init_4 : decode cX1_init 4 = .ok (.aload_n 0, 1) := by decide +kernel
theorem dX1_init_5 : decode cX1_init 5 = .ok (.bipush 6, 2) := by decide +kernel
theorem dX1_init_7 : decode cX1_init 7 = .ok (.newarray .int, 2) := by decide +kernel
theorem dX1_init_9 : decode cX1_init 9 = .ok (.putfield 9, 3) := by decide +kernel
theorem dX1_init_12 : decode cX1_init 12 = .ok (.aload_n 0, 1) := by decide +kernel
theorem dX1_init_13 : decode cX1_init 13 = .ok (.bipush 6, 2) := by decide +kernel
theorem dX1_init_15 : decode cX1_init 15 = .ok (.newarray .double, 2) := by decide +kernel
theorem dX1_init_17 : decode cX1_init 17 = .ok (.putfield 15, 3) := by decide +kernel
theorem dX1_init_20 : decode cX1_init 20 = .ok (.aload_n 0, 1) := by decide +kernel
theorem dX1_init_21 : decode cX1_init 21 = .ok (.bipush 6, 2) := by decide +kernel
theorem dX1_init_23 : decode cX1_init 23 = .ok (.newarray .int, 2) := by decide +kernel
theorem dX1_init_25 : decode cX1_init 25 = .ok (.putfield 19, 3) := by decide +kernel
theorem dX1_init_28 : decode cX1_init 28 = .ok (.return_, 1) := by decide +kernel
theorem dX1_isFull_0 : decode cX1_isFull 0 = .ok (.aload_n 0, 1) := by decide +kernel
theorem dX1_isFull_1 : decode cX1_isFull 1 = .ok (.getfield 22, 3) := by decide +kernel
theorem dX1_isFull_4 : decode cX1_isFull 4 = .ok (.bipush 6, 2) := by decide +kernel
theorem dX1_isFull_6 : decode cX1_isFull 6 = .ok (.if_icmp .lt 7, 3) := by decide +kernel
theorem dX1_isFull_9 : decode cX1_isFull 9 = .ok (.iconst 1, 1) := by decide +kernel
theorem dX1_isFull_10 : decode cX1_isFull 10 = .ok (.goto 4, 3) := by decide +kernel
theorem dX1_isFull_13 : decode cX1_isFull 13 = .ok (.iconst 0, 1) := by decide +kernel
theorem dX1_isFull_14 : decode cX1_isFull 14 = .ok (.ireturn, 1) := by decide +kernel
theorem dX1_addOne_0 : decode cX1_addOne 0 = .ok (.aload_n 0, 1) := by decide +kernel
theorem dX1_addOne_1 : decode cX1_addOne 1 = .ok (.getfield 9, 3) := by decide +kernel
theorem dX1_addOne_4 : decode cX1_addOne 4 = .ok (.aload_n 0, 1) := by decide +kernel
theorem dX1_addOne_5 : decode cX1_addOne 5 = .ok (.getfield 22, 3) := by decide +kernel
theorem dX1_addOne_8 : decode cX1_addOne 8 = .ok (.iload_n 1, 1) := by decide +kernel
theorem dX1_addOne_9 : decode cX1_addOne 9 = .ok (.iastore, 1) := by decide +kernel
theorem dX1_addOne_10 : decode cX1_addOne 10 = .ok (.aload_n 0, 1) := by decide +kernel
theorem dX1_addOne_11 : decode cX1_addOne 11 = .ok (.getfield 15, 3) := by decide +kernel
theorem dX1_addOne_14 : decode cX1_addOne 14 = .ok (.aload_n 0, 1) := by decide +kernel
theorem dX1_addOne_15 : decode cX1_addOne 15 = .ok (.getfield 22, 3) := by decide +kernel
theorem dX1_addOne_18 : decode cX1_addOne 18 = .ok (.dload_n 2, 1) := by decide +kernel
theorem dX1_addOne_19 : decode cX1_addOne 19 = .ok (.dastore, 1) := by decide +kernel
theorem dX1_addOne_20 : decode cX1_addOne 20 = .ok (.aload_n 0, 1) := by decide +kernel
theorem dX1_addOne_21 : decode cX1_addOne 21 = .ok (.getfield 19, 3) := by decide +kernel
theorem dX1_addOne_24 : decode cX1_addOne 24 = .ok (.aload_n 0, 1) := by decide +kernel
theorem dX1_addOne_25 : decode cX1_addOne 25 = .ok (.getfield 22, 3) := by decide +kernel
theorem dX1_addOne_28 : decode cX1_addOne 28 = .ok (.iload 4, 2) := by decide +kernel
theorem dX1_addOne_30 : decode cX1_addOne 30 = .ok (.iastore, 1) := by decide +kernel
theorem dX1_addOne_31 : decode cX1_addOne 31 = .ok (.aload_n 0, 1) := by decide +kernel
theorem dX1_addOne_32 : decode cX1_addOne 32 = .ok (.dup, 1) := by decide +kernel
theorem dX1_addOne_33 : decode cX1_addOne 33 = .ok (.getfield 22, 3) := by decide +kernel
theorem dX1_addOne_36 : decode cX1_addOne 36 = .ok (.iconst 1, 1) := by decide +kernel
theorem dX1_addOne_37 : decode cX1_addOne 37 = .ok (.iadd, 1) := by decide +kernel
theorem dX1_addOne_38 : decode cX1_addOne 38 = .ok (.putfield 22, 3) := by decide +kernel
theorem dX1_addOne_41 : decode cX1_addOne 41 = .ok (.aload_n 0, 1) := by decide +kernel
theorem dX1_addOne_42 : decode cX1_addOne 42 = .ok (.getfield 22, 3) := by decide +kernel
theorem dX1_addOne_45 : decode cX1_addOne 45 = .ok (.ireturn, 1) := by decide +kernel
set_option maxRecDepth 20000 in
theorem ggX1_classOf_X1_holds : GoodIn wsX1_classOf wsX1_holds := goodIn_r _ [8, 9, 10, 11, 12, 13, 14, 15, 16, 17, 18, 19, 20, 21, 22, 23, 24, 25, 26, 27, 28, 29, 30, 31, 32, 33, 34, 35, 36, 37, 38, 43, 44, 45, 46, 47, 48, 49] (by decide +kernel) (by decide +kernel)
set_option maxRecDepth 20000 in
theorem gX1_classOf_X1_holds : GoodIn wsX1_classOf (va_wsS RX1 26 yX1_holds wsX1_holds) := goodIn_app (goodIn_of _ (by decide +kernel)) ggX1_classOf_X1_holds
theorem dX1_classOf_0 : decode cX1_classOf 0 = .ok (.iconst 0, 1) := by decide +kernel
theorem dX1_classOf_1 : decode cX1_classOf 1 = .ok (.istore_n 2, 1) := by decide +kernel
theorem dX1_classOf_2 : decode cX1_classOf 2 = .ok (.iload_n 2, 1) := by decide +kernel
theorem dX1_classOf_3 : decode cX1_classOf 3 = .ok (.aload_n 0, 1) := by decide +kernel
theorem dX1_classOf_4 : decode cX1_classOf 4 = .ok (.getfield 22, 3) := by decide +kernel
theorem dX1_classOf_7 : decode cX1_classOf 7 = .ok (.if_icmp .ge 35, 3) := by decide +kernel
theorem dX1_classOf_10 : decode cX1_classOf 10 = .ok (.aload_n 1, 1) := by decide +kernel
theorem dX1_classOf_11 : decode cX1_classOf 11 = .ok (.aload_n 0, 1) := by decide +kernel
theorem dX1_classOf_12 : decode cX1_classOf 12 = .ok (.getfield 9, 3) := by decide +kernel
theorem dX1_classOf_15 : decode cX1_classOf 15 = .ok (.iload_n 2, 1) := by decide +kernel
theorem dX1_classOf_16 : decode cX1_classOf 16 = .ok (.iaload, 1) := by decide +kernel
theorem dX1_classOf_17 : decode cX1_classOf 17 = .ok (.aload_n 0, 1) := by decide +kernel
theorem dX1_classOf_18 : decode cX1_classOf 18 = .ok (.getfield 15, 3) := by decide +kernel
theorem dX1_classOf_21 : decode cX1_classOf 21 = .ok (.iload_n 2, 1) := by decide +kernel
theorem dX1_classOf_22 : decode cX1_classOf 22 = .ok (.daload, 1) := by decide +kernel
theorem dX1_classOf_23 : decode cX1_classOf 23 = .ok (.invokestatic 26, 3) := by decide +kernel
theorem dX1_classOf_26 : decode cX1_classOf 26 = .ok (.ifCond .eq 10, 3) := by decide +kernel
theorem dX1_classOf_29 : decode cX1_classOf 29 = .ok (.aload_n 0, 1) := by decide +kernel
theorem dX1_classOf_30 : decode cX1_classOf 30 = .ok (.getfield 19, 3) := by decide +kernel
theorem dX1_classOf_33 : decode cX1_classOf 33 = .ok (.iload_n 2, 1) := by decide +kernel
theorem dX1_classOf_34 : decode cX1_classOf 34 = .ok (.iaload, 1) := by decide +kernel
theorem dX1_classOf_35 : decode cX1_classOf 35 = .ok (.ireturn, 1) := by decide +kernel
theorem dX1_classOf_36 : decode cX1_classOf 36 = .ok (.iinc 2 1, 3) := by decide +kernel
theorem dX1_classOf_39 : decode cX1_classOf 39 = .ok (.goto (-37), 3) := by decide +kernel
theorem dX1_classOf_42 : decode cX1_classOf 42 = .ok (.iconst (-1), 1) := by decide +kernel
theorem dX1_classOf_43 : decode cX1_classOf 43 = .ok (.ireturn, 1) := by decide +kernel
set_option maxRecDepth 20000 in
theorem ggX1_holds_X3_greatestBend : GoodIn wsX1_holds wsX3_greatestBend := goodIn_r _ [5, 6, 7, 8, 9, 10, 11, 4, 12, 31, 32, 33, 34, 35, 36, 37] (by decide +kernel) (by decide +kernel)
set_option maxRecDepth 20000 in
theorem gX1_holds_X3_greatestBend : GoodIn wsX1_holds (wsV RX1 30 RX3 yX3_greatestBend wsX3_greatestBend) := goodIn_app (goodIn_of _ (by decide +kernel)) ggX1_holds_X3_greatestBend
set_option maxRecDepth 20000 in
theorem ggX1_holds_X3_thinning : GoodIn wsX1_holds wsX3_thinning := goodIn_r _ [16, 6, 17, 31, 32, 33, 34, 35, 36, 37] (by decide +kernel) (by decide +kernel)
set_option maxRecDepth 20000 in
theorem gX1_holds_X3_thinning : GoodIn wsX1_holds (wsV RX1 36 RX3 yX3_thinning wsX3_thinning) := goodIn_app (goodIn_of _ (by decide +kernel)) ggX1_holds_X3_thinning
set_option maxRecDepth 20000 in
theorem ggX1_holds_X3_lastRadius : GoodIn wsX1_holds wsX3_lastRadius := goodIn_r _ [21, 17, 6, 31, 32, 33, 34, 35, 36, 37] (by decide +kernel) (by decide +kernel)
set_option maxRecDepth 20000 in
theorem gX1_holds_X3_lastRadius : GoodIn wsX1_holds (wsV RX1 39 RX3 yX3_lastRadius wsX3_lastRadius) := goodIn_app (goodIn_of _ (by decide +kernel)) ggX1_holds_X3_lastRadius
set_option maxRecDepth 20000 in
theorem ggX1_holds_X3_sumOfAreas : GoodIn wsX1_holds wsX3_sumOfAreas := goodIn_r _ [25, 6, 26, 27, 28, 4, 29, 30, 17, 31, 32, 33, 34, 35, 36, 37] (by decide +kernel) (by decide +kernel)
set_option maxRecDepth 20000 in
theorem gX1_holds_X3_sumOfAreas : GoodIn wsX1_holds (wsV RX1 42 RX3 yX3_sumOfAreas wsX3_sumOfAreas) := goodIn_app (goodIn_of _ (by decide +kernel)) ggX1_holds_X3_sumOfAreas
theorem dX1_holds_0 : decode cX1_holds 0 = .ok (.iload_n 1, 1) := by decide +kernel
theorem dX1_holds_1 : decode cX1_holds 1 = .ok (.tableswitch 91 0 3 #[31, 46, 61, 76], 31) := by decide +kernel
theorem dX1_holds_32 : decode cX1_holds 32 = .ok (.aload_n 0, 1) := by decide +kernel
theorem dX1_holds_33 : decode cX1_holds 33 = .ok (.invokevirtual 30, 3) := by decide +kernel
theorem dX1_holds_36 : decode cX1_holds 36 = .ok (.dload_n 2, 1) := by decide +kernel
theorem dX1_holds_37 : decode cX1_holds 37 = .ok (.dcmp .g, 1) := by decide +kernel
theorem dX1_holds_38 : decode cX1_holds 38 = .ok (.ifCond .gt 7, 3) := by decide +kernel
theorem dX1_holds_41 : decode cX1_holds 41 = .ok (.iconst 1, 1) := by decide +kernel
theorem dX1_holds_42 : decode cX1_holds 42 = .ok (.goto 4, 3) := by decide +kernel
theorem dX1_holds_45 : decode cX1_holds 45 = .ok (.iconst 0, 1) := by decide +kernel
theorem dX1_holds_46 : decode cX1_holds 46 = .ok (.ireturn, 1) := by decide +kernel
theorem dX1_holds_47 : decode cX1_holds 47 = .ok (.aload_n 0, 1) := by decide +kernel
theorem dX1_holds_48 : decode cX1_holds 48 = .ok (.invokevirtual 36, 3) := by decide +kernel
theorem dX1_holds_51 : decode cX1_holds 51 = .ok (.dload_n 2, 1) := by decide +kernel
theorem dX1_holds_52 : decode cX1_holds 52 = .ok (.dcmp .g, 1) := by decide +kernel
theorem dX1_holds_53 : decode cX1_holds 53 = .ok (.ifCond .gt 7, 3) := by decide +kernel
theorem dX1_holds_56 : decode cX1_holds 56 = .ok (.iconst 1, 1) := by decide +kernel
theorem dX1_holds_57 : decode cX1_holds 57 = .ok (.goto 4, 3) := by decide +kernel
theorem dX1_holds_60 : decode cX1_holds 60 = .ok (.iconst 0, 1) := by decide +kernel
theorem dX1_holds_61 : decode cX1_holds 61 = .ok (.ireturn, 1) := by decide +kernel
theorem dX1_holds_62 : decode cX1_holds 62 = .ok (.aload_n 0, 1) := by decide +kernel
theorem dX1_holds_63 : decode cX1_holds 63 = .ok (.invokevirtual 39, 3) := by decide +kernel
theorem dX1_holds_66 : decode cX1_holds 66 = .ok (.dload_n 2, 1) := by decide +kernel
theorem dX1_holds_67 : decode cX1_holds 67 = .ok (.dcmp .l, 1) := by decide +kernel
theorem dX1_holds_68 : decode cX1_holds 68 = .ok (.ifCond .lt 7, 3) := by decide +kernel
theorem dX1_holds_71 : decode cX1_holds 71 = .ok (.iconst 1, 1) := by decide +kernel
theorem dX1_holds_72 : decode cX1_holds 72 = .ok (.goto 4, 3) := by decide +kernel
theorem dX1_holds_75 : decode cX1_holds 75 = .ok (.iconst 0, 1) := by decide +kernel
theorem dX1_holds_76 : decode cX1_holds 76 = .ok (.ireturn, 1) := by decide +kernel
theorem dX1_holds_77 : decode cX1_holds 77 = .ok (.aload_n 0, 1) := by decide +kernel
theorem dX1_holds_78 : decode cX1_holds 78 = .ok (.invokevirtual 42, 3) := by decide +kernel
theorem dX1_holds_81 : decode cX1_holds 81 = .ok (.dload_n 2, 1) := by decide +kernel
theorem dX1_holds_82 : decode cX1_holds 82 = .ok (.dcmp .l, 1) := by decide +kernel
theorem dX1_holds_83 : decode cX1_holds 83 = .ok (.ifCond .lt 7, 3) := by decide +kernel
theorem dX1_holds_86 : decode cX1_holds 86 = .ok (.iconst 1, 1) := by decide +kernel
theorem dX1_holds_87 : decode cX1_holds 87 = .ok (.goto 4, 3) := by decide +kernel
theorem dX1_holds_90 : decode cX1_holds 90 = .ok (.iconst 0, 1) := by decide +kernel
theorem dX1_holds_91 : decode cX1_holds 91 = .ok (.ireturn, 1) := by decide +kernel
theorem dX1_holds_92 : decode cX1_holds 92 = .ok (.aload_n 0, 1) := by decide +kernel
theorem dX1_holds_93 : decode cX1_holds 93 = .ok (.getfield 45, 3) := by decide +kernel
theorem dX1_holds_96 : decode cX1_holds 96 = .ok (.i2d, 1) := by decide +kernel
theorem dX1_holds_97 : decode cX1_holds 97 = .ok (.dload_n 2, 1) := by decide +kernel
theorem dX1_holds_98 : decode cX1_holds 98 = .ok (.dcmp .g, 1) := by decide +kernel
theorem dX1_holds_99 : decode cX1_holds 99 = .ok (.ifCond .gt 7, 3) := by decide +kernel
theorem dX1_holds_102 : decode cX1_holds 102 = .ok (.iconst 1, 1) := by decide +kernel
theorem dX1_holds_103 : decode cX1_holds 103 = .ok (.goto 4, 3) := by decide +kernel
theorem dX1_holds_106 : decode cX1_holds 106 = .ok (.iconst 0, 1) := by decide +kernel
theorem dX1_holds_107 : decode cX1_holds 107 = .ok (.ireturn, 1) := by decide +kernel
set_option maxRecDepth 20000 in
theorem ggX2_init_X4_root : GoodIn wsX2_init wsX4_root := goodIn_r _ [15, 16] (by decide +kernel) (by decide +kernel)
set_option maxRecDepth 20000 in
theorem gX2_init_X4_root_n33 : GoodIn wsX2_init (wsX4_root) := ggX2_init_X4_root
theorem dX2_init_0 : decode cX2_init 0 = .ok (.aload_n 0, 1) := by decide +kernel
theorem dX2_init_1 : decode cX2_init 1 = .ok (.invokespecial 1, 3) := by decide +kernel
theorem dX2_init_4 : decode cX2_init 4 = .ok (.aload_n 0, 1) := by decide +kernel
theorem dX2_init_5 : decode cX2_init 5 = .ok (.iload_n 2, 1) := by decide +kernel
theorem dX2_init_6 : decode cX2_init 6 = .ok (.putfield 7, 3) := by decide +kernel
theorem dX2_init_9 : decode cX2_init 9 = .ok (.aload_n 0, 1) := by decide +kernel
theorem dX2_init_10 : decode cX2_init 10 = .ok (.iload_n 2, 1) := by decide +kernel
theorem dX2_init_11 : decode cX2_init 11 = .ok (.newarray .double, 2) := by decide +kernel
theorem dX2_init_13 : decode cX2_init 13 = .ok (.putfield 13, 3) := by decide +kernel
theorem dX2_init_16 : decode cX2_init 16 = .ok (.aload_n 0, 1) := by decide +kernel
theorem dX2_init_17 : decode cX2_init 17 = .ok (.iload_n 2, 1) := by decide +kernel
theorem dX2_init_18 : decode cX2_init 18 = .ok (.newarray .double, 2) := by decide +kernel
theorem dX2_init_20 : decode cX2_init 20 = .ok (.putfield 17, 3) := by decide +kernel
theorem dX2_init_23 : decode cX2_init 23 = .ok (.aload_n 0, 1) := by decide +kernel
theorem dX2_init_24 : decode cX2_init 24 = .ok (.iload_n 2, 1) := by decide +kernel
theorem dX2_init_25 : decode cX2_init 25 = .ok (.newarray .double, 2) := by decide +kernel
theorem dX2_init_27 : decode cX2_init 27 = .ok (.putfield 20, 3) := by decide +kernel
theorem dX2_init_30 : decode cX2_init 30 = .ok (.aload_n 0, 1) := by decide +kernel
theorem dX2_init_31 : decode cX2_init 31 = .ok (.iload_n 1, 1) := by decide +kernel
theorem dX2_init_32 : decode cX2_init 32 = .ok (.iload_n 2, 1) := by decide +kernel
theorem dX2_init_33 : decode cX2_init 33 = .ok (.imul, 1) := by decide +kernel
theorem dX2_init_34 : decode cX2_init 34 = .ok (.newarray .boolean, 2) := by decide +kernel
theorem dX2_init_36 : decode cX2_init 36 = .ok (.putfield 23, 3) := by decide +kernel
theorem dX2_init_39 : decode cX2_init 39 = .ok (.aload_n 0, 1) := by decide +kernel
theorem dX2_init_40 : decode cX2_init 40 = .ok (.iload_n 1, 1) := by decide +kernel
theorem dX2_init_41 : decode cX2_init 41 = .ok (.iload_n 2, 1) := by decide +kernel
theorem dX2_init_42 : decode cX2_init 42 = .ok (.imul, 1) := by decide +kernel
theorem dX2_init_43 : decode cX2_init 43 = .ok (.newarray .double, 2) := by decide +kernel
theorem dX2_init_45 : decode cX2_init 45 = .ok (.putfield 27, 3) := by decide +kernel
theorem dX2_init_48 : decode cX2_init 48 = .ok (.aload_n 0, 1) := by decide +kernel
theorem dX2_init_49 : decode cX2_init 49 = .ok (.iload_n 1, 1) := by decide +kernel
theorem dX2_init_50 : decode cX2_init 50 = .ok (.iload_n 2, 1) := by decide +kernel
theorem dX2_init_51 : decode cX2_init 51 = .ok (.imul, 1) := by decide +kernel
theorem dX2_init_52 : decode cX2_init 52 = .ok (.newarray .double, 2) := by decide +kernel
theorem dX2_init_54 : decode cX2_init 54 = .ok (.putfield 30, 3) := by decide +kernel
theorem dX2_init_57 : decode cX2_init 57 = .ok (.iconst 0, 1) := by decide +kernel
theorem dX2_init_58 : decode cX2_init 58 = .ok (.istore_n 3, 1) := by decide +kernel
theorem dX2_init_59 : decode cX2_init 59 = .ok (.iload_n 3, 1) := by decide +kernel
theorem dX2_init_60 : decode cX2_init 60 = .ok (.iload_n 2, 1) := by decide +kernel
theorem dX2_init_61 : decode cX2_init 61 = .ok (.if_icmp .ge 26, 3) := by decide +kernel
theorem dX2_init_64 : decode cX2_init 64 = .ok (.aload_n 0, 1) := by decide +kernel
theorem dX2_init_65 : decode cX2_init 65 = .ok (.getfield 13, 3) := by decide +kernel
theorem dX2_init_68 : decode cX2_init 68 = .ok (.iload_n 3, 1) := by decide +kernel
theorem dX2_init_69 : decode cX2_init 69 = .ok (.dconst 1, 1) := by decide +kernel
theorem dX2_init_70 : decode cX2_init 70 = .ok (.dastore, 1) := by decide +kernel
theorem dX2_init_71 : decode cX2_init 71 = .ok (.aload_n 0, 1) := by decide +kernel
theorem dX2_init_72 : decode cX2_init 72 = .ok (.getfield 20, 3) := by decide +kernel
theorem dX2_init_75 : decode cX2_init 75 = .ok (.iload_n 3, 1) := by decide +kernel
theorem dX2_init_76 : decode cX2_init 76 = .ok (.dconst 1, 1) := by decide +kernel
theorem dX2_init_77 : decode cX2_init 77 = .ok (.invokestatic 33, 3) := by decide +kernel
theorem dX2_init_80 : decode cX2_init 80 = .ok (.dastore, 1) := by decide +kernel
theorem dX2_init_81 : decode cX2_init 81 = .ok (.iinc 3 1, 3) := by decide +kernel
theorem dX2_init_84 : decode cX2_init 84 = .ok (.goto (-25), 3) := by decide +kernel
theorem dX2_init_87 : decode cX2_init 87 = .ok (.return_, 1) := by decide +kernel
set_option maxRecDepth 20000 in
theorem ggX2_direct_X4_root : GoodIn wsX2_direct wsX4_root := goodIn_r _ [6, 7] (by decide +kernel) (by decide +kernel)
set_option maxRecDepth 20000 in
theorem gX2_direct_X4_root_n33 : GoodIn wsX2_direct (wsX4_root) := ggX2_direct_X4_root
theorem dX2_direct_0 : decode cX2_direct 0 = .ok (.aload_n 0, 1) := by decide +kernel
theorem dX2_direct_1 : decode cX2_direct 1 = .ok (.getfield 13, 3) := by decide +kernel
theorem dX2_direct_4 : decode cX2_direct 4 = .ok (.iload_n 1, 1) := by decide +kernel
theorem dX2_direct_5 : decode cX2_direct 5 = .ok (.dload_n 2, 1) := by decide +kernel
theorem dX2_direct_6 : decode cX2_direct 6 = .ok (.dastore, 1) := by decide +kernel
theorem dX2_direct_7 : decode cX2_direct 7 = .ok (.aload_n 0, 1) := by decide +kernel
theorem dX2_direct_8 : decode cX2_direct 8 = .ok (.getfield 17, 3) := by decide +kernel
theorem dX2_direct_11 : decode cX2_direct 11 = .ok (.iload_n 1, 1) := by decide +kernel
theorem dX2_direct_12 : decode cX2_direct 12 = .ok (.dload 4, 2) := by decide +kernel
theorem dX2_direct_14 : decode cX2_direct 14 = .ok (.dastore, 1) := by decide +kernel
theorem dX2_direct_15 : decode cX2_direct 15 = .ok (.aload_n 0, 1) := by decide +kernel
theorem dX2_direct_16 : decode cX2_direct 16 = .ok (.getfield 20, 3) := by decide +kernel
theorem dX2_direct_19 : decode cX2_direct 19 = .ok (.iload_n 1, 1) := by decide +kernel
theorem dX2_direct_20 : decode cX2_direct 20 = .ok (.dload_n 2, 1) := by decide +kernel
theorem dX2_direct_21 : decode cX2_direct 21 = .ok (.dload_n 2, 1) := by decide +kernel
theorem dX2_direct_22 : decode cX2_direct 22 = .ok (.dmul, 1) := by decide +kernel
theorem dX2_direct_23 : decode cX2_direct 23 = .ok (.dload 4, 2) := by decide +kernel
theorem dX2_direct_25 : decode cX2_direct 25 = .ok (.dload 4, 2) := by decide +kernel
theorem dX2_direct_27 : decode cX2_direct 27 = .ok (.dmul, 1) := by decide +kernel
theorem dX2_direct_28 : decode cX2_direct 28 = .ok (.dadd, 1) := by decide +kernel
theorem dX2_direct_29 : decode cX2_direct 29 = .ok (.invokestatic 33, 3) := by decide +kernel
theorem dX2_direct_32 : decode cX2_direct 32 = .ok (.dastore, 1) := by decide +kernel
theorem dX2_direct_33 : decode cX2_direct 33 = .ok (.return_, 1) := by decide +kernel
set_option maxRecDepth 20000 in
theorem ggX2_cast_X2_place : GoodIn wsX2_cast wsX2_place := goodIn_r _ [9, 10, 11, 12, 13, 14, 15, 16, 17] (by decide +kernel) (by decide +kernel)
set_option maxRecDepth 20000 in
theorem gX2_cast_X2_place : GoodIn wsX2_cast (wsV RX2 39 RX2 yX2_place wsX2_place) := goodIn_app (goodIn_of _ (by decide +kernel)) ggX2_cast_X2_place
theorem dX2_cast_0 : decode cX2_cast 0 = .ok (.aload_n 0, 1) := by decide +kernel
theorem dX2_cast_1 : decode cX2_cast 1 = .ok (.iload_n 1, 1) := by decide +kernel
theorem dX2_cast_2 : decode cX2_cast 2 = .ok (.iload_n 2, 1) := by decide +kernel
theorem dX2_cast_3 : decode cX2_cast 3 = .ok (.invokevirtual 39, 3) := by decide +kernel
theorem dX2_cast_6 : decode cX2_cast 6 = .ok (.istore 7, 2) := by decide +kernel
theorem dX2_cast_8 : decode cX2_cast 8 = .ok (.aload_n 0, 1) := by decide +kernel
theorem dX2_cast_9 : decode cX2_cast 9 = .ok (.getfield 23, 3) := by decide +kernel
theorem dX2_cast_12 : decode cX2_cast 12 = .ok (.iload 7, 2) := by decide +kernel
theorem dX2_cast_14 : decode cX2_cast 14 = .ok (.iconst 1, 1) := by decide +kernel
theorem dX2_cast_15 : decode cX2_cast 15 = .ok (.bastore, 1) := by decide +kernel
theorem dX2_cast_16 : decode cX2_cast 16 = .ok (.aload_n 0, 1) := by decide +kernel
theorem dX2_cast_17 : decode cX2_cast 17 = .ok (.getfield 27, 3) := by decide +kernel
theorem dX2_cast_20 : decode cX2_cast 20 = .ok (.iload 7, 2) := by decide +kernel
theorem dX2_cast_22 : decode cX2_cast 22 = .ok (.dload_n 3, 1) := by decide +kernel
theorem dX2_cast_23 : decode cX2_cast 23 = .ok (.dload 5, 2) := by decide +kernel
theorem dX2_cast_25 : decode cX2_cast 25 = .ok (.dadd, 1) := by decide +kernel
theorem dX2_cast_26 : decode cX2_cast 26 = .ok (.ldc2_w 43, 3) := by decide +kernel
theorem dX2_cast_29 : decode cX2_cast 29 = .ok (.ddiv, 1) := by decide +kernel
theorem dX2_cast_30 : decode cX2_cast 30 = .ok (.dastore, 1) := by decide +kernel
theorem dX2_cast_31 : decode cX2_cast 31 = .ok (.aload_n 0, 1) := by decide +kernel
theorem dX2_cast_32 : decode cX2_cast 32 = .ok (.getfield 30, 3) := by decide +kernel
theorem dX2_cast_35 : decode cX2_cast 35 = .ok (.iload 7, 2) := by decide +kernel
theorem dX2_cast_37 : decode cX2_cast 37 = .ok (.dload 5, 2) := by decide +kernel
theorem dX2_cast_39 : decode cX2_cast 39 = .ok (.dload_n 3, 1) := by decide +kernel
theorem dX2_cast_40 : decode cX2_cast 40 = .ok (.dsub, 1) := by decide +kernel
theorem dX2_cast_41 : decode cX2_cast 41 = .ok (.ldc2_w 43, 3) := by decide +kernel
theorem dX2_cast_44 : decode cX2_cast 44 = .ok (.ddiv, 1) := by decide +kernel
theorem dX2_cast_45 : decode cX2_cast 45 = .ok (.dastore, 1) := by decide +kernel
theorem dX2_cast_46 : decode cX2_cast 46 = .ok (.return_, 1) := by decide +kernel
set_option maxRecDepth 20000 in
theorem ggX2_takeAway_X2_place : GoodIn wsX2_takeAway wsX2_place := goodIn_r _ [6, 7, 8, 9, 10, 11, 12, 13, 14] (by decide +kernel) (by decide +kernel)
set_option maxRecDepth 20000 in
theorem gX2_takeAway_X2_place : GoodIn wsX2_takeAway (wsV RX2 39 RX2 yX2_place wsX2_place) := goodIn_app (goodIn_of _ (by decide +kernel)) ggX2_takeAway_X2_place
theorem dX2_takeAway_0 : decode cX2_takeAway 0 = .ok (.aload_n 0, 1) := by decide +kernel
theorem dX2_takeAway_1 : decode cX2_takeAway 1 = .ok (.iload_n 1, 1) := by decide +kernel
theorem dX2_takeAway_2 : decode cX2_takeAway 2 = .ok (.iload_n 2, 1) := by decide +kernel
theorem dX2_takeAway_3 : decode cX2_takeAway 3 = .ok (.invokevirtual 39, 3) := by decide +kernel
theorem dX2_takeAway_6 : decode cX2_takeAway 6 = .ok (.istore_n 3, 1) := by decide +kernel
theorem dX2_takeAway_7 : decode cX2_takeAway 7 = .ok (.aload_n 0, 1) := by decide +kernel
theorem dX2_takeAway_8 : decode cX2_takeAway 8 = .ok (.getfield 23, 3) := by decide +kernel
theorem dX2_takeAway_11 : decode cX2_takeAway 11 = .ok (.iload_n 3, 1) := by decide +kernel
theorem dX2_takeAway_12 : decode cX2_takeAway 12 = .ok (.baload, 1) := by decide +kernel
theorem dX2_takeAway_13 : decode cX2_takeAway 13 = .ok (.istore 4, 2) := by decide +kernel
theorem dX2_takeAway_15 : decode cX2_takeAway 15 = .ok (.aload_n 0, 1) := by decide +kernel
theorem dX2_takeAway_16 : decode cX2_takeAway 16 = .ok (.getfield 23, 3) := by decide +kernel
theorem dX2_takeAway_19 : decode cX2_takeAway 19 = .ok (.iload_n 3, 1) := by decide +kernel
theorem dX2_takeAway_20 : decode cX2_takeAway 20 = .ok (.iconst 0, 1) := by decide +kernel
theorem dX2_takeAway_21 : decode cX2_takeAway 21 = .ok (.bastore, 1) := by decide +kernel
theorem dX2_takeAway_22 : decode cX2_takeAway 22 = .ok (.iload 4, 2) := by decide +kernel
theorem dX2_takeAway_24 : decode cX2_takeAway 24 = .ok (.ireturn, 1) := by decide +kernel
set_option maxRecDepth 20000 in
theorem ggX2_fitInto_X2_countOf : GoodIn wsX2_fitInto wsX2_countOf := goodIn_r _ [5, 6, 7, 8, 9, 10, 4, 11, 37, 38, 39, 40, 41, 42, 43] (by decide +kernel) (by decide +kernel)
set_option maxRecDepth 20000 in
theorem gX2_fitInto_X2_countOf : GoodIn wsX2_fitInto (wsV RX2 45 RX2 yX2_countOf wsX2_countOf) := goodIn_app (goodIn_of _ (by decide +kernel)) ggX2_fitInto_X2_countOf
set_option maxRecDepth 20000 in
theorem ggX2_fitInto_X2_fitCentre : GoodIn wsX2_fitInto wsX2_fitCentre := goodIn_r _ [15, 6, 7, 16, 17, 18, 19, 8, 9, 10, 4, 11, 37, 38, 39, 40, 41, 42, 43, 30, 31, 32, 33, 34, 35, 36] (by decide +kernel) (by decide +kernel)
set_option maxRecDepth 20000 in
theorem gX2_fitInto_X2_fitCentre : GoodIn wsX2_fitInto (wsV RX2 49 RX2 yX2_fitCentre wsX2_fitCentre) := goodIn_app (goodIn_of _ (by decide +kernel)) ggX2_fitInto_X2_fitCentre
set_option maxRecDepth 20000 in
theorem ggX2_fitInto_X2_sumOfRadii : GoodIn wsX2_fitInto wsX2_sumOfRadii := goodIn_r _ [23, 6, 7, 24, 25, 8, 9, 10, 4, 11, 37, 38, 39, 40, 41, 42, 43] (by decide +kernel) (by decide +kernel)
set_option maxRecDepth 20000 in
theorem gX2_fitInto_X2_sumOfRadii : GoodIn wsX2_fitInto (wsV RX2 58 RX2 yX2_sumOfRadii wsX2_sumOfRadii) := goodIn_app (goodIn_of _ (by decide +kernel)) ggX2_fitInto_X2_sumOfRadii
set_option maxRecDepth 20000 in
theorem ggX2_fitInto_X2_sumOfErrors : GoodIn wsX2_fitInto wsX2_sumOfErrors := goodIn_r _ [29, 6, 7, 18, 16, 17, 8, 9, 10, 4, 11, 37, 38, 39, 40, 41, 42, 43] (by decide +kernel) (by decide +kernel)
set_option maxRecDepth 20000 in
theorem gX2_fitInto_X2_sumOfErrors : GoodIn wsX2_fitInto (wsV RX2 71 RX2 yX2_sumOfErrors wsX2_sumOfErrors) := goodIn_app (goodIn_of _ (by decide +kernel)) ggX2_fitInto_X2_sumOfErrors
theorem dX2_fitInto_0 : decode cX2_fitInto 0 = .ok (.aload_n 0, 1) := by decide +kernel
theorem dX2_fitInto_1 : decode cX2_fitInto 1 = .ok (.iload_n 2, 1) := by decide +kernel
theorem dX2_fitInto_2 : decode cX2_fitInto 2 = .ok (.invokevirtual 45, 3) := by decide +kernel
theorem dX2_fitInto_5 : decode cX2_fitInto 5 = .ok (.istore_n 3, 1) := by decide +kernel
theorem dX2_fitInto_6 : decode cX2_fitInto 6 = .ok (.iload_n 3, 1) := by decide +kernel
theorem dX2_fitInto_7 : decode cX2_fitInto 7 = .ok (.iconst 2, 1) := by decide +kernel
theorem dX2_fitInto_8 : decode cX2_fitInto 8 = .ok (.if_icmp .lt 12, 3) := by decide +kernel
theorem dX2_fitInto_11 : decode cX2_fitInto 11 = .ok (.aload_n 0, 1) := by decide +kernel
theorem dX2_fitInto_12 : decode cX2_fitInto 12 = .ok (.aload_n 1, 1) := by decide +kernel
theorem dX2_fitInto_13 : decode cX2_fitInto 13 = .ok (.iload_n 2, 1) := by decide +kernel
theorem dX2_fitInto_14 : decode cX2_fitInto 14 = .ok (.invokevirtual 49, 3) := by decide +kernel
theorem dX2_fitInto_17 : decode cX2_fitInto 17 = .ok (.ifCond .ne 5, 3) := by decide +kernel
theorem dX2_fitInto_20 : decode cX2_fitInto 20 = .ok (.iconst 0, 1) := by decide +kernel
theorem dX2_fitInto_21 : decode cX2_fitInto 21 = .ok (.ireturn, 1) := by decide +kernel
theorem dX2_fitInto_22 : decode cX2_fitInto 22 = .ok (.aload_n 1, 1) := by decide +kernel
theorem dX2_fitInto_23 : decode cX2_fitInto 23 = .ok (.getfield 53, 3) := by decide +kernel
theorem dX2_fitInto_26 : decode cX2_fitInto 26 = .ok (.iload_n 2, 1) := by decide +kernel
theorem dX2_fitInto_27 : decode cX2_fitInto 27 = .ok (.aload_n 0, 1) := by decide +kernel
theorem dX2_fitInto_28 : decode cX2_fitInto 28 = .ok (.iload_n 2, 1) := by decide +kernel
theorem dX2_fitInto_29 : decode cX2_fitInto 29 = .ok (.invokevirtual 58, 3) := by decide +kernel
theorem dX2_fitInto_32 : decode cX2_fitInto 32 = .ok (.iload_n 3, 1) := by decide +kernel
theorem dX2_fitInto_33 : decode cX2_fitInto 33 = .ok (.i2d, 1) := by decide +kernel
theorem dX2_fitInto_34 : decode cX2_fitInto 34 = .ok (.ddiv, 1) := by decide +kernel
theorem dX2_fitInto_35 : decode cX2_fitInto 35 = .ok (.dastore, 1) := by decide +kernel
theorem dX2_fitInto_36 : decode cX2_fitInto 36 = .ok (.aload_n 1, 1) := by decide +kernel
theorem dX2_fitInto_37 : decode cX2_fitInto 37 = .ok (.getfield 62, 3) := by decide +kernel
theorem dX2_fitInto_40 : decode cX2_fitInto 40 = .ok (.iload_n 2, 1) := by decide +kernel
theorem dX2_fitInto_41 : decode cX2_fitInto 41 = .ok (.aload_n 0, 1) := by decide +kernel
theorem dX2_fitInto_42 : decode cX2_fitInto 42 = .ok (.iload_n 2, 1) := by decide +kernel
theorem dX2_fitInto_43 : decode cX2_fitInto 43 = .ok (.aload_n 1, 1) := by decide +kernel
theorem dX2_fitInto_44 : decode cX2_fitInto 44 = .ok (.getfield 65, 3) := by decide +kernel
theorem dX2_fitInto_47 : decode cX2_fitInto 47 = .ok (.iload_n 2, 1) := by decide +kernel
theorem dX2_fitInto_48 : decode cX2_fitInto 48 = .ok (.daload, 1) := by decide +kernel
theorem dX2_fitInto_49 : decode cX2_fitInto 49 = .ok (.aload_n 1, 1) := by decide +kernel
theorem dX2_fitInto_50 : decode cX2_fitInto 50 = .ok (.getfield 68, 3) := by decide +kernel
theorem dX2_fitInto_53 : decode cX2_fitInto 53 = .ok (.iload_n 2, 1) := by decide +kernel
theorem dX2_fitInto_54 : decode cX2_fitInto 54 = .ok (.daload, 1) := by decide +kernel
theorem dX2_fitInto_55 : decode cX2_fitInto 55 = .ok (.invokevirtual 71, 3) := by decide +kernel
theorem dX2_fitInto_58 : decode cX2_fitInto 58 = .ok (.dastore, 1) := by decide +kernel
theorem dX2_fitInto_59 : decode cX2_fitInto 59 = .ok (.iconst 1, 1) := by decide +kernel
theorem dX2_fitInto_60 : decode cX2_fitInto 60 = .ok (.ireturn, 1) := by decide +kernel
theorem dX2_place_0 : decode cX2_place 0 = .ok (.iload_n 1, 1) := by decide +kernel
theorem dX2_place_1 : decode cX2_place 1 = .ok (.aload_n 0, 1) := by decide +kernel
theorem dX2_place_2 : decode cX2_place 2 = .ok (.getfield 7, 3) := by decide +kernel
theorem dX2_place_5 : decode cX2_place 5 = .ok (.imul, 1) := by decide +kernel
theorem dX2_place_6 : decode cX2_place 6 = .ok (.iload_n 2, 1) := by decide +kernel
theorem dX2_place_7 : decode cX2_place 7 = .ok (.iadd, 1) := by decide +kernel
theorem dX2_place_8 : decode cX2_place 8 = .ok (.ireturn, 1) := by decide +kernel
set_option maxRecDepth 20000 in
theorem ggX2_countOf_X2_place : GoodIn wsX2_countOf wsX2_place := goodIn_r _ [7, 1, 8, 9, 10, 11, 12, 13, 14] (by decide +kernel) (by decide +kernel)
set_option maxRecDepth 20000 in
theorem gX2_countOf_X2_place : GoodIn wsX2_countOf (wsV RX2 39 RX2 yX2_place wsX2_place) := goodIn_app (goodIn_of _ (by decide +kernel)) ggX2_countOf_X2_place
theorem dX2_countOf_0 : decode cX2_countOf 0 = .ok (.iconst 0, 1) := by decide +kernel
theorem dX2_countOf_1 : decode cX2_countOf 1 = .ok (.istore_n 2, 1) := by decide +kernel
theorem dX2_countOf_2 : decode cX2_countOf 2 = .ok (.iconst 0, 1) := by decide +kernel
theorem dX2_countOf_3 : decode cX2_countOf 3 = .ok (.istore_n 3, 1) := by decide +kernel
theorem dX2_countOf_4 : decode cX2_countOf 4 = .ok (.iload_n 3, 1) := by decide +kernel
theorem dX2_countOf_5 : decode cX2_countOf 5 = .ok (.aload_n 0, 1) := by decide +kernel
theorem dX2_countOf_6 : decode cX2_countOf 6 = .ok (.getfield 7, 3) := by decide +kernel
theorem dX2_countOf_9 : decode cX2_countOf 9 = .ok (.if_icmp .ge 26, 3) := by decide +kernel
theorem dX2_countOf_12 : decode cX2_countOf 12 = .ok (.aload_n 0, 1) := by decide +kernel
theorem dX2_countOf_13 : decode cX2_countOf 13 = .ok (.getfield 23, 3) := by decide +kernel
theorem dX2_countOf_16 : decode cX2_countOf 16 = .ok (.aload_n 0, 1) := by decide +kernel
theorem dX2_countOf_17 : decode cX2_countOf 17 = .ok (.iload_n 1, 1) := by decide +kernel
theorem dX2_countOf_18 : decode cX2_countOf 18 = .ok (.iload_n 3, 1) := by decide +kernel
theorem dX2_countOf_19 : decode cX2_countOf 19 = .ok (.invokevirtual 39, 3) := by decide +kernel
theorem dX2_countOf_22 : decode cX2_countOf 22 = .ok (.baload, 1) := by decide +kernel
theorem dX2_countOf_23 : decode cX2_countOf 23 = .ok (.ifCond .eq 6, 3) := by decide +kernel
theorem dX2_countOf_26 : decode cX2_countOf 26 = .ok (.iinc 2 1, 3) := by decide +kernel
theorem dX2_countOf_29 : decode cX2_countOf 29 = .ok (.iinc 3 1, 3) := by decide +kernel
theorem dX2_countOf_32 : decode cX2_countOf 32 = .ok (.goto (-28), 3) := by decide +kernel
theorem dX2_countOf_35 : decode cX2_countOf 35 = .ok (.iload_n 2, 1) := by decide +kernel
theorem dX2_countOf_36 : decode cX2_countOf 36 = .ok (.ireturn, 1) := by decide +kernel
set_option maxRecDepth 20000 in
theorem ggX2_fitCentre_X2_place : GoodIn wsX2_fitCentre wsX2_place := goodIn_r _ [11, 1, 12, 13, 14, 15, 16, 17, 18] (by decide +kernel) (by decide +kernel)
set_option maxRecDepth 20000 in
theorem gX2_fitCentre_X2_place : GoodIn wsX2_fitCentre (wsV RX2 39 RX2 yX2_place wsX2_place) := goodIn_app (goodIn_of _ (by decide +kernel)) ggX2_fitCentre_X2_place
theorem dX2_fitCentre_0 : decode cX2_fitCentre 0 = .ok (.dconst 0, 1) := by decide +kernel
theorem dX2_fitCentre_1 : decode cX2_fitCentre 1 = .ok (.dstore_n 3, 1) := by decide +kernel
theorem dX2_fitCentre_2 : decode cX2_fitCentre 2 = .ok (.dconst 0, 1) := by decide +kernel
theorem dX2_fitCentre_3 : decode cX2_fitCentre 3 = .ok (.dstore 5, 2) := by decide +kernel
theorem dX2_fitCentre_5 : decode cX2_fitCentre 5 = .ok (.dconst 0, 1) := by decide +kernel
theorem dX2_fitCentre_6 : decode cX2_fitCentre 6 = .ok (.dstore 7, 2) := by decide +kernel
theorem dX2_fitCentre_8 : decode cX2_fitCentre 8 = .ok (.dconst 0, 1) := by decide +kernel
theorem dX2_fitCentre_9 : decode cX2_fitCentre 9 = .ok (.dstore 9, 2) := by decide +kernel
theorem dX2_fitCentre_11 : decode cX2_fitCentre 11 = .ok (.dconst 0, 1) := by decide +kernel
theorem dX2_fitCentre_12 : decode cX2_fitCentre 12 = .ok (.dstore 11, 2) := by decide +kernel
theorem dX2_fitCentre_14 : decode cX2_fitCentre 14 = .ok (.iconst 0, 1) := by decide +kernel
theorem dX2_fitCentre_15 : decode cX2_fitCentre 15 = .ok (.istore 13, 2) := by decide +kernel
theorem dX2_fitCentre_17 : decode cX2_fitCentre 17 = .ok (.iload 13, 2) := by decide +kernel
theorem dX2_fitCentre_19 : decode cX2_fitCentre 19 = .ok (.aload_n 0, 1) := by decide +kernel
theorem dX2_fitCentre_20 : decode cX2_fitCentre 20 = .ok (.getfield 7, 3) := by decide +kernel
theorem dX2_fitCentre_23 : decode cX2_fitCentre 23 = .ok (.if_icmp .ge 126, 3) := by decide +kernel
theorem dX2_fitCentre_26 : decode cX2_fitCentre 26 = .ok (.aload_n 0, 1) := by decide +kernel
theorem dX2_fitCentre_27 : decode cX2_fitCentre 27 = .ok (.iload_n 2, 1) := by decide +kernel
theorem dX2_fitCentre_28 : decode cX2_fitCentre 28 = .ok (.iload 13, 2) := by decide +kernel
theorem dX2_fitCentre_30 : decode cX2_fitCentre 30 = .ok (.invokevirtual 39, 3) := by decide +kernel
theorem dX2_fitCentre_33 : decode cX2_fitCentre 33 = .ok (.istore 14, 2) := by decide +kernel
theorem dX2_fitCentre_35 : decode cX2_fitCentre 35 = .ok (.aload_n 0, 1) := by decide +kernel
theorem dX2_fitCentre_36 : decode cX2_fitCentre 36 = .ok (.getfield 23, 3) := by decide +kernel
theorem dX2_fitCentre_39 : decode cX2_fitCentre 39 = .ok (.iload 14, 2) := by decide +kernel
theorem dX2_fitCentre_41 : decode cX2_fitCentre 41 = .ok (.baload, 1) := by decide +kernel
theorem dX2_fitCentre_42 : decode cX2_fitCentre 42 = .ok (.ifCond .eq 101, 3) := by decide +kernel
theorem dX2_fitCentre_45 : decode cX2_fitCentre 45 = .ok (.dload_n 3, 1) := by decide +kernel
theorem dX2_fitCentre_46 : decode cX2_fitCentre 46 = .ok (.aload_n 0, 1) := by decide +kernel
theorem dX2_fitCentre_47 : decode cX2_fitCentre 47 = .ok (.getfield 13, 3) := by decide +kernel
theorem dX2_fitCentre_50 : decode cX2_fitCentre 50 = .ok (.iload 13, 2) := by decide +kernel
theorem dX2_fitCentre_52 : decode cX2_fitCentre 52 = .ok (.daload, 1) := by decide +kernel
theorem dX2_fitCentre_53 : decode cX2_fitCentre 53 = .ok (.aload_n 0, 1) := by decide +kernel
theorem dX2_fitCentre_54 : decode cX2_fitCentre 54 = .ok (.getfield 13, 3) := by decide +kernel
theorem dX2_fitCentre_57 : decode cX2_fitCentre 57 = .ok (.iload 13, 2) := by decide +kernel
theorem dX2_fitCentre_59 : decode cX2_fitCentre 59 = .ok (.daload, 1) := by decide +kernel
theorem dX2_fitCentre_60 : decode cX2_fitCentre 60 = .ok (.dmul, 1) := by decide +kernel
theorem dX2_fitCentre_61 : decode cX2_fitCentre 61 = .ok (.dadd, 1) := by decide +kernel
theorem dX2_fitCentre_62 : decode cX2_fitCentre 62 = .ok (.dstore_n 3, 1) := by decide +kernel
theorem dX2_fitCentre_63 : decode cX2_fitCentre 63 = .ok (.dload 5, 2) := by decide +kernel
theorem dX2_fitCentre_65 : decode cX2_fitCentre 65 = .ok (.aload_n 0, 1) := by decide +kernel
theorem dX2_fitCentre_66 : decode cX2_fitCentre 66 = .ok (.getfield 13, 3) := by decide +kernel
theorem dX2_fitCentre_69 : decode cX2_fitCentre 69 = .ok (.iload 13, 2) := by decide +kernel
theorem dX2_fitCentre_71 : decode cX2_fitCentre 71 = .ok (.daload, 1) := by decide +kernel
theorem dX2_fitCentre_72 : decode cX2_fitCentre 72 = .ok (.aload_n 0, 1) := by decide +kernel
theorem dX2_fitCentre_73 : decode cX2_fitCentre 73 = .ok (.getfield 17, 3) := by decide +kernel
theorem dX2_fitCentre_76 : decode cX2_fitCentre 76 = .ok (.iload 13, 2) := by decide +kernel
theorem dX2_fitCentre_78 : decode cX2_fitCentre 78 = .ok (.daload, 1) := by decide +kernel
theorem dX2_fitCentre_79 : decode cX2_fitCentre 79 = .ok (.dmul, 1) := by decide +kernel
theorem dX2_fitCentre_80 : decode cX2_fitCentre 80 = .ok (.dadd, 1) := by decide +kernel
theorem dX2_fitCentre_81 : decode cX2_fitCentre 81 = .ok (.dstore 5, 2) := by decide +kernel
theorem dX2_fitCentre_83 : decode cX2_fitCentre 83 = .ok (.dload 7, 2) := by decide +kernel
theorem dX2_fitCentre_85 : decode cX2_fitCentre 85 = .ok (.aload_n 0, 1) := by decide +kernel
theorem dX2_fitCentre_86 : decode cX2_fitCentre 86 = .ok (.getfield 17, 3) := by decide +kernel
theorem dX2_fitCentre_89 : decode cX2_fitCentre 89 = .ok (.iload 13, 2) := by decide +kernel
theorem dX2_fitCentre_91 : decode cX2_fitCentre 91 = .ok (.daload, 1) := by decide +kernel
theorem dX2_fitCentre_92 : decode cX2_fitCentre 92 = .ok (.aload_n 0, 1) := by decide +kernel
theorem dX2_fitCentre_93 : decode cX2_fitCentre 93 = .ok (.getfield 17, 3) := by decide +kernel
theorem dX2_fitCentre_96 : decode cX2_fitCentre 96 = .ok (.iload 13, 2) := by decide +kernel
theorem dX2_fitCentre_98 : decode cX2_fitCentre 98 = .ok (.daload, 1) := by decide +kernel
theorem dX2_fitCentre_99 : decode cX2_fitCentre 99 = .ok (.dmul, 1) := by decide +kernel
theorem dX2_fitCentre_100 : decode cX2_fitCentre 100 = .ok (.dadd, 1) := by decide +kernel
theorem dX2_fitCentre_101 : decode cX2_fitCentre 101 = .ok (.dstore 7, 2) := by decide +kernel
theorem dX2_fitCentre_103 : decode cX2_fitCentre 103 = .ok (.dload 9, 2) := by decide +kernel
theorem dX2_fitCentre_105 : decode cX2_fitCentre 105 = .ok (.aload_n 0, 1) := by decide +kernel
theorem dX2_fitCentre_106 : decode cX2_fitCentre 106 = .ok (.getfield 13, 3) := by decide +kernel
theorem dX2_fitCentre_109 : decode cX2_fitCentre 109 = .ok (.iload 13, 2) := by decide +kernel
theorem dX2_fitCentre_111 : decode cX2_fitCentre 111 = .ok (.daload, 1) := by decide +kernel
theorem dX2_fitCentre_112 : decode cX2_fitCentre 112 = .ok (.aload_n 0, 1) := by decide +kernel
theorem dX2_fitCentre_113 : decode cX2_fitCentre 113 = .ok (.getfield 27, 3) := by decide +kernel
theorem dX2_fitCentre_116 : decode cX2_fitCentre 116 = .ok (.iload 14, 2) := by decide +kernel
theorem dX2_fitCentre_118 : decode cX2_fitCentre 118 = .ok (.daload, 1) := by decide +kernel
theorem dX2_fitCentre_119 : decode cX2_fitCentre 119 = .ok (.dmul, 1) := by decide +kernel
theorem dX2_fitCentre_120 : decode cX2_fitCentre 120 = .ok (.dadd, 1) := by decide +kernel
theorem dX2_fitCentre_121 : decode cX2_fitCentre 121 = .ok (.dstore 9, 2) := by decide +kernel
theorem dX2_fitCentre_123 : decode cX2_fitCentre 123 = .ok (.dload 11, 2) := by decide +kernel
theorem dX2_fitCentre_125 : decode cX2_fitCentre 125 = .ok (.aload_n 0, 1) := by decide +kernel
theorem dX2_fitCentre_126 : decode cX2_fitCentre 126 = .ok (.getfield 17, 3) := by decide +kernel
theorem dX2_fitCentre_129 : decode cX2_fitCentre 129 = .ok (.iload 13, 2) := by decide +kernel
theorem dX2_fitCentre_131 : decode cX2_fitCentre 131 = .ok (.daload, 1) := by decide +kernel
theorem dX2_fitCentre_132 : decode cX2_fitCentre 132 = .ok (.aload_n 0, 1) := by decide +kernel
theorem dX2_fitCentre_133 : decode cX2_fitCentre 133 = .ok (.getfield 27, 3) := by decide +kernel
theorem dX2_fitCentre_136 : decode cX2_fitCentre 136 = .ok (.iload 14, 2) := by decide +kernel
theorem dX2_fitCentre_138 : decode cX2_fitCentre 138 = .ok (.daload, 1) := by decide +kernel
theorem dX2_fitCentre_139 : decode cX2_fitCentre 139 = .ok (.dmul, 1) := by decide +kernel
theorem dX2_fitCentre_140 : decode cX2_fitCentre 140 = .ok (.dadd, 1) := by decide +kernel
theorem dX2_fitCentre_141 : decode cX2_fitCentre 141 = .ok (.dstore 11, 2) := by decide +kernel
theorem dX2_fitCentre_143 : decode cX2_fitCentre 143 = .ok (.iinc 13 1, 3) := by decide +kernel
theorem dX2_fitCentre_146 : decode cX2_fitCentre 146 = .ok (.goto (-129), 3) := by decide +kernel
theorem dX2_fitCentre_149 : decode cX2_fitCentre 149 = .ok (.dload_n 3, 1) := by decide +kernel
theorem dX2_fitCentre_150 : decode cX2_fitCentre 150 = .ok (.dload 7, 2) := by decide +kernel
theorem dX2_fitCentre_152 : decode cX2_fitCentre 152 = .ok (.dmul, 1) := by decide +kernel
theorem dX2_fitCentre_153 : decode cX2_fitCentre 153 = .ok (.dload 5, 2) := by decide +kernel
theorem dX2_fitCentre_155 : decode cX2_fitCentre 155 = .ok (.dload 5, 2) := by decide +kernel
theorem dX2_fitCentre_157 : decode cX2_fitCentre 157 = .ok (.dmul, 1) := by decide +kernel
theorem dX2_fitCentre_158 : decode cX2_fitCentre 158 = .ok (.dsub, 1) := by decide +kernel
theorem dX2_fitCentre_159 : decode cX2_fitCentre 159 = .ok (.dstore 13, 2) := by decide +kernel
theorem dX2_fitCentre_161 : decode cX2_fitCentre 161 = .ok (.dload 13, 2) := by decide +kernel
theorem dX2_fitCentre_163 : decode cX2_fitCentre 163 = .ok (.dconst 0, 1) := by decide +kernel
theorem dX2_fitCentre_164 : decode cX2_fitCentre 164 = .ok (.dcmp .g, 1) := by decide +kernel
theorem dX2_fitCentre_165 : decode cX2_fitCentre 165 = .ok (.ifCond .ge 9, 3) := by decide +kernel
theorem dX2_fitCentre_168 : decode cX2_fitCentre 168 = .ok (.dload 13, 2) := by decide +kernel
theorem dX2_fitCentre_170 : decode cX2_fitCentre 170 = .ok (.dneg, 1) := by decide +kernel
theorem dX2_fitCentre_171 : decode cX2_fitCentre 171 = .ok (.goto 5, 3) := by decide +kernel
theorem dX2_fitCentre_174 : decode cX2_fitCentre 174 = .ok (.dload 13, 2) := by decide +kernel
theorem dX2_fitCentre_176 : decode cX2_fitCentre 176 = .ok (.dstore 15, 2) := by decide +kernel
theorem dX2_fitCentre_178 : decode cX2_fitCentre 178 = .ok (.dload 15, 2) := by decide +kernel
theorem dX2_fitCentre_180 : decode cX2_fitCentre 180 = .ok (.ldc2_w 75, 3) := by decide +kernel
theorem dX2_fitCentre_183 : decode cX2_fitCentre 183 = .ok (.dcmp .g, 1) := by decide +kernel
theorem dX2_fitCentre_184 : decode cX2_fitCentre 184 = .ok (.ifCond .ge 5, 3) := by decide +kernel
theorem dX2_fitCentre_187 : decode cX2_fitCentre 187 = .ok (.iconst 0, 1) := by decide +kernel
theorem dX2_fitCentre_188 : decode cX2_fitCentre 188 = .ok (.ireturn, 1) := by decide +kernel
theorem dX2_fitCentre_189 : decode cX2_fitCentre 189 = .ok (.aload_n 1, 1) := by decide +kernel
theorem dX2_fitCentre_190 : decode cX2_fitCentre 190 = .ok (.getfield 65, 3) := by decide +kernel
theorem dX2_fitCentre_193 : decode cX2_fitCentre 193 = .ok (.iload_n 2, 1) := by decide +kernel
theorem dX2_fitCentre_194 : decode cX2_fitCentre 194 = .ok (.dload 9, 2) := by decide +kernel
theorem dX2_fitCentre_196 : decode cX2_fitCentre 196 = .ok (.dload 7, 2) := by decide +kernel
theorem dX2_fitCentre_198 : decode cX2_fitCentre 198 = .ok (.dmul, 1) := by decide +kernel
theorem dX2_fitCentre_199 : decode cX2_fitCentre 199 = .ok (.dload 11, 2) := by decide +kernel
theorem dX2_fitCentre_201 : decode cX2_fitCentre 201 = .ok (.dload 5, 2) := by decide +kernel
theorem dX2_fitCentre_203 : decode cX2_fitCentre 203 = .ok (.dmul, 1) := by decide +kernel
theorem dX2_fitCentre_204 : decode cX2_fitCentre 204 = .ok (.dsub, 1) := by decide +kernel
theorem dX2_fitCentre_205 : decode cX2_fitCentre 205 = .ok (.dload 13, 2) := by decide +kernel
theorem dX2_fitCentre_207 : decode cX2_fitCentre 207 = .ok (.ddiv, 1) := by decide +kernel
theorem dX2_fitCentre_208 : decode cX2_fitCentre 208 = .ok (.dastore, 1) := by decide +kernel
theorem dX2_fitCentre_209 : decode cX2_fitCentre 209 = .ok (.aload_n 1, 1) := by decide +kernel
theorem dX2_fitCentre_210 : decode cX2_fitCentre 210 = .ok (.getfield 68, 3) := by decide +kernel
theorem dX2_fitCentre_213 : decode cX2_fitCentre 213 = .ok (.iload_n 2, 1) := by decide +kernel
theorem dX2_fitCentre_214 : decode cX2_fitCentre 214 = .ok (.dload_n 3, 1) := by decide +kernel
theorem dX2_fitCentre_215 : decode cX2_fitCentre 215 = .ok (.dload 11, 2) := by decide +kernel
theorem dX2_fitCentre_217 : decode cX2_fitCentre 217 = .ok (.dmul, 1) := by decide +kernel
theorem dX2_fitCentre_218 : decode cX2_fitCentre 218 = .ok (.dload 5, 2) := by decide +kernel
theorem dX2_fitCentre_220 : decode cX2_fitCentre 220 = .ok (.dload 9, 2) := by decide +kernel
theorem dX2_fitCentre_222 : decode cX2_fitCentre 222 = .ok (.dmul, 1) := by decide +kernel
theorem dX2_fitCentre_223 : decode cX2_fitCentre 223 = .ok (.dsub, 1) := by decide +kernel
theorem dX2_fitCentre_224 : decode cX2_fitCentre 224 = .ok (.dload 13, 2) := by decide +kernel
theorem dX2_fitCentre_226 : decode cX2_fitCentre 226 = .ok (.ddiv, 1) := by decide +kernel
theorem dX2_fitCentre_227 : decode cX2_fitCentre 227 = .ok (.dastore, 1) := by decide +kernel
theorem dX2_fitCentre_228 : decode cX2_fitCentre 228 = .ok (.iconst 1, 1) := by decide +kernel
theorem dX2_fitCentre_229 : decode cX2_fitCentre 229 = .ok (.ireturn, 1) := by decide +kernel
set_option maxRecDepth 20000 in
theorem ggX2_sumOfRadii_X2_place : GoodIn wsX2_sumOfRadii wsX2_place := goodIn_r _ [9, 1, 10, 11, 12, 13, 14, 15, 16] (by decide +kernel) (by decide +kernel)
set_option maxRecDepth 20000 in
theorem gX2_sumOfRadii_X2_place : GoodIn wsX2_sumOfRadii (wsV RX2 39 RX2 yX2_place wsX2_place) := goodIn_app (goodIn_of _ (by decide +kernel)) ggX2_sumOfRadii_X2_place
theorem dX2_sumOfRadii_0 : decode cX2_sumOfRadii 0 = .ok (.dconst 0, 1) := by decide +kernel
theorem dX2_sumOfRadii_1 : decode cX2_sumOfRadii 1 = .ok (.dstore_n 2, 1) := by decide +kernel
theorem dX2_sumOfRadii_2 : decode cX2_sumOfRadii 2 = .ok (.iconst 0, 1) := by decide +kernel
theorem dX2_sumOfRadii_3 : decode cX2_sumOfRadii 3 = .ok (.istore 4, 2) := by decide +kernel
theorem dX2_sumOfRadii_5 : decode cX2_sumOfRadii 5 = .ok (.iload 4, 2) := by decide +kernel
theorem dX2_sumOfRadii_7 : decode cX2_sumOfRadii 7 = .ok (.aload_n 0, 1) := by decide +kernel
theorem dX2_sumOfRadii_8 : decode cX2_sumOfRadii 8 = .ok (.getfield 7, 3) := by decide +kernel
theorem dX2_sumOfRadii_11 : decode cX2_sumOfRadii 11 = .ok (.if_icmp .ge 46, 3) := by decide +kernel
theorem dX2_sumOfRadii_14 : decode cX2_sumOfRadii 14 = .ok (.aload_n 0, 1) := by decide +kernel
theorem dX2_sumOfRadii_15 : decode cX2_sumOfRadii 15 = .ok (.iload_n 1, 1) := by decide +kernel
theorem dX2_sumOfRadii_16 : decode cX2_sumOfRadii 16 = .ok (.iload 4, 2) := by decide +kernel
theorem dX2_sumOfRadii_18 : decode cX2_sumOfRadii 18 = .ok (.invokevirtual 39, 3) := by decide +kernel
theorem dX2_sumOfRadii_21 : decode cX2_sumOfRadii 21 = .ok (.istore 5, 2) := by decide +kernel
theorem dX2_sumOfRadii_23 : decode cX2_sumOfRadii 23 = .ok (.aload_n 0, 1) := by decide +kernel
theorem dX2_sumOfRadii_24 : decode cX2_sumOfRadii 24 = .ok (.getfield 23, 3) := by decide +kernel
theorem dX2_sumOfRadii_27 : decode cX2_sumOfRadii 27 = .ok (.iload 5, 2) := by decide +kernel
theorem dX2_sumOfRadii_29 : decode cX2_sumOfRadii 29 = .ok (.baload, 1) := by decide +kernel
theorem dX2_sumOfRadii_30 : decode cX2_sumOfRadii 30 = .ok (.ifCond .eq 21, 3) := by decide +kernel
theorem dX2_sumOfRadii_33 : decode cX2_sumOfRadii 33 = .ok (.dload_n 2, 1) := by decide +kernel
theorem dX2_sumOfRadii_34 : decode cX2_sumOfRadii 34 = .ok (.aload_n 0, 1) := by decide +kernel
theorem dX2_sumOfRadii_35 : decode cX2_sumOfRadii 35 = .ok (.getfield 30, 3) := by decide +kernel
theorem dX2_sumOfRadii_38 : decode cX2_sumOfRadii 38 = .ok (.iload 5, 2) := by decide +kernel
theorem dX2_sumOfRadii_40 : decode cX2_sumOfRadii 40 = .ok (.daload, 1) := by decide +kernel
theorem dX2_sumOfRadii_41 : decode cX2_sumOfRadii 41 = .ok (.aload_n 0, 1) := by decide +kernel
theorem dX2_sumOfRadii_42 : decode cX2_sumOfRadii 42 = .ok (.getfield 20, 3) := by decide +kernel
theorem dX2_sumOfRadii_45 : decode cX2_sumOfRadii 45 = .ok (.iload 4, 2) := by decide +kernel
theorem dX2_sumOfRadii_47 : decode cX2_sumOfRadii 47 = .ok (.daload, 1) := by decide +kernel
theorem dX2_sumOfRadii_48 : decode cX2_sumOfRadii 48 = .ok (.ddiv, 1) := by decide +kernel
theorem dX2_sumOfRadii_49 : decode cX2_sumOfRadii 49 = .ok (.dadd, 1) := by decide +kernel
theorem dX2_sumOfRadii_50 : decode cX2_sumOfRadii 50 = .ok (.dstore_n 2, 1) := by decide +kernel
theorem dX2_sumOfRadii_51 : decode cX2_sumOfRadii 51 = .ok (.iinc 4 1, 3) := by decide +kernel
theorem dX2_sumOfRadii_54 : decode cX2_sumOfRadii 54 = .ok (.goto (-49), 3) := by decide +kernel
theorem dX2_sumOfRadii_57 : decode cX2_sumOfRadii 57 = .ok (.dload_n 2, 1) := by decide +kernel
theorem dX2_sumOfRadii_58 : decode cX2_sumOfRadii 58 = .ok (.dreturn, 1) := by decide +kernel
set_option maxRecDepth 20000 in
theorem ggX2_sumOfErrors_X2_place : GoodIn wsX2_sumOfErrors wsX2_place := goodIn_r _ [10, 1, 11, 12, 13, 14, 15, 16, 17] (by decide +kernel) (by decide +kernel)
set_option maxRecDepth 20000 in
theorem gX2_sumOfErrors_X2_place : GoodIn wsX2_sumOfErrors (wsV RX2 39 RX2 yX2_place wsX2_place) := goodIn_app (goodIn_of _ (by decide +kernel)) ggX2_sumOfErrors_X2_place
theorem dX2_sumOfErrors_0 : decode cX2_sumOfErrors 0 = .ok (.dconst 0, 1) := by decide +kernel
theorem dX2_sumOfErrors_1 : decode cX2_sumOfErrors 1 = .ok (.dstore 6, 2) := by decide +kernel
theorem dX2_sumOfErrors_3 : decode cX2_sumOfErrors 3 = .ok (.iconst 0, 1) := by decide +kernel
theorem dX2_sumOfErrors_4 : decode cX2_sumOfErrors 4 = .ok (.istore 8, 2) := by decide +kernel
theorem dX2_sumOfErrors_6 : decode cX2_sumOfErrors 6 = .ok (.iload 8, 2) := by decide +kernel
theorem dX2_sumOfErrors_8 : decode cX2_sumOfErrors 8 = .ok (.aload_n 0, 1) := by decide +kernel
theorem dX2_sumOfErrors_9 : decode cX2_sumOfErrors 9 = .ok (.getfield 7, 3) := by decide +kernel
theorem dX2_sumOfErrors_12 : decode cX2_sumOfErrors 12 = .ok (.if_icmp .ge 68, 3) := by decide +kernel
theorem dX2_sumOfErrors_15 : decode cX2_sumOfErrors 15 = .ok (.aload_n 0, 1) := by decide +kernel
theorem dX2_sumOfErrors_16 : decode cX2_sumOfErrors 16 = .ok (.iload_n 1, 1) := by decide +kernel
theorem dX2_sumOfErrors_17 : decode cX2_sumOfErrors 17 = .ok (.iload 8, 2) := by decide +kernel
theorem dX2_sumOfErrors_19 : decode cX2_sumOfErrors 19 = .ok (.invokevirtual 39, 3) := by decide +kernel
theorem dX2_sumOfErrors_22 : decode cX2_sumOfErrors 22 = .ok (.istore 9, 2) := by decide +kernel
theorem dX2_sumOfErrors_24 : decode cX2_sumOfErrors 24 = .ok (.aload_n 0, 1) := by decide +kernel
theorem dX2_sumOfErrors_25 : decode cX2_sumOfErrors 25 = .ok (.getfield 23, 3) := by decide +kernel
theorem dX2_sumOfErrors_28 : decode cX2_sumOfErrors 28 = .ok (.iload 9, 2) := by decide +kernel
theorem dX2_sumOfErrors_30 : decode cX2_sumOfErrors 30 = .ok (.baload, 1) := by decide +kernel
theorem dX2_sumOfErrors_31 : decode cX2_sumOfErrors 31 = .ok (.ifCond .eq 43, 3) := by decide +kernel
theorem dX2_sumOfErrors_34 : decode cX2_sumOfErrors 34 = .ok (.aload_n 0, 1) := by decide +kernel
theorem dX2_sumOfErrors_35 : decode cX2_sumOfErrors 35 = .ok (.getfield 27, 3) := by decide +kernel
theorem dX2_sumOfErrors_38 : decode cX2_sumOfErrors 38 = .ok (.iload 9, 2) := by decide +kernel
theorem dX2_sumOfErrors_40 : decode cX2_sumOfErrors 40 = .ok (.daload, 1) := by decide +kernel
theorem dX2_sumOfErrors_41 : decode cX2_sumOfErrors 41 = .ok (.aload_n 0, 1) := by decide +kernel
theorem dX2_sumOfErrors_42 : decode cX2_sumOfErrors 42 = .ok (.getfield 13, 3) := by decide +kernel
theorem dX2_sumOfErrors_45 : decode cX2_sumOfErrors 45 = .ok (.iload 8, 2) := by decide +kernel
theorem dX2_sumOfErrors_47 : decode cX2_sumOfErrors 47 = .ok (.daload, 1) := by decide +kernel
theorem dX2_sumOfErrors_48 : decode cX2_sumOfErrors 48 = .ok (.dload_n 2, 1) := by decide +kernel
theorem dX2_sumOfErrors_49 : decode cX2_sumOfErrors 49 = .ok (.dmul, 1) := by decide +kernel
theorem dX2_sumOfErrors_50 : decode cX2_sumOfErrors 50 = .ok (.dsub, 1) := by decide +kernel
theorem dX2_sumOfErrors_51 : decode cX2_sumOfErrors 51 = .ok (.aload_n 0, 1) := by decide +kernel
theorem dX2_sumOfErrors_52 : decode cX2_sumOfErrors 52 = .ok (.getfield 17, 3) := by decide +kernel
theorem dX2_sumOfErrors_55 : decode cX2_sumOfErrors 55 = .ok (.iload 8, 2) := by decide +kernel
theorem dX2_sumOfErrors_57 : decode cX2_sumOfErrors 57 = .ok (.daload, 1) := by decide +kernel
theorem dX2_sumOfErrors_58 : decode cX2_sumOfErrors 58 = .ok (.dload 4, 2) := by decide +kernel
theorem dX2_sumOfErrors_60 : decode cX2_sumOfErrors 60 = .ok (.dmul, 1) := by decide +kernel
theorem dX2_sumOfErrors_61 : decode cX2_sumOfErrors 61 = .ok (.dsub, 1) := by decide +kernel
theorem dX2_sumOfErrors_62 : decode cX2_sumOfErrors 62 = .ok (.dstore 10, 2) := by decide +kernel
theorem dX2_sumOfErrors_64 : decode cX2_sumOfErrors 64 = .ok (.dload 6, 2) := by decide +kernel
theorem dX2_sumOfErrors_66 : decode cX2_sumOfErrors 66 = .ok (.dload 10, 2) := by decide +kernel
theorem dX2_sumOfErrors_68 : decode cX2_sumOfErrors 68 = .ok (.dload 10, 2) := by decide +kernel
theorem dX2_sumOfErrors_70 : decode cX2_sumOfErrors 70 = .ok (.dmul, 1) := by decide +kernel
theorem dX2_sumOfErrors_71 : decode cX2_sumOfErrors 71 = .ok (.dadd, 1) := by decide +kernel
theorem dX2_sumOfErrors_72 : decode cX2_sumOfErrors 72 = .ok (.dstore 6, 2) := by decide +kernel
theorem dX2_sumOfErrors_74 : decode cX2_sumOfErrors 74 = .ok (.iinc 8 1, 3) := by decide +kernel
theorem dX2_sumOfErrors_77 : decode cX2_sumOfErrors 77 = .ok (.goto (-71), 3) := by decide +kernel
theorem dX2_sumOfErrors_80 : decode cX2_sumOfErrors 80 = .ok (.dload 6, 2) := by decide +kernel
theorem dX2_sumOfErrors_82 : decode cX2_sumOfErrors 82 = .ok (.dreturn, 1) := by decide +kernel
theorem dX3_init_0 : decode cX3_init 0 = .ok (.aload_n 0, 1) := by decide +kernel
theorem dX3_init_1 : decode cX3_init 1 = .ok (.invokespecial 3, 3) := by decide +kernel
theorem dX3_init_4 : decode cX3_init 4 = .ok (.aload_n 0, 1) := by decide +kernel
theorem dX3_init_5 : decode cX3_init 5 = .ok (.iload_n 1, 1) := by decide +kernel
theorem dX3_init_6 : decode cX3_init 6 = .ok (.putfield 9, 3) := by decide +kernel
theorem dX3_init_9 : decode cX3_init 9 = .ok (.aload_n 0, 1) := by decide +kernel
theorem dX3_init_10 : decode cX3_init 10 = .ok (.iload_n 1, 1) := by decide +kernel
theorem dX3_init_11 : decode cX3_init 11 = .ok (.newarray .double, 2) := by decide +kernel
theorem dX3_init_13 : decode cX3_init 13 = .ok (.putfield 15, 3) := by decide +kernel
theorem dX3_init_16 : decode cX3_init 16 = .ok (.aload_n 0, 1) := by decide +kernel
theorem dX3_init_17 : decode cX3_init 17 = .ok (.iload_n 1, 1) := by decide +kernel
theorem dX3_init_18 : decode cX3_init 18 = .ok (.newarray .double, 2) := by decide +kernel
theorem dX3_init_20 : decode cX3_init 20 = .ok (.putfield 19, 3) := by decide +kernel
theorem dX3_init_23 : decode cX3_init 23 = .ok (.aload_n 0, 1) := by decide +kernel
theorem dX3_init_24 : decode cX3_init 24 = .ok (.iload_n 1, 1) := by decide +kernel
theorem dX3_init_25 : decode cX3_init 25 = .ok (.newarray .double, 2) := by decide +kernel
theorem dX3_init_27 : decode cX3_init 27 = .ok (.putfield 22, 3) := by decide +kernel
theorem dX3_init_30 : decode cX3_init 30 = .ok (.aload_n 0, 1) := by decide +kernel
theorem dX3_init_31 : decode cX3_init 31 = .ok (.iload_n 1, 1) := by decide +kernel
theorem dX3_init_32 : decode cX3_init 32 = .ok (.newarray .double, 2) := by decide +kernel
theorem dX3_init_34 : decode cX3_init 34 = .ok (.putfield 25, 3) := by decide +kernel
theorem dX3_init_37 : decode cX3_init 37 = .ok (.aload_n 0, 1) := by decide +kernel
theorem dX3_init_38 : decode cX3_init 38 = .ok (.iload_n 1, 1) := by decide +kernel
theorem dX3_init_39 : decode cX3_init 39 = .ok (.newarray .boolean, 2) := by decide +kernel
theorem dX3_init_41 : decode cX3_init 41 = .ok (.putfield 28, 3) := by decide +kernel
theorem dX3_init_44 : decode cX3_init 44 = .ok (.return_, 1) := by decide +kernel
set_option maxRecDepth 20000 in
theorem ggX3_mendAll_X3_fittedBefore : GoodIn wsX3_mendAll wsX3_fittedBefore := goodIn_r _ [7, 2, 23, 24, 25, 26, 27, 28, 29] (by decide +kernel) (by decide +kernel)
set_option maxRecDepth 20000 in
theorem gX3_mendAll_X3_fittedBefore : GoodIn wsX3_mendAll (wsV RX3 32 RX3 yX3_fittedBefore wsX3_fittedBefore) := goodIn_app (goodIn_of _ (by decide +kernel)) ggX3_mendAll_X3_fittedBefore
set_option maxRecDepth 20000 in
theorem ggX3_mendAll_X3_fittedBehind : GoodIn wsX3_mendAll wsX3_fittedBehind := goodIn_r _ [11, 1, 2, 23, 24, 25, 26, 27, 28, 29] (by decide +kernel) (by decide +kernel)
set_option maxRecDepth 20000 in
theorem gX3_mendAll_X3_fittedBehind : GoodIn wsX3_mendAll (wsV RX3 36 RX3 yX3_fittedBehind wsX3_fittedBehind) := goodIn_app (goodIn_of _ (by decide +kernel)) ggX3_mendAll_X3_fittedBehind
set_option maxRecDepth 20000 in
theorem ggX3_mendAll_X3_mendOne : GoodIn wsX3_mendAll wsX3_mendOne := goodIn_r _ [15, 16, 17, 18, 19, 20, 21, 6, 22, 23, 24, 25, 26, 27, 28, 29] (by decide +kernel) (by decide +kernel)
set_option maxRecDepth 20000 in
theorem gX3_mendAll_X3_mendOne : GoodIn wsX3_mendAll (wsV RX3 39 RX3 yX3_mendOne wsX3_mendOne) := goodIn_app (goodIn_of _ (by decide +kernel)) ggX3_mendAll_X3_mendOne
theorem dX3_mendAll_0 : decode cX3_mendAll 0 = .ok (.iconst 0, 1) := by decide +kernel
theorem dX3_mendAll_1 : decode cX3_mendAll 1 = .ok (.istore_n 1, 1) := by decide +kernel
theorem dX3_mendAll_2 : decode cX3_mendAll 2 = .ok (.iload_n 1, 1) := by decide +kernel
theorem dX3_mendAll_3 : decode cX3_mendAll 3 = .ok (.aload_n 0, 1) := by decide +kernel
theorem dX3_mendAll_4 : decode cX3_mendAll 4 = .ok (.getfield 9, 3) := by decide +kernel
theorem dX3_mendAll_7 : decode cX3_mendAll 7 = .ok (.if_icmp .ge 33, 3) := by decide +kernel
theorem dX3_mendAll_10 : decode cX3_mendAll 10 = .ok (.aload_n 0, 1) := by decide +kernel
theorem dX3_mendAll_11 : decode cX3_mendAll 11 = .ok (.getfield 28, 3) := by decide +kernel
theorem dX3_mendAll_14 : decode cX3_mendAll 14 = .ok (.iload_n 1, 1) := by decide +kernel
theorem dX3_mendAll_15 : decode cX3_mendAll 15 = .ok (.baload, 1) := by decide +kernel
theorem dX3_mendAll_16 : decode cX3_mendAll 16 = .ok (.ifCond .ne 18, 3) := by decide +kernel
theorem dX3_mendAll_19 : decode cX3_mendAll 19 = .ok (.aload_n 0, 1) := by decide +kernel
theorem dX3_mendAll_20 : decode cX3_mendAll 20 = .ok (.iload_n 1, 1) := by decide +kernel
theorem dX3_mendAll_21 : decode cX3_mendAll 21 = .ok (.aload_n 0, 1) := by decide +kernel
theorem dX3_mendAll_22 : decode cX3_mendAll 22 = .ok (.iload_n 1, 1) := by decide +kernel
theorem dX3_mendAll_23 : decode cX3_mendAll 23 = .ok (.invokevirtual 32, 3) := by decide +kernel
theorem dX3_mendAll_26 : decode cX3_mendAll 26 = .ok (.aload_n 0, 1) := by decide +kernel
theorem dX3_mendAll_27 : decode cX3_mendAll 27 = .ok (.iload_n 1, 1) := by decide +kernel
theorem dX3_mendAll_28 : decode cX3_mendAll 28 = .ok (.invokevirtual 36, 3) := by decide +kernel
theorem dX3_mendAll_31 : decode cX3_mendAll 31 = .ok (.invokevirtual 39, 3) := by decide +kernel
theorem dX3_mendAll_34 : decode cX3_mendAll 34 = .ok (.iinc 1 1, 3) := by decide +kernel
theorem dX3_mendAll_37 : decode cX3_mendAll 37 = .ok (.goto (-35), 3) := by decide +kernel
theorem dX3_mendAll_40 : decode cX3_mendAll 40 = .ok (.return_, 1) := by decide +kernel
theorem dX3_areaOf_0 : decode cX3_areaOf 0 = .ok (.ldc2_w 43, 3) := by decide +kernel
theorem dX3_areaOf_3 : decode cX3_areaOf 3 = .ok (.aload_n 0, 1) := by decide +kernel
theorem dX3_areaOf_4 : decode cX3_areaOf 4 = .ok (.getfield 22, 3) := by decide +kernel
theorem dX3_areaOf_7 : decode cX3_areaOf 7 = .ok (.iload_n 1, 1) := by decide +kernel
theorem dX3_areaOf_8 : decode cX3_areaOf 8 = .ok (.daload, 1) := by decide +kernel
theorem dX3_areaOf_9 : decode cX3_areaOf 9 = .ok (.dmul, 1) := by decide +kernel
theorem dX3_areaOf_10 : decode cX3_areaOf 10 = .ok (.aload_n 0, 1) := by decide +kernel
theorem dX3_areaOf_11 : decode cX3_areaOf 11 = .ok (.getfield 22, 3) := by decide +kernel
theorem dX3_areaOf_14 : decode cX3_areaOf 14 = .ok (.iload_n 1, 1) := by decide +kernel
theorem dX3_areaOf_15 : decode cX3_areaOf 15 = .ok (.daload, 1) := by decide +kernel
theorem dX3_areaOf_16 : decode cX3_areaOf 16 = .ok (.dmul, 1) := by decide +kernel
theorem dX3_areaOf_17 : decode cX3_areaOf 17 = .ok (.dreturn, 1) := by decide +kernel
theorem dX3_covers_0 : decode cX3_covers 0 = .ok (.dload_n 2, 1) := by decide +kernel
theorem dX3_covers_1 : decode cX3_covers 1 = .ok (.aload_n 0, 1) := by decide +kernel
theorem dX3_covers_2 : decode cX3_covers 2 = .ok (.getfield 15, 3) := by decide +kernel
theorem dX3_covers_5 : decode cX3_covers 5 = .ok (.iload_n 1, 1) := by decide +kernel
theorem dX3_covers_6 : decode cX3_covers 6 = .ok (.daload, 1) := by decide +kernel
theorem dX3_covers_7 : decode cX3_covers 7 = .ok (.dsub, 1) := by decide +kernel
theorem dX3_covers_8 : decode cX3_covers 8 = .ok (.dstore 6, 2) := by decide +kernel
theorem dX3_covers_10 : decode cX3_covers 10 = .ok (.dload 4, 2) := by decide +kernel
theorem dX3_covers_12 : decode cX3_covers 12 = .ok (.aload_n 0, 1) := by decide +kernel
theorem dX3_covers_13 : decode cX3_covers 13 = .ok (.getfield 19, 3) := by decide +kernel
theorem dX3_covers_16 : decode cX3_covers 16 = .ok (.iload_n 1, 1) := by decide +kernel
theorem dX3_covers_17 : decode cX3_covers 17 = .ok (.daload, 1) := by decide +kernel
theorem dX3_covers_18 : decode cX3_covers 18 = .ok (.dsub, 1) := by decide +kernel
theorem dX3_covers_19 : decode cX3_covers 19 = .ok (.dstore 8, 2) := by decide +kernel
theorem dX3_covers_21 : decode cX3_covers 21 = .ok (.dload 6, 2) := by decide +kernel
theorem dX3_covers_23 : decode cX3_covers 23 = .ok (.dload 6, 2) := by decide +kernel
theorem dX3_covers_25 : decode cX3_covers 25 = .ok (.dmul, 1) := by decide +kernel
theorem dX3_covers_26 : decode cX3_covers 26 = .ok (.dload 8, 2) := by decide +kernel
theorem dX3_covers_28 : decode cX3_covers 28 = .ok (.dload 8, 2) := by decide +kernel
theorem dX3_covers_30 : decode cX3_covers 30 = .ok (.dmul, 1) := by decide +kernel
theorem dX3_covers_31 : decode cX3_covers 31 = .ok (.dadd, 1) := by decide +kernel
theorem dX3_covers_32 : decode cX3_covers 32 = .ok (.aload_n 0, 1) := by decide +kernel
theorem dX3_covers_33 : decode cX3_covers 33 = .ok (.getfield 22, 3) := by decide +kernel
theorem dX3_covers_36 : decode cX3_covers 36 = .ok (.iload_n 1, 1) := by decide +kernel
theorem dX3_covers_37 : decode cX3_covers 37 = .ok (.daload, 1) := by decide +kernel
theorem dX3_covers_38 : decode cX3_covers 38 = .ok (.aload_n 0, 1) := by decide +kernel
theorem dX3_covers_39 : decode cX3_covers 39 = .ok (.getfield 22, 3) := by decide +kernel
theorem dX3_covers_42 : decode cX3_covers 42 = .ok (.iload_n 1, 1) := by decide +kernel
theorem dX3_covers_43 : decode cX3_covers 43 = .ok (.daload, 1) := by decide +kernel
theorem dX3_covers_44 : decode cX3_covers 44 = .ok (.dmul, 1) := by decide +kernel
theorem dX3_covers_45 : decode cX3_covers 45 = .ok (.dcmp .g, 1) := by decide +kernel
theorem dX3_covers_46 : decode cX3_covers 46 = .ok (.ifCond .gt 7, 3) := by decide +kernel
theorem dX3_covers_49 : decode cX3_covers 49 = .ok (.iconst 1, 1) := by decide +kernel
theorem dX3_covers_50 : decode cX3_covers 50 = .ok (.goto 4, 3) := by decide +kernel
theorem dX3_covers_53 : decode cX3_covers 53 = .ok (.iconst 0, 1) := by decide +kernel
theorem dX3_covers_54 : decode cX3_covers 54 = .ok (.ireturn, 1) := by decide +kernel
set_option maxRecDepth 20000 in
theorem ggX3_cellsOf_X3_covers : GoodIn wsX3_cellsOf wsX3_covers := goodIn_r _ [5, 6, 7, 8, 9, 10, 11, 12, 13, 14, 15] (by decide +kernel) (by decide +kernel)
set_option maxRecDepth 20000 in
theorem gX3_cellsOf_X3_covers : GoodIn wsX3_cellsOf (wsV RX3 45 RX3 yX3_covers wsX3_covers) := goodIn_app (goodIn_of _ (by decide +kernel)) ggX3_cellsOf_X3_covers
theorem dX3_cellsOf_0 : decode cX3_cellsOf 0 = .ok (.iconst 0, 1) := by decide +kernel
theorem dX3_cellsOf_1 : decode cX3_cellsOf 1 = .ok (.istore_n 2, 1) := by decide +kernel
theorem dX3_cellsOf_2 : decode cX3_cellsOf 2 = .ok (.bipush (-40), 2) := by decide +kernel
theorem dX3_cellsOf_4 : decode cX3_cellsOf 4 = .ok (.istore_n 3, 1) := by decide +kernel
theorem dX3_cellsOf_5 : decode cX3_cellsOf 5 = .ok (.iload_n 3, 1) := by decide +kernel
theorem dX3_cellsOf_6 : decode cX3_cellsOf 6 = .ok (.bipush 40, 2) := by decide +kernel
theorem dX3_cellsOf_8 : decode cX3_cellsOf 8 = .ok (.if_icmp .gt 42, 3) := by decide +kernel
theorem dX3_cellsOf_11 : decode cX3_cellsOf 11 = .ok (.bipush (-40), 2) := by decide +kernel
theorem dX3_cellsOf_13 : decode cX3_cellsOf 13 = .ok (.istore 4, 2) := by decide +kernel
theorem dX3_cellsOf_15 : decode cX3_cellsOf 15 = .ok (.iload 4, 2) := by decide +kernel
theorem dX3_cellsOf_17 : decode cX3_cellsOf 17 = .ok (.bipush 40, 2) := by decide +kernel
theorem dX3_cellsOf_19 : decode cX3_cellsOf 19 = .ok (.if_icmp .gt 25, 3) := by decide +kernel
theorem dX3_cellsOf_22 : decode cX3_cellsOf 22 = .ok (.aload_n 0, 1) := by decide +kernel
theorem dX3_cellsOf_23 : decode cX3_cellsOf 23 = .ok (.iload_n 1, 1) := by decide +kernel
theorem dX3_cellsOf_24 : decode cX3_cellsOf 24 = .ok (.iload_n 3, 1) := by decide +kernel
theorem dX3_cellsOf_25 : decode cX3_cellsOf 25 = .ok (.i2d, 1) := by decide +kernel
theorem dX3_cellsOf_26 : decode cX3_cellsOf 26 = .ok (.iload 4, 2) := by decide +kernel
theorem dX3_cellsOf_28 : decode cX3_cellsOf 28 = .ok (.i2d, 1) := by decide +kernel
theorem dX3_cellsOf_29 : decode cX3_cellsOf 29 = .ok (.invokevirtual 45, 3) := by decide +kernel
theorem dX3_cellsOf_32 : decode cX3_cellsOf 32 = .ok (.ifCond .eq 6, 3) := by decide +kernel
theorem dX3_cellsOf_35 : decode cX3_cellsOf 35 = .ok (.iinc 2 1, 3) := by decide +kernel
theorem dX3_cellsOf_38 : decode cX3_cellsOf 38 = .ok (.iinc 4 1, 3) := by decide +kernel
theorem dX3_cellsOf_41 : decode cX3_cellsOf 41 = .ok (.goto (-26), 3) := by decide +kernel
theorem dX3_cellsOf_44 : decode cX3_cellsOf 44 = .ok (.iinc 3 1, 3) := by decide +kernel
theorem dX3_cellsOf_47 : decode cX3_cellsOf 47 = .ok (.goto (-42), 3) := by decide +kernel
theorem dX3_cellsOf_50 : decode cX3_cellsOf 50 = .ok (.iload_n 2, 1) := by decide +kernel
theorem dX3_cellsOf_51 : decode cX3_cellsOf 51 = .ok (.ireturn, 1) := by decide +kernel
set_option maxRecDepth 20000 in
theorem ggX3_sumOfAreas_X3_areaOf : GoodIn wsX3_sumOfAreas wsX3_areaOf := goodIn_r _ [6, 7, 8, 9, 10, 11, 12, 13, 14, 15] (by decide +kernel) (by decide +kernel)
set_option maxRecDepth 20000 in
theorem gX3_sumOfAreas_X3_areaOf : GoodIn wsX3_sumOfAreas (wsV RX3 49 RX3 yX3_areaOf wsX3_areaOf) := goodIn_app (goodIn_of _ (by decide +kernel)) ggX3_sumOfAreas_X3_areaOf
theorem dX3_sumOfAreas_0 : decode cX3_sumOfAreas 0 = .ok (.dconst 0, 1) := by decide +kernel
theorem dX3_sumOfAreas_1 : decode cX3_sumOfAreas 1 = .ok (.dstore_n 1, 1) := by decide +kernel
theorem dX3_sumOfAreas_2 : decode cX3_sumOfAreas 2 = .ok (.iconst 0, 1) := by decide +kernel
theorem dX3_sumOfAreas_3 : decode cX3_sumOfAreas 3 = .ok (.istore_n 3, 1) := by decide +kernel
theorem dX3_sumOfAreas_4 : decode cX3_sumOfAreas 4 = .ok (.iload_n 3, 1) := by decide +kernel
theorem dX3_sumOfAreas_5 : decode cX3_sumOfAreas 5 = .ok (.aload_n 0, 1) := by decide +kernel
theorem dX3_sumOfAreas_6 : decode cX3_sumOfAreas 6 = .ok (.getfield 9, 3) := by decide +kernel
theorem dX3_sumOfAreas_9 : decode cX3_sumOfAreas 9 = .ok (.if_icmp .ge 17, 3) := by decide +kernel
theorem dX3_sumOfAreas_12 : decode cX3_sumOfAreas 12 = .ok (.dload_n 1, 1) := by decide +kernel
theorem dX3_sumOfAreas_13 : decode cX3_sumOfAreas 13 = .ok (.aload_n 0, 1) := by decide +kernel
theorem dX3_sumOfAreas_14 : decode cX3_sumOfAreas 14 = .ok (.iload_n 3, 1) := by decide +kernel
theorem dX3_sumOfAreas_15 : decode cX3_sumOfAreas 15 = .ok (.invokevirtual 49, 3) := by decide +kernel
theorem dX3_sumOfAreas_18 : decode cX3_sumOfAreas 18 = .ok (.dadd, 1) := by decide +kernel
theorem dX3_sumOfAreas_19 : decode cX3_sumOfAreas 19 = .ok (.dstore_n 1, 1) := by decide +kernel
theorem dX3_sumOfAreas_20 : decode cX3_sumOfAreas 20 = .ok (.iinc 3 1, 3) := by decide +kernel
theorem dX3_sumOfAreas_23 : decode cX3_sumOfAreas 23 = .ok (.goto (-19), 3) := by decide +kernel
theorem dX3_sumOfAreas_26 : decode cX3_sumOfAreas 26 = .ok (.dload_n 1, 1) := by decide +kernel
theorem dX3_sumOfAreas_27 : decode cX3_sumOfAreas 27 = .ok (.dreturn, 1) := by decide +kernel
theorem dX3_thinning_0 : decode cX3_thinning 0 = .ok (.aload_n 0, 1) := by decide +kernel
theorem dX3_thinning_1 : decode cX3_thinning 1 = .ok (.getfield 9, 3) := by decide +kernel
theorem dX3_thinning_4 : decode cX3_thinning 4 = .ok (.iconst 1, 1) := by decide +kernel
theorem dX3_thinning_5 : decode cX3_thinning 5 = .ok (.if_icmp .ne 5, 3) := by decide +kernel
theorem dX3_thinning_8 : decode cX3_thinning 8 = .ok (.dconst 0, 1) := by decide +kernel
theorem dX3_thinning_9 : decode cX3_thinning 9 = .ok (.dreturn, 1) := by decide +kernel
theorem dX3_thinning_10 : decode cX3_thinning 10 = .ok (.aload_n 0, 1) := by decide +kernel
theorem dX3_thinning_11 : decode cX3_thinning 11 = .ok (.getfield 22, 3) := by decide +kernel
theorem dX3_thinning_14 : decode cX3_thinning 14 = .ok (.iconst 0, 1) := by decide +kernel
theorem dX3_thinning_15 : decode cX3_thinning 15 = .ok (.daload, 1) := by decide +kernel
theorem dX3_thinning_16 : decode cX3_thinning 16 = .ok (.aload_n 0, 1) := by decide +kernel
theorem dX3_thinning_17 : decode cX3_thinning 17 = .ok (.getfield 22, 3) := by decide +kernel
theorem dX3_thinning_20 : decode cX3_thinning 20 = .ok (.aload_n 0, 1) := by decide +kernel
theorem dX3_thinning_21 : decode cX3_thinning 21 = .ok (.getfield 9, 3) := by decide +kernel
theorem dX3_thinning_24 : decode cX3_thinning 24 = .ok (.iconst 1, 1) := by decide +kernel
theorem dX3_thinning_25 : decode cX3_thinning 25 = .ok (.isub, 1) := by decide +kernel
theorem dX3_thinning_26 : decode cX3_thinning 26 = .ok (.daload, 1) := by decide +kernel
theorem dX3_thinning_27 : decode cX3_thinning 27 = .ok (.dsub, 1) := by decide +kernel
theorem dX3_thinning_28 : decode cX3_thinning 28 = .ok (.aload_n 0, 1) := by decide +kernel
theorem dX3_thinning_29 : decode cX3_thinning 29 = .ok (.getfield 9, 3) := by decide +kernel
theorem dX3_thinning_32 : decode cX3_thinning 32 = .ok (.iconst 1, 1) := by decide +kernel
theorem dX3_thinning_33 : decode cX3_thinning 33 = .ok (.isub, 1) := by decide +kernel
theorem dX3_thinning_34 : decode cX3_thinning 34 = .ok (.i2d, 1) := by decide +kernel
theorem dX3_thinning_35 : decode cX3_thinning 35 = .ok (.ddiv, 1) := by decide +kernel
theorem dX3_thinning_36 : decode cX3_thinning 36 = .ok (.dreturn, 1) := by decide +kernel
set_option maxRecDepth 20000 in
theorem ggX3_greatestBend_X3_straight : GoodIn wsX3_greatestBend wsX3_straight := goodIn_r _ [8, 1, 9, 10, 11, 12, 13, 14, 15] (by decide +kernel) (by decide +kernel)
set_option maxRecDepth 20000 in
theorem gX3_greatestBend_X3_straight : GoodIn wsX3_greatestBend (wsV RX3 53 RX3 yX3_straight wsX3_straight) := goodIn_app (goodIn_of _ (by decide +kernel)) ggX3_greatestBend_X3_straight
theorem dX3_greatestBend_0 : decode cX3_greatestBend 0 = .ok (.dconst 0, 1) := by decide +kernel
theorem dX3_greatestBend_1 : decode cX3_greatestBend 1 = .ok (.dstore_n 1, 1) := by decide +kernel
theorem dX3_greatestBend_2 : decode cX3_greatestBend 2 = .ok (.aload_n 0, 1) := by decide +kernel
theorem dX3_greatestBend_3 : decode cX3_greatestBend 3 = .ok (.getfield 9, 3) := by decide +kernel
theorem dX3_greatestBend_6 : decode cX3_greatestBend 6 = .ok (.iconst 1, 1) := by decide +kernel
theorem dX3_greatestBend_7 : decode cX3_greatestBend 7 = .ok (.if_icmp .ne 5, 3) := by decide +kernel
theorem dX3_greatestBend_10 : decode cX3_greatestBend 10 = .ok (.dload_n 1, 1) := by decide +kernel
theorem dX3_greatestBend_11 : decode cX3_greatestBend 11 = .ok (.dreturn, 1) := by decide +kernel
theorem dX3_greatestBend_12 : decode cX3_greatestBend 12 = .ok (.iconst 0, 1) := by decide +kernel
theorem dX3_greatestBend_13 : decode cX3_greatestBend 13 = .ok (.istore_n 3, 1) := by decide +kernel
theorem dX3_greatestBend_14 : decode cX3_greatestBend 14 = .ok (.iload_n 3, 1) := by decide +kernel
theorem dX3_greatestBend_15 : decode cX3_greatestBend 15 = .ok (.aload_n 0, 1) := by decide +kernel
theorem dX3_greatestBend_16 : decode cX3_greatestBend 16 = .ok (.getfield 9, 3) := by decide +kernel
theorem dX3_greatestBend_19 : decode cX3_greatestBend 19 = .ok (.if_icmp .ge 68, 3) := by decide +kernel
theorem dX3_greatestBend_22 : decode cX3_greatestBend 22 = .ok (.aload_n 0, 1) := by decide +kernel
theorem dX3_greatestBend_23 : decode cX3_greatestBend 23 = .ok (.getfield 15, 3) := by decide +kernel
theorem dX3_greatestBend_26 : decode cX3_greatestBend 26 = .ok (.iload_n 3, 1) := by decide +kernel
theorem dX3_greatestBend_27 : decode cX3_greatestBend 27 = .ok (.daload, 1) := by decide +kernel
theorem dX3_greatestBend_28 : decode cX3_greatestBend 28 = .ok (.aload_n 0, 1) := by decide +kernel
theorem dX3_greatestBend_29 : decode cX3_greatestBend 29 = .ok (.aload_n 0, 1) := by decide +kernel
theorem dX3_greatestBend_30 : decode cX3_greatestBend 30 = .ok (.getfield 15, 3) := by decide +kernel
theorem dX3_greatestBend_33 : decode cX3_greatestBend 33 = .ok (.iload_n 3, 1) := by decide +kernel
theorem dX3_greatestBend_34 : decode cX3_greatestBend 34 = .ok (.invokevirtual 53, 3) := by decide +kernel
theorem dX3_greatestBend_37 : decode cX3_greatestBend 37 = .ok (.dsub, 1) := by decide +kernel
theorem dX3_greatestBend_38 : decode cX3_greatestBend 38 = .ok (.dstore 4, 2) := by decide +kernel
theorem dX3_greatestBend_40 : decode cX3_greatestBend 40 = .ok (.aload_n 0, 1) := by decide +kernel
theorem dX3_greatestBend_41 : decode cX3_greatestBend 41 = .ok (.getfield 19, 3) := by decide +kernel
theorem dX3_greatestBend_44 : decode cX3_greatestBend 44 = .ok (.iload_n 3, 1) := by decide +kernel
theorem dX3_greatestBend_45 : decode cX3_greatestBend 45 = .ok (.daload, 1) := by decide +kernel
theorem dX3_greatestBend_46 : decode cX3_greatestBend 46 = .ok (.aload_n 0, 1) := by decide +kernel
theorem dX3_greatestBend_47 : decode cX3_greatestBend 47 = .ok (.aload_n 0, 1) := by decide +kernel
theorem dX3_greatestBend_48 : decode cX3_greatestBend 48 = .ok (.getfield 19, 3) := by decide +kernel
theorem dX3_greatestBend_51 : decode cX3_greatestBend 51 = .ok (.iload_n 3, 1) := by decide +kernel
theorem dX3_greatestBend_52 : decode cX3_greatestBend 52 = .ok (.invokevirtual 53, 3) := by decide +kernel
theorem dX3_greatestBend_55 : decode cX3_greatestBend 55 = .ok (.dsub, 1) := by decide +kernel
theorem dX3_greatestBend_56 : decode cX3_greatestBend 56 = .ok (.dstore 6, 2) := by decide +kernel
theorem dX3_greatestBend_58 : decode cX3_greatestBend 58 = .ok (.dload 4, 2) := by decide +kernel
theorem dX3_greatestBend_60 : decode cX3_greatestBend 60 = .ok (.dload 4, 2) := by decide +kernel
theorem dX3_greatestBend_62 : decode cX3_greatestBend 62 = .ok (.dmul, 1) := by decide +kernel
theorem dX3_greatestBend_63 : decode cX3_greatestBend 63 = .ok (.dload 6, 2) := by decide +kernel
theorem dX3_greatestBend_65 : decode cX3_greatestBend 65 = .ok (.dload 6, 2) := by decide +kernel
theorem dX3_greatestBend_67 : decode cX3_greatestBend 67 = .ok (.dmul, 1) := by decide +kernel
theorem dX3_greatestBend_68 : decode cX3_greatestBend 68 = .ok (.dadd, 1) := by decide +kernel
theorem dX3_greatestBend_69 : decode cX3_greatestBend 69 = .ok (.dstore 8, 2) := by decide +kernel
theorem dX3_greatestBend_71 : decode cX3_greatestBend 71 = .ok (.dload 8, 2) := by decide +kernel
theorem dX3_greatestBend_73 : decode cX3_greatestBend 73 = .ok (.dload_n 1, 1) := by decide +kernel
theorem dX3_greatestBend_74 : decode cX3_greatestBend 74 = .ok (.dcmp .l, 1) := by decide +kernel
theorem dX3_greatestBend_75 : decode cX3_greatestBend 75 = .ok (.ifCond .le 6, 3) := by decide +kernel
theorem dX3_greatestBend_78 : decode cX3_greatestBend 78 = .ok (.dload 8, 2) := by decide +kernel
theorem dX3_greatestBend_80 : decode cX3_greatestBend 80 = .ok (.dstore_n 1, 1) := by decide +kernel
theorem dX3_greatestBend_81 : decode cX3_greatestBend 81 = .ok (.iinc 3 1, 3) := by decide +kernel
theorem dX3_greatestBend_84 : decode cX3_greatestBend 84 = .ok (.goto (-70), 3) := by decide +kernel
theorem dX3_greatestBend_87 : decode cX3_greatestBend 87 = .ok (.dload_n 1, 1) := by decide +kernel
theorem dX3_greatestBend_88 : decode cX3_greatestBend 88 = .ok (.dreturn, 1) := by decide +kernel
theorem dX3_lastRadius_0 : decode cX3_lastRadius 0 = .ok (.aload_n 0, 1) := by decide +kernel
theorem dX3_lastRadius_1 : decode cX3_lastRadius 1 = .ok (.getfield 22, 3) := by decide +kernel
theorem dX3_lastRadius_4 : decode cX3_lastRadius 4 = .ok (.aload_n 0, 1) := by decide +kernel
theorem dX3_lastRadius_5 : decode cX3_lastRadius 5 = .ok (.getfield 9, 3) := by decide +kernel
theorem dX3_lastRadius_8 : decode cX3_lastRadius 8 = .ok (.iconst 1, 1) := by decide +kernel
theorem dX3_lastRadius_9 : decode cX3_lastRadius 9 = .ok (.isub, 1) := by decide +kernel
theorem dX3_lastRadius_10 : decode cX3_lastRadius 10 = .ok (.daload, 1) := by decide +kernel
theorem dX3_lastRadius_11 : decode cX3_lastRadius 11 = .ok (.dreturn, 1) := by decide +kernel
theorem dX3_straight_0 : decode cX3_straight 0 = .ok (.aload_n 1, 1) := by decide +kernel
theorem dX3_straight_1 : decode cX3_straight 1 = .ok (.iconst 0, 1) := by decide +kernel
theorem dX3_straight_2 : decode cX3_straight 2 = .ok (.daload, 1) := by decide +kernel
theorem dX3_straight_3 : decode cX3_straight 3 = .ok (.aload_n 1, 1) := by decide +kernel
theorem dX3_straight_4 : decode cX3_straight 4 = .ok (.aload_n 0, 1) := by decide +kernel
theorem dX3_straight_5 : decode cX3_straight 5 = .ok (.getfield 9, 3) := by decide +kernel
theorem dX3_straight_8 : decode cX3_straight 8 = .ok (.iconst 1, 1) := by decide +kernel
theorem dX3_straight_9 : decode cX3_straight 9 = .ok (.isub, 1) := by decide +kernel
theorem dX3_straight_10 : decode cX3_straight 10 = .ok (.daload, 1) := by decide +kernel
theorem dX3_straight_11 : decode cX3_straight 11 = .ok (.aload_n 1, 1) := by decide +kernel
theorem dX3_straight_12 : decode cX3_straight 12 = .ok (.iconst 0, 1) := by decide +kernel
theorem dX3_straight_13 : decode cX3_straight 13 = .ok (.daload, 1) := by decide +kernel
theorem dX3_straight_14 : decode cX3_straight 14 = .ok (.dsub, 1) := by decide +kernel
theorem dX3_straight_15 : decode cX3_straight 15 = .ok (.iload_n 2, 1) := by decide +kernel
theorem dX3_straight_16 : decode cX3_straight 16 = .ok (.i2d, 1) := by decide +kernel
theorem dX3_straight_17 : decode cX3_straight 17 = .ok (.dmul, 1) := by decide +kernel
theorem dX3_straight_18 : decode cX3_straight 18 = .ok (.aload_n 0, 1) := by decide +kernel
theorem dX3_straight_19 : decode cX3_straight 19 = .ok (.getfield 9, 3) := by decide +kernel
theorem dX3_straight_22 : decode cX3_straight 22 = .ok (.iconst 1, 1) := by decide +kernel
theorem dX3_straight_23 : decode cX3_straight 23 = .ok (.isub, 1) := by decide +kernel
theorem dX3_straight_24 : decode cX3_straight 24 = .ok (.i2d, 1) := by decide +kernel
theorem dX3_straight_25 : decode cX3_straight 25 = .ok (.ddiv, 1) := by decide +kernel
theorem dX3_straight_26 : decode cX3_straight 26 = .ok (.dadd, 1) := by decide +kernel
theorem dX3_straight_27 : decode cX3_straight 27 = .ok (.dreturn, 1) := by decide +kernel
theorem dX3_fittedBefore_0 : decode cX3_fittedBefore 0 = .ok (.iload_n 1, 1) := by decide +kernel
theorem dX3_fittedBefore_1 : decode cX3_fittedBefore 1 = .ok (.iconst 1, 1) := by decide +kernel
theorem dX3_fittedBefore_2 : decode cX3_fittedBefore 2 = .ok (.isub, 1) := by decide +kernel
theorem dX3_fittedBefore_3 : decode cX3_fittedBefore 3 = .ok (.istore_n 2, 1) := by decide +kernel
theorem dX3_fittedBefore_4 : decode cX3_fittedBefore 4 = .ok (.iload_n 2, 1) := by decide +kernel
theorem dX3_fittedBefore_5 : decode cX3_fittedBefore 5 = .ok (.ifCond .lt 20, 3) := by decide +kernel
theorem dX3_fittedBefore_8 : decode cX3_fittedBefore 8 = .ok (.aload_n 0, 1) := by decide +kernel
theorem dX3_fittedBefore_9 : decode cX3_fittedBefore 9 = .ok (.getfield 28, 3) := by decide +kernel
theorem dX3_fittedBefore_12 : decode cX3_fittedBefore 12 = .ok (.iload_n 2, 1) := by decide +kernel
theorem dX3_fittedBefore_13 : decode cX3_fittedBefore 13 = .ok (.baload, 1) := by decide +kernel
theorem dX3_fittedBefore_14 : decode cX3_fittedBefore 14 = .ok (.ifCond .eq 5, 3) := by decide +kernel
theorem dX3_fittedBefore_17 : decode cX3_fittedBefore 17 = .ok (.iload_n 2, 1) := by decide +kernel
theorem dX3_fittedBefore_18 : decode cX3_fittedBefore 18 = .ok (.ireturn, 1) := by decide +kernel
theorem dX3_fittedBefore_19 : decode cX3_fittedBefore 19 = .ok (.iinc 2 (-1), 3) := by decide +kernel
theorem dX3_fittedBefore_22 : decode cX3_fittedBefore 22 = .ok (.goto (-18), 3) := by decide +kernel
theorem dX3_fittedBefore_25 : decode cX3_fittedBefore 25 = .ok (.iconst (-1), 1) := by decide +kernel
theorem dX3_fittedBefore_26 : decode cX3_fittedBefore 26 = .ok (.ireturn, 1) := by decide +kernel
theorem dX3_fittedBehind_0 : decode cX3_fittedBehind 0 = .ok (.iload_n 1, 1) := by decide +kernel
theorem dX3_fittedBehind_1 : decode cX3_fittedBehind 1 = .ok (.iconst 1, 1) := by decide +kernel
theorem dX3_fittedBehind_2 : decode cX3_fittedBehind 2 = .ok (.iadd, 1) := by decide +kernel
theorem dX3_fittedBehind_3 : decode cX3_fittedBehind 3 = .ok (.istore_n 2, 1) := by decide +kernel
theorem dX3_fittedBehind_4 : decode cX3_fittedBehind 4 = .ok (.iload_n 2, 1) := by decide +kernel
theorem dX3_fittedBehind_5 : decode cX3_fittedBehind 5 = .ok (.aload_n 0, 1) := by decide +kernel
theorem dX3_fittedBehind_6 : decode cX3_fittedBehind 6 = .ok (.getfield 9, 3) := by decide +kernel
theorem dX3_fittedBehind_9 : decode cX3_fittedBehind 9 = .ok (.if_icmp .ge 20, 3) := by decide +kernel
theorem dX3_fittedBehind_12 : decode cX3_fittedBehind 12 = .ok (.aload_n 0, 1) := by decide +kernel
theorem dX3_fittedBehind_13 : decode cX3_fittedBehind 13 = .ok (.getfield 28, 3) := by decide +kernel
theorem dX3_fittedBehind_16 : decode cX3_fittedBehind 16 = .ok (.iload_n 2, 1) := by decide +kernel
theorem dX3_fittedBehind_17 : decode cX3_fittedBehind 17 = .ok (.baload, 1) := by decide +kernel
theorem dX3_fittedBehind_18 : decode cX3_fittedBehind 18 = .ok (.ifCond .eq 5, 3) := by decide +kernel
theorem dX3_fittedBehind_21 : decode cX3_fittedBehind 21 = .ok (.iload_n 2, 1) := by decide +kernel
theorem dX3_fittedBehind_22 : decode cX3_fittedBehind 22 = .ok (.ireturn, 1) := by decide +kernel
theorem dX3_fittedBehind_23 : decode cX3_fittedBehind 23 = .ok (.iinc 2 1, 3) := by decide +kernel
theorem dX3_fittedBehind_26 : decode cX3_fittedBehind 26 = .ok (.goto (-22), 3) := by decide +kernel
theorem dX3_fittedBehind_29 : decode cX3_fittedBehind 29 = .ok (.iconst (-1), 1) := by decide +kernel
theorem dX3_fittedBehind_30 : decode cX3_fittedBehind 30 = .ok (.ireturn, 1) := by decide +kernel
set_option maxRecDepth 20000 in
theorem ggX3_mendOne_X3_between : GoodIn wsX3_mendOne wsX3_between := goodIn_r _ [8] (by decide +kernel) (by decide +kernel)
set_option maxRecDepth 20000 in
theorem gX3_mendOne_X3_between : GoodIn wsX3_mendOne (va_wsS RX3 57 yX3_between wsX3_between) := goodIn_app (goodIn_of _ (by decide +kernel)) ggX3_mendOne_X3_between
theorem dX3_mendOne_0 : decode cX3_mendOne 0 = .ok (.iload_n 2, 1) := by decide +kernel
theorem dX3_mendOne_1 : decode cX3_mendOne 1 = .ok (.iconst (-1), 1) := by decide +kernel
theorem dX3_mendOne_2 : decode cX3_mendOne 2 = .ok (.if_icmp .ne 7, 3) := by decide +kernel
theorem dX3_mendOne_5 : decode cX3_mendOne 5 = .ok (.iload_n 3, 1) := by decide +kernel
theorem dX3_mendOne_6 : decode cX3_mendOne 6 = .ok (.goto 4, 3) := by decide +kernel
theorem dX3_mendOne_9 : decode cX3_mendOne 9 = .ok (.iload_n 2, 1) := by decide +kernel
theorem dX3_mendOne_10 : decode cX3_mendOne 10 = .ok (.istore 4, 2) := by decide +kernel
theorem dX3_mendOne_12 : decode cX3_mendOne 12 = .ok (.iload_n 3, 1) := by decide +kernel
theorem dX3_mendOne_13 : decode cX3_mendOne 13 = .ok (.iconst (-1), 1) := by decide +kernel
theorem dX3_mendOne_14 : decode cX3_mendOne 14 = .ok (.if_icmp .ne 7, 3) := by decide +kernel
theorem dX3_mendOne_17 : decode cX3_mendOne 17 = .ok (.iload_n 2, 1) := by decide +kernel
theorem dX3_mendOne_18 : decode cX3_mendOne 18 = .ok (.goto 4, 3) := by decide +kernel
theorem dX3_mendOne_21 : decode cX3_mendOne 21 = .ok (.iload_n 3, 1) := by decide +kernel
theorem dX3_mendOne_22 : decode cX3_mendOne 22 = .ok (.istore 5, 2) := by decide +kernel
theorem dX3_mendOne_24 : decode cX3_mendOne 24 = .ok (.iload 4, 2) := by decide +kernel
theorem dX3_mendOne_26 : decode cX3_mendOne 26 = .ok (.iconst (-1), 1) := by decide +kernel
theorem dX3_mendOne_27 : decode cX3_mendOne 27 = .ok (.if_icmp .eq 9, 3) := by decide +kernel
theorem dX3_mendOne_30 : decode cX3_mendOne 30 = .ok (.iload 5, 2) := by decide +kernel
theorem dX3_mendOne_32 : decode cX3_mendOne 32 = .ok (.iconst (-1), 1) := by decide +kernel
theorem dX3_mendOne_33 : decode cX3_mendOne 33 = .ok (.if_icmp .ne 4, 3) := by decide +kernel
theorem dX3_mendOne_36 : decode cX3_mendOne 36 = .ok (.return_, 1) := by decide +kernel
theorem dX3_mendOne_37 : decode cX3_mendOne 37 = .ok (.aload_n 0, 1) := by decide +kernel
theorem dX3_mendOne_38 : decode cX3_mendOne 38 = .ok (.getfield 15, 3) := by decide +kernel
theorem dX3_mendOne_41 : decode cX3_mendOne 41 = .ok (.iload_n 1, 1) := by decide +kernel
theorem dX3_mendOne_42 : decode cX3_mendOne 42 = .ok (.aload_n 0, 1) := by decide +kernel
theorem dX3_mendOne_43 : decode cX3_mendOne 43 = .ok (.getfield 15, 3) := by decide +kernel
theorem dX3_mendOne_46 : decode cX3_mendOne 46 = .ok (.iload_n 1, 1) := by decide +kernel
theorem dX3_mendOne_47 : decode cX3_mendOne 47 = .ok (.iload 4, 2) := by decide +kernel
theorem dX3_mendOne_49 : decode cX3_mendOne 49 = .ok (.iload 5, 2) := by decide +kernel
theorem dX3_mendOne_51 : decode cX3_mendOne 51 = .ok (.invokestatic 57, 3) := by decide +kernel
theorem dX3_mendOne_54 : decode cX3_mendOne 54 = .ok (.dastore, 1) := by decide +kernel
theorem dX3_mendOne_55 : decode cX3_mendOne 55 = .ok (.aload_n 0, 1) := by decide +kernel
theorem dX3_mendOne_56 : decode cX3_mendOne 56 = .ok (.getfield 19, 3) := by decide +kernel
theorem dX3_mendOne_59 : decode cX3_mendOne 59 = .ok (.iload_n 1, 1) := by decide +kernel
theorem dX3_mendOne_60 : decode cX3_mendOne 60 = .ok (.aload_n 0, 1) := by decide +kernel
theorem dX3_mendOne_61 : decode cX3_mendOne 61 = .ok (.getfield 19, 3) := by decide +kernel
theorem dX3_mendOne_64 : decode cX3_mendOne 64 = .ok (.iload_n 1, 1) := by decide +kernel
theorem dX3_mendOne_65 : decode cX3_mendOne 65 = .ok (.iload 4, 2) := by decide +kernel
theorem dX3_mendOne_67 : decode cX3_mendOne 67 = .ok (.iload 5, 2) := by decide +kernel
theorem dX3_mendOne_69 : decode cX3_mendOne 69 = .ok (.invokestatic 57, 3) := by decide +kernel
theorem dX3_mendOne_72 : decode cX3_mendOne 72 = .ok (.dastore, 1) := by decide +kernel
theorem dX3_mendOne_73 : decode cX3_mendOne 73 = .ok (.aload_n 0, 1) := by decide +kernel
theorem dX3_mendOne_74 : decode cX3_mendOne 74 = .ok (.getfield 22, 3) := by decide +kernel
theorem dX3_mendOne_77 : decode cX3_mendOne 77 = .ok (.iload_n 1, 1) := by decide +kernel
theorem dX3_mendOne_78 : decode cX3_mendOne 78 = .ok (.aload_n 0, 1) := by decide +kernel
theorem dX3_mendOne_79 : decode cX3_mendOne 79 = .ok (.getfield 22, 3) := by decide +kernel
theorem dX3_mendOne_82 : decode cX3_mendOne 82 = .ok (.iload_n 1, 1) := by decide +kernel
theorem dX3_mendOne_83 : decode cX3_mendOne 83 = .ok (.iload 4, 2) := by decide +kernel
theorem dX3_mendOne_85 : decode cX3_mendOne 85 = .ok (.iload 5, 2) := by decide +kernel
theorem dX3_mendOne_87 : decode cX3_mendOne 87 = .ok (.invokestatic 57, 3) := by decide +kernel
theorem dX3_mendOne_90 : decode cX3_mendOne 90 = .ok (.dastore, 1) := by decide +kernel
theorem dX3_mendOne_91 : decode cX3_mendOne 91 = .ok (.aload_n 0, 1) := by decide +kernel
theorem dX3_mendOne_92 : decode cX3_mendOne 92 = .ok (.getfield 25, 3) := by decide +kernel
theorem dX3_mendOne_95 : decode cX3_mendOne 95 = .ok (.iload_n 1, 1) := by decide +kernel
theorem dX3_mendOne_96 : decode cX3_mendOne 96 = .ok (.dconst 0, 1) := by decide +kernel
theorem dX3_mendOne_97 : decode cX3_mendOne 97 = .ok (.dastore, 1) := by decide +kernel
theorem dX3_mendOne_98 : decode cX3_mendOne 98 = .ok (.return_, 1) := by decide +kernel
theorem dX3_between_0 : decode cX3_between 0 = .ok (.iload_n 2, 1) := by decide +kernel
theorem dX3_between_1 : decode cX3_between 1 = .ok (.iload_n 3, 1) := by decide +kernel
theorem dX3_between_2 : decode cX3_between 2 = .ok (.if_icmp .ne 7, 3) := by decide +kernel
theorem dX3_between_5 : decode cX3_between 5 = .ok (.aload_n 0, 1) := by decide +kernel
theorem dX3_between_6 : decode cX3_between 6 = .ok (.iload_n 2, 1) := by decide +kernel
theorem dX3_between_7 : decode cX3_between 7 = .ok (.daload, 1) := by decide +kernel
theorem dX3_between_8 : decode cX3_between 8 = .ok (.dreturn, 1) := by decide +kernel
theorem dX3_between_9 : decode cX3_between 9 = .ok (.aload_n 0, 1) := by decide +kernel
theorem dX3_between_10 : decode cX3_between 10 = .ok (.iload_n 2, 1) := by decide +kernel
theorem dX3_between_11 : decode cX3_between 11 = .ok (.daload, 1) := by decide +kernel
theorem dX3_between_12 : decode cX3_between 12 = .ok (.aload_n 0, 1) := by decide +kernel
theorem dX3_between_13 : decode cX3_between 13 = .ok (.iload_n 3, 1) := by decide +kernel
theorem dX3_between_14 : decode cX3_between 14 = .ok (.daload, 1) := by decide +kernel
theorem dX3_between_15 : decode cX3_between 15 = .ok (.aload_n 0, 1) := by decide +kernel
theorem dX3_between_16 : decode cX3_between 16 = .ok (.iload_n 2, 1) := by decide +kernel
theorem dX3_between_17 : decode cX3_between 17 = .ok (.daload, 1) := by decide +kernel
theorem dX3_between_18 : decode cX3_between 18 = .ok (.dsub, 1) := by decide +kernel
theorem dX3_between_19 : decode cX3_between 19 = .ok (.iload_n 1, 1) := by decide +kernel
theorem dX3_between_20 : decode cX3_between 20 = .ok (.iload_n 2, 1) := by decide +kernel
theorem dX3_between_21 : decode cX3_between 21 = .ok (.isub, 1) := by decide +kernel
theorem dX3_between_22 : decode cX3_between 22 = .ok (.i2d, 1) := by decide +kernel
theorem dX3_between_23 : decode cX3_between 23 = .ok (.dmul, 1) := by decide +kernel
theorem dX3_between_24 : decode cX3_between 24 = .ok (.iload_n 3, 1) := by decide +kernel
theorem dX3_between_25 : decode cX3_between 25 = .ok (.iload_n 2, 1) := by decide +kernel
theorem dX3_between_26 : decode cX3_between 26 = .ok (.isub, 1) := by decide +kernel
theorem dX3_between_27 : decode cX3_between 27 = .ok (.i2d, 1) := by decide +kernel
theorem dX3_between_28 : decode cX3_between 28 = .ok (.ddiv, 1) := by decide +kernel
theorem dX3_between_29 : decode cX3_between 29 = .ok (.dadd, 1) := by decide +kernel
theorem dX3_between_30 : decode cX3_between 30 = .ok (.dreturn, 1) := by decide +kernel
set_option maxRecDepth 20000 in
theorem ggX4_init_X4_nearest : GoodIn wsX4_init wsX4_nearest := goodIn_r _ [25, 26, 27, 28, 29, 30, 31, 32] (by decide +kernel) (by decide +kernel)
set_option maxRecDepth 20000 in
theorem gX4_init_X4_nearest : GoodIn wsX4_init (va_wsS RX4 9 yX4_nearest wsX4_nearest) := goodIn_app (goodIn_of _ (by decide +kernel)) ggX4_init_X4_nearest
set_option maxRecDepth 20000 in
theorem ggX4_init_X2_init : GoodIn wsX4_init wsX2_init := goodIn_r _ [35, 36, 2, 3, 37, 38, 39, 40, 41, 42, 43, 44, 45, 46, 24, 47, 48, 79, 80, 81, 82, 83, 84, 85] (by decide +kernel) (by decide +kernel)
set_option maxRecDepth 20000 in
theorem gX4_init_X2_init : GoodIn wsX4_init (wsX2_init) := ggX4_init_X2_init
set_option maxRecDepth 20000 in
theorem ggX4_init_X3_init : GoodIn wsX4_init wsX3_init := goodIn_r _ [51, 52, 2, 3, 53, 38, 54, 55, 56, 57, 42, 58, 86, 87, 88, 89, 90, 91, 92] (by decide +kernel) (by decide +kernel)
set_option maxRecDepth 20000 in
theorem gX4_init_X3_init : GoodIn wsX4_init (wsX3_init) := ggX4_init_X3_init
set_option maxRecDepth 20000 in
theorem ggX4_init_X0_init : GoodIn wsX4_init wsX0_init := goodIn_r _ [61, 62, 2, 3, 38, 63, 64, 93, 94, 95] (by decide +kernel) (by decide +kernel)
set_option maxRecDepth 20000 in
theorem gX4_init_X0_init : GoodIn wsX4_init (wsX0_init) := ggX4_init_X0_init
set_option maxRecDepth 20000 in
theorem ggX4_init_X1_init : GoodIn wsX4_init wsX1_init := goodIn_r _ [66, 67, 2, 3, 68, 69, 38, 70, 71, 96, 97, 98, 99] (by decide +kernel) (by decide +kernel)
set_option maxRecDepth 20000 in
theorem gX4_init_X1_init_n47 : GoodIn wsX4_init (wsX1_init) := ggX4_init_X1_init
theorem dX4_init_0 : decode cX4_init 0 = .ok (.aload_n 0, 1) := by decide +kernel
theorem dX4_init_1 : decode cX4_init 1 = .ok (.invokespecial 1, 3) := by decide +kernel
theorem dX4_init_4 : decode cX4_init 4 = .ok (.aload_n 0, 1) := by decide +kernel
theorem dX4_init_5 : decode cX4_init 5 = .ok (.iload_n 1, 1) := by decide +kernel
theorem dX4_init_6 : decode cX4_init 6 = .ok (.bipush 16, 2) := by decide +kernel
theorem dX4_init_8 : decode cX4_init 8 = .ok (.invokestatic 9, 3) := by decide +kernel
theorem dX4_init_11 : decode cX4_init 11 = .ok (.putfield 13, 3) := by decide +kernel
theorem dX4_init_14 : decode cX4_init 14 = .ok (.aload_n 0, 1) := by decide +kernel
theorem dX4_init_15 : decode cX4_init 15 = .ok (.iload_n 2, 1) := by decide +kernel
theorem dX4_init_16 : decode cX4_init 16 = .ok (.bipush 8, 2) := by decide +kernel
theorem dX4_init_18 : decode cX4_init 18 = .ok (.invokestatic 9, 3) := by decide +kernel
theorem dX4_init_21 : decode cX4_init 21 = .ok (.putfield 17, 3) := by decide +kernel
theorem dX4_init_24 : decode cX4_init 24 = .ok (.aload_n 0, 1) := by decide +kernel
theorem dX4_init_25 : decode cX4_init 25 = .ok (.new 20, 3) := by decide +kernel
theorem dX4_init_28 : decode cX4_init 28 = .ok (.dup, 1) := by decide +kernel
theorem dX4_init_29 : decode cX4_init 29 = .ok (.aload_n 0, 1) := by decide +kernel
theorem dX4_init_30 : decode cX4_init 30 = .ok (.getfield 13, 3) := by decide +kernel
theorem dX4_init_33 : decode cX4_init 33 = .ok (.aload_n 0, 1) := by decide +kernel
theorem dX4_init_34 : decode cX4_init 34 = .ok (.getfield 17, 3) := by decide +kernel
theorem dX4_init_37 : decode cX4_init 37 = .ok (.invokespecial 22, 3) := by decide +kernel
theorem dX4_init_40 : decode cX4_init 40 = .ok (.putfield 25, 3) := by decide +kernel
theorem dX4_init_43 : decode cX4_init 43 = .ok (.aload_n 0, 1) := by decide +kernel
theorem dX4_init_44 : decode cX4_init 44 = .ok (.new 29, 3) := by decide +kernel
theorem dX4_init_47 : decode cX4_init 47 = .ok (.dup, 1) := by decide +kernel
theorem dX4_init_48 : decode cX4_init 48 = .ok (.aload_n 0, 1) := by decide +kernel
theorem dX4_init_49 : decode cX4_init 49 = .ok (.getfield 13, 3) := by decide +kernel
theorem dX4_init_52 : decode cX4_init 52 = .ok (.invokespecial 31, 3) := by decide +kernel
theorem dX4_init_55 : decode cX4_init 55 = .ok (.putfield 34, 3) := by decide +kernel
theorem dX4_init_58 : decode cX4_init 58 = .ok (.aload_n 0, 1) := by decide +kernel
theorem dX4_init_59 : decode cX4_init 59 = .ok (.new 38, 3) := by decide +kernel
theorem dX4_init_62 : decode cX4_init 62 = .ok (.dup, 1) := by decide +kernel
theorem dX4_init_63 : decode cX4_init 63 = .ok (.aload_n 0, 1) := by decide +kernel
theorem dX4_init_64 : decode cX4_init 64 = .ok (.getfield 13, 3) := by decide +kernel
theorem dX4_init_67 : decode cX4_init 67 = .ok (.invokespecial 40, 3) := by decide +kernel
theorem dX4_init_70 : decode cX4_init 70 = .ok (.putfield 41, 3) := by decide +kernel
theorem dX4_init_73 : decode cX4_init 73 = .ok (.aload_n 0, 1) := by decide +kernel
theorem dX4_init_74 : decode cX4_init 74 = .ok (.new 45, 3) := by decide +kernel
theorem dX4_init_77 : decode cX4_init 77 = .ok (.dup, 1) := by decide +kernel
theorem dX4_init_78 : decode cX4_init 78 = .ok (.invokespecial 47, 3) := by decide +kernel
theorem dX4_init_81 : decode cX4_init 81 = .ok (.putfield 48, 3) := by decide +kernel
theorem dX4_init_84 : decode cX4_init 84 = .ok (.return_, 1) := by decide +kernel
set_option maxRecDepth 20000 in
theorem ggX4_aim_X4_needView : GoodIn wsX4_aim wsX4_needView := goodIn_r _ [9, 10, 11, 12, 13, 28, 29, 30, 31, 32, 33, 34, 35, 36, 37, 38, 39, 40] (by decide +kernel) (by decide +kernel)
set_option maxRecDepth 20000 in
theorem gX4_aim_X4_needView : GoodIn wsX4_aim (wsV RX4 52 RX4 yX4_needView wsX4_needView) := goodIn_app (goodIn_of _ (by decide +kernel)) ggX4_aim_X4_needView
set_option maxRecDepth 20000 in
theorem ggX4_aim_X4_within : GoodIn wsX4_aim wsX4_within := goodIn_r _ [16] (by decide +kernel) (by decide +kernel)
set_option maxRecDepth 20000 in
theorem gX4_aim_X4_within : GoodIn wsX4_aim (va_wsS RX4 55 yX4_within wsX4_within) := goodIn_app (goodIn_of _ (by decide +kernel)) ggX4_aim_X4_within
set_option maxRecDepth 20000 in
theorem ggX4_aim_X2_direct : GoodIn wsX4_aim wsX2_direct := goodIn_r _ [21, 22, 23, 24, 25, 8, 26, 27, 41, 42, 43, 44, 45, 46, 47] (by decide +kernel) (by decide +kernel)
set_option maxRecDepth 20000 in
theorem gX4_aim_X2_direct : GoodIn wsX4_aim (wsV RX4 68 RX2 yX2_direct wsX2_direct) := goodIn_app (goodIn_of _ (by decide +kernel)) ggX4_aim_X2_direct
theorem dX4_aim_0 : decode cX4_aim 0 = .ok (.aload_n 0, 1) := by decide +kernel
theorem dX4_aim_1 : decode cX4_aim 1 = .ok (.iload_n 1, 1) := by decide +kernel
theorem dX4_aim_2 : decode cX4_aim 2 = .ok (.invokevirtual 52, 3) := by decide +kernel
theorem dX4_aim_5 : decode cX4_aim 5 = .ok (.dload_n 2, 1) := by decide +kernel
theorem dX4_aim_6 : decode cX4_aim 6 = .ok (.bipush 16, 2) := by decide +kernel
theorem dX4_aim_8 : decode cX4_aim 8 = .ok (.invokestatic 55, 3) := by decide +kernel
theorem dX4_aim_11 : decode cX4_aim 11 = .ok (.ifCond .eq 13, 3) := by decide +kernel
theorem dX4_aim_14 : decode cX4_aim 14 = .ok (.dload 4, 2) := by decide +kernel
theorem dX4_aim_16 : decode cX4_aim 16 = .ok (.bipush 16, 2) := by decide +kernel
theorem dX4_aim_18 : decode cX4_aim 18 = .ok (.invokestatic 55, 3) := by decide +kernel
theorem dX4_aim_21 : decode cX4_aim 21 = .ok (.ifCond .ne 13, 3) := by decide +kernel
theorem dX4_aim_24 : decode cX4_aim 24 = .ok (.new 59, 3) := by decide +kernel
theorem dX4_aim_27 : decode cX4_aim 27 = .ok (.dup, 1) := by decide +kernel
theorem dX4_aim_28 : decode cX4_aim 28 = .ok (.ldc 61, 2) := by decide +kernel
theorem dX4_aim_30 : decode cX4_aim 30 = .ok (.invokespecial 63, 3) := by decide +kernel
theorem dX4_aim_33 : decode cX4_aim 33 = .ok (.athrow, 1) := by decide +kernel
theorem dX4_aim_34 : decode cX4_aim 34 = .ok (.dload_n 2, 1) := by decide +kernel
theorem dX4_aim_35 : decode cX4_aim 35 = .ok (.dconst 0, 1) := by decide +kernel
theorem dX4_aim_36 : decode cX4_aim 36 = .ok (.dcmp .l, 1) := by decide +kernel
theorem dX4_aim_37 : decode cX4_aim 37 = .ok (.ifCond .ne 20, 3) := by decide +kernel
theorem dX4_aim_40 : decode cX4_aim 40 = .ok (.dload 4, 2) := by decide +kernel
theorem dX4_aim_42 : decode cX4_aim 42 = .ok (.dconst 0, 1) := by decide +kernel
theorem dX4_aim_43 : decode cX4_aim 43 = .ok (.dcmp .l, 1) := by decide +kernel
theorem dX4_aim_44 : decode cX4_aim 44 = .ok (.ifCond .ne 13, 3) := by decide +kernel
theorem dX4_aim_47 : decode cX4_aim 47 = .ok (.new 59, 3) := by decide +kernel
theorem dX4_aim_50 : decode cX4_aim 50 = .ok (.dup, 1) := by decide +kernel
theorem dX4_aim_51 : decode cX4_aim 51 = .ok (.ldc 66, 2) := by decide +kernel
theorem dX4_aim_53 : decode cX4_aim 53 = .ok (.invokespecial 63, 3) := by decide +kernel
theorem dX4_aim_56 : decode cX4_aim 56 = .ok (.athrow, 1) := by decide +kernel
theorem dX4_aim_57 : decode cX4_aim 57 = .ok (.aload_n 0, 1) := by decide +kernel
theorem dX4_aim_58 : decode cX4_aim 58 = .ok (.getfield 25, 3) := by decide +kernel
theorem dX4_aim_61 : decode cX4_aim 61 = .ok (.iload_n 1, 1) := by decide +kernel
theorem dX4_aim_62 : decode cX4_aim 62 = .ok (.dload_n 2, 1) := by decide +kernel
theorem dX4_aim_63 : decode cX4_aim 63 = .ok (.dload 4, 2) := by decide +kernel
theorem dX4_aim_65 : decode cX4_aim 65 = .ok (.invokevirtual 68, 3) := by decide +kernel
theorem dX4_aim_68 : decode cX4_aim 68 = .ok (.aload_n 0, 1) := by decide +kernel
theorem dX4_aim_69 : decode cX4_aim 69 = .ok (.iconst 0, 1) := by decide +kernel
theorem dX4_aim_70 : decode cX4_aim 70 = .ok (.putfield 72, 3) := by decide +kernel
theorem dX4_aim_73 : decode cX4_aim 73 = .ok (.return_, 1) := by decide +kernel
set_option maxRecDepth 20000 in
theorem ggX4_shadow_X4_needSlice : GoodIn wsX4_shadow wsX4_needSlice := goodIn_r _ [9, 10, 11, 12, 13, 36, 37, 38, 39, 40, 41, 42, 43, 44, 45, 46, 47, 48] (by decide +kernel) (by decide +kernel)
set_option maxRecDepth 20000 in
theorem gX4_shadow_X4_needSlice : GoodIn wsX4_shadow (wsV RX4 76 RX4 yX4_needSlice wsX4_needSlice) := goodIn_app (goodIn_of _ (by decide +kernel)) ggX4_shadow_X4_needSlice
set_option maxRecDepth 20000 in
theorem ggX4_shadow_X4_needView : GoodIn wsX4_shadow wsX4_needView := goodIn_r _ [17, 18, 11, 12, 13, 36, 37, 38, 39, 40, 41, 42, 43, 44, 45, 46, 47, 48] (by decide +kernel) (by decide +kernel)
set_option maxRecDepth 20000 in
theorem gX4_shadow_X4_needView : GoodIn wsX4_shadow (wsV RX4 52 RX4 yX4_needView wsX4_needView) := goodIn_app (goodIn_of _ (by decide +kernel)) ggX4_shadow_X4_needView
set_option maxRecDepth 20000 in
theorem ggX4_shadow_X4_within : GoodIn wsX4_shadow wsX4_within := goodIn_r _ [21] (by decide +kernel) (by decide +kernel)
set_option maxRecDepth 20000 in
theorem gX4_shadow_X4_within : GoodIn wsX4_shadow (va_wsS RX4 55 yX4_within wsX4_within) := goodIn_app (goodIn_of _ (by decide +kernel)) ggX4_shadow_X4_within
set_option maxRecDepth 20000 in
theorem ggX4_shadow_X2_cast : GoodIn wsX4_shadow wsX2_cast := goodIn_r _ [26, 27, 28, 29, 30, 31, 32, 33, 25, 34, 35, 49, 50, 51, 52, 53, 54, 55] (by decide +kernel) (by decide +kernel)
set_option maxRecDepth 20000 in
theorem gX4_shadow_X2_cast : GoodIn wsX4_shadow (wsV RX4 83 RX2 yX2_cast wsX2_cast) := goodIn_app (goodIn_of _ (by decide +kernel)) ggX4_shadow_X2_cast
theorem dX4_shadow_0 : decode cX4_shadow 0 = .ok (.aload_n 0, 1) := by decide +kernel
theorem dX4_shadow_1 : decode cX4_shadow 1 = .ok (.iload_n 1, 1) := by decide +kernel
theorem dX4_shadow_2 : decode cX4_shadow 2 = .ok (.invokevirtual 76, 3) := by decide +kernel
theorem dX4_shadow_5 : decode cX4_shadow 5 = .ok (.aload_n 0, 1) := by decide +kernel
theorem dX4_shadow_6 : decode cX4_shadow 6 = .ok (.iload_n 2, 1) := by decide +kernel
theorem dX4_shadow_7 : decode cX4_shadow 7 = .ok (.invokevirtual 52, 3) := by decide +kernel
theorem dX4_shadow_10 : decode cX4_shadow 10 = .ok (.dload_n 3, 1) := by decide +kernel
theorem dX4_shadow_11 : decode cX4_shadow 11 = .ok (.sipush 1000, 3) := by decide +kernel
theorem dX4_shadow_14 : decode cX4_shadow 14 = .ok (.invokestatic 55, 3) := by decide +kernel
theorem dX4_shadow_17 : decode cX4_shadow 17 = .ok (.ifCond .eq 14, 3) := by decide +kernel
theorem dX4_shadow_20 : decode cX4_shadow 20 = .ok (.dload 5, 2) := by decide +kernel
theorem dX4_shadow_22 : decode cX4_shadow 22 = .ok (.sipush 1000, 3) := by decide +kernel
theorem dX4_shadow_25 : decode cX4_shadow 25 = .ok (.invokestatic 55, 3) := by decide +kernel
theorem dX4_shadow_28 : decode cX4_shadow 28 = .ok (.ifCond .ne 13, 3) := by decide +kernel
theorem dX4_shadow_31 : decode cX4_shadow 31 = .ok (.new 59, 3) := by decide +kernel
theorem dX4_shadow_34 : decode cX4_shadow 34 = .ok (.dup, 1) := by decide +kernel
theorem dX4_shadow_35 : decode cX4_shadow 35 = .ok (.ldc 79, 2) := by decide +kernel
theorem dX4_shadow_37 : decode cX4_shadow 37 = .ok (.invokespecial 63, 3) := by decide +kernel
theorem dX4_shadow_40 : decode cX4_shadow 40 = .ok (.athrow, 1) := by decide +kernel
theorem dX4_shadow_41 : decode cX4_shadow 41 = .ok (.dload 5, 2) := by decide +kernel
theorem dX4_shadow_43 : decode cX4_shadow 43 = .ok (.dload_n 3, 1) := by decide +kernel
theorem dX4_shadow_44 : decode cX4_shadow 44 = .ok (.dcmp .g, 1) := by decide +kernel
theorem dX4_shadow_45 : decode cX4_shadow 45 = .ok (.ifCond .ge 13, 3) := by decide +kernel
theorem dX4_shadow_48 : decode cX4_shadow 48 = .ok (.new 59, 3) := by decide +kernel
theorem dX4_shadow_51 : decode cX4_shadow 51 = .ok (.dup, 1) := by decide +kernel
theorem dX4_shadow_52 : decode cX4_shadow 52 = .ok (.ldc 81, 2) := by decide +kernel
theorem dX4_shadow_54 : decode cX4_shadow 54 = .ok (.invokespecial 63, 3) := by decide +kernel
theorem dX4_shadow_57 : decode cX4_shadow 57 = .ok (.athrow, 1) := by decide +kernel
theorem dX4_shadow_58 : decode cX4_shadow 58 = .ok (.aload_n 0, 1) := by decide +kernel
theorem dX4_shadow_59 : decode cX4_shadow 59 = .ok (.getfield 25, 3) := by decide +kernel
theorem dX4_shadow_62 : decode cX4_shadow 62 = .ok (.iload_n 1, 1) := by decide +kernel
theorem dX4_shadow_63 : decode cX4_shadow 63 = .ok (.iload_n 2, 1) := by decide +kernel
theorem dX4_shadow_64 : decode cX4_shadow 64 = .ok (.dload_n 3, 1) := by decide +kernel
theorem dX4_shadow_65 : decode cX4_shadow 65 = .ok (.dload 5, 2) := by decide +kernel
theorem dX4_shadow_67 : decode cX4_shadow 67 = .ok (.invokevirtual 83, 3) := by decide +kernel
theorem dX4_shadow_70 : decode cX4_shadow 70 = .ok (.aload_n 0, 1) := by decide +kernel
theorem dX4_shadow_71 : decode cX4_shadow 71 = .ok (.iconst 0, 1) := by decide +kernel
theorem dX4_shadow_72 : decode cX4_shadow 72 = .ok (.putfield 72, 3) := by decide +kernel
theorem dX4_shadow_75 : decode cX4_shadow 75 = .ok (.return_, 1) := by decide +kernel
set_option maxRecDepth 20000 in
theorem ggX4_lift_X4_needSlice : GoodIn wsX4_lift wsX4_needSlice := goodIn_r _ [7, 8, 9, 10, 11, 28, 29, 30, 31, 32, 33, 34, 35, 36, 37, 38, 39, 40] (by decide +kernel) (by decide +kernel)
set_option maxRecDepth 20000 in
theorem gX4_lift_X4_needSlice : GoodIn wsX4_lift (wsV RX4 76 RX4 yX4_needSlice wsX4_needSlice) := goodIn_app (goodIn_of _ (by decide +kernel)) ggX4_lift_X4_needSlice
set_option maxRecDepth 20000 in
theorem ggX4_lift_X4_needView : GoodIn wsX4_lift wsX4_needView := goodIn_r _ [15, 16, 9, 10, 11, 28, 29, 30, 31, 32, 33, 34, 35, 36, 37, 38, 39, 40] (by decide +kernel) (by decide +kernel)
set_option maxRecDepth 20000 in
theorem gX4_lift_X4_needView : GoodIn wsX4_lift (wsV RX4 52 RX4 yX4_needView wsX4_needView) := goodIn_app (goodIn_of _ (by decide +kernel)) ggX4_lift_X4_needView
set_option maxRecDepth 20000 in
theorem ggX4_lift_X2_takeAway : GoodIn wsX4_lift wsX2_takeAway := goodIn_r _ [21, 22, 23, 24, 25, 20, 26, 27, 41, 42, 43, 44, 45, 46, 47] (by decide +kernel) (by decide +kernel)
set_option maxRecDepth 20000 in
theorem gX4_lift_X2_takeAway : GoodIn wsX4_lift (wsV RX4 87 RX2 yX2_takeAway wsX2_takeAway) := goodIn_app (goodIn_of _ (by decide +kernel)) ggX4_lift_X2_takeAway
theorem dX4_lift_0 : decode cX4_lift 0 = .ok (.aload_n 0, 1) := by decide +kernel
theorem dX4_lift_1 : decode cX4_lift 1 = .ok (.iload_n 1, 1) := by decide +kernel
theorem dX4_lift_2 : decode cX4_lift 2 = .ok (.invokevirtual 76, 3) := by decide +kernel
theorem dX4_lift_5 : decode cX4_lift 5 = .ok (.aload_n 0, 1) := by decide +kernel
theorem dX4_lift_6 : decode cX4_lift 6 = .ok (.iload_n 2, 1) := by decide +kernel
theorem dX4_lift_7 : decode cX4_lift 7 = .ok (.invokevirtual 52, 3) := by decide +kernel
theorem dX4_lift_10 : decode cX4_lift 10 = .ok (.aload_n 0, 1) := by decide +kernel
theorem dX4_lift_11 : decode cX4_lift 11 = .ok (.getfield 25, 3) := by decide +kernel
theorem dX4_lift_14 : decode cX4_lift 14 = .ok (.iload_n 1, 1) := by decide +kernel
theorem dX4_lift_15 : decode cX4_lift 15 = .ok (.iload_n 2, 1) := by decide +kernel
theorem dX4_lift_16 : decode cX4_lift 16 = .ok (.invokevirtual 87, 3) := by decide +kernel
theorem dX4_lift_19 : decode cX4_lift 19 = .ok (.istore_n 3, 1) := by decide +kernel
theorem dX4_lift_20 : decode cX4_lift 20 = .ok (.iload_n 3, 1) := by decide +kernel
theorem dX4_lift_21 : decode cX4_lift 21 = .ok (.ifCond .eq 8, 3) := by decide +kernel
theorem dX4_lift_24 : decode cX4_lift 24 = .ok (.aload_n 0, 1) := by decide +kernel
theorem dX4_lift_25 : decode cX4_lift 25 = .ok (.iconst 0, 1) := by decide +kernel
theorem dX4_lift_26 : decode cX4_lift 26 = .ok (.putfield 72, 3) := by decide +kernel
theorem dX4_lift_29 : decode cX4_lift 29 = .ok (.iload_n 3, 1) := by decide +kernel
theorem dX4_lift_30 : decode cX4_lift 30 = .ok (.ireturn, 1) := by decide +kernel
set_option maxRecDepth 20000 in
theorem ggX4_run_X2_fitInto : GoodIn wsX4_run wsX2_fitInto := goodIn_r _ [9, 10, 11, 12, 8, 13, 14, 15, 16, 17, 18, 19, 20, 21, 22, 23, 24, 25, 26, 27, 28, 29, 30, 31, 32, 33, 34, 35, 36, 37, 71, 72, 73, 74, 75, 76, 77, 78, 79, 80, 81, 82, 83, 84] (by decide +kernel) (by decide +kernel)
set_option maxRecDepth 20000 in
theorem gX4_run_X2_fitInto : GoodIn wsX4_run (wsV RX4 95 RX2 yX2_fitInto wsX2_fitInto) := goodIn_app (goodIn_of _ (by decide +kernel)) ggX4_run_X2_fitInto
set_option maxRecDepth 20000 in
theorem ggX4_run_X3_mendAll : GoodIn wsX4_run wsX3_mendAll := goodIn_r _ [42, 43, 44, 45, 46, 47, 41, 48, 49, 50, 51, 52, 53, 54, 55, 56, 57, 58, 59, 60, 61, 62, 63, 71, 72, 73, 74, 75, 76, 77] (by decide +kernel) (by decide +kernel)
set_option maxRecDepth 20000 in
theorem gX4_run_X3_mendAll : GoodIn wsX4_run (wsV RX4 102 RX3 yX3_mendAll wsX3_mendAll) := goodIn_app (goodIn_of _ (by decide +kernel)) ggX4_run_X3_mendAll
theorem dX4_run_0 : decode cX4_run 0 = .ok (.iconst 0, 1) := by decide +kernel
theorem dX4_run_1 : decode cX4_run 1 = .ok (.istore_n 1, 1) := by decide +kernel
theorem dX4_run_2 : decode cX4_run 2 = .ok (.iconst 0, 1) := by decide +kernel
theorem dX4_run_3 : decode cX4_run 3 = .ok (.istore_n 2, 1) := by decide +kernel
theorem dX4_run_4 : decode cX4_run 4 = .ok (.iload_n 2, 1) := by decide +kernel
theorem dX4_run_5 : decode cX4_run 5 = .ok (.aload_n 0, 1) := by decide +kernel
theorem dX4_run_6 : decode cX4_run 6 = .ok (.getfield 13, 3) := by decide +kernel
theorem dX4_run_9 : decode cX4_run 9 = .ok (.if_icmp .ge 45, 3) := by decide +kernel
theorem dX4_run_12 : decode cX4_run 12 = .ok (.aload_n 0, 1) := by decide +kernel
theorem dX4_run_13 : decode cX4_run 13 = .ok (.getfield 34, 3) := by decide +kernel
theorem dX4_run_16 : decode cX4_run 16 = .ok (.getfield 91, 3) := by decide +kernel
theorem dX4_run_19 : decode cX4_run 19 = .ok (.iload_n 2, 1) := by decide +kernel
theorem dX4_run_20 : decode cX4_run 20 = .ok (.aload_n 0, 1) := by decide +kernel
theorem dX4_run_21 : decode cX4_run 21 = .ok (.getfield 25, 3) := by decide +kernel
theorem dX4_run_24 : decode cX4_run 24 = .ok (.aload_n 0, 1) := by decide +kernel
theorem dX4_run_25 : decode cX4_run 25 = .ok (.getfield 34, 3) := by decide +kernel
theorem dX4_run_28 : decode cX4_run 28 = .ok (.iload_n 2, 1) := by decide +kernel
theorem dX4_run_29 : decode cX4_run 29 = .ok (.invokevirtual 95, 3) := by decide +kernel
theorem dX4_run_32 : decode cX4_run 32 = .ok (.bastore, 1) := by decide +kernel
theorem dX4_run_33 : decode cX4_run 33 = .ok (.aload_n 0, 1) := by decide +kernel
theorem dX4_run_34 : decode cX4_run 34 = .ok (.getfield 34, 3) := by decide +kernel
theorem dX4_run_37 : decode cX4_run 37 = .ok (.getfield 91, 3) := by decide +kernel
theorem dX4_run_40 : decode cX4_run 40 = .ok (.iload_n 2, 1) := by decide +kernel
theorem dX4_run_41 : decode cX4_run 41 = .ok (.baload, 1) := by decide +kernel
theorem dX4_run_42 : decode cX4_run 42 = .ok (.ifCond .eq 6, 3) := by decide +kernel
theorem dX4_run_45 : decode cX4_run 45 = .ok (.iinc 1 1, 3) := by decide +kernel
theorem dX4_run_48 : decode cX4_run 48 = .ok (.iinc 2 1, 3) := by decide +kernel
theorem dX4_run_51 : decode cX4_run 51 = .ok (.goto (-47), 3) := by decide +kernel
theorem dX4_run_54 : decode cX4_run 54 = .ok (.aload_n 0, 1) := by decide +kernel
theorem dX4_run_55 : decode cX4_run 55 = .ok (.getfield 34, 3) := by decide +kernel
theorem dX4_run_58 : decode cX4_run 58 = .ok (.aload_n 0, 1) := by decide +kernel
theorem dX4_run_59 : decode cX4_run 59 = .ok (.getfield 13, 3) := by decide +kernel
theorem dX4_run_62 : decode cX4_run 62 = .ok (.iload_n 1, 1) := by decide +kernel
theorem dX4_run_63 : decode cX4_run 63 = .ok (.isub, 1) := by decide +kernel
theorem dX4_run_64 : decode cX4_run 64 = .ok (.putfield 99, 3) := by decide +kernel
theorem dX4_run_67 : decode cX4_run 67 = .ok (.aload_n 0, 1) := by decide +kernel
theorem dX4_run_68 : decode cX4_run 68 = .ok (.iload_n 1, 1) := by decide +kernel
theorem dX4_run_69 : decode cX4_run 69 = .ok (.ifCond .le 7, 3) := by decide +kernel
theorem dX4_run_72 : decode cX4_run 72 = .ok (.iconst 1, 1) := by decide +kernel
theorem dX4_run_73 : decode cX4_run 73 = .ok (.goto 4, 3) := by decide +kernel
theorem dX4_run_76 : decode cX4_run 76 = .ok (.iconst 0, 1) := by decide +kernel
theorem dX4_run_77 : decode cX4_run 77 = .ok (.putfield 72, 3) := by decide +kernel
theorem dX4_run_80 : decode cX4_run 80 = .ok (.aload_n 0, 1) := by decide +kernel
theorem dX4_run_81 : decode cX4_run 81 = .ok (.getfield 72, 3) := by decide +kernel
theorem dX4_run_84 : decode cX4_run 84 = .ok (.ifCond .eq 10, 3) := by decide +kernel
theorem dX4_run_87 : decode cX4_run 87 = .ok (.aload_n 0, 1) := by decide +kernel
theorem dX4_run_88 : decode cX4_run 88 = .ok (.getfield 34, 3) := by decide +kernel
theorem dX4_run_91 : decode cX4_run 91 = .ok (.invokevirtual 102, 3) := by decide +kernel
theorem dX4_run_94 : decode cX4_run 94 = .ok (.iload_n 1, 1) := by decide +kernel
theorem dX4_run_95 : decode cX4_run 95 = .ok (.ireturn, 1) := by decide +kernel
set_option maxRecDepth 20000 in
theorem ggX4_shape_X4_needSlice : GoodIn wsX4_shape wsX4_needSlice := goodIn_r _ [9, 10, 1, 2, 3, 31, 32, 33, 34, 35, 36, 37, 25, 26, 27, 28, 29, 30] (by decide +kernel) (by decide +kernel)
set_option maxRecDepth 20000 in
theorem gX4_shape_X4_needSlice : GoodIn wsX4_shape (wsV RX4 76 RX4 yX4_needSlice wsX4_needSlice) := goodIn_app (goodIn_of _ (by decide +kernel)) ggX4_shape_X4_needSlice
set_option maxRecDepth 20000 in
theorem ggX4_shape_X4_needShape : GoodIn wsX4_shape wsX4_needShape := goodIn_ca (goodIn_r _ [14, 15, 16, 17, 31, 32, 33, 34, 35, 36, 37] (by decide +kernel) (by decide +kernel)) (goodIn_sub (fun _ h => List.mem_cons_of_mem _ (List.mem_append_right _ h)) (by decide +kernel))
set_option maxRecDepth 20000 in
theorem gX4_shape_X4_needShape : GoodIn wsX4_shape (wsV RX4 110 RX4 yX4_needShape wsX4_needShape) := goodIn_app (goodIn_of _ (by decide +kernel)) ggX4_shape_X4_needShape
set_option maxRecDepth 20000 in
theorem ggX4_shape_X3_areaOf : GoodIn wsX4_shape wsX3_areaOf := goodIn_r _ [22, 23, 24, 38, 39, 40, 41, 42, 43, 44] (by decide +kernel) (by decide +kernel)
set_option maxRecDepth 20000 in
theorem gX4_shape_X3_areaOf : GoodIn wsX4_shape (wsV RX4 126 RX3 yX3_areaOf wsX3_areaOf) := goodIn_app (goodIn_of _ (by decide +kernel)) ggX4_shape_X3_areaOf
theorem dX4_shape_0 : decode cX4_shape 0 = .ok (.aload_n 0, 1) := by decide +kernel
theorem dX4_shape_1 : decode cX4_shape 1 = .ok (.iload_n 1, 1) := by decide +kernel
theorem dX4_shape_2 : decode cX4_shape 2 = .ok (.invokevirtual 76, 3) := by decide +kernel
theorem dX4_shape_5 : decode cX4_shape 5 = .ok (.iload_n 2, 1) := by decide +kernel
theorem dX4_shape_6 : decode cX4_shape 6 = .ok (.ifCond .lt 8, 3) := by decide +kernel
theorem dX4_shape_9 : decode cX4_shape 9 = .ok (.iload_n 2, 1) := by decide +kernel
theorem dX4_shape_10 : decode cX4_shape 10 = .ok (.iconst 4, 1) := by decide +kernel
theorem dX4_shape_11 : decode cX4_shape 11 = .ok (.if_icmp .le 13, 3) := by decide +kernel
theorem dX4_shape_14 : decode cX4_shape 14 = .ok (.new 105, 3) := by decide +kernel
theorem dX4_shape_17 : decode cX4_shape 17 = .ok (.dup, 1) := by decide +kernel
theorem dX4_shape_18 : decode cX4_shape 18 = .ok (.ldc 107, 2) := by decide +kernel
theorem dX4_shape_20 : decode cX4_shape 20 = .ok (.invokespecial 109, 3) := by decide +kernel
theorem dX4_shape_23 : decode cX4_shape 23 = .ok (.athrow, 1) := by decide +kernel
theorem dX4_shape_24 : decode cX4_shape 24 = .ok (.aload_n 0, 1) := by decide +kernel
theorem dX4_shape_25 : decode cX4_shape 25 = .ok (.invokevirtual 110, 3) := by decide +kernel
theorem dX4_shape_28 : decode cX4_shape 28 = .ok (.iload_n 2, 1) := by decide +kernel
theorem dX4_shape_29 : decode cX4_shape 29 = .ok (.tableswitch 71 0 3 #[31, 41, 51, 61], 31) := by decide +kernel
theorem dX4_shape_60 : decode cX4_shape 60 = .ok (.aload_n 0, 1) := by decide +kernel
theorem dX4_shape_61 : decode cX4_shape 61 = .ok (.getfield 34, 3) := by decide +kernel
theorem dX4_shape_64 : decode cX4_shape 64 = .ok (.getfield 113, 3) := by decide +kernel
theorem dX4_shape_67 : decode cX4_shape 67 = .ok (.iload_n 1, 1) := by decide +kernel
theorem dX4_shape_68 : decode cX4_shape 68 = .ok (.daload, 1) := by decide +kernel
theorem dX4_shape_69 : decode cX4_shape 69 = .ok (.dreturn, 1) := by decide +kernel
theorem dX4_shape_70 : decode cX4_shape 70 = .ok (.aload_n 0, 1) := by decide +kernel
theorem dX4_shape_71 : decode cX4_shape 71 = .ok (.getfield 34, 3) := by decide +kernel
theorem dX4_shape_74 : decode cX4_shape 74 = .ok (.getfield 117, 3) := by decide +kernel
theorem dX4_shape_77 : decode cX4_shape 77 = .ok (.iload_n 1, 1) := by decide +kernel
theorem dX4_shape_78 : decode cX4_shape 78 = .ok (.daload, 1) := by decide +kernel
theorem dX4_shape_79 : decode cX4_shape 79 = .ok (.dreturn, 1) := by decide +kernel
theorem dX4_shape_80 : decode cX4_shape 80 = .ok (.aload_n 0, 1) := by decide +kernel
theorem dX4_shape_81 : decode cX4_shape 81 = .ok (.getfield 34, 3) := by decide +kernel
theorem dX4_shape_84 : decode cX4_shape 84 = .ok (.getfield 120, 3) := by decide +kernel
theorem dX4_shape_87 : decode cX4_shape 87 = .ok (.iload_n 1, 1) := by decide +kernel
theorem dX4_shape_88 : decode cX4_shape 88 = .ok (.daload, 1) := by decide +kernel
theorem dX4_shape_89 : decode cX4_shape 89 = .ok (.dreturn, 1) := by decide +kernel
theorem dX4_shape_90 : decode cX4_shape 90 = .ok (.aload_n 0, 1) := by decide +kernel
theorem dX4_shape_91 : decode cX4_shape 91 = .ok (.getfield 34, 3) := by decide +kernel
theorem dX4_shape_94 : decode cX4_shape 94 = .ok (.getfield 123, 3) := by decide +kernel
theorem dX4_shape_97 : decode cX4_shape 97 = .ok (.iload_n 1, 1) := by decide +kernel
theorem dX4_shape_98 : decode cX4_shape 98 = .ok (.daload, 1) := by decide +kernel
theorem dX4_shape_99 : decode cX4_shape 99 = .ok (.dreturn, 1) := by decide +kernel
theorem dX4_shape_100 : decode cX4_shape 100 = .ok (.aload_n 0, 1) := by decide +kernel
theorem dX4_shape_101 : decode cX4_shape 101 = .ok (.getfield 34, 3) := by decide +kernel
theorem dX4_shape_104 : decode cX4_shape 104 = .ok (.iload_n 1, 1) := by decide +kernel
theorem dX4_shape_105 : decode cX4_shape 105 = .ok (.invokevirtual 126, 3) := by decide +kernel
theorem dX4_shape_108 : decode cX4_shape 108 = .ok (.dreturn, 1) := by decide +kernel
set_option maxRecDepth 20000 in
theorem ggX4_fitted_X4_needSlice : GoodIn wsX4_fitted wsX4_needSlice := goodIn_r _ [6, 7, 8, 9, 10, 18, 19, 20, 21, 22, 23, 24, 32, 33, 34, 35, 36, 37] (by decide +kernel) (by decide +kernel)
set_option maxRecDepth 20000 in
theorem gX4_fitted_X4_needSlice : GoodIn wsX4_fitted (wsV RX4 76 RX4 yX4_needSlice wsX4_needSlice) := goodIn_app (goodIn_of _ (by decide +kernel)) ggX4_fitted_X4_needSlice
set_option maxRecDepth 20000 in
theorem ggX4_fitted_X4_needShape : GoodIn wsX4_fitted wsX4_needShape := goodIn_ca (goodIn_r _ [14, 15, 16, 17, 18, 19, 20, 21, 22, 23, 24] (by decide +kernel) (by decide +kernel)) (goodIn_sub (fun _ h => List.mem_cons_of_mem _ (List.mem_append_right _ h)) (by decide +kernel))
set_option maxRecDepth 20000 in
theorem gX4_fitted_X4_needShape : GoodIn wsX4_fitted (wsV RX4 110 RX4 yX4_needShape wsX4_needShape) := goodIn_app (goodIn_of _ (by decide +kernel)) ggX4_fitted_X4_needShape
theorem dX4_fitted_0 : decode cX4_fitted 0 = .ok (.aload_n 0, 1) := by decide +kernel
theorem dX4_fitted_1 : decode cX4_fitted 1 = .ok (.iload_n 1, 1) := by decide +kernel
theorem dX4_fitted_2 : decode cX4_fitted 2 = .ok (.invokevirtual 76, 3) := by decide +kernel
theorem dX4_fitted_5 : decode cX4_fitted 5 = .ok (.aload_n 0, 1) := by decide +kernel
theorem dX4_fitted_6 : decode cX4_fitted 6 = .ok (.invokevirtual 110, 3) := by decide +kernel
theorem dX4_fitted_9 : decode cX4_fitted 9 = .ok (.aload_n 0, 1) := by decide +kernel
theorem dX4_fitted_10 : decode cX4_fitted 10 = .ok (.getfield 34, 3) := by decide +kernel
theorem dX4_fitted_13 : decode cX4_fitted 13 = .ok (.getfield 91, 3) := by decide +kernel
theorem dX4_fitted_16 : decode cX4_fitted 16 = .ok (.iload_n 1, 1) := by decide +kernel
theorem dX4_fitted_17 : decode cX4_fitted 17 = .ok (.baload, 1) := by decide +kernel
theorem dX4_fitted_18 : decode cX4_fitted 18 = .ok (.ireturn, 1) := by decide +kernel
set_option maxRecDepth 20000 in
theorem ggX4_inside_X4_needSlice : GoodIn wsX4_inside wsX4_needSlice := goodIn_r _ [8, 9, 10, 11, 12, 31, 32, 33, 34, 35, 36, 37, 38, 39, 40, 41, 42, 43] (by decide +kernel) (by decide +kernel)
set_option maxRecDepth 20000 in
theorem gX4_inside_X4_needSlice : GoodIn wsX4_inside (wsV RX4 76 RX4 yX4_needSlice wsX4_needSlice) := goodIn_app (goodIn_of _ (by decide +kernel)) ggX4_inside_X4_needSlice
set_option maxRecDepth 20000 in
theorem ggX4_inside_X4_within : GoodIn wsX4_inside wsX4_within := goodIn_r _ [15] (by decide +kernel) (by decide +kernel)
set_option maxRecDepth 20000 in
theorem gX4_inside_X4_within : GoodIn wsX4_inside (va_wsS RX4 55 yX4_within wsX4_within) := goodIn_app (goodIn_of _ (by decide +kernel)) ggX4_inside_X4_within
set_option maxRecDepth 20000 in
theorem ggX4_inside_X4_needShape : GoodIn wsX4_inside wsX4_needShape := goodIn_ca (goodIn_r _ [19, 20, 21, 22, 31, 32, 33, 34, 35, 36, 37] (by decide +kernel) (by decide +kernel)) (goodIn_sub (fun _ h => List.mem_cons_of_mem _ (List.mem_append_right _ h)) (by decide +kernel))
set_option maxRecDepth 20000 in
theorem gX4_inside_X4_needShape : GoodIn wsX4_inside (wsV RX4 110 RX4 yX4_needShape wsX4_needShape) := goodIn_app (goodIn_of _ (by decide +kernel)) ggX4_inside_X4_needShape
set_option maxRecDepth 20000 in
theorem ggX4_inside_X3_covers : GoodIn wsX4_inside wsX3_covers := goodIn_r _ [27, 28, 29, 30, 44, 45, 46, 47, 48, 49, 50] (by decide +kernel) (by decide +kernel)
set_option maxRecDepth 20000 in
theorem gX4_inside_X3_covers : GoodIn wsX4_inside (wsV RX4 132 RX3 yX3_covers wsX3_covers) := goodIn_app (goodIn_of _ (by decide +kernel)) ggX4_inside_X3_covers
theorem dX4_inside_0 : decode cX4_inside 0 = .ok (.aload_n 0, 1) := by decide +kernel
theorem dX4_inside_1 : decode cX4_inside 1 = .ok (.iload_n 1, 1) := by decide +kernel
theorem dX4_inside_2 : decode cX4_inside 2 = .ok (.invokevirtual 76, 3) := by decide +kernel
theorem dX4_inside_5 : decode cX4_inside 5 = .ok (.dload_n 2, 1) := by decide +kernel
theorem dX4_inside_6 : decode cX4_inside 6 = .ok (.sipush 1000, 3) := by decide +kernel
theorem dX4_inside_9 : decode cX4_inside 9 = .ok (.invokestatic 55, 3) := by decide +kernel
theorem dX4_inside_12 : decode cX4_inside 12 = .ok (.ifCond .eq 14, 3) := by decide +kernel
theorem dX4_inside_15 : decode cX4_inside 15 = .ok (.dload 4, 2) := by decide +kernel
theorem dX4_inside_17 : decode cX4_inside 17 = .ok (.sipush 1000, 3) := by decide +kernel
theorem dX4_inside_20 : decode cX4_inside 20 = .ok (.invokestatic 55, 3) := by decide +kernel
theorem dX4_inside_23 : decode cX4_inside 23 = .ok (.ifCond .ne 13, 3) := by decide +kernel
theorem dX4_inside_26 : decode cX4_inside 26 = .ok (.new 59, 3) := by decide +kernel
theorem dX4_inside_29 : decode cX4_inside 29 = .ok (.dup, 1) := by decide +kernel
theorem dX4_inside_30 : decode cX4_inside 30 = .ok (.ldc 130, 2) := by decide +kernel
theorem dX4_inside_32 : decode cX4_inside 32 = .ok (.invokespecial 63, 3) := by decide +kernel
theorem dX4_inside_35 : decode cX4_inside 35 = .ok (.athrow, 1) := by decide +kernel
theorem dX4_inside_36 : decode cX4_inside 36 = .ok (.aload_n 0, 1) := by decide +kernel
theorem dX4_inside_37 : decode cX4_inside 37 = .ok (.invokevirtual 110, 3) := by decide +kernel
theorem dX4_inside_40 : decode cX4_inside 40 = .ok (.aload_n 0, 1) := by decide +kernel
theorem dX4_inside_41 : decode cX4_inside 41 = .ok (.getfield 34, 3) := by decide +kernel
theorem dX4_inside_44 : decode cX4_inside 44 = .ok (.iload_n 1, 1) := by decide +kernel
theorem dX4_inside_45 : decode cX4_inside 45 = .ok (.dload_n 2, 1) := by decide +kernel
theorem dX4_inside_46 : decode cX4_inside 46 = .ok (.dload 4, 2) := by decide +kernel
theorem dX4_inside_48 : decode cX4_inside 48 = .ok (.invokevirtual 132, 3) := by decide +kernel
theorem dX4_inside_51 : decode cX4_inside 51 = .ok (.ireturn, 1) := by decide +kernel
set_option maxRecDepth 20000 in
theorem ggX4_wholes_X4_needSlice : GoodIn wsX4_wholes wsX4_needSlice := goodIn_r _ [6, 7, 8, 9, 10, 30, 31, 32, 33, 34, 35, 36, 37, 38, 39, 40, 41, 42] (by decide +kernel) (by decide +kernel)
set_option maxRecDepth 20000 in
theorem gX4_wholes_X4_needSlice : GoodIn wsX4_wholes (wsV RX4 76 RX4 yX4_needSlice wsX4_needSlice) := goodIn_app (goodIn_of _ (by decide +kernel)) ggX4_wholes_X4_needSlice
set_option maxRecDepth 20000 in
theorem ggX4_wholes_X4_needShape : GoodIn wsX4_wholes wsX4_needShape := goodIn_ca (goodIn_r _ [14, 15, 16, 17, 30, 31, 32, 33, 34, 35, 36] (by decide +kernel) (by decide +kernel)) (goodIn_sub (fun _ h => List.mem_cons_of_mem _ (List.mem_append_right _ h)) (by decide +kernel))
set_option maxRecDepth 20000 in
theorem gX4_wholes_X4_needShape : GoodIn wsX4_wholes (wsV RX4 110 RX4 yX4_needShape wsX4_needShape) := goodIn_app (goodIn_of _ (by decide +kernel)) ggX4_wholes_X4_needShape
set_option maxRecDepth 20000 in
theorem ggX4_wholes_X3_cellsOf : GoodIn wsX4_wholes wsX3_cellsOf := goodIn_r _ [22, 23, 24, 25, 21, 26, 27, 28, 29, 43, 44, 45, 46, 47, 48, 49] (by decide +kernel) (by decide +kernel)
set_option maxRecDepth 20000 in
theorem gX4_wholes_X3_cellsOf : GoodIn wsX4_wholes (wsV RX4 136 RX3 yX3_cellsOf wsX3_cellsOf) := goodIn_app (goodIn_of _ (by decide +kernel)) ggX4_wholes_X3_cellsOf
theorem dX4_wholes_0 : decode cX4_wholes 0 = .ok (.aload_n 0, 1) := by decide +kernel
theorem dX4_wholes_1 : decode cX4_wholes 1 = .ok (.iload_n 1, 1) := by decide +kernel
theorem dX4_wholes_2 : decode cX4_wholes 2 = .ok (.invokevirtual 76, 3) := by decide +kernel
theorem dX4_wholes_5 : decode cX4_wholes 5 = .ok (.aload_n 0, 1) := by decide +kernel
theorem dX4_wholes_6 : decode cX4_wholes 6 = .ok (.invokevirtual 110, 3) := by decide +kernel
theorem dX4_wholes_9 : decode cX4_wholes 9 = .ok (.aload_n 0, 1) := by decide +kernel
theorem dX4_wholes_10 : decode cX4_wholes 10 = .ok (.getfield 34, 3) := by decide +kernel
theorem dX4_wholes_13 : decode cX4_wholes 13 = .ok (.iload_n 1, 1) := by decide +kernel
theorem dX4_wholes_14 : decode cX4_wholes 14 = .ok (.invokevirtual 136, 3) := by decide +kernel
theorem dX4_wholes_17 : decode cX4_wholes 17 = .ok (.ireturn, 1) := by decide +kernel
set_option maxRecDepth 20000 in
theorem ggX4_volume_X4_needShape : GoodIn wsX4_volume wsX4_needShape := goodIn_ca (goodIn_r _ [6, 7, 8, 9, 22, 23, 24, 25, 26, 27, 28] (by decide +kernel) (by decide +kernel)) (goodIn_sub (fun _ h => List.mem_cons_of_mem _ (List.mem_append_right _ h)) (by decide +kernel))
set_option maxRecDepth 20000 in
theorem gX4_volume_X4_needShape : GoodIn wsX4_volume (wsV RX4 110 RX4 yX4_needShape wsX4_needShape) := goodIn_app (goodIn_of _ (by decide +kernel)) ggX4_volume_X4_needShape
set_option maxRecDepth 20000 in
theorem ggX4_volume_X3_sumOfAreas : GoodIn wsX4_volume wsX3_sumOfAreas := goodIn_r _ [14, 15, 16, 17, 18, 13, 19, 20, 21, 29, 30, 31, 32, 33, 34, 35] (by decide +kernel) (by decide +kernel)
set_option maxRecDepth 20000 in
theorem gX4_volume_X3_sumOfAreas : GoodIn wsX4_volume (wsV RX4 140 RX3 yX3_sumOfAreas wsX3_sumOfAreas) := goodIn_app (goodIn_of _ (by decide +kernel)) ggX4_volume_X3_sumOfAreas
theorem dX4_volume_0 : decode cX4_volume 0 = .ok (.aload_n 0, 1) := by decide +kernel
theorem dX4_volume_1 : decode cX4_volume 1 = .ok (.invokevirtual 110, 3) := by decide +kernel
theorem dX4_volume_4 : decode cX4_volume 4 = .ok (.aload_n 0, 1) := by decide +kernel
theorem dX4_volume_5 : decode cX4_volume 5 = .ok (.getfield 34, 3) := by decide +kernel
theorem dX4_volume_8 : decode cX4_volume 8 = .ok (.invokevirtual 140, 3) := by decide +kernel
theorem dX4_volume_11 : decode cX4_volume 11 = .ok (.dreturn, 1) := by decide +kernel
set_option maxRecDepth 20000 in
theorem ggX4_taper_X4_needShape : GoodIn wsX4_taper wsX4_needShape := goodIn_ca (goodIn_r _ [6, 7, 8, 9, 17, 18, 19, 20, 21, 22, 23] (by decide +kernel) (by decide +kernel)) (goodIn_sub (fun _ h => List.mem_cons_of_mem _ (List.mem_append_right _ h)) (by decide +kernel))
set_option maxRecDepth 20000 in
theorem gX4_taper_X4_needShape : GoodIn wsX4_taper (wsV RX4 110 RX4 yX4_needShape wsX4_needShape) := goodIn_app (goodIn_of _ (by decide +kernel)) ggX4_taper_X4_needShape
set_option maxRecDepth 20000 in
theorem ggX4_taper_X3_thinning : GoodIn wsX4_taper wsX3_thinning := goodIn_r _ [14, 15, 16, 24, 25, 26, 27, 28, 29, 30] (by decide +kernel) (by decide +kernel)
set_option maxRecDepth 20000 in
theorem gX4_taper_X3_thinning : GoodIn wsX4_taper (wsV RX4 144 RX3 yX3_thinning wsX3_thinning) := goodIn_app (goodIn_of _ (by decide +kernel)) ggX4_taper_X3_thinning
theorem dX4_taper_0 : decode cX4_taper 0 = .ok (.aload_n 0, 1) := by decide +kernel
theorem dX4_taper_1 : decode cX4_taper 1 = .ok (.invokevirtual 110, 3) := by decide +kernel
theorem dX4_taper_4 : decode cX4_taper 4 = .ok (.aload_n 0, 1) := by decide +kernel
theorem dX4_taper_5 : decode cX4_taper 5 = .ok (.getfield 34, 3) := by decide +kernel
theorem dX4_taper_8 : decode cX4_taper 8 = .ok (.invokevirtual 144, 3) := by decide +kernel
theorem dX4_taper_11 : decode cX4_taper 11 = .ok (.dreturn, 1) := by decide +kernel
set_option maxRecDepth 20000 in
theorem ggX4_sweep_X4_needShape : GoodIn wsX4_sweep wsX4_needShape := goodIn_ca (goodIn_r _ [6, 7, 8, 9, 22, 23, 24, 25, 26, 27, 28] (by decide +kernel) (by decide +kernel)) (goodIn_sub (fun _ h => List.mem_cons_of_mem _ (List.mem_append_right _ h)) (by decide +kernel))
set_option maxRecDepth 20000 in
theorem gX4_sweep_X4_needShape : GoodIn wsX4_sweep (wsV RX4 110 RX4 yX4_needShape wsX4_needShape) := goodIn_app (goodIn_of _ (by decide +kernel)) ggX4_sweep_X4_needShape
set_option maxRecDepth 20000 in
theorem ggX4_sweep_X3_greatestBend : GoodIn wsX4_sweep wsX3_greatestBend := goodIn_r _ [14, 15, 16, 17, 18, 19, 20, 13, 21, 29, 30, 31, 32, 33, 34, 35] (by decide +kernel) (by decide +kernel)
set_option maxRecDepth 20000 in
theorem gX4_sweep_X3_greatestBend : GoodIn wsX4_sweep (wsV RX4 147 RX3 yX3_greatestBend wsX3_greatestBend) := goodIn_app (goodIn_of _ (by decide +kernel)) ggX4_sweep_X3_greatestBend
theorem dX4_sweep_0 : decode cX4_sweep 0 = .ok (.aload_n 0, 1) := by decide +kernel
theorem dX4_sweep_1 : decode cX4_sweep 1 = .ok (.invokevirtual 110, 3) := by decide +kernel
theorem dX4_sweep_4 : decode cX4_sweep 4 = .ok (.aload_n 0, 1) := by decide +kernel
theorem dX4_sweep_5 : decode cX4_sweep 5 = .ok (.getfield 34, 3) := by decide +kernel
theorem dX4_sweep_8 : decode cX4_sweep 8 = .ok (.invokevirtual 147, 3) := by decide +kernel
theorem dX4_sweep_11 : decode cX4_sweep 11 = .ok (.dreturn, 1) := by decide +kernel
set_option maxRecDepth 20000 in
theorem ggX4_rule_X1_isFull : GoodIn wsX4_rule wsX1_isFull := goodIn_r _ [10, 11, 26, 27, 28, 29] (by decide +kernel) (by decide +kernel)
set_option maxRecDepth 20000 in
theorem gX4_rule_X1_isFull : GoodIn wsX4_rule (wsV RX4 154 RX1 yX1_isFull wsX1_isFull) := goodIn_app (goodIn_of _ (by decide +kernel)) ggX4_rule_X1_isFull
set_option maxRecDepth 20000 in
theorem ggX4_rule_X1_addOne : GoodIn wsX4_rule wsX1_addOne := goodIn_r _ [15, 16, 11, 17, 18, 26, 27, 28, 29] (by decide +kernel) (by decide +kernel)
set_option maxRecDepth 20000 in
theorem gX4_rule_X1_addOne : GoodIn wsX4_rule (wsV RX4 163 RX1 yX1_addOne wsX1_addOne) := goodIn_app (goodIn_of _ (by decide +kernel)) ggX4_rule_X1_addOne
theorem dX4_rule_0 : decode cX4_rule 0 = .ok (.iload_n 1, 1) := by decide +kernel
theorem dX4_rule_1 : decode cX4_rule 1 = .ok (.ifCond .lt 8, 3) := by decide +kernel
theorem dX4_rule_4 : decode cX4_rule 4 = .ok (.iload_n 1, 1) := by decide +kernel
theorem dX4_rule_5 : decode cX4_rule 5 = .ok (.iconst 4, 1) := by decide +kernel
theorem dX4_rule_6 : decode cX4_rule 6 = .ok (.if_icmp .le 13, 3) := by decide +kernel
theorem dX4_rule_9 : decode cX4_rule 9 = .ok (.new 59, 3) := by decide +kernel
theorem dX4_rule_12 : decode cX4_rule 12 = .ok (.dup, 1) := by decide +kernel
theorem dX4_rule_13 : decode cX4_rule 13 = .ok (.ldc 150, 2) := by decide +kernel
theorem dX4_rule_15 : decode cX4_rule 15 = .ok (.invokespecial 63, 3) := by decide +kernel
theorem dX4_rule_18 : decode cX4_rule 18 = .ok (.athrow, 1) := by decide +kernel
theorem dX4_rule_19 : decode cX4_rule 19 = .ok (.iload 4, 2) := by decide +kernel
theorem dX4_rule_21 : decode cX4_rule 21 = .ok (.ifCond .lt 10, 3) := by decide +kernel
theorem dX4_rule_24 : decode cX4_rule 24 = .ok (.iload 4, 2) := by decide +kernel
theorem dX4_rule_26 : decode cX4_rule 26 = .ok (.bipush 100, 2) := by decide +kernel
theorem dX4_rule_28 : decode cX4_rule 28 = .ok (.if_icmp .le 13, 3) := by decide +kernel
theorem dX4_rule_31 : decode cX4_rule 31 = .ok (.new 59, 3) := by decide +kernel
theorem dX4_rule_34 : decode cX4_rule 34 = .ok (.dup, 1) := by decide +kernel
theorem dX4_rule_35 : decode cX4_rule 35 = .ok (.ldc 152, 2) := by decide +kernel
theorem dX4_rule_37 : decode cX4_rule 37 = .ok (.invokespecial 63, 3) := by decide +kernel
theorem dX4_rule_40 : decode cX4_rule 40 = .ok (.athrow, 1) := by decide +kernel
theorem dX4_rule_41 : decode cX4_rule 41 = .ok (.aload_n 0, 1) := by decide +kernel
theorem dX4_rule_42 : decode cX4_rule 42 = .ok (.getfield 48, 3) := by decide +kernel
theorem dX4_rule_45 : decode cX4_rule 45 = .ok (.invokevirtual 154, 3) := by decide +kernel
theorem dX4_rule_48 : decode cX4_rule 48 = .ok (.ifCond .eq 13, 3) := by decide +kernel
theorem dX4_rule_51 : decode cX4_rule 51 = .ok (.new 158, 3) := by decide +kernel
theorem dX4_rule_54 : decode cX4_rule 54 = .ok (.dup, 1) := by decide +kernel
theorem dX4_rule_55 : decode cX4_rule 55 = .ok (.ldc 160, 2) := by decide +kernel
theorem dX4_rule_57 : decode cX4_rule 57 = .ok (.invokespecial 162, 3) := by decide +kernel
theorem dX4_rule_60 : decode cX4_rule 60 = .ok (.athrow, 1) := by decide +kernel
theorem dX4_rule_61 : decode cX4_rule 61 = .ok (.aload_n 0, 1) := by decide +kernel
theorem dX4_rule_62 : decode cX4_rule 62 = .ok (.getfield 48, 3) := by decide +kernel
theorem dX4_rule_65 : decode cX4_rule 65 = .ok (.iload_n 1, 1) := by decide +kernel
theorem dX4_rule_66 : decode cX4_rule 66 = .ok (.dload_n 2, 1) := by decide +kernel
theorem dX4_rule_67 : decode cX4_rule 67 = .ok (.iload 4, 2) := by decide +kernel
theorem dX4_rule_69 : decode cX4_rule 69 = .ok (.invokevirtual 163, 3) := by decide +kernel
theorem dX4_rule_72 : decode cX4_rule 72 = .ok (.ireturn, 1) := by decide +kernel
set_option maxRecDepth 20000 in
theorem ggX4_cls_X4_needShape : GoodIn wsX4_cls wsX4_needShape := goodIn_ca (goodIn_r _ [7, 8, 9, 10, 53, 54, 55, 56, 57, 58, 59] (by decide +kernel) (by decide +kernel)) (goodIn_sub (fun _ h => List.mem_cons_of_mem _ (List.mem_append_right _ h)) (by decide +kernel))
set_option maxRecDepth 20000 in
theorem gX4_cls_X4_needShape : GoodIn wsX4_cls (wsV RX4 110 RX4 yX4_needShape wsX4_needShape) := goodIn_app (goodIn_of _ (by decide +kernel)) ggX4_cls_X4_needShape
set_option maxRecDepth 20000 in
theorem ggX4_cls_X1_classOf : GoodIn wsX4_cls wsX1_classOf := goodIn_r _ [15, 16, 17, 18, 19, 20, 21, 14, 22, 23, 24, 25, 26, 27, 28, 29, 30, 31, 32, 33, 34, 35, 36, 37, 38, 39, 40, 41, 42, 43, 44, 45, 46, 47, 48, 49, 50, 51, 52, 60, 61, 62, 63, 64, 65, 66, 67, 68, 69, 70] (by decide +kernel) (by decide +kernel)
set_option maxRecDepth 20000 in
theorem gX4_cls_X1_classOf : GoodIn wsX4_cls (wsV RX4 167 RX1 yX1_classOf wsX1_classOf) := goodIn_app (goodIn_of _ (by decide +kernel)) ggX4_cls_X1_classOf
theorem dX4_cls_0 : decode cX4_cls 0 = .ok (.aload_n 0, 1) := by decide +kernel
theorem dX4_cls_1 : decode cX4_cls 1 = .ok (.invokevirtual 110, 3) := by decide +kernel
theorem dX4_cls_4 : decode cX4_cls 4 = .ok (.aload_n 0, 1) := by decide +kernel
theorem dX4_cls_5 : decode cX4_cls 5 = .ok (.getfield 48, 3) := by decide +kernel
theorem dX4_cls_8 : decode cX4_cls 8 = .ok (.aload_n 0, 1) := by decide +kernel
theorem dX4_cls_9 : decode cX4_cls 9 = .ok (.getfield 34, 3) := by decide +kernel
theorem dX4_cls_12 : decode cX4_cls 12 = .ok (.invokevirtual 167, 3) := by decide +kernel
theorem dX4_cls_15 : decode cX4_cls 15 = .ok (.ireturn, 1) := by decide +kernel
set_option maxRecDepth 20000 in
theorem ggX4_keep_X4_needShape : GoodIn wsX4_keep wsX4_needShape := goodIn_ca (goodIn_r _ [7, 8, 9, 10, 19, 20, 21, 22, 23, 24, 25] (by decide +kernel) (by decide +kernel)) (goodIn_sub (fun _ h => List.mem_cons_of_mem _ (List.mem_append_right _ h)) (by decide +kernel))
set_option maxRecDepth 20000 in
theorem gX4_keep_X4_needShape : GoodIn wsX4_keep (wsV RX4 110 RX4 yX4_needShape wsX4_needShape) := goodIn_app (goodIn_of _ (by decide +kernel)) ggX4_keep_X4_needShape
set_option maxRecDepth 20000 in
theorem ggX4_keep_X0_take : GoodIn wsX4_keep wsX0_take := goodIn_r _ [15, 16, 17, 18, 26, 27, 28, 29, 30, 31, 32, 33, 34, 35] (by decide +kernel) (by decide +kernel)
set_option maxRecDepth 20000 in
theorem gX4_keep_X0_take : GoodIn wsX4_keep (wsV RX4 171 RX0 yX0_take wsX0_take) := goodIn_app (goodIn_of _ (by decide +kernel)) ggX4_keep_X0_take
theorem dX4_keep_0 : decode cX4_keep 0 = .ok (.aload_n 0, 1) := by decide +kernel
theorem dX4_keep_1 : decode cX4_keep 1 = .ok (.invokevirtual 110, 3) := by decide +kernel
theorem dX4_keep_4 : decode cX4_keep 4 = .ok (.aload_n 0, 1) := by decide +kernel
theorem dX4_keep_5 : decode cX4_keep 5 = .ok (.getfield 41, 3) := by decide +kernel
theorem dX4_keep_8 : decode cX4_keep 8 = .ok (.aload_n 0, 1) := by decide +kernel
theorem dX4_keep_9 : decode cX4_keep 9 = .ok (.getfield 34, 3) := by decide +kernel
theorem dX4_keep_12 : decode cX4_keep 12 = .ok (.invokevirtual 171, 3) := by decide +kernel
theorem dX4_keep_15 : decode cX4_keep 15 = .ok (.return_, 1) := by decide +kernel
set_option maxRecDepth 20000 in
theorem ggX4_apart_X4_needShape : GoodIn wsX4_apart wsX4_needShape := goodIn_ca (goodIn_r _ [9, 10, 11, 12, 32, 33, 34, 35, 36, 37, 38] (by decide +kernel) (by decide +kernel)) (goodIn_sub (fun _ h => List.mem_cons_of_mem _ (List.mem_append_right _ h)) (by decide +kernel))
set_option maxRecDepth 20000 in
theorem gX4_apart_X4_needShape : GoodIn wsX4_apart (wsV RX4 110 RX4 yX4_needShape wsX4_needShape) := goodIn_app (goodIn_of _ (by decide +kernel)) ggX4_apart_X4_needShape
set_option maxRecDepth 20000 in
theorem ggX4_apart_X4_needKept : GoodIn wsX4_apart wsX4_needKept := goodIn_ca (goodIn_r _ [16, 10, 11, 3, 32, 33, 34, 35, 36, 37, 38, 39, 40, 41] (by decide +kernel) (by decide +kernel)) (goodIn_sub (fun _ h => List.mem_cons_of_mem _ (List.mem_append_right _ h)) (by decide +kernel))
set_option maxRecDepth 20000 in
theorem gX4_apart_X4_needKept : GoodIn wsX4_apart (wsV RX4 177 RX4 yX4_needKept wsX4_needKept) := goodIn_app (goodIn_of _ (by decide +kernel)) ggX4_apart_X4_needKept
set_option maxRecDepth 20000 in
theorem ggX4_apart_X0_distance : GoodIn wsX4_apart wsX0_distance := goodIn_r _ [21, 22, 23, 24, 25, 20, 26, 27, 28, 29, 30, 31, 39, 40, 41, 42, 43, 44, 45, 46, 47, 48] (by decide +kernel) (by decide +kernel)
set_option maxRecDepth 20000 in
theorem gX4_apart_X0_distance : GoodIn wsX4_apart (wsV RX4 180 RX0 yX0_distance wsX0_distance) := goodIn_app (goodIn_of _ (by decide +kernel)) ggX4_apart_X0_distance
theorem dX4_apart_0 : decode cX4_apart 0 = .ok (.iload_n 1, 1) := by decide +kernel
theorem dX4_apart_1 : decode cX4_apart 1 = .ok (.ifCond .lt 8, 3) := by decide +kernel
theorem dX4_apart_4 : decode cX4_apart 4 = .ok (.iload_n 1, 1) := by decide +kernel
theorem dX4_apart_5 : decode cX4_apart 5 = .ok (.iconst 4, 1) := by decide +kernel
theorem dX4_apart_6 : decode cX4_apart 6 = .ok (.if_icmp .lt 13, 3) := by decide +kernel
theorem dX4_apart_9 : decode cX4_apart 9 = .ok (.new 59, 3) := by decide +kernel
theorem dX4_apart_12 : decode cX4_apart 12 = .ok (.dup, 1) := by decide +kernel
theorem dX4_apart_13 : decode cX4_apart 13 = .ok (.ldc 175, 2) := by decide +kernel
theorem dX4_apart_15 : decode cX4_apart 15 = .ok (.invokespecial 63, 3) := by decide +kernel
theorem dX4_apart_18 : decode cX4_apart 18 = .ok (.athrow, 1) := by decide +kernel
theorem dX4_apart_19 : decode cX4_apart 19 = .ok (.aload_n 0, 1) := by decide +kernel
theorem dX4_apart_20 : decode cX4_apart 20 = .ok (.invokevirtual 110, 3) := by decide +kernel
theorem dX4_apart_23 : decode cX4_apart 23 = .ok (.aload_n 0, 1) := by decide +kernel
theorem dX4_apart_24 : decode cX4_apart 24 = .ok (.invokevirtual 177, 3) := by decide +kernel
theorem dX4_apart_27 : decode cX4_apart 27 = .ok (.aload_n 0, 1) := by decide +kernel
theorem dX4_apart_28 : decode cX4_apart 28 = .ok (.getfield 41, 3) := by decide +kernel
theorem dX4_apart_31 : decode cX4_apart 31 = .ok (.aload_n 0, 1) := by decide +kernel
theorem dX4_apart_32 : decode cX4_apart 32 = .ok (.getfield 34, 3) := by decide +kernel
theorem dX4_apart_35 : decode cX4_apart 35 = .ok (.iload_n 1, 1) := by decide +kernel
theorem dX4_apart_36 : decode cX4_apart 36 = .ok (.invokevirtual 180, 3) := by decide +kernel
theorem dX4_apart_39 : decode cX4_apart 39 = .ok (.dreturn, 1) := by decide +kernel
set_option maxRecDepth 20000 in
theorem ggX4_match_X4_needShape : GoodIn wsX4_match wsX4_needShape := goodIn_ca (goodIn_r _ [7, 8, 9, 10, 34, 35, 36, 37, 38, 39, 40] (by decide +kernel) (by decide +kernel)) (goodIn_sub (fun _ h => List.mem_cons_of_mem _ (List.mem_append_right _ h)) (by decide +kernel))
set_option maxRecDepth 20000 in
theorem gX4_match_X4_needShape : GoodIn wsX4_match (wsV RX4 110 RX4 yX4_needShape wsX4_needShape) := goodIn_app (goodIn_of _ (by decide +kernel)) ggX4_match_X4_needShape
set_option maxRecDepth 20000 in
theorem ggX4_match_X4_needKept : GoodIn wsX4_match wsX4_needKept := goodIn_ca (goodIn_r _ [14, 8, 9, 1, 34, 35, 36, 37, 38, 39, 40, 41, 42, 43] (by decide +kernel) (by decide +kernel)) (goodIn_sub (fun _ h => List.mem_cons_of_mem _ (List.mem_append_right _ h)) (by decide +kernel))
set_option maxRecDepth 20000 in
theorem gX4_match_X4_needKept : GoodIn wsX4_match (wsV RX4 177 RX4 yX4_needKept wsX4_needKept) := goodIn_app (goodIn_of _ (by decide +kernel)) ggX4_match_X4_needKept
set_option maxRecDepth 20000 in
theorem ggX4_match_X0_nearestTurn : GoodIn wsX4_match wsX0_nearestTurn := goodIn_r _ [19, 20, 21, 22, 18, 23, 24, 25, 26, 27, 28, 29, 30, 31, 32, 33, 41, 42, 43, 44, 45, 46, 47, 48, 49, 50] (by decide +kernel) (by decide +kernel)
set_option maxRecDepth 20000 in
theorem gX4_match_X0_nearestTurn : GoodIn wsX4_match (wsV RX4 184 RX0 yX0_nearestTurn wsX0_nearestTurn) := goodIn_app (goodIn_of _ (by decide +kernel)) ggX4_match_X0_nearestTurn
theorem dX4_match_0 : decode cX4_match 0 = .ok (.aload_n 0, 1) := by decide +kernel
theorem dX4_match_1 : decode cX4_match 1 = .ok (.invokevirtual 110, 3) := by decide +kernel
theorem dX4_match_4 : decode cX4_match 4 = .ok (.aload_n 0, 1) := by decide +kernel
theorem dX4_match_5 : decode cX4_match 5 = .ok (.invokevirtual 177, 3) := by decide +kernel
theorem dX4_match_8 : decode cX4_match 8 = .ok (.aload_n 0, 1) := by decide +kernel
theorem dX4_match_9 : decode cX4_match 9 = .ok (.getfield 41, 3) := by decide +kernel
theorem dX4_match_12 : decode cX4_match 12 = .ok (.aload_n 0, 1) := by decide +kernel
theorem dX4_match_13 : decode cX4_match 13 = .ok (.getfield 34, 3) := by decide +kernel
theorem dX4_match_16 : decode cX4_match 16 = .ok (.invokevirtual 184, 3) := by decide +kernel
theorem dX4_match_19 : decode cX4_match 19 = .ok (.ireturn, 1) := by decide +kernel
theorem dX4_law_0 : decode cX4_law 0 = .ok (.lload_n 1, 1) := by decide +kernel
theorem dX4_law_1 : decode cX4_law 1 = .ok (.lconst 0, 1) := by decide +kernel
theorem dX4_law_2 : decode cX4_law 2 = .ok (.lcmp, 1) := by decide +kernel
theorem dX4_law_3 : decode cX4_law 3 = .ok (.ifCond .lt 11, 3) := by decide +kernel
theorem dX4_law_6 : decode cX4_law 6 = .ok (.lload_n 1, 1) := by decide +kernel
theorem dX4_law_7 : decode cX4_law 7 = .ok (.ldc2_w 187, 3) := by decide +kernel
theorem dX4_law_10 : decode cX4_law 10 = .ok (.lcmp, 1) := by decide +kernel
theorem dX4_law_11 : decode cX4_law 11 = .ok (.ifCond .le 13, 3) := by decide +kernel
theorem dX4_law_14 : decode cX4_law 14 = .ok (.new 59, 3) := by decide +kernel
theorem dX4_law_17 : decode cX4_law 17 = .ok (.dup, 1) := by decide +kernel
theorem dX4_law_18 : decode cX4_law 18 = .ok (.ldc 189, 2) := by decide +kernel
theorem dX4_law_20 : decode cX4_law 20 = .ok (.invokespecial 63, 3) := by decide +kernel
theorem dX4_law_23 : decode cX4_law 23 = .ok (.athrow, 1) := by decide +kernel
theorem dX4_law_24 : decode cX4_law 24 = .ok (.lload_n 3, 1) := by decide +kernel
theorem dX4_law_25 : decode cX4_law 25 = .ok (.lconst 1, 1) := by decide +kernel
theorem dX4_law_26 : decode cX4_law 26 = .ok (.lcmp, 1) := by decide +kernel
theorem dX4_law_27 : decode cX4_law 27 = .ok (.ifCond .lt 11, 3) := by decide +kernel
theorem dX4_law_30 : decode cX4_law 30 = .ok (.lload_n 3, 1) := by decide +kernel
theorem dX4_law_31 : decode cX4_law 31 = .ok (.ldc2_w 191, 3) := by decide +kernel
theorem dX4_law_34 : decode cX4_law 34 = .ok (.lcmp, 1) := by decide +kernel
theorem dX4_law_35 : decode cX4_law 35 = .ok (.ifCond .le 13, 3) := by decide +kernel
theorem dX4_law_38 : decode cX4_law 38 = .ok (.new 59, 3) := by decide +kernel
theorem dX4_law_41 : decode cX4_law 41 = .ok (.dup, 1) := by decide +kernel
theorem dX4_law_42 : decode cX4_law 42 = .ok (.ldc 193, 2) := by decide +kernel
theorem dX4_law_44 : decode cX4_law 44 = .ok (.invokespecial 63, 3) := by decide +kernel
theorem dX4_law_47 : decode cX4_law 47 = .ok (.athrow, 1) := by decide +kernel
theorem dX4_law_48 : decode cX4_law 48 = .ok (.lload 5, 2) := by decide +kernel
theorem dX4_law_50 : decode cX4_law 50 = .ok (.lconst 0, 1) := by decide +kernel
theorem dX4_law_51 : decode cX4_law 51 = .ok (.lcmp, 1) := by decide +kernel
theorem dX4_law_52 : decode cX4_law 52 = .ok (.ifCond .ge 13, 3) := by decide +kernel
theorem dX4_law_55 : decode cX4_law 55 = .ok (.new 59, 3) := by decide +kernel
theorem dX4_law_58 : decode cX4_law 58 = .ok (.dup, 1) := by decide +kernel
theorem dX4_law_59 : decode cX4_law 59 = .ok (.ldc 195, 2) := by decide +kernel
theorem dX4_law_61 : decode cX4_law 61 = .ok (.invokespecial 63, 3) := by decide +kernel
theorem dX4_law_64 : decode cX4_law 64 = .ok (.athrow, 1) := by decide +kernel
theorem dX4_law_65 : decode cX4_law 65 = .ok (.lload_n 1, 1) := by decide +kernel
theorem dX4_law_66 : decode cX4_law 66 = .ok (.lload_n 1, 1) := by decide +kernel
theorem dX4_law_67 : decode cX4_law 67 = .ok (.lload_n 3, 1) := by decide +kernel
theorem dX4_law_68 : decode cX4_law 68 = .ok (.lrem, 1) := by decide +kernel
theorem dX4_law_69 : decode cX4_law 69 = .ok (.lsub, 1) := by decide +kernel
theorem dX4_law_70 : decode cX4_law 70 = .ok (.lstore 7, 2) := by decide +kernel
theorem dX4_law_72 : decode cX4_law 72 = .ok (.lload 7, 2) := by decide +kernel
theorem dX4_law_74 : decode cX4_law 74 = .ok (.lload 5, 2) := by decide +kernel
theorem dX4_law_76 : decode cX4_law 76 = .ok (.lcmp, 1) := by decide +kernel
theorem dX4_law_77 : decode cX4_law 77 = .ok (.ifCond .ge 7, 3) := by decide +kernel
theorem dX4_law_80 : decode cX4_law 80 = .ok (.lconst 0, 1) := by decide +kernel
theorem dX4_law_81 : decode cX4_law 81 = .ok (.goto 5, 3) := by decide +kernel
theorem dX4_law_84 : decode cX4_law 84 = .ok (.lload 7, 2) := by decide +kernel
theorem dX4_law_86 : decode cX4_law 86 = .ok (.lreturn, 1) := by decide +kernel
theorem dX4_needSlice_0 : decode cX4_needSlice 0 = .ok (.iload_n 1, 1) := by decide +kernel
theorem dX4_needSlice_1 : decode cX4_needSlice 1 = .ok (.ifCond .lt 11, 3) := by decide +kernel
theorem dX4_needSlice_4 : decode cX4_needSlice 4 = .ok (.iload_n 1, 1) := by decide +kernel
theorem dX4_needSlice_5 : decode cX4_needSlice 5 = .ok (.aload_n 0, 1) := by decide +kernel
theorem dX4_needSlice_6 : decode cX4_needSlice 6 = .ok (.getfield 13, 3) := by decide +kernel
theorem dX4_needSlice_9 : decode cX4_needSlice 9 = .ok (.if_icmp .lt 13, 3) := by decide +kernel
theorem dX4_needSlice_12 : decode cX4_needSlice 12 = .ok (.new 105, 3) := by decide +kernel
theorem dX4_needSlice_15 : decode cX4_needSlice 15 = .ok (.dup, 1) := by decide +kernel
theorem dX4_needSlice_16 : decode cX4_needSlice 16 = .ok (.ldc 197, 2) := by decide +kernel
theorem dX4_needSlice_18 : decode cX4_needSlice 18 = .ok (.invokespecial 109, 3) := by decide +kernel
theorem dX4_needSlice_21 : decode cX4_needSlice 21 = .ok (.athrow, 1) := by decide +kernel
theorem dX4_needSlice_22 : decode cX4_needSlice 22 = .ok (.return_, 1) := by decide +kernel
theorem dX4_needView_0 : decode cX4_needView 0 = .ok (.iload_n 1, 1) := by decide +kernel
theorem dX4_needView_1 : decode cX4_needView 1 = .ok (.ifCond .lt 11, 3) := by decide +kernel
theorem dX4_needView_4 : decode cX4_needView 4 = .ok (.iload_n 1, 1) := by decide +kernel
theorem dX4_needView_5 : decode cX4_needView 5 = .ok (.aload_n 0, 1) := by decide +kernel
theorem dX4_needView_6 : decode cX4_needView 6 = .ok (.getfield 17, 3) := by decide +kernel
theorem dX4_needView_9 : decode cX4_needView 9 = .ok (.if_icmp .lt 13, 3) := by decide +kernel
theorem dX4_needView_12 : decode cX4_needView 12 = .ok (.new 105, 3) := by decide +kernel
theorem dX4_needView_15 : decode cX4_needView 15 = .ok (.dup, 1) := by decide +kernel
theorem dX4_needView_16 : decode cX4_needView 16 = .ok (.ldc 199, 2) := by decide +kernel
theorem dX4_needView_18 : decode cX4_needView 18 = .ok (.invokespecial 109, 3) := by decide +kernel
theorem dX4_needView_21 : decode cX4_needView 21 = .ok (.athrow, 1) := by decide +kernel
theorem dX4_needView_22 : decode cX4_needView 22 = .ok (.return_, 1) := by decide +kernel
theorem dX4_needShape_0 : decode cX4_needShape 0 = .ok (.aload_n 0, 1) := by decide +kernel
theorem dX4_needShape_1 : decode cX4_needShape 1 = .ok (.getfield 72, 3) := by decide +kernel
theorem dX4_needShape_4 : decode cX4_needShape 4 = .ok (.ifCond .ne 13, 3) := by decide +kernel
theorem dX4_needShape_7 : decode cX4_needShape 7 = .ok (.new 158, 3) := by decide +kernel
theorem dX4_needShape_10 : decode cX4_needShape 10 = .ok (.dup, 1) := by decide +kernel
theorem dX4_needShape_11 : decode cX4_needShape 11 = .ok (.ldc 201, 2) := by decide +kernel
theorem dX4_needShape_13 : decode cX4_needShape 13 = .ok (.invokespecial 162, 3) := by decide +kernel
theorem dX4_needShape_16 : decode cX4_needShape 16 = .ok (.athrow, 1) := by decide +kernel
theorem dX4_needShape_17 : decode cX4_needShape 17 = .ok (.return_, 1) := by decide +kernel
theorem dX4_needKept_0 : decode cX4_needKept 0 = .ok (.aload_n 0, 1) := by decide +kernel
theorem dX4_needKept_1 : decode cX4_needKept 1 = .ok (.getfield 41, 3) := by decide +kernel
theorem dX4_needKept_4 : decode cX4_needKept 4 = .ok (.getfield 203, 3) := by decide +kernel
theorem dX4_needKept_7 : decode cX4_needKept 7 = .ok (.ifCond .ne 13, 3) := by decide +kernel
theorem dX4_needKept_10 : decode cX4_needKept 10 = .ok (.new 158, 3) := by decide +kernel
theorem dX4_needKept_13 : decode cX4_needKept 13 = .ok (.dup, 1) := by decide +kernel
theorem dX4_needKept_14 : decode cX4_needKept 14 = .ok (.ldc 206, 2) := by decide +kernel
theorem dX4_needKept_16 : decode cX4_needKept 16 = .ok (.invokespecial 162, 3) := by decide +kernel
theorem dX4_needKept_19 : decode cX4_needKept 19 = .ok (.athrow, 1) := by decide +kernel
theorem dX4_needKept_20 : decode cX4_needKept 20 = .ok (.return_, 1) := by decide +kernel
theorem dX4_nearest_0 : decode cX4_nearest 0 = .ok (.iconst 1, 1) := by decide +kernel
theorem dX4_nearest_1 : decode cX4_nearest 1 = .ok (.iload_n 0, 1) := by decide +kernel
theorem dX4_nearest_2 : decode cX4_nearest 2 = .ok (.iload_n 1, 1) := by decide +kernel
theorem dX4_nearest_3 : decode cX4_nearest 3 = .ok (.invokestatic 208, 3) := by decide +kernel
theorem dX4_nearest_6 : decode cX4_nearest 6 = .ok (.invokestatic 213, 3) := by decide +kernel
theorem dX4_nearest_9 : decode cX4_nearest 9 = .ok (.ireturn, 1) := by decide +kernel
theorem dX4_within_0 : decode cX4_within 0 = .ok (.dload_n 0, 1) := by decide +kernel
theorem dX4_within_1 : decode cX4_within 1 = .ok (.iload_n 2, 1) := by decide +kernel
theorem dX4_within_2 : decode cX4_within 2 = .ok (.ineg, 1) := by decide +kernel
theorem dX4_within_3 : decode cX4_within 3 = .ok (.i2d, 1) := by decide +kernel
theorem dX4_within_4 : decode cX4_within 4 = .ok (.dcmp .l, 1) := by decide +kernel
theorem dX4_within_5 : decode cX4_within 5 = .ok (.ifCond .lt 14, 3) := by decide +kernel
theorem dX4_within_8 : decode cX4_within 8 = .ok (.dload_n 0, 1) := by decide +kernel
theorem dX4_within_9 : decode cX4_within 9 = .ok (.iload_n 2, 1) := by decide +kernel
theorem dX4_within_10 : decode cX4_within 10 = .ok (.i2d, 1) := by decide +kernel
theorem dX4_within_11 : decode cX4_within 11 = .ok (.dcmp .g, 1) := by decide +kernel
theorem dX4_within_12 : decode cX4_within 12 = .ok (.ifCond .gt 7, 3) := by decide +kernel
theorem dX4_within_15 : decode cX4_within 15 = .ok (.iconst 1, 1) := by decide +kernel
theorem dX4_within_16 : decode cX4_within 16 = .ok (.goto 4, 3) := by decide +kernel
theorem dX4_within_19 : decode cX4_within 19 = .ok (.iconst 0, 1) := by decide +kernel
theorem dX4_within_20 : decode cX4_within 20 = .ok (.ireturn, 1) := by decide +kernel
theorem dX4_root_0 : decode cX4_root 0 = .ok (.dload_n 0, 1) := by decide +kernel
theorem dX4_root_1 : decode cX4_root 1 = .ok (.dconst 1, 1) := by decide +kernel
theorem dX4_root_2 : decode cX4_root 2 = .ok (.dadd, 1) := by decide +kernel
theorem dX4_root_3 : decode cX4_root 3 = .ok (.ldc2_w 216, 3) := by decide +kernel
theorem dX4_root_6 : decode cX4_root 6 = .ok (.ddiv, 1) := by decide +kernel
theorem dX4_root_7 : decode cX4_root 7 = .ok (.dstore_n 2, 1) := by decide +kernel
theorem dX4_root_8 : decode cX4_root 8 = .ok (.iconst 0, 1) := by decide +kernel
theorem dX4_root_9 : decode cX4_root 9 = .ok (.istore 4, 2) := by decide +kernel
theorem dX4_root_11 : decode cX4_root 11 = .ok (.iload 4, 2) := by decide +kernel
theorem dX4_root_13 : decode cX4_root 13 = .ok (.bipush 60, 2) := by decide +kernel
theorem dX4_root_15 : decode cX4_root 15 = .ok (.if_icmp .ge 19, 3) := by decide +kernel
theorem dX4_root_18 : decode cX4_root 18 = .ok (.dload_n 2, 1) := by decide +kernel
theorem dX4_root_19 : decode cX4_root 19 = .ok (.dload_n 0, 1) := by decide +kernel
theorem dX4_root_20 : decode cX4_root 20 = .ok (.dload_n 2, 1) := by decide +kernel
theorem dX4_root_21 : decode cX4_root 21 = .ok (.ddiv, 1) := by decide +kernel
theorem dX4_root_22 : decode cX4_root 22 = .ok (.dadd, 1) := by decide +kernel
theorem dX4_root_23 : decode cX4_root 23 = .ok (.ldc2_w 216, 3) := by decide +kernel
theorem dX4_root_26 : decode cX4_root 26 = .ok (.ddiv, 1) := by decide +kernel
theorem dX4_root_27 : decode cX4_root 27 = .ok (.dstore_n 2, 1) := by decide +kernel
theorem dX4_root_28 : decode cX4_root 28 = .ok (.iinc 4 1, 3) := by decide +kernel
theorem dX4_root_31 : decode cX4_root 31 = .ok (.goto (-20), 3) := by decide +kernel
theorem dX4_root_34 : decode cX4_root 34 = .ok (.dload_n 2, 1) := by decide +kernel
theorem dX4_root_35 : decode cX4_root 35 = .ok (.dreturn, 1) := by decide +kernel
