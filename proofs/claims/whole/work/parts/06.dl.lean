theorem dJx00060_init_a7421_0 : decode cJx00060_init_a7421 0 = .ok (.aload_n 0, 1) := by decide +kernel
theorem dJx00060_init_a7421_1 : decode cJx00060_init_a7421 1 = .ok (.aload_n 1, 1) := by decide +kernel
theorem dJx00060_init_a7421_2 : decode cJx00060_init_a7421 2 = .ok (.invokespecial 7, 3) := by decide +kernel
theorem dJx00060_init_a7421_5 : decode cJx00060_init_a7421 5 = .ok (.return_, 1) := by decide +kernel
theorem dJ9_max_7cf53_0 : decode cJ9_max_7cf53 0 = .ok (.iload_n 0, 1) := by decide +kernel
theorem dJ9_max_7cf53_1 : decode cJ9_max_7cf53 1 = .ok (.iload_n 1, 1) := by decide +kernel
theorem dJ9_max_7cf53_2 : decode cJ9_max_7cf53 2 = .ok (.if_icmp .lt 7, 3) := by decide +kernel
theorem dJ9_max_7cf53_5 : decode cJ9_max_7cf53 5 = .ok (.iload_n 0, 1) := by decide +kernel
theorem dJ9_max_7cf53_6 : decode cJ9_max_7cf53 6 = .ok (.goto 4, 3) := by decide +kernel
theorem dJ9_max_7cf53_9 : decode cJ9_max_7cf53 9 = .ok (.iload_n 1, 1) := by decide +kernel
theorem dJ9_max_7cf53_10 : decode cJ9_max_7cf53 10 = .ok (.ireturn, 1) := by decide +kernel
theorem dJ9_min_7cf53_0 : decode cJ9_min_7cf53 0 = .ok (.iload_n 0, 1) := by decide +kernel
theorem dJ9_min_7cf53_1 : decode cJ9_min_7cf53 1 = .ok (.iload_n 1, 1) := by decide +kernel
theorem dJ9_min_7cf53_2 : decode cJ9_min_7cf53 2 = .ok (.if_icmp .gt 7, 3) := by decide +kernel
theorem dJ9_min_7cf53_5 : decode cJ9_min_7cf53 5 = .ok (.iload_n 0, 1) := by decide +kernel
theorem dJ9_min_7cf53_6 : decode cJ9_min_7cf53 6 = .ok (.goto 4, 3) := by decide +kernel
theorem dJ9_min_7cf53_9 : decode cJ9_min_7cf53 9 = .ok (.iload_n 1, 1) := by decide +kernel
theorem dJ9_min_7cf53_10 : decode cJ9_min_7cf53 10 = .ok (.ireturn, 1) := by decide +kernel
theorem dL_cell_0 : decode cL_cell 0 = .ok (.iload_n 1, 1) := by decide +kernel
theorem dL_cell_1 : decode cL_cell 1 = .ok (.aload_n 0, 1) := by decide +kernel
theorem dL_cell_2 : decode cL_cell 2 = .ok (.arraylength, 1) := by decide +kernel
theorem dL_cell_3 : decode cL_cell 3 = .ok (.if_icmp .ge 9, 3) := by decide +kernel
theorem dL_cell_6 : decode cL_cell 6 = .ok (.aload_n 0, 1) := by decide +kernel
theorem dL_cell_7 : decode cL_cell 7 = .ok (.iload_n 1, 1) := by decide +kernel
theorem dL_cell_8 : decode cL_cell 8 = .ok (.iaload, 1) := by decide +kernel
theorem dL_cell_9 : decode cL_cell 9 = .ok (.goto 4, 3) := by decide +kernel
theorem dL_cell_12 : decode cL_cell 12 = .ok (.iconst 0, 1) := by decide +kernel
theorem dL_cell_13 : decode cL_cell 13 = .ok (.ireturn, 1) := by decide +kernel
set_option maxRecDepth 20000 in
theorem ggL_aim_X4_aim : GoodIn wsL_aim wsX4_aim := goodIn_ca (goodIn_r _ [7, 8, 9, 10, 11, 12, 13, 14, 6, 15, 16, 17, 18, 19, 20, 21, 22, 23, 24, 25, 26, 27, 28, 29, 30, 31, 32, 33, 34, 35, 36, 37, 38, 39, 40, 41, 42, 43, 44, 45, 46, 47, 48, 49, 50, 51, 52, 53] (by decide +kernel) (by decide +kernel)) (goodIn_sub (fun _ h => List.mem_cons_of_mem _ (List.mem_append_right _ h)) (by decide +kernel))
set_option maxRecDepth 20000 in
theorem gL_aim_X4_aim : GoodIn wsL_aim (wsV RL 7 RX4 yX4_aim wsX4_aim) := goodIn_app (goodIn_of _ (by decide +kernel)) ggL_aim_X4_aim
theorem dL_aim_0 : decode cL_aim 0 = .ok (.aload_n 0, 1) := by decide +kernel
theorem dL_aim_1 : decode cL_aim 1 = .ok (.iload_n 1, 1) := by decide +kernel
theorem dL_aim_2 : decode cL_aim 2 = .ok (.dload_n 2, 1) := by decide +kernel
theorem dL_aim_3 : decode cL_aim 3 = .ok (.dload 4, 2) := by decide +kernel
theorem dL_aim_5 : decode cL_aim 5 = .ok (.invokevirtual 7, 3) := by decide +kernel
theorem dL_aim_8 : decode cL_aim 8 = .ok (.goto 11, 3) := by decide +kernel
theorem dL_aim_11 : decode cL_aim 11 = .ok (.astore 6, 2) := by decide +kernel
theorem dL_aim_13 : decode cL_aim 13 = .ok (.iconst 1, 1) := by decide +kernel
theorem dL_aim_14 : decode cL_aim 14 = .ok (.ireturn, 1) := by decide +kernel
theorem dL_aim_15 : decode cL_aim 15 = .ok (.astore 6, 2) := by decide +kernel
theorem dL_aim_17 : decode cL_aim 17 = .ok (.iconst 2, 1) := by decide +kernel
theorem dL_aim_18 : decode cL_aim 18 = .ok (.ireturn, 1) := by decide +kernel
theorem dL_aim_19 : decode cL_aim 19 = .ok (.iconst 0, 1) := by decide +kernel
theorem dL_aim_20 : decode cL_aim 20 = .ok (.ireturn, 1) := by decide +kernel
set_option maxRecDepth 20000 in
theorem ggL_shadow_X4_shadow : GoodIn wsL_shadow wsX4_shadow := goodIn_ca (goodIn_r _ [7, 8, 9, 10, 11, 12, 13, 14, 6, 15, 16, 17, 18, 19, 20, 21, 22, 23, 24, 25, 26, 27, 28, 29, 30, 31, 32, 33, 34, 35, 36, 37, 38, 39, 40, 41, 42, 43, 44, 45, 46, 47, 48, 49, 50, 51, 52, 53, 54, 55, 56, 57, 58, 59, 60, 61] (by decide +kernel) (by decide +kernel)) (goodIn_sub (fun _ h => List.mem_cons_of_mem _ (List.mem_append_right _ h)) (by decide +kernel))
set_option maxRecDepth 20000 in
theorem gL_shadow_X4_shadow : GoodIn wsL_shadow (wsV RL 17 RX4 yX4_shadow wsX4_shadow) := goodIn_app (goodIn_of _ (by decide +kernel)) ggL_shadow_X4_shadow
theorem dL_shadow_0 : decode cL_shadow 0 = .ok (.aload_n 0, 1) := by decide +kernel
theorem dL_shadow_1 : decode cL_shadow 1 = .ok (.iload_n 1, 1) := by decide +kernel
theorem dL_shadow_2 : decode cL_shadow 2 = .ok (.iload_n 2, 1) := by decide +kernel
theorem dL_shadow_3 : decode cL_shadow 3 = .ok (.dload_n 3, 1) := by decide +kernel
theorem dL_shadow_4 : decode cL_shadow 4 = .ok (.dload 5, 2) := by decide +kernel
theorem dL_shadow_6 : decode cL_shadow 6 = .ok (.invokevirtual 17, 3) := by decide +kernel
theorem dL_shadow_9 : decode cL_shadow 9 = .ok (.goto 11, 3) := by decide +kernel
theorem dL_shadow_12 : decode cL_shadow 12 = .ok (.astore 7, 2) := by decide +kernel
theorem dL_shadow_14 : decode cL_shadow 14 = .ok (.iconst 1, 1) := by decide +kernel
theorem dL_shadow_15 : decode cL_shadow 15 = .ok (.ireturn, 1) := by decide +kernel
theorem dL_shadow_16 : decode cL_shadow 16 = .ok (.astore 7, 2) := by decide +kernel
theorem dL_shadow_18 : decode cL_shadow 18 = .ok (.iconst 2, 1) := by decide +kernel
theorem dL_shadow_19 : decode cL_shadow 19 = .ok (.ireturn, 1) := by decide +kernel
theorem dL_shadow_20 : decode cL_shadow 20 = .ok (.iconst 0, 1) := by decide +kernel
theorem dL_shadow_21 : decode cL_shadow 21 = .ok (.ireturn, 1) := by decide +kernel
set_option maxRecDepth 20000 in
theorem ggL_lift_X4_lift : GoodIn wsL_lift wsX4_lift := goodIn_r _ [5, 6, 7, 8, 9, 10, 4, 11, 12, 13, 14, 15, 16, 17, 18, 19, 20, 21, 22, 23, 24, 25, 26, 27, 28, 29, 30, 31, 32, 33, 34, 35, 36, 37, 38, 39, 40, 41, 42, 43, 44, 45, 46, 47, 48, 49, 50, 51] (by decide +kernel) (by decide +kernel)
set_option maxRecDepth 20000 in
theorem gL_lift_X4_lift : GoodIn wsL_lift (wsV RL 21 RX4 yX4_lift wsX4_lift) := goodIn_app (goodIn_of _ (by decide +kernel)) ggL_lift_X4_lift
theorem dL_lift_0 : decode cL_lift 0 = .ok (.aload_n 3, 1) := by decide +kernel
theorem dL_lift_1 : decode cL_lift 1 = .ok (.iconst 0, 1) := by decide +kernel
theorem dL_lift_2 : decode cL_lift 2 = .ok (.aload_n 0, 1) := by decide +kernel
theorem dL_lift_3 : decode cL_lift 3 = .ok (.iload_n 1, 1) := by decide +kernel
theorem dL_lift_4 : decode cL_lift 4 = .ok (.iload_n 2, 1) := by decide +kernel
theorem dL_lift_5 : decode cL_lift 5 = .ok (.invokevirtual 21, 3) := by decide +kernel
theorem dL_lift_8 : decode cL_lift 8 = .ok (.ifCond .eq 7, 3) := by decide +kernel
theorem dL_lift_11 : decode cL_lift 11 = .ok (.lconst 1, 1) := by decide +kernel
theorem dL_lift_12 : decode cL_lift 12 = .ok (.goto 4, 3) := by decide +kernel
theorem dL_lift_15 : decode cL_lift 15 = .ok (.lconst 0, 1) := by decide +kernel
theorem dL_lift_16 : decode cL_lift 16 = .ok (.lastore, 1) := by decide +kernel
theorem dL_lift_17 : decode cL_lift 17 = .ok (.goto 7, 3) := by decide +kernel
theorem dL_lift_20 : decode cL_lift 20 = .ok (.astore 4, 2) := by decide +kernel
theorem dL_lift_22 : decode cL_lift 22 = .ok (.iconst 1, 1) := by decide +kernel
theorem dL_lift_23 : decode cL_lift 23 = .ok (.ireturn, 1) := by decide +kernel
theorem dL_lift_24 : decode cL_lift 24 = .ok (.iconst 0, 1) := by decide +kernel
theorem dL_lift_25 : decode cL_lift 25 = .ok (.ireturn, 1) := by decide +kernel
set_option maxRecDepth 20000 in
theorem ggL_shape_X4_shape : GoodIn wsL_shape wsX4_shape := goodIn_ca (goodIn_r _ [7, 8, 9, 10, 11, 12, 13, 14, 6, 15, 16, 17, 18, 19, 20, 21, 22, 23, 24, 25, 26, 27, 28, 29, 30, 31, 32, 33, 34, 35, 36, 37, 38, 39, 40, 41, 42, 43, 44, 45, 46, 47, 48, 49, 50] (by decide +kernel) (by decide +kernel)) (goodIn_sub (fun _ h => List.mem_cons_of_mem _ (List.mem_append_right _ h)) (by decide +kernel))
set_option maxRecDepth 20000 in
theorem gL_shape_X4_shape : GoodIn wsL_shape (wsV RL 25 RX4 yX4_shape wsX4_shape) := goodIn_app (goodIn_of _ (by decide +kernel)) ggL_shape_X4_shape
theorem dL_shape_0 : decode cL_shape 0 = .ok (.aload_n 3, 1) := by decide +kernel
theorem dL_shape_1 : decode cL_shape 1 = .ok (.iconst 0, 1) := by decide +kernel
theorem dL_shape_2 : decode cL_shape 2 = .ok (.aload_n 0, 1) := by decide +kernel
theorem dL_shape_3 : decode cL_shape 3 = .ok (.iload_n 1, 1) := by decide +kernel
theorem dL_shape_4 : decode cL_shape 4 = .ok (.iload_n 2, 1) := by decide +kernel
theorem dL_shape_5 : decode cL_shape 5 = .ok (.invokevirtual 25, 3) := by decide +kernel
theorem dL_shape_8 : decode cL_shape 8 = .ok (.dastore, 1) := by decide +kernel
theorem dL_shape_9 : decode cL_shape 9 = .ok (.goto 11, 3) := by decide +kernel
theorem dL_shape_12 : decode cL_shape 12 = .ok (.astore 4, 2) := by decide +kernel
theorem dL_shape_14 : decode cL_shape 14 = .ok (.iconst 1, 1) := by decide +kernel
theorem dL_shape_15 : decode cL_shape 15 = .ok (.ireturn, 1) := by decide +kernel
theorem dL_shape_16 : decode cL_shape 16 = .ok (.astore 4, 2) := by decide +kernel
theorem dL_shape_18 : decode cL_shape 18 = .ok (.iconst 2, 1) := by decide +kernel
theorem dL_shape_19 : decode cL_shape 19 = .ok (.ireturn, 1) := by decide +kernel
theorem dL_shape_20 : decode cL_shape 20 = .ok (.iconst 0, 1) := by decide +kernel
theorem dL_shape_21 : decode cL_shape 21 = .ok (.ireturn, 1) := by decide +kernel
set_option maxRecDepth 20000 in
theorem ggL_fitted_X4_fitted : GoodIn wsL_fitted wsX4_fitted := goodIn_ca (goodIn_r _ [7, 8, 9, 10, 11, 6, 12, 13, 14, 15, 16, 17, 18, 19, 20, 21, 22, 23, 24, 25, 26, 27, 28, 29, 30, 31, 32, 33, 34, 35, 36, 37, 38, 39, 40, 41, 42, 43] (by decide +kernel) (by decide +kernel)) (goodIn_sub (fun _ h => List.mem_cons_of_mem _ (List.mem_append_right _ h)) (by decide +kernel))
set_option maxRecDepth 20000 in
theorem gL_fitted_X4_fitted : GoodIn wsL_fitted (wsV RL 31 RX4 yX4_fitted wsX4_fitted) := goodIn_app (goodIn_of _ (by decide +kernel)) ggL_fitted_X4_fitted
theorem dL_fitted_0 : decode cL_fitted 0 = .ok (.aload_n 2, 1) := by decide +kernel
theorem dL_fitted_1 : decode cL_fitted 1 = .ok (.iconst 0, 1) := by decide +kernel
theorem dL_fitted_2 : decode cL_fitted 2 = .ok (.aload_n 0, 1) := by decide +kernel
theorem dL_fitted_3 : decode cL_fitted 3 = .ok (.iload_n 1, 1) := by decide +kernel
theorem dL_fitted_4 : decode cL_fitted 4 = .ok (.invokevirtual 31, 3) := by decide +kernel
theorem dL_fitted_7 : decode cL_fitted 7 = .ok (.ifCond .eq 7, 3) := by decide +kernel
theorem dL_fitted_10 : decode cL_fitted 10 = .ok (.lconst 1, 1) := by decide +kernel
theorem dL_fitted_11 : decode cL_fitted 11 = .ok (.goto 4, 3) := by decide +kernel
theorem dL_fitted_14 : decode cL_fitted 14 = .ok (.lconst 0, 1) := by decide +kernel
theorem dL_fitted_15 : decode cL_fitted 15 = .ok (.lastore, 1) := by decide +kernel
theorem dL_fitted_16 : decode cL_fitted 16 = .ok (.goto 9, 3) := by decide +kernel
theorem dL_fitted_19 : decode cL_fitted 19 = .ok (.astore_n 3, 1) := by decide +kernel
theorem dL_fitted_20 : decode cL_fitted 20 = .ok (.iconst 1, 1) := by decide +kernel
theorem dL_fitted_21 : decode cL_fitted 21 = .ok (.ireturn, 1) := by decide +kernel
theorem dL_fitted_22 : decode cL_fitted 22 = .ok (.astore_n 3, 1) := by decide +kernel
theorem dL_fitted_23 : decode cL_fitted 23 = .ok (.iconst 2, 1) := by decide +kernel
theorem dL_fitted_24 : decode cL_fitted 24 = .ok (.ireturn, 1) := by decide +kernel
theorem dL_fitted_25 : decode cL_fitted 25 = .ok (.iconst 0, 1) := by decide +kernel
theorem dL_fitted_26 : decode cL_fitted 26 = .ok (.ireturn, 1) := by decide +kernel
set_option maxRecDepth 20000 in
theorem ggL_inside_X4_inside : GoodIn wsL_inside wsX4_inside := goodIn_ca (goodIn_ca (goodIn_r _ [8, 9, 10, 11, 12, 13, 14, 7, 15, 16, 17, 18, 19, 20, 21, 22, 23, 24, 25, 26, 27, 28, 29, 30, 31, 32, 33, 34, 35, 36, 37, 38, 39, 40, 41, 42, 43, 44, 45, 46, 47, 48, 49, 50, 51, 52, 53, 54, 55, 56, 57] (by decide +kernel) (by decide +kernel)) (goodIn_sub (fun _ h => List.mem_cons_of_mem _ (List.mem_append_left _ (List.mem_append_right _ h))) (by decide +kernel))) (goodIn_sub (fun _ h => List.mem_cons_of_mem _ (List.mem_append_right _ h)) (by decide +kernel))
set_option maxRecDepth 20000 in
theorem gL_inside_X4_inside : GoodIn wsL_inside (wsV RL 35 RX4 yX4_inside wsX4_inside) := goodIn_app (goodIn_of _ (by decide +kernel)) ggL_inside_X4_inside
theorem dL_inside_0 : decode cL_inside 0 = .ok (.aload 6, 2) := by decide +kernel
theorem dL_inside_2 : decode cL_inside 2 = .ok (.iconst 0, 1) := by decide +kernel
theorem dL_inside_3 : decode cL_inside 3 = .ok (.aload_n 0, 1) := by decide +kernel
theorem dL_inside_4 : decode cL_inside 4 = .ok (.iload_n 1, 1) := by decide +kernel
theorem dL_inside_5 : decode cL_inside 5 = .ok (.dload_n 2, 1) := by decide +kernel
theorem dL_inside_6 : decode cL_inside 6 = .ok (.dload 4, 2) := by decide +kernel
theorem dL_inside_8 : decode cL_inside 8 = .ok (.invokevirtual 35, 3) := by decide +kernel
theorem dL_inside_11 : decode cL_inside 11 = .ok (.ifCond .eq 7, 3) := by decide +kernel
theorem dL_inside_14 : decode cL_inside 14 = .ok (.lconst 1, 1) := by decide +kernel
theorem dL_inside_15 : decode cL_inside 15 = .ok (.goto 4, 3) := by decide +kernel
theorem dL_inside_18 : decode cL_inside 18 = .ok (.lconst 0, 1) := by decide +kernel
theorem dL_inside_19 : decode cL_inside 19 = .ok (.lastore, 1) := by decide +kernel
theorem dL_inside_20 : decode cL_inside 20 = .ok (.goto 15, 3) := by decide +kernel
theorem dL_inside_23 : decode cL_inside 23 = .ok (.astore 7, 2) := by decide +kernel
theorem dL_inside_25 : decode cL_inside 25 = .ok (.iconst 1, 1) := by decide +kernel
theorem dL_inside_26 : decode cL_inside 26 = .ok (.ireturn, 1) := by decide +kernel
theorem dL_inside_27 : decode cL_inside 27 = .ok (.astore 7, 2) := by decide +kernel
theorem dL_inside_29 : decode cL_inside 29 = .ok (.iconst 2, 1) := by decide +kernel
theorem dL_inside_30 : decode cL_inside 30 = .ok (.ireturn, 1) := by decide +kernel
theorem dL_inside_31 : decode cL_inside 31 = .ok (.astore 7, 2) := by decide +kernel
theorem dL_inside_33 : decode cL_inside 33 = .ok (.iconst 3, 1) := by decide +kernel
theorem dL_inside_34 : decode cL_inside 34 = .ok (.ireturn, 1) := by decide +kernel
theorem dL_inside_35 : decode cL_inside 35 = .ok (.iconst 0, 1) := by decide +kernel
theorem dL_inside_36 : decode cL_inside 36 = .ok (.ireturn, 1) := by decide +kernel
set_option maxRecDepth 20000 in
theorem ggL_wholes_X4_wholes : GoodIn wsL_wholes wsX4_wholes := goodIn_ca (goodIn_r _ [7, 8, 9, 10, 11, 6, 12, 13, 14, 15, 16, 17, 18, 19, 20, 21, 22, 23, 24, 25, 26, 27, 28, 29, 30, 31, 32, 33, 34, 35, 36, 37, 38, 39, 40, 41, 42, 43, 44, 45, 46, 47, 48, 49, 50, 51, 52, 53, 54, 55] (by decide +kernel) (by decide +kernel)) (goodIn_sub (fun _ h => List.mem_cons_of_mem _ (List.mem_append_right _ h)) (by decide +kernel))
set_option maxRecDepth 20000 in
theorem gL_wholes_X4_wholes : GoodIn wsL_wholes (wsV RL 39 RX4 yX4_wholes wsX4_wholes) := goodIn_app (goodIn_of _ (by decide +kernel)) ggL_wholes_X4_wholes
theorem dL_wholes_0 : decode cL_wholes 0 = .ok (.aload_n 2, 1) := by decide +kernel
theorem dL_wholes_1 : decode cL_wholes 1 = .ok (.iconst 0, 1) := by decide +kernel
theorem dL_wholes_2 : decode cL_wholes 2 = .ok (.aload_n 0, 1) := by decide +kernel
theorem dL_wholes_3 : decode cL_wholes 3 = .ok (.iload_n 1, 1) := by decide +kernel
theorem dL_wholes_4 : decode cL_wholes 4 = .ok (.invokevirtual 39, 3) := by decide +kernel
theorem dL_wholes_7 : decode cL_wholes 7 = .ok (.i2l, 1) := by decide +kernel
theorem dL_wholes_8 : decode cL_wholes 8 = .ok (.lastore, 1) := by decide +kernel
theorem dL_wholes_9 : decode cL_wholes 9 = .ok (.goto 9, 3) := by decide +kernel
theorem dL_wholes_12 : decode cL_wholes 12 = .ok (.astore_n 3, 1) := by decide +kernel
theorem dL_wholes_13 : decode cL_wholes 13 = .ok (.iconst 1, 1) := by decide +kernel
theorem dL_wholes_14 : decode cL_wholes 14 = .ok (.ireturn, 1) := by decide +kernel
theorem dL_wholes_15 : decode cL_wholes 15 = .ok (.astore_n 3, 1) := by decide +kernel
theorem dL_wholes_16 : decode cL_wholes 16 = .ok (.iconst 2, 1) := by decide +kernel
theorem dL_wholes_17 : decode cL_wholes 17 = .ok (.ireturn, 1) := by decide +kernel
theorem dL_wholes_18 : decode cL_wholes 18 = .ok (.iconst 0, 1) := by decide +kernel
theorem dL_wholes_19 : decode cL_wholes 19 = .ok (.ireturn, 1) := by decide +kernel
set_option maxRecDepth 20000 in
theorem ggL_volume_X4_volume : GoodIn wsL_volume wsX4_volume := goodIn_ca (goodIn_r _ [6, 7, 8, 9, 10, 5, 11, 12, 13, 14, 15, 16, 17, 18, 19, 20, 21, 22, 23, 24, 25, 26, 27, 28, 29, 30, 31, 32, 33, 34, 35, 36, 37, 38, 39, 40] (by decide +kernel) (by decide +kernel)) (goodIn_sub (fun _ h => List.mem_cons_of_mem _ (List.mem_append_right _ h)) (by decide +kernel))
set_option maxRecDepth 20000 in
theorem gL_volume_X4_volume : GoodIn wsL_volume (wsV RL 43 RX4 yX4_volume wsX4_volume) := goodIn_app (goodIn_of _ (by decide +kernel)) ggL_volume_X4_volume
theorem dL_volume_0 : decode cL_volume 0 = .ok (.aload_n 1, 1) := by decide +kernel
theorem dL_volume_1 : decode cL_volume 1 = .ok (.iconst 0, 1) := by decide +kernel
theorem dL_volume_2 : decode cL_volume 2 = .ok (.aload_n 0, 1) := by decide +kernel
theorem dL_volume_3 : decode cL_volume 3 = .ok (.invokevirtual 43, 3) := by decide +kernel
theorem dL_volume_6 : decode cL_volume 6 = .ok (.dastore, 1) := by decide +kernel
theorem dL_volume_7 : decode cL_volume 7 = .ok (.goto 6, 3) := by decide +kernel
theorem dL_volume_10 : decode cL_volume 10 = .ok (.astore_n 2, 1) := by decide +kernel
theorem dL_volume_11 : decode cL_volume 11 = .ok (.iconst 1, 1) := by decide +kernel
theorem dL_volume_12 : decode cL_volume 12 = .ok (.ireturn, 1) := by decide +kernel
theorem dL_volume_13 : decode cL_volume 13 = .ok (.iconst 0, 1) := by decide +kernel
theorem dL_volume_14 : decode cL_volume 14 = .ok (.ireturn, 1) := by decide +kernel
set_option maxRecDepth 20000 in
theorem ggL_taper_X4_taper : GoodIn wsL_taper wsX4_taper := goodIn_ca (goodIn_r _ [6, 7, 8, 9, 10, 5, 11, 12, 13, 14, 15, 16, 17, 18, 19, 20, 21, 22, 23, 24, 25, 26, 27, 28, 29, 30, 31, 32, 33, 34, 35] (by decide +kernel) (by decide +kernel)) (goodIn_sub (fun _ h => List.mem_cons_of_mem _ (List.mem_append_right _ h)) (by decide +kernel))
set_option maxRecDepth 20000 in
theorem gL_taper_X4_taper : GoodIn wsL_taper (wsV RL 47 RX4 yX4_taper wsX4_taper) := goodIn_app (goodIn_of _ (by decide +kernel)) ggL_taper_X4_taper
theorem dL_taper_0 : decode cL_taper 0 = .ok (.aload_n 1, 1) := by decide +kernel
theorem dL_taper_1 : decode cL_taper 1 = .ok (.iconst 0, 1) := by decide +kernel
theorem dL_taper_2 : decode cL_taper 2 = .ok (.aload_n 0, 1) := by decide +kernel
theorem dL_taper_3 : decode cL_taper 3 = .ok (.invokevirtual 47, 3) := by decide +kernel
theorem dL_taper_6 : decode cL_taper 6 = .ok (.dastore, 1) := by decide +kernel
theorem dL_taper_7 : decode cL_taper 7 = .ok (.goto 6, 3) := by decide +kernel
theorem dL_taper_10 : decode cL_taper 10 = .ok (.astore_n 2, 1) := by decide +kernel
theorem dL_taper_11 : decode cL_taper 11 = .ok (.iconst 1, 1) := by decide +kernel
theorem dL_taper_12 : decode cL_taper 12 = .ok (.ireturn, 1) := by decide +kernel
theorem dL_taper_13 : decode cL_taper 13 = .ok (.iconst 0, 1) := by decide +kernel
theorem dL_taper_14 : decode cL_taper 14 = .ok (.ireturn, 1) := by decide +kernel
set_option maxRecDepth 20000 in
theorem ggL_sweep_X4_sweep : GoodIn wsL_sweep wsX4_sweep := goodIn_ca (goodIn_r _ [6, 7, 8, 9, 10, 5, 11, 12, 13, 14, 15, 16, 17, 18, 19, 20, 21, 22, 23, 24, 25, 26, 27, 28, 29, 30, 31, 32, 33, 34, 35, 36, 37, 38, 39, 40] (by decide +kernel) (by decide +kernel)) (goodIn_sub (fun _ h => List.mem_cons_of_mem _ (List.mem_append_right _ h)) (by decide +kernel))
set_option maxRecDepth 20000 in
theorem gL_sweep_X4_sweep : GoodIn wsL_sweep (wsV RL 50 RX4 yX4_sweep wsX4_sweep) := goodIn_app (goodIn_of _ (by decide +kernel)) ggL_sweep_X4_sweep
theorem dL_sweep_0 : decode cL_sweep 0 = .ok (.aload_n 1, 1) := by decide +kernel
theorem dL_sweep_1 : decode cL_sweep 1 = .ok (.iconst 0, 1) := by decide +kernel
theorem dL_sweep_2 : decode cL_sweep 2 = .ok (.aload_n 0, 1) := by decide +kernel
theorem dL_sweep_3 : decode cL_sweep 3 = .ok (.invokevirtual 50, 3) := by decide +kernel
theorem dL_sweep_6 : decode cL_sweep 6 = .ok (.dastore, 1) := by decide +kernel
theorem dL_sweep_7 : decode cL_sweep 7 = .ok (.goto 6, 3) := by decide +kernel
theorem dL_sweep_10 : decode cL_sweep 10 = .ok (.astore_n 2, 1) := by decide +kernel
theorem dL_sweep_11 : decode cL_sweep 11 = .ok (.iconst 1, 1) := by decide +kernel
theorem dL_sweep_12 : decode cL_sweep 12 = .ok (.ireturn, 1) := by decide +kernel
theorem dL_sweep_13 : decode cL_sweep 13 = .ok (.iconst 0, 1) := by decide +kernel
theorem dL_sweep_14 : decode cL_sweep 14 = .ok (.ireturn, 1) := by decide +kernel
set_option maxRecDepth 20000 in
theorem ggL_rule_X4_rule : GoodIn wsL_rule wsX4_rule := goodIn_ca (goodIn_ca (goodIn_r _ [7, 8, 9, 10, 11, 12, 13, 14, 15, 16, 17, 18, 19, 20, 21, 22, 23, 24, 25, 26, 27, 28, 29, 30, 31, 32, 33, 34, 35, 36] (by decide +kernel) (by decide +kernel)) (goodIn_sub (fun _ h => List.mem_cons_of_mem _ (List.mem_append_left _ (List.mem_append_right _ h))) (by decide +kernel))) (goodIn_sub (fun _ h => List.mem_cons_of_mem _ (List.mem_append_right _ h)) (by decide +kernel))
set_option maxRecDepth 20000 in
theorem gL_rule_X4_rule : GoodIn wsL_rule (wsV RL 53 RX4 yX4_rule wsX4_rule) := goodIn_app (goodIn_of _ (by decide +kernel)) ggL_rule_X4_rule
theorem dL_rule_0 : decode cL_rule 0 = .ok (.aload 5, 2) := by decide +kernel
theorem dL_rule_2 : decode cL_rule 2 = .ok (.iconst 0, 1) := by decide +kernel
theorem dL_rule_3 : decode cL_rule 3 = .ok (.aload_n 0, 1) := by decide +kernel
theorem dL_rule_4 : decode cL_rule 4 = .ok (.iload_n 1, 1) := by decide +kernel
theorem dL_rule_5 : decode cL_rule 5 = .ok (.dload_n 2, 1) := by decide +kernel
theorem dL_rule_6 : decode cL_rule 6 = .ok (.iload 4, 2) := by decide +kernel
theorem dL_rule_8 : decode cL_rule 8 = .ok (.invokevirtual 53, 3) := by decide +kernel
theorem dL_rule_11 : decode cL_rule 11 = .ok (.i2l, 1) := by decide +kernel
theorem dL_rule_12 : decode cL_rule 12 = .ok (.lastore, 1) := by decide +kernel
theorem dL_rule_13 : decode cL_rule 13 = .ok (.goto 11, 3) := by decide +kernel
theorem dL_rule_16 : decode cL_rule 16 = .ok (.astore 6, 2) := by decide +kernel
theorem dL_rule_18 : decode cL_rule 18 = .ok (.iconst 1, 1) := by decide +kernel
theorem dL_rule_19 : decode cL_rule 19 = .ok (.ireturn, 1) := by decide +kernel
theorem dL_rule_20 : decode cL_rule 20 = .ok (.astore 6, 2) := by decide +kernel
theorem dL_rule_22 : decode cL_rule 22 = .ok (.iconst 2, 1) := by decide +kernel
theorem dL_rule_23 : decode cL_rule 23 = .ok (.ireturn, 1) := by decide +kernel
theorem dL_rule_24 : decode cL_rule 24 = .ok (.iconst 0, 1) := by decide +kernel
theorem dL_rule_25 : decode cL_rule 25 = .ok (.ireturn, 1) := by decide +kernel
set_option maxRecDepth 20000 in
theorem ggL_cls_X4_cls : GoodIn wsL_cls wsX4_cls := goodIn_ca (goodIn_r _ [6, 7, 8, 9, 10, 11, 5, 12, 13, 14, 15, 16, 17, 18, 19, 20, 21, 22, 23, 24, 25, 26, 27, 28, 29, 30, 31, 32, 33, 34, 35, 36, 37, 38, 39, 40, 41, 42, 43, 44, 45, 46, 47, 48, 49, 50, 51, 52, 53, 54, 55, 56, 57, 58, 59, 60, 61, 62, 63, 64, 65, 66, 67, 68, 69, 70, 71, 72, 73, 74, 75] (by decide +kernel) (by decide +kernel)) (goodIn_sub (fun _ h => List.mem_cons_of_mem _ (List.mem_append_right _ h)) (by decide +kernel))
set_option maxRecDepth 20000 in
theorem gL_cls_X4_cls : GoodIn wsL_cls (wsV RL 57 RX4 yX4_cls wsX4_cls) := goodIn_app (goodIn_of _ (by decide +kernel)) ggL_cls_X4_cls
theorem dL_cls_0 : decode cL_cls 0 = .ok (.aload_n 1, 1) := by decide +kernel
theorem dL_cls_1 : decode cL_cls 1 = .ok (.iconst 0, 1) := by decide +kernel
theorem dL_cls_2 : decode cL_cls 2 = .ok (.aload_n 0, 1) := by decide +kernel
theorem dL_cls_3 : decode cL_cls 3 = .ok (.invokevirtual 57, 3) := by decide +kernel
theorem dL_cls_6 : decode cL_cls 6 = .ok (.i2l, 1) := by decide +kernel
theorem dL_cls_7 : decode cL_cls 7 = .ok (.lastore, 1) := by decide +kernel
theorem dL_cls_8 : decode cL_cls 8 = .ok (.goto 6, 3) := by decide +kernel
theorem dL_cls_11 : decode cL_cls 11 = .ok (.astore_n 2, 1) := by decide +kernel
theorem dL_cls_12 : decode cL_cls 12 = .ok (.iconst 1, 1) := by decide +kernel
theorem dL_cls_13 : decode cL_cls 13 = .ok (.ireturn, 1) := by decide +kernel
theorem dL_cls_14 : decode cL_cls 14 = .ok (.iconst 0, 1) := by decide +kernel
theorem dL_cls_15 : decode cL_cls 15 = .ok (.ireturn, 1) := by decide +kernel
set_option maxRecDepth 20000 in
theorem ggL_keep_X4_keep : GoodIn wsL_keep wsX4_keep := goodIn_ca (goodIn_r _ [6, 7, 8, 9, 10, 11, 5, 12, 13, 14, 15, 16, 17, 18, 19, 20, 21, 22, 23, 24, 25, 26, 27, 28, 29, 30, 31, 32, 33, 34, 35, 36, 37, 38, 39, 40] (by decide +kernel) (by decide +kernel)) (goodIn_sub (fun _ h => List.mem_cons_of_mem _ (List.mem_append_right _ h)) (by decide +kernel))
set_option maxRecDepth 20000 in
theorem gL_keep_X4_keep : GoodIn wsL_keep (wsV RL 61 RX4 yX4_keep wsX4_keep) := goodIn_app (goodIn_of _ (by decide +kernel)) ggL_keep_X4_keep
theorem dL_keep_0 : decode cL_keep 0 = .ok (.aload_n 0, 1) := by decide +kernel
theorem dL_keep_1 : decode cL_keep 1 = .ok (.invokevirtual 61, 3) := by decide +kernel
theorem dL_keep_4 : decode cL_keep 4 = .ok (.goto 6, 3) := by decide +kernel
theorem dL_keep_7 : decode cL_keep 7 = .ok (.astore_n 1, 1) := by decide +kernel
theorem dL_keep_8 : decode cL_keep 8 = .ok (.iconst 1, 1) := by decide +kernel
theorem dL_keep_9 : decode cL_keep 9 = .ok (.ireturn, 1) := by decide +kernel
theorem dL_keep_10 : decode cL_keep 10 = .ok (.iconst 0, 1) := by decide +kernel
theorem dL_keep_11 : decode cL_keep 11 = .ok (.ireturn, 1) := by decide +kernel
set_option maxRecDepth 20000 in
theorem ggL_apart_X4_apart : GoodIn wsL_apart wsX4_apart := goodIn_ca (goodIn_ca (goodIn_r _ [7, 8, 9, 10, 11, 12, 13, 14, 6, 15, 16, 17, 18, 19, 20, 21, 22, 23, 24, 25, 26, 27, 28, 29, 30, 31, 32, 33, 34, 35, 36, 37, 38, 39, 40, 41, 42, 43, 44, 45, 46, 47, 48, 49, 50, 51, 52, 53, 54] (by decide +kernel) (by decide +kernel)) (goodIn_sub (fun _ h => List.mem_cons_of_mem _ (List.mem_append_left _ (List.mem_append_right _ h))) (by decide +kernel))) (goodIn_sub (fun _ h => List.mem_cons_of_mem _ (List.mem_append_right _ h)) (by decide +kernel))
set_option maxRecDepth 20000 in
theorem gL_apart_X4_apart : GoodIn wsL_apart (wsV RL 64 RX4 yX4_apart wsX4_apart) := goodIn_app (goodIn_of _ (by decide +kernel)) ggL_apart_X4_apart
theorem dL_apart_0 : decode cL_apart 0 = .ok (.aload_n 2, 1) := by decide +kernel
theorem dL_apart_1 : decode cL_apart 1 = .ok (.iconst 0, 1) := by decide +kernel
theorem dL_apart_2 : decode cL_apart 2 = .ok (.aload_n 0, 1) := by decide +kernel
theorem dL_apart_3 : decode cL_apart 3 = .ok (.iload_n 1, 1) := by decide +kernel
theorem dL_apart_4 : decode cL_apart 4 = .ok (.invokevirtual 64, 3) := by decide +kernel
theorem dL_apart_7 : decode cL_apart 7 = .ok (.dastore, 1) := by decide +kernel
theorem dL_apart_8 : decode cL_apart 8 = .ok (.goto 9, 3) := by decide +kernel
theorem dL_apart_11 : decode cL_apart 11 = .ok (.astore_n 3, 1) := by decide +kernel
theorem dL_apart_12 : decode cL_apart 12 = .ok (.iconst 1, 1) := by decide +kernel
theorem dL_apart_13 : decode cL_apart 13 = .ok (.ireturn, 1) := by decide +kernel
theorem dL_apart_14 : decode cL_apart 14 = .ok (.astore_n 3, 1) := by decide +kernel
theorem dL_apart_15 : decode cL_apart 15 = .ok (.iconst 2, 1) := by decide +kernel
theorem dL_apart_16 : decode cL_apart 16 = .ok (.ireturn, 1) := by decide +kernel
theorem dL_apart_17 : decode cL_apart 17 = .ok (.iconst 0, 1) := by decide +kernel
theorem dL_apart_18 : decode cL_apart 18 = .ok (.ireturn, 1) := by decide +kernel
set_option maxRecDepth 20000 in
theorem ggL_match_X4_match : GoodIn wsL_match wsX4_match := goodIn_ca (goodIn_r _ [6, 7, 8, 9, 10, 11, 5, 12, 13, 14, 15, 16, 17, 18, 19, 20, 21, 22, 23, 24, 25, 26, 27, 28, 29, 30, 31, 32, 33, 34, 35, 36, 37, 38, 39, 40, 41, 42, 43, 44, 45, 46, 47, 48, 49, 50, 51, 52, 53, 54, 55] (by decide +kernel) (by decide +kernel)) (goodIn_sub (fun _ h => List.mem_cons_of_mem _ (List.mem_append_right _ h)) (by decide +kernel))
set_option maxRecDepth 20000 in
theorem gL_match_X4_match : GoodIn wsL_match (wsV RL 68 RX4 yX4_match wsX4_match) := goodIn_app (goodIn_of _ (by decide +kernel)) ggL_match_X4_match
theorem dL_match_0 : decode cL_match 0 = .ok (.aload_n 1, 1) := by decide +kernel
theorem dL_match_1 : decode cL_match 1 = .ok (.iconst 0, 1) := by decide +kernel
theorem dL_match_2 : decode cL_match 2 = .ok (.aload_n 0, 1) := by decide +kernel
theorem dL_match_3 : decode cL_match 3 = .ok (.invokevirtual 68, 3) := by decide +kernel
theorem dL_match_6 : decode cL_match 6 = .ok (.i2l, 1) := by decide +kernel
theorem dL_match_7 : decode cL_match 7 = .ok (.lastore, 1) := by decide +kernel
theorem dL_match_8 : decode cL_match 8 = .ok (.goto 6, 3) := by decide +kernel
theorem dL_match_11 : decode cL_match 11 = .ok (.astore_n 2, 1) := by decide +kernel
theorem dL_match_12 : decode cL_match 12 = .ok (.iconst 1, 1) := by decide +kernel
theorem dL_match_13 : decode cL_match 13 = .ok (.ireturn, 1) := by decide +kernel
theorem dL_match_14 : decode cL_match 14 = .ok (.iconst 0, 1) := by decide +kernel
theorem dL_match_15 : decode cL_match 15 = .ok (.ireturn, 1) := by decide +kernel
set_option maxRecDepth 20000 in
theorem ggL_law_X4_law : GoodIn wsL_law wsX4_law := goodIn_ca (goodIn_r _ [6, 7, 8, 9, 10] (by decide +kernel) (by decide +kernel)) (goodIn_sub (fun _ h => List.mem_cons_of_mem _ (List.mem_append_right _ h)) (by decide +kernel))
set_option maxRecDepth 20000 in
theorem gL_law_X4_law : GoodIn wsL_law (wsV RL 71 RX4 yX4_law wsX4_law) := goodIn_app (goodIn_of _ (by decide +kernel)) ggL_law_X4_law
theorem dL_law_0 : decode cL_law 0 = .ok (.aload 7, 2) := by decide +kernel
theorem dL_law_2 : decode cL_law 2 = .ok (.iconst 0, 1) := by decide +kernel
theorem dL_law_3 : decode cL_law 3 = .ok (.aload_n 0, 1) := by decide +kernel
theorem dL_law_4 : decode cL_law 4 = .ok (.lload_n 1, 1) := by decide +kernel
theorem dL_law_5 : decode cL_law 5 = .ok (.lload_n 3, 1) := by decide +kernel
theorem dL_law_6 : decode cL_law 6 = .ok (.lload 5, 2) := by decide +kernel
theorem dL_law_8 : decode cL_law 8 = .ok (.invokevirtual 71, 3) := by decide +kernel
theorem dL_law_11 : decode cL_law 11 = .ok (.lastore, 1) := by decide +kernel
theorem dL_law_12 : decode cL_law 12 = .ok (.goto 7, 3) := by decide +kernel
theorem dL_law_15 : decode cL_law 15 = .ok (.astore 8, 2) := by decide +kernel
theorem dL_law_17 : decode cL_law 17 = .ok (.iconst 1, 1) := by decide +kernel
theorem dL_law_18 : decode cL_law 18 = .ok (.ireturn, 1) := by decide +kernel
theorem dL_law_19 : decode cL_law 19 = .ok (.iconst 0, 1) := by decide +kernel
theorem dL_law_20 : decode cL_law 20 = .ok (.ireturn, 1) := by decide +kernel
set_option maxRecDepth 20000 in
theorem ggL_law__L_cell : GoodIn wsL_law_ wsL_cell := goodIn_r _ [13] (by decide +kernel) (by decide +kernel)
set_option maxRecDepth 20000 in
theorem gL_law__L_cell : GoodIn wsL_law_ (va_wsS RL 75 yL_cell wsL_cell) := goodIn_app (goodIn_of _ (by decide +kernel)) ggL_law__L_cell
set_option maxRecDepth 20000 in
theorem ggL_law__X4_init : GoodIn wsL_law_ wsX4_init := goodIn_r _ [16, 17, 18, 19, 20, 21, 22, 23, 24, 25, 26, 27, 28, 29, 30, 31, 32, 33, 34, 35, 36, 37, 38, 39, 2, 40, 41, 42, 43, 44, 45, 46, 47, 48, 49, 50, 51, 52, 7, 53, 54, 55, 56, 57, 58, 59, 60, 61, 62, 63, 64, 65, 66, 67, 68, 69, 70, 71, 72, 73, 74, 75, 76, 77, 78, 79, 80, 81, 82, 83, 84, 85, 541, 542, 543, 544, 545, 546, 547, 567, 568, 569, 570, 571, 572, 573, 574, 575, 576, 577, 578, 579, 580, 581, 582, 583, 584, 585, 586, 587] (by decide +kernel) (by decide +kernel)
set_option maxRecDepth 20000 in
theorem gL_law__X4_init : GoodIn wsL_law_ (wsX4_init) := ggL_law__X4_init
set_option maxRecDepth 20000 in
theorem ggL_law__X5_init : GoodIn wsL_law_ wsX5_init := goodIn_r _ [88, 89, 18, 19, 7, 90, 91, 56, 92, 93, 94, 95, 96, 82, 97, 98, 99, 100, 101, 102, 103, 548, 549, 550, 551, 552, 553, 554, 555, 556, 557, 558, 559, 560, 561, 562, 563, 564, 565, 566] (by decide +kernel) (by decide +kernel)
set_option maxRecDepth 20000 in
theorem gL_law__X5_init : GoodIn wsL_law_ (wsX5_init) := ggL_law__X5_init
set_option maxRecDepth 20000 in
theorem ggL_law__L_aim : GoodIn wsL_law_ wsL_aim := goodIn_ca (goodIn_r _ [106, 107, 108, 109, 110, 111, 2, 112, 113, 114, 25, 115, 116, 117, 118, 119, 21, 120, 121, 122, 123, 124, 125, 126, 127, 128, 24, 129, 53, 54, 55, 60, 61, 62, 541, 542, 543, 544, 545, 546, 547, 588, 589, 590, 591, 592, 593, 567, 568, 569, 570, 571, 572, 573] (by decide +kernel) (by decide +kernel)) (goodIn_sub (fun _ h => List.mem_append_left _ (List.mem_append_right _ h)) (by decide +kernel))
set_option maxRecDepth 20000 in
theorem gL_law__L_aim : GoodIn wsL_law_ (va_wsS RL 89 yL_aim wsL_aim) := goodIn_app (goodIn_of _ (by decide +kernel)) ggL_law__L_aim
set_option maxRecDepth 20000 in
theorem ggL_law__X5_aim : GoodIn wsL_law_ wsX5_aim := goodIn_r _ [133, 134, 135, 136, 90, 91, 137, 138, 139, 140, 5, 141, 103, 142, 143, 144, 548, 549, 550, 551, 552, 553, 554, 555, 556, 557, 558, 559, 560, 561, 562, 563, 564, 565, 566] (by decide +kernel) (by decide +kernel)
set_option maxRecDepth 20000 in
theorem gL_law__X5_aim : GoodIn wsL_law_ (wsV RL 92 RX5 yX5_aim wsX5_aim) := goodIn_app (goodIn_of _ (by decide +kernel)) ggL_law__X5_aim
set_option maxRecDepth 20000 in
theorem ggL_law__X5_thrown : GoodIn wsL_law_ wsX5_thrown := goodIn_r _ [148, 136, 548, 549, 550, 551, 552, 553, 554, 555, 556, 557, 558, 559, 560, 561, 562, 563, 564, 565, 566] (by decide +kernel) (by decide +kernel)
set_option maxRecDepth 20000 in
theorem gL_law__X5_thrown : GoodIn wsL_law_ (wsV RL 93 RX5 yX5_thrown wsX5_thrown) := goodIn_app (goodIn_of _ (by decide +kernel)) ggL_law__X5_thrown
set_option maxRecDepth 20000 in
theorem ggL_law__L_shadow : GoodIn wsL_law_ wsL_shadow := goodIn_ca (goodIn_r _ [151, 107, 108, 152, 153, 154, 2, 155, 113, 114, 25, 115, 156, 157, 158, 159, 20, 120, 121, 122, 116, 117, 118, 119, 21, 123, 124, 125, 160, 161, 162, 24, 163, 57, 58, 164, 59, 165, 166, 167, 168, 52, 541, 542, 543, 544, 545, 546, 547, 588, 589, 590, 591, 592, 593, 567, 568, 569, 570, 571, 572, 573] (by decide +kernel) (by decide +kernel)) (goodIn_sub (fun _ h => List.mem_append_left _ (List.mem_append_right _ h)) (by decide +kernel))
set_option maxRecDepth 20000 in
theorem gL_law__L_shadow : GoodIn wsL_law_ (va_wsS RL 96 yL_shadow wsL_shadow) := goodIn_app (goodIn_of _ (by decide +kernel)) ggL_law__L_shadow
set_option maxRecDepth 20000 in
theorem ggL_law__X5_shadow : GoodIn wsL_law_ wsX5_shadow := goodIn_r _ [172, 173, 174, 136, 92, 93, 94, 137, 175, 176, 177, 5, 178, 102, 138, 139, 140, 141, 103, 142, 143, 144, 548, 549, 550, 551, 552, 553, 554, 555, 556, 557, 558, 559, 560, 561, 562, 563, 564, 565, 566] (by decide +kernel) (by decide +kernel)
set_option maxRecDepth 20000 in
theorem gL_law__X5_shadow : GoodIn wsL_law_ (wsV RL 99 RX5 yX5_shadow wsX5_shadow) := goodIn_app (goodIn_of _ (by decide +kernel)) ggL_law__X5_shadow
set_option maxRecDepth 20000 in
theorem ggL_law__L_lift : GoodIn wsL_law_ wsL_lift := goodIn_r _ [181, 182, 183, 184, 2, 185, 25, 115, 156, 157, 158, 159, 20, 120, 121, 122, 116, 117, 118, 119, 21, 186, 187, 188, 24, 189, 57, 165, 166, 167, 168, 52, 541, 542, 543, 544, 545, 546, 547, 588, 589, 590, 591, 592, 593, 567, 568, 569, 570, 571, 572, 573] (by decide +kernel) (by decide +kernel)
set_option maxRecDepth 20000 in
theorem gL_law__L_lift : GoodIn wsL_law_ (va_wsS RL 100 yL_lift wsL_lift) := goodIn_app (goodIn_of _ (by decide +kernel)) ggL_law__L_lift
set_option maxRecDepth 20000 in
theorem ggL_law__X5_lift : GoodIn wsL_law_ wsX5_lift := goodIn_r _ [193, 136, 92, 137, 175, 176, 177, 5, 178, 102, 138, 139, 140, 141, 103, 548, 549, 550, 551, 552, 553, 554, 555, 556, 557, 558, 559, 560, 561, 562, 563, 564, 565, 566] (by decide +kernel) (by decide +kernel)
set_option maxRecDepth 20000 in
theorem gL_law__X5_lift : GoodIn wsL_law_ (wsV RL 103 RX5 yX5_lift wsX5_lift) := goodIn_app (goodIn_of _ (by decide +kernel)) ggL_law__X5_lift
set_option maxRecDepth 20000 in
theorem ggL_law__X4_run : GoodIn wsL_law_ wsX4_run := goodIn_r _ [197, 20, 29, 25, 115, 198, 199, 200, 24, 201, 202, 203, 204, 205, 52, 57, 165, 166, 167, 168, 206, 207, 208, 209, 53, 54, 58, 210, 211, 212, 213, 214, 59, 55, 215, 216, 217, 218, 219, 220, 221, 28, 222, 67, 72, 223, 224, 225, 226, 227, 228, 229, 230, 231, 232, 233, 234, 68, 69, 70, 71, 235, 236, 237, 541, 542, 543, 544, 545, 546, 547, 574, 575, 576, 577, 578, 579, 580, 567, 568, 569, 570, 571, 572, 573] (by decide +kernel) (by decide +kernel)
set_option maxRecDepth 20000 in
theorem gL_law__X4_run : GoodIn wsL_law_ (wsV RL 104 RX4 yX4_run wsX4_run) := goodIn_app (goodIn_of _ (by decide +kernel)) ggL_law__X4_run
set_option maxRecDepth 20000 in
theorem ggL_law__X5_run : GoodIn wsL_law_ wsX5_run := goodIn_r _ [241, 136, 137, 242, 102, 95, 243, 244, 245, 5, 246, 103, 92, 90, 91, 94, 93, 247, 248, 249, 250, 251, 252, 253, 254, 255, 256, 257, 258, 259, 96, 260, 261, 262, 263, 264, 265, 266, 267, 548, 549, 550, 551, 552, 553, 554, 555, 556, 557, 558, 559, 560, 561, 562, 563, 564, 565, 566] (by decide +kernel) (by decide +kernel)
set_option maxRecDepth 20000 in
theorem gL_law__X5_run : GoodIn wsL_law_ (wsV RL 107 RX5 yX5_run wsX5_run) := goodIn_app (goodIn_of _ (by decide +kernel)) ggL_law__X5_run
set_option maxRecDepth 20000 in
theorem ggL_law__L_shape : GoodIn wsL_law_ wsL_shape := goodIn_ca (goodIn_r _ [270, 107, 271, 272, 273, 274, 2, 275, 120, 121, 122, 29, 156, 157, 158, 159, 20, 276, 277, 278, 279, 280, 281, 115, 282, 283, 284, 28, 285, 286, 70, 588, 589, 590, 591, 592, 593, 541, 542, 543, 544, 545, 546, 547, 574, 575, 576, 577, 578, 579, 580] (by decide +kernel) (by decide +kernel)) (goodIn_sub (fun _ h => List.mem_append_right _ h) (by decide +kernel))
set_option maxRecDepth 20000 in
theorem gL_law__L_shape : GoodIn wsL_law_ (va_wsS RL 108 yL_shape wsL_shape) := goodIn_app (goodIn_of _ (by decide +kernel)) ggL_law__L_shape
set_option maxRecDepth 20000 in
theorem ggL_law__X5_shape : GoodIn wsL_law_ wsX5_shape := goodIn_r _ [290, 136, 96, 175, 176, 177, 5, 178, 102, 291, 292, 293, 294, 137, 242, 295, 296, 297, 298, 299, 548, 549, 550, 551, 552, 553, 554, 555, 556, 557, 558, 559, 560, 561, 562, 563, 564, 565, 566] (by decide +kernel) (by decide +kernel)
set_option maxRecDepth 20000 in
theorem gL_law__X5_shape : GoodIn wsL_law_ (wsV RL 111 RX5 yX5_shape wsX5_shape) := goodIn_app (goodIn_of _ (by decide +kernel)) ggL_law__X5_shape
set_option maxRecDepth 20000 in
theorem ggL_law__L_fitted : GoodIn wsL_law_ wsL_fitted := goodIn_ca (goodIn_r _ [302, 107, 271, 303, 304, 305, 2, 306, 29, 156, 157, 158, 159, 20, 120, 121, 122, 276, 277, 278, 279, 280, 281, 115, 541, 542, 543, 544, 545, 546, 547, 574, 575, 576, 577, 578, 579, 580, 588, 589, 590, 591, 592, 593] (by decide +kernel) (by decide +kernel)) (goodIn_sub (fun _ h => List.mem_append_right _ h) (by decide +kernel))
set_option maxRecDepth 20000 in
theorem gL_law__L_fitted : GoodIn wsL_law_ (va_wsS RL 112 yL_fitted wsL_fitted) := goodIn_app (goodIn_of _ (by decide +kernel)) ggL_law__L_fitted
set_option maxRecDepth 20000 in
theorem ggL_law__X5_fitted : GoodIn wsL_law_ wsX5_fitted := goodIn_r _ [310, 136, 95, 175, 176, 177, 5, 178, 102, 291, 292, 293, 294, 137, 242, 548, 549, 550, 551, 552, 553, 554, 555, 556, 557, 558, 559, 560, 561, 562, 563, 564, 565, 566] (by decide +kernel) (by decide +kernel)
set_option maxRecDepth 20000 in
theorem gL_law__X5_fitted : GoodIn wsL_law_ (wsV RL 115 RX5 yX5_fitted wsX5_fitted) := goodIn_app (goodIn_of _ (by decide +kernel)) ggL_law__X5_fitted
set_option maxRecDepth 20000 in
theorem ggL_law__L_inside : GoodIn wsL_law_ wsL_inside := goodIn_ca (goodIn_ca (goodIn_r _ [313, 107, 108, 271, 314, 315, 316, 2, 317, 113, 114, 29, 156, 157, 158, 159, 20, 120, 121, 122, 123, 124, 125, 276, 277, 278, 279, 280, 281, 115, 318, 319, 320, 28, 321, 68, 69, 70, 541, 542, 543, 544, 545, 546, 547, 588, 589, 590, 591, 592, 593, 574, 575, 576, 577, 578, 579, 580] (by decide +kernel) (by decide +kernel)) (goodIn_sub (fun _ h => List.mem_append_left _ (List.mem_append_right _ h)) (by decide +kernel))) (goodIn_sub (fun _ h => List.mem_append_right _ h) (by decide +kernel))
set_option maxRecDepth 20000 in
theorem gL_law__L_inside : GoodIn wsL_law_ (va_wsS RL 116 yL_inside wsL_inside) := goodIn_app (goodIn_of _ (by decide +kernel)) ggL_law__L_inside
set_option maxRecDepth 20000 in
theorem ggL_law__X5_inside : GoodIn wsL_law_ wsX5_inside := goodIn_r _ [325, 173, 174, 136, 175, 176, 177, 5, 178, 102, 142, 143, 144, 291, 292, 293, 294, 137, 242, 326, 327, 328, 329, 96, 548, 549, 550, 551, 552, 553, 554, 555, 556, 557, 558, 559, 560, 561, 562, 563, 564, 565, 566] (by decide +kernel) (by decide +kernel)
set_option maxRecDepth 20000 in
theorem gL_law__X5_inside : GoodIn wsL_law_ (wsV RL 119 RX5 yX5_inside wsX5_inside) := goodIn_app (goodIn_of _ (by decide +kernel)) ggL_law__X5_inside
set_option maxRecDepth 20000 in
theorem ggL_law__L_wholes : GoodIn wsL_law_ wsL_wholes := goodIn_ca (goodIn_r _ [332, 107, 271, 333, 334, 335, 2, 336, 29, 156, 157, 158, 159, 20, 120, 121, 122, 276, 277, 278, 279, 280, 281, 115, 337, 338, 339, 28, 340, 341, 319, 320, 321, 68, 69, 70, 541, 542, 543, 544, 545, 546, 547, 588, 589, 590, 591, 592, 593, 574, 575, 576, 577, 578, 579, 580] (by decide +kernel) (by decide +kernel)) (goodIn_sub (fun _ h => List.mem_append_right _ h) (by decide +kernel))
set_option maxRecDepth 20000 in
theorem gL_law__L_wholes : GoodIn wsL_law_ (va_wsS RL 120 yL_wholes wsL_wholes) := goodIn_app (goodIn_of _ (by decide +kernel)) ggL_law__L_wholes
set_option maxRecDepth 20000 in
theorem ggL_law__X5_wholes : GoodIn wsL_law_ wsX5_wholes := goodIn_r _ [345, 136, 175, 176, 177, 5, 178, 102, 291, 292, 293, 294, 137, 242, 326, 327, 328, 329, 96, 548, 549, 550, 551, 552, 553, 554, 555, 556, 557, 558, 559, 560, 561, 562, 563, 564, 565, 566] (by decide +kernel) (by decide +kernel)
set_option maxRecDepth 20000 in
theorem gL_law__X5_wholes : GoodIn wsL_law_ (wsV RL 122 RX5 yX5_wholes wsX5_wholes) := goodIn_app (goodIn_of _ (by decide +kernel)) ggL_law__X5_wholes
set_option maxRecDepth 20000 in
theorem ggL_law__L_volume : GoodIn wsL_law_ wsL_volume := goodIn_ca (goodIn_r _ [348, 271, 349, 350, 351, 2, 352, 29, 276, 277, 278, 279, 280, 281, 115, 353, 354, 355, 28, 356, 67, 357, 283, 284, 285, 286, 70, 541, 542, 543, 544, 545, 546, 547, 574, 575, 576, 577, 578, 579, 580] (by decide +kernel) (by decide +kernel)) (goodIn_sub (fun _ h => List.mem_append_right _ h) (by decide +kernel))
set_option maxRecDepth 20000 in
theorem gL_law__L_volume : GoodIn wsL_law_ (va_wsS RL 123 yL_volume wsL_volume) := goodIn_app (goodIn_of _ (by decide +kernel)) ggL_law__L_volume
set_option maxRecDepth 20000 in
theorem ggL_law__X5_volume : GoodIn wsL_law_ wsX5_volume := goodIn_r _ [361, 136, 291, 292, 293, 5, 294, 137, 242, 362, 363, 364, 365, 102, 295, 296, 297, 298, 96, 299, 548, 549, 550, 551, 552, 553, 554, 555, 556, 557, 558, 559, 560, 561, 562, 563, 564, 565, 566] (by decide +kernel) (by decide +kernel)
set_option maxRecDepth 20000 in
theorem gL_law__X5_volume : GoodIn wsL_law_ (wsV RL 126 RX5 yX5_volume wsX5_volume) := goodIn_app (goodIn_of _ (by decide +kernel)) ggL_law__X5_volume
set_option maxRecDepth 20000 in
theorem ggL_law__L_taper : GoodIn wsL_law_ wsL_taper := goodIn_ca (goodIn_r _ [368, 271, 369, 370, 371, 2, 372, 29, 276, 277, 278, 279, 280, 281, 115, 373, 374, 375, 28, 376, 67, 70, 541, 542, 543, 544, 545, 546, 547, 574, 575, 576, 577, 578, 579, 580] (by decide +kernel) (by decide +kernel)) (goodIn_sub (fun _ h => List.mem_append_right _ h) (by decide +kernel))
set_option maxRecDepth 20000 in
theorem gL_law__L_taper : GoodIn wsL_law_ (va_wsS RL 127 yL_taper wsL_taper) := goodIn_app (goodIn_of _ (by decide +kernel)) ggL_law__L_taper
set_option maxRecDepth 20000 in
theorem ggL_law__X5_taper : GoodIn wsL_law_ wsX5_taper := goodIn_r _ [380, 136, 291, 292, 293, 5, 294, 137, 242, 381, 382, 383, 384, 102, 96, 548, 549, 550, 551, 552, 553, 554, 555, 556, 557, 558, 559, 560, 561, 562, 563, 564, 565, 566] (by decide +kernel) (by decide +kernel)
set_option maxRecDepth 20000 in
theorem gL_law__X5_taper : GoodIn wsL_law_ (wsV RL 129 RX5 yX5_taper wsX5_taper) := goodIn_app (goodIn_of _ (by decide +kernel)) ggL_law__X5_taper
set_option maxRecDepth 20000 in
theorem ggL_law__L_sweep : GoodIn wsL_law_ wsL_sweep := goodIn_ca (goodIn_r _ [387, 271, 388, 389, 390, 2, 391, 29, 276, 277, 278, 279, 280, 281, 115, 392, 393, 394, 28, 395, 67, 68, 69, 396, 397, 398, 399, 541, 542, 543, 544, 545, 546, 547, 574, 575, 576, 577, 578, 579, 580] (by decide +kernel) (by decide +kernel)) (goodIn_sub (fun _ h => List.mem_append_right _ h) (by decide +kernel))
set_option maxRecDepth 20000 in
theorem gL_law__L_sweep : GoodIn wsL_law_ (va_wsS RL 130 yL_sweep wsL_sweep) := goodIn_app (goodIn_of _ (by decide +kernel)) ggL_law__L_sweep
set_option maxRecDepth 20000 in
theorem ggL_law__X5_sweep : GoodIn wsL_law_ wsX5_sweep := goodIn_r _ [403, 136, 291, 292, 293, 5, 294, 137, 242, 404, 405, 406, 407, 102, 408, 409, 410, 411, 96, 548, 549, 550, 551, 552, 553, 554, 555, 556, 557, 558, 559, 560, 561, 562, 563, 564, 565, 566] (by decide +kernel) (by decide +kernel)
set_option maxRecDepth 20000 in
theorem gL_law__X5_sweep : GoodIn wsL_law_ (wsV RL 132 RX5 yX5_sweep wsX5_sweep) := goodIn_app (goodIn_of _ (by decide +kernel)) ggL_law__X5_sweep
set_option maxRecDepth 20000 in
theorem ggL_law__L_rule : GoodIn wsL_law_ wsL_rule := goodIn_ca (goodIn_ca (goodIn_r _ [414, 108, 271, 415, 416, 417, 2, 418, 113, 114, 280, 281, 37, 419, 420, 421, 36, 422, 423, 424, 425, 426, 427, 83, 84, 85, 541, 542, 543, 544, 545, 546, 547, 584, 585, 586, 587] (by decide +kernel) (by decide +kernel)) (goodIn_sub (fun _ h => List.mem_append_left _ (List.mem_append_right _ h)) (by decide +kernel))) (goodIn_sub (fun _ h => List.mem_append_right _ h) (by decide +kernel))
set_option maxRecDepth 20000 in
theorem gL_law__L_rule : GoodIn wsL_law_ (va_wsS RL 133 yL_rule wsL_rule) := goodIn_app (goodIn_of _ (by decide +kernel)) ggL_law__L_rule
set_option maxRecDepth 20000 in
theorem ggL_law__X5_rule : GoodIn wsL_law_ wsX5_rule := goodIn_r _ [431, 432, 136, 97, 98, 99, 548, 549, 550, 551, 552, 553, 554, 555, 556, 557, 558, 559, 560, 561, 562, 563, 564, 565, 566] (by decide +kernel) (by decide +kernel)
set_option maxRecDepth 20000 in
theorem gL_law__X5_rule : GoodIn wsL_law_ (wsV RL 136 RX5 yX5_rule wsX5_rule) := goodIn_app (goodIn_of _ (by decide +kernel)) ggL_law__X5_rule
set_option maxRecDepth 20000 in
theorem ggL_law__L_cls : GoodIn wsL_law_ wsL_cls := goodIn_ca (goodIn_r _ [435, 271, 436, 437, 438, 2, 439, 37, 29, 276, 277, 278, 279, 280, 281, 115, 440, 441, 442, 36, 443, 423, 83, 84, 85, 444, 445, 446, 447, 393, 394, 28, 395, 67, 68, 69, 396, 397, 398, 399, 448, 374, 375, 376, 70, 449, 450, 451, 452, 453, 354, 355, 356, 357, 283, 284, 285, 286, 541, 542, 543, 544, 545, 546, 547, 584, 585, 586, 587, 574, 575, 576, 577, 578, 579, 580] (by decide +kernel) (by decide +kernel)) (goodIn_sub (fun _ h => List.mem_append_right _ h) (by decide +kernel))
set_option maxRecDepth 20000 in
theorem gL_law__L_cls : GoodIn wsL_law_ (va_wsS RL 137 yL_cls wsL_cls) := goodIn_app (goodIn_of _ (by decide +kernel)) ggL_law__L_cls
set_option maxRecDepth 20000 in
theorem ggL_law__X5_cls : GoodIn wsL_law_ wsX5_cls := goodIn_r _ [457, 136, 432, 99, 291, 292, 293, 5, 294, 137, 242, 458, 459, 460, 461, 97, 98, 96, 102, 404, 405, 406, 407, 408, 409, 410, 411, 381, 382, 383, 384, 362, 363, 364, 365, 295, 296, 297, 298, 299, 548, 549, 550, 551, 552, 553, 554, 555, 556, 557, 558, 559, 560, 561, 562, 563, 564, 565, 566] (by decide +kernel) (by decide +kernel)
set_option maxRecDepth 20000 in
theorem gL_law__X5_cls : GoodIn wsL_law_ (wsV RL 140 RX5 yX5_cls wsX5_cls) := goodIn_app (goodIn_of _ (by decide +kernel)) ggL_law__X5_cls
set_option maxRecDepth 20000 in
theorem ggL_law__L_keep : GoodIn wsL_law_ wsL_keep := goodIn_ca (goodIn_r _ [464, 271, 465, 466, 467, 2, 468, 33, 29, 276, 277, 278, 279, 280, 281, 115, 469, 470, 471, 32, 472, 77, 78, 473, 541, 542, 543, 544, 545, 546, 547, 581, 582, 583, 574, 575, 576, 577, 578, 579, 580] (by decide +kernel) (by decide +kernel)) (goodIn_sub (fun _ h => List.mem_append_right _ h) (by decide +kernel))
set_option maxRecDepth 20000 in
theorem gL_law__L_keep : GoodIn wsL_law_ (va_wsS RL 141 yL_keep wsL_keep) := goodIn_app (goodIn_of _ (by decide +kernel)) ggL_law__L_keep
set_option maxRecDepth 20000 in
theorem ggL_law__X5_keep : GoodIn wsL_law_ wsX5_keep := goodIn_r _ [477, 136, 102, 478, 100, 96, 101, 291, 292, 293, 5, 294, 137, 242, 548, 549, 550, 551, 552, 553, 554, 555, 556, 557, 558, 559, 560, 561, 562, 563, 564, 565, 566] (by decide +kernel) (by decide +kernel)
set_option maxRecDepth 20000 in
theorem gL_law__X5_keep : GoodIn wsL_law_ (wsV RL 144 RX5 yX5_keep wsX5_keep) := goodIn_app (goodIn_of _ (by decide +kernel)) ggL_law__X5_keep
set_option maxRecDepth 20000 in
theorem ggL_law__L_apart : GoodIn wsL_law_ wsL_apart := goodIn_ca (goodIn_ca (goodIn_r _ [481, 108, 271, 482, 483, 484, 2, 485, 113, 114, 33, 29, 276, 277, 278, 279, 280, 281, 115, 486, 487, 488, 489, 490, 491, 492, 32, 493, 77, 494, 495, 496, 497, 78, 498, 499, 500, 501, 541, 542, 543, 544, 545, 546, 547, 581, 582, 583, 574, 575, 576, 577, 578, 579, 580] (by decide +kernel) (by decide +kernel)) (goodIn_sub (fun _ h => List.mem_append_left _ (List.mem_append_right _ h)) (by decide +kernel))) (goodIn_sub (fun _ h => List.mem_append_right _ h) (by decide +kernel))
set_option maxRecDepth 20000 in
theorem gL_law__L_apart : GoodIn wsL_law_ (va_wsS RL 145 yL_apart wsL_apart) := goodIn_app (goodIn_of _ (by decide +kernel)) ggL_law__L_apart
set_option maxRecDepth 20000 in
theorem ggL_law__X5_apart : GoodIn wsL_law_ wsX5_apart := goodIn_r _ [505, 478, 136, 291, 292, 293, 5, 294, 137, 242, 506, 507, 508, 509, 102, 100, 101, 96, 548, 549, 550, 551, 552, 553, 554, 555, 556, 557, 558, 559, 560, 561, 562, 563, 564, 565, 566] (by decide +kernel) (by decide +kernel)
set_option maxRecDepth 20000 in
theorem gL_law__X5_apart : GoodIn wsL_law_ (wsV RL 148 RX5 yX5_apart wsX5_apart) := goodIn_app (goodIn_of _ (by decide +kernel)) ggL_law__X5_apart
set_option maxRecDepth 20000 in
theorem ggL_law__L_match : GoodIn wsL_law_ wsL_match := goodIn_ca (goodIn_r _ [512, 271, 513, 514, 515, 2, 516, 33, 29, 276, 277, 278, 279, 280, 281, 115, 486, 487, 488, 489, 517, 518, 519, 32, 520, 521, 491, 492, 493, 77, 494, 495, 496, 497, 78, 498, 499, 500, 501, 541, 542, 543, 544, 545, 546, 547, 581, 582, 583, 574, 575, 576, 577, 578, 579, 580] (by decide +kernel) (by decide +kernel)) (goodIn_sub (fun _ h => List.mem_append_right _ h) (by decide +kernel))
set_option maxRecDepth 20000 in
theorem gL_law__L_match : GoodIn wsL_law_ (va_wsS RL 149 yL_match wsL_match) := goodIn_app (goodIn_of _ (by decide +kernel)) ggL_law__L_match
set_option maxRecDepth 20000 in
theorem ggL_law__X5_match : GoodIn wsL_law_ wsX5_match := goodIn_r _ [525, 478, 136, 291, 292, 293, 5, 294, 137, 242, 506, 507, 508, 509, 102, 100, 101, 96, 548, 549, 550, 551, 552, 553, 554, 555, 556, 557, 558, 559, 560, 561, 562, 563, 564, 565, 566] (by decide +kernel) (by decide +kernel)
set_option maxRecDepth 20000 in
theorem gL_law__X5_match : GoodIn wsL_law_ (wsV RL 151 RX5 yX5_match wsX5_match) := goodIn_app (goodIn_of _ (by decide +kernel)) ggL_law__X5_match
set_option maxRecDepth 20000 in
theorem ggL_law__L_law : GoodIn wsL_law_ wsL_law := goodIn_ca (goodIn_r _ [528, 108, 529, 530, 531, 2, 532, 113, 114, 533, 534] (by decide +kernel) (by decide +kernel)) (goodIn_sub (fun _ h => List.mem_append_left _ (List.mem_append_right _ h)) (by decide +kernel))
set_option maxRecDepth 20000 in
theorem gL_law__L_law : GoodIn wsL_law_ (va_wsS RL 154 yL_law wsL_law) := goodIn_app (goodIn_of _ (by decide +kernel)) ggL_law__L_law
set_option maxRecDepth 20000 in
theorem ggL_law__X5_law : GoodIn wsL_law_ wsX5_law := goodIn_r _ [538, 539, 540, 136, 548, 549, 550, 551, 552, 553, 554, 555, 556, 557, 558, 559, 560, 561, 562, 563, 564, 565, 566] (by decide +kernel) (by decide +kernel)
set_option maxRecDepth 20000 in
theorem gL_law__X5_law : GoodIn wsL_law_ (wsV RL 157 RX5 yX5_law wsX5_law) := goodIn_app (goodIn_of _ (by decide +kernel)) ggL_law__X5_law
theorem dL_law__0 : decode cL_law_ 0 = .ok (.new 8, 3) := by decide +kernel
theorem dL_law__3 : decode cL_law_ 3 = .ok (.dup, 1) := by decide +kernel
theorem dL_law__4 : decode cL_law_ 4 = .ok (.aload_n 0, 1) := by decide +kernel
theorem dL_law__5 : decode cL_law_ 5 = .ok (.iconst 0, 1) := by decide +kernel
theorem dL_law__6 : decode cL_law_ 6 = .ok (.invokestatic 75, 3) := by decide +kernel
theorem dL_law__9 : decode cL_law_ 9 = .ok (.aload_n 0, 1) := by decide +kernel
theorem dL_law__10 : decode cL_law_ 10 = .ok (.iconst 1, 1) := by decide +kernel
theorem dL_law__11 : decode cL_law_ 11 = .ok (.invokestatic 75, 3) := by decide +kernel
theorem dL_law__14 : decode cL_law_ 14 = .ok (.invokespecial 81, 3) := by decide +kernel
theorem dL_law__17 : decode cL_law_ 17 = .ok (.astore_n 1, 1) := by decide +kernel
theorem dL_law__18 : decode cL_law_ 18 = .ok (.new 84, 3) := by decide +kernel
theorem dL_law__21 : decode cL_law_ 21 = .ok (.dup, 1) := by decide +kernel
theorem dL_law__22 : decode cL_law_ 22 = .ok (.aload_n 0, 1) := by decide +kernel
theorem dL_law__23 : decode cL_law_ 23 = .ok (.iconst 0, 1) := by decide +kernel
theorem dL_law__24 : decode cL_law_ 24 = .ok (.invokestatic 75, 3) := by decide +kernel
theorem dL_law__27 : decode cL_law_ 27 = .ok (.aload_n 0, 1) := by decide +kernel
theorem dL_law__28 : decode cL_law_ 28 = .ok (.iconst 1, 1) := by decide +kernel
theorem dL_law__29 : decode cL_law_ 29 = .ok (.invokestatic 75, 3) := by decide +kernel
theorem dL_law__32 : decode cL_law_ 32 = .ok (.invokespecial 86, 3) := by decide +kernel
theorem dL_law__35 : decode cL_law_ 35 = .ok (.astore_n 2, 1) := by decide +kernel
theorem dL_law__36 : decode cL_law_ 36 = .ok (.iconst 1, 1) := by decide +kernel
theorem dL_law__37 : decode cL_law_ 37 = .ok (.newarray .long, 2) := by decide +kernel
theorem dL_law__39 : decode cL_law_ 39 = .ok (.astore_n 3, 1) := by decide +kernel
theorem dL_law__40 : decode cL_law_ 40 = .ok (.iconst 1, 1) := by decide +kernel
theorem dL_law__41 : decode cL_law_ 41 = .ok (.newarray .double, 2) := by decide +kernel
theorem dL_law__43 : decode cL_law_ 43 = .ok (.astore 4, 2) := by decide +kernel
theorem dL_law__45 : decode cL_law_ 45 = .ok (.iconst 2, 1) := by decide +kernel
theorem dL_law__46 : decode cL_law_ 46 = .ok (.istore 5, 2) := by decide +kernel
theorem dL_law__48 : decode cL_law_ 48 = .ok (.iload 5, 2) := by decide +kernel
theorem dL_law__50 : decode cL_law_ 50 = .ok (.aload_n 0, 1) := by decide +kernel
theorem dL_law__51 : decode cL_law_ 51 = .ok (.arraylength, 1) := by decide +kernel
theorem dL_law__52 : decode cL_law_ 52 = .ok (.bipush 7, 2) := by decide +kernel
theorem dL_law__54 : decode cL_law_ 54 = .ok (.isub, 1) := by decide +kernel
theorem dL_law__55 : decode cL_law_ 55 = .ok (.if_icmp .gt 1325, 3) := by decide +kernel
theorem dL_law__58 : decode cL_law_ 58 = .ok (.aload_n 0, 1) := by decide +kernel
theorem dL_law__59 : decode cL_law_ 59 = .ok (.iload 5, 2) := by decide +kernel
theorem dL_law__61 : decode cL_law_ 61 = .ok (.iaload, 1) := by decide +kernel
theorem dL_law__62 : decode cL_law_ 62 = .ok (.bipush 31, 2) := by decide +kernel
theorem dL_law__64 : decode cL_law_ 64 = .ok (.iand, 1) := by decide +kernel
theorem dL_law__65 : decode cL_law_ 65 = .ok (.tableswitch 1309 0 16 #[83, 163, 255, 330, 343, 432, 495, 602, 658, 723, 788, 853, 943, 987, 1011, 1088, 1132], 83) := by decide +kernel
theorem dL_law__148 : decode cL_law_ 148 = .ok (.aload_n 1, 1) := by decide +kernel
theorem dL_law__149 : decode cL_law_ 149 = .ok (.aload_n 0, 1) := by decide +kernel
theorem dL_law__150 : decode cL_law_ 150 = .ok (.iload 5, 2) := by decide +kernel
theorem dL_law__152 : decode cL_law_ 152 = .ok (.iconst 1, 1) := by decide +kernel
theorem dL_law__153 : decode cL_law_ 153 = .ok (.iadd, 1) := by decide +kernel
theorem dL_law__154 : decode cL_law_ 154 = .ok (.iaload, 1) := by decide +kernel
theorem dL_law__155 : decode cL_law_ 155 = .ok (.aload_n 0, 1) := by decide +kernel
theorem dL_law__156 : decode cL_law_ 156 = .ok (.iload 5, 2) := by decide +kernel
theorem dL_law__158 : decode cL_law_ 158 = .ok (.iconst 2, 1) := by decide +kernel
theorem dL_law__159 : decode cL_law_ 159 = .ok (.iadd, 1) := by decide +kernel
theorem dL_law__160 : decode cL_law_ 160 = .ok (.iaload, 1) := by decide +kernel
theorem dL_law__161 : decode cL_law_ 161 = .ok (.i2d, 1) := by decide +kernel
theorem dL_law__162 : decode cL_law_ 162 = .ok (.ldc2_w 87, 3) := by decide +kernel
theorem dL_law__165 : decode cL_law_ 165 = .ok (.dmul, 1) := by decide +kernel
theorem dL_law__166 : decode cL_law_ 166 = .ok (.aload_n 0, 1) := by decide +kernel
theorem dL_law__167 : decode cL_law_ 167 = .ok (.iload 5, 2) := by decide +kernel
theorem dL_law__169 : decode cL_law_ 169 = .ok (.iconst 3, 1) := by decide +kernel
theorem dL_law__170 : decode cL_law_ 170 = .ok (.iadd, 1) := by decide +kernel
theorem dL_law__171 : decode cL_law_ 171 = .ok (.iaload, 1) := by decide +kernel
theorem dL_law__172 : decode cL_law_ 172 = .ok (.i2d, 1) := by decide +kernel
theorem dL_law__173 : decode cL_law_ 173 = .ok (.ldc2_w 87, 3) := by decide +kernel
theorem dL_law__176 : decode cL_law_ 176 = .ok (.dmul, 1) := by decide +kernel
theorem dL_law__177 : decode cL_law_ 177 = .ok (.invokestatic 89, 3) := by decide +kernel
theorem dL_law__180 : decode cL_law_ 180 = .ok (.istore 6, 2) := by decide +kernel
theorem dL_law__182 : decode cL_law_ 182 = .ok (.aload_n 2, 1) := by decide +kernel
theorem dL_law__183 : decode cL_law_ 183 = .ok (.aload_n 0, 1) := by decide +kernel
theorem dL_law__184 : decode cL_law_ 184 = .ok (.iload 5, 2) := by decide +kernel
theorem dL_law__186 : decode cL_law_ 186 = .ok (.iconst 1, 1) := by decide +kernel
theorem dL_law__187 : decode cL_law_ 187 = .ok (.iadd, 1) := by decide +kernel
theorem dL_law__188 : decode cL_law_ 188 = .ok (.iaload, 1) := by decide +kernel
theorem dL_law__189 : decode cL_law_ 189 = .ok (.aload_n 0, 1) := by decide +kernel
theorem dL_law__190 : decode cL_law_ 190 = .ok (.iload 5, 2) := by decide +kernel
theorem dL_law__192 : decode cL_law_ 192 = .ok (.iconst 2, 1) := by decide +kernel
theorem dL_law__193 : decode cL_law_ 193 = .ok (.iadd, 1) := by decide +kernel
theorem dL_law__194 : decode cL_law_ 194 = .ok (.iaload, 1) := by decide +kernel
theorem dL_law__195 : decode cL_law_ 195 = .ok (.i2d, 1) := by decide +kernel
theorem dL_law__196 : decode cL_law_ 196 = .ok (.ldc2_w 87, 3) := by decide +kernel
theorem dL_law__199 : decode cL_law_ 199 = .ok (.dmul, 1) := by decide +kernel
theorem dL_law__200 : decode cL_law_ 200 = .ok (.aload_n 0, 1) := by decide +kernel
theorem dL_law__201 : decode cL_law_ 201 = .ok (.iload 5, 2) := by decide +kernel
theorem dL_law__203 : decode cL_law_ 203 = .ok (.iconst 3, 1) := by decide +kernel
theorem dL_law__204 : decode cL_law_ 204 = .ok (.iadd, 1) := by decide +kernel
theorem dL_law__205 : decode cL_law_ 205 = .ok (.iaload, 1) := by decide +kernel
theorem dL_law__206 : decode cL_law_ 206 = .ok (.i2d, 1) := by decide +kernel
theorem dL_law__207 : decode cL_law_ 207 = .ok (.ldc2_w 87, 3) := by decide +kernel
theorem dL_law__210 : decode cL_law_ 210 = .ok (.dmul, 1) := by decide +kernel
theorem dL_law__211 : decode cL_law_ 211 = .ok (.invokevirtual 92, 3) := by decide +kernel
theorem dL_law__214 : decode cL_law_ 214 = .ok (.aload_n 2, 1) := by decide +kernel
theorem dL_law__215 : decode cL_law_ 215 = .ok (.invokevirtual 93, 3) := by decide +kernel
theorem dL_law__218 : decode cL_law_ 218 = .ok (.iload 6, 2) := by decide +kernel
theorem dL_law__220 : decode cL_law_ 220 = .ok (.if_icmp .eq 5, 3) := by decide +kernel
theorem dL_law__223 : decode cL_law_ 223 = .ok (.iconst 0, 1) := by decide +kernel
theorem dL_law__224 : decode cL_law_ 224 = .ok (.ireturn, 1) := by decide +kernel
theorem dL_law__225 : decode cL_law_ 225 = .ok (.goto 1149, 3) := by decide +kernel
theorem dL_law__228 : decode cL_law_ 228 = .ok (.aload_n 1, 1) := by decide +kernel
theorem dL_law__229 : decode cL_law_ 229 = .ok (.aload_n 0, 1) := by decide +kernel
theorem dL_law__230 : decode cL_law_ 230 = .ok (.iload 5, 2) := by decide +kernel
theorem dL_law__232 : decode cL_law_ 232 = .ok (.iconst 1, 1) := by decide +kernel
theorem dL_law__233 : decode cL_law_ 233 = .ok (.iadd, 1) := by decide +kernel
theorem dL_law__234 : decode cL_law_ 234 = .ok (.iaload, 1) := by decide +kernel
theorem dL_law__235 : decode cL_law_ 235 = .ok (.aload_n 0, 1) := by decide +kernel
theorem dL_law__236 : decode cL_law_ 236 = .ok (.iload 5, 2) := by decide +kernel
theorem dL_law__238 : decode cL_law_ 238 = .ok (.iconst 2, 1) := by decide +kernel
theorem dL_law__239 : decode cL_law_ 239 = .ok (.iadd, 1) := by decide +kernel
theorem dL_law__240 : decode cL_law_ 240 = .ok (.iaload, 1) := by decide +kernel
theorem dL_law__241 : decode cL_law_ 241 = .ok (.aload_n 0, 1) := by decide +kernel
theorem dL_law__242 : decode cL_law_ 242 = .ok (.iload 5, 2) := by decide +kernel
theorem dL_law__244 : decode cL_law_ 244 = .ok (.iconst 3, 1) := by decide +kernel
theorem dL_law__245 : decode cL_law_ 245 = .ok (.iadd, 1) := by decide +kernel
theorem dL_law__246 : decode cL_law_ 246 = .ok (.iaload, 1) := by decide +kernel
theorem dL_law__247 : decode cL_law_ 247 = .ok (.i2d, 1) := by decide +kernel
theorem dL_law__248 : decode cL_law_ 248 = .ok (.ldc2_w 87, 3) := by decide +kernel
theorem dL_law__251 : decode cL_law_ 251 = .ok (.dmul, 1) := by decide +kernel
theorem dL_law__252 : decode cL_law_ 252 = .ok (.aload_n 0, 1) := by decide +kernel
theorem dL_law__253 : decode cL_law_ 253 = .ok (.iload 5, 2) := by decide +kernel
theorem dL_law__255 : decode cL_law_ 255 = .ok (.iconst 4, 1) := by decide +kernel
theorem dL_law__256 : decode cL_law_ 256 = .ok (.iadd, 1) := by decide +kernel
theorem dL_law__257 : decode cL_law_ 257 = .ok (.iaload, 1) := by decide +kernel
theorem dL_law__258 : decode cL_law_ 258 = .ok (.i2d, 1) := by decide +kernel
theorem dL_law__259 : decode cL_law_ 259 = .ok (.ldc2_w 87, 3) := by decide +kernel
theorem dL_law__262 : decode cL_law_ 262 = .ok (.dmul, 1) := by decide +kernel
theorem dL_law__263 : decode cL_law_ 263 = .ok (.invokestatic 96, 3) := by decide +kernel
theorem dL_law__266 : decode cL_law_ 266 = .ok (.istore 6, 2) := by decide +kernel
theorem dL_law__268 : decode cL_law_ 268 = .ok (.aload_n 2, 1) := by decide +kernel
theorem dL_law__269 : decode cL_law_ 269 = .ok (.aload_n 0, 1) := by decide +kernel
theorem dL_law__270 : decode cL_law_ 270 = .ok (.iload 5, 2) := by decide +kernel
theorem dL_law__272 : decode cL_law_ 272 = .ok (.iconst 1, 1) := by decide +kernel
theorem dL_law__273 : decode cL_law_ 273 = .ok (.iadd, 1) := by decide +kernel
theorem dL_law__274 : decode cL_law_ 274 = .ok (.iaload, 1) := by decide +kernel
theorem dL_law__275 : decode cL_law_ 275 = .ok (.aload_n 0, 1) := by decide +kernel
theorem dL_law__276 : decode cL_law_ 276 = .ok (.iload 5, 2) := by decide +kernel
theorem dL_law__278 : decode cL_law_ 278 = .ok (.iconst 2, 1) := by decide +kernel
theorem dL_law__279 : decode cL_law_ 279 = .ok (.iadd, 1) := by decide +kernel
theorem dL_law__280 : decode cL_law_ 280 = .ok (.iaload, 1) := by decide +kernel
theorem dL_law__281 : decode cL_law_ 281 = .ok (.aload_n 0, 1) := by decide +kernel
theorem dL_law__282 : decode cL_law_ 282 = .ok (.iload 5, 2) := by decide +kernel
theorem dL_law__284 : decode cL_law_ 284 = .ok (.iconst 3, 1) := by decide +kernel
theorem dL_law__285 : decode cL_law_ 285 = .ok (.iadd, 1) := by decide +kernel
theorem dL_law__286 : decode cL_law_ 286 = .ok (.iaload, 1) := by decide +kernel
theorem dL_law__287 : decode cL_law_ 287 = .ok (.i2d, 1) := by decide +kernel
theorem dL_law__288 : decode cL_law_ 288 = .ok (.ldc2_w 87, 3) := by decide +kernel
theorem dL_law__291 : decode cL_law_ 291 = .ok (.dmul, 1) := by decide +kernel
theorem dL_law__292 : decode cL_law_ 292 = .ok (.aload_n 0, 1) := by decide +kernel
theorem dL_law__293 : decode cL_law_ 293 = .ok (.iload 5, 2) := by decide +kernel
theorem dL_law__295 : decode cL_law_ 295 = .ok (.iconst 4, 1) := by decide +kernel
theorem dL_law__296 : decode cL_law_ 296 = .ok (.iadd, 1) := by decide +kernel
theorem dL_law__297 : decode cL_law_ 297 = .ok (.iaload, 1) := by decide +kernel
theorem dL_law__298 : decode cL_law_ 298 = .ok (.i2d, 1) := by decide +kernel
theorem dL_law__299 : decode cL_law_ 299 = .ok (.ldc2_w 87, 3) := by decide +kernel
theorem dL_law__302 : decode cL_law_ 302 = .ok (.dmul, 1) := by decide +kernel
theorem dL_law__303 : decode cL_law_ 303 = .ok (.invokevirtual 99, 3) := by decide +kernel
theorem dL_law__306 : decode cL_law_ 306 = .ok (.aload_n 2, 1) := by decide +kernel
theorem dL_law__307 : decode cL_law_ 307 = .ok (.invokevirtual 93, 3) := by decide +kernel
theorem dL_law__310 : decode cL_law_ 310 = .ok (.iload 6, 2) := by decide +kernel
theorem dL_law__312 : decode cL_law_ 312 = .ok (.if_icmp .eq 5, 3) := by decide +kernel
theorem dL_law__315 : decode cL_law_ 315 = .ok (.iconst 0, 1) := by decide +kernel
theorem dL_law__316 : decode cL_law_ 316 = .ok (.ireturn, 1) := by decide +kernel
theorem dL_law__317 : decode cL_law_ 317 = .ok (.goto 1057, 3) := by decide +kernel
theorem dL_law__320 : decode cL_law_ 320 = .ok (.aload_n 1, 1) := by decide +kernel
theorem dL_law__321 : decode cL_law_ 321 = .ok (.aload_n 0, 1) := by decide +kernel
theorem dL_law__322 : decode cL_law_ 322 = .ok (.iload 5, 2) := by decide +kernel
theorem dL_law__324 : decode cL_law_ 324 = .ok (.iconst 1, 1) := by decide +kernel
theorem dL_law__325 : decode cL_law_ 325 = .ok (.iadd, 1) := by decide +kernel
theorem dL_law__326 : decode cL_law_ 326 = .ok (.iaload, 1) := by decide +kernel
theorem dL_law__327 : decode cL_law_ 327 = .ok (.aload_n 0, 1) := by decide +kernel
theorem dL_law__328 : decode cL_law_ 328 = .ok (.iload 5, 2) := by decide +kernel
theorem dL_law__330 : decode cL_law_ 330 = .ok (.iconst 2, 1) := by decide +kernel
theorem dL_law__331 : decode cL_law_ 331 = .ok (.iadd, 1) := by decide +kernel
theorem dL_law__332 : decode cL_law_ 332 = .ok (.iaload, 1) := by decide +kernel
theorem dL_law__333 : decode cL_law_ 333 = .ok (.aload_n 3, 1) := by decide +kernel
theorem dL_law__334 : decode cL_law_ 334 = .ok (.invokestatic 100, 3) := by decide +kernel
theorem dL_law__337 : decode cL_law_ 337 = .ok (.istore 6, 2) := by decide +kernel
theorem dL_law__339 : decode cL_law_ 339 = .ok (.aload_n 2, 1) := by decide +kernel
theorem dL_law__340 : decode cL_law_ 340 = .ok (.aload_n 0, 1) := by decide +kernel
theorem dL_law__341 : decode cL_law_ 341 = .ok (.iload 5, 2) := by decide +kernel
theorem dL_law__343 : decode cL_law_ 343 = .ok (.iconst 1, 1) := by decide +kernel
theorem dL_law__344 : decode cL_law_ 344 = .ok (.iadd, 1) := by decide +kernel
theorem dL_law__345 : decode cL_law_ 345 = .ok (.iaload, 1) := by decide +kernel
theorem dL_law__346 : decode cL_law_ 346 = .ok (.aload_n 0, 1) := by decide +kernel
theorem dL_law__347 : decode cL_law_ 347 = .ok (.iload 5, 2) := by decide +kernel
theorem dL_law__349 : decode cL_law_ 349 = .ok (.iconst 2, 1) := by decide +kernel
theorem dL_law__350 : decode cL_law_ 350 = .ok (.iadd, 1) := by decide +kernel
theorem dL_law__351 : decode cL_law_ 351 = .ok (.iaload, 1) := by decide +kernel
theorem dL_law__352 : decode cL_law_ 352 = .ok (.invokevirtual 103, 3) := by decide +kernel
theorem dL_law__355 : decode cL_law_ 355 = .ok (.istore 7, 2) := by decide +kernel
theorem dL_law__357 : decode cL_law_ 357 = .ok (.aload_n 2, 1) := by decide +kernel
theorem dL_law__358 : decode cL_law_ 358 = .ok (.invokevirtual 93, 3) := by decide +kernel
theorem dL_law__361 : decode cL_law_ 361 = .ok (.iload 6, 2) := by decide +kernel
theorem dL_law__363 : decode cL_law_ 363 = .ok (.if_icmp .eq 5, 3) := by decide +kernel
theorem dL_law__366 : decode cL_law_ 366 = .ok (.iconst 0, 1) := by decide +kernel
theorem dL_law__367 : decode cL_law_ 367 = .ok (.ireturn, 1) := by decide +kernel
theorem dL_law__368 : decode cL_law_ 368 = .ok (.iload 6, 2) := by decide +kernel
theorem dL_law__370 : decode cL_law_ 370 = .ok (.ifCond .ne 22, 3) := by decide +kernel
theorem dL_law__373 : decode cL_law_ 373 = .ok (.aload_n 3, 1) := by decide +kernel
theorem dL_law__374 : decode cL_law_ 374 = .ok (.iconst 0, 1) := by decide +kernel
theorem dL_law__375 : decode cL_law_ 375 = .ok (.laload, 1) := by decide +kernel
theorem dL_law__376 : decode cL_law_ 376 = .ok (.iload 7, 2) := by decide +kernel
theorem dL_law__378 : decode cL_law_ 378 = .ok (.ifCond .eq 7, 3) := by decide +kernel
theorem dL_law__381 : decode cL_law_ 381 = .ok (.lconst 1, 1) := by decide +kernel
theorem dL_law__382 : decode cL_law_ 382 = .ok (.goto 4, 3) := by decide +kernel
theorem dL_law__385 : decode cL_law_ 385 = .ok (.lconst 0, 1) := by decide +kernel
theorem dL_law__386 : decode cL_law_ 386 = .ok (.lcmp, 1) := by decide +kernel
theorem dL_law__387 : decode cL_law_ 387 = .ok (.ifCond .eq 5, 3) := by decide +kernel
theorem dL_law__390 : decode cL_law_ 390 = .ok (.iconst 0, 1) := by decide +kernel
theorem dL_law__391 : decode cL_law_ 391 = .ok (.ireturn, 1) := by decide +kernel
theorem dL_law__392 : decode cL_law_ 392 = .ok (.goto 982, 3) := by decide +kernel
theorem dL_law__395 : decode cL_law_ 395 = .ok (.aload_n 1, 1) := by decide +kernel
theorem dL_law__396 : decode cL_law_ 396 = .ok (.invokevirtual 104, 3) := by decide +kernel
theorem dL_law__399 : decode cL_law_ 399 = .ok (.aload_n 2, 1) := by decide +kernel
theorem dL_law__400 : decode cL_law_ 400 = .ok (.invokevirtual 107, 3) := by decide +kernel
theorem dL_law__403 : decode cL_law_ 403 = .ok (.if_icmp .eq 971, 3) := by decide +kernel
theorem dL_law__406 : decode cL_law_ 406 = .ok (.iconst 0, 1) := by decide +kernel
theorem dL_law__407 : decode cL_law_ 407 = .ok (.ireturn, 1) := by decide +kernel
theorem dL_law__408 : decode cL_law_ 408 = .ok (.aload_n 1, 1) := by decide +kernel
theorem dL_law__409 : decode cL_law_ 409 = .ok (.aload_n 0, 1) := by decide +kernel
theorem dL_law__410 : decode cL_law_ 410 = .ok (.iload 5, 2) := by decide +kernel
theorem dL_law__412 : decode cL_law_ 412 = .ok (.iconst 1, 1) := by decide +kernel
theorem dL_law__413 : decode cL_law_ 413 = .ok (.iadd, 1) := by decide +kernel
theorem dL_law__414 : decode cL_law_ 414 = .ok (.iaload, 1) := by decide +kernel
theorem dL_law__415 : decode cL_law_ 415 = .ok (.aload_n 0, 1) := by decide +kernel
theorem dL_law__416 : decode cL_law_ 416 = .ok (.iload 5, 2) := by decide +kernel
theorem dL_law__418 : decode cL_law_ 418 = .ok (.iconst 2, 1) := by decide +kernel
theorem dL_law__419 : decode cL_law_ 419 = .ok (.iadd, 1) := by decide +kernel
theorem dL_law__420 : decode cL_law_ 420 = .ok (.iaload, 1) := by decide +kernel
theorem dL_law__421 : decode cL_law_ 421 = .ok (.aload 4, 2) := by decide +kernel
theorem dL_law__423 : decode cL_law_ 423 = .ok (.invokestatic 108, 3) := by decide +kernel
theorem dL_law__426 : decode cL_law_ 426 = .ok (.istore 6, 2) := by decide +kernel
theorem dL_law__428 : decode cL_law_ 428 = .ok (.aload_n 2, 1) := by decide +kernel
theorem dL_law__429 : decode cL_law_ 429 = .ok (.aload_n 0, 1) := by decide +kernel
theorem dL_law__430 : decode cL_law_ 430 = .ok (.iload 5, 2) := by decide +kernel
theorem dL_law__432 : decode cL_law_ 432 = .ok (.iconst 1, 1) := by decide +kernel
theorem dL_law__433 : decode cL_law_ 433 = .ok (.iadd, 1) := by decide +kernel
theorem dL_law__434 : decode cL_law_ 434 = .ok (.iaload, 1) := by decide +kernel
theorem dL_law__435 : decode cL_law_ 435 = .ok (.aload_n 0, 1) := by decide +kernel
theorem dL_law__436 : decode cL_law_ 436 = .ok (.iload 5, 2) := by decide +kernel
theorem dL_law__438 : decode cL_law_ 438 = .ok (.iconst 2, 1) := by decide +kernel
theorem dL_law__439 : decode cL_law_ 439 = .ok (.iadd, 1) := by decide +kernel
theorem dL_law__440 : decode cL_law_ 440 = .ok (.iaload, 1) := by decide +kernel
theorem dL_law__441 : decode cL_law_ 441 = .ok (.invokevirtual 111, 3) := by decide +kernel
theorem dL_law__444 : decode cL_law_ 444 = .ok (.dstore 7, 2) := by decide +kernel
theorem dL_law__446 : decode cL_law_ 446 = .ok (.aload_n 2, 1) := by decide +kernel
theorem dL_law__447 : decode cL_law_ 447 = .ok (.invokevirtual 93, 3) := by decide +kernel
theorem dL_law__450 : decode cL_law_ 450 = .ok (.iload 6, 2) := by decide +kernel
theorem dL_law__452 : decode cL_law_ 452 = .ok (.if_icmp .eq 5, 3) := by decide +kernel
theorem dL_law__455 : decode cL_law_ 455 = .ok (.iconst 0, 1) := by decide +kernel
theorem dL_law__456 : decode cL_law_ 456 = .ok (.ireturn, 1) := by decide +kernel
theorem dL_law__457 : decode cL_law_ 457 = .ok (.iload 6, 2) := by decide +kernel
theorem dL_law__459 : decode cL_law_ 459 = .ok (.ifCond .ne 35, 3) := by decide +kernel
theorem dL_law__462 : decode cL_law_ 462 = .ok (.aload 4, 2) := by decide +kernel
theorem dL_law__464 : decode cL_law_ 464 = .ok (.iconst 0, 1) := by decide +kernel
theorem dL_law__465 : decode cL_law_ 465 = .ok (.daload, 1) := by decide +kernel
theorem dL_law__466 : decode cL_law_ 466 = .ok (.dload 7, 2) := by decide +kernel
theorem dL_law__468 : decode cL_law_ 468 = .ok (.dcmp .l, 1) := by decide +kernel
theorem dL_law__469 : decode cL_law_ 469 = .ok (.ifCond .eq 25, 3) := by decide +kernel
theorem dL_law__472 : decode cL_law_ 472 = .ok (.aload 4, 2) := by decide +kernel
theorem dL_law__474 : decode cL_law_ 474 = .ok (.iconst 0, 1) := by decide +kernel
theorem dL_law__475 : decode cL_law_ 475 = .ok (.daload, 1) := by decide +kernel
theorem dL_law__476 : decode cL_law_ 476 = .ok (.aload 4, 2) := by decide +kernel
theorem dL_law__478 : decode cL_law_ 478 = .ok (.iconst 0, 1) := by decide +kernel
theorem dL_law__479 : decode cL_law_ 479 = .ok (.daload, 1) := by decide +kernel
theorem dL_law__480 : decode cL_law_ 480 = .ok (.dcmp .l, 1) := by decide +kernel
theorem dL_law__481 : decode cL_law_ 481 = .ok (.ifCond .eq 11, 3) := by decide +kernel
theorem dL_law__484 : decode cL_law_ 484 = .ok (.dload 7, 2) := by decide +kernel
theorem dL_law__486 : decode cL_law_ 486 = .ok (.dload 7, 2) := by decide +kernel
theorem dL_law__488 : decode cL_law_ 488 = .ok (.dcmp .l, 1) := by decide +kernel
theorem dL_law__489 : decode cL_law_ 489 = .ok (.ifCond .ne 5, 3) := by decide +kernel
theorem dL_law__492 : decode cL_law_ 492 = .ok (.iconst 0, 1) := by decide +kernel
theorem dL_law__493 : decode cL_law_ 493 = .ok (.ireturn, 1) := by decide +kernel
theorem dL_law__494 : decode cL_law_ 494 = .ok (.goto 880, 3) := by decide +kernel
theorem dL_law__497 : decode cL_law_ 497 = .ok (.aload_n 1, 1) := by decide +kernel
theorem dL_law__498 : decode cL_law_ 498 = .ok (.aload_n 0, 1) := by decide +kernel
theorem dL_law__499 : decode cL_law_ 499 = .ok (.iload 5, 2) := by decide +kernel
theorem dL_law__501 : decode cL_law_ 501 = .ok (.iconst 1, 1) := by decide +kernel
theorem dL_law__502 : decode cL_law_ 502 = .ok (.iadd, 1) := by decide +kernel
theorem dL_law__503 : decode cL_law_ 503 = .ok (.iaload, 1) := by decide +kernel
theorem dL_law__504 : decode cL_law_ 504 = .ok (.aload_n 3, 1) := by decide +kernel
theorem dL_law__505 : decode cL_law_ 505 = .ok (.invokestatic 112, 3) := by decide +kernel
theorem dL_law__508 : decode cL_law_ 508 = .ok (.istore 6, 2) := by decide +kernel
theorem dL_law__510 : decode cL_law_ 510 = .ok (.aload_n 2, 1) := by decide +kernel
theorem dL_law__511 : decode cL_law_ 511 = .ok (.aload_n 0, 1) := by decide +kernel
theorem dL_law__512 : decode cL_law_ 512 = .ok (.iload 5, 2) := by decide +kernel
theorem dL_law__514 : decode cL_law_ 514 = .ok (.iconst 1, 1) := by decide +kernel
theorem dL_law__515 : decode cL_law_ 515 = .ok (.iadd, 1) := by decide +kernel
theorem dL_law__516 : decode cL_law_ 516 = .ok (.iaload, 1) := by decide +kernel
theorem dL_law__517 : decode cL_law_ 517 = .ok (.invokevirtual 115, 3) := by decide +kernel
theorem dL_law__520 : decode cL_law_ 520 = .ok (.istore 7, 2) := by decide +kernel
theorem dL_law__522 : decode cL_law_ 522 = .ok (.aload_n 2, 1) := by decide +kernel
theorem dL_law__523 : decode cL_law_ 523 = .ok (.invokevirtual 93, 3) := by decide +kernel
theorem dL_law__526 : decode cL_law_ 526 = .ok (.iload 6, 2) := by decide +kernel
theorem dL_law__528 : decode cL_law_ 528 = .ok (.if_icmp .eq 5, 3) := by decide +kernel
theorem dL_law__531 : decode cL_law_ 531 = .ok (.iconst 0, 1) := by decide +kernel
theorem dL_law__532 : decode cL_law_ 532 = .ok (.ireturn, 1) := by decide +kernel
theorem dL_law__533 : decode cL_law_ 533 = .ok (.iload 6, 2) := by decide +kernel
theorem dL_law__535 : decode cL_law_ 535 = .ok (.ifCond .ne 22, 3) := by decide +kernel
theorem dL_law__538 : decode cL_law_ 538 = .ok (.aload_n 3, 1) := by decide +kernel
theorem dL_law__539 : decode cL_law_ 539 = .ok (.iconst 0, 1) := by decide +kernel
theorem dL_law__540 : decode cL_law_ 540 = .ok (.laload, 1) := by decide +kernel
theorem dL_law__541 : decode cL_law_ 541 = .ok (.iload 7, 2) := by decide +kernel
theorem dL_law__543 : decode cL_law_ 543 = .ok (.ifCond .eq 7, 3) := by decide +kernel
theorem dL_law__546 : decode cL_law_ 546 = .ok (.lconst 1, 1) := by decide +kernel
theorem dL_law__547 : decode cL_law_ 547 = .ok (.goto 4, 3) := by decide +kernel
theorem dL_law__550 : decode cL_law_ 550 = .ok (.lconst 0, 1) := by decide +kernel
theorem dL_law__551 : decode cL_law_ 551 = .ok (.lcmp, 1) := by decide +kernel
theorem dL_law__552 : decode cL_law_ 552 = .ok (.ifCond .eq 5, 3) := by decide +kernel
theorem dL_law__555 : decode cL_law_ 555 = .ok (.iconst 0, 1) := by decide +kernel
theorem dL_law__556 : decode cL_law_ 556 = .ok (.ireturn, 1) := by decide +kernel
theorem dL_law__557 : decode cL_law_ 557 = .ok (.goto 817, 3) := by decide +kernel
theorem dL_law__560 : decode cL_law_ 560 = .ok (.aload_n 1, 1) := by decide +kernel
theorem dL_law__561 : decode cL_law_ 561 = .ok (.aload_n 0, 1) := by decide +kernel
theorem dL_law__562 : decode cL_law_ 562 = .ok (.iload 5, 2) := by decide +kernel
theorem dL_law__564 : decode cL_law_ 564 = .ok (.iconst 1, 1) := by decide +kernel
theorem dL_law__565 : decode cL_law_ 565 = .ok (.iadd, 1) := by decide +kernel
theorem dL_law__566 : decode cL_law_ 566 = .ok (.iaload, 1) := by decide +kernel
theorem dL_law__567 : decode cL_law_ 567 = .ok (.aload_n 0, 1) := by decide +kernel
theorem dL_law__568 : decode cL_law_ 568 = .ok (.iload 5, 2) := by decide +kernel
theorem dL_law__570 : decode cL_law_ 570 = .ok (.iconst 2, 1) := by decide +kernel
theorem dL_law__571 : decode cL_law_ 571 = .ok (.iadd, 1) := by decide +kernel
theorem dL_law__572 : decode cL_law_ 572 = .ok (.iaload, 1) := by decide +kernel
theorem dL_law__573 : decode cL_law_ 573 = .ok (.i2d, 1) := by decide +kernel
theorem dL_law__574 : decode cL_law_ 574 = .ok (.ldc2_w 87, 3) := by decide +kernel
theorem dL_law__577 : decode cL_law_ 577 = .ok (.dmul, 1) := by decide +kernel
theorem dL_law__578 : decode cL_law_ 578 = .ok (.aload_n 0, 1) := by decide +kernel
theorem dL_law__579 : decode cL_law_ 579 = .ok (.iload 5, 2) := by decide +kernel
theorem dL_law__581 : decode cL_law_ 581 = .ok (.iconst 3, 1) := by decide +kernel
theorem dL_law__582 : decode cL_law_ 582 = .ok (.iadd, 1) := by decide +kernel
theorem dL_law__583 : decode cL_law_ 583 = .ok (.iaload, 1) := by decide +kernel
theorem dL_law__584 : decode cL_law_ 584 = .ok (.i2d, 1) := by decide +kernel
theorem dL_law__585 : decode cL_law_ 585 = .ok (.ldc2_w 87, 3) := by decide +kernel
theorem dL_law__588 : decode cL_law_ 588 = .ok (.dmul, 1) := by decide +kernel
theorem dL_law__589 : decode cL_law_ 589 = .ok (.aload_n 3, 1) := by decide +kernel
theorem dL_law__590 : decode cL_law_ 590 = .ok (.invokestatic 116, 3) := by decide +kernel
theorem dL_law__593 : decode cL_law_ 593 = .ok (.istore 6, 2) := by decide +kernel
theorem dL_law__595 : decode cL_law_ 595 = .ok (.aload_n 2, 1) := by decide +kernel
theorem dL_law__596 : decode cL_law_ 596 = .ok (.aload_n 0, 1) := by decide +kernel
theorem dL_law__597 : decode cL_law_ 597 = .ok (.iload 5, 2) := by decide +kernel
theorem dL_law__599 : decode cL_law_ 599 = .ok (.iconst 1, 1) := by decide +kernel
theorem dL_law__600 : decode cL_law_ 600 = .ok (.iadd, 1) := by decide +kernel
theorem dL_law__601 : decode cL_law_ 601 = .ok (.iaload, 1) := by decide +kernel
theorem dL_law__602 : decode cL_law_ 602 = .ok (.aload_n 0, 1) := by decide +kernel
theorem dL_law__603 : decode cL_law_ 603 = .ok (.iload 5, 2) := by decide +kernel
theorem dL_law__605 : decode cL_law_ 605 = .ok (.iconst 2, 1) := by decide +kernel
theorem dL_law__606 : decode cL_law_ 606 = .ok (.iadd, 1) := by decide +kernel
theorem dL_law__607 : decode cL_law_ 607 = .ok (.iaload, 1) := by decide +kernel
theorem dL_law__608 : decode cL_law_ 608 = .ok (.i2d, 1) := by decide +kernel
theorem dL_law__609 : decode cL_law_ 609 = .ok (.ldc2_w 87, 3) := by decide +kernel
theorem dL_law__612 : decode cL_law_ 612 = .ok (.dmul, 1) := by decide +kernel
theorem dL_law__613 : decode cL_law_ 613 = .ok (.aload_n 0, 1) := by decide +kernel
theorem dL_law__614 : decode cL_law_ 614 = .ok (.iload 5, 2) := by decide +kernel
theorem dL_law__616 : decode cL_law_ 616 = .ok (.iconst 3, 1) := by decide +kernel
theorem dL_law__617 : decode cL_law_ 617 = .ok (.iadd, 1) := by decide +kernel
theorem dL_law__618 : decode cL_law_ 618 = .ok (.iaload, 1) := by decide +kernel
theorem dL_law__619 : decode cL_law_ 619 = .ok (.i2d, 1) := by decide +kernel
theorem dL_law__620 : decode cL_law_ 620 = .ok (.ldc2_w 87, 3) := by decide +kernel
theorem dL_law__623 : decode cL_law_ 623 = .ok (.dmul, 1) := by decide +kernel
theorem dL_law__624 : decode cL_law_ 624 = .ok (.invokevirtual 119, 3) := by decide +kernel
theorem dL_law__627 : decode cL_law_ 627 = .ok (.istore 7, 2) := by decide +kernel
theorem dL_law__629 : decode cL_law_ 629 = .ok (.aload_n 2, 1) := by decide +kernel
theorem dL_law__630 : decode cL_law_ 630 = .ok (.invokevirtual 93, 3) := by decide +kernel
theorem dL_law__633 : decode cL_law_ 633 = .ok (.iload 6, 2) := by decide +kernel
theorem dL_law__635 : decode cL_law_ 635 = .ok (.if_icmp .eq 5, 3) := by decide +kernel
theorem dL_law__638 : decode cL_law_ 638 = .ok (.iconst 0, 1) := by decide +kernel
theorem dL_law__639 : decode cL_law_ 639 = .ok (.ireturn, 1) := by decide +kernel
theorem dL_law__640 : decode cL_law_ 640 = .ok (.iload 6, 2) := by decide +kernel
theorem dL_law__642 : decode cL_law_ 642 = .ok (.ifCond .ne 22, 3) := by decide +kernel
theorem dL_law__645 : decode cL_law_ 645 = .ok (.aload_n 3, 1) := by decide +kernel
theorem dL_law__646 : decode cL_law_ 646 = .ok (.iconst 0, 1) := by decide +kernel
theorem dL_law__647 : decode cL_law_ 647 = .ok (.laload, 1) := by decide +kernel
theorem dL_law__648 : decode cL_law_ 648 = .ok (.iload 7, 2) := by decide +kernel
theorem dL_law__650 : decode cL_law_ 650 = .ok (.ifCond .eq 7, 3) := by decide +kernel
theorem dL_law__653 : decode cL_law_ 653 = .ok (.lconst 1, 1) := by decide +kernel
theorem dL_law__654 : decode cL_law_ 654 = .ok (.goto 4, 3) := by decide +kernel
theorem dL_law__657 : decode cL_law_ 657 = .ok (.lconst 0, 1) := by decide +kernel
theorem dL_law__658 : decode cL_law_ 658 = .ok (.lcmp, 1) := by decide +kernel
theorem dL_law__659 : decode cL_law_ 659 = .ok (.ifCond .eq 5, 3) := by decide +kernel
theorem dL_law__662 : decode cL_law_ 662 = .ok (.iconst 0, 1) := by decide +kernel
theorem dL_law__663 : decode cL_law_ 663 = .ok (.ireturn, 1) := by decide +kernel
theorem dL_law__664 : decode cL_law_ 664 = .ok (.goto 710, 3) := by decide +kernel
theorem dL_law__667 : decode cL_law_ 667 = .ok (.aload_n 1, 1) := by decide +kernel
theorem dL_law__668 : decode cL_law_ 668 = .ok (.aload_n 0, 1) := by decide +kernel
theorem dL_law__669 : decode cL_law_ 669 = .ok (.iload 5, 2) := by decide +kernel
theorem dL_law__671 : decode cL_law_ 671 = .ok (.iconst 1, 1) := by decide +kernel
theorem dL_law__672 : decode cL_law_ 672 = .ok (.iadd, 1) := by decide +kernel
theorem dL_law__673 : decode cL_law_ 673 = .ok (.iaload, 1) := by decide +kernel
theorem dL_law__674 : decode cL_law_ 674 = .ok (.aload_n 3, 1) := by decide +kernel
theorem dL_law__675 : decode cL_law_ 675 = .ok (.invokestatic 120, 3) := by decide +kernel
theorem dL_law__678 : decode cL_law_ 678 = .ok (.istore 6, 2) := by decide +kernel
theorem dL_law__680 : decode cL_law_ 680 = .ok (.aload_n 2, 1) := by decide +kernel
theorem dL_law__681 : decode cL_law_ 681 = .ok (.aload_n 0, 1) := by decide +kernel
theorem dL_law__682 : decode cL_law_ 682 = .ok (.iload 5, 2) := by decide +kernel
theorem dL_law__684 : decode cL_law_ 684 = .ok (.iconst 1, 1) := by decide +kernel
theorem dL_law__685 : decode cL_law_ 685 = .ok (.iadd, 1) := by decide +kernel
theorem dL_law__686 : decode cL_law_ 686 = .ok (.iaload, 1) := by decide +kernel
theorem dL_law__687 : decode cL_law_ 687 = .ok (.invokevirtual 122, 3) := by decide +kernel
theorem dL_law__690 : decode cL_law_ 690 = .ok (.istore 7, 2) := by decide +kernel
theorem dL_law__692 : decode cL_law_ 692 = .ok (.aload_n 2, 1) := by decide +kernel
theorem dL_law__693 : decode cL_law_ 693 = .ok (.invokevirtual 93, 3) := by decide +kernel
theorem dL_law__696 : decode cL_law_ 696 = .ok (.iload 6, 2) := by decide +kernel
theorem dL_law__698 : decode cL_law_ 698 = .ok (.if_icmp .eq 5, 3) := by decide +kernel
theorem dL_law__701 : decode cL_law_ 701 = .ok (.iconst 0, 1) := by decide +kernel
theorem dL_law__702 : decode cL_law_ 702 = .ok (.ireturn, 1) := by decide +kernel
theorem dL_law__703 : decode cL_law_ 703 = .ok (.iload 6, 2) := by decide +kernel
theorem dL_law__705 : decode cL_law_ 705 = .ok (.ifCond .ne 15, 3) := by decide +kernel
theorem dL_law__708 : decode cL_law_ 708 = .ok (.aload_n 3, 1) := by decide +kernel
theorem dL_law__709 : decode cL_law_ 709 = .ok (.iconst 0, 1) := by decide +kernel
theorem dL_law__710 : decode cL_law_ 710 = .ok (.laload, 1) := by decide +kernel
theorem dL_law__711 : decode cL_law_ 711 = .ok (.iload 7, 2) := by decide +kernel
theorem dL_law__713 : decode cL_law_ 713 = .ok (.i2l, 1) := by decide +kernel
theorem dL_law__714 : decode cL_law_ 714 = .ok (.lcmp, 1) := by decide +kernel
theorem dL_law__715 : decode cL_law_ 715 = .ok (.ifCond .eq 5, 3) := by decide +kernel
theorem dL_law__718 : decode cL_law_ 718 = .ok (.iconst 0, 1) := by decide +kernel
theorem dL_law__719 : decode cL_law_ 719 = .ok (.ireturn, 1) := by decide +kernel
theorem dL_law__720 : decode cL_law_ 720 = .ok (.goto 654, 3) := by decide +kernel
theorem dL_law__723 : decode cL_law_ 723 = .ok (.aload_n 1, 1) := by decide +kernel
theorem dL_law__724 : decode cL_law_ 724 = .ok (.aload 4, 2) := by decide +kernel
theorem dL_law__726 : decode cL_law_ 726 = .ok (.invokestatic 123, 3) := by decide +kernel
theorem dL_law__729 : decode cL_law_ 729 = .ok (.istore 6, 2) := by decide +kernel
theorem dL_law__731 : decode cL_law_ 731 = .ok (.aload_n 2, 1) := by decide +kernel
theorem dL_law__732 : decode cL_law_ 732 = .ok (.invokevirtual 126, 3) := by decide +kernel
theorem dL_law__735 : decode cL_law_ 735 = .ok (.dstore 7, 2) := by decide +kernel
theorem dL_law__737 : decode cL_law_ 737 = .ok (.aload_n 2, 1) := by decide +kernel
theorem dL_law__738 : decode cL_law_ 738 = .ok (.invokevirtual 93, 3) := by decide +kernel
theorem dL_law__741 : decode cL_law_ 741 = .ok (.iload 6, 2) := by decide +kernel
theorem dL_law__743 : decode cL_law_ 743 = .ok (.if_icmp .eq 5, 3) := by decide +kernel
theorem dL_law__746 : decode cL_law_ 746 = .ok (.iconst 0, 1) := by decide +kernel
theorem dL_law__747 : decode cL_law_ 747 = .ok (.ireturn, 1) := by decide +kernel
theorem dL_law__748 : decode cL_law_ 748 = .ok (.iload 6, 2) := by decide +kernel
theorem dL_law__750 : decode cL_law_ 750 = .ok (.ifCond .ne 35, 3) := by decide +kernel
theorem dL_law__753 : decode cL_law_ 753 = .ok (.aload 4, 2) := by decide +kernel
theorem dL_law__755 : decode cL_law_ 755 = .ok (.iconst 0, 1) := by decide +kernel
theorem dL_law__756 : decode cL_law_ 756 = .ok (.daload, 1) := by decide +kernel
theorem dL_law__757 : decode cL_law_ 757 = .ok (.dload 7, 2) := by decide +kernel
theorem dL_law__759 : decode cL_law_ 759 = .ok (.dcmp .l, 1) := by decide +kernel
theorem dL_law__760 : decode cL_law_ 760 = .ok (.ifCond .eq 25, 3) := by decide +kernel
theorem dL_law__763 : decode cL_law_ 763 = .ok (.aload 4, 2) := by decide +kernel
theorem dL_law__765 : decode cL_law_ 765 = .ok (.iconst 0, 1) := by decide +kernel
theorem dL_law__766 : decode cL_law_ 766 = .ok (.daload, 1) := by decide +kernel
theorem dL_law__767 : decode cL_law_ 767 = .ok (.aload 4, 2) := by decide +kernel
theorem dL_law__769 : decode cL_law_ 769 = .ok (.iconst 0, 1) := by decide +kernel
theorem dL_law__770 : decode cL_law_ 770 = .ok (.daload, 1) := by decide +kernel
theorem dL_law__771 : decode cL_law_ 771 = .ok (.dcmp .l, 1) := by decide +kernel
theorem dL_law__772 : decode cL_law_ 772 = .ok (.ifCond .eq 11, 3) := by decide +kernel
theorem dL_law__775 : decode cL_law_ 775 = .ok (.dload 7, 2) := by decide +kernel
theorem dL_law__777 : decode cL_law_ 777 = .ok (.dload 7, 2) := by decide +kernel
theorem dL_law__779 : decode cL_law_ 779 = .ok (.dcmp .l, 1) := by decide +kernel
theorem dL_law__780 : decode cL_law_ 780 = .ok (.ifCond .ne 5, 3) := by decide +kernel
theorem dL_law__783 : decode cL_law_ 783 = .ok (.iconst 0, 1) := by decide +kernel
theorem dL_law__784 : decode cL_law_ 784 = .ok (.ireturn, 1) := by decide +kernel
theorem dL_law__785 : decode cL_law_ 785 = .ok (.goto 589, 3) := by decide +kernel
theorem dL_law__788 : decode cL_law_ 788 = .ok (.aload_n 1, 1) := by decide +kernel
theorem dL_law__789 : decode cL_law_ 789 = .ok (.aload 4, 2) := by decide +kernel
theorem dL_law__791 : decode cL_law_ 791 = .ok (.invokestatic 127, 3) := by decide +kernel
theorem dL_law__794 : decode cL_law_ 794 = .ok (.istore 6, 2) := by decide +kernel
theorem dL_law__796 : decode cL_law_ 796 = .ok (.aload_n 2, 1) := by decide +kernel
theorem dL_law__797 : decode cL_law_ 797 = .ok (.invokevirtual 129, 3) := by decide +kernel
theorem dL_law__800 : decode cL_law_ 800 = .ok (.dstore 7, 2) := by decide +kernel
theorem dL_law__802 : decode cL_law_ 802 = .ok (.aload_n 2, 1) := by decide +kernel
theorem dL_law__803 : decode cL_law_ 803 = .ok (.invokevirtual 93, 3) := by decide +kernel
theorem dL_law__806 : decode cL_law_ 806 = .ok (.iload 6, 2) := by decide +kernel
theorem dL_law__808 : decode cL_law_ 808 = .ok (.if_icmp .eq 5, 3) := by decide +kernel
theorem dL_law__811 : decode cL_law_ 811 = .ok (.iconst 0, 1) := by decide +kernel
theorem dL_law__812 : decode cL_law_ 812 = .ok (.ireturn, 1) := by decide +kernel
theorem dL_law__813 : decode cL_law_ 813 = .ok (.iload 6, 2) := by decide +kernel
theorem dL_law__815 : decode cL_law_ 815 = .ok (.ifCond .ne 35, 3) := by decide +kernel
theorem dL_law__818 : decode cL_law_ 818 = .ok (.aload 4, 2) := by decide +kernel
theorem dL_law__820 : decode cL_law_ 820 = .ok (.iconst 0, 1) := by decide +kernel
theorem dL_law__821 : decode cL_law_ 821 = .ok (.daload, 1) := by decide +kernel
theorem dL_law__822 : decode cL_law_ 822 = .ok (.dload 7, 2) := by decide +kernel
theorem dL_law__824 : decode cL_law_ 824 = .ok (.dcmp .l, 1) := by decide +kernel
theorem dL_law__825 : decode cL_law_ 825 = .ok (.ifCond .eq 25, 3) := by decide +kernel
theorem dL_law__828 : decode cL_law_ 828 = .ok (.aload 4, 2) := by decide +kernel
theorem dL_law__830 : decode cL_law_ 830 = .ok (.iconst 0, 1) := by decide +kernel
theorem dL_law__831 : decode cL_law_ 831 = .ok (.daload, 1) := by decide +kernel
theorem dL_law__832 : decode cL_law_ 832 = .ok (.aload 4, 2) := by decide +kernel
theorem dL_law__834 : decode cL_law_ 834 = .ok (.iconst 0, 1) := by decide +kernel
theorem dL_law__835 : decode cL_law_ 835 = .ok (.daload, 1) := by decide +kernel
theorem dL_law__836 : decode cL_law_ 836 = .ok (.dcmp .l, 1) := by decide +kernel
theorem dL_law__837 : decode cL_law_ 837 = .ok (.ifCond .eq 11, 3) := by decide +kernel
theorem dL_law__840 : decode cL_law_ 840 = .ok (.dload 7, 2) := by decide +kernel
theorem dL_law__842 : decode cL_law_ 842 = .ok (.dload 7, 2) := by decide +kernel
theorem dL_law__844 : decode cL_law_ 844 = .ok (.dcmp .l, 1) := by decide +kernel
theorem dL_law__845 : decode cL_law_ 845 = .ok (.ifCond .ne 5, 3) := by decide +kernel
theorem dL_law__848 : decode cL_law_ 848 = .ok (.iconst 0, 1) := by decide +kernel
theorem dL_law__849 : decode cL_law_ 849 = .ok (.ireturn, 1) := by decide +kernel
theorem dL_law__850 : decode cL_law_ 850 = .ok (.goto 524, 3) := by decide +kernel
theorem dL_law__853 : decode cL_law_ 853 = .ok (.aload_n 1, 1) := by decide +kernel
theorem dL_law__854 : decode cL_law_ 854 = .ok (.aload 4, 2) := by decide +kernel
theorem dL_law__856 : decode cL_law_ 856 = .ok (.invokestatic 130, 3) := by decide +kernel
theorem dL_law__859 : decode cL_law_ 859 = .ok (.istore 6, 2) := by decide +kernel
theorem dL_law__861 : decode cL_law_ 861 = .ok (.aload_n 2, 1) := by decide +kernel
theorem dL_law__862 : decode cL_law_ 862 = .ok (.invokevirtual 132, 3) := by decide +kernel
theorem dL_law__865 : decode cL_law_ 865 = .ok (.dstore 7, 2) := by decide +kernel
theorem dL_law__867 : decode cL_law_ 867 = .ok (.aload_n 2, 1) := by decide +kernel
theorem dL_law__868 : decode cL_law_ 868 = .ok (.invokevirtual 93, 3) := by decide +kernel
theorem dL_law__871 : decode cL_law_ 871 = .ok (.iload 6, 2) := by decide +kernel
theorem dL_law__873 : decode cL_law_ 873 = .ok (.if_icmp .eq 5, 3) := by decide +kernel
theorem dL_law__876 : decode cL_law_ 876 = .ok (.iconst 0, 1) := by decide +kernel
theorem dL_law__877 : decode cL_law_ 877 = .ok (.ireturn, 1) := by decide +kernel
theorem dL_law__878 : decode cL_law_ 878 = .ok (.iload 6, 2) := by decide +kernel
theorem dL_law__880 : decode cL_law_ 880 = .ok (.ifCond .ne 35, 3) := by decide +kernel
theorem dL_law__883 : decode cL_law_ 883 = .ok (.aload 4, 2) := by decide +kernel
theorem dL_law__885 : decode cL_law_ 885 = .ok (.iconst 0, 1) := by decide +kernel
theorem dL_law__886 : decode cL_law_ 886 = .ok (.daload, 1) := by decide +kernel
theorem dL_law__887 : decode cL_law_ 887 = .ok (.dload 7, 2) := by decide +kernel
theorem dL_law__889 : decode cL_law_ 889 = .ok (.dcmp .l, 1) := by decide +kernel
theorem dL_law__890 : decode cL_law_ 890 = .ok (.ifCond .eq 25, 3) := by decide +kernel
theorem dL_law__893 : decode cL_law_ 893 = .ok (.aload 4, 2) := by decide +kernel
theorem dL_law__895 : decode cL_law_ 895 = .ok (.iconst 0, 1) := by decide +kernel
theorem dL_law__896 : decode cL_law_ 896 = .ok (.daload, 1) := by decide +kernel
theorem dL_law__897 : decode cL_law_ 897 = .ok (.aload 4, 2) := by decide +kernel
theorem dL_law__899 : decode cL_law_ 899 = .ok (.iconst 0, 1) := by decide +kernel
theorem dL_law__900 : decode cL_law_ 900 = .ok (.daload, 1) := by decide +kernel
theorem dL_law__901 : decode cL_law_ 901 = .ok (.dcmp .l, 1) := by decide +kernel
theorem dL_law__902 : decode cL_law_ 902 = .ok (.ifCond .eq 11, 3) := by decide +kernel
theorem dL_law__905 : decode cL_law_ 905 = .ok (.dload 7, 2) := by decide +kernel
theorem dL_law__907 : decode cL_law_ 907 = .ok (.dload 7, 2) := by decide +kernel
theorem dL_law__909 : decode cL_law_ 909 = .ok (.dcmp .l, 1) := by decide +kernel
theorem dL_law__910 : decode cL_law_ 910 = .ok (.ifCond .ne 5, 3) := by decide +kernel
theorem dL_law__913 : decode cL_law_ 913 = .ok (.iconst 0, 1) := by decide +kernel
theorem dL_law__914 : decode cL_law_ 914 = .ok (.ireturn, 1) := by decide +kernel
theorem dL_law__915 : decode cL_law_ 915 = .ok (.goto 459, 3) := by decide +kernel
theorem dL_law__918 : decode cL_law_ 918 = .ok (.aload_n 1, 1) := by decide +kernel
theorem dL_law__919 : decode cL_law_ 919 = .ok (.aload_n 0, 1) := by decide +kernel
theorem dL_law__920 : decode cL_law_ 920 = .ok (.iload 5, 2) := by decide +kernel
theorem dL_law__922 : decode cL_law_ 922 = .ok (.iconst 1, 1) := by decide +kernel
theorem dL_law__923 : decode cL_law_ 923 = .ok (.iadd, 1) := by decide +kernel
theorem dL_law__924 : decode cL_law_ 924 = .ok (.iaload, 1) := by decide +kernel
theorem dL_law__925 : decode cL_law_ 925 = .ok (.aload_n 0, 1) := by decide +kernel
theorem dL_law__926 : decode cL_law_ 926 = .ok (.iload 5, 2) := by decide +kernel
theorem dL_law__928 : decode cL_law_ 928 = .ok (.iconst 2, 1) := by decide +kernel
theorem dL_law__929 : decode cL_law_ 929 = .ok (.iadd, 1) := by decide +kernel
theorem dL_law__930 : decode cL_law_ 930 = .ok (.iaload, 1) := by decide +kernel
theorem dL_law__931 : decode cL_law_ 931 = .ok (.i2d, 1) := by decide +kernel
theorem dL_law__932 : decode cL_law_ 932 = .ok (.ldc2_w 87, 3) := by decide +kernel
theorem dL_law__935 : decode cL_law_ 935 = .ok (.dmul, 1) := by decide +kernel
theorem dL_law__936 : decode cL_law_ 936 = .ok (.aload_n 0, 1) := by decide +kernel
theorem dL_law__937 : decode cL_law_ 937 = .ok (.iload 5, 2) := by decide +kernel
theorem dL_law__939 : decode cL_law_ 939 = .ok (.iconst 3, 1) := by decide +kernel
theorem dL_law__940 : decode cL_law_ 940 = .ok (.iadd, 1) := by decide +kernel
theorem dL_law__941 : decode cL_law_ 941 = .ok (.iaload, 1) := by decide +kernel
theorem dL_law__942 : decode cL_law_ 942 = .ok (.aload_n 3, 1) := by decide +kernel
theorem dL_law__943 : decode cL_law_ 943 = .ok (.invokestatic 133, 3) := by decide +kernel
theorem dL_law__946 : decode cL_law_ 946 = .ok (.istore 6, 2) := by decide +kernel
theorem dL_law__948 : decode cL_law_ 948 = .ok (.aload_n 2, 1) := by decide +kernel
theorem dL_law__949 : decode cL_law_ 949 = .ok (.aload_n 0, 1) := by decide +kernel
theorem dL_law__950 : decode cL_law_ 950 = .ok (.iload 5, 2) := by decide +kernel
theorem dL_law__952 : decode cL_law_ 952 = .ok (.iconst 1, 1) := by decide +kernel
theorem dL_law__953 : decode cL_law_ 953 = .ok (.iadd, 1) := by decide +kernel
theorem dL_law__954 : decode cL_law_ 954 = .ok (.iaload, 1) := by decide +kernel
theorem dL_law__955 : decode cL_law_ 955 = .ok (.aload_n 0, 1) := by decide +kernel
theorem dL_law__956 : decode cL_law_ 956 = .ok (.iload 5, 2) := by decide +kernel
theorem dL_law__958 : decode cL_law_ 958 = .ok (.iconst 2, 1) := by decide +kernel
theorem dL_law__959 : decode cL_law_ 959 = .ok (.iadd, 1) := by decide +kernel
theorem dL_law__960 : decode cL_law_ 960 = .ok (.iaload, 1) := by decide +kernel
theorem dL_law__961 : decode cL_law_ 961 = .ok (.i2d, 1) := by decide +kernel
theorem dL_law__962 : decode cL_law_ 962 = .ok (.ldc2_w 87, 3) := by decide +kernel
theorem dL_law__965 : decode cL_law_ 965 = .ok (.dmul, 1) := by decide +kernel
theorem dL_law__966 : decode cL_law_ 966 = .ok (.aload_n 0, 1) := by decide +kernel
theorem dL_law__967 : decode cL_law_ 967 = .ok (.iload 5, 2) := by decide +kernel
theorem dL_law__969 : decode cL_law_ 969 = .ok (.iconst 3, 1) := by decide +kernel
theorem dL_law__970 : decode cL_law_ 970 = .ok (.iadd, 1) := by decide +kernel
theorem dL_law__971 : decode cL_law_ 971 = .ok (.iaload, 1) := by decide +kernel
theorem dL_law__972 : decode cL_law_ 972 = .ok (.invokevirtual 136, 3) := by decide +kernel
theorem dL_law__975 : decode cL_law_ 975 = .ok (.istore 7, 2) := by decide +kernel
theorem dL_law__977 : decode cL_law_ 977 = .ok (.aload_n 2, 1) := by decide +kernel
theorem dL_law__978 : decode cL_law_ 978 = .ok (.invokevirtual 93, 3) := by decide +kernel
theorem dL_law__981 : decode cL_law_ 981 = .ok (.iload 6, 2) := by decide +kernel
theorem dL_law__983 : decode cL_law_ 983 = .ok (.if_icmp .eq 5, 3) := by decide +kernel
theorem dL_law__986 : decode cL_law_ 986 = .ok (.iconst 0, 1) := by decide +kernel
theorem dL_law__987 : decode cL_law_ 987 = .ok (.ireturn, 1) := by decide +kernel
theorem dL_law__988 : decode cL_law_ 988 = .ok (.iload 6, 2) := by decide +kernel
theorem dL_law__990 : decode cL_law_ 990 = .ok (.ifCond .ne 15, 3) := by decide +kernel
theorem dL_law__993 : decode cL_law_ 993 = .ok (.aload_n 3, 1) := by decide +kernel
theorem dL_law__994 : decode cL_law_ 994 = .ok (.iconst 0, 1) := by decide +kernel
theorem dL_law__995 : decode cL_law_ 995 = .ok (.laload, 1) := by decide +kernel
theorem dL_law__996 : decode cL_law_ 996 = .ok (.iload 7, 2) := by decide +kernel
theorem dL_law__998 : decode cL_law_ 998 = .ok (.i2l, 1) := by decide +kernel
theorem dL_law__999 : decode cL_law_ 999 = .ok (.lcmp, 1) := by decide +kernel
theorem dL_law__1000 : decode cL_law_ 1000 = .ok (.ifCond .eq 5, 3) := by decide +kernel
theorem dL_law__1003 : decode cL_law_ 1003 = .ok (.iconst 0, 1) := by decide +kernel
theorem dL_law__1004 : decode cL_law_ 1004 = .ok (.ireturn, 1) := by decide +kernel
theorem dL_law__1005 : decode cL_law_ 1005 = .ok (.goto 369, 3) := by decide +kernel
theorem dL_law__1008 : decode cL_law_ 1008 = .ok (.aload_n 1, 1) := by decide +kernel
theorem dL_law__1009 : decode cL_law_ 1009 = .ok (.aload_n 3, 1) := by decide +kernel
theorem dL_law__1010 : decode cL_law_ 1010 = .ok (.invokestatic 137, 3) := by decide +kernel
theorem dL_law__1013 : decode cL_law_ 1013 = .ok (.istore 6, 2) := by decide +kernel
theorem dL_law__1015 : decode cL_law_ 1015 = .ok (.aload_n 2, 1) := by decide +kernel
theorem dL_law__1016 : decode cL_law_ 1016 = .ok (.invokevirtual 140, 3) := by decide +kernel
theorem dL_law__1019 : decode cL_law_ 1019 = .ok (.istore 7, 2) := by decide +kernel
theorem dL_law__1021 : decode cL_law_ 1021 = .ok (.aload_n 2, 1) := by decide +kernel
theorem dL_law__1022 : decode cL_law_ 1022 = .ok (.invokevirtual 93, 3) := by decide +kernel
theorem dL_law__1025 : decode cL_law_ 1025 = .ok (.iload 6, 2) := by decide +kernel
theorem dL_law__1027 : decode cL_law_ 1027 = .ok (.if_icmp .eq 5, 3) := by decide +kernel
theorem dL_law__1030 : decode cL_law_ 1030 = .ok (.iconst 0, 1) := by decide +kernel
theorem dL_law__1031 : decode cL_law_ 1031 = .ok (.ireturn, 1) := by decide +kernel
theorem dL_law__1032 : decode cL_law_ 1032 = .ok (.iload 6, 2) := by decide +kernel
theorem dL_law__1034 : decode cL_law_ 1034 = .ok (.ifCond .ne 15, 3) := by decide +kernel
theorem dL_law__1037 : decode cL_law_ 1037 = .ok (.aload_n 3, 1) := by decide +kernel
theorem dL_law__1038 : decode cL_law_ 1038 = .ok (.iconst 0, 1) := by decide +kernel
theorem dL_law__1039 : decode cL_law_ 1039 = .ok (.laload, 1) := by decide +kernel
theorem dL_law__1040 : decode cL_law_ 1040 = .ok (.iload 7, 2) := by decide +kernel
theorem dL_law__1042 : decode cL_law_ 1042 = .ok (.i2l, 1) := by decide +kernel
theorem dL_law__1043 : decode cL_law_ 1043 = .ok (.lcmp, 1) := by decide +kernel
theorem dL_law__1044 : decode cL_law_ 1044 = .ok (.ifCond .eq 5, 3) := by decide +kernel
theorem dL_law__1047 : decode cL_law_ 1047 = .ok (.iconst 0, 1) := by decide +kernel
theorem dL_law__1048 : decode cL_law_ 1048 = .ok (.ireturn, 1) := by decide +kernel
theorem dL_law__1049 : decode cL_law_ 1049 = .ok (.goto 325, 3) := by decide +kernel
theorem dL_law__1052 : decode cL_law_ 1052 = .ok (.aload_n 1, 1) := by decide +kernel
theorem dL_law__1053 : decode cL_law_ 1053 = .ok (.invokestatic 141, 3) := by decide +kernel
theorem dL_law__1056 : decode cL_law_ 1056 = .ok (.istore 6, 2) := by decide +kernel
theorem dL_law__1058 : decode cL_law_ 1058 = .ok (.aload_n 2, 1) := by decide +kernel
theorem dL_law__1059 : decode cL_law_ 1059 = .ok (.invokevirtual 144, 3) := by decide +kernel
theorem dL_law__1062 : decode cL_law_ 1062 = .ok (.aload_n 2, 1) := by decide +kernel
theorem dL_law__1063 : decode cL_law_ 1063 = .ok (.invokevirtual 93, 3) := by decide +kernel
theorem dL_law__1066 : decode cL_law_ 1066 = .ok (.iload 6, 2) := by decide +kernel
theorem dL_law__1068 : decode cL_law_ 1068 = .ok (.if_icmp .eq 5, 3) := by decide +kernel
theorem dL_law__1071 : decode cL_law_ 1071 = .ok (.iconst 0, 1) := by decide +kernel
theorem dL_law__1072 : decode cL_law_ 1072 = .ok (.ireturn, 1) := by decide +kernel
theorem dL_law__1073 : decode cL_law_ 1073 = .ok (.goto 301, 3) := by decide +kernel
theorem dL_law__1076 : decode cL_law_ 1076 = .ok (.aload_n 1, 1) := by decide +kernel
theorem dL_law__1077 : decode cL_law_ 1077 = .ok (.aload_n 0, 1) := by decide +kernel
theorem dL_law__1078 : decode cL_law_ 1078 = .ok (.iload 5, 2) := by decide +kernel
theorem dL_law__1080 : decode cL_law_ 1080 = .ok (.iconst 1, 1) := by decide +kernel
theorem dL_law__1081 : decode cL_law_ 1081 = .ok (.iadd, 1) := by decide +kernel
theorem dL_law__1082 : decode cL_law_ 1082 = .ok (.iaload, 1) := by decide +kernel
theorem dL_law__1083 : decode cL_law_ 1083 = .ok (.aload 4, 2) := by decide +kernel
theorem dL_law__1085 : decode cL_law_ 1085 = .ok (.invokestatic 145, 3) := by decide +kernel
theorem dL_law__1088 : decode cL_law_ 1088 = .ok (.istore 6, 2) := by decide +kernel
theorem dL_law__1090 : decode cL_law_ 1090 = .ok (.aload_n 2, 1) := by decide +kernel
theorem dL_law__1091 : decode cL_law_ 1091 = .ok (.aload_n 0, 1) := by decide +kernel
theorem dL_law__1092 : decode cL_law_ 1092 = .ok (.iload 5, 2) := by decide +kernel
theorem dL_law__1094 : decode cL_law_ 1094 = .ok (.iconst 1, 1) := by decide +kernel
theorem dL_law__1095 : decode cL_law_ 1095 = .ok (.iadd, 1) := by decide +kernel
theorem dL_law__1096 : decode cL_law_ 1096 = .ok (.iaload, 1) := by decide +kernel
theorem dL_law__1097 : decode cL_law_ 1097 = .ok (.invokevirtual 148, 3) := by decide +kernel
theorem dL_law__1100 : decode cL_law_ 1100 = .ok (.dstore 7, 2) := by decide +kernel
theorem dL_law__1102 : decode cL_law_ 1102 = .ok (.aload_n 2, 1) := by decide +kernel
theorem dL_law__1103 : decode cL_law_ 1103 = .ok (.invokevirtual 93, 3) := by decide +kernel
theorem dL_law__1106 : decode cL_law_ 1106 = .ok (.iload 6, 2) := by decide +kernel
theorem dL_law__1108 : decode cL_law_ 1108 = .ok (.if_icmp .eq 5, 3) := by decide +kernel
theorem dL_law__1111 : decode cL_law_ 1111 = .ok (.iconst 0, 1) := by decide +kernel
theorem dL_law__1112 : decode cL_law_ 1112 = .ok (.ireturn, 1) := by decide +kernel
theorem dL_law__1113 : decode cL_law_ 1113 = .ok (.iload 6, 2) := by decide +kernel
theorem dL_law__1115 : decode cL_law_ 1115 = .ok (.ifCond .ne 35, 3) := by decide +kernel
theorem dL_law__1118 : decode cL_law_ 1118 = .ok (.aload 4, 2) := by decide +kernel
theorem dL_law__1120 : decode cL_law_ 1120 = .ok (.iconst 0, 1) := by decide +kernel
theorem dL_law__1121 : decode cL_law_ 1121 = .ok (.daload, 1) := by decide +kernel
theorem dL_law__1122 : decode cL_law_ 1122 = .ok (.dload 7, 2) := by decide +kernel
theorem dL_law__1124 : decode cL_law_ 1124 = .ok (.dcmp .l, 1) := by decide +kernel
theorem dL_law__1125 : decode cL_law_ 1125 = .ok (.ifCond .eq 25, 3) := by decide +kernel
theorem dL_law__1128 : decode cL_law_ 1128 = .ok (.aload 4, 2) := by decide +kernel
theorem dL_law__1130 : decode cL_law_ 1130 = .ok (.iconst 0, 1) := by decide +kernel
theorem dL_law__1131 : decode cL_law_ 1131 = .ok (.daload, 1) := by decide +kernel
theorem dL_law__1132 : decode cL_law_ 1132 = .ok (.aload 4, 2) := by decide +kernel
theorem dL_law__1134 : decode cL_law_ 1134 = .ok (.iconst 0, 1) := by decide +kernel
theorem dL_law__1135 : decode cL_law_ 1135 = .ok (.daload, 1) := by decide +kernel
theorem dL_law__1136 : decode cL_law_ 1136 = .ok (.dcmp .l, 1) := by decide +kernel
theorem dL_law__1137 : decode cL_law_ 1137 = .ok (.ifCond .eq 11, 3) := by decide +kernel
theorem dL_law__1140 : decode cL_law_ 1140 = .ok (.dload 7, 2) := by decide +kernel
theorem dL_law__1142 : decode cL_law_ 1142 = .ok (.dload 7, 2) := by decide +kernel
theorem dL_law__1144 : decode cL_law_ 1144 = .ok (.dcmp .l, 1) := by decide +kernel
theorem dL_law__1145 : decode cL_law_ 1145 = .ok (.ifCond .ne 5, 3) := by decide +kernel
theorem dL_law__1148 : decode cL_law_ 1148 = .ok (.iconst 0, 1) := by decide +kernel
theorem dL_law__1149 : decode cL_law_ 1149 = .ok (.ireturn, 1) := by decide +kernel
theorem dL_law__1150 : decode cL_law_ 1150 = .ok (.goto 224, 3) := by decide +kernel
theorem dL_law__1153 : decode cL_law_ 1153 = .ok (.aload_n 1, 1) := by decide +kernel
theorem dL_law__1154 : decode cL_law_ 1154 = .ok (.aload_n 3, 1) := by decide +kernel
theorem dL_law__1155 : decode cL_law_ 1155 = .ok (.invokestatic 149, 3) := by decide +kernel
theorem dL_law__1158 : decode cL_law_ 1158 = .ok (.istore 6, 2) := by decide +kernel
theorem dL_law__1160 : decode cL_law_ 1160 = .ok (.aload_n 2, 1) := by decide +kernel
theorem dL_law__1161 : decode cL_law_ 1161 = .ok (.invokevirtual 151, 3) := by decide +kernel
theorem dL_law__1164 : decode cL_law_ 1164 = .ok (.istore 7, 2) := by decide +kernel
theorem dL_law__1166 : decode cL_law_ 1166 = .ok (.aload_n 2, 1) := by decide +kernel
theorem dL_law__1167 : decode cL_law_ 1167 = .ok (.invokevirtual 93, 3) := by decide +kernel
theorem dL_law__1170 : decode cL_law_ 1170 = .ok (.iload 6, 2) := by decide +kernel
theorem dL_law__1172 : decode cL_law_ 1172 = .ok (.if_icmp .eq 5, 3) := by decide +kernel
theorem dL_law__1175 : decode cL_law_ 1175 = .ok (.iconst 0, 1) := by decide +kernel
theorem dL_law__1176 : decode cL_law_ 1176 = .ok (.ireturn, 1) := by decide +kernel
theorem dL_law__1177 : decode cL_law_ 1177 = .ok (.iload 6, 2) := by decide +kernel
theorem dL_law__1179 : decode cL_law_ 1179 = .ok (.ifCond .ne 15, 3) := by decide +kernel
theorem dL_law__1182 : decode cL_law_ 1182 = .ok (.aload_n 3, 1) := by decide +kernel
theorem dL_law__1183 : decode cL_law_ 1183 = .ok (.iconst 0, 1) := by decide +kernel
theorem dL_law__1184 : decode cL_law_ 1184 = .ok (.laload, 1) := by decide +kernel
theorem dL_law__1185 : decode cL_law_ 1185 = .ok (.iload 7, 2) := by decide +kernel
theorem dL_law__1187 : decode cL_law_ 1187 = .ok (.i2l, 1) := by decide +kernel
theorem dL_law__1188 : decode cL_law_ 1188 = .ok (.lcmp, 1) := by decide +kernel
theorem dL_law__1189 : decode cL_law_ 1189 = .ok (.ifCond .eq 5, 3) := by decide +kernel
theorem dL_law__1192 : decode cL_law_ 1192 = .ok (.iconst 0, 1) := by decide +kernel
theorem dL_law__1193 : decode cL_law_ 1193 = .ok (.ireturn, 1) := by decide +kernel
theorem dL_law__1194 : decode cL_law_ 1194 = .ok (.goto 180, 3) := by decide +kernel
theorem dL_law__1197 : decode cL_law_ 1197 = .ok (.aload_n 1, 1) := by decide +kernel
theorem dL_law__1198 : decode cL_law_ 1198 = .ok (.aload_n 0, 1) := by decide +kernel
theorem dL_law__1199 : decode cL_law_ 1199 = .ok (.iload 5, 2) := by decide +kernel
theorem dL_law__1201 : decode cL_law_ 1201 = .ok (.iconst 1, 1) := by decide +kernel
theorem dL_law__1202 : decode cL_law_ 1202 = .ok (.iadd, 1) := by decide +kernel
theorem dL_law__1203 : decode cL_law_ 1203 = .ok (.iaload, 1) := by decide +kernel
theorem dL_law__1204 : decode cL_law_ 1204 = .ok (.i2l, 1) := by decide +kernel
theorem dL_law__1205 : decode cL_law_ 1205 = .ok (.bipush 32, 2) := by decide +kernel
theorem dL_law__1207 : decode cL_law_ 1207 = .ok (.lshl, 1) := by decide +kernel
theorem dL_law__1208 : decode cL_law_ 1208 = .ok (.aload_n 0, 1) := by decide +kernel
theorem dL_law__1209 : decode cL_law_ 1209 = .ok (.iload 5, 2) := by decide +kernel
theorem dL_law__1211 : decode cL_law_ 1211 = .ok (.iconst 2, 1) := by decide +kernel
theorem dL_law__1212 : decode cL_law_ 1212 = .ok (.iadd, 1) := by decide +kernel
theorem dL_law__1213 : decode cL_law_ 1213 = .ok (.iaload, 1) := by decide +kernel
theorem dL_law__1214 : decode cL_law_ 1214 = .ok (.i2l, 1) := by decide +kernel
theorem dL_law__1215 : decode cL_law_ 1215 = .ok (.ldc2_w 152, 3) := by decide +kernel
theorem dL_law__1218 : decode cL_law_ 1218 = .ok (.land, 1) := by decide +kernel
theorem dL_law__1219 : decode cL_law_ 1219 = .ok (.lor, 1) := by decide +kernel
theorem dL_law__1220 : decode cL_law_ 1220 = .ok (.aload_n 0, 1) := by decide +kernel
theorem dL_law__1221 : decode cL_law_ 1221 = .ok (.iload 5, 2) := by decide +kernel
theorem dL_law__1223 : decode cL_law_ 1223 = .ok (.iconst 3, 1) := by decide +kernel
theorem dL_law__1224 : decode cL_law_ 1224 = .ok (.iadd, 1) := by decide +kernel
theorem dL_law__1225 : decode cL_law_ 1225 = .ok (.iaload, 1) := by decide +kernel
theorem dL_law__1226 : decode cL_law_ 1226 = .ok (.i2l, 1) := by decide +kernel
theorem dL_law__1227 : decode cL_law_ 1227 = .ok (.bipush 32, 2) := by decide +kernel
theorem dL_law__1229 : decode cL_law_ 1229 = .ok (.lshl, 1) := by decide +kernel
theorem dL_law__1230 : decode cL_law_ 1230 = .ok (.aload_n 0, 1) := by decide +kernel
theorem dL_law__1231 : decode cL_law_ 1231 = .ok (.iload 5, 2) := by decide +kernel
theorem dL_law__1233 : decode cL_law_ 1233 = .ok (.iconst 4, 1) := by decide +kernel
theorem dL_law__1234 : decode cL_law_ 1234 = .ok (.iadd, 1) := by decide +kernel
theorem dL_law__1235 : decode cL_law_ 1235 = .ok (.iaload, 1) := by decide +kernel
theorem dL_law__1236 : decode cL_law_ 1236 = .ok (.i2l, 1) := by decide +kernel
theorem dL_law__1237 : decode cL_law_ 1237 = .ok (.ldc2_w 152, 3) := by decide +kernel
theorem dL_law__1240 : decode cL_law_ 1240 = .ok (.land, 1) := by decide +kernel
theorem dL_law__1241 : decode cL_law_ 1241 = .ok (.lor, 1) := by decide +kernel
theorem dL_law__1242 : decode cL_law_ 1242 = .ok (.aload_n 0, 1) := by decide +kernel
theorem dL_law__1243 : decode cL_law_ 1243 = .ok (.iload 5, 2) := by decide +kernel
theorem dL_law__1245 : decode cL_law_ 1245 = .ok (.iconst 5, 1) := by decide +kernel
theorem dL_law__1246 : decode cL_law_ 1246 = .ok (.iadd, 1) := by decide +kernel
theorem dL_law__1247 : decode cL_law_ 1247 = .ok (.iaload, 1) := by decide +kernel
theorem dL_law__1248 : decode cL_law_ 1248 = .ok (.i2l, 1) := by decide +kernel
theorem dL_law__1249 : decode cL_law_ 1249 = .ok (.bipush 32, 2) := by decide +kernel
theorem dL_law__1251 : decode cL_law_ 1251 = .ok (.lshl, 1) := by decide +kernel
theorem dL_law__1252 : decode cL_law_ 1252 = .ok (.aload_n 0, 1) := by decide +kernel
theorem dL_law__1253 : decode cL_law_ 1253 = .ok (.iload 5, 2) := by decide +kernel
theorem dL_law__1255 : decode cL_law_ 1255 = .ok (.bipush 6, 2) := by decide +kernel
theorem dL_law__1257 : decode cL_law_ 1257 = .ok (.iadd, 1) := by decide +kernel
theorem dL_law__1258 : decode cL_law_ 1258 = .ok (.iaload, 1) := by decide +kernel
theorem dL_law__1259 : decode cL_law_ 1259 = .ok (.i2l, 1) := by decide +kernel
theorem dL_law__1260 : decode cL_law_ 1260 = .ok (.ldc2_w 152, 3) := by decide +kernel
theorem dL_law__1263 : decode cL_law_ 1263 = .ok (.land, 1) := by decide +kernel
theorem dL_law__1264 : decode cL_law_ 1264 = .ok (.lor, 1) := by decide +kernel
theorem dL_law__1265 : decode cL_law_ 1265 = .ok (.aload_n 3, 1) := by decide +kernel
theorem dL_law__1266 : decode cL_law_ 1266 = .ok (.invokestatic 154, 3) := by decide +kernel
theorem dL_law__1269 : decode cL_law_ 1269 = .ok (.istore 6, 2) := by decide +kernel
theorem dL_law__1271 : decode cL_law_ 1271 = .ok (.aload_n 2, 1) := by decide +kernel
theorem dL_law__1272 : decode cL_law_ 1272 = .ok (.aload_n 0, 1) := by decide +kernel
theorem dL_law__1273 : decode cL_law_ 1273 = .ok (.iload 5, 2) := by decide +kernel
theorem dL_law__1275 : decode cL_law_ 1275 = .ok (.iconst 1, 1) := by decide +kernel
theorem dL_law__1276 : decode cL_law_ 1276 = .ok (.iadd, 1) := by decide +kernel
theorem dL_law__1277 : decode cL_law_ 1277 = .ok (.iaload, 1) := by decide +kernel
theorem dL_law__1278 : decode cL_law_ 1278 = .ok (.i2l, 1) := by decide +kernel
theorem dL_law__1279 : decode cL_law_ 1279 = .ok (.bipush 32, 2) := by decide +kernel
theorem dL_law__1281 : decode cL_law_ 1281 = .ok (.lshl, 1) := by decide +kernel
theorem dL_law__1282 : decode cL_law_ 1282 = .ok (.aload_n 0, 1) := by decide +kernel
theorem dL_law__1283 : decode cL_law_ 1283 = .ok (.iload 5, 2) := by decide +kernel
theorem dL_law__1285 : decode cL_law_ 1285 = .ok (.iconst 2, 1) := by decide +kernel
theorem dL_law__1286 : decode cL_law_ 1286 = .ok (.iadd, 1) := by decide +kernel
theorem dL_law__1287 : decode cL_law_ 1287 = .ok (.iaload, 1) := by decide +kernel
theorem dL_law__1288 : decode cL_law_ 1288 = .ok (.i2l, 1) := by decide +kernel
theorem dL_law__1289 : decode cL_law_ 1289 = .ok (.ldc2_w 152, 3) := by decide +kernel
theorem dL_law__1292 : decode cL_law_ 1292 = .ok (.land, 1) := by decide +kernel
theorem dL_law__1293 : decode cL_law_ 1293 = .ok (.lor, 1) := by decide +kernel
theorem dL_law__1294 : decode cL_law_ 1294 = .ok (.aload_n 0, 1) := by decide +kernel
theorem dL_law__1295 : decode cL_law_ 1295 = .ok (.iload 5, 2) := by decide +kernel
theorem dL_law__1297 : decode cL_law_ 1297 = .ok (.iconst 3, 1) := by decide +kernel
theorem dL_law__1298 : decode cL_law_ 1298 = .ok (.iadd, 1) := by decide +kernel
theorem dL_law__1299 : decode cL_law_ 1299 = .ok (.iaload, 1) := by decide +kernel
theorem dL_law__1300 : decode cL_law_ 1300 = .ok (.i2l, 1) := by decide +kernel
theorem dL_law__1301 : decode cL_law_ 1301 = .ok (.bipush 32, 2) := by decide +kernel
theorem dL_law__1303 : decode cL_law_ 1303 = .ok (.lshl, 1) := by decide +kernel
theorem dL_law__1304 : decode cL_law_ 1304 = .ok (.aload_n 0, 1) := by decide +kernel
theorem dL_law__1305 : decode cL_law_ 1305 = .ok (.iload 5, 2) := by decide +kernel
theorem dL_law__1307 : decode cL_law_ 1307 = .ok (.iconst 4, 1) := by decide +kernel
theorem dL_law__1308 : decode cL_law_ 1308 = .ok (.iadd, 1) := by decide +kernel
theorem dL_law__1309 : decode cL_law_ 1309 = .ok (.iaload, 1) := by decide +kernel
theorem dL_law__1310 : decode cL_law_ 1310 = .ok (.i2l, 1) := by decide +kernel
theorem dL_law__1311 : decode cL_law_ 1311 = .ok (.ldc2_w 152, 3) := by decide +kernel
theorem dL_law__1314 : decode cL_law_ 1314 = .ok (.land, 1) := by decide +kernel
theorem dL_law__1315 : decode cL_law_ 1315 = .ok (.lor, 1) := by decide +kernel
theorem dL_law__1316 : decode cL_law_ 1316 = .ok (.aload_n 0, 1) := by decide +kernel
theorem dL_law__1317 : decode cL_law_ 1317 = .ok (.iload 5, 2) := by decide +kernel
theorem dL_law__1319 : decode cL_law_ 1319 = .ok (.iconst 5, 1) := by decide +kernel
theorem dL_law__1320 : decode cL_law_ 1320 = .ok (.iadd, 1) := by decide +kernel
theorem dL_law__1321 : decode cL_law_ 1321 = .ok (.iaload, 1) := by decide +kernel
theorem dL_law__1322 : decode cL_law_ 1322 = .ok (.i2l, 1) := by decide +kernel
theorem dL_law__1323 : decode cL_law_ 1323 = .ok (.bipush 32, 2) := by decide +kernel
theorem dL_law__1325 : decode cL_law_ 1325 = .ok (.lshl, 1) := by decide +kernel
theorem dL_law__1326 : decode cL_law_ 1326 = .ok (.aload_n 0, 1) := by decide +kernel
theorem dL_law__1327 : decode cL_law_ 1327 = .ok (.iload 5, 2) := by decide +kernel
theorem dL_law__1329 : decode cL_law_ 1329 = .ok (.bipush 6, 2) := by decide +kernel
theorem dL_law__1331 : decode cL_law_ 1331 = .ok (.iadd, 1) := by decide +kernel
theorem dL_law__1332 : decode cL_law_ 1332 = .ok (.iaload, 1) := by decide +kernel
theorem dL_law__1333 : decode cL_law_ 1333 = .ok (.i2l, 1) := by decide +kernel
theorem dL_law__1334 : decode cL_law_ 1334 = .ok (.ldc2_w 152, 3) := by decide +kernel
theorem dL_law__1337 : decode cL_law_ 1337 = .ok (.land, 1) := by decide +kernel
theorem dL_law__1338 : decode cL_law_ 1338 = .ok (.lor, 1) := by decide +kernel
theorem dL_law__1339 : decode cL_law_ 1339 = .ok (.invokevirtual 157, 3) := by decide +kernel
theorem dL_law__1342 : decode cL_law_ 1342 = .ok (.lstore 7, 2) := by decide +kernel
theorem dL_law__1344 : decode cL_law_ 1344 = .ok (.aload_n 2, 1) := by decide +kernel
theorem dL_law__1345 : decode cL_law_ 1345 = .ok (.invokevirtual 93, 3) := by decide +kernel
theorem dL_law__1348 : decode cL_law_ 1348 = .ok (.iload 6, 2) := by decide +kernel
theorem dL_law__1350 : decode cL_law_ 1350 = .ok (.if_icmp .eq 5, 3) := by decide +kernel
theorem dL_law__1353 : decode cL_law_ 1353 = .ok (.iconst 0, 1) := by decide +kernel
theorem dL_law__1354 : decode cL_law_ 1354 = .ok (.ireturn, 1) := by decide +kernel
theorem dL_law__1355 : decode cL_law_ 1355 = .ok (.iload 6, 2) := by decide +kernel
theorem dL_law__1357 : decode cL_law_ 1357 = .ok (.ifCond .ne 14, 3) := by decide +kernel
theorem dL_law__1360 : decode cL_law_ 1360 = .ok (.aload_n 3, 1) := by decide +kernel
theorem dL_law__1361 : decode cL_law_ 1361 = .ok (.iconst 0, 1) := by decide +kernel
theorem dL_law__1362 : decode cL_law_ 1362 = .ok (.laload, 1) := by decide +kernel
theorem dL_law__1363 : decode cL_law_ 1363 = .ok (.lload 7, 2) := by decide +kernel
theorem dL_law__1365 : decode cL_law_ 1365 = .ok (.lcmp, 1) := by decide +kernel
theorem dL_law__1366 : decode cL_law_ 1366 = .ok (.ifCond .eq 5, 3) := by decide +kernel
theorem dL_law__1369 : decode cL_law_ 1369 = .ok (.iconst 0, 1) := by decide +kernel
theorem dL_law__1370 : decode cL_law_ 1370 = .ok (.ireturn, 1) := by decide +kernel
theorem dL_law__1371 : decode cL_law_ 1371 = .ok (.goto 3, 3) := by decide +kernel
theorem dL_law__1374 : decode cL_law_ 1374 = .ok (.iinc 5 7, 3) := by decide +kernel
theorem dL_law__1377 : decode cL_law_ 1377 = .ok (.goto (-1329), 3) := by decide +kernel
theorem dL_law__1380 : decode cL_law_ 1380 = .ok (.iconst 1, 1) := by decide +kernel
theorem dL_law__1381 : decode cL_law_ 1381 = .ok (.ireturn, 1) := by decide +kernel
