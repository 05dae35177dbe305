theorem dX5_init_0 : decode cX5_init 0 = .ok (.aload_n 0, 1) := by decide +kernel
theorem dX5_init_1 : decode cX5_init 1 = .ok (.invokespecial 1, 3) := by decide +kernel
theorem dX5_init_4 : decode cX5_init 4 = .ok (.aload_n 0, 1) := by decide +kernel
theorem dX5_init_5 : decode cX5_init 5 = .ok (.bipush 8, 2) := by decide +kernel
theorem dX5_init_7 : decode cX5_init 7 = .ok (.newarray .double, 2) := by decide +kernel
theorem dX5_init_9 : decode cX5_init 9 = .ok (.dup, 1) := by decide +kernel
theorem dX5_init_10 : decode cX5_init 10 = .ok (.iconst 0, 1) := by decide +kernel
theorem dX5_init_11 : decode cX5_init 11 = .ok (.dconst 1, 1) := by decide +kernel
theorem dX5_init_12 : decode cX5_init 12 = .ok (.dastore, 1) := by decide +kernel
theorem dX5_init_13 : decode cX5_init 13 = .ok (.dup, 1) := by decide +kernel
theorem dX5_init_14 : decode cX5_init 14 = .ok (.iconst 1, 1) := by decide +kernel
theorem dX5_init_15 : decode cX5_init 15 = .ok (.dconst 1, 1) := by decide +kernel
theorem dX5_init_16 : decode cX5_init 16 = .ok (.dastore, 1) := by decide +kernel
theorem dX5_init_17 : decode cX5_init 17 = .ok (.dup, 1) := by decide +kernel
theorem dX5_init_18 : decode cX5_init 18 = .ok (.iconst 2, 1) := by decide +kernel
theorem dX5_init_19 : decode cX5_init 19 = .ok (.dconst 1, 1) := by decide +kernel
theorem dX5_init_20 : decode cX5_init 20 = .ok (.dastore, 1) := by decide +kernel
theorem dX5_init_21 : decode cX5_init 21 = .ok (.dup, 1) := by decide +kernel
theorem dX5_init_22 : decode cX5_init 22 = .ok (.iconst 3, 1) := by decide +kernel
theorem dX5_init_23 : decode cX5_init 23 = .ok (.dconst 1, 1) := by decide +kernel
theorem dX5_init_24 : decode cX5_init 24 = .ok (.dastore, 1) := by decide +kernel
theorem dX5_init_25 : decode cX5_init 25 = .ok (.dup, 1) := by decide +kernel
theorem dX5_init_26 : decode cX5_init 26 = .ok (.iconst 4, 1) := by decide +kernel
theorem dX5_init_27 : decode cX5_init 27 = .ok (.dconst 1, 1) := by decide +kernel
theorem dX5_init_28 : decode cX5_init 28 = .ok (.dastore, 1) := by decide +kernel
theorem dX5_init_29 : decode cX5_init 29 = .ok (.dup, 1) := by decide +kernel
theorem dX5_init_30 : decode cX5_init 30 = .ok (.iconst 5, 1) := by decide +kernel
theorem dX5_init_31 : decode cX5_init 31 = .ok (.dconst 1, 1) := by decide +kernel
theorem dX5_init_32 : decode cX5_init 32 = .ok (.dastore, 1) := by decide +kernel
theorem dX5_init_33 : decode cX5_init 33 = .ok (.dup, 1) := by decide +kernel
theorem dX5_init_34 : decode cX5_init 34 = .ok (.bipush 6, 2) := by decide +kernel
theorem dX5_init_36 : decode cX5_init 36 = .ok (.dconst 1, 1) := by decide +kernel
theorem dX5_init_37 : decode cX5_init 37 = .ok (.dastore, 1) := by decide +kernel
theorem dX5_init_38 : decode cX5_init 38 = .ok (.dup, 1) := by decide +kernel
theorem dX5_init_39 : decode cX5_init 39 = .ok (.bipush 7, 2) := by decide +kernel
theorem dX5_init_41 : decode cX5_init 41 = .ok (.dconst 1, 1) := by decide +kernel
theorem dX5_init_42 : decode cX5_init 42 = .ok (.dastore, 1) := by decide +kernel
theorem dX5_init_43 : decode cX5_init 43 = .ok (.putfield 7, 3) := by decide +kernel
theorem dX5_init_46 : decode cX5_init 46 = .ok (.aload_n 0, 1) := by decide +kernel
theorem dX5_init_47 : decode cX5_init 47 = .ok (.bipush 8, 2) := by decide +kernel
theorem dX5_init_49 : decode cX5_init 49 = .ok (.newarray .double, 2) := by decide +kernel
theorem dX5_init_51 : decode cX5_init 51 = .ok (.putfield 13, 3) := by decide +kernel
theorem dX5_init_54 : decode cX5_init 54 = .ok (.aload_n 0, 1) := by decide +kernel
theorem dX5_init_55 : decode cX5_init 55 = .ok (.sipush 128, 3) := by decide +kernel
theorem dX5_init_58 : decode cX5_init 58 = .ok (.newarray .boolean, 2) := by decide +kernel
theorem dX5_init_60 : decode cX5_init 60 = .ok (.putfield 16, 3) := by decide +kernel
theorem dX5_init_63 : decode cX5_init 63 = .ok (.aload_n 0, 1) := by decide +kernel
theorem dX5_init_64 : decode cX5_init 64 = .ok (.sipush 128, 3) := by decide +kernel
theorem dX5_init_67 : decode cX5_init 67 = .ok (.newarray .double, 2) := by decide +kernel
theorem dX5_init_69 : decode cX5_init 69 = .ok (.putfield 20, 3) := by decide +kernel
theorem dX5_init_72 : decode cX5_init 72 = .ok (.aload_n 0, 1) := by decide +kernel
theorem dX5_init_73 : decode cX5_init 73 = .ok (.sipush 128, 3) := by decide +kernel
theorem dX5_init_76 : decode cX5_init 76 = .ok (.newarray .double, 2) := by decide +kernel
theorem dX5_init_78 : decode cX5_init 78 = .ok (.putfield 23, 3) := by decide +kernel
theorem dX5_init_81 : decode cX5_init 81 = .ok (.aload_n 0, 1) := by decide +kernel
theorem dX5_init_82 : decode cX5_init 82 = .ok (.bipush 16, 2) := by decide +kernel
theorem dX5_init_84 : decode cX5_init 84 = .ok (.newarray .boolean, 2) := by decide +kernel
theorem dX5_init_86 : decode cX5_init 86 = .ok (.putfield 26, 3) := by decide +kernel
theorem dX5_init_89 : decode cX5_init 89 = .ok (.aload_n 0, 1) := by decide +kernel
theorem dX5_init_90 : decode cX5_init 90 = .ok (.bipush 64, 2) := by decide +kernel
theorem dX5_init_92 : decode cX5_init 92 = .ok (.newarray .double, 2) := by decide +kernel
theorem dX5_init_94 : decode cX5_init 94 = .ok (.putfield 29, 3) := by decide +kernel
theorem dX5_init_97 : decode cX5_init 97 = .ok (.aload_n 0, 1) := by decide +kernel
theorem dX5_init_98 : decode cX5_init 98 = .ok (.bipush 6, 2) := by decide +kernel
theorem dX5_init_100 : decode cX5_init 100 = .ok (.newarray .int, 2) := by decide +kernel
theorem dX5_init_102 : decode cX5_init 102 = .ok (.putfield 32, 3) := by decide +kernel
theorem dX5_init_105 : decode cX5_init 105 = .ok (.aload_n 0, 1) := by decide +kernel
theorem dX5_init_106 : decode cX5_init 106 = .ok (.bipush 6, 2) := by decide +kernel
theorem dX5_init_108 : decode cX5_init 108 = .ok (.newarray .double, 2) := by decide +kernel
theorem dX5_init_110 : decode cX5_init 110 = .ok (.putfield 36, 3) := by decide +kernel
theorem dX5_init_113 : decode cX5_init 113 = .ok (.aload_n 0, 1) := by decide +kernel
theorem dX5_init_114 : decode cX5_init 114 = .ok (.bipush 6, 2) := by decide +kernel
theorem dX5_init_116 : decode cX5_init 116 = .ok (.newarray .int, 2) := by decide +kernel
theorem dX5_init_118 : decode cX5_init 118 = .ok (.putfield 39, 3) := by decide +kernel
theorem dX5_init_121 : decode cX5_init 121 = .ok (.aload_n 0, 1) := by decide +kernel
theorem dX5_init_122 : decode cX5_init 122 = .ok (.bipush 16, 2) := by decide +kernel
theorem dX5_init_124 : decode cX5_init 124 = .ok (.newarray .double, 2) := by decide +kernel
theorem dX5_init_126 : decode cX5_init 126 = .ok (.putfield 42, 3) := by decide +kernel
theorem dX5_init_129 : decode cX5_init 129 = .ok (.aload_n 0, 1) := by decide +kernel
theorem dX5_init_130 : decode cX5_init 130 = .ok (.bipush 16, 2) := by decide +kernel
theorem dX5_init_132 : decode cX5_init 132 = .ok (.newarray .double, 2) := by decide +kernel
theorem dX5_init_134 : decode cX5_init 134 = .ok (.putfield 45, 3) := by decide +kernel
theorem dX5_init_137 : decode cX5_init 137 = .ok (.aload_n 0, 1) := by decide +kernel
theorem dX5_init_138 : decode cX5_init 138 = .ok (.iload_n 1, 1) := by decide +kernel
theorem dX5_init_139 : decode cX5_init 139 = .ok (.iconst 1, 1) := by decide +kernel
theorem dX5_init_140 : decode cX5_init 140 = .ok (.if_icmp .ge 7, 3) := by decide +kernel
theorem dX5_init_143 : decode cX5_init 143 = .ok (.iconst 1, 1) := by decide +kernel
theorem dX5_init_144 : decode cX5_init 144 = .ok (.goto 15, 3) := by decide +kernel
theorem dX5_init_147 : decode cX5_init 147 = .ok (.iload_n 1, 1) := by decide +kernel
theorem dX5_init_148 : decode cX5_init 148 = .ok (.bipush 16, 2) := by decide +kernel
theorem dX5_init_150 : decode cX5_init 150 = .ok (.if_icmp .le 8, 3) := by decide +kernel
theorem dX5_init_153 : decode cX5_init 153 = .ok (.bipush 16, 2) := by decide +kernel
theorem dX5_init_155 : decode cX5_init 155 = .ok (.goto 4, 3) := by decide +kernel
theorem dX5_init_158 : decode cX5_init 158 = .ok (.iload_n 1, 1) := by decide +kernel
theorem dX5_init_159 : decode cX5_init 159 = .ok (.putfield 48, 3) := by decide +kernel
theorem dX5_init_162 : decode cX5_init 162 = .ok (.aload_n 0, 1) := by decide +kernel
theorem dX5_init_163 : decode cX5_init 163 = .ok (.iload_n 2, 1) := by decide +kernel
theorem dX5_init_164 : decode cX5_init 164 = .ok (.iconst 1, 1) := by decide +kernel
theorem dX5_init_165 : decode cX5_init 165 = .ok (.if_icmp .ge 7, 3) := by decide +kernel
theorem dX5_init_168 : decode cX5_init 168 = .ok (.iconst 1, 1) := by decide +kernel
theorem dX5_init_169 : decode cX5_init 169 = .ok (.goto 15, 3) := by decide +kernel
theorem dX5_init_172 : decode cX5_init 172 = .ok (.iload_n 2, 1) := by decide +kernel
theorem dX5_init_173 : decode cX5_init 173 = .ok (.bipush 8, 2) := by decide +kernel
theorem dX5_init_175 : decode cX5_init 175 = .ok (.if_icmp .le 8, 3) := by decide +kernel
theorem dX5_init_178 : decode cX5_init 178 = .ok (.bipush 8, 2) := by decide +kernel
theorem dX5_init_180 : decode cX5_init 180 = .ok (.goto 4, 3) := by decide +kernel
theorem dX5_init_183 : decode cX5_init 183 = .ok (.iload_n 2, 1) := by decide +kernel
theorem dX5_init_184 : decode cX5_init 184 = .ok (.putfield 52, 3) := by decide +kernel
theorem dX5_init_187 : decode cX5_init 187 = .ok (.return_, 1) := by decide +kernel
theorem dX5_thrown_0 : decode cX5_thrown 0 = .ok (.aload_n 0, 1) := by decide +kernel
theorem dX5_thrown_1 : decode cX5_thrown 1 = .ok (.getfield 55, 3) := by decide +kernel
theorem dX5_thrown_4 : decode cX5_thrown 4 = .ok (.ireturn, 1) := by decide +kernel
theorem dX5_between_0 : decode cX5_between 0 = .ok (.dload_n 0, 1) := by decide +kernel
theorem dX5_between_1 : decode cX5_between 1 = .ok (.dload_n 2, 1) := by decide +kernel
theorem dX5_between_2 : decode cX5_between 2 = .ok (.dcmp .l, 1) := by decide +kernel
theorem dX5_between_3 : decode cX5_between 3 = .ok (.ifCond .lt 14, 3) := by decide +kernel
theorem dX5_between_6 : decode cX5_between 6 = .ok (.dload_n 0, 1) := by decide +kernel
theorem dX5_between_7 : decode cX5_between 7 = .ok (.dload 4, 2) := by decide +kernel
theorem dX5_between_9 : decode cX5_between 9 = .ok (.dcmp .g, 1) := by decide +kernel
theorem dX5_between_10 : decode cX5_between 10 = .ok (.ifCond .gt 7, 3) := by decide +kernel
theorem dX5_between_13 : decode cX5_between 13 = .ok (.iconst 1, 1) := by decide +kernel
theorem dX5_between_14 : decode cX5_between 14 = .ok (.goto 4, 3) := by decide +kernel
theorem dX5_between_17 : decode cX5_between 17 = .ok (.iconst 0, 1) := by decide +kernel
theorem dX5_between_18 : decode cX5_between 18 = .ok (.ireturn, 1) := by decide +kernel
theorem dX5_noSlice_0 : decode cX5_noSlice 0 = .ok (.iload_n 1, 1) := by decide +kernel
theorem dX5_noSlice_1 : decode cX5_noSlice 1 = .ok (.ifCond .lt 11, 3) := by decide +kernel
theorem dX5_noSlice_4 : decode cX5_noSlice 4 = .ok (.iload_n 1, 1) := by decide +kernel
theorem dX5_noSlice_5 : decode cX5_noSlice 5 = .ok (.aload_n 0, 1) := by decide +kernel
theorem dX5_noSlice_6 : decode cX5_noSlice 6 = .ok (.getfield 48, 3) := by decide +kernel
theorem dX5_noSlice_9 : decode cX5_noSlice 9 = .ok (.if_icmp .lt 7, 3) := by decide +kernel
theorem dX5_noSlice_12 : decode cX5_noSlice 12 = .ok (.iconst 1, 1) := by decide +kernel
theorem dX5_noSlice_13 : decode cX5_noSlice 13 = .ok (.goto 4, 3) := by decide +kernel
theorem dX5_noSlice_16 : decode cX5_noSlice 16 = .ok (.iconst 0, 1) := by decide +kernel
theorem dX5_noSlice_17 : decode cX5_noSlice 17 = .ok (.ireturn, 1) := by decide +kernel
theorem dX5_noView_0 : decode cX5_noView 0 = .ok (.iload_n 1, 1) := by decide +kernel
theorem dX5_noView_1 : decode cX5_noView 1 = .ok (.ifCond .lt 11, 3) := by decide +kernel
theorem dX5_noView_4 : decode cX5_noView 4 = .ok (.iload_n 1, 1) := by decide +kernel
theorem dX5_noView_5 : decode cX5_noView 5 = .ok (.aload_n 0, 1) := by decide +kernel
theorem dX5_noView_6 : decode cX5_noView 6 = .ok (.getfield 52, 3) := by decide +kernel
theorem dX5_noView_9 : decode cX5_noView 9 = .ok (.if_icmp .lt 7, 3) := by decide +kernel
theorem dX5_noView_12 : decode cX5_noView 12 = .ok (.iconst 1, 1) := by decide +kernel
theorem dX5_noView_13 : decode cX5_noView 13 = .ok (.goto 4, 3) := by decide +kernel
theorem dX5_noView_16 : decode cX5_noView 16 = .ok (.iconst 0, 1) := by decide +kernel
theorem dX5_noView_17 : decode cX5_noView 17 = .ok (.ireturn, 1) := by decide +kernel
set_option maxRecDepth 20000 in
theorem ggX5_aim_X5_noView : GoodIn wsX5_aim wsX5_noView := goodIn_r _ [11, 12, 16, 17, 18, 19, 20, 21, 22, 23, 24, 25, 26, 27, 28, 29, 30, 31, 32, 33, 34] (by decide +kernel) (by decide +kernel)
set_option maxRecDepth 20000 in
theorem gX5_aim_X5_noView : GoodIn wsX5_aim (wsV RX5 58 RX5 yX5_noView wsX5_noView) := goodIn_app (goodIn_of _ (by decide +kernel)) ggX5_aim_X5_noView
set_option maxRecDepth 20000 in
theorem ggX5_aim_X5_between : GoodIn wsX5_aim wsX5_between := goodIn_r _ [15] (by decide +kernel) (by decide +kernel)
set_option maxRecDepth 20000 in
theorem gX5_aim_X5_between : GoodIn wsX5_aim (va_wsS RX5 66 yX5_between wsX5_between) := goodIn_app (goodIn_of _ (by decide +kernel)) ggX5_aim_X5_between
theorem dX5_aim_0 : decode cX5_aim 0 = .ok (.aload_n 0, 1) := by decide +kernel
theorem dX5_aim_1 : decode cX5_aim 1 = .ok (.aload_n 0, 1) := by decide +kernel
theorem dX5_aim_2 : decode cX5_aim 2 = .ok (.iload_n 1, 1) := by decide +kernel
theorem dX5_aim_3 : decode cX5_aim 3 = .ok (.invokevirtual 58, 3) := by decide +kernel
theorem dX5_aim_6 : decode cX5_aim 6 = .ok (.ifCond .eq 7, 3) := by decide +kernel
theorem dX5_aim_9 : decode cX5_aim 9 = .ok (.iconst 1, 1) := by decide +kernel
theorem dX5_aim_10 : decode cX5_aim 10 = .ok (.goto 48, 3) := by decide +kernel
theorem dX5_aim_13 : decode cX5_aim 13 = .ok (.dload_n 2, 1) := by decide +kernel
theorem dX5_aim_14 : decode cX5_aim 14 = .ok (.ldc2_w 62, 3) := by decide +kernel
theorem dX5_aim_17 : decode cX5_aim 17 = .ok (.ldc2_w 64, 3) := by decide +kernel
theorem dX5_aim_20 : decode cX5_aim 20 = .ok (.invokestatic 66, 3) := by decide +kernel
theorem dX5_aim_23 : decode cX5_aim 23 = .ok (.ifCond .eq 30, 3) := by decide +kernel
theorem dX5_aim_26 : decode cX5_aim 26 = .ok (.dload 4, 2) := by decide +kernel
theorem dX5_aim_28 : decode cX5_aim 28 = .ok (.ldc2_w 62, 3) := by decide +kernel
theorem dX5_aim_31 : decode cX5_aim 31 = .ok (.ldc2_w 64, 3) := by decide +kernel
theorem dX5_aim_34 : decode cX5_aim 34 = .ok (.invokestatic 66, 3) := by decide +kernel
theorem dX5_aim_37 : decode cX5_aim 37 = .ok (.ifCond .eq 16, 3) := by decide +kernel
theorem dX5_aim_40 : decode cX5_aim 40 = .ok (.dload_n 2, 1) := by decide +kernel
theorem dX5_aim_41 : decode cX5_aim 41 = .ok (.dconst 0, 1) := by decide +kernel
theorem dX5_aim_42 : decode cX5_aim 42 = .ok (.dcmp .l, 1) := by decide +kernel
theorem dX5_aim_43 : decode cX5_aim 43 = .ok (.ifCond .ne 14, 3) := by decide +kernel
theorem dX5_aim_46 : decode cX5_aim 46 = .ok (.dload 4, 2) := by decide +kernel
theorem dX5_aim_48 : decode cX5_aim 48 = .ok (.dconst 0, 1) := by decide +kernel
theorem dX5_aim_49 : decode cX5_aim 49 = .ok (.dcmp .l, 1) := by decide +kernel
theorem dX5_aim_50 : decode cX5_aim 50 = .ok (.ifCond .ne 7, 3) := by decide +kernel
theorem dX5_aim_53 : decode cX5_aim 53 = .ok (.iconst 2, 1) := by decide +kernel
theorem dX5_aim_54 : decode cX5_aim 54 = .ok (.goto 4, 3) := by decide +kernel
theorem dX5_aim_57 : decode cX5_aim 57 = .ok (.iconst 0, 1) := by decide +kernel
theorem dX5_aim_58 : decode cX5_aim 58 = .ok (.putfield 55, 3) := by decide +kernel
theorem dX5_aim_61 : decode cX5_aim 61 = .ok (.aload_n 0, 1) := by decide +kernel
theorem dX5_aim_62 : decode cX5_aim 62 = .ok (.getfield 55, 3) := by decide +kernel
theorem dX5_aim_65 : decode cX5_aim 65 = .ok (.ifCond .ne 23, 3) := by decide +kernel
theorem dX5_aim_68 : decode cX5_aim 68 = .ok (.aload_n 0, 1) := by decide +kernel
theorem dX5_aim_69 : decode cX5_aim 69 = .ok (.getfield 7, 3) := by decide +kernel
theorem dX5_aim_72 : decode cX5_aim 72 = .ok (.iload_n 1, 1) := by decide +kernel
theorem dX5_aim_73 : decode cX5_aim 73 = .ok (.dload_n 2, 1) := by decide +kernel
theorem dX5_aim_74 : decode cX5_aim 74 = .ok (.dastore, 1) := by decide +kernel
theorem dX5_aim_75 : decode cX5_aim 75 = .ok (.aload_n 0, 1) := by decide +kernel
theorem dX5_aim_76 : decode cX5_aim 76 = .ok (.getfield 13, 3) := by decide +kernel
theorem dX5_aim_79 : decode cX5_aim 79 = .ok (.iload_n 1, 1) := by decide +kernel
theorem dX5_aim_80 : decode cX5_aim 80 = .ok (.dload 4, 2) := by decide +kernel
theorem dX5_aim_82 : decode cX5_aim 82 = .ok (.dastore, 1) := by decide +kernel
theorem dX5_aim_83 : decode cX5_aim 83 = .ok (.aload_n 0, 1) := by decide +kernel
theorem dX5_aim_84 : decode cX5_aim 84 = .ok (.iconst 0, 1) := by decide +kernel
theorem dX5_aim_85 : decode cX5_aim 85 = .ok (.putfield 70, 3) := by decide +kernel
theorem dX5_aim_88 : decode cX5_aim 88 = .ok (.return_, 1) := by decide +kernel
set_option maxRecDepth 20000 in
theorem ggX5_shadow_X5_noSlice : GoodIn wsX5_shadow wsX5_noSlice := goodIn_r _ [12, 13, 22, 23, 24, 25, 26, 27, 28, 29, 30, 31, 32, 33, 34, 35, 36, 37, 38, 39, 40] (by decide +kernel) (by decide +kernel)
set_option maxRecDepth 20000 in
theorem gX5_shadow_X5_noSlice : GoodIn wsX5_shadow (wsV RX5 74 RX5 yX5_noSlice wsX5_noSlice) := goodIn_app (goodIn_of _ (by decide +kernel)) ggX5_shadow_X5_noSlice
set_option maxRecDepth 20000 in
theorem ggX5_shadow_X5_noView : GoodIn wsX5_shadow wsX5_noView := goodIn_r _ [17, 18, 22, 23, 24, 25, 26, 27, 28, 29, 30, 31, 32, 33, 34, 35, 36, 37, 38, 39, 40] (by decide +kernel) (by decide +kernel)
set_option maxRecDepth 20000 in
theorem gX5_shadow_X5_noView : GoodIn wsX5_shadow (wsV RX5 58 RX5 yX5_noView wsX5_noView) := goodIn_app (goodIn_of _ (by decide +kernel)) ggX5_shadow_X5_noView
set_option maxRecDepth 20000 in
theorem ggX5_shadow_X5_between : GoodIn wsX5_shadow wsX5_between := goodIn_r _ [21] (by decide +kernel) (by decide +kernel)
set_option maxRecDepth 20000 in
theorem gX5_shadow_X5_between : GoodIn wsX5_shadow (va_wsS RX5 66 yX5_between wsX5_between) := goodIn_app (goodIn_of _ (by decide +kernel)) ggX5_shadow_X5_between
theorem dX5_shadow_0 : decode cX5_shadow 0 = .ok (.aload_n 0, 1) := by decide +kernel
theorem dX5_shadow_1 : decode cX5_shadow 1 = .ok (.aload_n 0, 1) := by decide +kernel
theorem dX5_shadow_2 : decode cX5_shadow 2 = .ok (.iload_n 1, 1) := by decide +kernel
theorem dX5_shadow_3 : decode cX5_shadow 3 = .ok (.invokevirtual 74, 3) := by decide +kernel
theorem dX5_shadow_6 : decode cX5_shadow 6 = .ok (.ifCond .ne 11, 3) := by decide +kernel
theorem dX5_shadow_9 : decode cX5_shadow 9 = .ok (.aload_n 0, 1) := by decide +kernel
theorem dX5_shadow_10 : decode cX5_shadow 10 = .ok (.iload_n 2, 1) := by decide +kernel
theorem dX5_shadow_11 : decode cX5_shadow 11 = .ok (.invokevirtual 58, 3) := by decide +kernel
theorem dX5_shadow_14 : decode cX5_shadow 14 = .ok (.ifCond .eq 7, 3) := by decide +kernel
theorem dX5_shadow_17 : decode cX5_shadow 17 = .ok (.iconst 1, 1) := by decide +kernel
theorem dX5_shadow_18 : decode cX5_shadow 18 = .ok (.goto 42, 3) := by decide +kernel
theorem dX5_shadow_21 : decode cX5_shadow 21 = .ok (.dload_n 3, 1) := by decide +kernel
theorem dX5_shadow_22 : decode cX5_shadow 22 = .ok (.ldc2_w 77, 3) := by decide +kernel
theorem dX5_shadow_25 : decode cX5_shadow 25 = .ok (.ldc2_w 79, 3) := by decide +kernel
theorem dX5_shadow_28 : decode cX5_shadow 28 = .ok (.invokestatic 66, 3) := by decide +kernel
theorem dX5_shadow_31 : decode cX5_shadow 31 = .ok (.ifCond .eq 24, 3) := by decide +kernel
theorem dX5_shadow_34 : decode cX5_shadow 34 = .ok (.dload 5, 2) := by decide +kernel
theorem dX5_shadow_36 : decode cX5_shadow 36 = .ok (.ldc2_w 77, 3) := by decide +kernel
theorem dX5_shadow_39 : decode cX5_shadow 39 = .ok (.ldc2_w 79, 3) := by decide +kernel
theorem dX5_shadow_42 : decode cX5_shadow 42 = .ok (.invokestatic 66, 3) := by decide +kernel
theorem dX5_shadow_45 : decode cX5_shadow 45 = .ok (.ifCond .eq 10, 3) := by decide +kernel
theorem dX5_shadow_48 : decode cX5_shadow 48 = .ok (.dload 5, 2) := by decide +kernel
theorem dX5_shadow_50 : decode cX5_shadow 50 = .ok (.dload_n 3, 1) := by decide +kernel
theorem dX5_shadow_51 : decode cX5_shadow 51 = .ok (.dcmp .g, 1) := by decide +kernel
theorem dX5_shadow_52 : decode cX5_shadow 52 = .ok (.ifCond .ge 7, 3) := by decide +kernel
theorem dX5_shadow_55 : decode cX5_shadow 55 = .ok (.iconst 2, 1) := by decide +kernel
theorem dX5_shadow_56 : decode cX5_shadow 56 = .ok (.goto 4, 3) := by decide +kernel
theorem dX5_shadow_59 : decode cX5_shadow 59 = .ok (.iconst 0, 1) := by decide +kernel
theorem dX5_shadow_60 : decode cX5_shadow 60 = .ok (.putfield 55, 3) := by decide +kernel
theorem dX5_shadow_63 : decode cX5_shadow 63 = .ok (.aload_n 0, 1) := by decide +kernel
theorem dX5_shadow_64 : decode cX5_shadow 64 = .ok (.getfield 55, 3) := by decide +kernel
theorem dX5_shadow_67 : decode cX5_shadow 67 = .ok (.ifCond .ne 45, 3) := by decide +kernel
theorem dX5_shadow_70 : decode cX5_shadow 70 = .ok (.aload_n 0, 1) := by decide +kernel
theorem dX5_shadow_71 : decode cX5_shadow 71 = .ok (.getfield 16, 3) := by decide +kernel
theorem dX5_shadow_74 : decode cX5_shadow 74 = .ok (.bipush 8, 2) := by decide +kernel
theorem dX5_shadow_76 : decode cX5_shadow 76 = .ok (.iload_n 1, 1) := by decide +kernel
theorem dX5_shadow_77 : decode cX5_shadow 77 = .ok (.imul, 1) := by decide +kernel
theorem dX5_shadow_78 : decode cX5_shadow 78 = .ok (.iload_n 2, 1) := by decide +kernel
theorem dX5_shadow_79 : decode cX5_shadow 79 = .ok (.iadd, 1) := by decide +kernel
theorem dX5_shadow_80 : decode cX5_shadow 80 = .ok (.iconst 1, 1) := by decide +kernel
theorem dX5_shadow_81 : decode cX5_shadow 81 = .ok (.bastore, 1) := by decide +kernel
theorem dX5_shadow_82 : decode cX5_shadow 82 = .ok (.aload_n 0, 1) := by decide +kernel
theorem dX5_shadow_83 : decode cX5_shadow 83 = .ok (.getfield 20, 3) := by decide +kernel
theorem dX5_shadow_86 : decode cX5_shadow 86 = .ok (.bipush 8, 2) := by decide +kernel
theorem dX5_shadow_88 : decode cX5_shadow 88 = .ok (.iload_n 1, 1) := by decide +kernel
theorem dX5_shadow_89 : decode cX5_shadow 89 = .ok (.imul, 1) := by decide +kernel
theorem dX5_shadow_90 : decode cX5_shadow 90 = .ok (.iload_n 2, 1) := by decide +kernel
theorem dX5_shadow_91 : decode cX5_shadow 91 = .ok (.iadd, 1) := by decide +kernel
theorem dX5_shadow_92 : decode cX5_shadow 92 = .ok (.dload_n 3, 1) := by decide +kernel
theorem dX5_shadow_93 : decode cX5_shadow 93 = .ok (.dastore, 1) := by decide +kernel
theorem dX5_shadow_94 : decode cX5_shadow 94 = .ok (.aload_n 0, 1) := by decide +kernel
theorem dX5_shadow_95 : decode cX5_shadow 95 = .ok (.getfield 23, 3) := by decide +kernel
theorem dX5_shadow_98 : decode cX5_shadow 98 = .ok (.bipush 8, 2) := by decide +kernel
theorem dX5_shadow_100 : decode cX5_shadow 100 = .ok (.iload_n 1, 1) := by decide +kernel
theorem dX5_shadow_101 : decode cX5_shadow 101 = .ok (.imul, 1) := by decide +kernel
theorem dX5_shadow_102 : decode cX5_shadow 102 = .ok (.iload_n 2, 1) := by decide +kernel
theorem dX5_shadow_103 : decode cX5_shadow 103 = .ok (.iadd, 1) := by decide +kernel
theorem dX5_shadow_104 : decode cX5_shadow 104 = .ok (.dload 5, 2) := by decide +kernel
theorem dX5_shadow_106 : decode cX5_shadow 106 = .ok (.dastore, 1) := by decide +kernel
theorem dX5_shadow_107 : decode cX5_shadow 107 = .ok (.aload_n 0, 1) := by decide +kernel
theorem dX5_shadow_108 : decode cX5_shadow 108 = .ok (.iconst 0, 1) := by decide +kernel
theorem dX5_shadow_109 : decode cX5_shadow 109 = .ok (.putfield 70, 3) := by decide +kernel
theorem dX5_shadow_112 : decode cX5_shadow 112 = .ok (.return_, 1) := by decide +kernel
set_option maxRecDepth 20000 in
theorem ggX5_lift_X5_noSlice : GoodIn wsX5_lift wsX5_noSlice := goodIn_r _ [8, 9, 15, 16, 17, 18, 19, 20, 21, 22, 23, 24, 25, 26, 27, 28, 29, 30, 31, 32, 33] (by decide +kernel) (by decide +kernel)
set_option maxRecDepth 20000 in
theorem gX5_lift_X5_noSlice : GoodIn wsX5_lift (wsV RX5 74 RX5 yX5_noSlice wsX5_noSlice) := goodIn_app (goodIn_of _ (by decide +kernel)) ggX5_lift_X5_noSlice
set_option maxRecDepth 20000 in
theorem ggX5_lift_X5_noView : GoodIn wsX5_lift wsX5_noView := goodIn_r _ [13, 14, 15, 16, 17, 18, 19, 20, 21, 22, 23, 24, 25, 26, 27, 28, 29, 30, 31, 32, 33] (by decide +kernel) (by decide +kernel)
set_option maxRecDepth 20000 in
theorem gX5_lift_X5_noView : GoodIn wsX5_lift (wsV RX5 58 RX5 yX5_noView wsX5_noView) := goodIn_app (goodIn_of _ (by decide +kernel)) ggX5_lift_X5_noView
theorem dX5_lift_0 : decode cX5_lift 0 = .ok (.aload_n 0, 1) := by decide +kernel
theorem dX5_lift_1 : decode cX5_lift 1 = .ok (.aload_n 0, 1) := by decide +kernel
theorem dX5_lift_2 : decode cX5_lift 2 = .ok (.iload_n 1, 1) := by decide +kernel
theorem dX5_lift_3 : decode cX5_lift 3 = .ok (.invokevirtual 74, 3) := by decide +kernel
theorem dX5_lift_6 : decode cX5_lift 6 = .ok (.ifCond .ne 11, 3) := by decide +kernel
theorem dX5_lift_9 : decode cX5_lift 9 = .ok (.aload_n 0, 1) := by decide +kernel
theorem dX5_lift_10 : decode cX5_lift 10 = .ok (.iload_n 2, 1) := by decide +kernel
theorem dX5_lift_11 : decode cX5_lift 11 = .ok (.invokevirtual 58, 3) := by decide +kernel
theorem dX5_lift_14 : decode cX5_lift 14 = .ok (.ifCond .eq 7, 3) := by decide +kernel
theorem dX5_lift_17 : decode cX5_lift 17 = .ok (.iconst 1, 1) := by decide +kernel
theorem dX5_lift_18 : decode cX5_lift 18 = .ok (.goto 4, 3) := by decide +kernel
theorem dX5_lift_21 : decode cX5_lift 21 = .ok (.iconst 0, 1) := by decide +kernel
theorem dX5_lift_22 : decode cX5_lift 22 = .ok (.putfield 55, 3) := by decide +kernel
theorem dX5_lift_25 : decode cX5_lift 25 = .ok (.aload_n 0, 1) := by decide +kernel
theorem dX5_lift_26 : decode cX5_lift 26 = .ok (.getfield 55, 3) := by decide +kernel
theorem dX5_lift_29 : decode cX5_lift 29 = .ok (.ifCond .gt 17, 3) := by decide +kernel
theorem dX5_lift_32 : decode cX5_lift 32 = .ok (.aload_n 0, 1) := by decide +kernel
theorem dX5_lift_33 : decode cX5_lift 33 = .ok (.getfield 16, 3) := by decide +kernel
theorem dX5_lift_36 : decode cX5_lift 36 = .ok (.bipush 8, 2) := by decide +kernel
theorem dX5_lift_38 : decode cX5_lift 38 = .ok (.iload_n 1, 1) := by decide +kernel
theorem dX5_lift_39 : decode cX5_lift 39 = .ok (.imul, 1) := by decide +kernel
theorem dX5_lift_40 : decode cX5_lift 40 = .ok (.iload_n 2, 1) := by decide +kernel
theorem dX5_lift_41 : decode cX5_lift 41 = .ok (.iadd, 1) := by decide +kernel
theorem dX5_lift_42 : decode cX5_lift 42 = .ok (.baload, 1) := by decide +kernel
theorem dX5_lift_43 : decode cX5_lift 43 = .ok (.ifCond .ne 5, 3) := by decide +kernel
theorem dX5_lift_46 : decode cX5_lift 46 = .ok (.iconst 0, 1) := by decide +kernel
theorem dX5_lift_47 : decode cX5_lift 47 = .ok (.ireturn, 1) := by decide +kernel
theorem dX5_lift_48 : decode cX5_lift 48 = .ok (.aload_n 0, 1) := by decide +kernel
theorem dX5_lift_49 : decode cX5_lift 49 = .ok (.getfield 16, 3) := by decide +kernel
theorem dX5_lift_52 : decode cX5_lift 52 = .ok (.bipush 8, 2) := by decide +kernel
theorem dX5_lift_54 : decode cX5_lift 54 = .ok (.iload_n 1, 1) := by decide +kernel
theorem dX5_lift_55 : decode cX5_lift 55 = .ok (.imul, 1) := by decide +kernel
theorem dX5_lift_56 : decode cX5_lift 56 = .ok (.iload_n 2, 1) := by decide +kernel
theorem dX5_lift_57 : decode cX5_lift 57 = .ok (.iadd, 1) := by decide +kernel
theorem dX5_lift_58 : decode cX5_lift 58 = .ok (.iconst 0, 1) := by decide +kernel
theorem dX5_lift_59 : decode cX5_lift 59 = .ok (.bastore, 1) := by decide +kernel
theorem dX5_lift_60 : decode cX5_lift 60 = .ok (.aload_n 0, 1) := by decide +kernel
theorem dX5_lift_61 : decode cX5_lift 61 = .ok (.iconst 0, 1) := by decide +kernel
theorem dX5_lift_62 : decode cX5_lift 62 = .ok (.putfield 70, 3) := by decide +kernel
theorem dX5_lift_65 : decode cX5_lift 65 = .ok (.iconst 1, 1) := by decide +kernel
theorem dX5_lift_66 : decode cX5_lift 66 = .ok (.ireturn, 1) := by decide +kernel
theorem dX5_root_0 : decode cX5_root 0 = .ok (.dload_n 0, 1) := by decide +kernel
theorem dX5_root_1 : decode cX5_root 1 = .ok (.dconst 1, 1) := by decide +kernel
theorem dX5_root_2 : decode cX5_root 2 = .ok (.dadd, 1) := by decide +kernel
theorem dX5_root_3 : decode cX5_root 3 = .ok (.ldc2_w 81, 3) := by decide +kernel
theorem dX5_root_6 : decode cX5_root 6 = .ok (.ddiv, 1) := by decide +kernel
theorem dX5_root_7 : decode cX5_root 7 = .ok (.dstore_n 2, 1) := by decide +kernel
theorem dX5_root_8 : decode cX5_root 8 = .ok (.iconst 0, 1) := by decide +kernel
theorem dX5_root_9 : decode cX5_root 9 = .ok (.istore 4, 2) := by decide +kernel
theorem dX5_root_11 : decode cX5_root 11 = .ok (.iload 4, 2) := by decide +kernel
theorem dX5_root_13 : decode cX5_root 13 = .ok (.bipush 60, 2) := by decide +kernel
theorem dX5_root_15 : decode cX5_root 15 = .ok (.if_icmp .ge 19, 3) := by decide +kernel
theorem dX5_root_18 : decode cX5_root 18 = .ok (.dload_n 2, 1) := by decide +kernel
theorem dX5_root_19 : decode cX5_root 19 = .ok (.dload_n 0, 1) := by decide +kernel
theorem dX5_root_20 : decode cX5_root 20 = .ok (.dload_n 2, 1) := by decide +kernel
theorem dX5_root_21 : decode cX5_root 21 = .ok (.ddiv, 1) := by decide +kernel
theorem dX5_root_22 : decode cX5_root 22 = .ok (.dadd, 1) := by decide +kernel
theorem dX5_root_23 : decode cX5_root 23 = .ok (.ldc2_w 81, 3) := by decide +kernel
theorem dX5_root_26 : decode cX5_root 26 = .ok (.ddiv, 1) := by decide +kernel
theorem dX5_root_27 : decode cX5_root 27 = .ok (.dstore_n 2, 1) := by decide +kernel
theorem dX5_root_28 : decode cX5_root 28 = .ok (.iinc 4 1, 3) := by decide +kernel
theorem dX5_root_31 : decode cX5_root 31 = .ok (.goto (-20), 3) := by decide +kernel
theorem dX5_root_34 : decode cX5_root 34 = .ok (.dload_n 2, 1) := by decide +kernel
theorem dX5_root_35 : decode cX5_root 35 = .ok (.dreturn, 1) := by decide +kernel
theorem dX5_middle_0 : decode cX5_middle 0 = .ok (.aload_n 0, 1) := by decide +kernel
theorem dX5_middle_1 : decode cX5_middle 1 = .ok (.getfield 20, 3) := by decide +kernel
theorem dX5_middle_4 : decode cX5_middle 4 = .ok (.iload_n 1, 1) := by decide +kernel
theorem dX5_middle_5 : decode cX5_middle 5 = .ok (.daload, 1) := by decide +kernel
theorem dX5_middle_6 : decode cX5_middle 6 = .ok (.aload_n 0, 1) := by decide +kernel
theorem dX5_middle_7 : decode cX5_middle 7 = .ok (.getfield 23, 3) := by decide +kernel
theorem dX5_middle_10 : decode cX5_middle 10 = .ok (.iload_n 1, 1) := by decide +kernel
theorem dX5_middle_11 : decode cX5_middle 11 = .ok (.daload, 1) := by decide +kernel
theorem dX5_middle_12 : decode cX5_middle 12 = .ok (.dadd, 1) := by decide +kernel
theorem dX5_middle_13 : decode cX5_middle 13 = .ok (.ldc2_w 81, 3) := by decide +kernel
theorem dX5_middle_16 : decode cX5_middle 16 = .ok (.ddiv, 1) := by decide +kernel
theorem dX5_middle_17 : decode cX5_middle 17 = .ok (.dreturn, 1) := by decide +kernel
set_option maxRecDepth 20000 in
theorem ggX5_fit_X5_middle : GoodIn wsX5_fit wsX5_middle := goodIn_r _ [13, 6, 5, 7, 22, 23, 24, 25, 26, 27, 28, 29, 30, 31, 32, 33, 34, 35, 36, 37, 38, 39, 40] (by decide +kernel) (by decide +kernel)
set_option maxRecDepth 20000 in
theorem gX5_fit_X5_middle : GoodIn wsX5_fit (wsV RX5 83 RX5 yX5_middle wsX5_middle) := goodIn_app (goodIn_of _ (by decide +kernel)) ggX5_fit_X5_middle
set_option maxRecDepth 20000 in
theorem ggX5_fit_X5_root : GoodIn wsX5_fit wsX5_root := goodIn_r _ [16, 7] (by decide +kernel) (by decide +kernel)
set_option maxRecDepth 20000 in
theorem gX5_fit_X5_root : GoodIn wsX5_fit (va_wsS RX5 87 yX5_root wsX5_root) := goodIn_app (goodIn_of _ (by decide +kernel)) ggX5_fit_X5_root
set_option maxRecDepth 20000 in
theorem ggX5_fit_X5_set : GoodIn wsX5_fit wsX5_set := goodIn_r _ [20, 21, 22, 23, 24, 25, 26, 27, 28, 29, 30, 31, 32, 33, 34, 35, 36, 37, 38, 39, 40] (by decide +kernel) (by decide +kernel)
set_option maxRecDepth 20000 in
theorem gX5_fit_X5_set : GoodIn wsX5_fit (wsV RX5 93 RX5 yX5_set wsX5_set) := goodIn_app (goodIn_of _ (by decide +kernel)) ggX5_fit_X5_set
theorem dX5_fit_0 : decode cX5_fit 0 = .ok (.dconst 0, 1) := by decide +kernel
theorem dX5_fit_1 : decode cX5_fit 1 = .ok (.dstore_n 2, 1) := by decide +kernel
theorem dX5_fit_2 : decode cX5_fit 2 = .ok (.dconst 0, 1) := by decide +kernel
theorem dX5_fit_3 : decode cX5_fit 3 = .ok (.dstore 4, 2) := by decide +kernel
theorem dX5_fit_5 : decode cX5_fit 5 = .ok (.dconst 0, 1) := by decide +kernel
theorem dX5_fit_6 : decode cX5_fit 6 = .ok (.dstore 6, 2) := by decide +kernel
theorem dX5_fit_8 : decode cX5_fit 8 = .ok (.dconst 0, 1) := by decide +kernel
theorem dX5_fit_9 : decode cX5_fit 9 = .ok (.dstore 8, 2) := by decide +kernel
theorem dX5_fit_11 : decode cX5_fit 11 = .ok (.dconst 0, 1) := by decide +kernel
theorem dX5_fit_12 : decode cX5_fit 12 = .ok (.dstore 10, 2) := by decide +kernel
theorem dX5_fit_14 : decode cX5_fit 14 = .ok (.dconst 0, 1) := by decide +kernel
theorem dX5_fit_15 : decode cX5_fit 15 = .ok (.dstore 12, 2) := by decide +kernel
theorem dX5_fit_17 : decode cX5_fit 17 = .ok (.iconst 0, 1) := by decide +kernel
theorem dX5_fit_18 : decode cX5_fit 18 = .ok (.istore 14, 2) := by decide +kernel
theorem dX5_fit_20 : decode cX5_fit 20 = .ok (.iconst 0, 1) := by decide +kernel
theorem dX5_fit_21 : decode cX5_fit 21 = .ok (.istore 15, 2) := by decide +kernel
theorem dX5_fit_23 : decode cX5_fit 23 = .ok (.iload 15, 2) := by decide +kernel
theorem dX5_fit_25 : decode cX5_fit 25 = .ok (.aload_n 0, 1) := by decide +kernel
theorem dX5_fit_26 : decode cX5_fit 26 = .ok (.getfield 52, 3) := by decide +kernel
theorem dX5_fit_29 : decode cX5_fit 29 = .ok (.if_icmp .ge 186, 3) := by decide +kernel
theorem dX5_fit_32 : decode cX5_fit 32 = .ok (.bipush 8, 2) := by decide +kernel
theorem dX5_fit_34 : decode cX5_fit 34 = .ok (.iload_n 1, 1) := by decide +kernel
theorem dX5_fit_35 : decode cX5_fit 35 = .ok (.imul, 1) := by decide +kernel
theorem dX5_fit_36 : decode cX5_fit 36 = .ok (.iload 15, 2) := by decide +kernel
theorem dX5_fit_38 : decode cX5_fit 38 = .ok (.iadd, 1) := by decide +kernel
theorem dX5_fit_39 : decode cX5_fit 39 = .ok (.istore 16, 2) := by decide +kernel
theorem dX5_fit_41 : decode cX5_fit 41 = .ok (.aload_n 0, 1) := by decide +kernel
theorem dX5_fit_42 : decode cX5_fit 42 = .ok (.getfield 16, 3) := by decide +kernel
theorem dX5_fit_45 : decode cX5_fit 45 = .ok (.iload 16, 2) := by decide +kernel
theorem dX5_fit_47 : decode cX5_fit 47 = .ok (.baload, 1) := by decide +kernel
theorem dX5_fit_48 : decode cX5_fit 48 = .ok (.ifCond .eq 161, 3) := by decide +kernel
theorem dX5_fit_51 : decode cX5_fit 51 = .ok (.dload_n 2, 1) := by decide +kernel
theorem dX5_fit_52 : decode cX5_fit 52 = .ok (.aload_n 0, 1) := by decide +kernel
theorem dX5_fit_53 : decode cX5_fit 53 = .ok (.getfield 7, 3) := by decide +kernel
theorem dX5_fit_56 : decode cX5_fit 56 = .ok (.iload 15, 2) := by decide +kernel
theorem dX5_fit_58 : decode cX5_fit 58 = .ok (.daload, 1) := by decide +kernel
theorem dX5_fit_59 : decode cX5_fit 59 = .ok (.aload_n 0, 1) := by decide +kernel
theorem dX5_fit_60 : decode cX5_fit 60 = .ok (.getfield 7, 3) := by decide +kernel
theorem dX5_fit_63 : decode cX5_fit 63 = .ok (.iload 15, 2) := by decide +kernel
theorem dX5_fit_65 : decode cX5_fit 65 = .ok (.daload, 1) := by decide +kernel
theorem dX5_fit_66 : decode cX5_fit 66 = .ok (.dmul, 1) := by decide +kernel
theorem dX5_fit_67 : decode cX5_fit 67 = .ok (.dadd, 1) := by decide +kernel
theorem dX5_fit_68 : decode cX5_fit 68 = .ok (.dstore_n 2, 1) := by decide +kernel
theorem dX5_fit_69 : decode cX5_fit 69 = .ok (.dload 4, 2) := by decide +kernel
theorem dX5_fit_71 : decode cX5_fit 71 = .ok (.aload_n 0, 1) := by decide +kernel
theorem dX5_fit_72 : decode cX5_fit 72 = .ok (.getfield 7, 3) := by decide +kernel
theorem dX5_fit_75 : decode cX5_fit 75 = .ok (.iload 15, 2) := by decide +kernel
theorem dX5_fit_77 : decode cX5_fit 77 = .ok (.daload, 1) := by decide +kernel
theorem dX5_fit_78 : decode cX5_fit 78 = .ok (.aload_n 0, 1) := by decide +kernel
theorem dX5_fit_79 : decode cX5_fit 79 = .ok (.getfield 13, 3) := by decide +kernel
theorem dX5_fit_82 : decode cX5_fit 82 = .ok (.iload 15, 2) := by decide +kernel
theorem dX5_fit_84 : decode cX5_fit 84 = .ok (.daload, 1) := by decide +kernel
theorem dX5_fit_85 : decode cX5_fit 85 = .ok (.dmul, 1) := by decide +kernel
theorem dX5_fit_86 : decode cX5_fit 86 = .ok (.dadd, 1) := by decide +kernel
theorem dX5_fit_87 : decode cX5_fit 87 = .ok (.dstore 4, 2) := by decide +kernel
theorem dX5_fit_89 : decode cX5_fit 89 = .ok (.dload 6, 2) := by decide +kernel
theorem dX5_fit_91 : decode cX5_fit 91 = .ok (.aload_n 0, 1) := by decide +kernel
theorem dX5_fit_92 : decode cX5_fit 92 = .ok (.getfield 13, 3) := by decide +kernel
theorem dX5_fit_95 : decode cX5_fit 95 = .ok (.iload 15, 2) := by decide +kernel
theorem dX5_fit_97 : decode cX5_fit 97 = .ok (.daload, 1) := by decide +kernel
theorem dX5_fit_98 : decode cX5_fit 98 = .ok (.aload_n 0, 1) := by decide +kernel
theorem dX5_fit_99 : decode cX5_fit 99 = .ok (.getfield 13, 3) := by decide +kernel
theorem dX5_fit_102 : decode cX5_fit 102 = .ok (.iload 15, 2) := by decide +kernel
theorem dX5_fit_104 : decode cX5_fit 104 = .ok (.daload, 1) := by decide +kernel
theorem dX5_fit_105 : decode cX5_fit 105 = .ok (.dmul, 1) := by decide +kernel
theorem dX5_fit_106 : decode cX5_fit 106 = .ok (.dadd, 1) := by decide +kernel
theorem dX5_fit_107 : decode cX5_fit 107 = .ok (.dstore 6, 2) := by decide +kernel
theorem dX5_fit_109 : decode cX5_fit 109 = .ok (.dload 8, 2) := by decide +kernel
theorem dX5_fit_111 : decode cX5_fit 111 = .ok (.aload_n 0, 1) := by decide +kernel
theorem dX5_fit_112 : decode cX5_fit 112 = .ok (.getfield 7, 3) := by decide +kernel
theorem dX5_fit_115 : decode cX5_fit 115 = .ok (.iload 15, 2) := by decide +kernel
theorem dX5_fit_117 : decode cX5_fit 117 = .ok (.daload, 1) := by decide +kernel
theorem dX5_fit_118 : decode cX5_fit 118 = .ok (.aload_n 0, 1) := by decide +kernel
theorem dX5_fit_119 : decode cX5_fit 119 = .ok (.iload 16, 2) := by decide +kernel
theorem dX5_fit_121 : decode cX5_fit 121 = .ok (.invokevirtual 83, 3) := by decide +kernel
theorem dX5_fit_124 : decode cX5_fit 124 = .ok (.dmul, 1) := by decide +kernel
theorem dX5_fit_125 : decode cX5_fit 125 = .ok (.dadd, 1) := by decide +kernel
theorem dX5_fit_126 : decode cX5_fit 126 = .ok (.dstore 8, 2) := by decide +kernel
theorem dX5_fit_128 : decode cX5_fit 128 = .ok (.dload 10, 2) := by decide +kernel
theorem dX5_fit_130 : decode cX5_fit 130 = .ok (.aload_n 0, 1) := by decide +kernel
theorem dX5_fit_131 : decode cX5_fit 131 = .ok (.getfield 13, 3) := by decide +kernel
theorem dX5_fit_134 : decode cX5_fit 134 = .ok (.iload 15, 2) := by decide +kernel
theorem dX5_fit_136 : decode cX5_fit 136 = .ok (.daload, 1) := by decide +kernel
theorem dX5_fit_137 : decode cX5_fit 137 = .ok (.aload_n 0, 1) := by decide +kernel
theorem dX5_fit_138 : decode cX5_fit 138 = .ok (.iload 16, 2) := by decide +kernel
theorem dX5_fit_140 : decode cX5_fit 140 = .ok (.invokevirtual 83, 3) := by decide +kernel
theorem dX5_fit_143 : decode cX5_fit 143 = .ok (.dmul, 1) := by decide +kernel
theorem dX5_fit_144 : decode cX5_fit 144 = .ok (.dadd, 1) := by decide +kernel
theorem dX5_fit_145 : decode cX5_fit 145 = .ok (.dstore 10, 2) := by decide +kernel
theorem dX5_fit_147 : decode cX5_fit 147 = .ok (.dload 12, 2) := by decide +kernel
theorem dX5_fit_149 : decode cX5_fit 149 = .ok (.aload_n 0, 1) := by decide +kernel
theorem dX5_fit_150 : decode cX5_fit 150 = .ok (.getfield 23, 3) := by decide +kernel
theorem dX5_fit_153 : decode cX5_fit 153 = .ok (.iload 16, 2) := by decide +kernel
theorem dX5_fit_155 : decode cX5_fit 155 = .ok (.daload, 1) := by decide +kernel
theorem dX5_fit_156 : decode cX5_fit 156 = .ok (.aload_n 0, 1) := by decide +kernel
theorem dX5_fit_157 : decode cX5_fit 157 = .ok (.getfield 20, 3) := by decide +kernel
theorem dX5_fit_160 : decode cX5_fit 160 = .ok (.iload 16, 2) := by decide +kernel
theorem dX5_fit_162 : decode cX5_fit 162 = .ok (.daload, 1) := by decide +kernel
theorem dX5_fit_163 : decode cX5_fit 163 = .ok (.dsub, 1) := by decide +kernel
theorem dX5_fit_164 : decode cX5_fit 164 = .ok (.ldc2_w 81, 3) := by decide +kernel
theorem dX5_fit_167 : decode cX5_fit 167 = .ok (.ddiv, 1) := by decide +kernel
theorem dX5_fit_168 : decode cX5_fit 168 = .ok (.aload_n 0, 1) := by decide +kernel
theorem dX5_fit_169 : decode cX5_fit 169 = .ok (.getfield 7, 3) := by decide +kernel
theorem dX5_fit_172 : decode cX5_fit 172 = .ok (.iload 15, 2) := by decide +kernel
theorem dX5_fit_174 : decode cX5_fit 174 = .ok (.daload, 1) := by decide +kernel
theorem dX5_fit_175 : decode cX5_fit 175 = .ok (.aload_n 0, 1) := by decide +kernel
theorem dX5_fit_176 : decode cX5_fit 176 = .ok (.getfield 7, 3) := by decide +kernel
theorem dX5_fit_179 : decode cX5_fit 179 = .ok (.iload 15, 2) := by decide +kernel
theorem dX5_fit_181 : decode cX5_fit 181 = .ok (.daload, 1) := by decide +kernel
theorem dX5_fit_182 : decode cX5_fit 182 = .ok (.dmul, 1) := by decide +kernel
theorem dX5_fit_183 : decode cX5_fit 183 = .ok (.aload_n 0, 1) := by decide +kernel
theorem dX5_fit_184 : decode cX5_fit 184 = .ok (.getfield 13, 3) := by decide +kernel
theorem dX5_fit_187 : decode cX5_fit 187 = .ok (.iload 15, 2) := by decide +kernel
theorem dX5_fit_189 : decode cX5_fit 189 = .ok (.daload, 1) := by decide +kernel
theorem dX5_fit_190 : decode cX5_fit 190 = .ok (.aload_n 0, 1) := by decide +kernel
theorem dX5_fit_191 : decode cX5_fit 191 = .ok (.getfield 13, 3) := by decide +kernel
theorem dX5_fit_194 : decode cX5_fit 194 = .ok (.iload 15, 2) := by decide +kernel
theorem dX5_fit_196 : decode cX5_fit 196 = .ok (.daload, 1) := by decide +kernel
theorem dX5_fit_197 : decode cX5_fit 197 = .ok (.dmul, 1) := by decide +kernel
theorem dX5_fit_198 : decode cX5_fit 198 = .ok (.dadd, 1) := by decide +kernel
theorem dX5_fit_199 : decode cX5_fit 199 = .ok (.invokestatic 87, 3) := by decide +kernel
theorem dX5_fit_202 : decode cX5_fit 202 = .ok (.ddiv, 1) := by decide +kernel
theorem dX5_fit_203 : decode cX5_fit 203 = .ok (.dadd, 1) := by decide +kernel
theorem dX5_fit_204 : decode cX5_fit 204 = .ok (.dstore 12, 2) := by decide +kernel
theorem dX5_fit_206 : decode cX5_fit 206 = .ok (.iinc 14 1, 3) := by decide +kernel
theorem dX5_fit_209 : decode cX5_fit 209 = .ok (.iinc 15 1, 3) := by decide +kernel
theorem dX5_fit_212 : decode cX5_fit 212 = .ok (.goto (-189), 3) := by decide +kernel
theorem dX5_fit_215 : decode cX5_fit 215 = .ok (.dload_n 2, 1) := by decide +kernel
theorem dX5_fit_216 : decode cX5_fit 216 = .ok (.dload 6, 2) := by decide +kernel
theorem dX5_fit_218 : decode cX5_fit 218 = .ok (.dmul, 1) := by decide +kernel
theorem dX5_fit_219 : decode cX5_fit 219 = .ok (.dload 4, 2) := by decide +kernel
theorem dX5_fit_221 : decode cX5_fit 221 = .ok (.dload 4, 2) := by decide +kernel
theorem dX5_fit_223 : decode cX5_fit 223 = .ok (.dmul, 1) := by decide +kernel
theorem dX5_fit_224 : decode cX5_fit 224 = .ok (.dsub, 1) := by decide +kernel
theorem dX5_fit_225 : decode cX5_fit 225 = .ok (.dstore 15, 2) := by decide +kernel
theorem dX5_fit_227 : decode cX5_fit 227 = .ok (.iload 14, 2) := by decide +kernel
theorem dX5_fit_229 : decode cX5_fit 229 = .ok (.iconst 2, 1) := by decide +kernel
theorem dX5_fit_230 : decode cX5_fit 230 = .ok (.if_icmp .lt 25, 3) := by decide +kernel
theorem dX5_fit_233 : decode cX5_fit 233 = .ok (.dload 15, 2) := by decide +kernel
theorem dX5_fit_235 : decode cX5_fit 235 = .ok (.dconst 0, 1) := by decide +kernel
theorem dX5_fit_236 : decode cX5_fit 236 = .ok (.dcmp .g, 1) := by decide +kernel
theorem dX5_fit_237 : decode cX5_fit 237 = .ok (.ifCond .ge 9, 3) := by decide +kernel
theorem dX5_fit_240 : decode cX5_fit 240 = .ok (.dload 15, 2) := by decide +kernel
theorem dX5_fit_242 : decode cX5_fit 242 = .ok (.dneg, 1) := by decide +kernel
theorem dX5_fit_243 : decode cX5_fit 243 = .ok (.goto 5, 3) := by decide +kernel
theorem dX5_fit_246 : decode cX5_fit 246 = .ok (.dload 15, 2) := by decide +kernel
theorem dX5_fit_248 : decode cX5_fit 248 = .ok (.ldc2_w 91, 3) := by decide +kernel
theorem dX5_fit_251 : decode cX5_fit 251 = .ok (.dcmp .g, 1) := by decide +kernel
theorem dX5_fit_252 : decode cX5_fit 252 = .ok (.ifCond .ge 5, 3) := by decide +kernel
theorem dX5_fit_255 : decode cX5_fit 255 = .ok (.iconst 0, 1) := by decide +kernel
theorem dX5_fit_256 : decode cX5_fit 256 = .ok (.ireturn, 1) := by decide +kernel
theorem dX5_fit_257 : decode cX5_fit 257 = .ok (.dload 8, 2) := by decide +kernel
theorem dX5_fit_259 : decode cX5_fit 259 = .ok (.dload 6, 2) := by decide +kernel
theorem dX5_fit_261 : decode cX5_fit 261 = .ok (.dmul, 1) := by decide +kernel
theorem dX5_fit_262 : decode cX5_fit 262 = .ok (.dload 10, 2) := by decide +kernel
theorem dX5_fit_264 : decode cX5_fit 264 = .ok (.dload 4, 2) := by decide +kernel
theorem dX5_fit_266 : decode cX5_fit 266 = .ok (.dmul, 1) := by decide +kernel
theorem dX5_fit_267 : decode cX5_fit 267 = .ok (.dsub, 1) := by decide +kernel
theorem dX5_fit_268 : decode cX5_fit 268 = .ok (.dload 15, 2) := by decide +kernel
theorem dX5_fit_270 : decode cX5_fit 270 = .ok (.ddiv, 1) := by decide +kernel
theorem dX5_fit_271 : decode cX5_fit 271 = .ok (.dstore 17, 2) := by decide +kernel
theorem dX5_fit_273 : decode cX5_fit 273 = .ok (.dload_n 2, 1) := by decide +kernel
theorem dX5_fit_274 : decode cX5_fit 274 = .ok (.dload 10, 2) := by decide +kernel
theorem dX5_fit_276 : decode cX5_fit 276 = .ok (.dmul, 1) := by decide +kernel
theorem dX5_fit_277 : decode cX5_fit 277 = .ok (.dload 4, 2) := by decide +kernel
theorem dX5_fit_279 : decode cX5_fit 279 = .ok (.dload 8, 2) := by decide +kernel
theorem dX5_fit_281 : decode cX5_fit 281 = .ok (.dmul, 1) := by decide +kernel
theorem dX5_fit_282 : decode cX5_fit 282 = .ok (.dsub, 1) := by decide +kernel
theorem dX5_fit_283 : decode cX5_fit 283 = .ok (.dload 15, 2) := by decide +kernel
theorem dX5_fit_285 : decode cX5_fit 285 = .ok (.ddiv, 1) := by decide +kernel
theorem dX5_fit_286 : decode cX5_fit 286 = .ok (.dstore 19, 2) := by decide +kernel
theorem dX5_fit_288 : decode cX5_fit 288 = .ok (.dconst 0, 1) := by decide +kernel
theorem dX5_fit_289 : decode cX5_fit 289 = .ok (.dstore 21, 2) := by decide +kernel
theorem dX5_fit_291 : decode cX5_fit 291 = .ok (.iconst 0, 1) := by decide +kernel
theorem dX5_fit_292 : decode cX5_fit 292 = .ok (.istore 23, 2) := by decide +kernel
theorem dX5_fit_294 : decode cX5_fit 294 = .ok (.iload 23, 2) := by decide +kernel
theorem dX5_fit_296 : decode cX5_fit 296 = .ok (.aload_n 0, 1) := by decide +kernel
theorem dX5_fit_297 : decode cX5_fit 297 = .ok (.getfield 52, 3) := by decide +kernel
theorem dX5_fit_300 : decode cX5_fit 300 = .ok (.if_icmp .ge 68, 3) := by decide +kernel
theorem dX5_fit_303 : decode cX5_fit 303 = .ok (.bipush 8, 2) := by decide +kernel
theorem dX5_fit_305 : decode cX5_fit 305 = .ok (.iload_n 1, 1) := by decide +kernel
theorem dX5_fit_306 : decode cX5_fit 306 = .ok (.imul, 1) := by decide +kernel
theorem dX5_fit_307 : decode cX5_fit 307 = .ok (.iload 23, 2) := by decide +kernel
theorem dX5_fit_309 : decode cX5_fit 309 = .ok (.iadd, 1) := by decide +kernel
theorem dX5_fit_310 : decode cX5_fit 310 = .ok (.istore 24, 2) := by decide +kernel
theorem dX5_fit_312 : decode cX5_fit 312 = .ok (.aload_n 0, 1) := by decide +kernel
theorem dX5_fit_313 : decode cX5_fit 313 = .ok (.getfield 16, 3) := by decide +kernel
theorem dX5_fit_316 : decode cX5_fit 316 = .ok (.iload 24, 2) := by decide +kernel
theorem dX5_fit_318 : decode cX5_fit 318 = .ok (.baload, 1) := by decide +kernel
theorem dX5_fit_319 : decode cX5_fit 319 = .ok (.ifCond .eq 43, 3) := by decide +kernel
theorem dX5_fit_322 : decode cX5_fit 322 = .ok (.aload_n 0, 1) := by decide +kernel
theorem dX5_fit_323 : decode cX5_fit 323 = .ok (.iload 24, 2) := by decide +kernel
theorem dX5_fit_325 : decode cX5_fit 325 = .ok (.invokevirtual 83, 3) := by decide +kernel
theorem dX5_fit_328 : decode cX5_fit 328 = .ok (.aload_n 0, 1) := by decide +kernel
theorem dX5_fit_329 : decode cX5_fit 329 = .ok (.getfield 7, 3) := by decide +kernel
theorem dX5_fit_332 : decode cX5_fit 332 = .ok (.iload 23, 2) := by decide +kernel
theorem dX5_fit_334 : decode cX5_fit 334 = .ok (.daload, 1) := by decide +kernel
theorem dX5_fit_335 : decode cX5_fit 335 = .ok (.dload 17, 2) := by decide +kernel
theorem dX5_fit_337 : decode cX5_fit 337 = .ok (.dmul, 1) := by decide +kernel
theorem dX5_fit_338 : decode cX5_fit 338 = .ok (.dsub, 1) := by decide +kernel
theorem dX5_fit_339 : decode cX5_fit 339 = .ok (.aload_n 0, 1) := by decide +kernel
theorem dX5_fit_340 : decode cX5_fit 340 = .ok (.getfield 13, 3) := by decide +kernel
theorem dX5_fit_343 : decode cX5_fit 343 = .ok (.iload 23, 2) := by decide +kernel
theorem dX5_fit_345 : decode cX5_fit 345 = .ok (.daload, 1) := by decide +kernel
theorem dX5_fit_346 : decode cX5_fit 346 = .ok (.dload 19, 2) := by decide +kernel
theorem dX5_fit_348 : decode cX5_fit 348 = .ok (.dmul, 1) := by decide +kernel
theorem dX5_fit_349 : decode cX5_fit 349 = .ok (.dsub, 1) := by decide +kernel
theorem dX5_fit_350 : decode cX5_fit 350 = .ok (.dstore 25, 2) := by decide +kernel
theorem dX5_fit_352 : decode cX5_fit 352 = .ok (.dload 21, 2) := by decide +kernel
theorem dX5_fit_354 : decode cX5_fit 354 = .ok (.dload 25, 2) := by decide +kernel
theorem dX5_fit_356 : decode cX5_fit 356 = .ok (.dload 25, 2) := by decide +kernel
theorem dX5_fit_358 : decode cX5_fit 358 = .ok (.dmul, 1) := by decide +kernel
theorem dX5_fit_359 : decode cX5_fit 359 = .ok (.dadd, 1) := by decide +kernel
theorem dX5_fit_360 : decode cX5_fit 360 = .ok (.dstore 21, 2) := by decide +kernel
theorem dX5_fit_362 : decode cX5_fit 362 = .ok (.iinc 23 1, 3) := by decide +kernel
theorem dX5_fit_365 : decode cX5_fit 365 = .ok (.goto (-71), 3) := by decide +kernel
theorem dX5_fit_368 : decode cX5_fit 368 = .ok (.aload_n 0, 1) := by decide +kernel
theorem dX5_fit_369 : decode cX5_fit 369 = .ok (.iload_n 1, 1) := by decide +kernel
theorem dX5_fit_370 : decode cX5_fit 370 = .ok (.dload 17, 2) := by decide +kernel
theorem dX5_fit_372 : decode cX5_fit 372 = .ok (.dload 19, 2) := by decide +kernel
theorem dX5_fit_374 : decode cX5_fit 374 = .ok (.dload 12, 2) := by decide +kernel
theorem dX5_fit_376 : decode cX5_fit 376 = .ok (.iload 14, 2) := by decide +kernel
theorem dX5_fit_378 : decode cX5_fit 378 = .ok (.i2d, 1) := by decide +kernel
theorem dX5_fit_379 : decode cX5_fit 379 = .ok (.ddiv, 1) := by decide +kernel
theorem dX5_fit_380 : decode cX5_fit 380 = .ok (.dload 21, 2) := by decide +kernel
theorem dX5_fit_382 : decode cX5_fit 382 = .ok (.invokevirtual 93, 3) := by decide +kernel
theorem dX5_fit_385 : decode cX5_fit 385 = .ok (.iconst 1, 1) := by decide +kernel
theorem dX5_fit_386 : decode cX5_fit 386 = .ok (.ireturn, 1) := by decide +kernel
theorem dX5_set_0 : decode cX5_set 0 = .ok (.aload_n 0, 1) := by decide +kernel
theorem dX5_set_1 : decode cX5_set 1 = .ok (.getfield 29, 3) := by decide +kernel
theorem dX5_set_4 : decode cX5_set 4 = .ok (.iconst 4, 1) := by decide +kernel
theorem dX5_set_5 : decode cX5_set 5 = .ok (.iload_n 1, 1) := by decide +kernel
theorem dX5_set_6 : decode cX5_set 6 = .ok (.imul, 1) := by decide +kernel
theorem dX5_set_7 : decode cX5_set 7 = .ok (.dload_n 2, 1) := by decide +kernel
theorem dX5_set_8 : decode cX5_set 8 = .ok (.dastore, 1) := by decide +kernel
theorem dX5_set_9 : decode cX5_set 9 = .ok (.aload_n 0, 1) := by decide +kernel
theorem dX5_set_10 : decode cX5_set 10 = .ok (.getfield 29, 3) := by decide +kernel
theorem dX5_set_13 : decode cX5_set 13 = .ok (.iconst 4, 1) := by decide +kernel
theorem dX5_set_14 : decode cX5_set 14 = .ok (.iload_n 1, 1) := by decide +kernel
theorem dX5_set_15 : decode cX5_set 15 = .ok (.imul, 1) := by decide +kernel
theorem dX5_set_16 : decode cX5_set 16 = .ok (.iconst 1, 1) := by decide +kernel
theorem dX5_set_17 : decode cX5_set 17 = .ok (.iadd, 1) := by decide +kernel
theorem dX5_set_18 : decode cX5_set 18 = .ok (.dload 4, 2) := by decide +kernel
theorem dX5_set_20 : decode cX5_set 20 = .ok (.dastore, 1) := by decide +kernel
theorem dX5_set_21 : decode cX5_set 21 = .ok (.aload_n 0, 1) := by decide +kernel
theorem dX5_set_22 : decode cX5_set 22 = .ok (.getfield 29, 3) := by decide +kernel
theorem dX5_set_25 : decode cX5_set 25 = .ok (.iconst 4, 1) := by decide +kernel
theorem dX5_set_26 : decode cX5_set 26 = .ok (.iload_n 1, 1) := by decide +kernel
theorem dX5_set_27 : decode cX5_set 27 = .ok (.imul, 1) := by decide +kernel
theorem dX5_set_28 : decode cX5_set 28 = .ok (.iconst 2, 1) := by decide +kernel
theorem dX5_set_29 : decode cX5_set 29 = .ok (.iadd, 1) := by decide +kernel
theorem dX5_set_30 : decode cX5_set 30 = .ok (.dload 6, 2) := by decide +kernel
theorem dX5_set_32 : decode cX5_set 32 = .ok (.dastore, 1) := by decide +kernel
theorem dX5_set_33 : decode cX5_set 33 = .ok (.aload_n 0, 1) := by decide +kernel
theorem dX5_set_34 : decode cX5_set 34 = .ok (.getfield 29, 3) := by decide +kernel
theorem dX5_set_37 : decode cX5_set 37 = .ok (.iconst 4, 1) := by decide +kernel
theorem dX5_set_38 : decode cX5_set 38 = .ok (.iload_n 1, 1) := by decide +kernel
theorem dX5_set_39 : decode cX5_set 39 = .ok (.imul, 1) := by decide +kernel
theorem dX5_set_40 : decode cX5_set 40 = .ok (.iconst 3, 1) := by decide +kernel
theorem dX5_set_41 : decode cX5_set 41 = .ok (.iadd, 1) := by decide +kernel
theorem dX5_set_42 : decode cX5_set 42 = .ok (.dload 8, 2) := by decide +kernel
theorem dX5_set_44 : decode cX5_set 44 = .ok (.dastore, 1) := by decide +kernel
theorem dX5_set_45 : decode cX5_set 45 = .ok (.return_, 1) := by decide +kernel
theorem dX5_mixed_0 : decode cX5_mixed 0 = .ok (.aload_n 0, 1) := by decide +kernel
theorem dX5_mixed_1 : decode cX5_mixed 1 = .ok (.getfield 29, 3) := by decide +kernel
theorem dX5_mixed_4 : decode cX5_mixed 4 = .ok (.iconst 4, 1) := by decide +kernel
theorem dX5_mixed_5 : decode cX5_mixed 5 = .ok (.iload_n 1, 1) := by decide +kernel
theorem dX5_mixed_6 : decode cX5_mixed 6 = .ok (.imul, 1) := by decide +kernel
theorem dX5_mixed_7 : decode cX5_mixed 7 = .ok (.iload 4, 2) := by decide +kernel
theorem dX5_mixed_9 : decode cX5_mixed 9 = .ok (.iadd, 1) := by decide +kernel
theorem dX5_mixed_10 : decode cX5_mixed 10 = .ok (.daload, 1) := by decide +kernel
theorem dX5_mixed_11 : decode cX5_mixed 11 = .ok (.dstore 5, 2) := by decide +kernel
theorem dX5_mixed_13 : decode cX5_mixed 13 = .ok (.dload 5, 2) := by decide +kernel
theorem dX5_mixed_15 : decode cX5_mixed 15 = .ok (.aload_n 0, 1) := by decide +kernel
theorem dX5_mixed_16 : decode cX5_mixed 16 = .ok (.getfield 29, 3) := by decide +kernel
theorem dX5_mixed_19 : decode cX5_mixed 19 = .ok (.iconst 4, 1) := by decide +kernel
theorem dX5_mixed_20 : decode cX5_mixed 20 = .ok (.iload_n 2, 1) := by decide +kernel
theorem dX5_mixed_21 : decode cX5_mixed 21 = .ok (.imul, 1) := by decide +kernel
theorem dX5_mixed_22 : decode cX5_mixed 22 = .ok (.iload 4, 2) := by decide +kernel
theorem dX5_mixed_24 : decode cX5_mixed 24 = .ok (.iadd, 1) := by decide +kernel
theorem dX5_mixed_25 : decode cX5_mixed 25 = .ok (.daload, 1) := by decide +kernel
theorem dX5_mixed_26 : decode cX5_mixed 26 = .ok (.dload 5, 2) := by decide +kernel
theorem dX5_mixed_28 : decode cX5_mixed 28 = .ok (.dsub, 1) := by decide +kernel
theorem dX5_mixed_29 : decode cX5_mixed 29 = .ok (.iload_n 3, 1) := by decide +kernel
theorem dX5_mixed_30 : decode cX5_mixed 30 = .ok (.iload_n 1, 1) := by decide +kernel
theorem dX5_mixed_31 : decode cX5_mixed 31 = .ok (.isub, 1) := by decide +kernel
theorem dX5_mixed_32 : decode cX5_mixed 32 = .ok (.i2d, 1) := by decide +kernel
theorem dX5_mixed_33 : decode cX5_mixed 33 = .ok (.dmul, 1) := by decide +kernel
theorem dX5_mixed_34 : decode cX5_mixed 34 = .ok (.iload_n 2, 1) := by decide +kernel
theorem dX5_mixed_35 : decode cX5_mixed 35 = .ok (.iload_n 1, 1) := by decide +kernel
theorem dX5_mixed_36 : decode cX5_mixed 36 = .ok (.isub, 1) := by decide +kernel
theorem dX5_mixed_37 : decode cX5_mixed 37 = .ok (.i2d, 1) := by decide +kernel
theorem dX5_mixed_38 : decode cX5_mixed 38 = .ok (.ddiv, 1) := by decide +kernel
theorem dX5_mixed_39 : decode cX5_mixed 39 = .ok (.dadd, 1) := by decide +kernel
theorem dX5_mixed_40 : decode cX5_mixed 40 = .ok (.dreturn, 1) := by decide +kernel
set_option maxRecDepth 20000 in
theorem ggX5_mend_X5_mixed : GoodIn wsX5_mend wsX5_mixed := goodIn_r _ [8, 3, 13, 14, 15, 16, 17, 18, 19, 20, 21, 22, 23, 24, 25, 26, 27, 28, 29, 30, 31] (by decide +kernel) (by decide +kernel)
set_option maxRecDepth 20000 in
theorem gX5_mend_X5_mixed : GoodIn wsX5_mend (wsV RX5 97 RX5 yX5_mixed wsX5_mixed) := goodIn_app (goodIn_of _ (by decide +kernel)) ggX5_mend_X5_mixed
set_option maxRecDepth 20000 in
theorem ggX5_mend_X5_set : GoodIn wsX5_mend wsX5_set := goodIn_r _ [12, 3, 13, 14, 15, 16, 17, 18, 19, 20, 21, 22, 23, 24, 25, 26, 27, 28, 29, 30, 31] (by decide +kernel) (by decide +kernel)
set_option maxRecDepth 20000 in
theorem gX5_mend_X5_set : GoodIn wsX5_mend (wsV RX5 93 RX5 yX5_set wsX5_set) := goodIn_app (goodIn_of _ (by decide +kernel)) ggX5_mend_X5_set
theorem dX5_mend_0 : decode cX5_mend 0 = .ok (.iload_n 1, 1) := by decide +kernel
theorem dX5_mend_1 : decode cX5_mend 1 = .ok (.istore_n 2, 1) := by decide +kernel
theorem dX5_mend_2 : decode cX5_mend 2 = .ok (.iload_n 2, 1) := by decide +kernel
theorem dX5_mend_3 : decode cX5_mend 3 = .ok (.ifCond .lt 18, 3) := by decide +kernel
theorem dX5_mend_6 : decode cX5_mend 6 = .ok (.aload_n 0, 1) := by decide +kernel
theorem dX5_mend_7 : decode cX5_mend 7 = .ok (.getfield 26, 3) := by decide +kernel
theorem dX5_mend_10 : decode cX5_mend 10 = .ok (.iload_n 2, 1) := by decide +kernel
theorem dX5_mend_11 : decode cX5_mend 11 = .ok (.baload, 1) := by decide +kernel
theorem dX5_mend_12 : decode cX5_mend 12 = .ok (.ifCond .ne 9, 3) := by decide +kernel
theorem dX5_mend_15 : decode cX5_mend 15 = .ok (.iinc 2 (-1), 3) := by decide +kernel
theorem dX5_mend_18 : decode cX5_mend 18 = .ok (.goto (-16), 3) := by decide +kernel
theorem dX5_mend_21 : decode cX5_mend 21 = .ok (.iload_n 1, 1) := by decide +kernel
theorem dX5_mend_22 : decode cX5_mend 22 = .ok (.istore_n 3, 1) := by decide +kernel
theorem dX5_mend_23 : decode cX5_mend 23 = .ok (.iload_n 3, 1) := by decide +kernel
theorem dX5_mend_24 : decode cX5_mend 24 = .ok (.aload_n 0, 1) := by decide +kernel
theorem dX5_mend_25 : decode cX5_mend 25 = .ok (.getfield 48, 3) := by decide +kernel
theorem dX5_mend_28 : decode cX5_mend 28 = .ok (.if_icmp .ge 18, 3) := by decide +kernel
theorem dX5_mend_31 : decode cX5_mend 31 = .ok (.aload_n 0, 1) := by decide +kernel
theorem dX5_mend_32 : decode cX5_mend 32 = .ok (.getfield 26, 3) := by decide +kernel
theorem dX5_mend_35 : decode cX5_mend 35 = .ok (.iload_n 3, 1) := by decide +kernel
theorem dX5_mend_36 : decode cX5_mend 36 = .ok (.baload, 1) := by decide +kernel
theorem dX5_mend_37 : decode cX5_mend 37 = .ok (.ifCond .ne 9, 3) := by decide +kernel
theorem dX5_mend_40 : decode cX5_mend 40 = .ok (.iinc 3 1, 3) := by decide +kernel
theorem dX5_mend_43 : decode cX5_mend 43 = .ok (.goto (-20), 3) := by decide +kernel
theorem dX5_mend_46 : decode cX5_mend 46 = .ok (.iload_n 2, 1) := by decide +kernel
theorem dX5_mend_47 : decode cX5_mend 47 = .ok (.ifCond .lt 44, 3) := by decide +kernel
theorem dX5_mend_50 : decode cX5_mend 50 = .ok (.iload_n 3, 1) := by decide +kernel
theorem dX5_mend_51 : decode cX5_mend 51 = .ok (.aload_n 0, 1) := by decide +kernel
theorem dX5_mend_52 : decode cX5_mend 52 = .ok (.getfield 48, 3) := by decide +kernel
theorem dX5_mend_55 : decode cX5_mend 55 = .ok (.if_icmp .ge 36, 3) := by decide +kernel
theorem dX5_mend_58 : decode cX5_mend 58 = .ok (.aload_n 0, 1) := by decide +kernel
theorem dX5_mend_59 : decode cX5_mend 59 = .ok (.iload_n 1, 1) := by decide +kernel
theorem dX5_mend_60 : decode cX5_mend 60 = .ok (.aload_n 0, 1) := by decide +kernel
theorem dX5_mend_61 : decode cX5_mend 61 = .ok (.iload_n 2, 1) := by decide +kernel
theorem dX5_mend_62 : decode cX5_mend 62 = .ok (.iload_n 3, 1) := by decide +kernel
theorem dX5_mend_63 : decode cX5_mend 63 = .ok (.iload_n 1, 1) := by decide +kernel
theorem dX5_mend_64 : decode cX5_mend 64 = .ok (.iconst 0, 1) := by decide +kernel
theorem dX5_mend_65 : decode cX5_mend 65 = .ok (.invokevirtual 97, 3) := by decide +kernel
theorem dX5_mend_68 : decode cX5_mend 68 = .ok (.aload_n 0, 1) := by decide +kernel
theorem dX5_mend_69 : decode cX5_mend 69 = .ok (.iload_n 2, 1) := by decide +kernel
theorem dX5_mend_70 : decode cX5_mend 70 = .ok (.iload_n 3, 1) := by decide +kernel
theorem dX5_mend_71 : decode cX5_mend 71 = .ok (.iload_n 1, 1) := by decide +kernel
theorem dX5_mend_72 : decode cX5_mend 72 = .ok (.iconst 1, 1) := by decide +kernel
theorem dX5_mend_73 : decode cX5_mend 73 = .ok (.invokevirtual 97, 3) := by decide +kernel
theorem dX5_mend_76 : decode cX5_mend 76 = .ok (.aload_n 0, 1) := by decide +kernel
theorem dX5_mend_77 : decode cX5_mend 77 = .ok (.iload_n 2, 1) := by decide +kernel
theorem dX5_mend_78 : decode cX5_mend 78 = .ok (.iload_n 3, 1) := by decide +kernel
theorem dX5_mend_79 : decode cX5_mend 79 = .ok (.iload_n 1, 1) := by decide +kernel
theorem dX5_mend_80 : decode cX5_mend 80 = .ok (.iconst 2, 1) := by decide +kernel
theorem dX5_mend_81 : decode cX5_mend 81 = .ok (.invokevirtual 97, 3) := by decide +kernel
theorem dX5_mend_84 : decode cX5_mend 84 = .ok (.dconst 0, 1) := by decide +kernel
theorem dX5_mend_85 : decode cX5_mend 85 = .ok (.invokevirtual 93, 3) := by decide +kernel
theorem dX5_mend_88 : decode cX5_mend 88 = .ok (.goto 51, 3) := by decide +kernel
theorem dX5_mend_91 : decode cX5_mend 91 = .ok (.iload_n 2, 1) := by decide +kernel
theorem dX5_mend_92 : decode cX5_mend 92 = .ok (.ifCond .lt 7, 3) := by decide +kernel
theorem dX5_mend_95 : decode cX5_mend 95 = .ok (.iload_n 2, 1) := by decide +kernel
theorem dX5_mend_96 : decode cX5_mend 96 = .ok (.goto 4, 3) := by decide +kernel
theorem dX5_mend_99 : decode cX5_mend 99 = .ok (.iload_n 3, 1) := by decide +kernel
theorem dX5_mend_100 : decode cX5_mend 100 = .ok (.istore 4, 2) := by decide +kernel
theorem dX5_mend_102 : decode cX5_mend 102 = .ok (.aload_n 0, 1) := by decide +kernel
theorem dX5_mend_103 : decode cX5_mend 103 = .ok (.iload_n 1, 1) := by decide +kernel
theorem dX5_mend_104 : decode cX5_mend 104 = .ok (.aload_n 0, 1) := by decide +kernel
theorem dX5_mend_105 : decode cX5_mend 105 = .ok (.getfield 29, 3) := by decide +kernel
theorem dX5_mend_108 : decode cX5_mend 108 = .ok (.iconst 4, 1) := by decide +kernel
theorem dX5_mend_109 : decode cX5_mend 109 = .ok (.iload 4, 2) := by decide +kernel
theorem dX5_mend_111 : decode cX5_mend 111 = .ok (.imul, 1) := by decide +kernel
theorem dX5_mend_112 : decode cX5_mend 112 = .ok (.daload, 1) := by decide +kernel
theorem dX5_mend_113 : decode cX5_mend 113 = .ok (.aload_n 0, 1) := by decide +kernel
theorem dX5_mend_114 : decode cX5_mend 114 = .ok (.getfield 29, 3) := by decide +kernel
theorem dX5_mend_117 : decode cX5_mend 117 = .ok (.iconst 4, 1) := by decide +kernel
theorem dX5_mend_118 : decode cX5_mend 118 = .ok (.iload 4, 2) := by decide +kernel
theorem dX5_mend_120 : decode cX5_mend 120 = .ok (.imul, 1) := by decide +kernel
theorem dX5_mend_121 : decode cX5_mend 121 = .ok (.iconst 1, 1) := by decide +kernel
theorem dX5_mend_122 : decode cX5_mend 122 = .ok (.iadd, 1) := by decide +kernel
theorem dX5_mend_123 : decode cX5_mend 123 = .ok (.daload, 1) := by decide +kernel
theorem dX5_mend_124 : decode cX5_mend 124 = .ok (.aload_n 0, 1) := by decide +kernel
theorem dX5_mend_125 : decode cX5_mend 125 = .ok (.getfield 29, 3) := by decide +kernel
theorem dX5_mend_128 : decode cX5_mend 128 = .ok (.iconst 4, 1) := by decide +kernel
theorem dX5_mend_129 : decode cX5_mend 129 = .ok (.iload 4, 2) := by decide +kernel
theorem dX5_mend_131 : decode cX5_mend 131 = .ok (.imul, 1) := by decide +kernel
theorem dX5_mend_132 : decode cX5_mend 132 = .ok (.iconst 2, 1) := by decide +kernel
theorem dX5_mend_133 : decode cX5_mend 133 = .ok (.iadd, 1) := by decide +kernel
theorem dX5_mend_134 : decode cX5_mend 134 = .ok (.daload, 1) := by decide +kernel
theorem dX5_mend_135 : decode cX5_mend 135 = .ok (.dconst 0, 1) := by decide +kernel
theorem dX5_mend_136 : decode cX5_mend 136 = .ok (.invokevirtual 93, 3) := by decide +kernel
theorem dX5_mend_139 : decode cX5_mend 139 = .ok (.return_, 1) := by decide +kernel
set_option maxRecDepth 20000 in
theorem ggX5_run_X5_fit : GoodIn wsX5_run wsX5_fit := goodIn_r _ [10, 11, 12, 13, 14, 15, 16, 17, 18, 19, 20, 21, 9, 22, 23, 24, 25, 26, 27, 28, 29, 30, 39, 40, 41, 42, 43, 44, 45, 46, 47, 48, 49, 50, 51, 52, 53, 54, 55, 56, 57] (by decide +kernel) (by decide +kernel)
set_option maxRecDepth 20000 in
theorem gX5_run_X5_fit : GoodIn wsX5_run (wsV RX5 104 RX5 yX5_fit wsX5_fit) := goodIn_app (goodIn_of _ (by decide +kernel)) ggX5_run_X5_fit
set_option maxRecDepth 20000 in
theorem ggX5_run_X5_mend : GoodIn wsX5_run wsX5_mend := goodIn_r _ [34, 5, 4, 30, 35, 36, 37, 9, 38, 26, 27, 28, 29, 39, 40, 41, 42, 43, 44, 45, 46, 47, 48, 49, 50, 51, 52, 53, 54, 55, 56, 57] (by decide +kernel) (by decide +kernel)
set_option maxRecDepth 20000 in
theorem gX5_run_X5_mend : GoodIn wsX5_run (wsV RX5 107 RX5 yX5_mend wsX5_mend) := goodIn_app (goodIn_of _ (by decide +kernel)) ggX5_run_X5_mend
theorem dX5_run_0 : decode cX5_run 0 = .ok (.aload_n 0, 1) := by decide +kernel
theorem dX5_run_1 : decode cX5_run 1 = .ok (.iconst 0, 1) := by decide +kernel
theorem dX5_run_2 : decode cX5_run 2 = .ok (.putfield 55, 3) := by decide +kernel
theorem dX5_run_5 : decode cX5_run 5 = .ok (.aload_n 0, 1) := by decide +kernel
theorem dX5_run_6 : decode cX5_run 6 = .ok (.iconst 1, 1) := by decide +kernel
theorem dX5_run_7 : decode cX5_run 7 = .ok (.putfield 70, 3) := by decide +kernel
theorem dX5_run_10 : decode cX5_run 10 = .ok (.aload_n 0, 1) := by decide +kernel
theorem dX5_run_11 : decode cX5_run 11 = .ok (.iconst 0, 1) := by decide +kernel
theorem dX5_run_12 : decode cX5_run 12 = .ok (.putfield 101, 3) := by decide +kernel
theorem dX5_run_15 : decode cX5_run 15 = .ok (.iconst 0, 1) := by decide +kernel
theorem dX5_run_16 : decode cX5_run 16 = .ok (.istore_n 1, 1) := by decide +kernel
theorem dX5_run_17 : decode cX5_run 17 = .ok (.iload_n 1, 1) := by decide +kernel
theorem dX5_run_18 : decode cX5_run 18 = .ok (.aload_n 0, 1) := by decide +kernel
theorem dX5_run_19 : decode cX5_run 19 = .ok (.getfield 48, 3) := by decide +kernel
theorem dX5_run_22 : decode cX5_run 22 = .ok (.if_icmp .ge 46, 3) := by decide +kernel
theorem dX5_run_25 : decode cX5_run 25 = .ok (.aload_n 0, 1) := by decide +kernel
theorem dX5_run_26 : decode cX5_run 26 = .ok (.getfield 26, 3) := by decide +kernel
theorem dX5_run_29 : decode cX5_run 29 = .ok (.iload_n 1, 1) := by decide +kernel
theorem dX5_run_30 : decode cX5_run 30 = .ok (.aload_n 0, 1) := by decide +kernel
theorem dX5_run_31 : decode cX5_run 31 = .ok (.iload_n 1, 1) := by decide +kernel
theorem dX5_run_32 : decode cX5_run 32 = .ok (.invokevirtual 104, 3) := by decide +kernel
theorem dX5_run_35 : decode cX5_run 35 = .ok (.bastore, 1) := by decide +kernel
theorem dX5_run_36 : decode cX5_run 36 = .ok (.aload_n 0, 1) := by decide +kernel
theorem dX5_run_37 : decode cX5_run 37 = .ok (.aload_n 0, 1) := by decide +kernel
theorem dX5_run_38 : decode cX5_run 38 = .ok (.getfield 26, 3) := by decide +kernel
theorem dX5_run_41 : decode cX5_run 41 = .ok (.iload_n 1, 1) := by decide +kernel
theorem dX5_run_42 : decode cX5_run 42 = .ok (.baload, 1) := by decide +kernel
theorem dX5_run_43 : decode cX5_run 43 = .ok (.ifCond .eq 12, 3) := by decide +kernel
theorem dX5_run_46 : decode cX5_run 46 = .ok (.aload_n 0, 1) := by decide +kernel
theorem dX5_run_47 : decode cX5_run 47 = .ok (.getfield 101, 3) := by decide +kernel
theorem dX5_run_50 : decode cX5_run 50 = .ok (.iconst 1, 1) := by decide +kernel
theorem dX5_run_51 : decode cX5_run 51 = .ok (.iadd, 1) := by decide +kernel
theorem dX5_run_52 : decode cX5_run 52 = .ok (.goto 7, 3) := by decide +kernel
theorem dX5_run_55 : decode cX5_run 55 = .ok (.aload_n 0, 1) := by decide +kernel
theorem dX5_run_56 : decode cX5_run 56 = .ok (.getfield 101, 3) := by decide +kernel
theorem dX5_run_59 : decode cX5_run 59 = .ok (.putfield 101, 3) := by decide +kernel
theorem dX5_run_62 : decode cX5_run 62 = .ok (.iinc 1 1, 3) := by decide +kernel
theorem dX5_run_65 : decode cX5_run 65 = .ok (.goto (-48), 3) := by decide +kernel
theorem dX5_run_68 : decode cX5_run 68 = .ok (.iconst 0, 1) := by decide +kernel
theorem dX5_run_69 : decode cX5_run 69 = .ok (.istore_n 1, 1) := by decide +kernel
theorem dX5_run_70 : decode cX5_run 70 = .ok (.iload_n 1, 1) := by decide +kernel
theorem dX5_run_71 : decode cX5_run 71 = .ok (.aload_n 0, 1) := by decide +kernel
theorem dX5_run_72 : decode cX5_run 72 = .ok (.getfield 48, 3) := by decide +kernel
theorem dX5_run_75 : decode cX5_run 75 = .ok (.if_icmp .ge 30, 3) := by decide +kernel
theorem dX5_run_78 : decode cX5_run 78 = .ok (.aload_n 0, 1) := by decide +kernel
theorem dX5_run_79 : decode cX5_run 79 = .ok (.getfield 101, 3) := by decide +kernel
theorem dX5_run_82 : decode cX5_run 82 = .ok (.ifCond .le 23, 3) := by decide +kernel
theorem dX5_run_85 : decode cX5_run 85 = .ok (.aload_n 0, 1) := by decide +kernel
theorem dX5_run_86 : decode cX5_run 86 = .ok (.getfield 26, 3) := by decide +kernel
theorem dX5_run_89 : decode cX5_run 89 = .ok (.iload_n 1, 1) := by decide +kernel
theorem dX5_run_90 : decode cX5_run 90 = .ok (.baload, 1) := by decide +kernel
theorem dX5_run_91 : decode cX5_run 91 = .ok (.ifCond .ne 8, 3) := by decide +kernel
theorem dX5_run_94 : decode cX5_run 94 = .ok (.aload_n 0, 1) := by decide +kernel
theorem dX5_run_95 : decode cX5_run 95 = .ok (.iload_n 1, 1) := by decide +kernel
theorem dX5_run_96 : decode cX5_run 96 = .ok (.invokevirtual 107, 3) := by decide +kernel
theorem dX5_run_99 : decode cX5_run 99 = .ok (.iinc 1 1, 3) := by decide +kernel
theorem dX5_run_102 : decode cX5_run 102 = .ok (.goto (-32), 3) := by decide +kernel
theorem dX5_run_105 : decode cX5_run 105 = .ok (.aload_n 0, 1) := by decide +kernel
theorem dX5_run_106 : decode cX5_run 106 = .ok (.getfield 101, 3) := by decide +kernel
theorem dX5_run_109 : decode cX5_run 109 = .ok (.ireturn, 1) := by decide +kernel
theorem dX5_hasShape_0 : decode cX5_hasShape 0 = .ok (.aload_n 0, 1) := by decide +kernel
theorem dX5_hasShape_1 : decode cX5_hasShape 1 = .ok (.getfield 70, 3) := by decide +kernel
theorem dX5_hasShape_4 : decode cX5_hasShape 4 = .ok (.ifCond .eq 14, 3) := by decide +kernel
theorem dX5_hasShape_7 : decode cX5_hasShape 7 = .ok (.aload_n 0, 1) := by decide +kernel
theorem dX5_hasShape_8 : decode cX5_hasShape 8 = .ok (.getfield 101, 3) := by decide +kernel
theorem dX5_hasShape_11 : decode cX5_hasShape 11 = .ok (.ifCond .le 7, 3) := by decide +kernel
theorem dX5_hasShape_14 : decode cX5_hasShape 14 = .ok (.iconst 1, 1) := by decide +kernel
theorem dX5_hasShape_15 : decode cX5_hasShape 15 = .ok (.goto 4, 3) := by decide +kernel
theorem dX5_hasShape_18 : decode cX5_hasShape 18 = .ok (.iconst 0, 1) := by decide +kernel
theorem dX5_hasShape_19 : decode cX5_hasShape 19 = .ok (.ireturn, 1) := by decide +kernel
theorem dX5_area_0 : decode cX5_area 0 = .ok (.aload_n 0, 1) := by decide +kernel
theorem dX5_area_1 : decode cX5_area 1 = .ok (.getfield 29, 3) := by decide +kernel
theorem dX5_area_4 : decode cX5_area 4 = .ok (.iconst 4, 1) := by decide +kernel
theorem dX5_area_5 : decode cX5_area 5 = .ok (.iload_n 1, 1) := by decide +kernel
theorem dX5_area_6 : decode cX5_area 6 = .ok (.imul, 1) := by decide +kernel
theorem dX5_area_7 : decode cX5_area 7 = .ok (.iconst 2, 1) := by decide +kernel
theorem dX5_area_8 : decode cX5_area 8 = .ok (.iadd, 1) := by decide +kernel
theorem dX5_area_9 : decode cX5_area 9 = .ok (.daload, 1) := by decide +kernel
theorem dX5_area_10 : decode cX5_area 10 = .ok (.dstore_n 2, 1) := by decide +kernel
theorem dX5_area_11 : decode cX5_area 11 = .ok (.ldc2_w 111, 3) := by decide +kernel
theorem dX5_area_14 : decode cX5_area 14 = .ok (.dload_n 2, 1) := by decide +kernel
theorem dX5_area_15 : decode cX5_area 15 = .ok (.dmul, 1) := by decide +kernel
theorem dX5_area_16 : decode cX5_area 16 = .ok (.dload_n 2, 1) := by decide +kernel
theorem dX5_area_17 : decode cX5_area 17 = .ok (.dmul, 1) := by decide +kernel
theorem dX5_area_18 : decode cX5_area 18 = .ok (.dreturn, 1) := by decide +kernel
set_option maxRecDepth 20000 in
theorem ggX5_shape_X5_noSlice : GoodIn wsX5_shape wsX5_noSlice := goodIn_r _ [7, 8, 20, 21, 22, 23, 24, 25, 26, 27, 28, 29, 30, 31, 32, 33, 34, 35, 36, 37, 38] (by decide +kernel) (by decide +kernel)
set_option maxRecDepth 20000 in
theorem gX5_shape_X5_noSlice : GoodIn wsX5_shape (wsV RX5 74 RX5 yX5_noSlice wsX5_noSlice) := goodIn_app (goodIn_of _ (by decide +kernel)) ggX5_shape_X5_noSlice
set_option maxRecDepth 20000 in
theorem ggX5_shape_X5_hasShape : GoodIn wsX5_shape wsX5_hasShape := goodIn_r _ [12, 13, 14, 20, 21, 22, 23, 24, 25, 26, 27, 28, 29, 30, 31, 32, 33, 34, 35, 36, 37, 38] (by decide +kernel) (by decide +kernel)
set_option maxRecDepth 20000 in
theorem gX5_shape_X5_hasShape : GoodIn wsX5_shape (wsV RX5 113 RX5 yX5_hasShape wsX5_hasShape) := goodIn_app (goodIn_of _ (by decide +kernel)) ggX5_shape_X5_hasShape
set_option maxRecDepth 20000 in
theorem ggX5_shape_X5_area : GoodIn wsX5_shape wsX5_area := goodIn_r _ [18, 2, 19, 20, 21, 22, 23, 24, 25, 26, 27, 28, 29, 30, 31, 32, 33, 34, 35, 36, 37, 38] (by decide +kernel) (by decide +kernel)
set_option maxRecDepth 20000 in
theorem gX5_shape_X5_area : GoodIn wsX5_shape (wsV RX5 117 RX5 yX5_area wsX5_area) := goodIn_app (goodIn_of _ (by decide +kernel)) ggX5_shape_X5_area
theorem dX5_shape_0 : decode cX5_shape 0 = .ok (.aload_n 0, 1) := by decide +kernel
theorem dX5_shape_1 : decode cX5_shape 1 = .ok (.aload_n 0, 1) := by decide +kernel
theorem dX5_shape_2 : decode cX5_shape 2 = .ok (.iload_n 1, 1) := by decide +kernel
theorem dX5_shape_3 : decode cX5_shape 3 = .ok (.invokevirtual 74, 3) := by decide +kernel
theorem dX5_shape_6 : decode cX5_shape 6 = .ok (.ifCond .ne 12, 3) := by decide +kernel
theorem dX5_shape_9 : decode cX5_shape 9 = .ok (.iload_n 2, 1) := by decide +kernel
theorem dX5_shape_10 : decode cX5_shape 10 = .ok (.ifCond .lt 8, 3) := by decide +kernel
theorem dX5_shape_13 : decode cX5_shape 13 = .ok (.iload_n 2, 1) := by decide +kernel
theorem dX5_shape_14 : decode cX5_shape 14 = .ok (.iconst 4, 1) := by decide +kernel
theorem dX5_shape_15 : decode cX5_shape 15 = .ok (.if_icmp .le 7, 3) := by decide +kernel
theorem dX5_shape_18 : decode cX5_shape 18 = .ok (.iconst 1, 1) := by decide +kernel
theorem dX5_shape_19 : decode cX5_shape 19 = .ok (.goto 15, 3) := by decide +kernel
theorem dX5_shape_22 : decode cX5_shape 22 = .ok (.aload_n 0, 1) := by decide +kernel
theorem dX5_shape_23 : decode cX5_shape 23 = .ok (.invokevirtual 113, 3) := by decide +kernel
theorem dX5_shape_26 : decode cX5_shape 26 = .ok (.ifCond .eq 7, 3) := by decide +kernel
theorem dX5_shape_29 : decode cX5_shape 29 = .ok (.iconst 0, 1) := by decide +kernel
theorem dX5_shape_30 : decode cX5_shape 30 = .ok (.goto 4, 3) := by decide +kernel
theorem dX5_shape_33 : decode cX5_shape 33 = .ok (.iconst 2, 1) := by decide +kernel
theorem dX5_shape_34 : decode cX5_shape 34 = .ok (.putfield 55, 3) := by decide +kernel
theorem dX5_shape_37 : decode cX5_shape 37 = .ok (.aload_n 0, 1) := by decide +kernel
theorem dX5_shape_38 : decode cX5_shape 38 = .ok (.getfield 55, 3) := by decide +kernel
theorem dX5_shape_41 : decode cX5_shape 41 = .ok (.ifCond .le 7, 3) := by decide +kernel
theorem dX5_shape_44 : decode cX5_shape 44 = .ok (.dconst 0, 1) := by decide +kernel
theorem dX5_shape_45 : decode cX5_shape 45 = .ok (.goto 26, 3) := by decide +kernel
theorem dX5_shape_48 : decode cX5_shape 48 = .ok (.iload_n 2, 1) := by decide +kernel
theorem dX5_shape_49 : decode cX5_shape 49 = .ok (.iconst 4, 1) := by decide +kernel
theorem dX5_shape_50 : decode cX5_shape 50 = .ok (.if_icmp .ne 11, 3) := by decide +kernel
theorem dX5_shape_53 : decode cX5_shape 53 = .ok (.aload_n 0, 1) := by decide +kernel
theorem dX5_shape_54 : decode cX5_shape 54 = .ok (.iload_n 1, 1) := by decide +kernel
theorem dX5_shape_55 : decode cX5_shape 55 = .ok (.invokevirtual 117, 3) := by decide +kernel
theorem dX5_shape_58 : decode cX5_shape 58 = .ok (.goto 13, 3) := by decide +kernel
theorem dX5_shape_61 : decode cX5_shape 61 = .ok (.aload_n 0, 1) := by decide +kernel
theorem dX5_shape_62 : decode cX5_shape 62 = .ok (.getfield 29, 3) := by decide +kernel
theorem dX5_shape_65 : decode cX5_shape 65 = .ok (.iconst 4, 1) := by decide +kernel
theorem dX5_shape_66 : decode cX5_shape 66 = .ok (.iload_n 1, 1) := by decide +kernel
theorem dX5_shape_67 : decode cX5_shape 67 = .ok (.imul, 1) := by decide +kernel
theorem dX5_shape_68 : decode cX5_shape 68 = .ok (.iload_n 2, 1) := by decide +kernel
theorem dX5_shape_69 : decode cX5_shape 69 = .ok (.iadd, 1) := by decide +kernel
theorem dX5_shape_70 : decode cX5_shape 70 = .ok (.daload, 1) := by decide +kernel
theorem dX5_shape_71 : decode cX5_shape 71 = .ok (.dreturn, 1) := by decide +kernel
set_option maxRecDepth 20000 in
theorem ggX5_fitted_X5_noSlice : GoodIn wsX5_fitted wsX5_noSlice := goodIn_r _ [7, 8, 15, 16, 17, 18, 19, 20, 21, 22, 23, 24, 25, 26, 27, 28, 29, 30, 31, 32, 33] (by decide +kernel) (by decide +kernel)
set_option maxRecDepth 20000 in
theorem gX5_fitted_X5_noSlice : GoodIn wsX5_fitted (wsV RX5 74 RX5 yX5_noSlice wsX5_noSlice) := goodIn_app (goodIn_of _ (by decide +kernel)) ggX5_fitted_X5_noSlice
set_option maxRecDepth 20000 in
theorem ggX5_fitted_X5_hasShape : GoodIn wsX5_fitted wsX5_hasShape := goodIn_r _ [12, 13, 14, 15, 16, 17, 18, 19, 20, 21, 22, 23, 24, 25, 26, 27, 28, 29, 30, 31, 32, 33] (by decide +kernel) (by decide +kernel)
set_option maxRecDepth 20000 in
theorem gX5_fitted_X5_hasShape : GoodIn wsX5_fitted (wsV RX5 113 RX5 yX5_hasShape wsX5_hasShape) := goodIn_app (goodIn_of _ (by decide +kernel)) ggX5_fitted_X5_hasShape
theorem dX5_fitted_0 : decode cX5_fitted 0 = .ok (.aload_n 0, 1) := by decide +kernel
theorem dX5_fitted_1 : decode cX5_fitted 1 = .ok (.aload_n 0, 1) := by decide +kernel
theorem dX5_fitted_2 : decode cX5_fitted 2 = .ok (.iload_n 1, 1) := by decide +kernel
theorem dX5_fitted_3 : decode cX5_fitted 3 = .ok (.invokevirtual 74, 3) := by decide +kernel
theorem dX5_fitted_6 : decode cX5_fitted 6 = .ok (.ifCond .eq 7, 3) := by decide +kernel
theorem dX5_fitted_9 : decode cX5_fitted 9 = .ok (.iconst 1, 1) := by decide +kernel
theorem dX5_fitted_10 : decode cX5_fitted 10 = .ok (.goto 15, 3) := by decide +kernel
theorem dX5_fitted_13 : decode cX5_fitted 13 = .ok (.aload_n 0, 1) := by decide +kernel
theorem dX5_fitted_14 : decode cX5_fitted 14 = .ok (.invokevirtual 113, 3) := by decide +kernel
theorem dX5_fitted_17 : decode cX5_fitted 17 = .ok (.ifCond .eq 7, 3) := by decide +kernel
theorem dX5_fitted_20 : decode cX5_fitted 20 = .ok (.iconst 0, 1) := by decide +kernel
theorem dX5_fitted_21 : decode cX5_fitted 21 = .ok (.goto 4, 3) := by decide +kernel
theorem dX5_fitted_24 : decode cX5_fitted 24 = .ok (.iconst 2, 1) := by decide +kernel
theorem dX5_fitted_25 : decode cX5_fitted 25 = .ok (.putfield 55, 3) := by decide +kernel
theorem dX5_fitted_28 : decode cX5_fitted 28 = .ok (.aload_n 0, 1) := by decide +kernel
theorem dX5_fitted_29 : decode cX5_fitted 29 = .ok (.getfield 55, 3) := by decide +kernel
theorem dX5_fitted_32 : decode cX5_fitted 32 = .ok (.ifCond .ne 16, 3) := by decide +kernel
theorem dX5_fitted_35 : decode cX5_fitted 35 = .ok (.aload_n 0, 1) := by decide +kernel
theorem dX5_fitted_36 : decode cX5_fitted 36 = .ok (.getfield 26, 3) := by decide +kernel
theorem dX5_fitted_39 : decode cX5_fitted 39 = .ok (.iload_n 1, 1) := by decide +kernel
theorem dX5_fitted_40 : decode cX5_fitted 40 = .ok (.baload, 1) := by decide +kernel
theorem dX5_fitted_41 : decode cX5_fitted 41 = .ok (.ifCond .eq 7, 3) := by decide +kernel
theorem dX5_fitted_44 : decode cX5_fitted 44 = .ok (.iconst 1, 1) := by decide +kernel
theorem dX5_fitted_45 : decode cX5_fitted 45 = .ok (.goto 4, 3) := by decide +kernel
theorem dX5_fitted_48 : decode cX5_fitted 48 = .ok (.iconst 0, 1) := by decide +kernel
theorem dX5_fitted_49 : decode cX5_fitted 49 = .ok (.ireturn, 1) := by decide +kernel
theorem dX5_isInside_0 : decode cX5_isInside 0 = .ok (.dload_n 2, 1) := by decide +kernel
theorem dX5_isInside_1 : decode cX5_isInside 1 = .ok (.aload_n 0, 1) := by decide +kernel
theorem dX5_isInside_2 : decode cX5_isInside 2 = .ok (.getfield 29, 3) := by decide +kernel
theorem dX5_isInside_5 : decode cX5_isInside 5 = .ok (.iconst 4, 1) := by decide +kernel
theorem dX5_isInside_6 : decode cX5_isInside 6 = .ok (.iload_n 1, 1) := by decide +kernel
theorem dX5_isInside_7 : decode cX5_isInside 7 = .ok (.imul, 1) := by decide +kernel
theorem dX5_isInside_8 : decode cX5_isInside 8 = .ok (.daload, 1) := by decide +kernel
theorem dX5_isInside_9 : decode cX5_isInside 9 = .ok (.dsub, 1) := by decide +kernel
theorem dX5_isInside_10 : decode cX5_isInside 10 = .ok (.dstore 6, 2) := by decide +kernel
theorem dX5_isInside_12 : decode cX5_isInside 12 = .ok (.dload 4, 2) := by decide +kernel
theorem dX5_isInside_14 : decode cX5_isInside 14 = .ok (.aload_n 0, 1) := by decide +kernel
theorem dX5_isInside_15 : decode cX5_isInside 15 = .ok (.getfield 29, 3) := by decide +kernel
theorem dX5_isInside_18 : decode cX5_isInside 18 = .ok (.iconst 4, 1) := by decide +kernel
theorem dX5_isInside_19 : decode cX5_isInside 19 = .ok (.iload_n 1, 1) := by decide +kernel
theorem dX5_isInside_20 : decode cX5_isInside 20 = .ok (.imul, 1) := by decide +kernel
theorem dX5_isInside_21 : decode cX5_isInside 21 = .ok (.iconst 1, 1) := by decide +kernel
theorem dX5_isInside_22 : decode cX5_isInside 22 = .ok (.iadd, 1) := by decide +kernel
theorem dX5_isInside_23 : decode cX5_isInside 23 = .ok (.daload, 1) := by decide +kernel
theorem dX5_isInside_24 : decode cX5_isInside 24 = .ok (.dsub, 1) := by decide +kernel
theorem dX5_isInside_25 : decode cX5_isInside 25 = .ok (.dstore 8, 2) := by decide +kernel
theorem dX5_isInside_27 : decode cX5_isInside 27 = .ok (.aload_n 0, 1) := by decide +kernel
theorem dX5_isInside_28 : decode cX5_isInside 28 = .ok (.getfield 29, 3) := by decide +kernel
theorem dX5_isInside_31 : decode cX5_isInside 31 = .ok (.iconst 4, 1) := by decide +kernel
theorem dX5_isInside_32 : decode cX5_isInside 32 = .ok (.iload_n 1, 1) := by decide +kernel
theorem dX5_isInside_33 : decode cX5_isInside 33 = .ok (.imul, 1) := by decide +kernel
theorem dX5_isInside_34 : decode cX5_isInside 34 = .ok (.iconst 2, 1) := by decide +kernel
theorem dX5_isInside_35 : decode cX5_isInside 35 = .ok (.iadd, 1) := by decide +kernel
theorem dX5_isInside_36 : decode cX5_isInside 36 = .ok (.daload, 1) := by decide +kernel
theorem dX5_isInside_37 : decode cX5_isInside 37 = .ok (.dstore 10, 2) := by decide +kernel
theorem dX5_isInside_39 : decode cX5_isInside 39 = .ok (.dload 6, 2) := by decide +kernel
theorem dX5_isInside_41 : decode cX5_isInside 41 = .ok (.dload 6, 2) := by decide +kernel
theorem dX5_isInside_43 : decode cX5_isInside 43 = .ok (.dmul, 1) := by decide +kernel
theorem dX5_isInside_44 : decode cX5_isInside 44 = .ok (.dload 8, 2) := by decide +kernel
theorem dX5_isInside_46 : decode cX5_isInside 46 = .ok (.dload 8, 2) := by decide +kernel
theorem dX5_isInside_48 : decode cX5_isInside 48 = .ok (.dmul, 1) := by decide +kernel
theorem dX5_isInside_49 : decode cX5_isInside 49 = .ok (.dadd, 1) := by decide +kernel
theorem dX5_isInside_50 : decode cX5_isInside 50 = .ok (.dload 10, 2) := by decide +kernel
theorem dX5_isInside_52 : decode cX5_isInside 52 = .ok (.dload 10, 2) := by decide +kernel
theorem dX5_isInside_54 : decode cX5_isInside 54 = .ok (.dmul, 1) := by decide +kernel
theorem dX5_isInside_55 : decode cX5_isInside 55 = .ok (.dcmp .g, 1) := by decide +kernel
theorem dX5_isInside_56 : decode cX5_isInside 56 = .ok (.ifCond .gt 7, 3) := by decide +kernel
theorem dX5_isInside_59 : decode cX5_isInside 59 = .ok (.iconst 1, 1) := by decide +kernel
theorem dX5_isInside_60 : decode cX5_isInside 60 = .ok (.goto 4, 3) := by decide +kernel
theorem dX5_isInside_63 : decode cX5_isInside 63 = .ok (.iconst 0, 1) := by decide +kernel
theorem dX5_isInside_64 : decode cX5_isInside 64 = .ok (.ireturn, 1) := by decide +kernel
set_option maxRecDepth 20000 in
theorem ggX5_inside_X5_noSlice : GoodIn wsX5_inside wsX5_noSlice := goodIn_r _ [8, 9, 24, 25, 26, 27, 28, 29, 30, 31, 32, 33, 34, 35, 36, 37, 38, 39, 40, 41, 42] (by decide +kernel) (by decide +kernel)
set_option maxRecDepth 20000 in
theorem gX5_inside_X5_noSlice : GoodIn wsX5_inside (wsV RX5 74 RX5 yX5_noSlice wsX5_noSlice) := goodIn_app (goodIn_of _ (by decide +kernel)) ggX5_inside_X5_noSlice
set_option maxRecDepth 20000 in
theorem ggX5_inside_X5_between : GoodIn wsX5_inside wsX5_between := goodIn_r _ [12] (by decide +kernel) (by decide +kernel)
set_option maxRecDepth 20000 in
theorem gX5_inside_X5_between : GoodIn wsX5_inside (va_wsS RX5 66 yX5_between wsX5_between) := goodIn_app (goodIn_of _ (by decide +kernel)) ggX5_inside_X5_between
set_option maxRecDepth 20000 in
theorem ggX5_inside_X5_hasShape : GoodIn wsX5_inside wsX5_hasShape := goodIn_r _ [16, 17, 18, 24, 25, 26, 27, 28, 29, 30, 31, 32, 33, 34, 35, 36, 37, 38, 39, 40, 41, 42] (by decide +kernel) (by decide +kernel)
set_option maxRecDepth 20000 in
theorem gX5_inside_X5_hasShape : GoodIn wsX5_inside (wsV RX5 113 RX5 yX5_hasShape wsX5_hasShape) := goodIn_app (goodIn_of _ (by decide +kernel)) ggX5_inside_X5_hasShape
set_option maxRecDepth 20000 in
theorem ggX5_inside_X5_isInside : GoodIn wsX5_inside wsX5_isInside := goodIn_r _ [22, 23, 24, 25, 26, 27, 28, 29, 30, 31, 32, 33, 34, 35, 36, 37, 38, 39, 40, 41, 42] (by decide +kernel) (by decide +kernel)
set_option maxRecDepth 20000 in
theorem gX5_inside_X5_isInside : GoodIn wsX5_inside (wsV RX5 120 RX5 yX5_isInside wsX5_isInside) := goodIn_app (goodIn_of _ (by decide +kernel)) ggX5_inside_X5_isInside
theorem dX5_inside_0 : decode cX5_inside 0 = .ok (.aload_n 0, 1) := by decide +kernel
theorem dX5_inside_1 : decode cX5_inside 1 = .ok (.aload_n 0, 1) := by decide +kernel
theorem dX5_inside_2 : decode cX5_inside 2 = .ok (.iload_n 1, 1) := by decide +kernel
theorem dX5_inside_3 : decode cX5_inside 3 = .ok (.invokevirtual 74, 3) := by decide +kernel
theorem dX5_inside_6 : decode cX5_inside 6 = .ok (.ifCond .eq 7, 3) := by decide +kernel
theorem dX5_inside_9 : decode cX5_inside 9 = .ok (.iconst 1, 1) := by decide +kernel
theorem dX5_inside_10 : decode cX5_inside 10 = .ok (.goto 46, 3) := by decide +kernel
theorem dX5_inside_13 : decode cX5_inside 13 = .ok (.dload_n 2, 1) := by decide +kernel
theorem dX5_inside_14 : decode cX5_inside 14 = .ok (.ldc2_w 77, 3) := by decide +kernel
theorem dX5_inside_17 : decode cX5_inside 17 = .ok (.ldc2_w 79, 3) := by decide +kernel
theorem dX5_inside_20 : decode cX5_inside 20 = .ok (.invokestatic 66, 3) := by decide +kernel
theorem dX5_inside_23 : decode cX5_inside 23 = .ok (.ifCond .eq 17, 3) := by decide +kernel
theorem dX5_inside_26 : decode cX5_inside 26 = .ok (.dload 4, 2) := by decide +kernel
theorem dX5_inside_28 : decode cX5_inside 28 = .ok (.ldc2_w 77, 3) := by decide +kernel
theorem dX5_inside_31 : decode cX5_inside 31 = .ok (.ldc2_w 79, 3) := by decide +kernel
theorem dX5_inside_34 : decode cX5_inside 34 = .ok (.invokestatic 66, 3) := by decide +kernel
theorem dX5_inside_37 : decode cX5_inside 37 = .ok (.ifCond .ne 7, 3) := by decide +kernel
theorem dX5_inside_40 : decode cX5_inside 40 = .ok (.iconst 2, 1) := by decide +kernel
theorem dX5_inside_41 : decode cX5_inside 41 = .ok (.goto 15, 3) := by decide +kernel
theorem dX5_inside_44 : decode cX5_inside 44 = .ok (.aload_n 0, 1) := by decide +kernel
theorem dX5_inside_45 : decode cX5_inside 45 = .ok (.invokevirtual 113, 3) := by decide +kernel
theorem dX5_inside_48 : decode cX5_inside 48 = .ok (.ifCond .eq 7, 3) := by decide +kernel
theorem dX5_inside_51 : decode cX5_inside 51 = .ok (.iconst 0, 1) := by decide +kernel
theorem dX5_inside_52 : decode cX5_inside 52 = .ok (.goto 4, 3) := by decide +kernel
theorem dX5_inside_55 : decode cX5_inside 55 = .ok (.iconst 3, 1) := by decide +kernel
theorem dX5_inside_56 : decode cX5_inside 56 = .ok (.putfield 55, 3) := by decide +kernel
theorem dX5_inside_59 : decode cX5_inside 59 = .ok (.aload_n 0, 1) := by decide +kernel
theorem dX5_inside_60 : decode cX5_inside 60 = .ok (.getfield 55, 3) := by decide +kernel
theorem dX5_inside_63 : decode cX5_inside 63 = .ok (.ifCond .ne 18, 3) := by decide +kernel
theorem dX5_inside_66 : decode cX5_inside 66 = .ok (.aload_n 0, 1) := by decide +kernel
theorem dX5_inside_67 : decode cX5_inside 67 = .ok (.iload_n 1, 1) := by decide +kernel
theorem dX5_inside_68 : decode cX5_inside 68 = .ok (.dload_n 2, 1) := by decide +kernel
theorem dX5_inside_69 : decode cX5_inside 69 = .ok (.dload 4, 2) := by decide +kernel
theorem dX5_inside_71 : decode cX5_inside 71 = .ok (.invokevirtual 120, 3) := by decide +kernel
theorem dX5_inside_74 : decode cX5_inside 74 = .ok (.ifCond .eq 7, 3) := by decide +kernel
theorem dX5_inside_77 : decode cX5_inside 77 = .ok (.iconst 1, 1) := by decide +kernel
theorem dX5_inside_78 : decode cX5_inside 78 = .ok (.goto 4, 3) := by decide +kernel
theorem dX5_inside_81 : decode cX5_inside 81 = .ok (.iconst 0, 1) := by decide +kernel
theorem dX5_inside_82 : decode cX5_inside 82 = .ok (.ireturn, 1) := by decide +kernel
set_option maxRecDepth 20000 in
theorem ggX5_wholes_X5_noSlice : GoodIn wsX5_wholes wsX5_noSlice := goodIn_r _ [6, 7, 19, 20, 21, 22, 23, 24, 25, 26, 27, 28, 29, 30, 31, 32, 33, 34, 35, 36, 37] (by decide +kernel) (by decide +kernel)
set_option maxRecDepth 20000 in
theorem gX5_wholes_X5_noSlice : GoodIn wsX5_wholes (wsV RX5 74 RX5 yX5_noSlice wsX5_noSlice) := goodIn_app (goodIn_of _ (by decide +kernel)) ggX5_wholes_X5_noSlice
set_option maxRecDepth 20000 in
theorem ggX5_wholes_X5_hasShape : GoodIn wsX5_wholes wsX5_hasShape := goodIn_r _ [11, 12, 13, 19, 20, 21, 22, 23, 24, 25, 26, 27, 28, 29, 30, 31, 32, 33, 34, 35, 36, 37] (by decide +kernel) (by decide +kernel)
set_option maxRecDepth 20000 in
theorem gX5_wholes_X5_hasShape : GoodIn wsX5_wholes (wsV RX5 113 RX5 yX5_hasShape wsX5_hasShape) := goodIn_app (goodIn_of _ (by decide +kernel)) ggX5_wholes_X5_hasShape
set_option maxRecDepth 20000 in
theorem ggX5_wholes_X5_isInside : GoodIn wsX5_wholes wsX5_isInside := goodIn_r _ [17, 18, 19, 20, 21, 22, 23, 24, 25, 26, 27, 28, 29, 30, 31, 32, 33, 34, 35, 36, 37] (by decide +kernel) (by decide +kernel)
set_option maxRecDepth 20000 in
theorem gX5_wholes_X5_isInside : GoodIn wsX5_wholes (wsV RX5 120 RX5 yX5_isInside wsX5_isInside) := goodIn_app (goodIn_of _ (by decide +kernel)) ggX5_wholes_X5_isInside
theorem dX5_wholes_0 : decode cX5_wholes 0 = .ok (.aload_n 0, 1) := by decide +kernel
theorem dX5_wholes_1 : decode cX5_wholes 1 = .ok (.aload_n 0, 1) := by decide +kernel
theorem dX5_wholes_2 : decode cX5_wholes 2 = .ok (.iload_n 1, 1) := by decide +kernel
theorem dX5_wholes_3 : decode cX5_wholes 3 = .ok (.invokevirtual 74, 3) := by decide +kernel
theorem dX5_wholes_6 : decode cX5_wholes 6 = .ok (.ifCond .eq 7, 3) := by decide +kernel
theorem dX5_wholes_9 : decode cX5_wholes 9 = .ok (.iconst 1, 1) := by decide +kernel
theorem dX5_wholes_10 : decode cX5_wholes 10 = .ok (.goto 15, 3) := by decide +kernel
theorem dX5_wholes_13 : decode cX5_wholes 13 = .ok (.aload_n 0, 1) := by decide +kernel
theorem dX5_wholes_14 : decode cX5_wholes 14 = .ok (.invokevirtual 113, 3) := by decide +kernel
theorem dX5_wholes_17 : decode cX5_wholes 17 = .ok (.ifCond .eq 7, 3) := by decide +kernel
theorem dX5_wholes_20 : decode cX5_wholes 20 = .ok (.iconst 0, 1) := by decide +kernel
theorem dX5_wholes_21 : decode cX5_wholes 21 = .ok (.goto 4, 3) := by decide +kernel
theorem dX5_wholes_24 : decode cX5_wholes 24 = .ok (.iconst 2, 1) := by decide +kernel
theorem dX5_wholes_25 : decode cX5_wholes 25 = .ok (.putfield 55, 3) := by decide +kernel
theorem dX5_wholes_28 : decode cX5_wholes 28 = .ok (.iconst 0, 1) := by decide +kernel
theorem dX5_wholes_29 : decode cX5_wholes 29 = .ok (.istore_n 2, 1) := by decide +kernel
theorem dX5_wholes_30 : decode cX5_wholes 30 = .ok (.bipush (-40), 2) := by decide +kernel
theorem dX5_wholes_32 : decode cX5_wholes 32 = .ok (.istore_n 3, 1) := by decide +kernel
theorem dX5_wholes_33 : decode cX5_wholes 33 = .ok (.iload_n 3, 1) := by decide +kernel
theorem dX5_wholes_34 : decode cX5_wholes 34 = .ok (.bipush 40, 2) := by decide +kernel
theorem dX5_wholes_36 : decode cX5_wholes 36 = .ok (.if_icmp .gt 54, 3) := by decide +kernel
theorem dX5_wholes_39 : decode cX5_wholes 39 = .ok (.aload_n 0, 1) := by decide +kernel
theorem dX5_wholes_40 : decode cX5_wholes 40 = .ok (.getfield 55, 3) := by decide +kernel
theorem dX5_wholes_43 : decode cX5_wholes 43 = .ok (.ifCond .ne 47, 3) := by decide +kernel
theorem dX5_wholes_46 : decode cX5_wholes 46 = .ok (.bipush (-40), 2) := by decide +kernel
theorem dX5_wholes_48 : decode cX5_wholes 48 = .ok (.istore 4, 2) := by decide +kernel
theorem dX5_wholes_50 : decode cX5_wholes 50 = .ok (.iload 4, 2) := by decide +kernel
theorem dX5_wholes_52 : decode cX5_wholes 52 = .ok (.bipush 40, 2) := by decide +kernel
theorem dX5_wholes_54 : decode cX5_wholes 54 = .ok (.if_icmp .gt 30, 3) := by decide +kernel
theorem dX5_wholes_57 : decode cX5_wholes 57 = .ok (.aload_n 0, 1) := by decide +kernel
theorem dX5_wholes_58 : decode cX5_wholes 58 = .ok (.iload_n 1, 1) := by decide +kernel
theorem dX5_wholes_59 : decode cX5_wholes 59 = .ok (.iload_n 3, 1) := by decide +kernel
theorem dX5_wholes_60 : decode cX5_wholes 60 = .ok (.i2d, 1) := by decide +kernel
theorem dX5_wholes_61 : decode cX5_wholes 61 = .ok (.iload 4, 2) := by decide +kernel
theorem dX5_wholes_63 : decode cX5_wholes 63 = .ok (.i2d, 1) := by decide +kernel
theorem dX5_wholes_64 : decode cX5_wholes 64 = .ok (.invokevirtual 120, 3) := by decide +kernel
theorem dX5_wholes_67 : decode cX5_wholes 67 = .ok (.ifCond .eq 9, 3) := by decide +kernel
theorem dX5_wholes_70 : decode cX5_wholes 70 = .ok (.iload_n 2, 1) := by decide +kernel
theorem dX5_wholes_71 : decode cX5_wholes 71 = .ok (.iconst 1, 1) := by decide +kernel
theorem dX5_wholes_72 : decode cX5_wholes 72 = .ok (.iadd, 1) := by decide +kernel
theorem dX5_wholes_73 : decode cX5_wholes 73 = .ok (.goto 4, 3) := by decide +kernel
theorem dX5_wholes_76 : decode cX5_wholes 76 = .ok (.iload_n 2, 1) := by decide +kernel
theorem dX5_wholes_77 : decode cX5_wholes 77 = .ok (.istore_n 2, 1) := by decide +kernel
theorem dX5_wholes_78 : decode cX5_wholes 78 = .ok (.iinc 4 1, 3) := by decide +kernel
theorem dX5_wholes_81 : decode cX5_wholes 81 = .ok (.goto (-31), 3) := by decide +kernel
theorem dX5_wholes_84 : decode cX5_wholes 84 = .ok (.iinc 3 1, 3) := by decide +kernel
theorem dX5_wholes_87 : decode cX5_wholes 87 = .ok (.goto (-54), 3) := by decide +kernel
theorem dX5_wholes_90 : decode cX5_wholes 90 = .ok (.iload_n 2, 1) := by decide +kernel
theorem dX5_wholes_91 : decode cX5_wholes 91 = .ok (.ireturn, 1) := by decide +kernel
set_option maxRecDepth 20000 in
theorem ggX5_volumeNow_X5_area : GoodIn wsX5_volumeNow wsX5_area := goodIn_r _ [6, 7, 8, 9, 10, 11, 12, 13, 14, 15, 16, 17, 18, 19, 20, 21, 22, 23, 24, 25, 26, 27] (by decide +kernel) (by decide +kernel)
set_option maxRecDepth 20000 in
theorem gX5_volumeNow_X5_area : GoodIn wsX5_volumeNow (wsV RX5 117 RX5 yX5_area wsX5_area) := goodIn_app (goodIn_of _ (by decide +kernel)) ggX5_volumeNow_X5_area
theorem dX5_volumeNow_0 : decode cX5_volumeNow 0 = .ok (.dconst 0, 1) := by decide +kernel
theorem dX5_volumeNow_1 : decode cX5_volumeNow 1 = .ok (.dstore_n 1, 1) := by decide +kernel
theorem dX5_volumeNow_2 : decode cX5_volumeNow 2 = .ok (.iconst 0, 1) := by decide +kernel
theorem dX5_volumeNow_3 : decode cX5_volumeNow 3 = .ok (.istore_n 3, 1) := by decide +kernel
theorem dX5_volumeNow_4 : decode cX5_volumeNow 4 = .ok (.iload_n 3, 1) := by decide +kernel
theorem dX5_volumeNow_5 : decode cX5_volumeNow 5 = .ok (.aload_n 0, 1) := by decide +kernel
theorem dX5_volumeNow_6 : decode cX5_volumeNow 6 = .ok (.getfield 48, 3) := by decide +kernel
theorem dX5_volumeNow_9 : decode cX5_volumeNow 9 = .ok (.if_icmp .ge 17, 3) := by decide +kernel
theorem dX5_volumeNow_12 : decode cX5_volumeNow 12 = .ok (.dload_n 1, 1) := by decide +kernel
theorem dX5_volumeNow_13 : decode cX5_volumeNow 13 = .ok (.aload_n 0, 1) := by decide +kernel
theorem dX5_volumeNow_14 : decode cX5_volumeNow 14 = .ok (.iload_n 3, 1) := by decide +kernel
theorem dX5_volumeNow_15 : decode cX5_volumeNow 15 = .ok (.invokevirtual 117, 3) := by decide +kernel
theorem dX5_volumeNow_18 : decode cX5_volumeNow 18 = .ok (.dadd, 1) := by decide +kernel
theorem dX5_volumeNow_19 : decode cX5_volumeNow 19 = .ok (.dstore_n 1, 1) := by decide +kernel
theorem dX5_volumeNow_20 : decode cX5_volumeNow 20 = .ok (.iinc 3 1, 3) := by decide +kernel
theorem dX5_volumeNow_23 : decode cX5_volumeNow 23 = .ok (.goto (-19), 3) := by decide +kernel
theorem dX5_volumeNow_26 : decode cX5_volumeNow 26 = .ok (.dload_n 1, 1) := by decide +kernel
theorem dX5_volumeNow_27 : decode cX5_volumeNow 27 = .ok (.dreturn, 1) := by decide +kernel
theorem dX5_taperNow_0 : decode cX5_taperNow 0 = .ok (.aload_n 0, 1) := by decide +kernel
theorem dX5_taperNow_1 : decode cX5_taperNow 1 = .ok (.getfield 48, 3) := by decide +kernel
theorem dX5_taperNow_4 : decode cX5_taperNow 4 = .ok (.iconst 1, 1) := by decide +kernel
theorem dX5_taperNow_5 : decode cX5_taperNow 5 = .ok (.if_icmp .ne 7, 3) := by decide +kernel
theorem dX5_taperNow_8 : decode cX5_taperNow 8 = .ok (.dconst 0, 1) := by decide +kernel
theorem dX5_taperNow_9 : decode cX5_taperNow 9 = .ok (.goto 31, 3) := by decide +kernel
theorem dX5_taperNow_12 : decode cX5_taperNow 12 = .ok (.aload_n 0, 1) := by decide +kernel
theorem dX5_taperNow_13 : decode cX5_taperNow 13 = .ok (.getfield 29, 3) := by decide +kernel
theorem dX5_taperNow_16 : decode cX5_taperNow 16 = .ok (.iconst 2, 1) := by decide +kernel
theorem dX5_taperNow_17 : decode cX5_taperNow 17 = .ok (.daload, 1) := by decide +kernel
theorem dX5_taperNow_18 : decode cX5_taperNow 18 = .ok (.aload_n 0, 1) := by decide +kernel
theorem dX5_taperNow_19 : decode cX5_taperNow 19 = .ok (.getfield 29, 3) := by decide +kernel
theorem dX5_taperNow_22 : decode cX5_taperNow 22 = .ok (.iconst 4, 1) := by decide +kernel
theorem dX5_taperNow_23 : decode cX5_taperNow 23 = .ok (.aload_n 0, 1) := by decide +kernel
theorem dX5_taperNow_24 : decode cX5_taperNow 24 = .ok (.getfield 48, 3) := by decide +kernel
theorem dX5_taperNow_27 : decode cX5_taperNow 27 = .ok (.imul, 1) := by decide +kernel
theorem dX5_taperNow_28 : decode cX5_taperNow 28 = .ok (.iconst 2, 1) := by decide +kernel
theorem dX5_taperNow_29 : decode cX5_taperNow 29 = .ok (.isub, 1) := by decide +kernel
theorem dX5_taperNow_30 : decode cX5_taperNow 30 = .ok (.daload, 1) := by decide +kernel
theorem dX5_taperNow_31 : decode cX5_taperNow 31 = .ok (.dsub, 1) := by decide +kernel
theorem dX5_taperNow_32 : decode cX5_taperNow 32 = .ok (.aload_n 0, 1) := by decide +kernel
theorem dX5_taperNow_33 : decode cX5_taperNow 33 = .ok (.getfield 48, 3) := by decide +kernel
theorem dX5_taperNow_36 : decode cX5_taperNow 36 = .ok (.iconst 1, 1) := by decide +kernel
theorem dX5_taperNow_37 : decode cX5_taperNow 37 = .ok (.isub, 1) := by decide +kernel
theorem dX5_taperNow_38 : decode cX5_taperNow 38 = .ok (.i2d, 1) := by decide +kernel
theorem dX5_taperNow_39 : decode cX5_taperNow 39 = .ok (.ddiv, 1) := by decide +kernel
theorem dX5_taperNow_40 : decode cX5_taperNow 40 = .ok (.dreturn, 1) := by decide +kernel
theorem dX5_off_0 : decode cX5_off 0 = .ok (.aload_n 0, 1) := by decide +kernel
theorem dX5_off_1 : decode cX5_off 1 = .ok (.getfield 29, 3) := by decide +kernel
theorem dX5_off_4 : decode cX5_off 4 = .ok (.iload_n 2, 1) := by decide +kernel
theorem dX5_off_5 : decode cX5_off 5 = .ok (.daload, 1) := by decide +kernel
theorem dX5_off_6 : decode cX5_off 6 = .ok (.dstore_n 3, 1) := by decide +kernel
theorem dX5_off_7 : decode cX5_off 7 = .ok (.dload_n 3, 1) := by decide +kernel
theorem dX5_off_8 : decode cX5_off 8 = .ok (.aload_n 0, 1) := by decide +kernel
theorem dX5_off_9 : decode cX5_off 9 = .ok (.getfield 29, 3) := by decide +kernel
theorem dX5_off_12 : decode cX5_off 12 = .ok (.iconst 4, 1) := by decide +kernel
theorem dX5_off_13 : decode cX5_off 13 = .ok (.aload_n 0, 1) := by decide +kernel
theorem dX5_off_14 : decode cX5_off 14 = .ok (.getfield 48, 3) := by decide +kernel
theorem dX5_off_17 : decode cX5_off 17 = .ok (.imul, 1) := by decide +kernel
theorem dX5_off_18 : decode cX5_off 18 = .ok (.iconst 4, 1) := by decide +kernel
theorem dX5_off_19 : decode cX5_off 19 = .ok (.isub, 1) := by decide +kernel
theorem dX5_off_20 : decode cX5_off 20 = .ok (.iload_n 2, 1) := by decide +kernel
theorem dX5_off_21 : decode cX5_off 21 = .ok (.iadd, 1) := by decide +kernel
theorem dX5_off_22 : decode cX5_off 22 = .ok (.daload, 1) := by decide +kernel
theorem dX5_off_23 : decode cX5_off 23 = .ok (.dload_n 3, 1) := by decide +kernel
theorem dX5_off_24 : decode cX5_off 24 = .ok (.dsub, 1) := by decide +kernel
theorem dX5_off_25 : decode cX5_off 25 = .ok (.iload_n 1, 1) := by decide +kernel
theorem dX5_off_26 : decode cX5_off 26 = .ok (.i2d, 1) := by decide +kernel
theorem dX5_off_27 : decode cX5_off 27 = .ok (.dmul, 1) := by decide +kernel
theorem dX5_off_28 : decode cX5_off 28 = .ok (.aload_n 0, 1) := by decide +kernel
theorem dX5_off_29 : decode cX5_off 29 = .ok (.getfield 48, 3) := by decide +kernel
theorem dX5_off_32 : decode cX5_off 32 = .ok (.iconst 1, 1) := by decide +kernel
theorem dX5_off_33 : decode cX5_off 33 = .ok (.isub, 1) := by decide +kernel
theorem dX5_off_34 : decode cX5_off 34 = .ok (.i2d, 1) := by decide +kernel
theorem dX5_off_35 : decode cX5_off 35 = .ok (.ddiv, 1) := by decide +kernel
theorem dX5_off_36 : decode cX5_off 36 = .ok (.dadd, 1) := by decide +kernel
theorem dX5_off_37 : decode cX5_off 37 = .ok (.dstore 5, 2) := by decide +kernel
theorem dX5_off_39 : decode cX5_off 39 = .ok (.aload_n 0, 1) := by decide +kernel
theorem dX5_off_40 : decode cX5_off 40 = .ok (.getfield 29, 3) := by decide +kernel
theorem dX5_off_43 : decode cX5_off 43 = .ok (.iconst 4, 1) := by decide +kernel
theorem dX5_off_44 : decode cX5_off 44 = .ok (.iload_n 1, 1) := by decide +kernel
theorem dX5_off_45 : decode cX5_off 45 = .ok (.imul, 1) := by decide +kernel
theorem dX5_off_46 : decode cX5_off 46 = .ok (.iload_n 2, 1) := by decide +kernel
theorem dX5_off_47 : decode cX5_off 47 = .ok (.iadd, 1) := by decide +kernel
theorem dX5_off_48 : decode cX5_off 48 = .ok (.daload, 1) := by decide +kernel
theorem dX5_off_49 : decode cX5_off 49 = .ok (.dload 5, 2) := by decide +kernel
theorem dX5_off_51 : decode cX5_off 51 = .ok (.dsub, 1) := by decide +kernel
theorem dX5_off_52 : decode cX5_off 52 = .ok (.dreturn, 1) := by decide +kernel
set_option maxRecDepth 20000 in
theorem ggX5_sweepNow_X5_off : GoodIn wsX5_sweepNow wsX5_off := goodIn_r _ [6, 7, 1, 8, 9, 10, 11, 12, 13, 14, 15, 16, 17, 18, 19, 20, 21, 22, 23, 24, 25, 26] (by decide +kernel) (by decide +kernel)
set_option maxRecDepth 20000 in
theorem gX5_sweepNow_X5_off : GoodIn wsX5_sweepNow (wsV RX5 124 RX5 yX5_off wsX5_off) := goodIn_app (goodIn_of _ (by decide +kernel)) ggX5_sweepNow_X5_off
theorem dX5_sweepNow_0 : decode cX5_sweepNow 0 = .ok (.dconst 0, 1) := by decide +kernel
theorem dX5_sweepNow_1 : decode cX5_sweepNow 1 = .ok (.dstore_n 1, 1) := by decide +kernel
theorem dX5_sweepNow_2 : decode cX5_sweepNow 2 = .ok (.iconst 0, 1) := by decide +kernel
theorem dX5_sweepNow_3 : decode cX5_sweepNow 3 = .ok (.istore_n 3, 1) := by decide +kernel
theorem dX5_sweepNow_4 : decode cX5_sweepNow 4 = .ok (.iload_n 3, 1) := by decide +kernel
theorem dX5_sweepNow_5 : decode cX5_sweepNow 5 = .ok (.aload_n 0, 1) := by decide +kernel
theorem dX5_sweepNow_6 : decode cX5_sweepNow 6 = .ok (.getfield 48, 3) := by decide +kernel
theorem dX5_sweepNow_9 : decode cX5_sweepNow 9 = .ok (.if_icmp .ge 60, 3) := by decide +kernel
theorem dX5_sweepNow_12 : decode cX5_sweepNow 12 = .ok (.aload_n 0, 1) := by decide +kernel
theorem dX5_sweepNow_13 : decode cX5_sweepNow 13 = .ok (.getfield 48, 3) := by decide +kernel
theorem dX5_sweepNow_16 : decode cX5_sweepNow 16 = .ok (.iconst 1, 1) := by decide +kernel
theorem dX5_sweepNow_17 : decode cX5_sweepNow 17 = .ok (.if_icmp .le 52, 3) := by decide +kernel
theorem dX5_sweepNow_20 : decode cX5_sweepNow 20 = .ok (.aload_n 0, 1) := by decide +kernel
theorem dX5_sweepNow_21 : decode cX5_sweepNow 21 = .ok (.iload_n 3, 1) := by decide +kernel
theorem dX5_sweepNow_22 : decode cX5_sweepNow 22 = .ok (.iconst 0, 1) := by decide +kernel
theorem dX5_sweepNow_23 : decode cX5_sweepNow 23 = .ok (.invokevirtual 124, 3) := by decide +kernel
theorem dX5_sweepNow_26 : decode cX5_sweepNow 26 = .ok (.aload_n 0, 1) := by decide +kernel
theorem dX5_sweepNow_27 : decode cX5_sweepNow 27 = .ok (.iload_n 3, 1) := by decide +kernel
theorem dX5_sweepNow_28 : decode cX5_sweepNow 28 = .ok (.iconst 0, 1) := by decide +kernel
theorem dX5_sweepNow_29 : decode cX5_sweepNow 29 = .ok (.invokevirtual 124, 3) := by decide +kernel
theorem dX5_sweepNow_32 : decode cX5_sweepNow 32 = .ok (.dmul, 1) := by decide +kernel
theorem dX5_sweepNow_33 : decode cX5_sweepNow 33 = .ok (.aload_n 0, 1) := by decide +kernel
theorem dX5_sweepNow_34 : decode cX5_sweepNow 34 = .ok (.iload_n 3, 1) := by decide +kernel
theorem dX5_sweepNow_35 : decode cX5_sweepNow 35 = .ok (.iconst 1, 1) := by decide +kernel
theorem dX5_sweepNow_36 : decode cX5_sweepNow 36 = .ok (.invokevirtual 124, 3) := by decide +kernel
theorem dX5_sweepNow_39 : decode cX5_sweepNow 39 = .ok (.aload_n 0, 1) := by decide +kernel
theorem dX5_sweepNow_40 : decode cX5_sweepNow 40 = .ok (.iload_n 3, 1) := by decide +kernel
theorem dX5_sweepNow_41 : decode cX5_sweepNow 41 = .ok (.iconst 1, 1) := by decide +kernel
theorem dX5_sweepNow_42 : decode cX5_sweepNow 42 = .ok (.invokevirtual 124, 3) := by decide +kernel
theorem dX5_sweepNow_45 : decode cX5_sweepNow 45 = .ok (.dmul, 1) := by decide +kernel
theorem dX5_sweepNow_46 : decode cX5_sweepNow 46 = .ok (.dadd, 1) := by decide +kernel
theorem dX5_sweepNow_47 : decode cX5_sweepNow 47 = .ok (.dstore 4, 2) := by decide +kernel
theorem dX5_sweepNow_49 : decode cX5_sweepNow 49 = .ok (.dload 4, 2) := by decide +kernel
theorem dX5_sweepNow_51 : decode cX5_sweepNow 51 = .ok (.dload_n 1, 1) := by decide +kernel
theorem dX5_sweepNow_52 : decode cX5_sweepNow 52 = .ok (.dcmp .l, 1) := by decide +kernel
theorem dX5_sweepNow_53 : decode cX5_sweepNow 53 = .ok (.ifCond .le 8, 3) := by decide +kernel
theorem dX5_sweepNow_56 : decode cX5_sweepNow 56 = .ok (.dload 4, 2) := by decide +kernel
theorem dX5_sweepNow_58 : decode cX5_sweepNow 58 = .ok (.goto 4, 3) := by decide +kernel
theorem dX5_sweepNow_61 : decode cX5_sweepNow 61 = .ok (.dload_n 1, 1) := by decide +kernel
theorem dX5_sweepNow_62 : decode cX5_sweepNow 62 = .ok (.dstore_n 1, 1) := by decide +kernel
theorem dX5_sweepNow_63 : decode cX5_sweepNow 63 = .ok (.iinc 3 1, 3) := by decide +kernel
theorem dX5_sweepNow_66 : decode cX5_sweepNow 66 = .ok (.goto (-62), 3) := by decide +kernel
theorem dX5_sweepNow_69 : decode cX5_sweepNow 69 = .ok (.dload_n 1, 1) := by decide +kernel
theorem dX5_sweepNow_70 : decode cX5_sweepNow 70 = .ok (.dreturn, 1) := by decide +kernel
set_option maxRecDepth 20000 in
theorem ggX5_volume_X5_hasShape : GoodIn wsX5_volume wsX5_hasShape := goodIn_r _ [6, 7, 8, 20, 21, 22, 23, 24, 25, 26, 27, 28, 29, 30, 31, 32, 33, 34, 35, 36, 37, 38] (by decide +kernel) (by decide +kernel)
set_option maxRecDepth 20000 in
theorem gX5_volume_X5_hasShape : GoodIn wsX5_volume (wsV RX5 113 RX5 yX5_hasShape wsX5_hasShape) := goodIn_app (goodIn_of _ (by decide +kernel)) ggX5_volume_X5_hasShape
set_option maxRecDepth 20000 in
theorem ggX5_volume_X5_volumeNow : GoodIn wsX5_volume wsX5_volumeNow := goodIn_r _ [12, 13, 14, 15, 16, 5, 17, 18, 19, 20, 21, 22, 23, 24, 25, 26, 27, 28, 29, 30, 31, 32, 33, 34, 35, 36, 37, 38] (by decide +kernel) (by decide +kernel)
set_option maxRecDepth 20000 in
theorem gX5_volume_X5_volumeNow : GoodIn wsX5_volume (wsV RX5 128 RX5 yX5_volumeNow wsX5_volumeNow) := goodIn_app (goodIn_of _ (by decide +kernel)) ggX5_volume_X5_volumeNow
theorem dX5_volume_0 : decode cX5_volume 0 = .ok (.aload_n 0, 1) := by decide +kernel
theorem dX5_volume_1 : decode cX5_volume 1 = .ok (.aload_n 0, 1) := by decide +kernel
theorem dX5_volume_2 : decode cX5_volume 2 = .ok (.invokevirtual 113, 3) := by decide +kernel
theorem dX5_volume_5 : decode cX5_volume 5 = .ok (.ifCond .eq 7, 3) := by decide +kernel
theorem dX5_volume_8 : decode cX5_volume 8 = .ok (.iconst 0, 1) := by decide +kernel
theorem dX5_volume_9 : decode cX5_volume 9 = .ok (.goto 4, 3) := by decide +kernel
theorem dX5_volume_12 : decode cX5_volume 12 = .ok (.iconst 1, 1) := by decide +kernel
theorem dX5_volume_13 : decode cX5_volume 13 = .ok (.putfield 55, 3) := by decide +kernel
theorem dX5_volume_16 : decode cX5_volume 16 = .ok (.aload_n 0, 1) := by decide +kernel
theorem dX5_volume_17 : decode cX5_volume 17 = .ok (.getfield 55, 3) := by decide +kernel
theorem dX5_volume_20 : decode cX5_volume 20 = .ok (.ifCond .le 7, 3) := by decide +kernel
theorem dX5_volume_23 : decode cX5_volume 23 = .ok (.dconst 0, 1) := by decide +kernel
theorem dX5_volume_24 : decode cX5_volume 24 = .ok (.goto 7, 3) := by decide +kernel
theorem dX5_volume_27 : decode cX5_volume 27 = .ok (.aload_n 0, 1) := by decide +kernel
theorem dX5_volume_28 : decode cX5_volume 28 = .ok (.invokevirtual 128, 3) := by decide +kernel
theorem dX5_volume_31 : decode cX5_volume 31 = .ok (.dreturn, 1) := by decide +kernel
set_option maxRecDepth 20000 in
theorem ggX5_taper_X5_hasShape : GoodIn wsX5_taper wsX5_hasShape := goodIn_r _ [6, 7, 8, 15, 16, 17, 18, 19, 20, 21, 22, 23, 24, 25, 26, 27, 28, 29, 30, 31, 32, 33] (by decide +kernel) (by decide +kernel)
set_option maxRecDepth 20000 in
theorem gX5_taper_X5_hasShape : GoodIn wsX5_taper (wsV RX5 113 RX5 yX5_hasShape wsX5_hasShape) := goodIn_app (goodIn_of _ (by decide +kernel)) ggX5_taper_X5_hasShape
set_option maxRecDepth 20000 in
theorem ggX5_taper_X5_taperNow : GoodIn wsX5_taper wsX5_taperNow := goodIn_r _ [12, 13, 14, 15, 16, 17, 18, 19, 20, 21, 22, 23, 24, 25, 26, 27, 28, 29, 30, 31, 32, 33] (by decide +kernel) (by decide +kernel)
set_option maxRecDepth 20000 in
theorem gX5_taper_X5_taperNow : GoodIn wsX5_taper (wsV RX5 132 RX5 yX5_taperNow wsX5_taperNow) := goodIn_app (goodIn_of _ (by decide +kernel)) ggX5_taper_X5_taperNow
theorem dX5_taper_0 : decode cX5_taper 0 = .ok (.aload_n 0, 1) := by decide +kernel
theorem dX5_taper_1 : decode cX5_taper 1 = .ok (.aload_n 0, 1) := by decide +kernel
theorem dX5_taper_2 : decode cX5_taper 2 = .ok (.invokevirtual 113, 3) := by decide +kernel
theorem dX5_taper_5 : decode cX5_taper 5 = .ok (.ifCond .eq 7, 3) := by decide +kernel
theorem dX5_taper_8 : decode cX5_taper 8 = .ok (.iconst 0, 1) := by decide +kernel
theorem dX5_taper_9 : decode cX5_taper 9 = .ok (.goto 4, 3) := by decide +kernel
theorem dX5_taper_12 : decode cX5_taper 12 = .ok (.iconst 1, 1) := by decide +kernel
theorem dX5_taper_13 : decode cX5_taper 13 = .ok (.putfield 55, 3) := by decide +kernel
theorem dX5_taper_16 : decode cX5_taper 16 = .ok (.aload_n 0, 1) := by decide +kernel
theorem dX5_taper_17 : decode cX5_taper 17 = .ok (.getfield 55, 3) := by decide +kernel
theorem dX5_taper_20 : decode cX5_taper 20 = .ok (.ifCond .le 7, 3) := by decide +kernel
theorem dX5_taper_23 : decode cX5_taper 23 = .ok (.dconst 0, 1) := by decide +kernel
theorem dX5_taper_24 : decode cX5_taper 24 = .ok (.goto 7, 3) := by decide +kernel
theorem dX5_taper_27 : decode cX5_taper 27 = .ok (.aload_n 0, 1) := by decide +kernel
theorem dX5_taper_28 : decode cX5_taper 28 = .ok (.invokevirtual 132, 3) := by decide +kernel
theorem dX5_taper_31 : decode cX5_taper 31 = .ok (.dreturn, 1) := by decide +kernel
set_option maxRecDepth 20000 in
theorem ggX5_sweep_X5_hasShape : GoodIn wsX5_sweep wsX5_hasShape := goodIn_r _ [6, 7, 8, 19, 20, 21, 22, 23, 24, 25, 26, 27, 28, 29, 30, 31, 32, 33, 34, 35, 36, 37] (by decide +kernel) (by decide +kernel)
set_option maxRecDepth 20000 in
theorem gX5_sweep_X5_hasShape : GoodIn wsX5_sweep (wsV RX5 113 RX5 yX5_hasShape wsX5_hasShape) := goodIn_app (goodIn_of _ (by decide +kernel)) ggX5_sweep_X5_hasShape
set_option maxRecDepth 20000 in
theorem ggX5_sweep_X5_sweepNow : GoodIn wsX5_sweep wsX5_sweepNow := goodIn_r _ [12, 13, 14, 15, 16, 5, 17, 18, 19, 20, 21, 22, 23, 24, 25, 26, 27, 28, 29, 30, 31, 32, 33, 34, 35, 36, 37] (by decide +kernel) (by decide +kernel)
set_option maxRecDepth 20000 in
theorem gX5_sweep_X5_sweepNow : GoodIn wsX5_sweep (wsV RX5 135 RX5 yX5_sweepNow wsX5_sweepNow) := goodIn_app (goodIn_of _ (by decide +kernel)) ggX5_sweep_X5_sweepNow
theorem dX5_sweep_0 : decode cX5_sweep 0 = .ok (.aload_n 0, 1) := by decide +kernel
theorem dX5_sweep_1 : decode cX5_sweep 1 = .ok (.aload_n 0, 1) := by decide +kernel
theorem dX5_sweep_2 : decode cX5_sweep 2 = .ok (.invokevirtual 113, 3) := by decide +kernel
theorem dX5_sweep_5 : decode cX5_sweep 5 = .ok (.ifCond .eq 7, 3) := by decide +kernel
theorem dX5_sweep_8 : decode cX5_sweep 8 = .ok (.iconst 0, 1) := by decide +kernel
theorem dX5_sweep_9 : decode cX5_sweep 9 = .ok (.goto 4, 3) := by decide +kernel
theorem dX5_sweep_12 : decode cX5_sweep 12 = .ok (.iconst 1, 1) := by decide +kernel
theorem dX5_sweep_13 : decode cX5_sweep 13 = .ok (.putfield 55, 3) := by decide +kernel
theorem dX5_sweep_16 : decode cX5_sweep 16 = .ok (.aload_n 0, 1) := by decide +kernel
theorem dX5_sweep_17 : decode cX5_sweep 17 = .ok (.getfield 55, 3) := by decide +kernel
theorem dX5_sweep_20 : decode cX5_sweep 20 = .ok (.ifCond .le 7, 3) := by decide +kernel
theorem dX5_sweep_23 : decode cX5_sweep 23 = .ok (.dconst 0, 1) := by decide +kernel
theorem dX5_sweep_24 : decode cX5_sweep 24 = .ok (.goto 7, 3) := by decide +kernel
theorem dX5_sweep_27 : decode cX5_sweep 27 = .ok (.aload_n 0, 1) := by decide +kernel
theorem dX5_sweep_28 : decode cX5_sweep 28 = .ok (.invokevirtual 135, 3) := by decide +kernel
theorem dX5_sweep_31 : decode cX5_sweep 31 = .ok (.dreturn, 1) := by decide +kernel
theorem dX5_rule_0 : decode cX5_rule 0 = .ok (.aload_n 0, 1) := by decide +kernel
theorem dX5_rule_1 : decode cX5_rule 1 = .ok (.iload_n 1, 1) := by decide +kernel
theorem dX5_rule_2 : decode cX5_rule 2 = .ok (.ifCond .lt 20, 3) := by decide +kernel
theorem dX5_rule_5 : decode cX5_rule 5 = .ok (.iload_n 1, 1) := by decide +kernel
theorem dX5_rule_6 : decode cX5_rule 6 = .ok (.iconst 4, 1) := by decide +kernel
theorem dX5_rule_7 : decode cX5_rule 7 = .ok (.if_icmp .gt 15, 3) := by decide +kernel
theorem dX5_rule_10 : decode cX5_rule 10 = .ok (.iload 4, 2) := by decide +kernel
theorem dX5_rule_12 : decode cX5_rule 12 = .ok (.ifCond .lt 10, 3) := by decide +kernel
theorem dX5_rule_15 : decode cX5_rule 15 = .ok (.iload 4, 2) := by decide +kernel
theorem dX5_rule_17 : decode cX5_rule 17 = .ok (.bipush 100, 2) := by decide +kernel
theorem dX5_rule_19 : decode cX5_rule 19 = .ok (.if_icmp .le 7, 3) := by decide +kernel
theorem dX5_rule_22 : decode cX5_rule 22 = .ok (.iconst 1, 1) := by decide +kernel
theorem dX5_rule_23 : decode cX5_rule 23 = .ok (.goto 17, 3) := by decide +kernel
theorem dX5_rule_26 : decode cX5_rule 26 = .ok (.aload_n 0, 1) := by decide +kernel
theorem dX5_rule_27 : decode cX5_rule 27 = .ok (.getfield 138, 3) := by decide +kernel
theorem dX5_rule_30 : decode cX5_rule 30 = .ok (.bipush 6, 2) := by decide +kernel
theorem dX5_rule_32 : decode cX5_rule 32 = .ok (.if_icmp .ne 7, 3) := by decide +kernel
theorem dX5_rule_35 : decode cX5_rule 35 = .ok (.iconst 2, 1) := by decide +kernel
theorem dX5_rule_36 : decode cX5_rule 36 = .ok (.goto 4, 3) := by decide +kernel
theorem dX5_rule_39 : decode cX5_rule 39 = .ok (.iconst 0, 1) := by decide +kernel
theorem dX5_rule_40 : decode cX5_rule 40 = .ok (.putfield 55, 3) := by decide +kernel
theorem dX5_rule_43 : decode cX5_rule 43 = .ok (.aload_n 0, 1) := by decide +kernel
theorem dX5_rule_44 : decode cX5_rule 44 = .ok (.getfield 55, 3) := by decide +kernel
theorem dX5_rule_47 : decode cX5_rule 47 = .ok (.ifCond .le 5, 3) := by decide +kernel
theorem dX5_rule_50 : decode cX5_rule 50 = .ok (.iconst 0, 1) := by decide +kernel
theorem dX5_rule_51 : decode cX5_rule 51 = .ok (.ireturn, 1) := by decide +kernel
theorem dX5_rule_52 : decode cX5_rule 52 = .ok (.aload_n 0, 1) := by decide +kernel
theorem dX5_rule_53 : decode cX5_rule 53 = .ok (.getfield 32, 3) := by decide +kernel
theorem dX5_rule_56 : decode cX5_rule 56 = .ok (.aload_n 0, 1) := by decide +kernel
theorem dX5_rule_57 : decode cX5_rule 57 = .ok (.getfield 138, 3) := by decide +kernel
theorem dX5_rule_60 : decode cX5_rule 60 = .ok (.iload_n 1, 1) := by decide +kernel
theorem dX5_rule_61 : decode cX5_rule 61 = .ok (.iastore, 1) := by decide +kernel
theorem dX5_rule_62 : decode cX5_rule 62 = .ok (.aload_n 0, 1) := by decide +kernel
theorem dX5_rule_63 : decode cX5_rule 63 = .ok (.getfield 36, 3) := by decide +kernel
theorem dX5_rule_66 : decode cX5_rule 66 = .ok (.aload_n 0, 1) := by decide +kernel
theorem dX5_rule_67 : decode cX5_rule 67 = .ok (.getfield 138, 3) := by decide +kernel
theorem dX5_rule_70 : decode cX5_rule 70 = .ok (.dload_n 2, 1) := by decide +kernel
theorem dX5_rule_71 : decode cX5_rule 71 = .ok (.dastore, 1) := by decide +kernel
theorem dX5_rule_72 : decode cX5_rule 72 = .ok (.aload_n 0, 1) := by decide +kernel
theorem dX5_rule_73 : decode cX5_rule 73 = .ok (.getfield 39, 3) := by decide +kernel
theorem dX5_rule_76 : decode cX5_rule 76 = .ok (.aload_n 0, 1) := by decide +kernel
theorem dX5_rule_77 : decode cX5_rule 77 = .ok (.getfield 138, 3) := by decide +kernel
theorem dX5_rule_80 : decode cX5_rule 80 = .ok (.iload 4, 2) := by decide +kernel
theorem dX5_rule_82 : decode cX5_rule 82 = .ok (.iastore, 1) := by decide +kernel
theorem dX5_rule_83 : decode cX5_rule 83 = .ok (.aload_n 0, 1) := by decide +kernel
theorem dX5_rule_84 : decode cX5_rule 84 = .ok (.dup, 1) := by decide +kernel
theorem dX5_rule_85 : decode cX5_rule 85 = .ok (.getfield 138, 3) := by decide +kernel
theorem dX5_rule_88 : decode cX5_rule 88 = .ok (.iconst 1, 1) := by decide +kernel
theorem dX5_rule_89 : decode cX5_rule 89 = .ok (.iadd, 1) := by decide +kernel
theorem dX5_rule_90 : decode cX5_rule 90 = .ok (.putfield 138, 3) := by decide +kernel
theorem dX5_rule_93 : decode cX5_rule 93 = .ok (.aload_n 0, 1) := by decide +kernel
theorem dX5_rule_94 : decode cX5_rule 94 = .ok (.getfield 138, 3) := by decide +kernel
theorem dX5_rule_97 : decode cX5_rule 97 = .ok (.ireturn, 1) := by decide +kernel
set_option maxRecDepth 20000 in
theorem ggX5_holds_X5_sweepNow : GoodIn wsX5_holds wsX5_sweepNow := goodIn_r _ [10, 4, 11, 12, 13, 9, 14, 3, 28, 29, 30, 31, 32, 33, 34, 35, 36, 37, 38, 39, 40, 41, 42, 43, 44, 45, 46] (by decide +kernel) (by decide +kernel)
set_option maxRecDepth 20000 in
theorem gX5_holds_X5_sweepNow : GoodIn wsX5_holds (wsV RX5 135 RX5 yX5_sweepNow wsX5_sweepNow) := goodIn_app (goodIn_of _ (by decide +kernel)) ggX5_holds_X5_sweepNow
set_option maxRecDepth 20000 in
theorem ggX5_holds_X5_taperNow : GoodIn wsX5_holds wsX5_taperNow := goodIn_r _ [18, 4, 3, 28, 29, 30, 31, 32, 33, 34, 35, 36, 37, 38, 39, 40, 41, 42, 43, 44, 45, 46] (by decide +kernel) (by decide +kernel)
set_option maxRecDepth 20000 in
theorem gX5_holds_X5_taperNow : GoodIn wsX5_holds (wsV RX5 132 RX5 yX5_taperNow wsX5_taperNow) := goodIn_app (goodIn_of _ (by decide +kernel)) ggX5_holds_X5_taperNow
set_option maxRecDepth 20000 in
theorem ggX5_holds_X5_volumeNow : GoodIn wsX5_holds wsX5_volumeNow := goodIn_r _ [22, 4, 23, 24, 25, 9, 26, 3, 27, 28, 29, 30, 31, 32, 33, 34, 35, 36, 37, 38, 39, 40, 41, 42, 43, 44, 45, 46] (by decide +kernel) (by decide +kernel)
set_option maxRecDepth 20000 in
theorem gX5_holds_X5_volumeNow : GoodIn wsX5_holds (wsV RX5 128 RX5 yX5_volumeNow wsX5_volumeNow) := goodIn_app (goodIn_of _ (by decide +kernel)) ggX5_holds_X5_volumeNow
theorem dX5_holds_0 : decode cX5_holds 0 = .ok (.aload_n 0, 1) := by decide +kernel
theorem dX5_holds_1 : decode cX5_holds 1 = .ok (.getfield 32, 3) := by decide +kernel
theorem dX5_holds_4 : decode cX5_holds 4 = .ok (.iload_n 1, 1) := by decide +kernel
theorem dX5_holds_5 : decode cX5_holds 5 = .ok (.iaload, 1) := by decide +kernel
theorem dX5_holds_6 : decode cX5_holds 6 = .ok (.istore_n 2, 1) := by decide +kernel
theorem dX5_holds_7 : decode cX5_holds 7 = .ok (.aload_n 0, 1) := by decide +kernel
theorem dX5_holds_8 : decode cX5_holds 8 = .ok (.getfield 36, 3) := by decide +kernel
theorem dX5_holds_11 : decode cX5_holds 11 = .ok (.iload_n 1, 1) := by decide +kernel
theorem dX5_holds_12 : decode cX5_holds 12 = .ok (.daload, 1) := by decide +kernel
theorem dX5_holds_13 : decode cX5_holds 13 = .ok (.dstore_n 3, 1) := by decide +kernel
theorem dX5_holds_14 : decode cX5_holds 14 = .ok (.iload_n 2, 1) := by decide +kernel
theorem dX5_holds_15 : decode cX5_holds 15 = .ok (.ifCond .ne 20, 3) := by decide +kernel
theorem dX5_holds_18 : decode cX5_holds 18 = .ok (.aload_n 0, 1) := by decide +kernel
theorem dX5_holds_19 : decode cX5_holds 19 = .ok (.invokevirtual 135, 3) := by decide +kernel
theorem dX5_holds_22 : decode cX5_holds 22 = .ok (.dload_n 3, 1) := by decide +kernel
theorem dX5_holds_23 : decode cX5_holds 23 = .ok (.dcmp .g, 1) := by decide +kernel
theorem dX5_holds_24 : decode cX5_holds 24 = .ok (.ifCond .gt 7, 3) := by decide +kernel
theorem dX5_holds_27 : decode cX5_holds 27 = .ok (.iconst 1, 1) := by decide +kernel
theorem dX5_holds_28 : decode cX5_holds 28 = .ok (.goto 102, 3) := by decide +kernel
theorem dX5_holds_31 : decode cX5_holds 31 = .ok (.iconst 0, 1) := by decide +kernel
theorem dX5_holds_32 : decode cX5_holds 32 = .ok (.goto 98, 3) := by decide +kernel
theorem dX5_holds_35 : decode cX5_holds 35 = .ok (.iload_n 2, 1) := by decide +kernel
theorem dX5_holds_36 : decode cX5_holds 36 = .ok (.iconst 1, 1) := by decide +kernel
theorem dX5_holds_37 : decode cX5_holds 37 = .ok (.if_icmp .ne 20, 3) := by decide +kernel
theorem dX5_holds_40 : decode cX5_holds 40 = .ok (.aload_n 0, 1) := by decide +kernel
theorem dX5_holds_41 : decode cX5_holds 41 = .ok (.invokevirtual 132, 3) := by decide +kernel
theorem dX5_holds_44 : decode cX5_holds 44 = .ok (.dload_n 3, 1) := by decide +kernel
theorem dX5_holds_45 : decode cX5_holds 45 = .ok (.dcmp .g, 1) := by decide +kernel
theorem dX5_holds_46 : decode cX5_holds 46 = .ok (.ifCond .gt 7, 3) := by decide +kernel
theorem dX5_holds_49 : decode cX5_holds 49 = .ok (.iconst 1, 1) := by decide +kernel
theorem dX5_holds_50 : decode cX5_holds 50 = .ok (.goto 80, 3) := by decide +kernel
theorem dX5_holds_53 : decode cX5_holds 53 = .ok (.iconst 0, 1) := by decide +kernel
theorem dX5_holds_54 : decode cX5_holds 54 = .ok (.goto 76, 3) := by decide +kernel
theorem dX5_holds_57 : decode cX5_holds 57 = .ok (.iload_n 2, 1) := by decide +kernel
theorem dX5_holds_58 : decode cX5_holds 58 = .ok (.iconst 2, 1) := by decide +kernel
theorem dX5_holds_59 : decode cX5_holds 59 = .ok (.if_icmp .ne 29, 3) := by decide +kernel
theorem dX5_holds_62 : decode cX5_holds 62 = .ok (.aload_n 0, 1) := by decide +kernel
theorem dX5_holds_63 : decode cX5_holds 63 = .ok (.getfield 29, 3) := by decide +kernel
theorem dX5_holds_66 : decode cX5_holds 66 = .ok (.iconst 4, 1) := by decide +kernel
theorem dX5_holds_67 : decode cX5_holds 67 = .ok (.aload_n 0, 1) := by decide +kernel
theorem dX5_holds_68 : decode cX5_holds 68 = .ok (.getfield 48, 3) := by decide +kernel
theorem dX5_holds_71 : decode cX5_holds 71 = .ok (.imul, 1) := by decide +kernel
theorem dX5_holds_72 : decode cX5_holds 72 = .ok (.iconst 2, 1) := by decide +kernel
theorem dX5_holds_73 : decode cX5_holds 73 = .ok (.isub, 1) := by decide +kernel
theorem dX5_holds_74 : decode cX5_holds 74 = .ok (.daload, 1) := by decide +kernel
theorem dX5_holds_75 : decode cX5_holds 75 = .ok (.dload_n 3, 1) := by decide +kernel
theorem dX5_holds_76 : decode cX5_holds 76 = .ok (.dcmp .l, 1) := by decide +kernel
theorem dX5_holds_77 : decode cX5_holds 77 = .ok (.ifCond .lt 7, 3) := by decide +kernel
theorem dX5_holds_80 : decode cX5_holds 80 = .ok (.iconst 1, 1) := by decide +kernel
theorem dX5_holds_81 : decode cX5_holds 81 = .ok (.goto 49, 3) := by decide +kernel
theorem dX5_holds_84 : decode cX5_holds 84 = .ok (.iconst 0, 1) := by decide +kernel
theorem dX5_holds_85 : decode cX5_holds 85 = .ok (.goto 45, 3) := by decide +kernel
theorem dX5_holds_88 : decode cX5_holds 88 = .ok (.iload_n 2, 1) := by decide +kernel
theorem dX5_holds_89 : decode cX5_holds 89 = .ok (.iconst 3, 1) := by decide +kernel
theorem dX5_holds_90 : decode cX5_holds 90 = .ok (.if_icmp .ne 20, 3) := by decide +kernel
theorem dX5_holds_93 : decode cX5_holds 93 = .ok (.aload_n 0, 1) := by decide +kernel
theorem dX5_holds_94 : decode cX5_holds 94 = .ok (.invokevirtual 128, 3) := by decide +kernel
theorem dX5_holds_97 : decode cX5_holds 97 = .ok (.dload_n 3, 1) := by decide +kernel
theorem dX5_holds_98 : decode cX5_holds 98 = .ok (.dcmp .l, 1) := by decide +kernel
theorem dX5_holds_99 : decode cX5_holds 99 = .ok (.ifCond .lt 7, 3) := by decide +kernel
theorem dX5_holds_102 : decode cX5_holds 102 = .ok (.iconst 1, 1) := by decide +kernel
theorem dX5_holds_103 : decode cX5_holds 103 = .ok (.goto 27, 3) := by decide +kernel
theorem dX5_holds_106 : decode cX5_holds 106 = .ok (.iconst 0, 1) := by decide +kernel
theorem dX5_holds_107 : decode cX5_holds 107 = .ok (.goto 23, 3) := by decide +kernel
theorem dX5_holds_110 : decode cX5_holds 110 = .ok (.aload_n 0, 1) := by decide +kernel
theorem dX5_holds_111 : decode cX5_holds 111 = .ok (.getfield 48, 3) := by decide +kernel
theorem dX5_holds_114 : decode cX5_holds 114 = .ok (.aload_n 0, 1) := by decide +kernel
theorem dX5_holds_115 : decode cX5_holds 115 = .ok (.getfield 101, 3) := by decide +kernel
theorem dX5_holds_118 : decode cX5_holds 118 = .ok (.isub, 1) := by decide +kernel
theorem dX5_holds_119 : decode cX5_holds 119 = .ok (.i2d, 1) := by decide +kernel
theorem dX5_holds_120 : decode cX5_holds 120 = .ok (.dload_n 3, 1) := by decide +kernel
theorem dX5_holds_121 : decode cX5_holds 121 = .ok (.dcmp .g, 1) := by decide +kernel
theorem dX5_holds_122 : decode cX5_holds 122 = .ok (.ifCond .gt 7, 3) := by decide +kernel
theorem dX5_holds_125 : decode cX5_holds 125 = .ok (.iconst 1, 1) := by decide +kernel
theorem dX5_holds_126 : decode cX5_holds 126 = .ok (.goto 4, 3) := by decide +kernel
theorem dX5_holds_129 : decode cX5_holds 129 = .ok (.iconst 0, 1) := by decide +kernel
theorem dX5_holds_130 : decode cX5_holds 130 = .ok (.ireturn, 1) := by decide +kernel
set_option maxRecDepth 20000 in
theorem ggX5_cls_X5_hasShape : GoodIn wsX5_cls wsX5_hasShape := goodIn_r _ [8, 9, 10, 40, 41, 42, 43, 44, 45, 46, 47, 48, 49, 50, 51, 52, 53, 54, 55, 56, 57, 58] (by decide +kernel) (by decide +kernel)
set_option maxRecDepth 20000 in
theorem gX5_cls_X5_hasShape : GoodIn wsX5_cls (wsV RX5 113 RX5 yX5_hasShape wsX5_hasShape) := goodIn_app (goodIn_of _ (by decide +kernel)) ggX5_cls_X5_hasShape
set_option maxRecDepth 20000 in
theorem ggX5_cls_X5_holds : GoodIn wsX5_cls wsX5_holds := goodIn_r _ [14, 15, 16, 17, 18, 10, 19, 20, 21, 7, 22, 23, 24, 25, 26, 27, 28, 29, 30, 31, 32, 33, 34, 35, 36, 37, 38, 39, 40, 41, 42, 43, 44, 45, 46, 47, 48, 49, 50, 51, 52, 53, 54, 55, 56, 57, 58] (by decide +kernel) (by decide +kernel)
set_option maxRecDepth 20000 in
theorem gX5_cls_X5_holds : GoodIn wsX5_cls (wsV RX5 141 RX5 yX5_holds wsX5_holds) := goodIn_app (goodIn_of _ (by decide +kernel)) ggX5_cls_X5_holds
theorem dX5_cls_0 : decode cX5_cls 0 = .ok (.aload_n 0, 1) := by decide +kernel
theorem dX5_cls_1 : decode cX5_cls 1 = .ok (.aload_n 0, 1) := by decide +kernel
theorem dX5_cls_2 : decode cX5_cls 2 = .ok (.invokevirtual 113, 3) := by decide +kernel
theorem dX5_cls_5 : decode cX5_cls 5 = .ok (.ifCond .eq 7, 3) := by decide +kernel
theorem dX5_cls_8 : decode cX5_cls 8 = .ok (.iconst 0, 1) := by decide +kernel
theorem dX5_cls_9 : decode cX5_cls 9 = .ok (.goto 4, 3) := by decide +kernel
theorem dX5_cls_12 : decode cX5_cls 12 = .ok (.iconst 1, 1) := by decide +kernel
theorem dX5_cls_13 : decode cX5_cls 13 = .ok (.putfield 55, 3) := by decide +kernel
theorem dX5_cls_16 : decode cX5_cls 16 = .ok (.iconst 0, 1) := by decide +kernel
theorem dX5_cls_17 : decode cX5_cls 17 = .ok (.istore_n 1, 1) := by decide +kernel
theorem dX5_cls_18 : decode cX5_cls 18 = .ok (.iload_n 1, 1) := by decide +kernel
theorem dX5_cls_19 : decode cX5_cls 19 = .ok (.aload_n 0, 1) := by decide +kernel
theorem dX5_cls_20 : decode cX5_cls 20 = .ok (.getfield 138, 3) := by decide +kernel
theorem dX5_cls_23 : decode cX5_cls 23 = .ok (.if_icmp .ge 31, 3) := by decide +kernel
theorem dX5_cls_26 : decode cX5_cls 26 = .ok (.aload_n 0, 1) := by decide +kernel
theorem dX5_cls_27 : decode cX5_cls 27 = .ok (.getfield 55, 3) := by decide +kernel
theorem dX5_cls_30 : decode cX5_cls 30 = .ok (.ifCond .ne 24, 3) := by decide +kernel
theorem dX5_cls_33 : decode cX5_cls 33 = .ok (.aload_n 0, 1) := by decide +kernel
theorem dX5_cls_34 : decode cX5_cls 34 = .ok (.iload_n 1, 1) := by decide +kernel
theorem dX5_cls_35 : decode cX5_cls 35 = .ok (.invokevirtual 141, 3) := by decide +kernel
theorem dX5_cls_38 : decode cX5_cls 38 = .ok (.ifCond .eq 10, 3) := by decide +kernel
theorem dX5_cls_41 : decode cX5_cls 41 = .ok (.aload_n 0, 1) := by decide +kernel
theorem dX5_cls_42 : decode cX5_cls 42 = .ok (.getfield 39, 3) := by decide +kernel
theorem dX5_cls_45 : decode cX5_cls 45 = .ok (.iload_n 1, 1) := by decide +kernel
theorem dX5_cls_46 : decode cX5_cls 46 = .ok (.iaload, 1) := by decide +kernel
theorem dX5_cls_47 : decode cX5_cls 47 = .ok (.ireturn, 1) := by decide +kernel
theorem dX5_cls_48 : decode cX5_cls 48 = .ok (.iinc 1 1, 3) := by decide +kernel
theorem dX5_cls_51 : decode cX5_cls 51 = .ok (.goto (-33), 3) := by decide +kernel
theorem dX5_cls_54 : decode cX5_cls 54 = .ok (.aload_n 0, 1) := by decide +kernel
theorem dX5_cls_55 : decode cX5_cls 55 = .ok (.getfield 55, 3) := by decide +kernel
theorem dX5_cls_58 : decode cX5_cls 58 = .ok (.ifCond .le 7, 3) := by decide +kernel
theorem dX5_cls_61 : decode cX5_cls 61 = .ok (.iconst 0, 1) := by decide +kernel
theorem dX5_cls_62 : decode cX5_cls 62 = .ok (.goto 4, 3) := by decide +kernel
theorem dX5_cls_65 : decode cX5_cls 65 = .ok (.iconst (-1), 1) := by decide +kernel
theorem dX5_cls_66 : decode cX5_cls 66 = .ok (.ireturn, 1) := by decide +kernel
set_option maxRecDepth 20000 in
theorem ggX5_keep_X5_hasShape : GoodIn wsX5_keep wsX5_hasShape := goodIn_r _ [11, 12, 13, 14, 15, 16, 17, 18, 19, 20, 21, 22, 23, 24, 25, 26, 27, 28, 29, 30, 31, 32] (by decide +kernel) (by decide +kernel)
set_option maxRecDepth 20000 in
theorem gX5_keep_X5_hasShape : GoodIn wsX5_keep (wsV RX5 113 RX5 yX5_hasShape wsX5_hasShape) := goodIn_app (goodIn_of _ (by decide +kernel)) ggX5_keep_X5_hasShape
theorem dX5_keep_0 : decode cX5_keep 0 = .ok (.aload_n 0, 1) := by decide +kernel
theorem dX5_keep_1 : decode cX5_keep 1 = .ok (.aload_n 0, 1) := by decide +kernel
theorem dX5_keep_2 : decode cX5_keep 2 = .ok (.invokevirtual 113, 3) := by decide +kernel
theorem dX5_keep_5 : decode cX5_keep 5 = .ok (.ifCond .eq 7, 3) := by decide +kernel
theorem dX5_keep_8 : decode cX5_keep 8 = .ok (.iconst 0, 1) := by decide +kernel
theorem dX5_keep_9 : decode cX5_keep 9 = .ok (.goto 4, 3) := by decide +kernel
theorem dX5_keep_12 : decode cX5_keep 12 = .ok (.iconst 1, 1) := by decide +kernel
theorem dX5_keep_13 : decode cX5_keep 13 = .ok (.putfield 55, 3) := by decide +kernel
theorem dX5_keep_16 : decode cX5_keep 16 = .ok (.iconst 0, 1) := by decide +kernel
theorem dX5_keep_17 : decode cX5_keep 17 = .ok (.istore_n 1, 1) := by decide +kernel
theorem dX5_keep_18 : decode cX5_keep 18 = .ok (.iload_n 1, 1) := by decide +kernel
theorem dX5_keep_19 : decode cX5_keep 19 = .ok (.aload_n 0, 1) := by decide +kernel
theorem dX5_keep_20 : decode cX5_keep 20 = .ok (.getfield 48, 3) := by decide +kernel
theorem dX5_keep_23 : decode cX5_keep 23 = .ok (.if_icmp .ge 51, 3) := by decide +kernel
theorem dX5_keep_26 : decode cX5_keep 26 = .ok (.aload_n 0, 1) := by decide +kernel
theorem dX5_keep_27 : decode cX5_keep 27 = .ok (.getfield 55, 3) := by decide +kernel
theorem dX5_keep_30 : decode cX5_keep 30 = .ok (.ifCond .ne 44, 3) := by decide +kernel
theorem dX5_keep_33 : decode cX5_keep 33 = .ok (.aload_n 0, 1) := by decide +kernel
theorem dX5_keep_34 : decode cX5_keep 34 = .ok (.iconst 1, 1) := by decide +kernel
theorem dX5_keep_35 : decode cX5_keep 35 = .ok (.putfield 144, 3) := by decide +kernel
theorem dX5_keep_38 : decode cX5_keep 38 = .ok (.aload_n 0, 1) := by decide +kernel
theorem dX5_keep_39 : decode cX5_keep 39 = .ok (.getfield 42, 3) := by decide +kernel
theorem dX5_keep_42 : decode cX5_keep 42 = .ok (.iload_n 1, 1) := by decide +kernel
theorem dX5_keep_43 : decode cX5_keep 43 = .ok (.aload_n 0, 1) := by decide +kernel
theorem dX5_keep_44 : decode cX5_keep 44 = .ok (.getfield 29, 3) := by decide +kernel
theorem dX5_keep_47 : decode cX5_keep 47 = .ok (.iconst 4, 1) := by decide +kernel
theorem dX5_keep_48 : decode cX5_keep 48 = .ok (.iload_n 1, 1) := by decide +kernel
theorem dX5_keep_49 : decode cX5_keep 49 = .ok (.imul, 1) := by decide +kernel
theorem dX5_keep_50 : decode cX5_keep 50 = .ok (.daload, 1) := by decide +kernel
theorem dX5_keep_51 : decode cX5_keep 51 = .ok (.dastore, 1) := by decide +kernel
theorem dX5_keep_52 : decode cX5_keep 52 = .ok (.aload_n 0, 1) := by decide +kernel
theorem dX5_keep_53 : decode cX5_keep 53 = .ok (.getfield 45, 3) := by decide +kernel
theorem dX5_keep_56 : decode cX5_keep 56 = .ok (.iload_n 1, 1) := by decide +kernel
theorem dX5_keep_57 : decode cX5_keep 57 = .ok (.aload_n 0, 1) := by decide +kernel
theorem dX5_keep_58 : decode cX5_keep 58 = .ok (.getfield 29, 3) := by decide +kernel
theorem dX5_keep_61 : decode cX5_keep 61 = .ok (.iconst 4, 1) := by decide +kernel
theorem dX5_keep_62 : decode cX5_keep 62 = .ok (.iload_n 1, 1) := by decide +kernel
theorem dX5_keep_63 : decode cX5_keep 63 = .ok (.imul, 1) := by decide +kernel
theorem dX5_keep_64 : decode cX5_keep 64 = .ok (.iconst 1, 1) := by decide +kernel
theorem dX5_keep_65 : decode cX5_keep 65 = .ok (.iadd, 1) := by decide +kernel
theorem dX5_keep_66 : decode cX5_keep 66 = .ok (.daload, 1) := by decide +kernel
theorem dX5_keep_67 : decode cX5_keep 67 = .ok (.dastore, 1) := by decide +kernel
theorem dX5_keep_68 : decode cX5_keep 68 = .ok (.iinc 1 1, 3) := by decide +kernel
theorem dX5_keep_71 : decode cX5_keep 71 = .ok (.goto (-53), 3) := by decide +kernel
theorem dX5_keep_74 : decode cX5_keep 74 = .ok (.return_, 1) := by decide +kernel
theorem dX5_apartBy_0 : decode cX5_apartBy 0 = .ok (.dconst 0, 1) := by decide +kernel
theorem dX5_apartBy_1 : decode cX5_apartBy 1 = .ok (.dstore_n 2, 1) := by decide +kernel
theorem dX5_apartBy_2 : decode cX5_apartBy 2 = .ok (.iconst 0, 1) := by decide +kernel
theorem dX5_apartBy_3 : decode cX5_apartBy 3 = .ok (.istore 4, 2) := by decide +kernel
theorem dX5_apartBy_5 : decode cX5_apartBy 5 = .ok (.iload 4, 2) := by decide +kernel
theorem dX5_apartBy_7 : decode cX5_apartBy 7 = .ok (.aload_n 0, 1) := by decide +kernel
theorem dX5_apartBy_8 : decode cX5_apartBy 8 = .ok (.getfield 48, 3) := by decide +kernel
theorem dX5_apartBy_11 : decode cX5_apartBy 11 = .ok (.if_icmp .ge 163, 3) := by decide +kernel
theorem dX5_apartBy_14 : decode cX5_apartBy 14 = .ok (.iload_n 1, 1) := by decide +kernel
theorem dX5_apartBy_15 : decode cX5_apartBy 15 = .ok (.ifCond .ne 13, 3) := by decide +kernel
theorem dX5_apartBy_18 : decode cX5_apartBy 18 = .ok (.aload_n 0, 1) := by decide +kernel
theorem dX5_apartBy_19 : decode cX5_apartBy 19 = .ok (.getfield 42, 3) := by decide +kernel
theorem dX5_apartBy_22 : decode cX5_apartBy 22 = .ok (.iload 4, 2) := by decide +kernel
theorem dX5_apartBy_24 : decode cX5_apartBy 24 = .ok (.daload, 1) := by decide +kernel
theorem dX5_apartBy_25 : decode cX5_apartBy 25 = .ok (.goto 42, 3) := by decide +kernel
theorem dX5_apartBy_28 : decode cX5_apartBy 28 = .ok (.iload_n 1, 1) := by decide +kernel
theorem dX5_apartBy_29 : decode cX5_apartBy 29 = .ok (.iconst 1, 1) := by decide +kernel
theorem dX5_apartBy_30 : decode cX5_apartBy 30 = .ok (.if_icmp .ne 14, 3) := by decide +kernel
theorem dX5_apartBy_33 : decode cX5_apartBy 33 = .ok (.aload_n 0, 1) := by decide +kernel
theorem dX5_apartBy_34 : decode cX5_apartBy 34 = .ok (.getfield 45, 3) := by decide +kernel
theorem dX5_apartBy_37 : decode cX5_apartBy 37 = .ok (.iload 4, 2) := by decide +kernel
theorem dX5_apartBy_39 : decode cX5_apartBy 39 = .ok (.daload, 1) := by decide +kernel
theorem dX5_apartBy_40 : decode cX5_apartBy 40 = .ok (.dneg, 1) := by decide +kernel
theorem dX5_apartBy_41 : decode cX5_apartBy 41 = .ok (.goto 26, 3) := by decide +kernel
theorem dX5_apartBy_44 : decode cX5_apartBy 44 = .ok (.iload_n 1, 1) := by decide +kernel
theorem dX5_apartBy_45 : decode cX5_apartBy 45 = .ok (.iconst 2, 1) := by decide +kernel
theorem dX5_apartBy_46 : decode cX5_apartBy 46 = .ok (.if_icmp .ne 14, 3) := by decide +kernel
theorem dX5_apartBy_49 : decode cX5_apartBy 49 = .ok (.aload_n 0, 1) := by decide +kernel
theorem dX5_apartBy_50 : decode cX5_apartBy 50 = .ok (.getfield 42, 3) := by decide +kernel
theorem dX5_apartBy_53 : decode cX5_apartBy 53 = .ok (.iload 4, 2) := by decide +kernel
theorem dX5_apartBy_55 : decode cX5_apartBy 55 = .ok (.daload, 1) := by decide +kernel
theorem dX5_apartBy_56 : decode cX5_apartBy 56 = .ok (.dneg, 1) := by decide +kernel
theorem dX5_apartBy_57 : decode cX5_apartBy 57 = .ok (.goto 10, 3) := by decide +kernel
theorem dX5_apartBy_60 : decode cX5_apartBy 60 = .ok (.aload_n 0, 1) := by decide +kernel
theorem dX5_apartBy_61 : decode cX5_apartBy 61 = .ok (.getfield 45, 3) := by decide +kernel
theorem dX5_apartBy_64 : decode cX5_apartBy 64 = .ok (.iload 4, 2) := by decide +kernel
theorem dX5_apartBy_66 : decode cX5_apartBy 66 = .ok (.daload, 1) := by decide +kernel
theorem dX5_apartBy_67 : decode cX5_apartBy 67 = .ok (.dstore 5, 2) := by decide +kernel
theorem dX5_apartBy_69 : decode cX5_apartBy 69 = .ok (.iload_n 1, 1) := by decide +kernel
theorem dX5_apartBy_70 : decode cX5_apartBy 70 = .ok (.ifCond .ne 13, 3) := by decide +kernel
theorem dX5_apartBy_73 : decode cX5_apartBy 73 = .ok (.aload_n 0, 1) := by decide +kernel
theorem dX5_apartBy_74 : decode cX5_apartBy 74 = .ok (.getfield 45, 3) := by decide +kernel
theorem dX5_apartBy_77 : decode cX5_apartBy 77 = .ok (.iload 4, 2) := by decide +kernel
theorem dX5_apartBy_79 : decode cX5_apartBy 79 = .ok (.daload, 1) := by decide +kernel
theorem dX5_apartBy_80 : decode cX5_apartBy 80 = .ok (.goto 42, 3) := by decide +kernel
theorem dX5_apartBy_83 : decode cX5_apartBy 83 = .ok (.iload_n 1, 1) := by decide +kernel
theorem dX5_apartBy_84 : decode cX5_apartBy 84 = .ok (.iconst 1, 1) := by decide +kernel
theorem dX5_apartBy_85 : decode cX5_apartBy 85 = .ok (.if_icmp .ne 13, 3) := by decide +kernel
theorem dX5_apartBy_88 : decode cX5_apartBy 88 = .ok (.aload_n 0, 1) := by decide +kernel
theorem dX5_apartBy_89 : decode cX5_apartBy 89 = .ok (.getfield 42, 3) := by decide +kernel
theorem dX5_apartBy_92 : decode cX5_apartBy 92 = .ok (.iload 4, 2) := by decide +kernel
theorem dX5_apartBy_94 : decode cX5_apartBy 94 = .ok (.daload, 1) := by decide +kernel
theorem dX5_apartBy_95 : decode cX5_apartBy 95 = .ok (.goto 27, 3) := by decide +kernel
theorem dX5_apartBy_98 : decode cX5_apartBy 98 = .ok (.iload_n 1, 1) := by decide +kernel
theorem dX5_apartBy_99 : decode cX5_apartBy 99 = .ok (.iconst 2, 1) := by decide +kernel
theorem dX5_apartBy_100 : decode cX5_apartBy 100 = .ok (.if_icmp .ne 14, 3) := by decide +kernel
theorem dX5_apartBy_103 : decode cX5_apartBy 103 = .ok (.aload_n 0, 1) := by decide +kernel
theorem dX5_apartBy_104 : decode cX5_apartBy 104 = .ok (.getfield 45, 3) := by decide +kernel
theorem dX5_apartBy_107 : decode cX5_apartBy 107 = .ok (.iload 4, 2) := by decide +kernel
theorem dX5_apartBy_109 : decode cX5_apartBy 109 = .ok (.daload, 1) := by decide +kernel
theorem dX5_apartBy_110 : decode cX5_apartBy 110 = .ok (.dneg, 1) := by decide +kernel
theorem dX5_apartBy_111 : decode cX5_apartBy 111 = .ok (.goto 11, 3) := by decide +kernel
theorem dX5_apartBy_114 : decode cX5_apartBy 114 = .ok (.aload_n 0, 1) := by decide +kernel
theorem dX5_apartBy_115 : decode cX5_apartBy 115 = .ok (.getfield 42, 3) := by decide +kernel
theorem dX5_apartBy_118 : decode cX5_apartBy 118 = .ok (.iload 4, 2) := by decide +kernel
theorem dX5_apartBy_120 : decode cX5_apartBy 120 = .ok (.daload, 1) := by decide +kernel
theorem dX5_apartBy_121 : decode cX5_apartBy 121 = .ok (.dneg, 1) := by decide +kernel
theorem dX5_apartBy_122 : decode cX5_apartBy 122 = .ok (.dstore 7, 2) := by decide +kernel
theorem dX5_apartBy_124 : decode cX5_apartBy 124 = .ok (.aload_n 0, 1) := by decide +kernel
theorem dX5_apartBy_125 : decode cX5_apartBy 125 = .ok (.getfield 29, 3) := by decide +kernel
theorem dX5_apartBy_128 : decode cX5_apartBy 128 = .ok (.iconst 4, 1) := by decide +kernel
theorem dX5_apartBy_129 : decode cX5_apartBy 129 = .ok (.iload 4, 2) := by decide +kernel
theorem dX5_apartBy_131 : decode cX5_apartBy 131 = .ok (.imul, 1) := by decide +kernel
theorem dX5_apartBy_132 : decode cX5_apartBy 132 = .ok (.daload, 1) := by decide +kernel
theorem dX5_apartBy_133 : decode cX5_apartBy 133 = .ok (.dload 5, 2) := by decide +kernel
theorem dX5_apartBy_135 : decode cX5_apartBy 135 = .ok (.dsub, 1) := by decide +kernel
theorem dX5_apartBy_136 : decode cX5_apartBy 136 = .ok (.dstore 9, 2) := by decide +kernel
theorem dX5_apartBy_138 : decode cX5_apartBy 138 = .ok (.aload_n 0, 1) := by decide +kernel
theorem dX5_apartBy_139 : decode cX5_apartBy 139 = .ok (.getfield 29, 3) := by decide +kernel
theorem dX5_apartBy_142 : decode cX5_apartBy 142 = .ok (.iconst 4, 1) := by decide +kernel
theorem dX5_apartBy_143 : decode cX5_apartBy 143 = .ok (.iload 4, 2) := by decide +kernel
theorem dX5_apartBy_145 : decode cX5_apartBy 145 = .ok (.imul, 1) := by decide +kernel
theorem dX5_apartBy_146 : decode cX5_apartBy 146 = .ok (.iconst 1, 1) := by decide +kernel
theorem dX5_apartBy_147 : decode cX5_apartBy 147 = .ok (.iadd, 1) := by decide +kernel
theorem dX5_apartBy_148 : decode cX5_apartBy 148 = .ok (.daload, 1) := by decide +kernel
theorem dX5_apartBy_149 : decode cX5_apartBy 149 = .ok (.dload 7, 2) := by decide +kernel
theorem dX5_apartBy_151 : decode cX5_apartBy 151 = .ok (.dsub, 1) := by decide +kernel
theorem dX5_apartBy_152 : decode cX5_apartBy 152 = .ok (.dstore 11, 2) := by decide +kernel
theorem dX5_apartBy_154 : decode cX5_apartBy 154 = .ok (.dload_n 2, 1) := by decide +kernel
theorem dX5_apartBy_155 : decode cX5_apartBy 155 = .ok (.dload 9, 2) := by decide +kernel
theorem dX5_apartBy_157 : decode cX5_apartBy 157 = .ok (.dload 9, 2) := by decide +kernel
theorem dX5_apartBy_159 : decode cX5_apartBy 159 = .ok (.dmul, 1) := by decide +kernel
theorem dX5_apartBy_160 : decode cX5_apartBy 160 = .ok (.dload 11, 2) := by decide +kernel
theorem dX5_apartBy_162 : decode cX5_apartBy 162 = .ok (.dload 11, 2) := by decide +kernel
theorem dX5_apartBy_164 : decode cX5_apartBy 164 = .ok (.dmul, 1) := by decide +kernel
theorem dX5_apartBy_165 : decode cX5_apartBy 165 = .ok (.dadd, 1) := by decide +kernel
theorem dX5_apartBy_166 : decode cX5_apartBy 166 = .ok (.dadd, 1) := by decide +kernel
theorem dX5_apartBy_167 : decode cX5_apartBy 167 = .ok (.dstore_n 2, 1) := by decide +kernel
theorem dX5_apartBy_168 : decode cX5_apartBy 168 = .ok (.iinc 4 1, 3) := by decide +kernel
theorem dX5_apartBy_171 : decode cX5_apartBy 171 = .ok (.goto (-166), 3) := by decide +kernel
theorem dX5_apartBy_174 : decode cX5_apartBy 174 = .ok (.dload_n 2, 1) := by decide +kernel
theorem dX5_apartBy_175 : decode cX5_apartBy 175 = .ok (.dreturn, 1) := by decide +kernel
set_option maxRecDepth 20000 in
theorem ggX5_apart_X5_hasShape : GoodIn wsX5_apart wsX5_hasShape := goodIn_r _ [7, 8, 9, 18, 19, 20, 21, 22, 23, 24, 25, 26, 27, 28, 29, 30, 31, 32, 33, 34, 35, 36] (by decide +kernel) (by decide +kernel)
set_option maxRecDepth 20000 in
theorem gX5_apart_X5_hasShape : GoodIn wsX5_apart (wsV RX5 113 RX5 yX5_hasShape wsX5_hasShape) := goodIn_app (goodIn_of _ (by decide +kernel)) ggX5_apart_X5_hasShape
set_option maxRecDepth 20000 in
theorem ggX5_apart_X5_apartBy : GoodIn wsX5_apart wsX5_apartBy := goodIn_r _ [13, 14, 15, 16, 17, 18, 19, 20, 21, 22, 23, 24, 25, 26, 27, 28, 29, 30, 31, 32, 33, 34, 35, 36] (by decide +kernel) (by decide +kernel)
set_option maxRecDepth 20000 in
theorem gX5_apart_X5_apartBy : GoodIn wsX5_apart (wsV RX5 147 RX5 yX5_apartBy wsX5_apartBy) := goodIn_app (goodIn_of _ (by decide +kernel)) ggX5_apart_X5_apartBy
theorem dX5_apart_0 : decode cX5_apart 0 = .ok (.aload_n 0, 1) := by decide +kernel
theorem dX5_apart_1 : decode cX5_apart 1 = .ok (.iload_n 1, 1) := by decide +kernel
theorem dX5_apart_2 : decode cX5_apart 2 = .ok (.ifCond .lt 8, 3) := by decide +kernel
theorem dX5_apart_5 : decode cX5_apart 5 = .ok (.iload_n 1, 1) := by decide +kernel
theorem dX5_apart_6 : decode cX5_apart 6 = .ok (.iconst 3, 1) := by decide +kernel
theorem dX5_apart_7 : decode cX5_apart 7 = .ok (.if_icmp .le 7, 3) := by decide +kernel
theorem dX5_apart_10 : decode cX5_apart 10 = .ok (.iconst 1, 1) := by decide +kernel
theorem dX5_apart_11 : decode cX5_apart 11 = .ok (.goto 22, 3) := by decide +kernel
theorem dX5_apart_14 : decode cX5_apart 14 = .ok (.aload_n 0, 1) := by decide +kernel
theorem dX5_apart_15 : decode cX5_apart 15 = .ok (.invokevirtual 113, 3) := by decide +kernel
theorem dX5_apart_18 : decode cX5_apart 18 = .ok (.ifCond .eq 14, 3) := by decide +kernel
theorem dX5_apart_21 : decode cX5_apart 21 = .ok (.aload_n 0, 1) := by decide +kernel
theorem dX5_apart_22 : decode cX5_apart 22 = .ok (.getfield 144, 3) := by decide +kernel
theorem dX5_apart_25 : decode cX5_apart 25 = .ok (.ifCond .eq 7, 3) := by decide +kernel
theorem dX5_apart_28 : decode cX5_apart 28 = .ok (.iconst 0, 1) := by decide +kernel
theorem dX5_apart_29 : decode cX5_apart 29 = .ok (.goto 4, 3) := by decide +kernel
theorem dX5_apart_32 : decode cX5_apart 32 = .ok (.iconst 2, 1) := by decide +kernel
theorem dX5_apart_33 : decode cX5_apart 33 = .ok (.putfield 55, 3) := by decide +kernel
theorem dX5_apart_36 : decode cX5_apart 36 = .ok (.aload_n 0, 1) := by decide +kernel
theorem dX5_apart_37 : decode cX5_apart 37 = .ok (.getfield 55, 3) := by decide +kernel
theorem dX5_apart_40 : decode cX5_apart 40 = .ok (.ifCond .le 7, 3) := by decide +kernel
theorem dX5_apart_43 : decode cX5_apart 43 = .ok (.dconst 0, 1) := by decide +kernel
theorem dX5_apart_44 : decode cX5_apart 44 = .ok (.goto 8, 3) := by decide +kernel
theorem dX5_apart_47 : decode cX5_apart 47 = .ok (.aload_n 0, 1) := by decide +kernel
theorem dX5_apart_48 : decode cX5_apart 48 = .ok (.iload_n 1, 1) := by decide +kernel
theorem dX5_apart_49 : decode cX5_apart 49 = .ok (.invokevirtual 147, 3) := by decide +kernel
theorem dX5_apart_52 : decode cX5_apart 52 = .ok (.dreturn, 1) := by decide +kernel
set_option maxRecDepth 20000 in
theorem ggX5_match_X5_hasShape : GoodIn wsX5_match wsX5_hasShape := goodIn_r _ [7, 8, 9, 18, 19, 20, 21, 22, 23, 24, 25, 26, 27, 28, 29, 30, 31, 32, 33, 34, 35, 36] (by decide +kernel) (by decide +kernel)
set_option maxRecDepth 20000 in
theorem gX5_match_X5_hasShape : GoodIn wsX5_match (wsV RX5 113 RX5 yX5_hasShape wsX5_hasShape) := goodIn_app (goodIn_of _ (by decide +kernel)) ggX5_match_X5_hasShape
set_option maxRecDepth 20000 in
theorem ggX5_match_X5_apartBy : GoodIn wsX5_match wsX5_apartBy := goodIn_r _ [13, 14, 15, 16, 17, 18, 19, 20, 21, 22, 23, 24, 25, 26, 27, 28, 29, 30, 31, 32, 33, 34, 35, 36] (by decide +kernel) (by decide +kernel)
set_option maxRecDepth 20000 in
theorem gX5_match_X5_apartBy : GoodIn wsX5_match (wsV RX5 147 RX5 yX5_apartBy wsX5_apartBy) := goodIn_app (goodIn_of _ (by decide +kernel)) ggX5_match_X5_apartBy
theorem dX5_match_0 : decode cX5_match 0 = .ok (.aload_n 0, 1) := by decide +kernel
theorem dX5_match_1 : decode cX5_match 1 = .ok (.aload_n 0, 1) := by decide +kernel
theorem dX5_match_2 : decode cX5_match 2 = .ok (.invokevirtual 113, 3) := by decide +kernel
theorem dX5_match_5 : decode cX5_match 5 = .ok (.ifCond .eq 14, 3) := by decide +kernel
theorem dX5_match_8 : decode cX5_match 8 = .ok (.aload_n 0, 1) := by decide +kernel
theorem dX5_match_9 : decode cX5_match 9 = .ok (.getfield 144, 3) := by decide +kernel
theorem dX5_match_12 : decode cX5_match 12 = .ok (.ifCond .eq 7, 3) := by decide +kernel
theorem dX5_match_15 : decode cX5_match 15 = .ok (.iconst 0, 1) := by decide +kernel
theorem dX5_match_16 : decode cX5_match 16 = .ok (.goto 4, 3) := by decide +kernel
theorem dX5_match_19 : decode cX5_match 19 = .ok (.iconst 1, 1) := by decide +kernel
theorem dX5_match_20 : decode cX5_match 20 = .ok (.putfield 55, 3) := by decide +kernel
theorem dX5_match_23 : decode cX5_match 23 = .ok (.iconst 0, 1) := by decide +kernel
theorem dX5_match_24 : decode cX5_match 24 = .ok (.istore_n 1, 1) := by decide +kernel
theorem dX5_match_25 : decode cX5_match 25 = .ok (.iconst 1, 1) := by decide +kernel
theorem dX5_match_26 : decode cX5_match 26 = .ok (.istore_n 2, 1) := by decide +kernel
theorem dX5_match_27 : decode cX5_match 27 = .ok (.iload_n 2, 1) := by decide +kernel
theorem dX5_match_28 : decode cX5_match 28 = .ok (.iconst 4, 1) := by decide +kernel
theorem dX5_match_29 : decode cX5_match 29 = .ok (.if_icmp .ge 36, 3) := by decide +kernel
theorem dX5_match_32 : decode cX5_match 32 = .ok (.aload_n 0, 1) := by decide +kernel
theorem dX5_match_33 : decode cX5_match 33 = .ok (.getfield 55, 3) := by decide +kernel
theorem dX5_match_36 : decode cX5_match 36 = .ok (.ifCond .ne 29, 3) := by decide +kernel
theorem dX5_match_39 : decode cX5_match 39 = .ok (.aload_n 0, 1) := by decide +kernel
theorem dX5_match_40 : decode cX5_match 40 = .ok (.iload_n 2, 1) := by decide +kernel
theorem dX5_match_41 : decode cX5_match 41 = .ok (.invokevirtual 147, 3) := by decide +kernel
theorem dX5_match_44 : decode cX5_match 44 = .ok (.aload_n 0, 1) := by decide +kernel
theorem dX5_match_45 : decode cX5_match 45 = .ok (.iload_n 1, 1) := by decide +kernel
theorem dX5_match_46 : decode cX5_match 46 = .ok (.invokevirtual 147, 3) := by decide +kernel
theorem dX5_match_49 : decode cX5_match 49 = .ok (.dcmp .g, 1) := by decide +kernel
theorem dX5_match_50 : decode cX5_match 50 = .ok (.ifCond .ge 7, 3) := by decide +kernel
theorem dX5_match_53 : decode cX5_match 53 = .ok (.iload_n 2, 1) := by decide +kernel
theorem dX5_match_54 : decode cX5_match 54 = .ok (.goto 4, 3) := by decide +kernel
theorem dX5_match_57 : decode cX5_match 57 = .ok (.iload_n 1, 1) := by decide +kernel
theorem dX5_match_58 : decode cX5_match 58 = .ok (.istore_n 1, 1) := by decide +kernel
theorem dX5_match_59 : decode cX5_match 59 = .ok (.iinc 2 1, 3) := by decide +kernel
theorem dX5_match_62 : decode cX5_match 62 = .ok (.goto (-35), 3) := by decide +kernel
theorem dX5_match_65 : decode cX5_match 65 = .ok (.iload_n 1, 1) := by decide +kernel
theorem dX5_match_66 : decode cX5_match 66 = .ok (.ireturn, 1) := by decide +kernel
theorem dX5_law_0 : decode cX5_law 0 = .ok (.aload_n 0, 1) := by decide +kernel
theorem dX5_law_1 : decode cX5_law 1 = .ok (.lload_n 1, 1) := by decide +kernel
theorem dX5_law_2 : decode cX5_law 2 = .ok (.lconst 0, 1) := by decide +kernel
theorem dX5_law_3 : decode cX5_law 3 = .ok (.lcmp, 1) := by decide +kernel
theorem dX5_law_4 : decode cX5_law 4 = .ok (.ifCond .lt 32, 3) := by decide +kernel
theorem dX5_law_7 : decode cX5_law 7 = .ok (.lload_n 1, 1) := by decide +kernel
theorem dX5_law_8 : decode cX5_law 8 = .ok (.ldc2_w 150, 3) := by decide +kernel
theorem dX5_law_11 : decode cX5_law 11 = .ok (.lcmp, 1) := by decide +kernel
theorem dX5_law_12 : decode cX5_law 12 = .ok (.ifCond .gt 24, 3) := by decide +kernel
theorem dX5_law_15 : decode cX5_law 15 = .ok (.lload_n 3, 1) := by decide +kernel
theorem dX5_law_16 : decode cX5_law 16 = .ok (.lconst 1, 1) := by decide +kernel
theorem dX5_law_17 : decode cX5_law 17 = .ok (.lcmp, 1) := by decide +kernel
theorem dX5_law_18 : decode cX5_law 18 = .ok (.ifCond .lt 18, 3) := by decide +kernel
theorem dX5_law_21 : decode cX5_law 21 = .ok (.lload_n 3, 1) := by decide +kernel
theorem dX5_law_22 : decode cX5_law 22 = .ok (.ldc2_w 152, 3) := by decide +kernel
theorem dX5_law_25 : decode cX5_law 25 = .ok (.lcmp, 1) := by decide +kernel
theorem dX5_law_26 : decode cX5_law 26 = .ok (.ifCond .gt 10, 3) := by decide +kernel
theorem dX5_law_29 : decode cX5_law 29 = .ok (.lload 5, 2) := by decide +kernel
theorem dX5_law_31 : decode cX5_law 31 = .ok (.lconst 0, 1) := by decide +kernel
theorem dX5_law_32 : decode cX5_law 32 = .ok (.lcmp, 1) := by decide +kernel
theorem dX5_law_33 : decode cX5_law 33 = .ok (.ifCond .ge 7, 3) := by decide +kernel
theorem dX5_law_36 : decode cX5_law 36 = .ok (.iconst 1, 1) := by decide +kernel
theorem dX5_law_37 : decode cX5_law 37 = .ok (.goto 4, 3) := by decide +kernel
theorem dX5_law_40 : decode cX5_law 40 = .ok (.iconst 0, 1) := by decide +kernel
theorem dX5_law_41 : decode cX5_law 41 = .ok (.putfield 55, 3) := by decide +kernel
theorem dX5_law_44 : decode cX5_law 44 = .ok (.aload_n 0, 1) := by decide +kernel
theorem dX5_law_45 : decode cX5_law 45 = .ok (.getfield 55, 3) := by decide +kernel
theorem dX5_law_48 : decode cX5_law 48 = .ok (.ifCond .le 5, 3) := by decide +kernel
theorem dX5_law_51 : decode cX5_law 51 = .ok (.lconst 0, 1) := by decide +kernel
theorem dX5_law_52 : decode cX5_law 52 = .ok (.lreturn, 1) := by decide +kernel
theorem dX5_law_53 : decode cX5_law 53 = .ok (.lload_n 1, 1) := by decide +kernel
theorem dX5_law_54 : decode cX5_law 54 = .ok (.lload_n 3, 1) := by decide +kernel
theorem dX5_law_55 : decode cX5_law 55 = .ok (.ldiv, 1) := by decide +kernel
theorem dX5_law_56 : decode cX5_law 56 = .ok (.lload_n 3, 1) := by decide +kernel
theorem dX5_law_57 : decode cX5_law 57 = .ok (.lmul, 1) := by decide +kernel
theorem dX5_law_58 : decode cX5_law 58 = .ok (.lstore 7, 2) := by decide +kernel
theorem dX5_law_60 : decode cX5_law 60 = .ok (.lload 7, 2) := by decide +kernel
theorem dX5_law_62 : decode cX5_law 62 = .ok (.lload 5, 2) := by decide +kernel
theorem dX5_law_64 : decode cX5_law 64 = .ok (.lcmp, 1) := by decide +kernel
theorem dX5_law_65 : decode cX5_law 65 = .ok (.ifCond .ge 7, 3) := by decide +kernel
theorem dX5_law_68 : decode cX5_law 68 = .ok (.lconst 0, 1) := by decide +kernel
theorem dX5_law_69 : decode cX5_law 69 = .ok (.goto 5, 3) := by decide +kernel
theorem dX5_law_72 : decode cX5_law 72 = .ok (.lload 7, 2) := by decide +kernel
theorem dX5_law_74 : decode cX5_law 74 = .ok (.lreturn, 1) := by decide +kernel
