theorem dX4_init_0 : decode cX4_init 0 = .ok (.aload_n 0, 1) := by decide +kernel
theorem dX4_init_1 : decode cX4_init 1 = .ok (.invokespecial 1, 3) := by decide +kernel
theorem dX4_init_4 : decode cX4_init 4 = .ok (.aload_n 0, 1) := by decide +kernel
theorem dX4_init_5 : decode cX4_init 5 = .ok (.bipush 8, 2) := by decide +kernel
theorem dX4_init_7 : decode cX4_init 7 = .ok (.anewarray 9, 3) := by decide +kernel
theorem dX4_init_10 : decode cX4_init 10 = .ok (.putfield 11, 3) := by decide +kernel
theorem dX4_init_13 : decode cX4_init 13 = .ok (.aload_n 0, 1) := by decide +kernel
theorem dX4_init_14 : decode cX4_init 14 = .ok (.iconst 0, 1) := by decide +kernel
theorem dX4_init_15 : decode cX4_init 15 = .ok (.putfield 15, 3) := by decide +kernel
theorem dX4_init_18 : decode cX4_init 18 = .ok (.aload_n 0, 1) := by decide +kernel
theorem dX4_init_19 : decode cX4_init 19 = .ok (.bipush 100, 2) := by decide +kernel
theorem dX4_init_21 : decode cX4_init 21 = .ok (.anewarray 19, 3) := by decide +kernel
theorem dX4_init_24 : decode cX4_init 24 = .ok (.putfield 21, 3) := by decide +kernel
theorem dX4_init_27 : decode cX4_init 27 = .ok (.aload_n 0, 1) := by decide +kernel
theorem dX4_init_28 : decode cX4_init 28 = .ok (.iconst 0, 1) := by decide +kernel
theorem dX4_init_29 : decode cX4_init 29 = .ok (.putfield 25, 3) := by decide +kernel
theorem dX4_init_32 : decode cX4_init 32 = .ok (.aload_n 0, 1) := by decide +kernel
theorem dX4_init_33 : decode cX4_init 33 = .ok (.bipush 8, 2) := by decide +kernel
theorem dX4_init_35 : decode cX4_init 35 = .ok (.newarray .int, 2) := by decide +kernel
theorem dX4_init_37 : decode cX4_init 37 = .ok (.putfield 28, 3) := by decide +kernel
theorem dX4_init_40 : decode cX4_init 40 = .ok (.aload_n 0, 1) := by decide +kernel
theorem dX4_init_41 : decode cX4_init 41 = .ok (.iconst 3, 1) := by decide +kernel
theorem dX4_init_42 : decode cX4_init 42 = .ok (.newarray .int, 2) := by decide +kernel
theorem dX4_init_44 : decode cX4_init 44 = .ok (.putfield 32, 3) := by decide +kernel
theorem dX4_init_47 : decode cX4_init 47 = .ok (.aload_n 0, 1) := by decide +kernel
theorem dX4_init_48 : decode cX4_init 48 = .ok (.aconst_null, 1) := by decide +kernel
theorem dX4_init_49 : decode cX4_init 49 = .ok (.putfield 35, 3) := by decide +kernel
theorem dX4_init_52 : decode cX4_init 52 = .ok (.aload_n 0, 1) := by decide +kernel
theorem dX4_init_53 : decode cX4_init 53 = .ok (.aconst_null, 1) := by decide +kernel
theorem dX4_init_54 : decode cX4_init 54 = .ok (.putfield 39, 3) := by decide +kernel
theorem dX4_init_57 : decode cX4_init 57 = .ok (.aload_n 0, 1) := by decide +kernel
theorem dX4_init_58 : decode cX4_init 58 = .ok (.sipush 900, 3) := by decide +kernel
theorem dX4_init_61 : decode cX4_init 61 = .ok (.putfield 42, 3) := by decide +kernel
theorem dX4_init_64 : decode cX4_init 64 = .ok (.aload_n 0, 1) := by decide +kernel
theorem dX4_init_65 : decode cX4_init 65 = .ok (.iconst 0, 1) := by decide +kernel
theorem dX4_init_66 : decode cX4_init 66 = .ok (.putfield 45, 3) := by decide +kernel
theorem dX4_init_69 : decode cX4_init 69 = .ok (.aload_n 0, 1) := by decide +kernel
theorem dX4_init_70 : decode cX4_init 70 = .ok (.bipush 50, 2) := by decide +kernel
theorem dX4_init_72 : decode cX4_init 72 = .ok (.putfield 48, 3) := by decide +kernel
theorem dX4_init_75 : decode cX4_init 75 = .ok (.aload_n 0, 1) := by decide +kernel
theorem dX4_init_76 : decode cX4_init 76 = .ok (.iconst 0, 1) := by decide +kernel
theorem dX4_init_77 : decode cX4_init 77 = .ok (.putfield 51, 3) := by decide +kernel
theorem dX4_init_80 : decode cX4_init 80 = .ok (.aload_n 0, 1) := by decide +kernel
theorem dX4_init_81 : decode cX4_init 81 = .ok (.iconst 0, 1) := by decide +kernel
theorem dX4_init_82 : decode cX4_init 82 = .ok (.putfield 54, 3) := by decide +kernel
theorem dX4_init_85 : decode cX4_init 85 = .ok (.aload_n 0, 1) := by decide +kernel
theorem dX4_init_86 : decode cX4_init 86 = .ok (.iconst 0, 1) := by decide +kernel
theorem dX4_init_87 : decode cX4_init 87 = .ok (.putfield 57, 3) := by decide +kernel
theorem dX4_init_90 : decode cX4_init 90 = .ok (.iload_n 1, 1) := by decide +kernel
theorem dX4_init_91 : decode cX4_init 91 = .ok (.iconst 1, 1) := by decide +kernel
theorem dX4_init_92 : decode cX4_init 92 = .ok (.iconst 3, 1) := by decide +kernel
theorem dX4_init_93 : decode cX4_init 93 = .ok (.invokestatic 60, 3) := by decide +kernel
theorem dX4_init_96 : decode cX4_init 96 = .ok (.istore_n 3, 1) := by decide +kernel
theorem dX4_init_97 : decode cX4_init 97 = .ok (.aload_n 0, 1) := by decide +kernel
theorem dX4_init_98 : decode cX4_init 98 = .ok (.iload_n 3, 1) := by decide +kernel
theorem dX4_init_99 : decode cX4_init 99 = .ok (.anewarray 64, 3) := by decide +kernel
theorem dX4_init_102 : decode cX4_init 102 = .ok (.putfield 66, 3) := by decide +kernel
theorem dX4_init_105 : decode cX4_init 105 = .ok (.iconst 0, 1) := by decide +kernel
theorem dX4_init_106 : decode cX4_init 106 = .ok (.istore 4, 2) := by decide +kernel
theorem dX4_init_108 : decode cX4_init 108 = .ok (.iload 4, 2) := by decide +kernel
theorem dX4_init_110 : decode cX4_init 110 = .ok (.iload_n 3, 1) := by decide +kernel
theorem dX4_init_111 : decode cX4_init 111 = .ok (.if_icmp .ge 25, 3) := by decide +kernel
theorem dX4_init_114 : decode cX4_init 114 = .ok (.aload_n 0, 1) := by decide +kernel
theorem dX4_init_115 : decode cX4_init 115 = .ok (.getfield 66, 3) := by decide +kernel
theorem dX4_init_118 : decode cX4_init 118 = .ok (.iload 4, 2) := by decide +kernel
theorem dX4_init_120 : decode cX4_init 120 = .ok (.new 64, 3) := by decide +kernel
theorem dX4_init_123 : decode cX4_init 123 = .ok (.dup, 1) := by decide +kernel
theorem dX4_init_124 : decode cX4_init 124 = .ok (.iload 4, 2) := by decide +kernel
theorem dX4_init_126 : decode cX4_init 126 = .ok (.invokespecial 70, 3) := by decide +kernel
theorem dX4_init_129 : decode cX4_init 129 = .ok (.aastore, 1) := by decide +kernel
theorem dX4_init_130 : decode cX4_init 130 = .ok (.iinc 4 1, 3) := by decide +kernel
theorem dX4_init_133 : decode cX4_init 133 = .ok (.goto (-25), 3) := by decide +kernel
theorem dX4_init_136 : decode cX4_init 136 = .ok (.aload_n 0, 1) := by decide +kernel
theorem dX4_init_137 : decode cX4_init 137 = .ok (.new 73, 3) := by decide +kernel
theorem dX4_init_140 : decode cX4_init 140 = .ok (.dup, 1) := by decide +kernel
theorem dX4_init_141 : decode cX4_init 141 = .ok (.iload_n 3, 1) := by decide +kernel
theorem dX4_init_142 : decode cX4_init 142 = .ok (.invokespecial 75, 3) := by decide +kernel
theorem dX4_init_145 : decode cX4_init 145 = .ok (.putfield 76, 3) := by decide +kernel
theorem dX4_init_148 : decode cX4_init 148 = .ok (.aload_n 0, 1) := by decide +kernel
theorem dX4_init_149 : decode cX4_init 149 = .ok (.iload_n 2, 1) := by decide +kernel
theorem dX4_init_150 : decode cX4_init 150 = .ok (.bipush 6, 2) := by decide +kernel
theorem dX4_init_152 : decode cX4_init 152 = .ok (.bipush 30, 2) := by decide +kernel
theorem dX4_init_154 : decode cX4_init 154 = .ok (.invokestatic 60, 3) := by decide +kernel
theorem dX4_init_157 : decode cX4_init 157 = .ok (.putfield 80, 3) := by decide +kernel
theorem dX4_init_160 : decode cX4_init 160 = .ok (.return_, 1) := by decide +kernel
set_option maxRecDepth 20000 in
theorem ggX4_recipe_X4_readRecipe : GoodIn wsX4_recipe wsX4_readRecipe := goodIn_r _ [6, 7, 8, 9, 10, 11, 12, 13, 14, 15, 16, 17, 18, 19, 20, 21, 22, 23, 24, 25, 26, 27, 28, 29, 30, 48, 49, 50, 51, 52, 53] (by decide +kernel) (by decide +kernel)
set_option maxRecDepth 20000 in
theorem gX4_recipe_X4_readRecipe : GoodIn wsX4_recipe (va_wsS RX4 83 yX4_readRecipe wsX4_readRecipe) := goodIn_app (goodIn_of _ (by decide +kernel)) ggX4_recipe_X4_readRecipe
theorem dX4_recipe_0 : decode cX4_recipe 0 = .ok (.aload_n 0, 1) := by decide +kernel
theorem dX4_recipe_1 : decode cX4_recipe 1 = .ok (.getfield 15, 3) := by decide +kernel
theorem dX4_recipe_4 : decode cX4_recipe 4 = .ok (.bipush 8, 2) := by decide +kernel
theorem dX4_recipe_6 : decode cX4_recipe 6 = .ok (.if_icmp .lt 5, 3) := by decide +kernel
theorem dX4_recipe_9 : decode cX4_recipe 9 = .ok (.iconst (-1), 1) := by decide +kernel
theorem dX4_recipe_10 : decode cX4_recipe 10 = .ok (.ireturn, 1) := by decide +kernel
theorem dX4_recipe_11 : decode cX4_recipe 11 = .ok (.iload_n 1, 1) := by decide +kernel
theorem dX4_recipe_12 : decode cX4_recipe 12 = .ok (.iload_n 2, 1) := by decide +kernel
theorem dX4_recipe_13 : decode cX4_recipe 13 = .ok (.invokestatic 83, 3) := by decide +kernel
theorem dX4_recipe_16 : decode cX4_recipe 16 = .ok (.astore_n 3, 1) := by decide +kernel
theorem dX4_recipe_17 : decode cX4_recipe 17 = .ok (.aload_n 3, 1) := by decide +kernel
theorem dX4_recipe_18 : decode cX4_recipe 18 = .ok (.ifnonnull 5, 3) := by decide +kernel
theorem dX4_recipe_21 : decode cX4_recipe 21 = .ok (.iconst (-1), 1) := by decide +kernel
theorem dX4_recipe_22 : decode cX4_recipe 22 = .ok (.ireturn, 1) := by decide +kernel
theorem dX4_recipe_23 : decode cX4_recipe 23 = .ok (.aload_n 0, 1) := by decide +kernel
theorem dX4_recipe_24 : decode cX4_recipe 24 = .ok (.getfield 11, 3) := by decide +kernel
theorem dX4_recipe_27 : decode cX4_recipe 27 = .ok (.aload_n 0, 1) := by decide +kernel
theorem dX4_recipe_28 : decode cX4_recipe 28 = .ok (.getfield 15, 3) := by decide +kernel
theorem dX4_recipe_31 : decode cX4_recipe 31 = .ok (.aload_n 3, 1) := by decide +kernel
theorem dX4_recipe_32 : decode cX4_recipe 32 = .ok (.aastore, 1) := by decide +kernel
theorem dX4_recipe_33 : decode cX4_recipe 33 = .ok (.aload_n 0, 1) := by decide +kernel
theorem dX4_recipe_34 : decode cX4_recipe 34 = .ok (.dup, 1) := by decide +kernel
theorem dX4_recipe_35 : decode cX4_recipe 35 = .ok (.getfield 15, 3) := by decide +kernel
theorem dX4_recipe_38 : decode cX4_recipe 38 = .ok (.iconst 1, 1) := by decide +kernel
theorem dX4_recipe_39 : decode cX4_recipe 39 = .ok (.iadd, 1) := by decide +kernel
theorem dX4_recipe_40 : decode cX4_recipe 40 = .ok (.putfield 15, 3) := by decide +kernel
theorem dX4_recipe_43 : decode cX4_recipe 43 = .ok (.aload_n 0, 1) := by decide +kernel
theorem dX4_recipe_44 : decode cX4_recipe 44 = .ok (.getfield 15, 3) := by decide +kernel
theorem dX4_recipe_47 : decode cX4_recipe 47 = .ok (.iconst 1, 1) := by decide +kernel
theorem dX4_recipe_48 : decode cX4_recipe 48 = .ok (.isub, 1) := by decide +kernel
theorem dX4_recipe_49 : decode cX4_recipe 49 = .ok (.ireturn, 1) := by decide +kernel
set_option maxRecDepth 20000 in
theorem ggX4_alter_X4_isAmong : GoodIn wsX4_alter wsX4_isAmong := goodIn_r _ [6] (by decide +kernel) (by decide +kernel)
set_option maxRecDepth 20000 in
theorem gX4_alter_X4_isAmong : GoodIn wsX4_alter (va_wsS RX4 87 yX4_isAmong wsX4_isAmong) := goodIn_app (goodIn_of _ (by decide +kernel)) ggX4_alter_X4_isAmong
set_option maxRecDepth 20000 in
theorem ggX4_alter_X4_readRecipe : GoodIn wsX4_alter wsX4_readRecipe := goodIn_r _ [9, 10, 11, 12, 13, 14, 15, 16, 17, 18, 19, 20, 21, 22, 23, 24, 25, 26, 27, 28, 29, 30, 31, 32, 33, 51, 52, 53, 54, 55, 56] (by decide +kernel) (by decide +kernel)
set_option maxRecDepth 20000 in
theorem gX4_alter_X4_readRecipe : GoodIn wsX4_alter (va_wsS RX4 83 yX4_readRecipe wsX4_readRecipe) := goodIn_app (goodIn_of _ (by decide +kernel)) ggX4_alter_X4_readRecipe
theorem dX4_alter_0 : decode cX4_alter 0 = .ok (.iload_n 1, 1) := by decide +kernel
theorem dX4_alter_1 : decode cX4_alter 1 = .ok (.aload_n 0, 1) := by decide +kernel
theorem dX4_alter_2 : decode cX4_alter 2 = .ok (.getfield 15, 3) := by decide +kernel
theorem dX4_alter_5 : decode cX4_alter 5 = .ok (.invokestatic 87, 3) := by decide +kernel
theorem dX4_alter_8 : decode cX4_alter 8 = .ok (.ifCond .ne 5, 3) := by decide +kernel
theorem dX4_alter_11 : decode cX4_alter 11 = .ok (.iconst 0, 1) := by decide +kernel
theorem dX4_alter_12 : decode cX4_alter 12 = .ok (.ireturn, 1) := by decide +kernel
theorem dX4_alter_13 : decode cX4_alter 13 = .ok (.iload_n 2, 1) := by decide +kernel
theorem dX4_alter_14 : decode cX4_alter 14 = .ok (.iload_n 3, 1) := by decide +kernel
theorem dX4_alter_15 : decode cX4_alter 15 = .ok (.invokestatic 83, 3) := by decide +kernel
theorem dX4_alter_18 : decode cX4_alter 18 = .ok (.astore 4, 2) := by decide +kernel
theorem dX4_alter_20 : decode cX4_alter 20 = .ok (.aload 4, 2) := by decide +kernel
theorem dX4_alter_22 : decode cX4_alter 22 = .ok (.ifnonnull 5, 3) := by decide +kernel
theorem dX4_alter_25 : decode cX4_alter 25 = .ok (.iconst 0, 1) := by decide +kernel
theorem dX4_alter_26 : decode cX4_alter 26 = .ok (.ireturn, 1) := by decide +kernel
theorem dX4_alter_27 : decode cX4_alter 27 = .ok (.aload_n 0, 1) := by decide +kernel
theorem dX4_alter_28 : decode cX4_alter 28 = .ok (.getfield 11, 3) := by decide +kernel
theorem dX4_alter_31 : decode cX4_alter 31 = .ok (.iload_n 1, 1) := by decide +kernel
theorem dX4_alter_32 : decode cX4_alter 32 = .ok (.aload 4, 2) := by decide +kernel
theorem dX4_alter_34 : decode cX4_alter 34 = .ok (.aastore, 1) := by decide +kernel
theorem dX4_alter_35 : decode cX4_alter 35 = .ok (.iconst 1, 1) := by decide +kernel
theorem dX4_alter_36 : decode cX4_alter 36 = .ok (.ireturn, 1) := by decide +kernel
set_option maxRecDepth 20000 in
theorem ggX4_store_X4_isAmong : GoodIn wsX4_store wsX4_isAmong := goodIn_r _ [6] (by decide +kernel) (by decide +kernel)
set_option maxRecDepth 20000 in
theorem gX4_store_X4_isAmong : GoodIn wsX4_store (va_wsS RX4 87 yX4_isAmong wsX4_isAmong) := goodIn_app (goodIn_of _ (by decide +kernel)) ggX4_store_X4_isAmong
theorem dX4_store_0 : decode cX4_store 0 = .ok (.iload_n 1, 1) := by decide +kernel
theorem dX4_store_1 : decode cX4_store 1 = .ok (.iconst 3, 1) := by decide +kernel
theorem dX4_store_2 : decode cX4_store 2 = .ok (.invokestatic 87, 3) := by decide +kernel
theorem dX4_store_5 : decode cX4_store 5 = .ok (.ifCond .eq 15, 3) := by decide +kernel
theorem dX4_store_8 : decode cX4_store 8 = .ok (.iload_n 2, 1) := by decide +kernel
theorem dX4_store_9 : decode cX4_store 9 = .ok (.iconst 1, 1) := by decide +kernel
theorem dX4_store_10 : decode cX4_store 10 = .ok (.if_icmp .lt 10, 3) := by decide +kernel
theorem dX4_store_13 : decode cX4_store 13 = .ok (.iload_n 2, 1) := by decide +kernel
theorem dX4_store_14 : decode cX4_store 14 = .ok (.sipush 10000, 3) := by decide +kernel
theorem dX4_store_17 : decode cX4_store 17 = .ok (.if_icmp .le 5, 3) := by decide +kernel
theorem dX4_store_20 : decode cX4_store 20 = .ok (.iconst (-1), 1) := by decide +kernel
theorem dX4_store_21 : decode cX4_store 21 = .ok (.ireturn, 1) := by decide +kernel
theorem dX4_store_22 : decode cX4_store 22 = .ok (.iload_n 2, 1) := by decide +kernel
theorem dX4_store_23 : decode cX4_store 23 = .ok (.ldc 91, 2) := by decide +kernel
theorem dX4_store_25 : decode cX4_store 25 = .ok (.aload_n 0, 1) := by decide +kernel
theorem dX4_store_26 : decode cX4_store 26 = .ok (.getfield 32, 3) := by decide +kernel
theorem dX4_store_29 : decode cX4_store 29 = .ok (.iload_n 1, 1) := by decide +kernel
theorem dX4_store_30 : decode cX4_store 30 = .ok (.iaload, 1) := by decide +kernel
theorem dX4_store_31 : decode cX4_store 31 = .ok (.isub, 1) := by decide +kernel
theorem dX4_store_32 : decode cX4_store 32 = .ok (.if_icmp .le 5, 3) := by decide +kernel
theorem dX4_store_35 : decode cX4_store 35 = .ok (.iconst (-1), 1) := by decide +kernel
theorem dX4_store_36 : decode cX4_store 36 = .ok (.ireturn, 1) := by decide +kernel
theorem dX4_store_37 : decode cX4_store 37 = .ok (.aload_n 0, 1) := by decide +kernel
theorem dX4_store_38 : decode cX4_store 38 = .ok (.getfield 32, 3) := by decide +kernel
theorem dX4_store_41 : decode cX4_store 41 = .ok (.iload_n 1, 1) := by decide +kernel
theorem dX4_store_42 : decode cX4_store 42 = .ok (.dup2, 1) := by decide +kernel
theorem dX4_store_43 : decode cX4_store 43 = .ok (.iaload, 1) := by decide +kernel
theorem dX4_store_44 : decode cX4_store 44 = .ok (.iload_n 2, 1) := by decide +kernel
theorem dX4_store_45 : decode cX4_store 45 = .ok (.iadd, 1) := by decide +kernel
theorem dX4_store_46 : decode cX4_store 46 = .ok (.iastore, 1) := by decide +kernel
theorem dX4_store_47 : decode cX4_store 47 = .ok (.aload_n 0, 1) := by decide +kernel
theorem dX4_store_48 : decode cX4_store 48 = .ok (.getfield 32, 3) := by decide +kernel
theorem dX4_store_51 : decode cX4_store 51 = .ok (.iload_n 1, 1) := by decide +kernel
theorem dX4_store_52 : decode cX4_store 52 = .ok (.iaload, 1) := by decide +kernel
theorem dX4_store_53 : decode cX4_store 53 = .ok (.ireturn, 1) := by decide +kernel
set_option maxRecDepth 20000 in
theorem ggX4_order_X4_isAmong : GoodIn wsX4_order wsX4_isAmong := goodIn_r _ [13] (by decide +kernel) (by decide +kernel)
set_option maxRecDepth 20000 in
theorem gX4_order_X4_isAmong : GoodIn wsX4_order (va_wsS RX4 87 yX4_isAmong wsX4_isAmong) := goodIn_app (goodIn_of _ (by decide +kernel)) ggX4_order_X4_isAmong
set_option maxRecDepth 20000 in
theorem ggX4_order_X0_init : GoodIn wsX4_order wsX0_init := goodIn_r _ [16, 17, 18, 19, 20, 21, 22, 23, 24, 25, 26, 27, 28, 29, 30, 48, 49, 50, 51, 52, 53, 54, 55, 56, 57, 58] (by decide +kernel) (by decide +kernel)
set_option maxRecDepth 20000 in
theorem gX4_order_X0_init : GoodIn wsX4_order (wsX0_init) := ggX4_order_X0_init
theorem dX4_order_0 : decode cX4_order 0 = .ok (.iload_n 1, 1) := by decide +kernel
theorem dX4_order_1 : decode cX4_order 1 = .ok (.aload_n 0, 1) := by decide +kernel
theorem dX4_order_2 : decode cX4_order 2 = .ok (.getfield 15, 3) := by decide +kernel
theorem dX4_order_5 : decode cX4_order 5 = .ok (.invokestatic 87, 3) := by decide +kernel
theorem dX4_order_8 : decode cX4_order 8 = .ok (.ifCond .eq 11, 3) := by decide +kernel
theorem dX4_order_11 : decode cX4_order 11 = .ok (.iload_n 3, 1) := by decide +kernel
theorem dX4_order_12 : decode cX4_order 12 = .ok (.iconst 2, 1) := by decide +kernel
theorem dX4_order_13 : decode cX4_order 13 = .ok (.invokestatic 87, 3) := by decide +kernel
theorem dX4_order_16 : decode cX4_order 16 = .ok (.ifCond .ne 5, 3) := by decide +kernel
theorem dX4_order_19 : decode cX4_order 19 = .ok (.iconst (-1), 1) := by decide +kernel
theorem dX4_order_20 : decode cX4_order 20 = .ok (.ireturn, 1) := by decide +kernel
theorem dX4_order_21 : decode cX4_order 21 = .ok (.iload_n 2, 1) := by decide +kernel
theorem dX4_order_22 : decode cX4_order 22 = .ok (.iconst 1, 1) := by decide +kernel
theorem dX4_order_23 : decode cX4_order 23 = .ok (.if_icmp .lt 20, 3) := by decide +kernel
theorem dX4_order_26 : decode cX4_order 26 = .ok (.iload_n 2, 1) := by decide +kernel
theorem dX4_order_27 : decode cX4_order 27 = .ok (.bipush 6, 2) := by decide +kernel
theorem dX4_order_29 : decode cX4_order 29 = .ok (.if_icmp .gt 14, 3) := by decide +kernel
theorem dX4_order_32 : decode cX4_order 32 = .ok (.iload_n 2, 1) := by decide +kernel
theorem dX4_order_33 : decode cX4_order 33 = .ok (.bipush 100, 2) := by decide +kernel
theorem dX4_order_35 : decode cX4_order 35 = .ok (.aload_n 0, 1) := by decide +kernel
theorem dX4_order_36 : decode cX4_order 36 = .ok (.getfield 25, 3) := by decide +kernel
theorem dX4_order_39 : decode cX4_order 39 = .ok (.isub, 1) := by decide +kernel
theorem dX4_order_40 : decode cX4_order 40 = .ok (.if_icmp .le 5, 3) := by decide +kernel
theorem dX4_order_43 : decode cX4_order 43 = .ok (.iconst (-1), 1) := by decide +kernel
theorem dX4_order_44 : decode cX4_order 44 = .ok (.ireturn, 1) := by decide +kernel
theorem dX4_order_45 : decode cX4_order 45 = .ok (.aload_n 0, 1) := by decide +kernel
theorem dX4_order_46 : decode cX4_order 46 = .ok (.getfield 25, 3) := by decide +kernel
theorem dX4_order_49 : decode cX4_order 49 = .ok (.istore 4, 2) := by decide +kernel
theorem dX4_order_51 : decode cX4_order 51 = .ok (.iconst 0, 1) := by decide +kernel
theorem dX4_order_52 : decode cX4_order 52 = .ok (.istore 5, 2) := by decide +kernel
theorem dX4_order_54 : decode cX4_order 54 = .ok (.iload 5, 2) := by decide +kernel
theorem dX4_order_56 : decode cX4_order 56 = .ok (.iload_n 2, 1) := by decide +kernel
theorem dX4_order_57 : decode cX4_order 57 = .ok (.if_icmp .ge 44, 3) := by decide +kernel
theorem dX4_order_60 : decode cX4_order 60 = .ok (.aload_n 0, 1) := by decide +kernel
theorem dX4_order_61 : decode cX4_order 61 = .ok (.getfield 21, 3) := by decide +kernel
theorem dX4_order_64 : decode cX4_order 64 = .ok (.iload 4, 2) := by decide +kernel
theorem dX4_order_66 : decode cX4_order 66 = .ok (.iload 5, 2) := by decide +kernel
theorem dX4_order_68 : decode cX4_order 68 = .ok (.iadd, 1) := by decide +kernel
theorem dX4_order_69 : decode cX4_order 69 = .ok (.new 19, 3) := by decide +kernel
theorem dX4_order_72 : decode cX4_order 72 = .ok (.dup, 1) := by decide +kernel
theorem dX4_order_73 : decode cX4_order 73 = .ok (.iload 4, 2) := by decide +kernel
theorem dX4_order_75 : decode cX4_order 75 = .ok (.iload 5, 2) := by decide +kernel
theorem dX4_order_77 : decode cX4_order 77 = .ok (.iadd, 1) := by decide +kernel
theorem dX4_order_78 : decode cX4_order 78 = .ok (.aload_n 0, 1) := by decide +kernel
theorem dX4_order_79 : decode cX4_order 79 = .ok (.getfield 11, 3) := by decide +kernel
theorem dX4_order_82 : decode cX4_order 82 = .ok (.iload_n 1, 1) := by decide +kernel
theorem dX4_order_83 : decode cX4_order 83 = .ok (.aaload, 1) := by decide +kernel
theorem dX4_order_84 : decode cX4_order 84 = .ok (.iload 4, 2) := by decide +kernel
theorem dX4_order_86 : decode cX4_order 86 = .ok (.iload_n 3, 1) := by decide +kernel
theorem dX4_order_87 : decode cX4_order 87 = .ok (.aload_n 0, 1) := by decide +kernel
theorem dX4_order_88 : decode cX4_order 88 = .ok (.getfield 45, 3) := by decide +kernel
theorem dX4_order_91 : decode cX4_order 91 = .ok (.invokespecial 92, 3) := by decide +kernel
theorem dX4_order_94 : decode cX4_order 94 = .ok (.aastore, 1) := by decide +kernel
theorem dX4_order_95 : decode cX4_order 95 = .ok (.iinc 5 1, 3) := by decide +kernel
theorem dX4_order_98 : decode cX4_order 98 = .ok (.goto (-44), 3) := by decide +kernel
theorem dX4_order_101 : decode cX4_order 101 = .ok (.aload_n 0, 1) := by decide +kernel
theorem dX4_order_102 : decode cX4_order 102 = .ok (.dup, 1) := by decide +kernel
theorem dX4_order_103 : decode cX4_order 103 = .ok (.getfield 25, 3) := by decide +kernel
theorem dX4_order_106 : decode cX4_order 106 = .ok (.iload_n 2, 1) := by decide +kernel
theorem dX4_order_107 : decode cX4_order 107 = .ok (.iadd, 1) := by decide +kernel
theorem dX4_order_108 : decode cX4_order 108 = .ok (.putfield 25, 3) := by decide +kernel
theorem dX4_order_111 : decode cX4_order 111 = .ok (.aload_n 0, 1) := by decide +kernel
theorem dX4_order_112 : decode cX4_order 112 = .ok (.getfield 28, 3) := by decide +kernel
theorem dX4_order_115 : decode cX4_order 115 = .ok (.iconst 0, 1) := by decide +kernel
theorem dX4_order_116 : decode cX4_order 116 = .ok (.dup2, 1) := by decide +kernel
theorem dX4_order_117 : decode cX4_order 117 = .ok (.iaload, 1) := by decide +kernel
theorem dX4_order_118 : decode cX4_order 118 = .ok (.iload_n 2, 1) := by decide +kernel
theorem dX4_order_119 : decode cX4_order 119 = .ok (.iadd, 1) := by decide +kernel
theorem dX4_order_120 : decode cX4_order 120 = .ok (.iastore, 1) := by decide +kernel
theorem dX4_order_121 : decode cX4_order 121 = .ok (.iload 4, 2) := by decide +kernel
theorem dX4_order_123 : decode cX4_order 123 = .ok (.ireturn, 1) := by decide +kernel
set_option maxRecDepth 20000 in
theorem ggX4_take_X4_isAmong : GoodIn wsX4_take wsX4_isAmong := goodIn_r _ [10] (by decide +kernel) (by decide +kernel)
set_option maxRecDepth 20000 in
theorem gX4_take_X4_isAmong : GoodIn wsX4_take (va_wsS RX4 87 yX4_isAmong wsX4_isAmong) := goodIn_app (goodIn_of _ (by decide +kernel)) ggX4_take_X4_isAmong
set_option maxRecDepth 20000 in
theorem ggX4_take_X4_turn : GoodIn wsX4_take wsX4_turn := goodIn_r _ [14, 15, 3, 16, 17, 18, 19, 20, 21, 22, 23, 24, 25, 26, 27, 28, 29, 30, 31, 32, 33, 34, 35, 36, 37, 38, 39, 40, 41, 42, 43, 44] (by decide +kernel) (by decide +kernel)
set_option maxRecDepth 20000 in
theorem gX4_take_X4_turn : GoodIn wsX4_take (wsV RX4 105 RX4 yX4_turn wsX4_turn) := goodIn_app (goodIn_of _ (by decide +kernel)) ggX4_take_X4_turn
theorem dX4_take_0 : decode cX4_take 0 = .ok (.iload_n 1, 1) := by decide +kernel
theorem dX4_take_1 : decode cX4_take 1 = .ok (.aload_n 0, 1) := by decide +kernel
theorem dX4_take_2 : decode cX4_take 2 = .ok (.getfield 25, 3) := by decide +kernel
theorem dX4_take_5 : decode cX4_take 5 = .ok (.invokestatic 87, 3) := by decide +kernel
theorem dX4_take_8 : decode cX4_take 8 = .ok (.ifCond .ne 5, 3) := by decide +kernel
theorem dX4_take_11 : decode cX4_take 11 = .ok (.iconst 0, 1) := by decide +kernel
theorem dX4_take_12 : decode cX4_take 12 = .ok (.ireturn, 1) := by decide +kernel
theorem dX4_take_13 : decode cX4_take 13 = .ok (.aload_n 0, 1) := by decide +kernel
theorem dX4_take_14 : decode cX4_take 14 = .ok (.getfield 21, 3) := by decide +kernel
theorem dX4_take_17 : decode cX4_take 17 = .ok (.iload_n 1, 1) := by decide +kernel
theorem dX4_take_18 : decode cX4_take 18 = .ok (.aaload, 1) := by decide +kernel
theorem dX4_take_19 : decode cX4_take 19 = .ok (.astore_n 2, 1) := by decide +kernel
theorem dX4_take_20 : decode cX4_take 20 = .ok (.aload_n 2, 1) := by decide +kernel
theorem dX4_take_21 : decode cX4_take 21 = .ok (.getfield 95, 3) := by decide +kernel
theorem dX4_take_24 : decode cX4_take 24 = .ok (.ifCond .eq 13, 3) := by decide +kernel
theorem dX4_take_27 : decode cX4_take 27 = .ok (.aload_n 2, 1) := by decide +kernel
theorem dX4_take_28 : decode cX4_take 28 = .ok (.getfield 95, 3) := by decide +kernel
theorem dX4_take_31 : decode cX4_take 31 = .ok (.iconst 2, 1) := by decide +kernel
theorem dX4_take_32 : decode cX4_take 32 = .ok (.if_icmp .eq 5, 3) := by decide +kernel
theorem dX4_take_35 : decode cX4_take 35 = .ok (.iconst 0, 1) := by decide +kernel
theorem dX4_take_36 : decode cX4_take 36 = .ok (.ireturn, 1) := by decide +kernel
theorem dX4_take_37 : decode cX4_take 37 = .ok (.aload_n 2, 1) := by decide +kernel
theorem dX4_take_38 : decode cX4_take 38 = .ok (.getfield 95, 3) := by decide +kernel
theorem dX4_take_41 : decode cX4_take 41 = .ok (.iconst 2, 1) := by decide +kernel
theorem dX4_take_42 : decode cX4_take 42 = .ok (.if_icmp .ne 19, 3) := by decide +kernel
theorem dX4_take_45 : decode cX4_take 45 = .ok (.aload_n 0, 1) := by decide +kernel
theorem dX4_take_46 : decode cX4_take 46 = .ok (.dup, 1) := by decide +kernel
theorem dX4_take_47 : decode cX4_take 47 = .ok (.getfield 51, 3) := by decide +kernel
theorem dX4_take_50 : decode cX4_take 50 = .ok (.aload_n 2, 1) := by decide +kernel
theorem dX4_take_51 : decode cX4_take 51 = .ok (.getfield 98, 3) := by decide +kernel
theorem dX4_take_54 : decode cX4_take 54 = .ok (.getfield 102, 3) := by decide +kernel
theorem dX4_take_57 : decode cX4_take 57 = .ok (.iadd, 1) := by decide +kernel
theorem dX4_take_58 : decode cX4_take 58 = .ok (.putfield 51, 3) := by decide +kernel
theorem dX4_take_61 : decode cX4_take 61 = .ok (.aload_n 0, 1) := by decide +kernel
theorem dX4_take_62 : decode cX4_take 62 = .ok (.aload_n 2, 1) := by decide +kernel
theorem dX4_take_63 : decode cX4_take 63 = .ok (.bipush 7, 2) := by decide +kernel
theorem dX4_take_65 : decode cX4_take 65 = .ok (.invokevirtual 105, 3) := by decide +kernel
theorem dX4_take_68 : decode cX4_take 68 = .ok (.iconst 1, 1) := by decide +kernel
theorem dX4_take_69 : decode cX4_take 69 = .ok (.ireturn, 1) := by decide +kernel
set_option maxRecDepth 20000 in
theorem ggX4_go_X4_goOneTick : GoodIn wsX4_go wsX4_goOneTick := goodIn_r _ [6, 7, 1, 8, 9, 10, 5, 11, 12, 13, 14, 15, 16, 17, 18, 19, 20, 21, 22, 23, 24, 25, 26, 27, 28, 29, 30, 31, 32, 33, 34, 35, 36, 37, 38, 39, 40, 41, 42, 43, 44, 45, 46, 47, 48, 49, 50, 51, 52, 53, 54, 55, 56, 57, 58, 59, 60, 61, 62, 63, 64, 65, 66, 67, 68, 69, 70, 71, 72, 73, 74, 75, 76, 77, 78, 79, 80, 81, 82, 83, 84, 85, 86, 87, 88, 89, 90, 91, 92, 93, 94, 95, 96, 97, 98, 99, 100, 101, 102, 103, 104, 105, 106, 107, 108, 109, 110, 111, 112, 113, 114, 115, 116, 117, 118, 119, 120, 121, 122, 123, 124, 125, 126, 127, 128, 129, 130, 131, 132, 133, 134, 135, 136, 137, 138, 139, 140, 141, 142, 143, 144, 145, 146, 147, 148, 149, 150, 151, 152, 153, 154, 155, 156, 157, 158, 159, 160, 161, 162, 163, 164, 165, 166, 167, 168, 169, 170, 171] (by decide +kernel) (by decide +kernel)
set_option maxRecDepth 20000 in
theorem gX4_go_X4_goOneTick : GoodIn wsX4_go (wsV RX4 109 RX4 yX4_goOneTick wsX4_goOneTick) := goodIn_app (goodIn_of _ (by decide +kernel)) ggX4_go_X4_goOneTick
theorem dX4_go_0 : decode cX4_go 0 = .ok (.iload_n 1, 1) := by decide +kernel
theorem dX4_go_1 : decode cX4_go 1 = .ok (.ifCond .lt 10, 3) := by decide +kernel
theorem dX4_go_4 : decode cX4_go 4 = .ok (.iload_n 1, 1) := by decide +kernel
theorem dX4_go_5 : decode cX4_go 5 = .ok (.sipush 500, 3) := by decide +kernel
theorem dX4_go_8 : decode cX4_go 8 = .ok (.if_icmp .le 5, 3) := by decide +kernel
theorem dX4_go_11 : decode cX4_go 11 = .ok (.iconst (-1), 1) := by decide +kernel
theorem dX4_go_12 : decode cX4_go 12 = .ok (.ireturn, 1) := by decide +kernel
theorem dX4_go_13 : decode cX4_go 13 = .ok (.iconst 0, 1) := by decide +kernel
theorem dX4_go_14 : decode cX4_go 14 = .ok (.istore_n 2, 1) := by decide +kernel
theorem dX4_go_15 : decode cX4_go 15 = .ok (.iload_n 2, 1) := by decide +kernel
theorem dX4_go_16 : decode cX4_go 16 = .ok (.iload_n 1, 1) := by decide +kernel
theorem dX4_go_17 : decode cX4_go 17 = .ok (.if_icmp .ge 23, 3) := by decide +kernel
theorem dX4_go_20 : decode cX4_go 20 = .ok (.aload_n 0, 1) := by decide +kernel
theorem dX4_go_21 : decode cX4_go 21 = .ok (.getfield 45, 3) := by decide +kernel
theorem dX4_go_24 : decode cX4_go 24 = .ok (.sipush 20000, 3) := by decide +kernel
theorem dX4_go_27 : decode cX4_go 27 = .ok (.if_icmp .ge 13, 3) := by decide +kernel
theorem dX4_go_30 : decode cX4_go 30 = .ok (.aload_n 0, 1) := by decide +kernel
theorem dX4_go_31 : decode cX4_go 31 = .ok (.invokevirtual 109, 3) := by decide +kernel
theorem dX4_go_34 : decode cX4_go 34 = .ok (.iinc 2 1, 3) := by decide +kernel
theorem dX4_go_37 : decode cX4_go 37 = .ok (.goto (-22), 3) := by decide +kernel
theorem dX4_go_40 : decode cX4_go 40 = .ok (.aload_n 0, 1) := by decide +kernel
theorem dX4_go_41 : decode cX4_go 41 = .ok (.getfield 45, 3) := by decide +kernel
theorem dX4_go_44 : decode cX4_go 44 = .ok (.ireturn, 1) := by decide +kernel
set_option maxRecDepth 20000 in
theorem ggX4_fault_X4_isAmong : GoodIn wsX4_fault wsX4_isAmong := goodIn_r _ [7] (by decide +kernel) (by decide +kernel)
set_option maxRecDepth 20000 in
theorem gX4_fault_X4_isAmong : GoodIn wsX4_fault (va_wsS RX4 87 yX4_isAmong wsX4_isAmong) := goodIn_app (goodIn_of _ (by decide +kernel)) ggX4_fault_X4_isAmong
set_option maxRecDepth 20000 in
theorem ggX4_fault_X4_waitAgain : GoodIn wsX4_fault wsX4_waitAgain := goodIn_r _ [11, 12, 13, 14, 15, 16, 17, 18, 6, 19, 20, 21, 22, 31, 32, 33, 34, 35, 36, 37, 38, 39, 40, 41, 42, 43, 44, 45, 46, 47, 54, 55, 56, 57, 58, 59, 60, 61, 62, 63, 64, 65, 66, 67, 68, 69, 70] (by decide +kernel) (by decide +kernel)
set_option maxRecDepth 20000 in
theorem gX4_fault_X4_waitAgain : GoodIn wsX4_fault (wsV RX4 115 RX4 yX4_waitAgain wsX4_waitAgain) := goodIn_app (goodIn_of _ (by decide +kernel)) ggX4_fault_X4_waitAgain
set_option maxRecDepth 20000 in
theorem ggX4_fault_X1_becomeFree : GoodIn wsX4_fault wsX1_becomeFree := goodIn_r _ [27, 28, 29, 30, 48, 49, 50, 51, 52, 53] (by decide +kernel) (by decide +kernel)
set_option maxRecDepth 20000 in
theorem gX4_fault_X1_becomeFree : GoodIn wsX4_fault (wsV RX4 119 RX1 yX1_becomeFree wsX1_becomeFree) := goodIn_app (goodIn_of _ (by decide +kernel)) ggX4_fault_X1_becomeFree
theorem dX4_fault_0 : decode cX4_fault 0 = .ok (.iload_n 1, 1) := by decide +kernel
theorem dX4_fault_1 : decode cX4_fault 1 = .ok (.aload_n 0, 1) := by decide +kernel
theorem dX4_fault_2 : decode cX4_fault 2 = .ok (.getfield 66, 3) := by decide +kernel
theorem dX4_fault_5 : decode cX4_fault 5 = .ok (.arraylength, 1) := by decide +kernel
theorem dX4_fault_6 : decode cX4_fault 6 = .ok (.invokestatic 87, 3) := by decide +kernel
theorem dX4_fault_9 : decode cX4_fault 9 = .ok (.ifCond .eq 15, 3) := by decide +kernel
theorem dX4_fault_12 : decode cX4_fault 12 = .ok (.iload_n 2, 1) := by decide +kernel
theorem dX4_fault_13 : decode cX4_fault 13 = .ok (.iconst 1, 1) := by decide +kernel
theorem dX4_fault_14 : decode cX4_fault 14 = .ok (.if_icmp .lt 10, 3) := by decide +kernel
theorem dX4_fault_17 : decode cX4_fault 17 = .ok (.iload_n 2, 1) := by decide +kernel
theorem dX4_fault_18 : decode cX4_fault 18 = .ok (.sipush 200, 3) := by decide +kernel
theorem dX4_fault_21 : decode cX4_fault 21 = .ok (.if_icmp .le 5, 3) := by decide +kernel
theorem dX4_fault_24 : decode cX4_fault 24 = .ok (.iconst 0, 1) := by decide +kernel
theorem dX4_fault_25 : decode cX4_fault 25 = .ok (.ireturn, 1) := by decide +kernel
theorem dX4_fault_26 : decode cX4_fault 26 = .ok (.aload_n 0, 1) := by decide +kernel
theorem dX4_fault_27 : decode cX4_fault 27 = .ok (.getfield 66, 3) := by decide +kernel
theorem dX4_fault_30 : decode cX4_fault 30 = .ok (.iload_n 1, 1) := by decide +kernel
theorem dX4_fault_31 : decode cX4_fault 31 = .ok (.aaload, 1) := by decide +kernel
theorem dX4_fault_32 : decode cX4_fault 32 = .ok (.astore_n 3, 1) := by decide +kernel
theorem dX4_fault_33 : decode cX4_fault 33 = .ok (.aload_n 3, 1) := by decide +kernel
theorem dX4_fault_34 : decode cX4_fault 34 = .ok (.getfield 112, 3) := by decide +kernel
theorem dX4_fault_37 : decode cX4_fault 37 = .ok (.ifnull 11, 3) := by decide +kernel
theorem dX4_fault_40 : decode cX4_fault 40 = .ok (.aload_n 0, 1) := by decide +kernel
theorem dX4_fault_41 : decode cX4_fault 41 = .ok (.aload_n 3, 1) := by decide +kernel
theorem dX4_fault_42 : decode cX4_fault 42 = .ok (.getfield 112, 3) := by decide +kernel
theorem dX4_fault_45 : decode cX4_fault 45 = .ok (.invokevirtual 115, 3) := by decide +kernel
theorem dX4_fault_48 : decode cX4_fault 48 = .ok (.aload_n 3, 1) := by decide +kernel
theorem dX4_fault_49 : decode cX4_fault 49 = .ok (.invokevirtual 119, 3) := by decide +kernel
theorem dX4_fault_52 : decode cX4_fault 52 = .ok (.aload_n 3, 1) := by decide +kernel
theorem dX4_fault_53 : decode cX4_fault 53 = .ok (.iload_n 2, 1) := by decide +kernel
theorem dX4_fault_54 : decode cX4_fault 54 = .ok (.putfield 122, 3) := by decide +kernel
theorem dX4_fault_57 : decode cX4_fault 57 = .ok (.iconst 1, 1) := by decide +kernel
theorem dX4_fault_58 : decode cX4_fault 58 = .ok (.ireturn, 1) := by decide +kernel
theorem dX4_limit_0 : decode cX4_limit 0 = .ok (.iload_n 1, 1) := by decide +kernel
theorem dX4_limit_1 : decode cX4_limit 1 = .ok (.bipush 6, 2) := by decide +kernel
theorem dX4_limit_3 : decode cX4_limit 3 = .ok (.if_icmp .lt 9, 3) := by decide +kernel
theorem dX4_limit_6 : decode cX4_limit 6 = .ok (.iload_n 1, 1) := by decide +kernel
theorem dX4_limit_7 : decode cX4_limit 7 = .ok (.bipush 30, 2) := by decide +kernel
theorem dX4_limit_9 : decode cX4_limit 9 = .ok (.if_icmp .le 5, 3) := by decide +kernel
theorem dX4_limit_12 : decode cX4_limit 12 = .ok (.iconst 0, 1) := by decide +kernel
theorem dX4_limit_13 : decode cX4_limit 13 = .ok (.ireturn, 1) := by decide +kernel
theorem dX4_limit_14 : decode cX4_limit 14 = .ok (.aload_n 0, 1) := by decide +kernel
theorem dX4_limit_15 : decode cX4_limit 15 = .ok (.iload_n 1, 1) := by decide +kernel
theorem dX4_limit_16 : decode cX4_limit 16 = .ok (.putfield 80, 3) := by decide +kernel
theorem dX4_limit_19 : decode cX4_limit 19 = .ok (.iconst 1, 1) := by decide +kernel
theorem dX4_limit_20 : decode cX4_limit 20 = .ok (.ireturn, 1) := by decide +kernel
set_option maxRecDepth 20000 in
theorem ggX4_tell_X4_within : GoodIn wsX4_tell wsX4_within := goodIn_r _ [5, 6, 7, 8, 9, 10, 11, 12] (by decide +kernel) (by decide +kernel)
set_option maxRecDepth 20000 in
theorem gX4_tell_X4_within : GoodIn wsX4_tell (va_wsS RX4 60 yX4_within wsX4_within) := goodIn_app (goodIn_of _ (by decide +kernel)) ggX4_tell_X4_within
theorem dX4_tell_0 : decode cX4_tell 0 = .ok (.iload_n 1, 1) := by decide +kernel
theorem dX4_tell_1 : decode cX4_tell 1 = .ok (.ifCond .lt 21, 3) := by decide +kernel
theorem dX4_tell_4 : decode cX4_tell 4 = .ok (.iload_n 1, 1) := by decide +kernel
theorem dX4_tell_5 : decode cX4_tell 5 = .ok (.sipush 1000, 3) := by decide +kernel
theorem dX4_tell_8 : decode cX4_tell 8 = .ok (.if_icmp .gt 14, 3) := by decide +kernel
theorem dX4_tell_11 : decode cX4_tell 11 = .ok (.iload_n 2, 1) := by decide +kernel
theorem dX4_tell_12 : decode cX4_tell 12 = .ok (.ifCond .lt 10, 3) := by decide +kernel
theorem dX4_tell_15 : decode cX4_tell 15 = .ok (.iload_n 2, 1) := by decide +kernel
theorem dX4_tell_16 : decode cX4_tell 16 = .ok (.sipush 1000, 3) := by decide +kernel
theorem dX4_tell_19 : decode cX4_tell 19 = .ok (.if_icmp .le 5, 3) := by decide +kernel
theorem dX4_tell_22 : decode cX4_tell 22 = .ok (.iconst (-1), 1) := by decide +kernel
theorem dX4_tell_23 : decode cX4_tell 23 = .ok (.ireturn, 1) := by decide +kernel
theorem dX4_tell_24 : decode cX4_tell 24 = .ok (.iload_n 1, 1) := by decide +kernel
theorem dX4_tell_25 : decode cX4_tell 25 = .ok (.iload_n 2, 1) := by decide +kernel
theorem dX4_tell_26 : decode cX4_tell 26 = .ok (.isub, 1) := by decide +kernel
theorem dX4_tell_27 : decode cX4_tell 27 = .ok (.iconst 4, 1) := by decide +kernel
theorem dX4_tell_28 : decode cX4_tell 28 = .ok (.idiv, 1) := by decide +kernel
theorem dX4_tell_29 : decode cX4_tell 29 = .ok (.bipush (-6), 2) := by decide +kernel
theorem dX4_tell_31 : decode cX4_tell 31 = .ok (.bipush 6, 2) := by decide +kernel
theorem dX4_tell_33 : decode cX4_tell 33 = .ok (.invokestatic 60, 3) := by decide +kernel
theorem dX4_tell_36 : decode cX4_tell 36 = .ok (.istore_n 3, 1) := by decide +kernel
theorem dX4_tell_37 : decode cX4_tell 37 = .ok (.aload_n 0, 1) := by decide +kernel
theorem dX4_tell_38 : decode cX4_tell 38 = .ok (.aload_n 0, 1) := by decide +kernel
theorem dX4_tell_39 : decode cX4_tell 39 = .ok (.getfield 48, 3) := by decide +kernel
theorem dX4_tell_42 : decode cX4_tell 42 = .ok (.iload_n 3, 1) := by decide +kernel
theorem dX4_tell_43 : decode cX4_tell 43 = .ok (.iadd, 1) := by decide +kernel
theorem dX4_tell_44 : decode cX4_tell 44 = .ok (.iconst 0, 1) := by decide +kernel
theorem dX4_tell_45 : decode cX4_tell 45 = .ok (.bipush 100, 2) := by decide +kernel
theorem dX4_tell_47 : decode cX4_tell 47 = .ok (.invokestatic 60, 3) := by decide +kernel
theorem dX4_tell_50 : decode cX4_tell 50 = .ok (.putfield 48, 3) := by decide +kernel
theorem dX4_tell_53 : decode cX4_tell 53 = .ok (.aload_n 0, 1) := by decide +kernel
theorem dX4_tell_54 : decode cX4_tell 54 = .ok (.getfield 48, 3) := by decide +kernel
theorem dX4_tell_57 : decode cX4_tell 57 = .ok (.ireturn, 1) := by decide +kernel
set_option maxRecDepth 20000 in
theorem ggX4_cup_X4_isAmong : GoodIn wsX4_cup wsX4_isAmong := goodIn_r _ [14] (by decide +kernel) (by decide +kernel)
set_option maxRecDepth 20000 in
theorem gX4_cup_X4_isAmong : GoodIn wsX4_cup (va_wsS RX4 87 yX4_isAmong wsX4_isAmong) := goodIn_app (goodIn_of _ (by decide +kernel)) ggX4_cup_X4_isAmong
set_option maxRecDepth 20000 in
theorem ggX4_cup_X4_ticksToGo : GoodIn wsX4_cup wsX4_ticksToGo := goodIn_r _ [18, 8, 19, 3, 20, 38, 39, 40, 41, 42, 43, 44, 45, 46, 47, 48, 49, 50, 51, 52, 53, 54] (by decide +kernel) (by decide +kernel)
set_option maxRecDepth 20000 in
theorem gX4_cup_X4_ticksToGo : GoodIn wsX4_cup (wsV RX4 144 RX4 yX4_ticksToGo wsX4_ticksToGo) := goodIn_app (goodIn_of _ (by decide +kernel)) ggX4_cup_X4_ticksToGo
theorem dX4_cup_0 : decode cX4_cup 0 = .ok (.iload_n 1, 1) := by decide +kernel
theorem dX4_cup_1 : decode cX4_cup 1 = .ok (.aload_n 0, 1) := by decide +kernel
theorem dX4_cup_2 : decode cX4_cup 2 = .ok (.getfield 25, 3) := by decide +kernel
theorem dX4_cup_5 : decode cX4_cup 5 = .ok (.invokestatic 87, 3) := by decide +kernel
theorem dX4_cup_8 : decode cX4_cup 8 = .ok (.ifCond .ne 5, 3) := by decide +kernel
theorem dX4_cup_11 : decode cX4_cup 11 = .ok (.iconst (-1), 1) := by decide +kernel
theorem dX4_cup_12 : decode cX4_cup 12 = .ok (.ireturn, 1) := by decide +kernel
theorem dX4_cup_13 : decode cX4_cup 13 = .ok (.aload_n 0, 1) := by decide +kernel
theorem dX4_cup_14 : decode cX4_cup 14 = .ok (.getfield 21, 3) := by decide +kernel
theorem dX4_cup_17 : decode cX4_cup 17 = .ok (.iload_n 1, 1) := by decide +kernel
theorem dX4_cup_18 : decode cX4_cup 18 = .ok (.aaload, 1) := by decide +kernel
theorem dX4_cup_19 : decode cX4_cup 19 = .ok (.astore_n 3, 1) := by decide +kernel
theorem dX4_cup_20 : decode cX4_cup 20 = .ok (.iload_n 2, 1) := by decide +kernel
theorem dX4_cup_21 : decode cX4_cup 21 = .ok (.tableswitch 102 0 7 #[47, 52, 57, 62, 67, 72, 91, 97], 47) := by decide +kernel
theorem dX4_cup_68 : decode cX4_cup 68 = .ok (.aload_n 3, 1) := by decide +kernel
theorem dX4_cup_69 : decode cX4_cup 69 = .ok (.getfield 95, 3) := by decide +kernel
theorem dX4_cup_72 : decode cX4_cup 72 = .ok (.ireturn, 1) := by decide +kernel
theorem dX4_cup_73 : decode cX4_cup 73 = .ok (.aload_n 3, 1) := by decide +kernel
theorem dX4_cup_74 : decode cX4_cup 74 = .ok (.getfield 125, 3) := by decide +kernel
theorem dX4_cup_77 : decode cX4_cup 77 = .ok (.ireturn, 1) := by decide +kernel
theorem dX4_cup_78 : decode cX4_cup 78 = .ok (.aload_n 3, 1) := by decide +kernel
theorem dX4_cup_79 : decode cX4_cup 79 = .ok (.getfield 128, 3) := by decide +kernel
theorem dX4_cup_82 : decode cX4_cup 82 = .ok (.ireturn, 1) := by decide +kernel
theorem dX4_cup_83 : decode cX4_cup 83 = .ok (.aload_n 3, 1) := by decide +kernel
theorem dX4_cup_84 : decode cX4_cup 84 = .ok (.getfield 131, 3) := by decide +kernel
theorem dX4_cup_87 : decode cX4_cup 87 = .ok (.ireturn, 1) := by decide +kernel
theorem dX4_cup_88 : decode cX4_cup 88 = .ok (.aload_n 3, 1) := by decide +kernel
theorem dX4_cup_89 : decode cX4_cup 89 = .ok (.getfield 134, 3) := by decide +kernel
theorem dX4_cup_92 : decode cX4_cup 92 = .ok (.ireturn, 1) := by decide +kernel
theorem dX4_cup_93 : decode cX4_cup 93 = .ok (.aload_n 3, 1) := by decide +kernel
theorem dX4_cup_94 : decode cX4_cup 94 = .ok (.getfield 137, 3) := by decide +kernel
theorem dX4_cup_97 : decode cX4_cup 97 = .ok (.ifnonnull 7, 3) := by decide +kernel
theorem dX4_cup_100 : decode cX4_cup 100 = .ok (.iconst (-1), 1) := by decide +kernel
theorem dX4_cup_101 : decode cX4_cup 101 = .ok (.goto 10, 3) := by decide +kernel
theorem dX4_cup_104 : decode cX4_cup 104 = .ok (.aload_n 3, 1) := by decide +kernel
theorem dX4_cup_105 : decode cX4_cup 105 = .ok (.getfield 137, 3) := by decide +kernel
theorem dX4_cup_108 : decode cX4_cup 108 = .ok (.getfield 141, 3) := by decide +kernel
theorem dX4_cup_111 : decode cX4_cup 111 = .ok (.ireturn, 1) := by decide +kernel
theorem dX4_cup_112 : decode cX4_cup 112 = .ok (.aload_n 0, 1) := by decide +kernel
theorem dX4_cup_113 : decode cX4_cup 113 = .ok (.aload_n 3, 1) := by decide +kernel
theorem dX4_cup_114 : decode cX4_cup 114 = .ok (.invokevirtual 144, 3) := by decide +kernel
theorem dX4_cup_117 : decode cX4_cup 117 = .ok (.ireturn, 1) := by decide +kernel
theorem dX4_cup_118 : decode cX4_cup 118 = .ok (.aload_n 3, 1) := by decide +kernel
theorem dX4_cup_119 : decode cX4_cup 119 = .ok (.getfield 148, 3) := by decide +kernel
theorem dX4_cup_122 : decode cX4_cup 122 = .ok (.ireturn, 1) := by decide +kernel
theorem dX4_cup_123 : decode cX4_cup 123 = .ok (.iconst (-1), 1) := by decide +kernel
theorem dX4_cup_124 : decode cX4_cup 124 = .ok (.ireturn, 1) := by decide +kernel
set_option maxRecDepth 20000 in
theorem ggX4_group_X4_isAmong : GoodIn wsX4_group wsX4_isAmong := goodIn_r _ [9] (by decide +kernel) (by decide +kernel)
set_option maxRecDepth 20000 in
theorem gX4_group_X4_isAmong : GoodIn wsX4_group (va_wsS RX4 87 yX4_isAmong wsX4_isAmong) := goodIn_app (goodIn_of _ (by decide +kernel)) ggX4_group_X4_isAmong
theorem dX4_group_0 : decode cX4_group 0 = .ok (.iload_n 1, 1) := by decide +kernel
theorem dX4_group_1 : decode cX4_group 1 = .ok (.aload_n 0, 1) := by decide +kernel
theorem dX4_group_2 : decode cX4_group 2 = .ok (.getfield 66, 3) := by decide +kernel
theorem dX4_group_5 : decode cX4_group 5 = .ok (.arraylength, 1) := by decide +kernel
theorem dX4_group_6 : decode cX4_group 6 = .ok (.invokestatic 87, 3) := by decide +kernel
theorem dX4_group_9 : decode cX4_group 9 = .ok (.ifCond .ne 5, 3) := by decide +kernel
theorem dX4_group_12 : decode cX4_group 12 = .ok (.iconst (-1), 1) := by decide +kernel
theorem dX4_group_13 : decode cX4_group 13 = .ok (.ireturn, 1) := by decide +kernel
theorem dX4_group_14 : decode cX4_group 14 = .ok (.aload_n 0, 1) := by decide +kernel
theorem dX4_group_15 : decode cX4_group 15 = .ok (.getfield 66, 3) := by decide +kernel
theorem dX4_group_18 : decode cX4_group 18 = .ok (.iload_n 1, 1) := by decide +kernel
theorem dX4_group_19 : decode cX4_group 19 = .ok (.aaload, 1) := by decide +kernel
theorem dX4_group_20 : decode cX4_group 20 = .ok (.astore_n 3, 1) := by decide +kernel
theorem dX4_group_21 : decode cX4_group 21 = .ok (.iload_n 2, 1) := by decide +kernel
theorem dX4_group_22 : decode cX4_group 22 = .ok (.tableswitch 50 0 3 #[30, 35, 40, 45], 30) := by decide +kernel
theorem dX4_group_52 : decode cX4_group 52 = .ok (.aload_n 3, 1) := by decide +kernel
theorem dX4_group_53 : decode cX4_group 53 = .ok (.getfield 151, 3) := by decide +kernel
theorem dX4_group_56 : decode cX4_group 56 = .ok (.ireturn, 1) := by decide +kernel
theorem dX4_group_57 : decode cX4_group 57 = .ok (.aload_n 3, 1) := by decide +kernel
theorem dX4_group_58 : decode cX4_group 58 = .ok (.getfield 152, 3) := by decide +kernel
theorem dX4_group_61 : decode cX4_group 61 = .ok (.ireturn, 1) := by decide +kernel
theorem dX4_group_62 : decode cX4_group 62 = .ok (.aload_n 3, 1) := by decide +kernel
theorem dX4_group_63 : decode cX4_group 63 = .ok (.getfield 155, 3) := by decide +kernel
theorem dX4_group_66 : decode cX4_group 66 = .ok (.ireturn, 1) := by decide +kernel
theorem dX4_group_67 : decode cX4_group 67 = .ok (.aload_n 3, 1) := by decide +kernel
theorem dX4_group_68 : decode cX4_group 68 = .ok (.getfield 122, 3) := by decide +kernel
theorem dX4_group_71 : decode cX4_group 71 = .ok (.ireturn, 1) := by decide +kernel
theorem dX4_group_72 : decode cX4_group 72 = .ok (.iconst (-1), 1) := by decide +kernel
theorem dX4_group_73 : decode cX4_group 73 = .ok (.ireturn, 1) := by decide +kernel
set_option maxRecDepth 20000 in
theorem ggX4_best_X4_isAmong : GoodIn wsX4_best wsX4_isAmong := goodIn_r _ [6] (by decide +kernel) (by decide +kernel)
set_option maxRecDepth 20000 in
theorem gX4_best_X4_isAmong : GoodIn wsX4_best (va_wsS RX4 87 yX4_isAmong wsX4_isAmong) := goodIn_app (goodIn_of _ (by decide +kernel)) ggX4_best_X4_isAmong
set_option maxRecDepth 20000 in
theorem ggX4_best_X4_planWaiting : GoodIn wsX4_best wsX4_planWaiting := goodIn_r _ [10, 1, 2, 11, 12, 13, 14, 15, 16, 17, 18, 19, 20, 21, 22, 23, 24, 25, 26, 27, 28, 29, 30, 31, 32, 33, 34, 35, 36, 37, 38, 39, 40, 41, 42, 43, 44, 45, 46, 47, 48, 49, 50, 51, 52, 53, 54, 55, 56, 57, 58, 59, 60, 61, 62, 63, 64, 65, 66, 67, 68, 69, 70, 75, 76, 77, 78, 79, 80, 81, 82, 83, 84, 85, 86, 87, 88, 89, 90, 91, 92, 93, 94, 95, 96, 97, 98, 99, 100, 101, 102, 103, 104, 105, 106, 107, 108, 109, 110, 111, 112, 113, 114, 115] (by decide +kernel) (by decide +kernel)
set_option maxRecDepth 20000 in
theorem gX4_best_X4_planWaiting : GoodIn wsX4_best (wsV RX4 158 RX4 yX4_planWaiting wsX4_planWaiting) := goodIn_app (goodIn_of _ (by decide +kernel)) ggX4_best_X4_planWaiting
set_option maxRecDepth 20000 in
theorem ggX4_best_X2_bestAt : GoodIn wsX4_best wsX2_bestAt := goodIn_r _ [74, 19, 61, 4, 5, 6, 103, 104, 105, 106, 107, 108, 109] (by decide +kernel) (by decide +kernel)
set_option maxRecDepth 20000 in
theorem gX4_best_X2_bestAt : GoodIn wsX4_best (wsV RX4 162 RX2 yX2_bestAt wsX2_bestAt) := goodIn_app (goodIn_of _ (by decide +kernel)) ggX4_best_X2_bestAt
theorem dX4_best_0 : decode cX4_best 0 = .ok (.iload_n 1, 1) := by decide +kernel
theorem dX4_best_1 : decode cX4_best 1 = .ok (.aload_n 0, 1) := by decide +kernel
theorem dX4_best_2 : decode cX4_best 2 = .ok (.getfield 28, 3) := by decide +kernel
theorem dX4_best_5 : decode cX4_best 5 = .ok (.iconst 0, 1) := by decide +kernel
theorem dX4_best_6 : decode cX4_best 6 = .ok (.iaload, 1) := by decide +kernel
theorem dX4_best_7 : decode cX4_best 7 = .ok (.invokestatic 87, 3) := by decide +kernel
theorem dX4_best_10 : decode cX4_best 10 = .ok (.ifCond .eq 10, 3) := by decide +kernel
theorem dX4_best_13 : decode cX4_best 13 = .ok (.aload_n 0, 1) := by decide +kernel
theorem dX4_best_14 : decode cX4_best 14 = .ok (.invokevirtual 158, 3) := by decide +kernel
theorem dX4_best_17 : decode cX4_best 17 = .ok (.ifCond .ne 5, 3) := by decide +kernel
theorem dX4_best_20 : decode cX4_best 20 = .ok (.iconst (-1), 1) := by decide +kernel
theorem dX4_best_21 : decode cX4_best 21 = .ok (.ireturn, 1) := by decide +kernel
theorem dX4_best_22 : decode cX4_best 22 = .ok (.aload_n 0, 1) := by decide +kernel
theorem dX4_best_23 : decode cX4_best 23 = .ok (.getfield 76, 3) := by decide +kernel
theorem dX4_best_26 : decode cX4_best 26 = .ok (.iload_n 1, 1) := by decide +kernel
theorem dX4_best_27 : decode cX4_best 27 = .ok (.invokevirtual 162, 3) := by decide +kernel
theorem dX4_best_30 : decode cX4_best 30 = .ok (.ireturn, 1) := by decide +kernel
set_option maxRecDepth 20000 in
theorem ggX4_sum_X4_planWaiting : GoodIn wsX4_sum wsX4_planWaiting := goodIn_r _ [7, 8, 1, 9, 10, 11, 12, 13, 14, 15, 16, 17, 18, 19, 20, 21, 22, 23, 24, 25, 26, 27, 28, 29, 30, 31, 32, 33, 34, 35, 36, 37, 38, 39, 40, 41, 42, 43, 44, 45, 46, 47, 48, 49, 50, 51, 52, 53, 54, 55, 56, 57, 58, 59, 60, 61, 62, 63, 64, 65, 66, 67, 68, 69, 70, 71, 72, 73, 74, 75, 76, 77, 78, 79, 80, 81, 82, 83, 84, 85, 93, 94, 95, 96, 97, 98, 99, 100, 101, 102, 103, 86, 87, 88, 89, 90, 91, 92, 104, 105, 106, 107, 108, 109] (by decide +kernel) (by decide +kernel)
set_option maxRecDepth 20000 in
theorem gX4_sum_X4_planWaiting : GoodIn wsX4_sum (wsV RX4 158 RX4 yX4_planWaiting wsX4_planWaiting) := goodIn_app (goodIn_of _ (by decide +kernel)) ggX4_sum_X4_planWaiting
theorem dX4_sum_0 : decode cX4_sum 0 = .ok (.aload_n 0, 1) := by decide +kernel
theorem dX4_sum_1 : decode cX4_sum 1 = .ok (.invokevirtual 158, 3) := by decide +kernel
theorem dX4_sum_4 : decode cX4_sum 4 = .ok (.ifCond .eq 13, 3) := by decide +kernel
theorem dX4_sum_7 : decode cX4_sum 7 = .ok (.aload_n 0, 1) := by decide +kernel
theorem dX4_sum_8 : decode cX4_sum 8 = .ok (.getfield 76, 3) := by decide +kernel
theorem dX4_sum_11 : decode cX4_sum 11 = .ok (.getfield 166, 3) := by decide +kernel
theorem dX4_sum_14 : decode cX4_sum 14 = .ok (.goto 4, 3) := by decide +kernel
theorem dX4_sum_17 : decode cX4_sum 17 = .ok (.iconst (-1), 1) := by decide +kernel
theorem dX4_sum_18 : decode cX4_sum 18 = .ok (.ireturn, 1) := by decide +kernel
set_option maxRecDepth 20000 in
theorem ggX4_count_X4_powerThatGoes : GoodIn wsX4_count wsX4_powerThatGoes := goodIn_r _ [14, 15, 16, 17, 18, 19, 20, 21, 22, 23, 24, 25, 26, 27, 28, 29, 30, 31, 32, 33, 34, 35, 36, 37, 38, 39, 40, 41] (by decide +kernel) (by decide +kernel)
set_option maxRecDepth 20000 in
theorem gX4_count_X4_powerThatGoes : GoodIn wsX4_count (wsV RX4 169 RX4 yX4_powerThatGoes wsX4_powerThatGoes) := goodIn_app (goodIn_of _ (by decide +kernel)) ggX4_count_X4_powerThatGoes
theorem dX4_count_0 : decode cX4_count 0 = .ok (.iload_n 1, 1) := by decide +kernel
theorem dX4_count_1 : decode cX4_count 1 = .ok (.tableswitch 143 0 12 #[67, 72, 77, 82, 87, 95, 102, 109, 116, 123, 128, 133, 138], 67) := by decide +kernel
theorem dX4_count_68 : decode cX4_count 68 = .ok (.aload_n 0, 1) := by decide +kernel
theorem dX4_count_69 : decode cX4_count 69 = .ok (.getfield 45, 3) := by decide +kernel
theorem dX4_count_72 : decode cX4_count 72 = .ok (.ireturn, 1) := by decide +kernel
theorem dX4_count_73 : decode cX4_count 73 = .ok (.aload_n 0, 1) := by decide +kernel
theorem dX4_count_74 : decode cX4_count 74 = .ok (.getfield 42, 3) := by decide +kernel
theorem dX4_count_77 : decode cX4_count 77 = .ok (.ireturn, 1) := by decide +kernel
theorem dX4_count_78 : decode cX4_count 78 = .ok (.aload_n 0, 1) := by decide +kernel
theorem dX4_count_79 : decode cX4_count 79 = .ok (.invokevirtual 169, 3) := by decide +kernel
theorem dX4_count_82 : decode cX4_count 82 = .ok (.ireturn, 1) := by decide +kernel
theorem dX4_count_83 : decode cX4_count 83 = .ok (.aload_n 0, 1) := by decide +kernel
theorem dX4_count_84 : decode cX4_count 84 = .ok (.getfield 25, 3) := by decide +kernel
theorem dX4_count_87 : decode cX4_count 87 = .ok (.ireturn, 1) := by decide +kernel
theorem dX4_count_88 : decode cX4_count 88 = .ok (.aload_n 0, 1) := by decide +kernel
theorem dX4_count_89 : decode cX4_count 89 = .ok (.getfield 28, 3) := by decide +kernel
theorem dX4_count_92 : decode cX4_count 92 = .ok (.bipush 6, 2) := by decide +kernel
theorem dX4_count_94 : decode cX4_count 94 = .ok (.iaload, 1) := by decide +kernel
theorem dX4_count_95 : decode cX4_count 95 = .ok (.ireturn, 1) := by decide +kernel
theorem dX4_count_96 : decode cX4_count 96 = .ok (.aload_n 0, 1) := by decide +kernel
theorem dX4_count_97 : decode cX4_count 97 = .ok (.getfield 28, 3) := by decide +kernel
theorem dX4_count_100 : decode cX4_count 100 = .ok (.iconst 0, 1) := by decide +kernel
theorem dX4_count_101 : decode cX4_count 101 = .ok (.iaload, 1) := by decide +kernel
theorem dX4_count_102 : decode cX4_count 102 = .ok (.ireturn, 1) := by decide +kernel
theorem dX4_count_103 : decode cX4_count 103 = .ok (.aload_n 0, 1) := by decide +kernel
theorem dX4_count_104 : decode cX4_count 104 = .ok (.getfield 32, 3) := by decide +kernel
theorem dX4_count_107 : decode cX4_count 107 = .ok (.iconst 0, 1) := by decide +kernel
theorem dX4_count_108 : decode cX4_count 108 = .ok (.iaload, 1) := by decide +kernel
theorem dX4_count_109 : decode cX4_count 109 = .ok (.ireturn, 1) := by decide +kernel
theorem dX4_count_110 : decode cX4_count 110 = .ok (.aload_n 0, 1) := by decide +kernel
theorem dX4_count_111 : decode cX4_count 111 = .ok (.getfield 32, 3) := by decide +kernel
theorem dX4_count_114 : decode cX4_count 114 = .ok (.iconst 1, 1) := by decide +kernel
theorem dX4_count_115 : decode cX4_count 115 = .ok (.iaload, 1) := by decide +kernel
theorem dX4_count_116 : decode cX4_count 116 = .ok (.ireturn, 1) := by decide +kernel
theorem dX4_count_117 : decode cX4_count 117 = .ok (.aload_n 0, 1) := by decide +kernel
theorem dX4_count_118 : decode cX4_count 118 = .ok (.getfield 32, 3) := by decide +kernel
theorem dX4_count_121 : decode cX4_count 121 = .ok (.iconst 2, 1) := by decide +kernel
theorem dX4_count_122 : decode cX4_count 122 = .ok (.iaload, 1) := by decide +kernel
theorem dX4_count_123 : decode cX4_count 123 = .ok (.ireturn, 1) := by decide +kernel
theorem dX4_count_124 : decode cX4_count 124 = .ok (.aload_n 0, 1) := by decide +kernel
theorem dX4_count_125 : decode cX4_count 125 = .ok (.getfield 51, 3) := by decide +kernel
theorem dX4_count_128 : decode cX4_count 128 = .ok (.ireturn, 1) := by decide +kernel
theorem dX4_count_129 : decode cX4_count 129 = .ok (.aload_n 0, 1) := by decide +kernel
theorem dX4_count_130 : decode cX4_count 130 = .ok (.getfield 54, 3) := by decide +kernel
theorem dX4_count_133 : decode cX4_count 133 = .ok (.ireturn, 1) := by decide +kernel
theorem dX4_count_134 : decode cX4_count 134 = .ok (.aload_n 0, 1) := by decide +kernel
theorem dX4_count_135 : decode cX4_count 135 = .ok (.getfield 48, 3) := by decide +kernel
theorem dX4_count_138 : decode cX4_count 138 = .ok (.ireturn, 1) := by decide +kernel
theorem dX4_count_139 : decode cX4_count 139 = .ok (.aload_n 0, 1) := by decide +kernel
theorem dX4_count_140 : decode cX4_count 140 = .ok (.getfield 57, 3) := by decide +kernel
theorem dX4_count_143 : decode cX4_count 143 = .ok (.ireturn, 1) := by decide +kernel
theorem dX4_count_144 : decode cX4_count 144 = .ok (.iconst (-1), 1) := by decide +kernel
theorem dX4_count_145 : decode cX4_count 145 = .ok (.ireturn, 1) := by decide +kernel
theorem dX4_within_0 : decode cX4_within 0 = .ok (.iload_n 1, 1) := by decide +kernel
theorem dX4_within_1 : decode cX4_within 1 = .ok (.iload_n 0, 1) := by decide +kernel
theorem dX4_within_2 : decode cX4_within 2 = .ok (.iload_n 2, 1) := by decide +kernel
theorem dX4_within_3 : decode cX4_within 3 = .ok (.invokestatic 173, 3) := by decide +kernel
theorem dX4_within_6 : decode cX4_within 6 = .ok (.invokestatic 179, 3) := by decide +kernel
theorem dX4_within_9 : decode cX4_within 9 = .ok (.ireturn, 1) := by decide +kernel
theorem dX4_isAmong_0 : decode cX4_isAmong 0 = .ok (.iload_n 0, 1) := by decide +kernel
theorem dX4_isAmong_1 : decode cX4_isAmong 1 = .ok (.ifCond .lt 12, 3) := by decide +kernel
theorem dX4_isAmong_4 : decode cX4_isAmong 4 = .ok (.iload_n 0, 1) := by decide +kernel
theorem dX4_isAmong_5 : decode cX4_isAmong 5 = .ok (.iload_n 1, 1) := by decide +kernel
theorem dX4_isAmong_6 : decode cX4_isAmong 6 = .ok (.if_icmp .ge 7, 3) := by decide +kernel
theorem dX4_isAmong_9 : decode cX4_isAmong 9 = .ok (.iconst 1, 1) := by decide +kernel
theorem dX4_isAmong_10 : decode cX4_isAmong 10 = .ok (.goto 4, 3) := by decide +kernel
theorem dX4_isAmong_13 : decode cX4_isAmong 13 = .ok (.iconst 0, 1) := by decide +kernel
theorem dX4_isAmong_14 : decode cX4_isAmong 14 = .ok (.ireturn, 1) := by decide +kernel
set_option maxRecDepth 20000 in
theorem ggX4_readRecipe_X3_init : GoodIn wsX4_readRecipe wsX3_init := goodIn_r _ [8, 9, 10, 11, 12, 13, 14, 15, 16, 17, 25, 26, 27, 28, 29, 30] (by decide +kernel) (by decide +kernel)
set_option maxRecDepth 20000 in
theorem gX4_readRecipe_X3_init : GoodIn wsX4_readRecipe (wsX3_init) := ggX4_readRecipe_X3_init
set_option maxRecDepth 20000 in
theorem ggX4_readRecipe_X3_canBe : GoodIn wsX4_readRecipe wsX3_canBe := goodIn_r _ [21, 12, 13, 14, 15, 16, 17, 22, 23, 3, 24, 25, 26, 27, 28, 29, 30] (by decide +kernel) (by decide +kernel)
set_option maxRecDepth 20000 in
theorem gX4_readRecipe_X3_canBe : GoodIn wsX4_readRecipe (wsV RX4 186 RX3 yX3_canBe wsX3_canBe) := goodIn_app (goodIn_of _ (by decide +kernel)) ggX4_readRecipe_X3_canBe
theorem dX4_readRecipe_0 : decode cX4_readRecipe 0 = .ok (.iload_n 0, 1) := by decide +kernel
theorem dX4_readRecipe_1 : decode cX4_readRecipe 1 = .ok (.ifCond .lt 14, 3) := by decide +kernel
theorem dX4_readRecipe_4 : decode cX4_readRecipe 4 = .ok (.iload_n 1, 1) := by decide +kernel
theorem dX4_readRecipe_5 : decode cX4_readRecipe 5 = .ok (.ifCond .lt 10, 3) := by decide +kernel
theorem dX4_readRecipe_8 : decode cX4_readRecipe 8 = .ok (.iload_n 0, 1) := by decide +kernel
theorem dX4_readRecipe_9 : decode cX4_readRecipe 9 = .ok (.bipush 10, 2) := by decide +kernel
theorem dX4_readRecipe_11 : decode cX4_readRecipe 11 = .ok (.irem, 1) := by decide +kernel
theorem dX4_readRecipe_12 : decode cX4_readRecipe 12 = .ok (.ifCond .eq 5, 3) := by decide +kernel
theorem dX4_readRecipe_15 : decode cX4_readRecipe 15 = .ok (.aconst_null, 1) := by decide +kernel
theorem dX4_readRecipe_16 : decode cX4_readRecipe 16 = .ok (.areturn, 1) := by decide +kernel
theorem dX4_readRecipe_17 : decode cX4_readRecipe 17 = .ok (.new 9, 3) := by decide +kernel
theorem dX4_readRecipe_20 : decode cX4_readRecipe 20 = .ok (.dup, 1) := by decide +kernel
theorem dX4_readRecipe_21 : decode cX4_readRecipe 21 = .ok (.iload_n 0, 1) := by decide +kernel
theorem dX4_readRecipe_22 : decode cX4_readRecipe 22 = .ok (.ldc 182, 2) := by decide +kernel
theorem dX4_readRecipe_24 : decode cX4_readRecipe 24 = .ok (.idiv, 1) := by decide +kernel
theorem dX4_readRecipe_25 : decode cX4_readRecipe 25 = .ok (.iload_n 0, 1) := by decide +kernel
theorem dX4_readRecipe_26 : decode cX4_readRecipe 26 = .ok (.ldc 91, 2) := by decide +kernel
theorem dX4_readRecipe_28 : decode cX4_readRecipe 28 = .ok (.idiv, 1) := by decide +kernel
theorem dX4_readRecipe_29 : decode cX4_readRecipe 29 = .ok (.bipush 10, 2) := by decide +kernel
theorem dX4_readRecipe_31 : decode cX4_readRecipe 31 = .ok (.irem, 1) := by decide +kernel
theorem dX4_readRecipe_32 : decode cX4_readRecipe 32 = .ok (.iload_n 0, 1) := by decide +kernel
theorem dX4_readRecipe_33 : decode cX4_readRecipe 33 = .ok (.sipush 1000, 3) := by decide +kernel
theorem dX4_readRecipe_36 : decode cX4_readRecipe 36 = .ok (.idiv, 1) := by decide +kernel
theorem dX4_readRecipe_37 : decode cX4_readRecipe 37 = .ok (.bipush 100, 2) := by decide +kernel
theorem dX4_readRecipe_39 : decode cX4_readRecipe 39 = .ok (.irem, 1) := by decide +kernel
theorem dX4_readRecipe_40 : decode cX4_readRecipe 40 = .ok (.iload_n 0, 1) := by decide +kernel
theorem dX4_readRecipe_41 : decode cX4_readRecipe 41 = .ok (.bipush 10, 2) := by decide +kernel
theorem dX4_readRecipe_43 : decode cX4_readRecipe 43 = .ok (.idiv, 1) := by decide +kernel
theorem dX4_readRecipe_44 : decode cX4_readRecipe 44 = .ok (.bipush 100, 2) := by decide +kernel
theorem dX4_readRecipe_46 : decode cX4_readRecipe 46 = .ok (.irem, 1) := by decide +kernel
theorem dX4_readRecipe_47 : decode cX4_readRecipe 47 = .ok (.iload_n 1, 1) := by decide +kernel
theorem dX4_readRecipe_48 : decode cX4_readRecipe 48 = .ok (.sipush 1000, 3) := by decide +kernel
theorem dX4_readRecipe_51 : decode cX4_readRecipe 51 = .ok (.idiv, 1) := by decide +kernel
theorem dX4_readRecipe_52 : decode cX4_readRecipe 52 = .ok (.iload_n 1, 1) := by decide +kernel
theorem dX4_readRecipe_53 : decode cX4_readRecipe 53 = .ok (.sipush 1000, 3) := by decide +kernel
theorem dX4_readRecipe_56 : decode cX4_readRecipe 56 = .ok (.irem, 1) := by decide +kernel
theorem dX4_readRecipe_57 : decode cX4_readRecipe 57 = .ok (.invokespecial 183, 3) := by decide +kernel
theorem dX4_readRecipe_60 : decode cX4_readRecipe 60 = .ok (.astore_n 2, 1) := by decide +kernel
theorem dX4_readRecipe_61 : decode cX4_readRecipe 61 = .ok (.aload_n 2, 1) := by decide +kernel
theorem dX4_readRecipe_62 : decode cX4_readRecipe 62 = .ok (.invokevirtual 186, 3) := by decide +kernel
theorem dX4_readRecipe_65 : decode cX4_readRecipe 65 = .ok (.ifCond .eq 7, 3) := by decide +kernel
theorem dX4_readRecipe_68 : decode cX4_readRecipe 68 = .ok (.aload_n 2, 1) := by decide +kernel
theorem dX4_readRecipe_69 : decode cX4_readRecipe 69 = .ok (.goto 4, 3) := by decide +kernel
theorem dX4_readRecipe_72 : decode cX4_readRecipe 72 = .ok (.aconst_null, 1) := by decide +kernel
theorem dX4_readRecipe_73 : decode cX4_readRecipe 73 = .ok (.areturn, 1) := by decide +kernel
set_option maxRecDepth 20000 in
theorem ggX4_goOneTick_X4_endGrinding : GoodIn wsX4_goOneTick wsX4_endGrinding := goodIn_r _ [7, 8, 9, 2, 10, 11, 12, 13, 6, 14, 15, 16, 17, 128, 129, 130, 131, 132, 133, 134, 135, 136, 137, 138, 139, 140, 141, 142, 143, 144, 145, 146, 147, 148, 149, 150, 151, 152, 153, 154, 155] (by decide +kernel) (by decide +kernel)
set_option maxRecDepth 20000 in
theorem gX4_goOneTick_X4_endGrinding : GoodIn wsX4_goOneTick (wsV RX4 189 RX4 yX4_endGrinding wsX4_endGrinding) := goodIn_app (goodIn_of _ (by decide +kernel)) ggX4_goOneTick_X4_endGrinding
set_option maxRecDepth 20000 in
theorem ggX4_goOneTick_X4_endSteaming : GoodIn wsX4_goOneTick wsX4_endSteaming := goodIn_r _ [21, 22, 9, 23, 24, 25, 6, 26, 2, 27, 28, 29, 30, 31, 32, 33, 11, 12, 13, 14, 15, 16, 17, 128, 129, 130, 131, 132, 133, 134, 135, 136, 137, 138, 139, 140, 141, 142, 143, 144, 145, 146, 147, 148, 149, 150, 151, 152, 153, 154, 155] (by decide +kernel) (by decide +kernel)
set_option maxRecDepth 20000 in
theorem gX4_goOneTick_X4_endSteaming : GoodIn wsX4_goOneTick (wsV RX4 192 RX4 yX4_endSteaming wsX4_endSteaming) := goodIn_app (goodIn_of _ (by decide +kernel)) ggX4_goOneTick_X4_endSteaming
set_option maxRecDepth 20000 in
theorem ggX4_goOneTick_X4_passTickOf : GoodIn wsX4_goOneTick wsX4_passTickOf := goodIn_r _ [37, 38, 39, 40, 41, 42, 43, 44, 45, 46, 47, 48, 49, 50, 51, 52, 53, 54, 6, 55, 56, 57, 23, 24, 25, 26, 2, 27, 28, 29, 30, 31, 32, 33, 11, 12, 13, 14, 15, 16, 17, 156, 157, 158, 159, 160, 161, 128, 129, 130, 131, 132, 133, 134, 135, 136, 137, 138, 139, 140, 141, 142, 143, 144, 145, 146, 147, 148, 149, 150, 151, 152, 153, 154, 155, 162, 163, 164, 165, 166, 167] (by decide +kernel) (by decide +kernel)
set_option maxRecDepth 20000 in
theorem gX4_goOneTick_X4_passTickOf : GoodIn wsX4_goOneTick (wsV RX4 195 RX4 yX4_passTickOf wsX4_passTickOf) := goodIn_app (goodIn_of _ (by decide +kernel)) ggX4_goOneTick_X4_passTickOf
set_option maxRecDepth 20000 in
theorem ggX4_goOneTick_X4_throwAwayOldGrounds : GoodIn wsX4_goOneTick wsX4_throwAwayOldGrounds := goodIn_r _ [61, 15, 62, 63, 16, 2, 10, 64, 65, 66, 6, 67, 68, 56, 69, 70, 11, 12, 13, 14, 17, 128, 129, 130, 131, 132, 133, 134, 135, 136, 137, 138, 139, 140, 141, 142, 143, 144, 145, 146, 147, 148, 149, 150, 151, 152, 153, 154, 155, 162, 163, 164, 165, 166, 167] (by decide +kernel) (by decide +kernel)
set_option maxRecDepth 20000 in
theorem gX4_goOneTick_X4_throwAwayOldGrounds : GoodIn wsX4_goOneTick (wsV RX4 199 RX4 yX4_throwAwayOldGrounds wsX4_throwAwayOldGrounds) := goodIn_app (goodIn_of _ (by decide +kernel)) ggX4_goOneTick_X4_throwAwayOldGrounds
set_option maxRecDepth 20000 in
theorem ggX4_goOneTick_X4_beginSteam : GoodIn wsX4_goOneTick wsX4_beginSteam := goodIn_r _ [74, 22, 56, 75, 76, 57, 9, 77, 78, 79, 6, 80, 81, 82, 83, 84, 85, 8, 1, 39, 86, 87, 88, 89, 15, 62, 63, 16, 11, 12, 13, 14, 17, 128, 129, 130, 131, 132, 133, 134, 135, 136, 137, 138, 139, 140, 141, 142, 143, 144, 145, 146, 147, 148, 149, 150, 151, 152, 153, 154, 155, 162, 163, 164, 165, 166, 167, 156, 157, 158, 159, 160, 161] (by decide +kernel) (by decide +kernel)
set_option maxRecDepth 20000 in
theorem gX4_goOneTick_X4_beginSteam : GoodIn wsX4_goOneTick (wsV RX4 202 RX4 yX4_beginSteam wsX4_beginSteam) := goodIn_app (goodIn_of _ (by decide +kernel)) ggX4_goOneTick_X4_beginSteam
set_option maxRecDepth 20000 in
theorem ggX4_goOneTick_X4_beginRinses : GoodIn wsX4_goOneTick wsX4_beginRinses := goodIn_r _ [93, 1, 76, 94, 95, 96, 47, 97, 49, 98, 99, 100, 101, 6, 102, 41, 15, 77, 78, 79, 80, 81, 82, 83, 84, 85, 8, 22, 39, 103, 104, 105, 106, 50, 128, 129, 130, 131, 132, 133, 134, 135, 136, 137, 138, 139, 140, 141, 142, 143, 144, 156, 157, 158, 159, 160, 161] (by decide +kernel) (by decide +kernel)
set_option maxRecDepth 20000 in
theorem gX4_goOneTick_X4_beginRinses : GoodIn wsX4_goOneTick (wsV RX4 205 RX4 yX4_beginRinses wsX4_beginRinses) := goodIn_app (goodIn_of _ (by decide +kernel)) ggX4_goOneTick_X4_beginRinses
set_option maxRecDepth 20000 in
theorem ggX4_goOneTick_X4_beginBrews : GoodIn wsX4_goOneTick wsX4_beginBrews := goodIn_r _ [110, 111, 1, 41, 56, 112, 76, 113, 43, 17, 94, 95, 96, 47, 97, 49, 98, 86, 87, 88, 6, 89, 15, 62, 63, 16, 77, 78, 79, 80, 81, 82, 83, 84, 85, 8, 22, 39, 103, 104, 105, 106, 50, 11, 12, 13, 14, 128, 129, 130, 131, 132, 133, 134, 135, 136, 137, 138, 139, 140, 141, 142, 143, 144, 156, 157, 158, 159, 160, 161, 145, 146, 147, 148, 149, 150, 151, 152, 153, 154, 155, 162, 163, 164, 165, 166, 167] (by decide +kernel) (by decide +kernel)
set_option maxRecDepth 20000 in
theorem gX4_goOneTick_X4_beginBrews : GoodIn wsX4_goOneTick (wsV RX4 208 RX4 yX4_beginBrews wsX4_beginBrews) := goodIn_app (goodIn_of _ (by decide +kernel)) ggX4_goOneTick_X4_beginBrews
set_option maxRecDepth 20000 in
theorem ggX4_goOneTick_X4_beginGrind : GoodIn wsX4_goOneTick wsX4_beginGrind := goodIn_r _ [117, 8, 15, 1, 56, 69, 76, 118, 9, 77, 78, 79, 6, 80, 81, 82, 83, 84, 85, 22, 39, 119, 120, 121, 122, 62, 63, 16, 123, 11, 12, 13, 14, 17, 128, 129, 130, 131, 132, 133, 134, 135, 136, 137, 138, 139, 140, 141, 142, 143, 144, 145, 146, 147, 148, 149, 150, 151, 152, 153, 154, 155, 162, 163, 164, 165, 166, 167, 156, 157, 158, 159, 160, 161] (by decide +kernel) (by decide +kernel)
set_option maxRecDepth 20000 in
theorem gX4_goOneTick_X4_beginGrind : GoodIn wsX4_goOneTick (wsV RX4 211 RX4 yX4_beginGrind wsX4_beginGrind) := goodIn_app (goodIn_of _ (by decide +kernel)) ggX4_goOneTick_X4_beginGrind
set_option maxRecDepth 20000 in
theorem ggX4_goOneTick_X4_changeHeat : GoodIn wsX4_goOneTick wsX4_changeHeat := goodIn_r _ [127, 111, 1, 39, 22, 77, 78, 79, 6, 80, 81, 82, 83, 84, 85, 8, 128, 129, 130, 131, 132, 133, 134, 135, 136, 137, 138, 139, 140, 141, 142, 143, 144, 156, 157, 158, 159, 160, 161] (by decide +kernel) (by decide +kernel)
set_option maxRecDepth 20000 in
theorem gX4_goOneTick_X4_changeHeat : GoodIn wsX4_goOneTick (wsV RX4 214 RX4 yX4_changeHeat wsX4_changeHeat) := goodIn_app (goodIn_of _ (by decide +kernel)) ggX4_goOneTick_X4_changeHeat
theorem dX4_goOneTick_0 : decode cX4_goOneTick 0 = .ok (.aload_n 0, 1) := by decide +kernel
theorem dX4_goOneTick_1 : decode cX4_goOneTick 1 = .ok (.invokevirtual 189, 3) := by decide +kernel
theorem dX4_goOneTick_4 : decode cX4_goOneTick 4 = .ok (.aload_n 0, 1) := by decide +kernel
theorem dX4_goOneTick_5 : decode cX4_goOneTick 5 = .ok (.invokevirtual 192, 3) := by decide +kernel
theorem dX4_goOneTick_8 : decode cX4_goOneTick 8 = .ok (.aload_n 0, 1) := by decide +kernel
theorem dX4_goOneTick_9 : decode cX4_goOneTick 9 = .ok (.getfield 66, 3) := by decide +kernel
theorem dX4_goOneTick_12 : decode cX4_goOneTick 12 = .ok (.astore_n 1, 1) := by decide +kernel
theorem dX4_goOneTick_13 : decode cX4_goOneTick 13 = .ok (.aload_n 1, 1) := by decide +kernel
theorem dX4_goOneTick_14 : decode cX4_goOneTick 14 = .ok (.arraylength, 1) := by decide +kernel
theorem dX4_goOneTick_15 : decode cX4_goOneTick 15 = .ok (.istore_n 2, 1) := by decide +kernel
theorem dX4_goOneTick_16 : decode cX4_goOneTick 16 = .ok (.iconst 0, 1) := by decide +kernel
theorem dX4_goOneTick_17 : decode cX4_goOneTick 17 = .ok (.istore_n 3, 1) := by decide +kernel
theorem dX4_goOneTick_18 : decode cX4_goOneTick 18 = .ok (.iload_n 3, 1) := by decide +kernel
theorem dX4_goOneTick_19 : decode cX4_goOneTick 19 = .ok (.iload_n 2, 1) := by decide +kernel
theorem dX4_goOneTick_20 : decode cX4_goOneTick 20 = .ok (.if_icmp .ge 20, 3) := by decide +kernel
theorem dX4_goOneTick_23 : decode cX4_goOneTick 23 = .ok (.aload_n 1, 1) := by decide +kernel
theorem dX4_goOneTick_24 : decode cX4_goOneTick 24 = .ok (.iload_n 3, 1) := by decide +kernel
theorem dX4_goOneTick_25 : decode cX4_goOneTick 25 = .ok (.aaload, 1) := by decide +kernel
theorem dX4_goOneTick_26 : decode cX4_goOneTick 26 = .ok (.astore 4, 2) := by decide +kernel
theorem dX4_goOneTick_28 : decode cX4_goOneTick 28 = .ok (.aload_n 0, 1) := by decide +kernel
theorem dX4_goOneTick_29 : decode cX4_goOneTick 29 = .ok (.aload 4, 2) := by decide +kernel
theorem dX4_goOneTick_31 : decode cX4_goOneTick 31 = .ok (.invokevirtual 195, 3) := by decide +kernel
theorem dX4_goOneTick_34 : decode cX4_goOneTick 34 = .ok (.iinc 3 1, 3) := by decide +kernel
theorem dX4_goOneTick_37 : decode cX4_goOneTick 37 = .ok (.goto (-19), 3) := by decide +kernel
theorem dX4_goOneTick_40 : decode cX4_goOneTick 40 = .ok (.aload_n 0, 1) := by decide +kernel
theorem dX4_goOneTick_41 : decode cX4_goOneTick 41 = .ok (.invokevirtual 199, 3) := by decide +kernel
theorem dX4_goOneTick_44 : decode cX4_goOneTick 44 = .ok (.aload_n 0, 1) := by decide +kernel
theorem dX4_goOneTick_45 : decode cX4_goOneTick 45 = .ok (.invokevirtual 202, 3) := by decide +kernel
theorem dX4_goOneTick_48 : decode cX4_goOneTick 48 = .ok (.aload_n 0, 1) := by decide +kernel
theorem dX4_goOneTick_49 : decode cX4_goOneTick 49 = .ok (.invokevirtual 205, 3) := by decide +kernel
theorem dX4_goOneTick_52 : decode cX4_goOneTick 52 = .ok (.aload_n 0, 1) := by decide +kernel
theorem dX4_goOneTick_53 : decode cX4_goOneTick 53 = .ok (.invokevirtual 208, 3) := by decide +kernel
theorem dX4_goOneTick_56 : decode cX4_goOneTick 56 = .ok (.aload_n 0, 1) := by decide +kernel
theorem dX4_goOneTick_57 : decode cX4_goOneTick 57 = .ok (.invokevirtual 211, 3) := by decide +kernel
theorem dX4_goOneTick_60 : decode cX4_goOneTick 60 = .ok (.aload_n 0, 1) := by decide +kernel
theorem dX4_goOneTick_61 : decode cX4_goOneTick 61 = .ok (.invokevirtual 214, 3) := by decide +kernel
theorem dX4_goOneTick_64 : decode cX4_goOneTick 64 = .ok (.aload_n 0, 1) := by decide +kernel
theorem dX4_goOneTick_65 : decode cX4_goOneTick 65 = .ok (.dup, 1) := by decide +kernel
theorem dX4_goOneTick_66 : decode cX4_goOneTick 66 = .ok (.getfield 45, 3) := by decide +kernel
theorem dX4_goOneTick_69 : decode cX4_goOneTick 69 = .ok (.iconst 1, 1) := by decide +kernel
theorem dX4_goOneTick_70 : decode cX4_goOneTick 70 = .ok (.iadd, 1) := by decide +kernel
theorem dX4_goOneTick_71 : decode cX4_goOneTick 71 = .ok (.putfield 45, 3) := by decide +kernel
theorem dX4_goOneTick_74 : decode cX4_goOneTick 74 = .ok (.return_, 1) := by decide +kernel
set_option maxRecDepth 20000 in
theorem ggX4_endGrinding_X4_turn : GoodIn wsX4_endGrinding wsX4_turn := goodIn_r _ [9, 10, 11, 12, 13, 14, 15, 16, 17, 18, 19, 20, 21, 22, 23, 24, 25, 26, 27, 28, 29, 30, 31, 32, 33, 34, 35, 36, 37, 38, 39, 40] (by decide +kernel) (by decide +kernel)
set_option maxRecDepth 20000 in
theorem gX4_endGrinding_X4_turn : GoodIn wsX4_endGrinding (wsV RX4 105 RX4 yX4_turn wsX4_turn) := goodIn_app (goodIn_of _ (by decide +kernel)) ggX4_endGrinding_X4_turn
theorem dX4_endGrinding_0 : decode cX4_endGrinding 0 = .ok (.aload_n 0, 1) := by decide +kernel
theorem dX4_endGrinding_1 : decode cX4_endGrinding 1 = .ok (.getfield 35, 3) := by decide +kernel
theorem dX4_endGrinding_4 : decode cX4_endGrinding 4 = .ok (.astore_n 1, 1) := by decide +kernel
theorem dX4_endGrinding_5 : decode cX4_endGrinding 5 = .ok (.aload_n 1, 1) := by decide +kernel
theorem dX4_endGrinding_6 : decode cX4_endGrinding 6 = .ok (.ifnonnull 4, 3) := by decide +kernel
theorem dX4_endGrinding_9 : decode cX4_endGrinding 9 = .ok (.return_, 1) := by decide +kernel
theorem dX4_endGrinding_10 : decode cX4_endGrinding 10 = .ok (.aload_n 1, 1) := by decide +kernel
theorem dX4_endGrinding_11 : decode cX4_endGrinding 11 = .ok (.dup, 1) := by decide +kernel
theorem dX4_endGrinding_12 : decode cX4_endGrinding 12 = .ok (.getfield 217, 3) := by decide +kernel
theorem dX4_endGrinding_15 : decode cX4_endGrinding 15 = .ok (.iconst 1, 1) := by decide +kernel
theorem dX4_endGrinding_16 : decode cX4_endGrinding 16 = .ok (.isub, 1) := by decide +kernel
theorem dX4_endGrinding_17 : decode cX4_endGrinding 17 = .ok (.putfield 217, 3) := by decide +kernel
theorem dX4_endGrinding_20 : decode cX4_endGrinding 20 = .ok (.aload_n 1, 1) := by decide +kernel
theorem dX4_endGrinding_21 : decode cX4_endGrinding 21 = .ok (.getfield 217, 3) := by decide +kernel
theorem dX4_endGrinding_24 : decode cX4_endGrinding 24 = .ok (.ifCond .gt 22, 3) := by decide +kernel
theorem dX4_endGrinding_27 : decode cX4_endGrinding 27 = .ok (.aload_n 0, 1) := by decide +kernel
theorem dX4_endGrinding_28 : decode cX4_endGrinding 28 = .ok (.aconst_null, 1) := by decide +kernel
theorem dX4_endGrinding_29 : decode cX4_endGrinding 29 = .ok (.putfield 35, 3) := by decide +kernel
theorem dX4_endGrinding_32 : decode cX4_endGrinding 32 = .ok (.aload_n 1, 1) := by decide +kernel
theorem dX4_endGrinding_33 : decode cX4_endGrinding 33 = .ok (.aload_n 0, 1) := by decide +kernel
theorem dX4_endGrinding_34 : decode cX4_endGrinding 34 = .ok (.getfield 45, 3) := by decide +kernel
theorem dX4_endGrinding_37 : decode cX4_endGrinding 37 = .ok (.putfield 218, 3) := by decide +kernel
theorem dX4_endGrinding_40 : decode cX4_endGrinding 40 = .ok (.aload_n 0, 1) := by decide +kernel
theorem dX4_endGrinding_41 : decode cX4_endGrinding 41 = .ok (.aload_n 1, 1) := by decide +kernel
theorem dX4_endGrinding_42 : decode cX4_endGrinding 42 = .ok (.iconst 2, 1) := by decide +kernel
theorem dX4_endGrinding_43 : decode cX4_endGrinding 43 = .ok (.invokevirtual 105, 3) := by decide +kernel
theorem dX4_endGrinding_46 : decode cX4_endGrinding 46 = .ok (.return_, 1) := by decide +kernel
set_option maxRecDepth 20000 in
theorem ggX4_endSteaming_X4_finish : GoodIn wsX4_endSteaming wsX4_finish := goodIn_r _ [7, 8, 9, 10, 11, 12, 13, 14, 15, 16, 17, 18, 6, 19, 20, 21, 22, 23, 24, 25, 26, 27, 28, 29, 30, 31, 32, 33, 34, 35, 36, 37, 38, 39, 40, 41, 42, 43, 44, 45, 46, 47, 48, 49, 50] (by decide +kernel) (by decide +kernel)
set_option maxRecDepth 20000 in
theorem gX4_endSteaming_X4_finish : GoodIn wsX4_endSteaming (wsV RX4 221 RX4 yX4_finish wsX4_finish) := goodIn_app (goodIn_of _ (by decide +kernel)) ggX4_endSteaming_X4_finish
theorem dX4_endSteaming_0 : decode cX4_endSteaming 0 = .ok (.aload_n 0, 1) := by decide +kernel
theorem dX4_endSteaming_1 : decode cX4_endSteaming 1 = .ok (.getfield 39, 3) := by decide +kernel
theorem dX4_endSteaming_4 : decode cX4_endSteaming 4 = .ok (.astore_n 1, 1) := by decide +kernel
theorem dX4_endSteaming_5 : decode cX4_endSteaming 5 = .ok (.aload_n 1, 1) := by decide +kernel
theorem dX4_endSteaming_6 : decode cX4_endSteaming 6 = .ok (.ifnonnull 4, 3) := by decide +kernel
theorem dX4_endSteaming_9 : decode cX4_endSteaming 9 = .ok (.return_, 1) := by decide +kernel
theorem dX4_endSteaming_10 : decode cX4_endSteaming 10 = .ok (.aload_n 1, 1) := by decide +kernel
theorem dX4_endSteaming_11 : decode cX4_endSteaming 11 = .ok (.dup, 1) := by decide +kernel
theorem dX4_endSteaming_12 : decode cX4_endSteaming 12 = .ok (.getfield 217, 3) := by decide +kernel
theorem dX4_endSteaming_15 : decode cX4_endSteaming 15 = .ok (.iconst 1, 1) := by decide +kernel
theorem dX4_endSteaming_16 : decode cX4_endSteaming 16 = .ok (.isub, 1) := by decide +kernel
theorem dX4_endSteaming_17 : decode cX4_endSteaming 17 = .ok (.putfield 217, 3) := by decide +kernel
theorem dX4_endSteaming_20 : decode cX4_endSteaming 20 = .ok (.aload_n 1, 1) := by decide +kernel
theorem dX4_endSteaming_21 : decode cX4_endSteaming 21 = .ok (.getfield 217, 3) := by decide +kernel
theorem dX4_endSteaming_24 : decode cX4_endSteaming 24 = .ok (.ifCond .gt 13, 3) := by decide +kernel
theorem dX4_endSteaming_27 : decode cX4_endSteaming 27 = .ok (.aload_n 0, 1) := by decide +kernel
theorem dX4_endSteaming_28 : decode cX4_endSteaming 28 = .ok (.aconst_null, 1) := by decide +kernel
theorem dX4_endSteaming_29 : decode cX4_endSteaming 29 = .ok (.putfield 39, 3) := by decide +kernel
theorem dX4_endSteaming_32 : decode cX4_endSteaming 32 = .ok (.aload_n 0, 1) := by decide +kernel
theorem dX4_endSteaming_33 : decode cX4_endSteaming 33 = .ok (.aload_n 1, 1) := by decide +kernel
theorem dX4_endSteaming_34 : decode cX4_endSteaming 34 = .ok (.invokevirtual 221, 3) := by decide +kernel
theorem dX4_endSteaming_37 : decode cX4_endSteaming 37 = .ok (.return_, 1) := by decide +kernel
set_option maxRecDepth 20000 in
theorem ggX4_passTickOf_X1_becomeFree : GoodIn wsX4_passTickOf wsX1_becomeFree := goodIn_r _ [11, 12, 13, 14, 41, 42, 43, 44, 45, 46] (by decide +kernel) (by decide +kernel)
set_option maxRecDepth 20000 in
theorem gX4_passTickOf_X1_becomeFree : GoodIn wsX4_passTickOf (wsV RX4 119 RX1 yX1_becomeFree wsX1_becomeFree) := goodIn_app (goodIn_of _ (by decide +kernel)) ggX4_passTickOf_X1_becomeFree
set_option maxRecDepth 20000 in
theorem ggX4_passTickOf_X4_endBrewing : GoodIn wsX4_passTickOf wsX4_endBrewing := goodIn_r _ [19, 20, 21, 22, 23, 24, 18, 25, 26, 27, 28, 29, 30, 31, 32, 33, 34, 35, 36, 37, 38, 39, 40, 64, 65, 66, 67, 68, 69, 70, 71, 72, 73, 74, 75, 76, 77, 78, 79, 80, 47, 48, 49, 50, 51, 52, 53, 54, 55, 56, 57, 58, 59, 60, 61, 62, 63] (by decide +kernel) (by decide +kernel)
set_option maxRecDepth 20000 in
theorem gX4_passTickOf_X4_endBrewing : GoodIn wsX4_passTickOf (wsV RX4 224 RX4 yX4_endBrewing wsX4_endBrewing) := goodIn_app (goodIn_of _ (by decide +kernel)) ggX4_passTickOf_X4_endBrewing
theorem dX4_passTickOf_0 : decode cX4_passTickOf 0 = .ok (.aload_n 1, 1) := by decide +kernel
theorem dX4_passTickOf_1 : decode cX4_passTickOf 1 = .ok (.getfield 122, 3) := by decide +kernel
theorem dX4_passTickOf_4 : decode cX4_passTickOf 4 = .ok (.ifCond .le 13, 3) := by decide +kernel
theorem dX4_passTickOf_7 : decode cX4_passTickOf 7 = .ok (.aload_n 1, 1) := by decide +kernel
theorem dX4_passTickOf_8 : decode cX4_passTickOf 8 = .ok (.dup, 1) := by decide +kernel
theorem dX4_passTickOf_9 : decode cX4_passTickOf 9 = .ok (.getfield 122, 3) := by decide +kernel
theorem dX4_passTickOf_12 : decode cX4_passTickOf 12 = .ok (.iconst 1, 1) := by decide +kernel
theorem dX4_passTickOf_13 : decode cX4_passTickOf 13 = .ok (.isub, 1) := by decide +kernel
theorem dX4_passTickOf_14 : decode cX4_passTickOf 14 = .ok (.putfield 122, 3) := by decide +kernel
theorem dX4_passTickOf_17 : decode cX4_passTickOf 17 = .ok (.aload_n 1, 1) := by decide +kernel
theorem dX4_passTickOf_18 : decode cX4_passTickOf 18 = .ok (.getfield 151, 3) := by decide +kernel
theorem dX4_passTickOf_21 : decode cX4_passTickOf 21 = .ok (.ifCond .ne 4, 3) := by decide +kernel
theorem dX4_passTickOf_24 : decode cX4_passTickOf 24 = .ok (.return_, 1) := by decide +kernel
theorem dX4_passTickOf_25 : decode cX4_passTickOf 25 = .ok (.aload_n 1, 1) := by decide +kernel
theorem dX4_passTickOf_26 : decode cX4_passTickOf 26 = .ok (.dup, 1) := by decide +kernel
theorem dX4_passTickOf_27 : decode cX4_passTickOf 27 = .ok (.getfield 152, 3) := by decide +kernel
theorem dX4_passTickOf_30 : decode cX4_passTickOf 30 = .ok (.iconst 1, 1) := by decide +kernel
theorem dX4_passTickOf_31 : decode cX4_passTickOf 31 = .ok (.isub, 1) := by decide +kernel
theorem dX4_passTickOf_32 : decode cX4_passTickOf 32 = .ok (.putfield 152, 3) := by decide +kernel
theorem dX4_passTickOf_35 : decode cX4_passTickOf 35 = .ok (.aload_n 1, 1) := by decide +kernel
theorem dX4_passTickOf_36 : decode cX4_passTickOf 36 = .ok (.getfield 152, 3) := by decide +kernel
theorem dX4_passTickOf_39 : decode cX4_passTickOf 39 = .ok (.ifCond .le 4, 3) := by decide +kernel
theorem dX4_passTickOf_42 : decode cX4_passTickOf 42 = .ok (.return_, 1) := by decide +kernel
theorem dX4_passTickOf_43 : decode cX4_passTickOf 43 = .ok (.aload_n 1, 1) := by decide +kernel
theorem dX4_passTickOf_44 : decode cX4_passTickOf 44 = .ok (.getfield 151, 3) := by decide +kernel
theorem dX4_passTickOf_47 : decode cX4_passTickOf 47 = .ok (.iconst 2, 1) := by decide +kernel
theorem dX4_passTickOf_48 : decode cX4_passTickOf 48 = .ok (.if_icmp .ne 18, 3) := by decide +kernel
theorem dX4_passTickOf_51 : decode cX4_passTickOf 51 = .ok (.aload_n 1, 1) := by decide +kernel
theorem dX4_passTickOf_52 : decode cX4_passTickOf 52 = .ok (.iconst 0, 1) := by decide +kernel
theorem dX4_passTickOf_53 : decode cX4_passTickOf 53 = .ok (.putfield 155, 3) := by decide +kernel
theorem dX4_passTickOf_56 : decode cX4_passTickOf 56 = .ok (.aload_n 0, 1) := by decide +kernel
theorem dX4_passTickOf_57 : decode cX4_passTickOf 57 = .ok (.dup, 1) := by decide +kernel
theorem dX4_passTickOf_58 : decode cX4_passTickOf 58 = .ok (.getfield 54, 3) := by decide +kernel
theorem dX4_passTickOf_61 : decode cX4_passTickOf 61 = .ok (.iconst 1, 1) := by decide +kernel
theorem dX4_passTickOf_62 : decode cX4_passTickOf 62 = .ok (.iadd, 1) := by decide +kernel
theorem dX4_passTickOf_63 : decode cX4_passTickOf 63 = .ok (.putfield 54, 3) := by decide +kernel
theorem dX4_passTickOf_66 : decode cX4_passTickOf 66 = .ok (.aload_n 1, 1) := by decide +kernel
theorem dX4_passTickOf_67 : decode cX4_passTickOf 67 = .ok (.getfield 112, 3) := by decide +kernel
theorem dX4_passTickOf_70 : decode cX4_passTickOf 70 = .ok (.astore_n 2, 1) := by decide +kernel
theorem dX4_passTickOf_71 : decode cX4_passTickOf 71 = .ok (.aload_n 1, 1) := by decide +kernel
theorem dX4_passTickOf_72 : decode cX4_passTickOf 72 = .ok (.invokevirtual 119, 3) := by decide +kernel
theorem dX4_passTickOf_75 : decode cX4_passTickOf 75 = .ok (.aload_n 2, 1) := by decide +kernel
theorem dX4_passTickOf_76 : decode cX4_passTickOf 76 = .ok (.ifnull 8, 3) := by decide +kernel
theorem dX4_passTickOf_79 : decode cX4_passTickOf 79 = .ok (.aload_n 0, 1) := by decide +kernel
theorem dX4_passTickOf_80 : decode cX4_passTickOf 80 = .ok (.aload_n 2, 1) := by decide +kernel
theorem dX4_passTickOf_81 : decode cX4_passTickOf 81 = .ok (.invokevirtual 224, 3) := by decide +kernel
theorem dX4_passTickOf_84 : decode cX4_passTickOf 84 = .ok (.return_, 1) := by decide +kernel
set_option maxRecDepth 20000 in
theorem ggX4_endBrewing_X4_finish : GoodIn wsX4_endBrewing wsX4_finish := goodIn_r _ [7, 8, 9, 10, 11, 12, 13, 14, 15, 16, 17, 18, 6, 19, 20, 21, 22, 40, 41, 42, 43, 44, 45, 46, 47, 48, 49, 50, 51, 52, 53, 54, 55, 56, 23, 24, 25, 26, 27, 28, 29, 30, 31, 32, 33] (by decide +kernel) (by decide +kernel)
set_option maxRecDepth 20000 in
theorem gX4_endBrewing_X4_finish : GoodIn wsX4_endBrewing (wsV RX4 221 RX4 yX4_finish wsX4_finish) := goodIn_app (goodIn_of _ (by decide +kernel)) ggX4_endBrewing_X4_finish
set_option maxRecDepth 20000 in
theorem ggX4_endBrewing_X4_turn : GoodIn wsX4_endBrewing wsX4_turn := goodIn_r _ [19, 20, 21, 22, 40, 41, 42, 43, 44, 45, 46, 47, 48, 49, 50, 51, 52, 53, 54, 55, 56, 23, 24, 25, 26, 27, 28, 29, 30, 31, 32, 33] (by decide +kernel) (by decide +kernel)
set_option maxRecDepth 20000 in
theorem gX4_endBrewing_X4_turn : GoodIn wsX4_endBrewing (wsV RX4 105 RX4 yX4_turn wsX4_turn) := goodIn_app (goodIn_of _ (by decide +kernel)) ggX4_endBrewing_X4_turn
theorem dX4_endBrewing_0 : decode cX4_endBrewing 0 = .ok (.aload_n 1, 1) := by decide +kernel
theorem dX4_endBrewing_1 : decode cX4_endBrewing 1 = .ok (.getfield 98, 3) := by decide +kernel
theorem dX4_endBrewing_4 : decode cX4_endBrewing 4 = .ok (.getfield 227, 3) := by decide +kernel
theorem dX4_endBrewing_7 : decode cX4_endBrewing 7 = .ok (.ifCond .ne 11, 3) := by decide +kernel
theorem dX4_endBrewing_10 : decode cX4_endBrewing 10 = .ok (.aload_n 0, 1) := by decide +kernel
theorem dX4_endBrewing_11 : decode cX4_endBrewing 11 = .ok (.aload_n 1, 1) := by decide +kernel
theorem dX4_endBrewing_12 : decode cX4_endBrewing 12 = .ok (.invokevirtual 221, 3) := by decide +kernel
theorem dX4_endBrewing_15 : decode cX4_endBrewing 15 = .ok (.goto 9, 3) := by decide +kernel
theorem dX4_endBrewing_18 : decode cX4_endBrewing 18 = .ok (.aload_n 0, 1) := by decide +kernel
theorem dX4_endBrewing_19 : decode cX4_endBrewing 19 = .ok (.aload_n 1, 1) := by decide +kernel
theorem dX4_endBrewing_20 : decode cX4_endBrewing 20 = .ok (.iconst 4, 1) := by decide +kernel
theorem dX4_endBrewing_21 : decode cX4_endBrewing 21 = .ok (.invokevirtual 105, 3) := by decide +kernel
theorem dX4_endBrewing_24 : decode cX4_endBrewing 24 = .ok (.return_, 1) := by decide +kernel
set_option maxRecDepth 20000 in
theorem ggX4_throwAwayOldGrounds_X4_waitAgain : GoodIn wsX4_throwAwayOldGrounds wsX4_waitAgain := goodIn_r _ [11, 12, 13, 14, 15, 16, 17, 18, 10, 19, 1, 4, 20, 21, 22, 23, 24, 25, 26, 27, 28, 29, 30, 31, 32, 33, 34, 35, 36, 37, 38, 39, 40, 41, 42, 43, 44, 45, 46, 47, 48, 49, 50, 51, 52, 53, 54] (by decide +kernel) (by decide +kernel)
set_option maxRecDepth 20000 in
theorem gX4_throwAwayOldGrounds_X4_waitAgain : GoodIn wsX4_throwAwayOldGrounds (wsV RX4 115 RX4 yX4_waitAgain wsX4_waitAgain) := goodIn_app (goodIn_of _ (by decide +kernel)) ggX4_throwAwayOldGrounds_X4_waitAgain
theorem dX4_throwAwayOldGrounds_0 : decode cX4_throwAwayOldGrounds 0 = .ok (.aload_n 0, 1) := by decide +kernel
theorem dX4_throwAwayOldGrounds_1 : decode cX4_throwAwayOldGrounds 1 = .ok (.getfield 28, 3) := by decide +kernel
theorem dX4_throwAwayOldGrounds_4 : decode cX4_throwAwayOldGrounds 4 = .ok (.iconst 2, 1) := by decide +kernel
theorem dX4_throwAwayOldGrounds_5 : decode cX4_throwAwayOldGrounds 5 = .ok (.iaload, 1) := by decide +kernel
theorem dX4_throwAwayOldGrounds_6 : decode cX4_throwAwayOldGrounds 6 = .ok (.ifCond .ne 4, 3) := by decide +kernel
theorem dX4_throwAwayOldGrounds_9 : decode cX4_throwAwayOldGrounds 9 = .ok (.return_, 1) := by decide +kernel
theorem dX4_throwAwayOldGrounds_10 : decode cX4_throwAwayOldGrounds 10 = .ok (.iconst 0, 1) := by decide +kernel
theorem dX4_throwAwayOldGrounds_11 : decode cX4_throwAwayOldGrounds 11 = .ok (.istore_n 1, 1) := by decide +kernel
theorem dX4_throwAwayOldGrounds_12 : decode cX4_throwAwayOldGrounds 12 = .ok (.iload_n 1, 1) := by decide +kernel
theorem dX4_throwAwayOldGrounds_13 : decode cX4_throwAwayOldGrounds 13 = .ok (.aload_n 0, 1) := by decide +kernel
theorem dX4_throwAwayOldGrounds_14 : decode cX4_throwAwayOldGrounds 14 = .ok (.getfield 25, 3) := by decide +kernel
theorem dX4_throwAwayOldGrounds_17 : decode cX4_throwAwayOldGrounds 17 = .ok (.if_icmp .ge 43, 3) := by decide +kernel
theorem dX4_throwAwayOldGrounds_20 : decode cX4_throwAwayOldGrounds 20 = .ok (.aload_n 0, 1) := by decide +kernel
theorem dX4_throwAwayOldGrounds_21 : decode cX4_throwAwayOldGrounds 21 = .ok (.getfield 21, 3) := by decide +kernel
theorem dX4_throwAwayOldGrounds_24 : decode cX4_throwAwayOldGrounds 24 = .ok (.iload_n 1, 1) := by decide +kernel
theorem dX4_throwAwayOldGrounds_25 : decode cX4_throwAwayOldGrounds 25 = .ok (.aaload, 1) := by decide +kernel
theorem dX4_throwAwayOldGrounds_26 : decode cX4_throwAwayOldGrounds 26 = .ok (.astore_n 2, 1) := by decide +kernel
theorem dX4_throwAwayOldGrounds_27 : decode cX4_throwAwayOldGrounds 27 = .ok (.aload_n 2, 1) := by decide +kernel
theorem dX4_throwAwayOldGrounds_28 : decode cX4_throwAwayOldGrounds 28 = .ok (.getfield 95, 3) := by decide +kernel
theorem dX4_throwAwayOldGrounds_31 : decode cX4_throwAwayOldGrounds 31 = .ok (.iconst 2, 1) := by decide +kernel
theorem dX4_throwAwayOldGrounds_32 : decode cX4_throwAwayOldGrounds 32 = .ok (.if_icmp .ne 22, 3) := by decide +kernel
theorem dX4_throwAwayOldGrounds_35 : decode cX4_throwAwayOldGrounds 35 = .ok (.aload_n 0, 1) := by decide +kernel
theorem dX4_throwAwayOldGrounds_36 : decode cX4_throwAwayOldGrounds 36 = .ok (.getfield 45, 3) := by decide +kernel
theorem dX4_throwAwayOldGrounds_39 : decode cX4_throwAwayOldGrounds 39 = .ok (.aload_n 2, 1) := by decide +kernel
theorem dX4_throwAwayOldGrounds_40 : decode cX4_throwAwayOldGrounds 40 = .ok (.getfield 218, 3) := by decide +kernel
theorem dX4_throwAwayOldGrounds_43 : decode cX4_throwAwayOldGrounds 43 = .ok (.isub, 1) := by decide +kernel
theorem dX4_throwAwayOldGrounds_44 : decode cX4_throwAwayOldGrounds 44 = .ok (.bipush 30, 2) := by decide +kernel
theorem dX4_throwAwayOldGrounds_46 : decode cX4_throwAwayOldGrounds 46 = .ok (.if_icmp .lt 8, 3) := by decide +kernel
theorem dX4_throwAwayOldGrounds_49 : decode cX4_throwAwayOldGrounds 49 = .ok (.aload_n 0, 1) := by decide +kernel
theorem dX4_throwAwayOldGrounds_50 : decode cX4_throwAwayOldGrounds 50 = .ok (.aload_n 2, 1) := by decide +kernel
theorem dX4_throwAwayOldGrounds_51 : decode cX4_throwAwayOldGrounds 51 = .ok (.invokevirtual 115, 3) := by decide +kernel
theorem dX4_throwAwayOldGrounds_54 : decode cX4_throwAwayOldGrounds 54 = .ok (.iinc 1 1, 3) := by decide +kernel
theorem dX4_throwAwayOldGrounds_57 : decode cX4_throwAwayOldGrounds 57 = .ok (.goto (-45), 3) := by decide +kernel
theorem dX4_throwAwayOldGrounds_60 : decode cX4_throwAwayOldGrounds 60 = .ok (.return_, 1) := by decide +kernel
set_option maxRecDepth 20000 in
theorem ggX4_beginSteam_X4_isPowerFor : GoodIn wsX4_beginSteam wsX4_isPowerFor := goodIn_r _ [11, 12, 13, 14, 15, 10, 16, 17, 1, 18, 19, 33, 34, 35, 36, 37, 38, 39, 40, 41, 42, 43, 44, 45, 46, 47, 48, 49, 67, 68, 69, 70, 71, 72] (by decide +kernel) (by decide +kernel)
set_option maxRecDepth 20000 in
theorem gX4_beginSteam_X4_isPowerFor : GoodIn wsX4_beginSteam (wsV RX4 230 RX4 yX4_isPowerFor wsX4_isPowerFor) := goodIn_app (goodIn_of _ (by decide +kernel)) ggX4_beginSteam_X4_isPowerFor
set_option maxRecDepth 20000 in
theorem ggX4_beginSteam_X4_firstThat : GoodIn wsX4_beginSteam wsX4_firstThat := goodIn_r _ [23, 24, 25, 26, 27, 33, 34, 35, 36, 37, 38, 39, 40, 41, 42, 43, 44, 45, 46, 47, 48, 49, 50, 51, 52, 53, 54, 55, 56, 57, 58, 59, 60] (by decide +kernel) (by decide +kernel)
set_option maxRecDepth 20000 in
theorem gX4_beginSteam_X4_firstThat : GoodIn wsX4_beginSteam (wsV RX4 234 RX4 yX4_firstThat wsX4_firstThat) := goodIn_app (goodIn_of _ (by decide +kernel)) ggX4_beginSteam_X4_firstThat
set_option maxRecDepth 20000 in
theorem ggX4_beginSteam_X4_turn : GoodIn wsX4_beginSteam wsX4_turn := goodIn_r _ [31, 24, 27, 32, 33, 34, 35, 36, 37, 38, 39, 40, 41, 42, 43, 44, 45, 46, 47, 48, 49, 50, 51, 52, 53, 54, 55, 56, 57, 58, 59, 60] (by decide +kernel) (by decide +kernel)
set_option maxRecDepth 20000 in
theorem gX4_beginSteam_X4_turn : GoodIn wsX4_beginSteam (wsV RX4 105 RX4 yX4_turn wsX4_turn) := goodIn_app (goodIn_of _ (by decide +kernel)) ggX4_beginSteam_X4_turn
theorem dX4_beginSteam_0 : decode cX4_beginSteam 0 = .ok (.aload_n 0, 1) := by decide +kernel
theorem dX4_beginSteam_1 : decode cX4_beginSteam 1 = .ok (.getfield 39, 3) := by decide +kernel
theorem dX4_beginSteam_4 : decode cX4_beginSteam 4 = .ok (.ifnonnull 11, 3) := by decide +kernel
theorem dX4_beginSteam_7 : decode cX4_beginSteam 7 = .ok (.aload_n 0, 1) := by decide +kernel
theorem dX4_beginSteam_8 : decode cX4_beginSteam 8 = .ok (.iconst 3, 1) := by decide +kernel
theorem dX4_beginSteam_9 : decode cX4_beginSteam 9 = .ok (.invokevirtual 230, 3) := by decide +kernel
theorem dX4_beginSteam_12 : decode cX4_beginSteam 12 = .ok (.ifCond .ne 4, 3) := by decide +kernel
theorem dX4_beginSteam_15 : decode cX4_beginSteam 15 = .ok (.return_, 1) := by decide +kernel
theorem dX4_beginSteam_16 : decode cX4_beginSteam 16 = .ok (.aload_n 0, 1) := by decide +kernel
theorem dX4_beginSteam_17 : decode cX4_beginSteam 17 = .ok (.iconst 4, 1) := by decide +kernel
theorem dX4_beginSteam_18 : decode cX4_beginSteam 18 = .ok (.invokevirtual 234, 3) := by decide +kernel
theorem dX4_beginSteam_21 : decode cX4_beginSteam 21 = .ok (.astore_n 1, 1) := by decide +kernel
theorem dX4_beginSteam_22 : decode cX4_beginSteam 22 = .ok (.aload_n 1, 1) := by decide +kernel
theorem dX4_beginSteam_23 : decode cX4_beginSteam 23 = .ok (.ifnull 19, 3) := by decide +kernel
theorem dX4_beginSteam_26 : decode cX4_beginSteam 26 = .ok (.aload_n 1, 1) := by decide +kernel
theorem dX4_beginSteam_27 : decode cX4_beginSteam 27 = .ok (.getfield 98, 3) := by decide +kernel
theorem dX4_beginSteam_30 : decode cX4_beginSteam 30 = .ok (.getfield 238, 3) := by decide +kernel
theorem dX4_beginSteam_33 : decode cX4_beginSteam 33 = .ok (.aload_n 0, 1) := by decide +kernel
theorem dX4_beginSteam_34 : decode cX4_beginSteam 34 = .ok (.getfield 32, 3) := by decide +kernel
theorem dX4_beginSteam_37 : decode cX4_beginSteam 37 = .ok (.iconst 2, 1) := by decide +kernel
theorem dX4_beginSteam_38 : decode cX4_beginSteam 38 = .ok (.iaload, 1) := by decide +kernel
theorem dX4_beginSteam_39 : decode cX4_beginSteam 39 = .ok (.if_icmp .le 4, 3) := by decide +kernel
theorem dX4_beginSteam_42 : decode cX4_beginSteam 42 = .ok (.return_, 1) := by decide +kernel
theorem dX4_beginSteam_43 : decode cX4_beginSteam 43 = .ok (.aload_n 0, 1) := by decide +kernel
theorem dX4_beginSteam_44 : decode cX4_beginSteam 44 = .ok (.getfield 32, 3) := by decide +kernel
theorem dX4_beginSteam_47 : decode cX4_beginSteam 47 = .ok (.iconst 2, 1) := by decide +kernel
theorem dX4_beginSteam_48 : decode cX4_beginSteam 48 = .ok (.dup2, 1) := by decide +kernel
theorem dX4_beginSteam_49 : decode cX4_beginSteam 49 = .ok (.iaload, 1) := by decide +kernel
theorem dX4_beginSteam_50 : decode cX4_beginSteam 50 = .ok (.aload_n 1, 1) := by decide +kernel
theorem dX4_beginSteam_51 : decode cX4_beginSteam 51 = .ok (.getfield 98, 3) := by decide +kernel
theorem dX4_beginSteam_54 : decode cX4_beginSteam 54 = .ok (.getfield 238, 3) := by decide +kernel
theorem dX4_beginSteam_57 : decode cX4_beginSteam 57 = .ok (.isub, 1) := by decide +kernel
theorem dX4_beginSteam_58 : decode cX4_beginSteam 58 = .ok (.iastore, 1) := by decide +kernel
theorem dX4_beginSteam_59 : decode cX4_beginSteam 59 = .ok (.aload_n 1, 1) := by decide +kernel
theorem dX4_beginSteam_60 : decode cX4_beginSteam 60 = .ok (.aload_n 1, 1) := by decide +kernel
theorem dX4_beginSteam_61 : decode cX4_beginSteam 61 = .ok (.getfield 98, 3) := by decide +kernel
theorem dX4_beginSteam_64 : decode cX4_beginSteam 64 = .ok (.getfield 227, 3) := by decide +kernel
theorem dX4_beginSteam_67 : decode cX4_beginSteam 67 = .ok (.putfield 217, 3) := by decide +kernel
theorem dX4_beginSteam_70 : decode cX4_beginSteam 70 = .ok (.aload_n 0, 1) := by decide +kernel
theorem dX4_beginSteam_71 : decode cX4_beginSteam 71 = .ok (.aload_n 1, 1) := by decide +kernel
theorem dX4_beginSteam_72 : decode cX4_beginSteam 72 = .ok (.putfield 39, 3) := by decide +kernel
theorem dX4_beginSteam_75 : decode cX4_beginSteam 75 = .ok (.aload_n 0, 1) := by decide +kernel
theorem dX4_beginSteam_76 : decode cX4_beginSteam 76 = .ok (.aload_n 1, 1) := by decide +kernel
theorem dX4_beginSteam_77 : decode cX4_beginSteam 77 = .ok (.iconst 5, 1) := by decide +kernel
theorem dX4_beginSteam_78 : decode cX4_beginSteam 78 = .ok (.invokevirtual 105, 3) := by decide +kernel
theorem dX4_beginSteam_81 : decode cX4_beginSteam 81 = .ok (.return_, 1) := by decide +kernel
set_option maxRecDepth 20000 in
theorem ggX4_beginRinses_X1_canBegin : GoodIn wsX4_beginRinses wsX1_canBegin := goodIn_r _ [7, 8, 9, 51, 52, 53, 54, 55, 56] (by decide +kernel) (by decide +kernel)
set_option maxRecDepth 20000 in
theorem gX4_beginRinses_X1_canBegin : GoodIn wsX4_beginRinses (wsV RX4 241 RX1 yX1_canBegin wsX1_canBegin) := goodIn_app (goodIn_of _ (by decide +kernel)) ggX4_beginRinses_X1_canBegin
set_option maxRecDepth 20000 in
theorem ggX4_beginRinses_X4_isRinseDue : GoodIn wsX4_beginRinses wsX4_isRinseDue := goodIn_r _ [14, 15, 16, 51, 52, 53, 54, 55, 56, 34, 35, 36, 37, 38, 39, 40, 41, 42, 43, 44, 45, 46, 47, 48, 49, 50] (by decide +kernel) (by decide +kernel)
set_option maxRecDepth 20000 in
theorem gX4_beginRinses_X4_isRinseDue : GoodIn wsX4_beginRinses (wsV RX4 244 RX4 yX4_isRinseDue wsX4_isRinseDue) := goodIn_app (goodIn_of _ (by decide +kernel)) ggX4_beginRinses_X4_isRinseDue
set_option maxRecDepth 20000 in
theorem ggX4_beginRinses_X4_isPowerFor : GoodIn wsX4_beginRinses wsX4_isPowerFor := goodIn_r _ [20, 21, 22, 23, 24, 13, 25, 26, 27, 1, 28, 34, 35, 36, 37, 38, 39, 40, 41, 42, 43, 44, 45, 46, 47, 48, 49, 50, 51, 52, 53, 54, 55, 56] (by decide +kernel) (by decide +kernel)
set_option maxRecDepth 20000 in
theorem gX4_beginRinses_X4_isPowerFor : GoodIn wsX4_beginRinses (wsV RX4 230 RX4 yX4_isPowerFor wsX4_isPowerFor) := goodIn_app (goodIn_of _ (by decide +kernel)) ggX4_beginRinses_X4_isPowerFor
set_option maxRecDepth 20000 in
theorem ggX4_beginRinses_X1_begin : GoodIn wsX4_beginRinses wsX1_begin := goodIn_r _ [32, 8, 33, 51, 52, 53, 54, 55, 56] (by decide +kernel) (by decide +kernel)
set_option maxRecDepth 20000 in
theorem gX4_beginRinses_X1_begin : GoodIn wsX4_beginRinses (wsV RX4 248 RX1 yX1_begin wsX1_begin) := goodIn_app (goodIn_of _ (by decide +kernel)) ggX4_beginRinses_X1_begin
theorem dX4_beginRinses_0 : decode cX4_beginRinses 0 = .ok (.aload_n 0, 1) := by decide +kernel
theorem dX4_beginRinses_1 : decode cX4_beginRinses 1 = .ok (.getfield 66, 3) := by decide +kernel
theorem dX4_beginRinses_4 : decode cX4_beginRinses 4 = .ok (.astore_n 1, 1) := by decide +kernel
theorem dX4_beginRinses_5 : decode cX4_beginRinses 5 = .ok (.aload_n 1, 1) := by decide +kernel
theorem dX4_beginRinses_6 : decode cX4_beginRinses 6 = .ok (.arraylength, 1) := by decide +kernel
theorem dX4_beginRinses_7 : decode cX4_beginRinses 7 = .ok (.istore_n 2, 1) := by decide +kernel
theorem dX4_beginRinses_8 : decode cX4_beginRinses 8 = .ok (.iconst 0, 1) := by decide +kernel
theorem dX4_beginRinses_9 : decode cX4_beginRinses 9 = .ok (.istore_n 3, 1) := by decide +kernel
theorem dX4_beginRinses_10 : decode cX4_beginRinses 10 = .ok (.iload_n 3, 1) := by decide +kernel
theorem dX4_beginRinses_11 : decode cX4_beginRinses 11 = .ok (.iload_n 2, 1) := by decide +kernel
theorem dX4_beginRinses_12 : decode cX4_beginRinses 12 = .ok (.if_icmp .ge 69, 3) := by decide +kernel
theorem dX4_beginRinses_15 : decode cX4_beginRinses 15 = .ok (.aload_n 1, 1) := by decide +kernel
theorem dX4_beginRinses_16 : decode cX4_beginRinses 16 = .ok (.iload_n 3, 1) := by decide +kernel
theorem dX4_beginRinses_17 : decode cX4_beginRinses 17 = .ok (.aaload, 1) := by decide +kernel
theorem dX4_beginRinses_18 : decode cX4_beginRinses 18 = .ok (.astore 4, 2) := by decide +kernel
theorem dX4_beginRinses_20 : decode cX4_beginRinses 20 = .ok (.aload 4, 2) := by decide +kernel
theorem dX4_beginRinses_22 : decode cX4_beginRinses 22 = .ok (.invokevirtual 241, 3) := by decide +kernel
theorem dX4_beginRinses_25 : decode cX4_beginRinses 25 = .ok (.ifCond .eq 50, 3) := by decide +kernel
theorem dX4_beginRinses_28 : decode cX4_beginRinses 28 = .ok (.aload_n 0, 1) := by decide +kernel
theorem dX4_beginRinses_29 : decode cX4_beginRinses 29 = .ok (.aload 4, 2) := by decide +kernel
theorem dX4_beginRinses_31 : decode cX4_beginRinses 31 = .ok (.invokevirtual 244, 3) := by decide +kernel
theorem dX4_beginRinses_34 : decode cX4_beginRinses 34 = .ok (.ifCond .eq 41, 3) := by decide +kernel
theorem dX4_beginRinses_37 : decode cX4_beginRinses 37 = .ok (.aload_n 0, 1) := by decide +kernel
theorem dX4_beginRinses_38 : decode cX4_beginRinses 38 = .ok (.getfield 32, 3) := by decide +kernel
theorem dX4_beginRinses_41 : decode cX4_beginRinses 41 = .ok (.iconst 1, 1) := by decide +kernel
theorem dX4_beginRinses_42 : decode cX4_beginRinses 42 = .ok (.iaload, 1) := by decide +kernel
theorem dX4_beginRinses_43 : decode cX4_beginRinses 43 = .ok (.bipush 20, 2) := by decide +kernel
theorem dX4_beginRinses_45 : decode cX4_beginRinses 45 = .ok (.if_icmp .lt 30, 3) := by decide +kernel
theorem dX4_beginRinses_48 : decode cX4_beginRinses 48 = .ok (.aload_n 0, 1) := by decide +kernel
theorem dX4_beginRinses_49 : decode cX4_beginRinses 49 = .ok (.iconst 2, 1) := by decide +kernel
theorem dX4_beginRinses_50 : decode cX4_beginRinses 50 = .ok (.invokevirtual 230, 3) := by decide +kernel
theorem dX4_beginRinses_53 : decode cX4_beginRinses 53 = .ok (.ifCond .eq 22, 3) := by decide +kernel
theorem dX4_beginRinses_56 : decode cX4_beginRinses 56 = .ok (.aload_n 0, 1) := by decide +kernel
theorem dX4_beginRinses_57 : decode cX4_beginRinses 57 = .ok (.getfield 32, 3) := by decide +kernel
theorem dX4_beginRinses_60 : decode cX4_beginRinses 60 = .ok (.iconst 1, 1) := by decide +kernel
theorem dX4_beginRinses_61 : decode cX4_beginRinses 61 = .ok (.dup2, 1) := by decide +kernel
theorem dX4_beginRinses_62 : decode cX4_beginRinses 62 = .ok (.iaload, 1) := by decide +kernel
theorem dX4_beginRinses_63 : decode cX4_beginRinses 63 = .ok (.bipush 20, 2) := by decide +kernel
theorem dX4_beginRinses_65 : decode cX4_beginRinses 65 = .ok (.isub, 1) := by decide +kernel
theorem dX4_beginRinses_66 : decode cX4_beginRinses 66 = .ok (.iastore, 1) := by decide +kernel
theorem dX4_beginRinses_67 : decode cX4_beginRinses 67 = .ok (.aload 4, 2) := by decide +kernel
theorem dX4_beginRinses_69 : decode cX4_beginRinses 69 = .ok (.iconst 2, 1) := by decide +kernel
theorem dX4_beginRinses_70 : decode cX4_beginRinses 70 = .ok (.bipush 6, 2) := by decide +kernel
theorem dX4_beginRinses_72 : decode cX4_beginRinses 72 = .ok (.invokevirtual 248, 3) := by decide +kernel
theorem dX4_beginRinses_75 : decode cX4_beginRinses 75 = .ok (.iinc 3 1, 3) := by decide +kernel
theorem dX4_beginRinses_78 : decode cX4_beginRinses 78 = .ok (.goto (-68), 3) := by decide +kernel
theorem dX4_beginRinses_81 : decode cX4_beginRinses 81 = .ok (.return_, 1) := by decide +kernel
theorem dX4_isRinseDue_0 : decode cX4_isRinseDue 0 = .ok (.aload_n 1, 1) := by decide +kernel
theorem dX4_isRinseDue_1 : decode cX4_isRinseDue 1 = .ok (.getfield 155, 3) := by decide +kernel
theorem dX4_isRinseDue_4 : decode cX4_isRinseDue 4 = .ok (.bipush 10, 2) := by decide +kernel
theorem dX4_isRinseDue_6 : decode cX4_isRinseDue 6 = .ok (.if_icmp .lt 5, 3) := by decide +kernel
theorem dX4_isRinseDue_9 : decode cX4_isRinseDue 9 = .ok (.iconst 1, 1) := by decide +kernel
theorem dX4_isRinseDue_10 : decode cX4_isRinseDue 10 = .ok (.ireturn, 1) := by decide +kernel
theorem dX4_isRinseDue_11 : decode cX4_isRinseDue 11 = .ok (.aload_n 1, 1) := by decide +kernel
theorem dX4_isRinseDue_12 : decode cX4_isRinseDue 12 = .ok (.getfield 155, 3) := by decide +kernel
theorem dX4_isRinseDue_15 : decode cX4_isRinseDue 15 = .ok (.iconst 5, 1) := by decide +kernel
theorem dX4_isRinseDue_16 : decode cX4_isRinseDue 16 = .ok (.if_icmp .lt 25, 3) := by decide +kernel
theorem dX4_isRinseDue_19 : decode cX4_isRinseDue 19 = .ok (.aload_n 0, 1) := by decide +kernel
theorem dX4_isRinseDue_20 : decode cX4_isRinseDue 20 = .ok (.getfield 28, 3) := by decide +kernel
theorem dX4_isRinseDue_23 : decode cX4_isRinseDue 23 = .ok (.iconst 0, 1) := by decide +kernel
theorem dX4_isRinseDue_24 : decode cX4_isRinseDue 24 = .ok (.iaload, 1) := by decide +kernel
theorem dX4_isRinseDue_25 : decode cX4_isRinseDue 25 = .ok (.ifCond .ne 16, 3) := by decide +kernel
theorem dX4_isRinseDue_28 : decode cX4_isRinseDue 28 = .ok (.aload_n 0, 1) := by decide +kernel
theorem dX4_isRinseDue_29 : decode cX4_isRinseDue 29 = .ok (.getfield 28, 3) := by decide +kernel
theorem dX4_isRinseDue_32 : decode cX4_isRinseDue 32 = .ok (.iconst 2, 1) := by decide +kernel
theorem dX4_isRinseDue_33 : decode cX4_isRinseDue 33 = .ok (.iaload, 1) := by decide +kernel
theorem dX4_isRinseDue_34 : decode cX4_isRinseDue 34 = .ok (.ifCond .ne 7, 3) := by decide +kernel
theorem dX4_isRinseDue_37 : decode cX4_isRinseDue 37 = .ok (.iconst 1, 1) := by decide +kernel
theorem dX4_isRinseDue_38 : decode cX4_isRinseDue 38 = .ok (.goto 4, 3) := by decide +kernel
theorem dX4_isRinseDue_41 : decode cX4_isRinseDue 41 = .ok (.iconst 0, 1) := by decide +kernel
theorem dX4_isRinseDue_42 : decode cX4_isRinseDue 42 = .ok (.ireturn, 1) := by decide +kernel
set_option maxRecDepth 20000 in
theorem ggX4_beginBrews_X1_canBegin : GoodIn wsX4_beginBrews wsX1_canBegin := goodIn_r _ [14, 15, 16, 64, 65, 66, 67, 68, 69] (by decide +kernel) (by decide +kernel)
set_option maxRecDepth 20000 in
theorem gX4_beginBrews_X1_canBegin : GoodIn wsX4_beginBrews (wsV RX4 241 RX1 yX1_canBegin wsX1_canBegin) := goodIn_app (goodIn_of _ (by decide +kernel)) ggX4_beginBrews_X1_canBegin
set_option maxRecDepth 20000 in
theorem ggX4_beginBrews_X4_firstThat : GoodIn wsX4_beginBrews wsX4_firstThat := goodIn_r _ [21, 22, 23, 24, 25, 47, 48, 49, 50, 51, 52, 53, 54, 55, 56, 57, 58, 59, 60, 61, 62, 63, 70, 71, 72, 73, 74, 75, 76, 77, 78, 79, 80] (by decide +kernel) (by decide +kernel)
set_option maxRecDepth 20000 in
theorem gX4_beginBrews_X4_firstThat : GoodIn wsX4_beginBrews (wsV RX4 234 RX4 yX4_firstThat wsX4_firstThat) := goodIn_app (goodIn_of _ (by decide +kernel)) ggX4_beginBrews_X4_firstThat
set_option maxRecDepth 20000 in
theorem ggX4_beginBrews_X4_isPowerFor : GoodIn wsX4_beginBrews wsX4_isPowerFor := goodIn_r _ [29, 30, 31, 32, 33, 20, 34, 35, 36, 2, 37, 47, 48, 49, 50, 51, 52, 53, 54, 55, 56, 57, 58, 59, 60, 61, 62, 63, 64, 65, 66, 67, 68, 69] (by decide +kernel) (by decide +kernel)
set_option maxRecDepth 20000 in
theorem gX4_beginBrews_X4_isPowerFor : GoodIn wsX4_beginBrews (wsV RX4 230 RX4 yX4_isPowerFor wsX4_isPowerFor) := goodIn_app (goodIn_of _ (by decide +kernel)) ggX4_beginBrews_X4_isPowerFor
set_option maxRecDepth 20000 in
theorem ggX4_beginBrews_X1_begin : GoodIn wsX4_beginBrews wsX1_begin := goodIn_r _ [41, 15, 42, 64, 65, 66, 67, 68, 69] (by decide +kernel) (by decide +kernel)
set_option maxRecDepth 20000 in
theorem gX4_beginBrews_X1_begin : GoodIn wsX4_beginBrews (wsV RX4 248 RX1 yX1_begin wsX1_begin) := goodIn_app (goodIn_of _ (by decide +kernel)) ggX4_beginBrews_X1_begin
set_option maxRecDepth 20000 in
theorem ggX4_beginBrews_X4_turn : GoodIn wsX4_beginBrews wsX4_turn := goodIn_r _ [46, 22, 25, 9, 47, 48, 49, 50, 51, 52, 53, 54, 55, 56, 57, 58, 59, 60, 61, 62, 63, 70, 71, 72, 73, 74, 75, 76, 77, 78, 79, 80] (by decide +kernel) (by decide +kernel)
set_option maxRecDepth 20000 in
theorem gX4_beginBrews_X4_turn : GoodIn wsX4_beginBrews (wsV RX4 105 RX4 yX4_turn wsX4_turn) := goodIn_app (goodIn_of _ (by decide +kernel)) ggX4_beginBrews_X4_turn
theorem dX4_beginBrews_0 : decode cX4_beginBrews 0 = .ok (.aload_n 0, 1) := by decide +kernel
theorem dX4_beginBrews_1 : decode cX4_beginBrews 1 = .ok (.getfield 42, 3) := by decide +kernel
theorem dX4_beginBrews_4 : decode cX4_beginBrews 4 = .ok (.sipush 880, 3) := by decide +kernel
theorem dX4_beginBrews_7 : decode cX4_beginBrews 7 = .ok (.if_icmp .ge 4, 3) := by decide +kernel
theorem dX4_beginBrews_10 : decode cX4_beginBrews 10 = .ok (.return_, 1) := by decide +kernel
theorem dX4_beginBrews_11 : decode cX4_beginBrews 11 = .ok (.aload_n 0, 1) := by decide +kernel
theorem dX4_beginBrews_12 : decode cX4_beginBrews 12 = .ok (.getfield 66, 3) := by decide +kernel
theorem dX4_beginBrews_15 : decode cX4_beginBrews 15 = .ok (.astore_n 1, 1) := by decide +kernel
theorem dX4_beginBrews_16 : decode cX4_beginBrews 16 = .ok (.aload_n 1, 1) := by decide +kernel
theorem dX4_beginBrews_17 : decode cX4_beginBrews 17 = .ok (.arraylength, 1) := by decide +kernel
theorem dX4_beginBrews_18 : decode cX4_beginBrews 18 = .ok (.istore_n 2, 1) := by decide +kernel
theorem dX4_beginBrews_19 : decode cX4_beginBrews 19 = .ok (.iconst 0, 1) := by decide +kernel
theorem dX4_beginBrews_20 : decode cX4_beginBrews 20 = .ok (.istore_n 3, 1) := by decide +kernel
theorem dX4_beginBrews_21 : decode cX4_beginBrews 21 = .ok (.iload_n 3, 1) := by decide +kernel
theorem dX4_beginBrews_22 : decode cX4_beginBrews 22 = .ok (.iload_n 2, 1) := by decide +kernel
theorem dX4_beginBrews_23 : decode cX4_beginBrews 23 = .ok (.if_icmp .ge 136, 3) := by decide +kernel
theorem dX4_beginBrews_26 : decode cX4_beginBrews 26 = .ok (.aload_n 1, 1) := by decide +kernel
theorem dX4_beginBrews_27 : decode cX4_beginBrews 27 = .ok (.iload_n 3, 1) := by decide +kernel
theorem dX4_beginBrews_28 : decode cX4_beginBrews 28 = .ok (.aaload, 1) := by decide +kernel
theorem dX4_beginBrews_29 : decode cX4_beginBrews 29 = .ok (.astore 4, 2) := by decide +kernel
theorem dX4_beginBrews_31 : decode cX4_beginBrews 31 = .ok (.aload 4, 2) := by decide +kernel
theorem dX4_beginBrews_33 : decode cX4_beginBrews 33 = .ok (.invokevirtual 241, 3) := by decide +kernel
theorem dX4_beginBrews_36 : decode cX4_beginBrews 36 = .ok (.ifCond .eq 117, 3) := by decide +kernel
theorem dX4_beginBrews_39 : decode cX4_beginBrews 39 = .ok (.aload 4, 2) := by decide +kernel
theorem dX4_beginBrews_41 : decode cX4_beginBrews 41 = .ok (.getfield 155, 3) := by decide +kernel
theorem dX4_beginBrews_44 : decode cX4_beginBrews 44 = .ok (.bipush 10, 2) := by decide +kernel
theorem dX4_beginBrews_46 : decode cX4_beginBrews 46 = .ok (.if_icmp .lt 6, 3) := by decide +kernel
theorem dX4_beginBrews_49 : decode cX4_beginBrews 49 = .ok (.goto 104, 3) := by decide +kernel
theorem dX4_beginBrews_52 : decode cX4_beginBrews 52 = .ok (.aload_n 0, 1) := by decide +kernel
theorem dX4_beginBrews_53 : decode cX4_beginBrews 53 = .ok (.iconst 2, 1) := by decide +kernel
theorem dX4_beginBrews_54 : decode cX4_beginBrews 54 = .ok (.invokevirtual 234, 3) := by decide +kernel
theorem dX4_beginBrews_57 : decode cX4_beginBrews 57 = .ok (.astore 5, 2) := by decide +kernel
theorem dX4_beginBrews_59 : decode cX4_beginBrews 59 = .ok (.aload 5, 2) := by decide +kernel
theorem dX4_beginBrews_61 : decode cX4_beginBrews 61 = .ok (.ifnull 28, 3) := by decide +kernel
theorem dX4_beginBrews_64 : decode cX4_beginBrews 64 = .ok (.aload 5, 2) := by decide +kernel
theorem dX4_beginBrews_66 : decode cX4_beginBrews 66 = .ok (.getfield 98, 3) := by decide +kernel
theorem dX4_beginBrews_69 : decode cX4_beginBrews 69 = .ok (.getfield 252, 3) := by decide +kernel
theorem dX4_beginBrews_72 : decode cX4_beginBrews 72 = .ok (.aload_n 0, 1) := by decide +kernel
theorem dX4_beginBrews_73 : decode cX4_beginBrews 73 = .ok (.getfield 32, 3) := by decide +kernel
theorem dX4_beginBrews_76 : decode cX4_beginBrews 76 = .ok (.iconst 1, 1) := by decide +kernel
theorem dX4_beginBrews_77 : decode cX4_beginBrews 77 = .ok (.iaload, 1) := by decide +kernel
theorem dX4_beginBrews_78 : decode cX4_beginBrews 78 = .ok (.if_icmp .gt 11, 3) := by decide +kernel
theorem dX4_beginBrews_81 : decode cX4_beginBrews 81 = .ok (.aload_n 0, 1) := by decide +kernel
theorem dX4_beginBrews_82 : decode cX4_beginBrews 82 = .ok (.iconst 2, 1) := by decide +kernel
theorem dX4_beginBrews_83 : decode cX4_beginBrews 83 = .ok (.invokevirtual 230, 3) := by decide +kernel
theorem dX4_beginBrews_86 : decode cX4_beginBrews 86 = .ok (.ifCond .ne 4, 3) := by decide +kernel
theorem dX4_beginBrews_89 : decode cX4_beginBrews 89 = .ok (.return_, 1) := by decide +kernel
theorem dX4_beginBrews_90 : decode cX4_beginBrews 90 = .ok (.aload_n 0, 1) := by decide +kernel
theorem dX4_beginBrews_91 : decode cX4_beginBrews 91 = .ok (.getfield 32, 3) := by decide +kernel
theorem dX4_beginBrews_94 : decode cX4_beginBrews 94 = .ok (.iconst 1, 1) := by decide +kernel
theorem dX4_beginBrews_95 : decode cX4_beginBrews 95 = .ok (.dup2, 1) := by decide +kernel
theorem dX4_beginBrews_96 : decode cX4_beginBrews 96 = .ok (.iaload, 1) := by decide +kernel
theorem dX4_beginBrews_97 : decode cX4_beginBrews 97 = .ok (.aload 5, 2) := by decide +kernel
theorem dX4_beginBrews_99 : decode cX4_beginBrews 99 = .ok (.getfield 98, 3) := by decide +kernel
theorem dX4_beginBrews_102 : decode cX4_beginBrews 102 = .ok (.getfield 252, 3) := by decide +kernel
theorem dX4_beginBrews_105 : decode cX4_beginBrews 105 = .ok (.isub, 1) := by decide +kernel
theorem dX4_beginBrews_106 : decode cX4_beginBrews 106 = .ok (.iastore, 1) := by decide +kernel
theorem dX4_beginBrews_107 : decode cX4_beginBrews 107 = .ok (.aload 4, 2) := by decide +kernel
theorem dX4_beginBrews_109 : decode cX4_beginBrews 109 = .ok (.iconst 1, 1) := by decide +kernel
theorem dX4_beginBrews_110 : decode cX4_beginBrews 110 = .ok (.aload 5, 2) := by decide +kernel
theorem dX4_beginBrews_112 : decode cX4_beginBrews 112 = .ok (.getfield 98, 3) := by decide +kernel
theorem dX4_beginBrews_115 : decode cX4_beginBrews 115 = .ok (.getfield 255, 3) := by decide +kernel
theorem dX4_beginBrews_118 : decode cX4_beginBrews 118 = .ok (.invokevirtual 248, 3) := by decide +kernel
theorem dX4_beginBrews_121 : decode cX4_beginBrews 121 = .ok (.aload 4, 2) := by decide +kernel
theorem dX4_beginBrews_123 : decode cX4_beginBrews 123 = .ok (.aload 5, 2) := by decide +kernel
theorem dX4_beginBrews_125 : decode cX4_beginBrews 125 = .ok (.putfield 112, 3) := by decide +kernel
theorem dX4_beginBrews_128 : decode cX4_beginBrews 128 = .ok (.aload 4, 2) := by decide +kernel
theorem dX4_beginBrews_130 : decode cX4_beginBrews 130 = .ok (.dup, 1) := by decide +kernel
theorem dX4_beginBrews_131 : decode cX4_beginBrews 131 = .ok (.getfield 155, 3) := by decide +kernel
theorem dX4_beginBrews_134 : decode cX4_beginBrews 134 = .ok (.iconst 1, 1) := by decide +kernel
theorem dX4_beginBrews_135 : decode cX4_beginBrews 135 = .ok (.iadd, 1) := by decide +kernel
theorem dX4_beginBrews_136 : decode cX4_beginBrews 136 = .ok (.putfield 155, 3) := by decide +kernel
theorem dX4_beginBrews_139 : decode cX4_beginBrews 139 = .ok (.aload_n 0, 1) := by decide +kernel
theorem dX4_beginBrews_140 : decode cX4_beginBrews 140 = .ok (.aload 5, 2) := by decide +kernel
theorem dX4_beginBrews_142 : decode cX4_beginBrews 142 = .ok (.iconst 3, 1) := by decide +kernel
theorem dX4_beginBrews_143 : decode cX4_beginBrews 143 = .ok (.invokevirtual 105, 3) := by decide +kernel
theorem dX4_beginBrews_146 : decode cX4_beginBrews 146 = .ok (.aload 5, 2) := by decide +kernel
theorem dX4_beginBrews_148 : decode cX4_beginBrews 148 = .ok (.aload 4, 2) := by decide +kernel
theorem dX4_beginBrews_150 : decode cX4_beginBrews 150 = .ok (.putfield 137, 3) := by decide +kernel
theorem dX4_beginBrews_153 : decode cX4_beginBrews 153 = .ok (.iinc 3 1, 3) := by decide +kernel
theorem dX4_beginBrews_156 : decode cX4_beginBrews 156 = .ok (.goto (-135), 3) := by decide +kernel
theorem dX4_beginBrews_159 : decode cX4_beginBrews 159 = .ok (.return_, 1) := by decide +kernel
set_option maxRecDepth 20000 in
theorem ggX4_beginGrind_X4_isPowerFor : GoodIn wsX4_beginGrind wsX4_isPowerFor := goodIn_r _ [13, 14, 15, 16, 17, 12, 18, 1, 19, 3, 20, 34, 35, 36, 37, 38, 39, 40, 41, 42, 43, 44, 45, 46, 47, 48, 49, 50, 68, 69, 70, 71, 72, 73] (by decide +kernel) (by decide +kernel)
set_option maxRecDepth 20000 in
theorem gX4_beginGrind_X4_isPowerFor : GoodIn wsX4_beginGrind (wsV RX4 230 RX4 yX4_isPowerFor wsX4_isPowerFor) := goodIn_app (goodIn_of _ (by decide +kernel)) ggX4_beginGrind_X4_isPowerFor
set_option maxRecDepth 20000 in
theorem ggX4_beginGrind_X4_nextToGrind : GoodIn wsX4_beginGrind wsX4_nextToGrind := goodIn_r _ [24, 2, 25, 26, 27, 28, 34, 35, 36, 37, 38, 39, 40, 41, 42, 43, 44, 45, 46, 47, 48, 49, 50, 51, 52, 53, 54, 55, 56, 57, 58, 59, 60, 61] (by decide +kernel) (by decide +kernel)
set_option maxRecDepth 20000 in
theorem gX4_beginGrind_X4_nextToGrind : GoodIn wsX4_beginGrind (wsV RX4 258 RX4 yX4_nextToGrind wsX4_nextToGrind) := goodIn_app (goodIn_of _ (by decide +kernel)) ggX4_beginGrind_X4_nextToGrind
set_option maxRecDepth 20000 in
theorem ggX4_beginGrind_X4_turn : GoodIn wsX4_beginGrind wsX4_turn := goodIn_r _ [32, 2, 27, 33, 34, 35, 36, 37, 38, 39, 40, 41, 42, 43, 44, 45, 46, 47, 48, 49, 50, 51, 52, 53, 54, 55, 56, 57, 58, 59, 60, 61] (by decide +kernel) (by decide +kernel)
set_option maxRecDepth 20000 in
theorem gX4_beginGrind_X4_turn : GoodIn wsX4_beginGrind (wsV RX4 105 RX4 yX4_turn wsX4_turn) := goodIn_app (goodIn_of _ (by decide +kernel)) ggX4_beginGrind_X4_turn
theorem dX4_beginGrind_0 : decode cX4_beginGrind 0 = .ok (.aload_n 0, 1) := by decide +kernel
theorem dX4_beginGrind_1 : decode cX4_beginGrind 1 = .ok (.getfield 35, 3) := by decide +kernel
theorem dX4_beginGrind_4 : decode cX4_beginGrind 4 = .ok (.ifnonnull 25, 3) := by decide +kernel
theorem dX4_beginGrind_7 : decode cX4_beginGrind 7 = .ok (.aload_n 0, 1) := by decide +kernel
theorem dX4_beginGrind_8 : decode cX4_beginGrind 8 = .ok (.getfield 28, 3) := by decide +kernel
theorem dX4_beginGrind_11 : decode cX4_beginGrind 11 = .ok (.iconst 2, 1) := by decide +kernel
theorem dX4_beginGrind_12 : decode cX4_beginGrind 12 = .ok (.iaload, 1) := by decide +kernel
theorem dX4_beginGrind_13 : decode cX4_beginGrind 13 = .ok (.aload_n 0, 1) := by decide +kernel
theorem dX4_beginGrind_14 : decode cX4_beginGrind 14 = .ok (.getfield 66, 3) := by decide +kernel
theorem dX4_beginGrind_17 : decode cX4_beginGrind 17 = .ok (.arraylength, 1) := by decide +kernel
theorem dX4_beginGrind_18 : decode cX4_beginGrind 18 = .ok (.if_icmp .ge 11, 3) := by decide +kernel
theorem dX4_beginGrind_21 : decode cX4_beginGrind 21 = .ok (.aload_n 0, 1) := by decide +kernel
theorem dX4_beginGrind_22 : decode cX4_beginGrind 22 = .ok (.iconst 4, 1) := by decide +kernel
theorem dX4_beginGrind_23 : decode cX4_beginGrind 23 = .ok (.invokevirtual 230, 3) := by decide +kernel
theorem dX4_beginGrind_26 : decode cX4_beginGrind 26 = .ok (.ifCond .ne 4, 3) := by decide +kernel
theorem dX4_beginGrind_29 : decode cX4_beginGrind 29 = .ok (.return_, 1) := by decide +kernel
theorem dX4_beginGrind_30 : decode cX4_beginGrind 30 = .ok (.aload_n 0, 1) := by decide +kernel
theorem dX4_beginGrind_31 : decode cX4_beginGrind 31 = .ok (.invokevirtual 258, 3) := by decide +kernel
theorem dX4_beginGrind_34 : decode cX4_beginGrind 34 = .ok (.astore_n 1, 1) := by decide +kernel
theorem dX4_beginGrind_35 : decode cX4_beginGrind 35 = .ok (.aload_n 1, 1) := by decide +kernel
theorem dX4_beginGrind_36 : decode cX4_beginGrind 36 = .ok (.ifnull 19, 3) := by decide +kernel
theorem dX4_beginGrind_39 : decode cX4_beginGrind 39 = .ok (.aload_n 1, 1) := by decide +kernel
theorem dX4_beginGrind_40 : decode cX4_beginGrind 40 = .ok (.getfield 98, 3) := by decide +kernel
theorem dX4_beginGrind_43 : decode cX4_beginGrind 43 = .ok (.getfield 102, 3) := by decide +kernel
theorem dX4_beginGrind_46 : decode cX4_beginGrind 46 = .ok (.aload_n 0, 1) := by decide +kernel
theorem dX4_beginGrind_47 : decode cX4_beginGrind 47 = .ok (.getfield 32, 3) := by decide +kernel
theorem dX4_beginGrind_50 : decode cX4_beginGrind 50 = .ok (.iconst 0, 1) := by decide +kernel
theorem dX4_beginGrind_51 : decode cX4_beginGrind 51 = .ok (.iaload, 1) := by decide +kernel
theorem dX4_beginGrind_52 : decode cX4_beginGrind 52 = .ok (.if_icmp .le 4, 3) := by decide +kernel
theorem dX4_beginGrind_55 : decode cX4_beginGrind 55 = .ok (.return_, 1) := by decide +kernel
theorem dX4_beginGrind_56 : decode cX4_beginGrind 56 = .ok (.aload_n 0, 1) := by decide +kernel
theorem dX4_beginGrind_57 : decode cX4_beginGrind 57 = .ok (.getfield 32, 3) := by decide +kernel
theorem dX4_beginGrind_60 : decode cX4_beginGrind 60 = .ok (.iconst 0, 1) := by decide +kernel
theorem dX4_beginGrind_61 : decode cX4_beginGrind 61 = .ok (.dup2, 1) := by decide +kernel
theorem dX4_beginGrind_62 : decode cX4_beginGrind 62 = .ok (.iaload, 1) := by decide +kernel
theorem dX4_beginGrind_63 : decode cX4_beginGrind 63 = .ok (.aload_n 1, 1) := by decide +kernel
theorem dX4_beginGrind_64 : decode cX4_beginGrind 64 = .ok (.getfield 98, 3) := by decide +kernel
theorem dX4_beginGrind_67 : decode cX4_beginGrind 67 = .ok (.getfield 102, 3) := by decide +kernel
theorem dX4_beginGrind_70 : decode cX4_beginGrind 70 = .ok (.isub, 1) := by decide +kernel
theorem dX4_beginGrind_71 : decode cX4_beginGrind 71 = .ok (.iastore, 1) := by decide +kernel
theorem dX4_beginGrind_72 : decode cX4_beginGrind 72 = .ok (.aload_n 1, 1) := by decide +kernel
theorem dX4_beginGrind_73 : decode cX4_beginGrind 73 = .ok (.aload_n 1, 1) := by decide +kernel
theorem dX4_beginGrind_74 : decode cX4_beginGrind 74 = .ok (.getfield 98, 3) := by decide +kernel
theorem dX4_beginGrind_77 : decode cX4_beginGrind 77 = .ok (.getfield 262, 3) := by decide +kernel
theorem dX4_beginGrind_80 : decode cX4_beginGrind 80 = .ok (.putfield 217, 3) := by decide +kernel
theorem dX4_beginGrind_83 : decode cX4_beginGrind 83 = .ok (.aload_n 0, 1) := by decide +kernel
theorem dX4_beginGrind_84 : decode cX4_beginGrind 84 = .ok (.aload_n 1, 1) := by decide +kernel
theorem dX4_beginGrind_85 : decode cX4_beginGrind 85 = .ok (.putfield 35, 3) := by decide +kernel
theorem dX4_beginGrind_88 : decode cX4_beginGrind 88 = .ok (.aload_n 0, 1) := by decide +kernel
theorem dX4_beginGrind_89 : decode cX4_beginGrind 89 = .ok (.aload_n 1, 1) := by decide +kernel
theorem dX4_beginGrind_90 : decode cX4_beginGrind 90 = .ok (.iconst 1, 1) := by decide +kernel
theorem dX4_beginGrind_91 : decode cX4_beginGrind 91 = .ok (.invokevirtual 105, 3) := by decide +kernel
theorem dX4_beginGrind_94 : decode cX4_beginGrind 94 = .ok (.return_, 1) := by decide +kernel
set_option maxRecDepth 20000 in
theorem ggX4_changeHeat_X4_isPowerFor : GoodIn wsX4_changeHeat wsX4_isPowerFor := goodIn_r _ [9, 10, 11, 12, 13, 8, 14, 15, 4, 2, 3, 16, 17, 18, 19, 20, 21, 22, 23, 24, 25, 26, 27, 28, 29, 30, 31, 32, 33, 34, 35, 36, 37, 38] (by decide +kernel) (by decide +kernel)
set_option maxRecDepth 20000 in
theorem gX4_changeHeat_X4_isPowerFor : GoodIn wsX4_changeHeat (wsV RX4 230 RX4 yX4_isPowerFor wsX4_isPowerFor) := goodIn_app (goodIn_of _ (by decide +kernel)) ggX4_changeHeat_X4_isPowerFor
theorem dX4_changeHeat_0 : decode cX4_changeHeat 0 = .ok (.aload_n 0, 1) := by decide +kernel
theorem dX4_changeHeat_1 : decode cX4_changeHeat 1 = .ok (.dup, 1) := by decide +kernel
theorem dX4_changeHeat_2 : decode cX4_changeHeat 2 = .ok (.getfield 42, 3) := by decide +kernel
theorem dX4_changeHeat_5 : decode cX4_changeHeat 5 = .ok (.iconst 1, 1) := by decide +kernel
theorem dX4_changeHeat_6 : decode cX4_changeHeat 6 = .ok (.isub, 1) := by decide +kernel
theorem dX4_changeHeat_7 : decode cX4_changeHeat 7 = .ok (.putfield 42, 3) := by decide +kernel
theorem dX4_changeHeat_10 : decode cX4_changeHeat 10 = .ok (.aload_n 0, 1) := by decide +kernel
theorem dX4_changeHeat_11 : decode cX4_changeHeat 11 = .ok (.getfield 66, 3) := by decide +kernel
theorem dX4_changeHeat_14 : decode cX4_changeHeat 14 = .ok (.astore_n 1, 1) := by decide +kernel
theorem dX4_changeHeat_15 : decode cX4_changeHeat 15 = .ok (.aload_n 1, 1) := by decide +kernel
theorem dX4_changeHeat_16 : decode cX4_changeHeat 16 = .ok (.arraylength, 1) := by decide +kernel
theorem dX4_changeHeat_17 : decode cX4_changeHeat 17 = .ok (.istore_n 2, 1) := by decide +kernel
theorem dX4_changeHeat_18 : decode cX4_changeHeat 18 = .ok (.iconst 0, 1) := by decide +kernel
theorem dX4_changeHeat_19 : decode cX4_changeHeat 19 = .ok (.istore_n 3, 1) := by decide +kernel
theorem dX4_changeHeat_20 : decode cX4_changeHeat 20 = .ok (.iload_n 3, 1) := by decide +kernel
theorem dX4_changeHeat_21 : decode cX4_changeHeat 21 = .ok (.iload_n 2, 1) := by decide +kernel
theorem dX4_changeHeat_22 : decode cX4_changeHeat 22 = .ok (.if_icmp .ge 33, 3) := by decide +kernel
theorem dX4_changeHeat_25 : decode cX4_changeHeat 25 = .ok (.aload_n 1, 1) := by decide +kernel
theorem dX4_changeHeat_26 : decode cX4_changeHeat 26 = .ok (.iload_n 3, 1) := by decide +kernel
theorem dX4_changeHeat_27 : decode cX4_changeHeat 27 = .ok (.aaload, 1) := by decide +kernel
theorem dX4_changeHeat_28 : decode cX4_changeHeat 28 = .ok (.astore 4, 2) := by decide +kernel
theorem dX4_changeHeat_30 : decode cX4_changeHeat 30 = .ok (.aload 4, 2) := by decide +kernel
theorem dX4_changeHeat_32 : decode cX4_changeHeat 32 = .ok (.getfield 151, 3) := by decide +kernel
theorem dX4_changeHeat_35 : decode cX4_changeHeat 35 = .ok (.iconst 1, 1) := by decide +kernel
theorem dX4_changeHeat_36 : decode cX4_changeHeat 36 = .ok (.if_icmp .ne 13, 3) := by decide +kernel
theorem dX4_changeHeat_39 : decode cX4_changeHeat 39 = .ok (.aload_n 0, 1) := by decide +kernel
theorem dX4_changeHeat_40 : decode cX4_changeHeat 40 = .ok (.dup, 1) := by decide +kernel
theorem dX4_changeHeat_41 : decode cX4_changeHeat 41 = .ok (.getfield 42, 3) := by decide +kernel
theorem dX4_changeHeat_44 : decode cX4_changeHeat 44 = .ok (.iconst 5, 1) := by decide +kernel
theorem dX4_changeHeat_45 : decode cX4_changeHeat 45 = .ok (.isub, 1) := by decide +kernel
theorem dX4_changeHeat_46 : decode cX4_changeHeat 46 = .ok (.putfield 42, 3) := by decide +kernel
theorem dX4_changeHeat_49 : decode cX4_changeHeat 49 = .ok (.iinc 3 1, 3) := by decide +kernel
theorem dX4_changeHeat_52 : decode cX4_changeHeat 52 = .ok (.goto (-32), 3) := by decide +kernel
theorem dX4_changeHeat_55 : decode cX4_changeHeat 55 = .ok (.aload_n 0, 1) := by decide +kernel
theorem dX4_changeHeat_56 : decode cX4_changeHeat 56 = .ok (.getfield 39, 3) := by decide +kernel
theorem dX4_changeHeat_59 : decode cX4_changeHeat 59 = .ok (.ifnull 14, 3) := by decide +kernel
theorem dX4_changeHeat_62 : decode cX4_changeHeat 62 = .ok (.aload_n 0, 1) := by decide +kernel
theorem dX4_changeHeat_63 : decode cX4_changeHeat 63 = .ok (.dup, 1) := by decide +kernel
theorem dX4_changeHeat_64 : decode cX4_changeHeat 64 = .ok (.getfield 42, 3) := by decide +kernel
theorem dX4_changeHeat_67 : decode cX4_changeHeat 67 = .ok (.bipush 8, 2) := by decide +kernel
theorem dX4_changeHeat_69 : decode cX4_changeHeat 69 = .ok (.isub, 1) := by decide +kernel
theorem dX4_changeHeat_70 : decode cX4_changeHeat 70 = .ok (.putfield 42, 3) := by decide +kernel
theorem dX4_changeHeat_73 : decode cX4_changeHeat 73 = .ok (.aload_n 0, 1) := by decide +kernel
theorem dX4_changeHeat_74 : decode cX4_changeHeat 74 = .ok (.getfield 42, 3) := by decide +kernel
theorem dX4_changeHeat_77 : decode cX4_changeHeat 77 = .ok (.sipush 950, 3) := by decide +kernel
theorem dX4_changeHeat_80 : decode cX4_changeHeat 80 = .ok (.if_icmp .ge 23, 3) := by decide +kernel
theorem dX4_changeHeat_83 : decode cX4_changeHeat 83 = .ok (.aload_n 0, 1) := by decide +kernel
theorem dX4_changeHeat_84 : decode cX4_changeHeat 84 = .ok (.bipush 6, 2) := by decide +kernel
theorem dX4_changeHeat_86 : decode cX4_changeHeat 86 = .ok (.invokevirtual 230, 3) := by decide +kernel
theorem dX4_changeHeat_89 : decode cX4_changeHeat 89 = .ok (.ifCond .eq 14, 3) := by decide +kernel
theorem dX4_changeHeat_92 : decode cX4_changeHeat 92 = .ok (.aload_n 0, 1) := by decide +kernel
theorem dX4_changeHeat_93 : decode cX4_changeHeat 93 = .ok (.dup, 1) := by decide +kernel
theorem dX4_changeHeat_94 : decode cX4_changeHeat 94 = .ok (.getfield 42, 3) := by decide +kernel
theorem dX4_changeHeat_97 : decode cX4_changeHeat 97 = .ok (.bipush 14, 2) := by decide +kernel
theorem dX4_changeHeat_99 : decode cX4_changeHeat 99 = .ok (.iadd, 1) := by decide +kernel
theorem dX4_changeHeat_100 : decode cX4_changeHeat 100 = .ok (.putfield 42, 3) := by decide +kernel
theorem dX4_changeHeat_103 : decode cX4_changeHeat 103 = .ok (.return_, 1) := by decide +kernel
theorem dX4_firstThat_0 : decode cX4_firstThat 0 = .ok (.aload_n 0, 1) := by decide +kernel
theorem dX4_firstThat_1 : decode cX4_firstThat 1 = .ok (.getfield 28, 3) := by decide +kernel
theorem dX4_firstThat_4 : decode cX4_firstThat 4 = .ok (.iload_n 1, 1) := by decide +kernel
theorem dX4_firstThat_5 : decode cX4_firstThat 5 = .ok (.iaload, 1) := by decide +kernel
theorem dX4_firstThat_6 : decode cX4_firstThat 6 = .ok (.ifCond .ne 5, 3) := by decide +kernel
theorem dX4_firstThat_9 : decode cX4_firstThat 9 = .ok (.aconst_null, 1) := by decide +kernel
theorem dX4_firstThat_10 : decode cX4_firstThat 10 = .ok (.areturn, 1) := by decide +kernel
theorem dX4_firstThat_11 : decode cX4_firstThat 11 = .ok (.iconst 0, 1) := by decide +kernel
theorem dX4_firstThat_12 : decode cX4_firstThat 12 = .ok (.istore_n 2, 1) := by decide +kernel
theorem dX4_firstThat_13 : decode cX4_firstThat 13 = .ok (.iload_n 2, 1) := by decide +kernel
theorem dX4_firstThat_14 : decode cX4_firstThat 14 = .ok (.aload_n 0, 1) := by decide +kernel
theorem dX4_firstThat_15 : decode cX4_firstThat 15 = .ok (.getfield 25, 3) := by decide +kernel
theorem dX4_firstThat_18 : decode cX4_firstThat 18 = .ok (.if_icmp .ge 29, 3) := by decide +kernel
theorem dX4_firstThat_21 : decode cX4_firstThat 21 = .ok (.aload_n 0, 1) := by decide +kernel
theorem dX4_firstThat_22 : decode cX4_firstThat 22 = .ok (.getfield 21, 3) := by decide +kernel
theorem dX4_firstThat_25 : decode cX4_firstThat 25 = .ok (.iload_n 2, 1) := by decide +kernel
theorem dX4_firstThat_26 : decode cX4_firstThat 26 = .ok (.aaload, 1) := by decide +kernel
theorem dX4_firstThat_27 : decode cX4_firstThat 27 = .ok (.getfield 95, 3) := by decide +kernel
theorem dX4_firstThat_30 : decode cX4_firstThat 30 = .ok (.iload_n 1, 1) := by decide +kernel
theorem dX4_firstThat_31 : decode cX4_firstThat 31 = .ok (.if_icmp .ne 10, 3) := by decide +kernel
theorem dX4_firstThat_34 : decode cX4_firstThat 34 = .ok (.aload_n 0, 1) := by decide +kernel
theorem dX4_firstThat_35 : decode cX4_firstThat 35 = .ok (.getfield 21, 3) := by decide +kernel
theorem dX4_firstThat_38 : decode cX4_firstThat 38 = .ok (.iload_n 2, 1) := by decide +kernel
theorem dX4_firstThat_39 : decode cX4_firstThat 39 = .ok (.aaload, 1) := by decide +kernel
theorem dX4_firstThat_40 : decode cX4_firstThat 40 = .ok (.areturn, 1) := by decide +kernel
theorem dX4_firstThat_41 : decode cX4_firstThat 41 = .ok (.iinc 2 1, 3) := by decide +kernel
theorem dX4_firstThat_44 : decode cX4_firstThat 44 = .ok (.goto (-31), 3) := by decide +kernel
theorem dX4_firstThat_47 : decode cX4_firstThat 47 = .ok (.aconst_null, 1) := by decide +kernel
theorem dX4_firstThat_48 : decode cX4_firstThat 48 = .ok (.areturn, 1) := by decide +kernel
theorem dX4_nextToGrind_0 : decode cX4_nextToGrind 0 = .ok (.aload_n 0, 1) := by decide +kernel
theorem dX4_nextToGrind_1 : decode cX4_nextToGrind 1 = .ok (.getfield 28, 3) := by decide +kernel
theorem dX4_nextToGrind_4 : decode cX4_nextToGrind 4 = .ok (.iconst 0, 1) := by decide +kernel
theorem dX4_nextToGrind_5 : decode cX4_nextToGrind 5 = .ok (.iaload, 1) := by decide +kernel
theorem dX4_nextToGrind_6 : decode cX4_nextToGrind 6 = .ok (.ifCond .ne 5, 3) := by decide +kernel
theorem dX4_nextToGrind_9 : decode cX4_nextToGrind 9 = .ok (.aconst_null, 1) := by decide +kernel
theorem dX4_nextToGrind_10 : decode cX4_nextToGrind 10 = .ok (.areturn, 1) := by decide +kernel
theorem dX4_nextToGrind_11 : decode cX4_nextToGrind 11 = .ok (.aconst_null, 1) := by decide +kernel
theorem dX4_nextToGrind_12 : decode cX4_nextToGrind 12 = .ok (.astore_n 1, 1) := by decide +kernel
theorem dX4_nextToGrind_13 : decode cX4_nextToGrind 13 = .ok (.iconst 0, 1) := by decide +kernel
theorem dX4_nextToGrind_14 : decode cX4_nextToGrind 14 = .ok (.istore_n 2, 1) := by decide +kernel
theorem dX4_nextToGrind_15 : decode cX4_nextToGrind 15 = .ok (.iload_n 2, 1) := by decide +kernel
theorem dX4_nextToGrind_16 : decode cX4_nextToGrind 16 = .ok (.aload_n 0, 1) := by decide +kernel
theorem dX4_nextToGrind_17 : decode cX4_nextToGrind 17 = .ok (.getfield 25, 3) := by decide +kernel
theorem dX4_nextToGrind_20 : decode cX4_nextToGrind 20 = .ok (.if_icmp .ge 40, 3) := by decide +kernel
theorem dX4_nextToGrind_23 : decode cX4_nextToGrind 23 = .ok (.aload_n 0, 1) := by decide +kernel
theorem dX4_nextToGrind_24 : decode cX4_nextToGrind 24 = .ok (.getfield 21, 3) := by decide +kernel
theorem dX4_nextToGrind_27 : decode cX4_nextToGrind 27 = .ok (.iload_n 2, 1) := by decide +kernel
theorem dX4_nextToGrind_28 : decode cX4_nextToGrind 28 = .ok (.aaload, 1) := by decide +kernel
theorem dX4_nextToGrind_29 : decode cX4_nextToGrind 29 = .ok (.astore_n 3, 1) := by decide +kernel
theorem dX4_nextToGrind_30 : decode cX4_nextToGrind 30 = .ok (.aload_n 3, 1) := by decide +kernel
theorem dX4_nextToGrind_31 : decode cX4_nextToGrind 31 = .ok (.getfield 95, 3) := by decide +kernel
theorem dX4_nextToGrind_34 : decode cX4_nextToGrind 34 = .ok (.ifCond .ne 20, 3) := by decide +kernel
theorem dX4_nextToGrind_37 : decode cX4_nextToGrind 37 = .ok (.aload_n 1, 1) := by decide +kernel
theorem dX4_nextToGrind_38 : decode cX4_nextToGrind 38 = .ok (.ifnull 14, 3) := by decide +kernel
theorem dX4_nextToGrind_41 : decode cX4_nextToGrind 41 = .ok (.aload_n 3, 1) := by decide +kernel
theorem dX4_nextToGrind_42 : decode cX4_nextToGrind 42 = .ok (.getfield 128, 3) := by decide +kernel
theorem dX4_nextToGrind_45 : decode cX4_nextToGrind 45 = .ok (.aload_n 1, 1) := by decide +kernel
theorem dX4_nextToGrind_46 : decode cX4_nextToGrind 46 = .ok (.getfield 128, 3) := by decide +kernel
theorem dX4_nextToGrind_49 : decode cX4_nextToGrind 49 = .ok (.if_icmp .ge 5, 3) := by decide +kernel
theorem dX4_nextToGrind_52 : decode cX4_nextToGrind 52 = .ok (.aload_n 3, 1) := by decide +kernel
theorem dX4_nextToGrind_53 : decode cX4_nextToGrind 53 = .ok (.astore_n 1, 1) := by decide +kernel
theorem dX4_nextToGrind_54 : decode cX4_nextToGrind 54 = .ok (.iinc 2 1, 3) := by decide +kernel
theorem dX4_nextToGrind_57 : decode cX4_nextToGrind 57 = .ok (.goto (-42), 3) := by decide +kernel
theorem dX4_nextToGrind_60 : decode cX4_nextToGrind 60 = .ok (.aload_n 1, 1) := by decide +kernel
theorem dX4_nextToGrind_61 : decode cX4_nextToGrind 61 = .ok (.areturn, 1) := by decide +kernel
theorem dX4_powerThatGoes_0 : decode cX4_powerThatGoes 0 = .ok (.iconst 0, 1) := by decide +kernel
theorem dX4_powerThatGoes_1 : decode cX4_powerThatGoes 1 = .ok (.istore_n 1, 1) := by decide +kernel
theorem dX4_powerThatGoes_2 : decode cX4_powerThatGoes 2 = .ok (.aload_n 0, 1) := by decide +kernel
theorem dX4_powerThatGoes_3 : decode cX4_powerThatGoes 3 = .ok (.getfield 35, 3) := by decide +kernel
theorem dX4_powerThatGoes_6 : decode cX4_powerThatGoes 6 = .ok (.ifnull 6, 3) := by decide +kernel
theorem dX4_powerThatGoes_9 : decode cX4_powerThatGoes 9 = .ok (.iinc 1 4, 3) := by decide +kernel
theorem dX4_powerThatGoes_12 : decode cX4_powerThatGoes 12 = .ok (.aload_n 0, 1) := by decide +kernel
theorem dX4_powerThatGoes_13 : decode cX4_powerThatGoes 13 = .ok (.getfield 39, 3) := by decide +kernel
theorem dX4_powerThatGoes_16 : decode cX4_powerThatGoes 16 = .ok (.ifnull 6, 3) := by decide +kernel
theorem dX4_powerThatGoes_19 : decode cX4_powerThatGoes 19 = .ok (.iinc 1 3, 3) := by decide +kernel
theorem dX4_powerThatGoes_22 : decode cX4_powerThatGoes 22 = .ok (.aload_n 0, 1) := by decide +kernel
theorem dX4_powerThatGoes_23 : decode cX4_powerThatGoes 23 = .ok (.getfield 66, 3) := by decide +kernel
theorem dX4_powerThatGoes_26 : decode cX4_powerThatGoes 26 = .ok (.astore_n 2, 1) := by decide +kernel
theorem dX4_powerThatGoes_27 : decode cX4_powerThatGoes 27 = .ok (.aload_n 2, 1) := by decide +kernel
theorem dX4_powerThatGoes_28 : decode cX4_powerThatGoes 28 = .ok (.arraylength, 1) := by decide +kernel
theorem dX4_powerThatGoes_29 : decode cX4_powerThatGoes 29 = .ok (.istore_n 3, 1) := by decide +kernel
theorem dX4_powerThatGoes_30 : decode cX4_powerThatGoes 30 = .ok (.iconst 0, 1) := by decide +kernel
theorem dX4_powerThatGoes_31 : decode cX4_powerThatGoes 31 = .ok (.istore 4, 2) := by decide +kernel
theorem dX4_powerThatGoes_33 : decode cX4_powerThatGoes 33 = .ok (.iload 4, 2) := by decide +kernel
theorem dX4_powerThatGoes_35 : decode cX4_powerThatGoes 35 = .ok (.iload_n 3, 1) := by decide +kernel
theorem dX4_powerThatGoes_36 : decode cX4_powerThatGoes 36 = .ok (.if_icmp .ge 26, 3) := by decide +kernel
theorem dX4_powerThatGoes_39 : decode cX4_powerThatGoes 39 = .ok (.aload_n 2, 1) := by decide +kernel
theorem dX4_powerThatGoes_40 : decode cX4_powerThatGoes 40 = .ok (.iload 4, 2) := by decide +kernel
theorem dX4_powerThatGoes_42 : decode cX4_powerThatGoes 42 = .ok (.aaload, 1) := by decide +kernel
theorem dX4_powerThatGoes_43 : decode cX4_powerThatGoes 43 = .ok (.astore 5, 2) := by decide +kernel
theorem dX4_powerThatGoes_45 : decode cX4_powerThatGoes 45 = .ok (.aload 5, 2) := by decide +kernel
theorem dX4_powerThatGoes_47 : decode cX4_powerThatGoes 47 = .ok (.getfield 151, 3) := by decide +kernel
theorem dX4_powerThatGoes_50 : decode cX4_powerThatGoes 50 = .ok (.ifCond .eq 6, 3) := by decide +kernel
theorem dX4_powerThatGoes_53 : decode cX4_powerThatGoes 53 = .ok (.iinc 1 2, 3) := by decide +kernel
theorem dX4_powerThatGoes_56 : decode cX4_powerThatGoes 56 = .ok (.iinc 4 1, 3) := by decide +kernel
theorem dX4_powerThatGoes_59 : decode cX4_powerThatGoes 59 = .ok (.goto (-26), 3) := by decide +kernel
theorem dX4_powerThatGoes_62 : decode cX4_powerThatGoes 62 = .ok (.iload_n 1, 1) := by decide +kernel
theorem dX4_powerThatGoes_63 : decode cX4_powerThatGoes 63 = .ok (.ireturn, 1) := by decide +kernel
set_option maxRecDepth 20000 in
theorem ggX4_isPowerFor_X4_powerThatGoes : GoodIn wsX4_isPowerFor wsX4_powerThatGoes := goodIn_r _ [6, 7, 8, 9, 10, 11, 12, 13, 14, 15, 16, 17, 18, 19, 20, 21, 22, 23, 24, 25, 26, 27, 28, 29, 30, 31, 32, 33] (by decide +kernel) (by decide +kernel)
set_option maxRecDepth 20000 in
theorem gX4_isPowerFor_X4_powerThatGoes : GoodIn wsX4_isPowerFor (wsV RX4 169 RX4 yX4_powerThatGoes wsX4_powerThatGoes) := goodIn_app (goodIn_of _ (by decide +kernel)) ggX4_isPowerFor_X4_powerThatGoes
theorem dX4_isPowerFor_0 : decode cX4_isPowerFor 0 = .ok (.aload_n 0, 1) := by decide +kernel
theorem dX4_isPowerFor_1 : decode cX4_isPowerFor 1 = .ok (.invokevirtual 169, 3) := by decide +kernel
theorem dX4_isPowerFor_4 : decode cX4_isPowerFor 4 = .ok (.iload_n 1, 1) := by decide +kernel
theorem dX4_isPowerFor_5 : decode cX4_isPowerFor 5 = .ok (.iadd, 1) := by decide +kernel
theorem dX4_isPowerFor_6 : decode cX4_isPowerFor 6 = .ok (.aload_n 0, 1) := by decide +kernel
theorem dX4_isPowerFor_7 : decode cX4_isPowerFor 7 = .ok (.getfield 80, 3) := by decide +kernel
theorem dX4_isPowerFor_10 : decode cX4_isPowerFor 10 = .ok (.if_icmp .gt 7, 3) := by decide +kernel
theorem dX4_isPowerFor_13 : decode cX4_isPowerFor 13 = .ok (.iconst 1, 1) := by decide +kernel
theorem dX4_isPowerFor_14 : decode cX4_isPowerFor 14 = .ok (.goto 4, 3) := by decide +kernel
theorem dX4_isPowerFor_17 : decode cX4_isPowerFor 17 = .ok (.iconst 0, 1) := by decide +kernel
theorem dX4_isPowerFor_18 : decode cX4_isPowerFor 18 = .ok (.ireturn, 1) := by decide +kernel
theorem dX4_turn_0 : decode cX4_turn 0 = .ok (.aload_n 0, 1) := by decide +kernel
theorem dX4_turn_1 : decode cX4_turn 1 = .ok (.getfield 28, 3) := by decide +kernel
theorem dX4_turn_4 : decode cX4_turn 4 = .ok (.aload_n 1, 1) := by decide +kernel
theorem dX4_turn_5 : decode cX4_turn 5 = .ok (.getfield 95, 3) := by decide +kernel
theorem dX4_turn_8 : decode cX4_turn 8 = .ok (.dup2, 1) := by decide +kernel
theorem dX4_turn_9 : decode cX4_turn 9 = .ok (.iaload, 1) := by decide +kernel
theorem dX4_turn_10 : decode cX4_turn 10 = .ok (.iconst 1, 1) := by decide +kernel
theorem dX4_turn_11 : decode cX4_turn 11 = .ok (.isub, 1) := by decide +kernel
theorem dX4_turn_12 : decode cX4_turn 12 = .ok (.iastore, 1) := by decide +kernel
theorem dX4_turn_13 : decode cX4_turn 13 = .ok (.aload_n 1, 1) := by decide +kernel
theorem dX4_turn_14 : decode cX4_turn 14 = .ok (.iload_n 2, 1) := by decide +kernel
theorem dX4_turn_15 : decode cX4_turn 15 = .ok (.putfield 95, 3) := by decide +kernel
theorem dX4_turn_18 : decode cX4_turn 18 = .ok (.aload_n 1, 1) := by decide +kernel
theorem dX4_turn_19 : decode cX4_turn 19 = .ok (.aconst_null, 1) := by decide +kernel
theorem dX4_turn_20 : decode cX4_turn 20 = .ok (.putfield 137, 3) := by decide +kernel
theorem dX4_turn_23 : decode cX4_turn 23 = .ok (.aload_n 0, 1) := by decide +kernel
theorem dX4_turn_24 : decode cX4_turn 24 = .ok (.getfield 28, 3) := by decide +kernel
theorem dX4_turn_27 : decode cX4_turn 27 = .ok (.iload_n 2, 1) := by decide +kernel
theorem dX4_turn_28 : decode cX4_turn 28 = .ok (.dup2, 1) := by decide +kernel
theorem dX4_turn_29 : decode cX4_turn 29 = .ok (.iaload, 1) := by decide +kernel
theorem dX4_turn_30 : decode cX4_turn 30 = .ok (.iconst 1, 1) := by decide +kernel
theorem dX4_turn_31 : decode cX4_turn 31 = .ok (.iadd, 1) := by decide +kernel
theorem dX4_turn_32 : decode cX4_turn 32 = .ok (.iastore, 1) := by decide +kernel
theorem dX4_turn_33 : decode cX4_turn 33 = .ok (.return_, 1) := by decide +kernel
set_option maxRecDepth 20000 in
theorem ggX4_finish_X4_turn : GoodIn wsX4_finish wsX4_turn := goodIn_r _ [13, 14, 15, 16, 17, 18, 19, 20, 21, 22, 23, 24, 25, 26, 27, 28, 29, 30, 31, 32, 33, 34, 35, 36, 37, 38, 39, 40, 41, 42, 43, 44] (by decide +kernel) (by decide +kernel)
set_option maxRecDepth 20000 in
theorem gX4_finish_X4_turn : GoodIn wsX4_finish (wsV RX4 105 RX4 yX4_turn wsX4_turn) := goodIn_app (goodIn_of _ (by decide +kernel)) ggX4_finish_X4_turn
theorem dX4_finish_0 : decode cX4_finish 0 = .ok (.aload_n 0, 1) := by decide +kernel
theorem dX4_finish_1 : decode cX4_finish 1 = .ok (.aload_n 1, 1) := by decide +kernel
theorem dX4_finish_2 : decode cX4_finish 2 = .ok (.bipush 6, 2) := by decide +kernel
theorem dX4_finish_4 : decode cX4_finish 4 = .ok (.invokevirtual 105, 3) := by decide +kernel
theorem dX4_finish_7 : decode cX4_finish 7 = .ok (.aload_n 1, 1) := by decide +kernel
theorem dX4_finish_8 : decode cX4_finish 8 = .ok (.aload_n 0, 1) := by decide +kernel
theorem dX4_finish_9 : decode cX4_finish 9 = .ok (.getfield 45, 3) := by decide +kernel
theorem dX4_finish_12 : decode cX4_finish 12 = .ok (.putfield 134, 3) := by decide +kernel
theorem dX4_finish_15 : decode cX4_finish 15 = .ok (.aload_n 0, 1) := by decide +kernel
theorem dX4_finish_16 : decode cX4_finish 16 = .ok (.aload_n 0, 1) := by decide +kernel
theorem dX4_finish_17 : decode cX4_finish 17 = .ok (.getfield 57, 3) := by decide +kernel
theorem dX4_finish_20 : decode cX4_finish 20 = .ok (.aload_n 0, 1) := by decide +kernel
theorem dX4_finish_21 : decode cX4_finish 21 = .ok (.getfield 45, 3) := by decide +kernel
theorem dX4_finish_24 : decode cX4_finish 24 = .ok (.aload_n 1, 1) := by decide +kernel
theorem dX4_finish_25 : decode cX4_finish 25 = .ok (.getfield 131, 3) := by decide +kernel
theorem dX4_finish_28 : decode cX4_finish 28 = .ok (.isub, 1) := by decide +kernel
theorem dX4_finish_29 : decode cX4_finish 29 = .ok (.invokestatic 179, 3) := by decide +kernel
theorem dX4_finish_32 : decode cX4_finish 32 = .ok (.putfield 57, 3) := by decide +kernel
theorem dX4_finish_35 : decode cX4_finish 35 = .ok (.return_, 1) := by decide +kernel
set_option maxRecDepth 20000 in
theorem ggX4_waitAgain_X4_turn : GoodIn wsX4_waitAgain wsX4_turn := goodIn_r _ [9, 10, 11, 12, 13, 14, 15, 16, 17, 18, 19, 20, 21, 22, 23, 24, 25, 26, 27, 28, 29, 30, 31, 32, 33, 34, 35, 36, 37, 38, 39, 40] (by decide +kernel) (by decide +kernel)
set_option maxRecDepth 20000 in
theorem gX4_waitAgain_X4_turn : GoodIn wsX4_waitAgain (wsV RX4 105 RX4 yX4_turn wsX4_turn) := goodIn_app (goodIn_of _ (by decide +kernel)) ggX4_waitAgain_X4_turn
theorem dX4_waitAgain_0 : decode cX4_waitAgain 0 = .ok (.aload_n 0, 1) := by decide +kernel
theorem dX4_waitAgain_1 : decode cX4_waitAgain 1 = .ok (.dup, 1) := by decide +kernel
theorem dX4_waitAgain_2 : decode cX4_waitAgain 2 = .ok (.getfield 51, 3) := by decide +kernel
theorem dX4_waitAgain_5 : decode cX4_waitAgain 5 = .ok (.aload_n 1, 1) := by decide +kernel
theorem dX4_waitAgain_6 : decode cX4_waitAgain 6 = .ok (.getfield 98, 3) := by decide +kernel
theorem dX4_waitAgain_9 : decode cX4_waitAgain 9 = .ok (.getfield 102, 3) := by decide +kernel
theorem dX4_waitAgain_12 : decode cX4_waitAgain 12 = .ok (.iadd, 1) := by decide +kernel
theorem dX4_waitAgain_13 : decode cX4_waitAgain 13 = .ok (.putfield 51, 3) := by decide +kernel
theorem dX4_waitAgain_16 : decode cX4_waitAgain 16 = .ok (.aload_n 1, 1) := by decide +kernel
theorem dX4_waitAgain_17 : decode cX4_waitAgain 17 = .ok (.dup, 1) := by decide +kernel
theorem dX4_waitAgain_18 : decode cX4_waitAgain 18 = .ok (.getfield 148, 3) := by decide +kernel
theorem dX4_waitAgain_21 : decode cX4_waitAgain 21 = .ok (.iconst 1, 1) := by decide +kernel
theorem dX4_waitAgain_22 : decode cX4_waitAgain 22 = .ok (.iadd, 1) := by decide +kernel
theorem dX4_waitAgain_23 : decode cX4_waitAgain 23 = .ok (.putfield 148, 3) := by decide +kernel
theorem dX4_waitAgain_26 : decode cX4_waitAgain 26 = .ok (.aload_n 0, 1) := by decide +kernel
theorem dX4_waitAgain_27 : decode cX4_waitAgain 27 = .ok (.aload_n 1, 1) := by decide +kernel
theorem dX4_waitAgain_28 : decode cX4_waitAgain 28 = .ok (.iconst 0, 1) := by decide +kernel
theorem dX4_waitAgain_29 : decode cX4_waitAgain 29 = .ok (.invokevirtual 105, 3) := by decide +kernel
theorem dX4_waitAgain_32 : decode cX4_waitAgain 32 = .ok (.return_, 1) := by decide +kernel
theorem dX4_ticksToGo_0 : decode cX4_ticksToGo 0 = .ok (.aload_n 1, 1) := by decide +kernel
theorem dX4_ticksToGo_1 : decode cX4_ticksToGo 1 = .ok (.getfield 137, 3) := by decide +kernel
theorem dX4_ticksToGo_4 : decode cX4_ticksToGo 4 = .ok (.ifnull 11, 3) := by decide +kernel
theorem dX4_ticksToGo_7 : decode cX4_ticksToGo 7 = .ok (.aload_n 1, 1) := by decide +kernel
theorem dX4_ticksToGo_8 : decode cX4_ticksToGo 8 = .ok (.getfield 137, 3) := by decide +kernel
theorem dX4_ticksToGo_11 : decode cX4_ticksToGo 11 = .ok (.getfield 152, 3) := by decide +kernel
theorem dX4_ticksToGo_14 : decode cX4_ticksToGo 14 = .ok (.ireturn, 1) := by decide +kernel
theorem dX4_ticksToGo_15 : decode cX4_ticksToGo 15 = .ok (.aload_n 1, 1) := by decide +kernel
theorem dX4_ticksToGo_16 : decode cX4_ticksToGo 16 = .ok (.getfield 95, 3) := by decide +kernel
theorem dX4_ticksToGo_19 : decode cX4_ticksToGo 19 = .ok (.iconst 1, 1) := by decide +kernel
theorem dX4_ticksToGo_20 : decode cX4_ticksToGo 20 = .ok (.if_icmp .eq 11, 3) := by decide +kernel
theorem dX4_ticksToGo_23 : decode cX4_ticksToGo 23 = .ok (.aload_n 1, 1) := by decide +kernel
theorem dX4_ticksToGo_24 : decode cX4_ticksToGo 24 = .ok (.getfield 95, 3) := by decide +kernel
theorem dX4_ticksToGo_27 : decode cX4_ticksToGo 27 = .ok (.iconst 5, 1) := by decide +kernel
theorem dX4_ticksToGo_28 : decode cX4_ticksToGo 28 = .ok (.if_icmp .ne 10, 3) := by decide +kernel
theorem dX4_ticksToGo_31 : decode cX4_ticksToGo 31 = .ok (.aload_n 1, 1) := by decide +kernel
theorem dX4_ticksToGo_32 : decode cX4_ticksToGo 32 = .ok (.getfield 217, 3) := by decide +kernel
theorem dX4_ticksToGo_35 : decode cX4_ticksToGo 35 = .ok (.goto 4, 3) := by decide +kernel
theorem dX4_ticksToGo_38 : decode cX4_ticksToGo 38 = .ok (.iconst (-1), 1) := by decide +kernel
theorem dX4_ticksToGo_39 : decode cX4_ticksToGo 39 = .ok (.ireturn, 1) := by decide +kernel
set_option maxRecDepth 20000 in
theorem ggX4_planWaiting_X2_clear : GoodIn wsX4_planWaiting wsX2_clear := goodIn_r _ [10, 11, 91, 92, 93, 94, 95, 96, 97] (by decide +kernel) (by decide +kernel)
set_option maxRecDepth 20000 in
theorem gX4_planWaiting_X2_clear : GoodIn wsX4_planWaiting (wsV RX4 265 RX2 yX2_clear wsX2_clear) := goodIn_app (goodIn_of _ (by decide +kernel)) ggX4_planWaiting_X2_clear
set_option maxRecDepth 20000 in
theorem ggX4_planWaiting_X2_add : GoodIn wsX4_planWaiting wsX2_add := goodIn_r _ [15, 11, 16, 91, 92, 93, 94, 95, 96, 97] (by decide +kernel) (by decide +kernel)
set_option maxRecDepth 20000 in
theorem gX4_planWaiting_X2_add : GoodIn wsX4_planWaiting (wsV RX4 268 RX2 yX2_add wsX2_add) := goodIn_app (goodIn_of _ (by decide +kernel)) ggX4_planWaiting_X2_add
set_option maxRecDepth 20000 in
theorem ggX4_planWaiting_X2_findBest : GoodIn wsX4_planWaiting wsX2_findBest := goodIn_r _ [20, 21, 22, 23, 24, 9, 25, 26, 11, 16, 27, 28, 29, 30, 31, 32, 33, 34, 35, 36, 37, 38, 39, 40, 41, 42, 43, 44, 45, 46, 47, 48, 49, 50, 51, 52, 53, 54, 55, 56, 57, 58, 59, 60, 61, 62, 91, 92, 93, 94, 95, 96, 97, 80, 81, 82, 83, 84, 85, 86, 87, 88, 89, 90, 98, 99, 100, 101, 102, 103] (by decide +kernel) (by decide +kernel)
set_option maxRecDepth 20000 in
theorem gX4_planWaiting_X2_findBest : GoodIn wsX4_planWaiting (wsV RX4 271 RX2 yX2_findBest wsX2_findBest) := goodIn_app (goodIn_of _ (by decide +kernel)) ggX4_planWaiting_X2_findBest
theorem dX4_planWaiting_0 : decode cX4_planWaiting 0 = .ok (.aload_n 0, 1) := by decide +kernel
theorem dX4_planWaiting_1 : decode cX4_planWaiting 1 = .ok (.getfield 28, 3) := by decide +kernel
theorem dX4_planWaiting_4 : decode cX4_planWaiting 4 = .ok (.iconst 0, 1) := by decide +kernel
theorem dX4_planWaiting_5 : decode cX4_planWaiting 5 = .ok (.iaload, 1) := by decide +kernel
theorem dX4_planWaiting_6 : decode cX4_planWaiting 6 = .ok (.iconst 1, 1) := by decide +kernel
theorem dX4_planWaiting_7 : decode cX4_planWaiting 7 = .ok (.if_icmp .lt 13, 3) := by decide +kernel
theorem dX4_planWaiting_10 : decode cX4_planWaiting 10 = .ok (.aload_n 0, 1) := by decide +kernel
theorem dX4_planWaiting_11 : decode cX4_planWaiting 11 = .ok (.getfield 28, 3) := by decide +kernel
theorem dX4_planWaiting_14 : decode cX4_planWaiting 14 = .ok (.iconst 0, 1) := by decide +kernel
theorem dX4_planWaiting_15 : decode cX4_planWaiting 15 = .ok (.iaload, 1) := by decide +kernel
theorem dX4_planWaiting_16 : decode cX4_planWaiting 16 = .ok (.iconst 5, 1) := by decide +kernel
theorem dX4_planWaiting_17 : decode cX4_planWaiting 17 = .ok (.if_icmp .le 5, 3) := by decide +kernel
theorem dX4_planWaiting_20 : decode cX4_planWaiting 20 = .ok (.iconst 0, 1) := by decide +kernel
theorem dX4_planWaiting_21 : decode cX4_planWaiting 21 = .ok (.ireturn, 1) := by decide +kernel
theorem dX4_planWaiting_22 : decode cX4_planWaiting 22 = .ok (.aload_n 0, 1) := by decide +kernel
theorem dX4_planWaiting_23 : decode cX4_planWaiting 23 = .ok (.getfield 76, 3) := by decide +kernel
theorem dX4_planWaiting_26 : decode cX4_planWaiting 26 = .ok (.invokevirtual 265, 3) := by decide +kernel
theorem dX4_planWaiting_29 : decode cX4_planWaiting 29 = .ok (.iconst 0, 1) := by decide +kernel
theorem dX4_planWaiting_30 : decode cX4_planWaiting 30 = .ok (.istore_n 1, 1) := by decide +kernel
theorem dX4_planWaiting_31 : decode cX4_planWaiting 31 = .ok (.iload_n 1, 1) := by decide +kernel
theorem dX4_planWaiting_32 : decode cX4_planWaiting 32 = .ok (.aload_n 0, 1) := by decide +kernel
theorem dX4_planWaiting_33 : decode cX4_planWaiting 33 = .ok (.getfield 25, 3) := by decide +kernel
theorem dX4_planWaiting_36 : decode cX4_planWaiting 36 = .ok (.if_icmp .ge 34, 3) := by decide +kernel
theorem dX4_planWaiting_39 : decode cX4_planWaiting 39 = .ok (.aload_n 0, 1) := by decide +kernel
theorem dX4_planWaiting_40 : decode cX4_planWaiting 40 = .ok (.getfield 21, 3) := by decide +kernel
theorem dX4_planWaiting_43 : decode cX4_planWaiting 43 = .ok (.iload_n 1, 1) := by decide +kernel
theorem dX4_planWaiting_44 : decode cX4_planWaiting 44 = .ok (.aaload, 1) := by decide +kernel
theorem dX4_planWaiting_45 : decode cX4_planWaiting 45 = .ok (.getfield 95, 3) := by decide +kernel
theorem dX4_planWaiting_48 : decode cX4_planWaiting 48 = .ok (.ifCond .ne 16, 3) := by decide +kernel
theorem dX4_planWaiting_51 : decode cX4_planWaiting 51 = .ok (.aload_n 0, 1) := by decide +kernel
theorem dX4_planWaiting_52 : decode cX4_planWaiting 52 = .ok (.getfield 76, 3) := by decide +kernel
theorem dX4_planWaiting_55 : decode cX4_planWaiting 55 = .ok (.aload_n 0, 1) := by decide +kernel
theorem dX4_planWaiting_56 : decode cX4_planWaiting 56 = .ok (.getfield 21, 3) := by decide +kernel
theorem dX4_planWaiting_59 : decode cX4_planWaiting 59 = .ok (.iload_n 1, 1) := by decide +kernel
theorem dX4_planWaiting_60 : decode cX4_planWaiting 60 = .ok (.aaload, 1) := by decide +kernel
theorem dX4_planWaiting_61 : decode cX4_planWaiting 61 = .ok (.invokevirtual 268, 3) := by decide +kernel
theorem dX4_planWaiting_64 : decode cX4_planWaiting 64 = .ok (.iinc 1 1, 3) := by decide +kernel
theorem dX4_planWaiting_67 : decode cX4_planWaiting 67 = .ok (.goto (-36), 3) := by decide +kernel
theorem dX4_planWaiting_70 : decode cX4_planWaiting 70 = .ok (.aload_n 0, 1) := by decide +kernel
theorem dX4_planWaiting_71 : decode cX4_planWaiting 71 = .ok (.getfield 76, 3) := by decide +kernel
theorem dX4_planWaiting_74 : decode cX4_planWaiting 74 = .ok (.invokevirtual 271, 3) := by decide +kernel
theorem dX4_planWaiting_77 : decode cX4_planWaiting 77 = .ok (.iconst 1, 1) := by decide +kernel
theorem dX4_planWaiting_78 : decode cX4_planWaiting 78 = .ok (.ireturn, 1) := by decide +kernel
