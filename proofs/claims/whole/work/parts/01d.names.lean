theorem dX5_init_0 : decode cX5_init 0 = .ok (.aload_n 0, 1) := by decide +kernel
theorem dX5_init_1 : decode cX5_init 1 = .ok (.invokespecial 1, 3) := by decide +kernel
theorem dX5_init_4 : decode cX5_init 4 = .ok (.aload_n 0, 1) := by decide +kernel
theorem dX5_init_5 : decode cX5_init 5 = .ok (.sipush 900, 3) := by decide +kernel
theorem dX5_init_8 : decode cX5_init 8 = .ok (.putfield 7, 3) := by decide +kernel
theorem dX5_init_11 : decode cX5_init 11 = .ok (.aload_n 0, 1) := by decide +kernel
theorem dX5_init_12 : decode cX5_init 12 = .ok (.bipush 8, 2) := by decide +kernel
theorem dX5_init_14 : decode cX5_init 14 = .ok (.newarray .int, 2) := by decide +kernel
theorem dX5_init_16 : decode cX5_init 16 = .ok (.putfield 13, 3) := by decide +kernel
theorem dX5_init_19 : decode cX5_init 19 = .ok (.aload_n 0, 1) := by decide +kernel
theorem dX5_init_20 : decode cX5_init 20 = .ok (.bipush 8, 2) := by decide +kernel
theorem dX5_init_22 : decode cX5_init 22 = .ok (.newarray .int, 2) := by decide +kernel
theorem dX5_init_24 : decode cX5_init 24 = .ok (.putfield 17, 3) := by decide +kernel
theorem dX5_init_27 : decode cX5_init 27 = .ok (.aload_n 0, 1) := by decide +kernel
theorem dX5_init_28 : decode cX5_init 28 = .ok (.iconst 3, 1) := by decide +kernel
theorem dX5_init_29 : decode cX5_init 29 = .ok (.newarray .int, 2) := by decide +kernel
theorem dX5_init_31 : decode cX5_init 31 = .ok (.putfield 20, 3) := by decide +kernel
theorem dX5_init_34 : decode cX5_init 34 = .ok (.aload_n 0, 1) := by decide +kernel
theorem dX5_init_35 : decode cX5_init 35 = .ok (.bipush 100, 2) := by decide +kernel
theorem dX5_init_37 : decode cX5_init 37 = .ok (.newarray .int, 2) := by decide +kernel
theorem dX5_init_39 : decode cX5_init 39 = .ok (.putfield 23, 3) := by decide +kernel
theorem dX5_init_42 : decode cX5_init 42 = .ok (.aload_n 0, 1) := by decide +kernel
theorem dX5_init_43 : decode cX5_init 43 = .ok (.bipush 100, 2) := by decide +kernel
theorem dX5_init_45 : decode cX5_init 45 = .ok (.newarray .int, 2) := by decide +kernel
theorem dX5_init_47 : decode cX5_init 47 = .ok (.putfield 26, 3) := by decide +kernel
theorem dX5_init_50 : decode cX5_init 50 = .ok (.aload_n 0, 1) := by decide +kernel
theorem dX5_init_51 : decode cX5_init 51 = .ok (.bipush 100, 2) := by decide +kernel
theorem dX5_init_53 : decode cX5_init 53 = .ok (.newarray .int, 2) := by decide +kernel
theorem dX5_init_55 : decode cX5_init 55 = .ok (.putfield 29, 3) := by decide +kernel
theorem dX5_init_58 : decode cX5_init 58 = .ok (.aload_n 0, 1) := by decide +kernel
theorem dX5_init_59 : decode cX5_init 59 = .ok (.bipush 100, 2) := by decide +kernel
theorem dX5_init_61 : decode cX5_init 61 = .ok (.newarray .int, 2) := by decide +kernel
theorem dX5_init_63 : decode cX5_init 63 = .ok (.putfield 32, 3) := by decide +kernel
theorem dX5_init_66 : decode cX5_init 66 = .ok (.aload_n 0, 1) := by decide +kernel
theorem dX5_init_67 : decode cX5_init 67 = .ok (.bipush 100, 2) := by decide +kernel
theorem dX5_init_69 : decode cX5_init 69 = .ok (.newarray .int, 2) := by decide +kernel
theorem dX5_init_71 : decode cX5_init 71 = .ok (.putfield 35, 3) := by decide +kernel
theorem dX5_init_74 : decode cX5_init 74 = .ok (.aload_n 0, 1) := by decide +kernel
theorem dX5_init_75 : decode cX5_init 75 = .ok (.bipush 100, 2) := by decide +kernel
theorem dX5_init_77 : decode cX5_init 77 = .ok (.newarray .int, 2) := by decide +kernel
theorem dX5_init_79 : decode cX5_init 79 = .ok (.putfield 38, 3) := by decide +kernel
theorem dX5_init_82 : decode cX5_init 82 = .ok (.aload_n 0, 1) := by decide +kernel
theorem dX5_init_83 : decode cX5_init 83 = .ok (.bipush 100, 2) := by decide +kernel
theorem dX5_init_85 : decode cX5_init 85 = .ok (.newarray .int, 2) := by decide +kernel
theorem dX5_init_87 : decode cX5_init 87 = .ok (.putfield 41, 3) := by decide +kernel
theorem dX5_init_90 : decode cX5_init 90 = .ok (.aload_n 0, 1) := by decide +kernel
theorem dX5_init_91 : decode cX5_init 91 = .ok (.bipush 100, 2) := by decide +kernel
theorem dX5_init_93 : decode cX5_init 93 = .ok (.newarray .int, 2) := by decide +kernel
theorem dX5_init_95 : decode cX5_init 95 = .ok (.putfield 44, 3) := by decide +kernel
theorem dX5_init_98 : decode cX5_init 98 = .ok (.aload_n 0, 1) := by decide +kernel
theorem dX5_init_99 : decode cX5_init 99 = .ok (.bipush 100, 2) := by decide +kernel
theorem dX5_init_101 : decode cX5_init 101 = .ok (.newarray .int, 2) := by decide +kernel
theorem dX5_init_103 : decode cX5_init 103 = .ok (.putfield 47, 3) := by decide +kernel
theorem dX5_init_106 : decode cX5_init 106 = .ok (.aload_n 0, 1) := by decide +kernel
theorem dX5_init_107 : decode cX5_init 107 = .ok (.bipush 100, 2) := by decide +kernel
theorem dX5_init_109 : decode cX5_init 109 = .ok (.newarray .int, 2) := by decide +kernel
theorem dX5_init_111 : decode cX5_init 111 = .ok (.putfield 50, 3) := by decide +kernel
theorem dX5_init_114 : decode cX5_init 114 = .ok (.aload_n 0, 1) := by decide +kernel
theorem dX5_init_115 : decode cX5_init 115 = .ok (.bipush 100, 2) := by decide +kernel
theorem dX5_init_117 : decode cX5_init 117 = .ok (.newarray .int, 2) := by decide +kernel
theorem dX5_init_119 : decode cX5_init 119 = .ok (.putfield 53, 3) := by decide +kernel
theorem dX5_init_122 : decode cX5_init 122 = .ok (.aload_n 0, 1) := by decide +kernel
theorem dX5_init_123 : decode cX5_init 123 = .ok (.iconst 3, 1) := by decide +kernel
theorem dX5_init_124 : decode cX5_init 124 = .ok (.newarray .int, 2) := by decide +kernel
theorem dX5_init_126 : decode cX5_init 126 = .ok (.putfield 56, 3) := by decide +kernel
theorem dX5_init_129 : decode cX5_init 129 = .ok (.aload_n 0, 1) := by decide +kernel
theorem dX5_init_130 : decode cX5_init 130 = .ok (.iconst 3, 1) := by decide +kernel
theorem dX5_init_131 : decode cX5_init 131 = .ok (.newarray .int, 2) := by decide +kernel
theorem dX5_init_133 : decode cX5_init 133 = .ok (.putfield 59, 3) := by decide +kernel
theorem dX5_init_136 : decode cX5_init 136 = .ok (.aload_n 0, 1) := by decide +kernel
theorem dX5_init_137 : decode cX5_init 137 = .ok (.iconst 3, 1) := by decide +kernel
theorem dX5_init_138 : decode cX5_init 138 = .ok (.newarray .int, 2) := by decide +kernel
theorem dX5_init_140 : decode cX5_init 140 = .ok (.putfield 62, 3) := by decide +kernel
theorem dX5_init_143 : decode cX5_init 143 = .ok (.aload_n 0, 1) := by decide +kernel
theorem dX5_init_144 : decode cX5_init 144 = .ok (.bipush 50, 2) := by decide +kernel
theorem dX5_init_146 : decode cX5_init 146 = .ok (.putfield 65, 3) := by decide +kernel
theorem dX5_init_149 : decode cX5_init 149 = .ok (.aload_n 0, 1) := by decide +kernel
theorem dX5_init_150 : decode cX5_init 150 = .ok (.iconst 5, 1) := by decide +kernel
theorem dX5_init_151 : decode cX5_init 151 = .ok (.newarray .int, 2) := by decide +kernel
theorem dX5_init_153 : decode cX5_init 153 = .ok (.putfield 68, 3) := by decide +kernel
theorem dX5_init_156 : decode cX5_init 156 = .ok (.aload_n 0, 1) := by decide +kernel
theorem dX5_init_157 : decode cX5_init 157 = .ok (.iconst 5, 1) := by decide +kernel
theorem dX5_init_158 : decode cX5_init 158 = .ok (.newarray .int, 2) := by decide +kernel
theorem dX5_init_160 : decode cX5_init 160 = .ok (.putfield 71, 3) := by decide +kernel
theorem dX5_init_163 : decode cX5_init 163 = .ok (.aload_n 0, 1) := by decide +kernel
theorem dX5_init_164 : decode cX5_init 164 = .ok (.iconst 5, 1) := by decide +kernel
theorem dX5_init_165 : decode cX5_init 165 = .ok (.newarray .int, 2) := by decide +kernel
theorem dX5_init_167 : decode cX5_init 167 = .ok (.putfield 74, 3) := by decide +kernel
theorem dX5_init_170 : decode cX5_init 170 = .ok (.aload_n 0, 1) := by decide +kernel
theorem dX5_init_171 : decode cX5_init 171 = .ok (.iconst 5, 1) := by decide +kernel
theorem dX5_init_172 : decode cX5_init 172 = .ok (.newarray .int, 2) := by decide +kernel
theorem dX5_init_174 : decode cX5_init 174 = .ok (.putfield 77, 3) := by decide +kernel
theorem dX5_init_177 : decode cX5_init 177 = .ok (.aload_n 0, 1) := by decide +kernel
theorem dX5_init_178 : decode cX5_init 178 = .ok (.iload_n 1, 1) := by decide +kernel
theorem dX5_init_179 : decode cX5_init 179 = .ok (.iconst 1, 1) := by decide +kernel
theorem dX5_init_180 : decode cX5_init 180 = .ok (.if_icmp .ge 7, 3) := by decide +kernel
theorem dX5_init_183 : decode cX5_init 183 = .ok (.iconst 1, 1) := by decide +kernel
theorem dX5_init_184 : decode cX5_init 184 = .ok (.goto 13, 3) := by decide +kernel
theorem dX5_init_187 : decode cX5_init 187 = .ok (.iload_n 1, 1) := by decide +kernel
theorem dX5_init_188 : decode cX5_init 188 = .ok (.iconst 3, 1) := by decide +kernel
theorem dX5_init_189 : decode cX5_init 189 = .ok (.if_icmp .le 7, 3) := by decide +kernel
theorem dX5_init_192 : decode cX5_init 192 = .ok (.iconst 3, 1) := by decide +kernel
theorem dX5_init_193 : decode cX5_init 193 = .ok (.goto 4, 3) := by decide +kernel
theorem dX5_init_196 : decode cX5_init 196 = .ok (.iload_n 1, 1) := by decide +kernel
theorem dX5_init_197 : decode cX5_init 197 = .ok (.putfield 80, 3) := by decide +kernel
theorem dX5_init_200 : decode cX5_init 200 = .ok (.aload_n 0, 1) := by decide +kernel
theorem dX5_init_201 : decode cX5_init 201 = .ok (.iload_n 2, 1) := by decide +kernel
theorem dX5_init_202 : decode cX5_init 202 = .ok (.bipush 6, 2) := by decide +kernel
theorem dX5_init_204 : decode cX5_init 204 = .ok (.if_icmp .ge 8, 3) := by decide +kernel
theorem dX5_init_207 : decode cX5_init 207 = .ok (.bipush 6, 2) := by decide +kernel
theorem dX5_init_209 : decode cX5_init 209 = .ok (.goto 15, 3) := by decide +kernel
theorem dX5_init_212 : decode cX5_init 212 = .ok (.iload_n 2, 1) := by decide +kernel
theorem dX5_init_213 : decode cX5_init 213 = .ok (.bipush 30, 2) := by decide +kernel
theorem dX5_init_215 : decode cX5_init 215 = .ok (.if_icmp .le 8, 3) := by decide +kernel
theorem dX5_init_218 : decode cX5_init 218 = .ok (.bipush 30, 2) := by decide +kernel
theorem dX5_init_220 : decode cX5_init 220 = .ok (.goto 4, 3) := by decide +kernel
theorem dX5_init_223 : decode cX5_init 223 = .ok (.iload_n 2, 1) := by decide +kernel
theorem dX5_init_224 : decode cX5_init 224 = .ok (.putfield 83, 3) := by decide +kernel
theorem dX5_init_227 : decode cX5_init 227 = .ok (.return_, 1) := by decide +kernel
theorem dX5_in_0 : decode cX5_in 0 = .ok (.iload_n 0, 1) := by decide +kernel
theorem dX5_in_1 : decode cX5_in 1 = .ok (.iload_n 1, 1) := by decide +kernel
theorem dX5_in_2 : decode cX5_in 2 = .ok (.if_icmp .lt 12, 3) := by decide +kernel
theorem dX5_in_5 : decode cX5_in 5 = .ok (.iload_n 0, 1) := by decide +kernel
theorem dX5_in_6 : decode cX5_in 6 = .ok (.iload_n 2, 1) := by decide +kernel
theorem dX5_in_7 : decode cX5_in 7 = .ok (.if_icmp .gt 7, 3) := by decide +kernel
theorem dX5_in_10 : decode cX5_in 10 = .ok (.iconst 1, 1) := by decide +kernel
theorem dX5_in_11 : decode cX5_in 11 = .ok (.goto 4, 3) := by decide +kernel
theorem dX5_in_14 : decode cX5_in 14 = .ok (.iconst 0, 1) := by decide +kernel
theorem dX5_in_15 : decode cX5_in 15 = .ok (.ireturn, 1) := by decide +kernel
theorem dX5_beans_0 : decode cX5_beans 0 = .ok (.iload_n 0, 1) := by decide +kernel
theorem dX5_beans_1 : decode cX5_beans 1 = .ok (.ldc 86, 2) := by decide +kernel
theorem dX5_beans_3 : decode cX5_beans 3 = .ok (.idiv, 1) := by decide +kernel
theorem dX5_beans_4 : decode cX5_beans 4 = .ok (.ireturn, 1) := by decide +kernel
theorem dX5_grind_0 : decode cX5_grind 0 = .ok (.iload_n 0, 1) := by decide +kernel
theorem dX5_grind_1 : decode cX5_grind 1 = .ok (.ldc 87, 2) := by decide +kernel
theorem dX5_grind_3 : decode cX5_grind 3 = .ok (.idiv, 1) := by decide +kernel
theorem dX5_grind_4 : decode cX5_grind 4 = .ok (.bipush 10, 2) := by decide +kernel
theorem dX5_grind_6 : decode cX5_grind 6 = .ok (.irem, 1) := by decide +kernel
theorem dX5_grind_7 : decode cX5_grind 7 = .ok (.ireturn, 1) := by decide +kernel
theorem dX5_brew_0 : decode cX5_brew 0 = .ok (.iload_n 0, 1) := by decide +kernel
theorem dX5_brew_1 : decode cX5_brew 1 = .ok (.sipush 1000, 3) := by decide +kernel
theorem dX5_brew_4 : decode cX5_brew 4 = .ok (.idiv, 1) := by decide +kernel
theorem dX5_brew_5 : decode cX5_brew 5 = .ok (.bipush 100, 2) := by decide +kernel
theorem dX5_brew_7 : decode cX5_brew 7 = .ok (.irem, 1) := by decide +kernel
theorem dX5_brew_8 : decode cX5_brew 8 = .ok (.ireturn, 1) := by decide +kernel
theorem dX5_steam_0 : decode cX5_steam 0 = .ok (.iload_n 0, 1) := by decide +kernel
theorem dX5_steam_1 : decode cX5_steam 1 = .ok (.bipush 10, 2) := by decide +kernel
theorem dX5_steam_3 : decode cX5_steam 3 = .ok (.idiv, 1) := by decide +kernel
theorem dX5_steam_4 : decode cX5_steam 4 = .ok (.bipush 100, 2) := by decide +kernel
theorem dX5_steam_6 : decode cX5_steam 6 = .ok (.irem, 1) := by decide +kernel
theorem dX5_steam_7 : decode cX5_steam 7 = .ok (.ireturn, 1) := by decide +kernel
set_option maxRecDepth 20000 in
theorem ggX5_isRecipe_X5_beans : GoodIn wsX5_isRecipe wsX5_beans := goodIn_r _ [4, 5] (by decide +kernel) (by decide +kernel)
set_option maxRecDepth 20000 in
theorem gX5_isRecipe_X5_beans : GoodIn wsX5_isRecipe (va_wsS RX5 88 yX5_beans wsX5_beans) := goodIn_app (goodIn_of _ (by decide +kernel)) ggX5_isRecipe_X5_beans
set_option maxRecDepth 20000 in
theorem ggX5_isRecipe_X5_in : GoodIn wsX5_isRecipe wsX5_in := goodIn_r _ [8] (by decide +kernel) (by decide +kernel)
set_option maxRecDepth 20000 in
theorem gX5_isRecipe_X5_in : GoodIn wsX5_isRecipe (va_wsS RX5 92 yX5_in wsX5_in) := goodIn_app (goodIn_of _ (by decide +kernel)) ggX5_isRecipe_X5_in
set_option maxRecDepth 20000 in
theorem ggX5_isRecipe_X5_grind : GoodIn wsX5_isRecipe wsX5_grind := goodIn_r _ [11, 12] (by decide +kernel) (by decide +kernel)
set_option maxRecDepth 20000 in
theorem gX5_isRecipe_X5_grind : GoodIn wsX5_isRecipe (va_wsS RX5 96 yX5_grind wsX5_grind) := goodIn_app (goodIn_of _ (by decide +kernel)) ggX5_isRecipe_X5_grind
set_option maxRecDepth 20000 in
theorem ggX5_isRecipe_X5_brew : GoodIn wsX5_isRecipe wsX5_brew := goodIn_r _ [15] (by decide +kernel) (by decide +kernel)
set_option maxRecDepth 20000 in
theorem gX5_isRecipe_X5_brew : GoodIn wsX5_isRecipe (va_wsS RX5 99 yX5_brew wsX5_brew) := goodIn_app (goodIn_of _ (by decide +kernel)) ggX5_isRecipe_X5_brew
set_option maxRecDepth 20000 in
theorem ggX5_isRecipe_X5_steam : GoodIn wsX5_isRecipe wsX5_steam := goodIn_r _ [18] (by decide +kernel) (by decide +kernel)
set_option maxRecDepth 20000 in
theorem gX5_isRecipe_X5_steam : GoodIn wsX5_isRecipe (va_wsS RX5 102 yX5_steam wsX5_steam) := goodIn_app (goodIn_of _ (by decide +kernel)) ggX5_isRecipe_X5_steam
theorem dX5_isRecipe_0 : decode cX5_isRecipe 0 = .ok (.iload_n 0, 1) := by decide +kernel
theorem dX5_isRecipe_1 : decode cX5_isRecipe 1 = .ok (.ifCond .lt 56, 3) := by decide +kernel
theorem dX5_isRecipe_4 : decode cX5_isRecipe 4 = .ok (.iload_n 1, 1) := by decide +kernel
theorem dX5_isRecipe_5 : decode cX5_isRecipe 5 = .ok (.ifCond .lt 52, 3) := by decide +kernel
theorem dX5_isRecipe_8 : decode cX5_isRecipe 8 = .ok (.iload_n 0, 1) := by decide +kernel
theorem dX5_isRecipe_9 : decode cX5_isRecipe 9 = .ok (.bipush 10, 2) := by decide +kernel
theorem dX5_isRecipe_11 : decode cX5_isRecipe 11 = .ok (.irem, 1) := by decide +kernel
theorem dX5_isRecipe_12 : decode cX5_isRecipe 12 = .ok (.ifCond .ne 45, 3) := by decide +kernel
theorem dX5_isRecipe_15 : decode cX5_isRecipe 15 = .ok (.iload_n 0, 1) := by decide +kernel
theorem dX5_isRecipe_16 : decode cX5_isRecipe 16 = .ok (.invokestatic 88, 3) := by decide +kernel
theorem dX5_isRecipe_19 : decode cX5_isRecipe 19 = .ok (.iconst 5, 1) := by decide +kernel
theorem dX5_isRecipe_20 : decode cX5_isRecipe 20 = .ok (.bipush 30, 2) := by decide +kernel
theorem dX5_isRecipe_22 : decode cX5_isRecipe 22 = .ok (.invokestatic 92, 3) := by decide +kernel
theorem dX5_isRecipe_25 : decode cX5_isRecipe 25 = .ok (.ifCond .eq 32, 3) := by decide +kernel
theorem dX5_isRecipe_28 : decode cX5_isRecipe 28 = .ok (.iload_n 0, 1) := by decide +kernel
theorem dX5_isRecipe_29 : decode cX5_isRecipe 29 = .ok (.invokestatic 96, 3) := by decide +kernel
theorem dX5_isRecipe_32 : decode cX5_isRecipe 32 = .ok (.ifCond .eq 25, 3) := by decide +kernel
theorem dX5_isRecipe_35 : decode cX5_isRecipe 35 = .ok (.iload_n 0, 1) := by decide +kernel
theorem dX5_isRecipe_36 : decode cX5_isRecipe 36 = .ok (.invokestatic 99, 3) := by decide +kernel
theorem dX5_isRecipe_39 : decode cX5_isRecipe 39 = .ok (.iconst 1, 1) := by decide +kernel
theorem dX5_isRecipe_40 : decode cX5_isRecipe 40 = .ok (.bipush 30, 2) := by decide +kernel
theorem dX5_isRecipe_42 : decode cX5_isRecipe 42 = .ok (.invokestatic 92, 3) := by decide +kernel
theorem dX5_isRecipe_45 : decode cX5_isRecipe 45 = .ok (.ifCond .eq 12, 3) := by decide +kernel
theorem dX5_isRecipe_48 : decode cX5_isRecipe 48 = .ok (.iload_n 0, 1) := by decide +kernel
theorem dX5_isRecipe_49 : decode cX5_isRecipe 49 = .ok (.invokestatic 102, 3) := by decide +kernel
theorem dX5_isRecipe_52 : decode cX5_isRecipe 52 = .ok (.bipush 20, 2) := by decide +kernel
theorem dX5_isRecipe_54 : decode cX5_isRecipe 54 = .ok (.if_icmp .le 5, 3) := by decide +kernel
theorem dX5_isRecipe_57 : decode cX5_isRecipe 57 = .ok (.iconst 0, 1) := by decide +kernel
theorem dX5_isRecipe_58 : decode cX5_isRecipe 58 = .ok (.ireturn, 1) := by decide +kernel
theorem dX5_isRecipe_59 : decode cX5_isRecipe 59 = .ok (.iload_n 1, 1) := by decide +kernel
theorem dX5_isRecipe_60 : decode cX5_isRecipe 60 = .ok (.sipush 1000, 3) := by decide +kernel
theorem dX5_isRecipe_63 : decode cX5_isRecipe 63 = .ok (.idiv, 1) := by decide +kernel
theorem dX5_isRecipe_64 : decode cX5_isRecipe 64 = .ok (.bipush 10, 2) := by decide +kernel
theorem dX5_isRecipe_66 : decode cX5_isRecipe 66 = .ok (.sipush 250, 3) := by decide +kernel
theorem dX5_isRecipe_69 : decode cX5_isRecipe 69 = .ok (.invokestatic 92, 3) := by decide +kernel
theorem dX5_isRecipe_72 : decode cX5_isRecipe 72 = .ok (.ifCond .eq 33, 3) := by decide +kernel
theorem dX5_isRecipe_75 : decode cX5_isRecipe 75 = .ok (.iload_n 1, 1) := by decide +kernel
theorem dX5_isRecipe_76 : decode cX5_isRecipe 76 = .ok (.sipush 1000, 3) := by decide +kernel
theorem dX5_isRecipe_79 : decode cX5_isRecipe 79 = .ok (.irem, 1) := by decide +kernel
theorem dX5_isRecipe_80 : decode cX5_isRecipe 80 = .ok (.iconst 0, 1) := by decide +kernel
theorem dX5_isRecipe_81 : decode cX5_isRecipe 81 = .ok (.iload_n 0, 1) := by decide +kernel
theorem dX5_isRecipe_82 : decode cX5_isRecipe 82 = .ok (.invokestatic 102, 3) := by decide +kernel
theorem dX5_isRecipe_85 : decode cX5_isRecipe 85 = .ok (.ifCond .ne 7, 3) := by decide +kernel
theorem dX5_isRecipe_88 : decode cX5_isRecipe 88 = .ok (.iconst 0, 1) := by decide +kernel
theorem dX5_isRecipe_89 : decode cX5_isRecipe 89 = .ok (.goto 6, 3) := by decide +kernel
theorem dX5_isRecipe_92 : decode cX5_isRecipe 92 = .ok (.sipush 250, 3) := by decide +kernel
theorem dX5_isRecipe_95 : decode cX5_isRecipe 95 = .ok (.invokestatic 92, 3) := by decide +kernel
theorem dX5_isRecipe_98 : decode cX5_isRecipe 98 = .ok (.ifCond .eq 7, 3) := by decide +kernel
theorem dX5_isRecipe_101 : decode cX5_isRecipe 101 = .ok (.iconst 1, 1) := by decide +kernel
theorem dX5_isRecipe_102 : decode cX5_isRecipe 102 = .ok (.goto 4, 3) := by decide +kernel
theorem dX5_isRecipe_105 : decode cX5_isRecipe 105 = .ok (.iconst 0, 1) := by decide +kernel
theorem dX5_isRecipe_106 : decode cX5_isRecipe 106 = .ok (.ireturn, 1) := by decide +kernel
set_option maxRecDepth 20000 in
theorem ggX5_recipe_X5_isRecipe : GoodIn wsX5_recipe wsX5_isRecipe := goodIn_r _ [7, 8, 9, 6, 10, 11, 12, 13, 14, 15, 16, 17, 18, 19, 20, 21, 22, 23, 24] (by decide +kernel) (by decide +kernel)
set_option maxRecDepth 20000 in
theorem gX5_recipe_X5_isRecipe : GoodIn wsX5_recipe (va_wsS RX5 105 yX5_isRecipe wsX5_isRecipe) := goodIn_app (goodIn_of _ (by decide +kernel)) ggX5_recipe_X5_isRecipe
theorem dX5_recipe_0 : decode cX5_recipe 0 = .ok (.iload_n 1, 1) := by decide +kernel
theorem dX5_recipe_1 : decode cX5_recipe 1 = .ok (.iload_n 2, 1) := by decide +kernel
theorem dX5_recipe_2 : decode cX5_recipe 2 = .ok (.invokestatic 105, 3) := by decide +kernel
theorem dX5_recipe_5 : decode cX5_recipe 5 = .ok (.ifCond .eq 12, 3) := by decide +kernel
theorem dX5_recipe_8 : decode cX5_recipe 8 = .ok (.aload_n 0, 1) := by decide +kernel
theorem dX5_recipe_9 : decode cX5_recipe 9 = .ok (.getfield 109, 3) := by decide +kernel
theorem dX5_recipe_12 : decode cX5_recipe 12 = .ok (.bipush 8, 2) := by decide +kernel
theorem dX5_recipe_14 : decode cX5_recipe 14 = .ok (.if_icmp .ne 5, 3) := by decide +kernel
theorem dX5_recipe_17 : decode cX5_recipe 17 = .ok (.iconst (-1), 1) := by decide +kernel
theorem dX5_recipe_18 : decode cX5_recipe 18 = .ok (.ireturn, 1) := by decide +kernel
theorem dX5_recipe_19 : decode cX5_recipe 19 = .ok (.aload_n 0, 1) := by decide +kernel
theorem dX5_recipe_20 : decode cX5_recipe 20 = .ok (.getfield 13, 3) := by decide +kernel
theorem dX5_recipe_23 : decode cX5_recipe 23 = .ok (.aload_n 0, 1) := by decide +kernel
theorem dX5_recipe_24 : decode cX5_recipe 24 = .ok (.getfield 109, 3) := by decide +kernel
theorem dX5_recipe_27 : decode cX5_recipe 27 = .ok (.iload_n 1, 1) := by decide +kernel
theorem dX5_recipe_28 : decode cX5_recipe 28 = .ok (.iastore, 1) := by decide +kernel
theorem dX5_recipe_29 : decode cX5_recipe 29 = .ok (.aload_n 0, 1) := by decide +kernel
theorem dX5_recipe_30 : decode cX5_recipe 30 = .ok (.getfield 17, 3) := by decide +kernel
theorem dX5_recipe_33 : decode cX5_recipe 33 = .ok (.aload_n 0, 1) := by decide +kernel
theorem dX5_recipe_34 : decode cX5_recipe 34 = .ok (.getfield 109, 3) := by decide +kernel
theorem dX5_recipe_37 : decode cX5_recipe 37 = .ok (.iload_n 2, 1) := by decide +kernel
theorem dX5_recipe_38 : decode cX5_recipe 38 = .ok (.iastore, 1) := by decide +kernel
theorem dX5_recipe_39 : decode cX5_recipe 39 = .ok (.aload_n 0, 1) := by decide +kernel
theorem dX5_recipe_40 : decode cX5_recipe 40 = .ok (.dup, 1) := by decide +kernel
theorem dX5_recipe_41 : decode cX5_recipe 41 = .ok (.getfield 109, 3) := by decide +kernel
theorem dX5_recipe_44 : decode cX5_recipe 44 = .ok (.iconst 1, 1) := by decide +kernel
theorem dX5_recipe_45 : decode cX5_recipe 45 = .ok (.iadd, 1) := by decide +kernel
theorem dX5_recipe_46 : decode cX5_recipe 46 = .ok (.putfield 109, 3) := by decide +kernel
theorem dX5_recipe_49 : decode cX5_recipe 49 = .ok (.aload_n 0, 1) := by decide +kernel
theorem dX5_recipe_50 : decode cX5_recipe 50 = .ok (.getfield 109, 3) := by decide +kernel
theorem dX5_recipe_53 : decode cX5_recipe 53 = .ok (.iconst 1, 1) := by decide +kernel
theorem dX5_recipe_54 : decode cX5_recipe 54 = .ok (.isub, 1) := by decide +kernel
theorem dX5_recipe_55 : decode cX5_recipe 55 = .ok (.ireturn, 1) := by decide +kernel
set_option maxRecDepth 20000 in
theorem ggX5_alter_X5_in : GoodIn wsX5_alter wsX5_in := goodIn_r _ [7] (by decide +kernel) (by decide +kernel)
set_option maxRecDepth 20000 in
theorem gX5_alter_X5_in : GoodIn wsX5_alter (va_wsS RX5 92 yX5_in wsX5_in) := goodIn_app (goodIn_of _ (by decide +kernel)) ggX5_alter_X5_in
set_option maxRecDepth 20000 in
theorem ggX5_alter_X5_isRecipe : GoodIn wsX5_alter wsX5_isRecipe := goodIn_r _ [10, 11, 12, 6, 13, 14, 4, 5, 7, 15, 16, 17, 18, 19, 20, 21, 22, 23, 24] (by decide +kernel) (by decide +kernel)
set_option maxRecDepth 20000 in
theorem gX5_alter_X5_isRecipe : GoodIn wsX5_alter (va_wsS RX5 105 yX5_isRecipe wsX5_isRecipe) := goodIn_app (goodIn_of _ (by decide +kernel)) ggX5_alter_X5_isRecipe
theorem dX5_alter_0 : decode cX5_alter 0 = .ok (.iload_n 1, 1) := by decide +kernel
theorem dX5_alter_1 : decode cX5_alter 1 = .ok (.iconst 0, 1) := by decide +kernel
theorem dX5_alter_2 : decode cX5_alter 2 = .ok (.aload_n 0, 1) := by decide +kernel
theorem dX5_alter_3 : decode cX5_alter 3 = .ok (.getfield 109, 3) := by decide +kernel
theorem dX5_alter_6 : decode cX5_alter 6 = .ok (.iconst 1, 1) := by decide +kernel
theorem dX5_alter_7 : decode cX5_alter 7 = .ok (.isub, 1) := by decide +kernel
theorem dX5_alter_8 : decode cX5_alter 8 = .ok (.invokestatic 92, 3) := by decide +kernel
theorem dX5_alter_11 : decode cX5_alter 11 = .ok (.ifCond .eq 11, 3) := by decide +kernel
theorem dX5_alter_14 : decode cX5_alter 14 = .ok (.iload_n 2, 1) := by decide +kernel
theorem dX5_alter_15 : decode cX5_alter 15 = .ok (.iload_n 3, 1) := by decide +kernel
theorem dX5_alter_16 : decode cX5_alter 16 = .ok (.invokestatic 105, 3) := by decide +kernel
theorem dX5_alter_19 : decode cX5_alter 19 = .ok (.ifCond .ne 5, 3) := by decide +kernel
theorem dX5_alter_22 : decode cX5_alter 22 = .ok (.iconst 0, 1) := by decide +kernel
theorem dX5_alter_23 : decode cX5_alter 23 = .ok (.ireturn, 1) := by decide +kernel
theorem dX5_alter_24 : decode cX5_alter 24 = .ok (.aload_n 0, 1) := by decide +kernel
theorem dX5_alter_25 : decode cX5_alter 25 = .ok (.getfield 13, 3) := by decide +kernel
theorem dX5_alter_28 : decode cX5_alter 28 = .ok (.iload_n 1, 1) := by decide +kernel
theorem dX5_alter_29 : decode cX5_alter 29 = .ok (.iload_n 2, 1) := by decide +kernel
theorem dX5_alter_30 : decode cX5_alter 30 = .ok (.iastore, 1) := by decide +kernel
theorem dX5_alter_31 : decode cX5_alter 31 = .ok (.aload_n 0, 1) := by decide +kernel
theorem dX5_alter_32 : decode cX5_alter 32 = .ok (.getfield 17, 3) := by decide +kernel
theorem dX5_alter_35 : decode cX5_alter 35 = .ok (.iload_n 1, 1) := by decide +kernel
theorem dX5_alter_36 : decode cX5_alter 36 = .ok (.iload_n 3, 1) := by decide +kernel
theorem dX5_alter_37 : decode cX5_alter 37 = .ok (.iastore, 1) := by decide +kernel
theorem dX5_alter_38 : decode cX5_alter 38 = .ok (.iconst 1, 1) := by decide +kernel
theorem dX5_alter_39 : decode cX5_alter 39 = .ok (.ireturn, 1) := by decide +kernel
set_option maxRecDepth 20000 in
theorem ggX5_store_X5_in : GoodIn wsX5_store wsX5_in := goodIn_r _ [6] (by decide +kernel) (by decide +kernel)
set_option maxRecDepth 20000 in
theorem gX5_store_X5_in : GoodIn wsX5_store (va_wsS RX5 92 yX5_in wsX5_in) := goodIn_app (goodIn_of _ (by decide +kernel)) ggX5_store_X5_in
theorem dX5_store_0 : decode cX5_store 0 = .ok (.iload_n 1, 1) := by decide +kernel
theorem dX5_store_1 : decode cX5_store 1 = .ok (.iconst 0, 1) := by decide +kernel
theorem dX5_store_2 : decode cX5_store 2 = .ok (.iconst 2, 1) := by decide +kernel
theorem dX5_store_3 : decode cX5_store 3 = .ok (.invokestatic 92, 3) := by decide +kernel
theorem dX5_store_6 : decode cX5_store 6 = .ok (.ifCond .eq 27, 3) := by decide +kernel
theorem dX5_store_9 : decode cX5_store 9 = .ok (.iload_n 2, 1) := by decide +kernel
theorem dX5_store_10 : decode cX5_store 10 = .ok (.iconst 1, 1) := by decide +kernel
theorem dX5_store_11 : decode cX5_store 11 = .ok (.sipush 10000, 3) := by decide +kernel
theorem dX5_store_14 : decode cX5_store 14 = .ok (.invokestatic 92, 3) := by decide +kernel
theorem dX5_store_17 : decode cX5_store 17 = .ok (.ifCond .eq 16, 3) := by decide +kernel
theorem dX5_store_20 : decode cX5_store 20 = .ok (.aload_n 0, 1) := by decide +kernel
theorem dX5_store_21 : decode cX5_store 21 = .ok (.getfield 20, 3) := by decide +kernel
theorem dX5_store_24 : decode cX5_store 24 = .ok (.iload_n 1, 1) := by decide +kernel
theorem dX5_store_25 : decode cX5_store 25 = .ok (.iaload, 1) := by decide +kernel
theorem dX5_store_26 : decode cX5_store 26 = .ok (.iload_n 2, 1) := by decide +kernel
theorem dX5_store_27 : decode cX5_store 27 = .ok (.iadd, 1) := by decide +kernel
theorem dX5_store_28 : decode cX5_store 28 = .ok (.ldc 87, 2) := by decide +kernel
theorem dX5_store_30 : decode cX5_store 30 = .ok (.if_icmp .le 5, 3) := by decide +kernel
theorem dX5_store_33 : decode cX5_store 33 = .ok (.iconst (-1), 1) := by decide +kernel
theorem dX5_store_34 : decode cX5_store 34 = .ok (.ireturn, 1) := by decide +kernel
theorem dX5_store_35 : decode cX5_store 35 = .ok (.aload_n 0, 1) := by decide +kernel
theorem dX5_store_36 : decode cX5_store 36 = .ok (.getfield 20, 3) := by decide +kernel
theorem dX5_store_39 : decode cX5_store 39 = .ok (.iload_n 1, 1) := by decide +kernel
theorem dX5_store_40 : decode cX5_store 40 = .ok (.dup2, 1) := by decide +kernel
theorem dX5_store_41 : decode cX5_store 41 = .ok (.iaload, 1) := by decide +kernel
theorem dX5_store_42 : decode cX5_store 42 = .ok (.iload_n 2, 1) := by decide +kernel
theorem dX5_store_43 : decode cX5_store 43 = .ok (.iadd, 1) := by decide +kernel
theorem dX5_store_44 : decode cX5_store 44 = .ok (.iastore, 1) := by decide +kernel
theorem dX5_store_45 : decode cX5_store 45 = .ok (.aload_n 0, 1) := by decide +kernel
theorem dX5_store_46 : decode cX5_store 46 = .ok (.getfield 20, 3) := by decide +kernel
theorem dX5_store_49 : decode cX5_store 49 = .ok (.iload_n 1, 1) := by decide +kernel
theorem dX5_store_50 : decode cX5_store 50 = .ok (.iaload, 1) := by decide +kernel
theorem dX5_store_51 : decode cX5_store 51 = .ok (.ireturn, 1) := by decide +kernel
set_option maxRecDepth 20000 in
theorem ggX5_order_X5_in : GoodIn wsX5_order wsX5_in := goodIn_r _ [15] (by decide +kernel) (by decide +kernel)
set_option maxRecDepth 20000 in
theorem gX5_order_X5_in : GoodIn wsX5_order (va_wsS RX5 92 yX5_in wsX5_in) := goodIn_app (goodIn_of _ (by decide +kernel)) ggX5_order_X5_in
theorem dX5_order_0 : decode cX5_order 0 = .ok (.iload_n 1, 1) := by decide +kernel
theorem dX5_order_1 : decode cX5_order 1 = .ok (.iconst 0, 1) := by decide +kernel
theorem dX5_order_2 : decode cX5_order 2 = .ok (.aload_n 0, 1) := by decide +kernel
theorem dX5_order_3 : decode cX5_order 3 = .ok (.getfield 109, 3) := by decide +kernel
theorem dX5_order_6 : decode cX5_order 6 = .ok (.iconst 1, 1) := by decide +kernel
theorem dX5_order_7 : decode cX5_order 7 = .ok (.isub, 1) := by decide +kernel
theorem dX5_order_8 : decode cX5_order 8 = .ok (.invokestatic 92, 3) := by decide +kernel
theorem dX5_order_11 : decode cX5_order 11 = .ok (.ifCond .eq 33, 3) := by decide +kernel
theorem dX5_order_14 : decode cX5_order 14 = .ok (.iload_n 2, 1) := by decide +kernel
theorem dX5_order_15 : decode cX5_order 15 = .ok (.iconst 1, 1) := by decide +kernel
theorem dX5_order_16 : decode cX5_order 16 = .ok (.bipush 6, 2) := by decide +kernel
theorem dX5_order_18 : decode cX5_order 18 = .ok (.invokestatic 92, 3) := by decide +kernel
theorem dX5_order_21 : decode cX5_order 21 = .ok (.ifCond .eq 23, 3) := by decide +kernel
theorem dX5_order_24 : decode cX5_order 24 = .ok (.iload_n 3, 1) := by decide +kernel
theorem dX5_order_25 : decode cX5_order 25 = .ok (.iconst 0, 1) := by decide +kernel
theorem dX5_order_26 : decode cX5_order 26 = .ok (.iconst 1, 1) := by decide +kernel
theorem dX5_order_27 : decode cX5_order 27 = .ok (.invokestatic 92, 3) := by decide +kernel
theorem dX5_order_30 : decode cX5_order 30 = .ok (.ifCond .eq 14, 3) := by decide +kernel
theorem dX5_order_33 : decode cX5_order 33 = .ok (.aload_n 0, 1) := by decide +kernel
theorem dX5_order_34 : decode cX5_order 34 = .ok (.getfield 112, 3) := by decide +kernel
theorem dX5_order_37 : decode cX5_order 37 = .ok (.iload_n 2, 1) := by decide +kernel
theorem dX5_order_38 : decode cX5_order 38 = .ok (.iadd, 1) := by decide +kernel
theorem dX5_order_39 : decode cX5_order 39 = .ok (.bipush 100, 2) := by decide +kernel
theorem dX5_order_41 : decode cX5_order 41 = .ok (.if_icmp .le 5, 3) := by decide +kernel
theorem dX5_order_44 : decode cX5_order 44 = .ok (.iconst (-1), 1) := by decide +kernel
theorem dX5_order_45 : decode cX5_order 45 = .ok (.ireturn, 1) := by decide +kernel
theorem dX5_order_46 : decode cX5_order 46 = .ok (.aload_n 0, 1) := by decide +kernel
theorem dX5_order_47 : decode cX5_order 47 = .ok (.getfield 112, 3) := by decide +kernel
theorem dX5_order_50 : decode cX5_order 50 = .ok (.istore 4, 2) := by decide +kernel
theorem dX5_order_52 : decode cX5_order 52 = .ok (.iconst 0, 1) := by decide +kernel
theorem dX5_order_53 : decode cX5_order 53 = .ok (.istore 5, 2) := by decide +kernel
theorem dX5_order_55 : decode cX5_order 55 = .ok (.iload 5, 2) := by decide +kernel
theorem dX5_order_57 : decode cX5_order 57 = .ok (.iload_n 2, 1) := by decide +kernel
theorem dX5_order_58 : decode cX5_order 58 = .ok (.if_icmp .ge 93, 3) := by decide +kernel
theorem dX5_order_61 : decode cX5_order 61 = .ok (.aload_n 0, 1) := by decide +kernel
theorem dX5_order_62 : decode cX5_order 62 = .ok (.getfield 23, 3) := by decide +kernel
theorem dX5_order_65 : decode cX5_order 65 = .ok (.aload_n 0, 1) := by decide +kernel
theorem dX5_order_66 : decode cX5_order 66 = .ok (.getfield 112, 3) := by decide +kernel
theorem dX5_order_69 : decode cX5_order 69 = .ok (.aload_n 0, 1) := by decide +kernel
theorem dX5_order_70 : decode cX5_order 70 = .ok (.getfield 13, 3) := by decide +kernel
theorem dX5_order_73 : decode cX5_order 73 = .ok (.iload_n 1, 1) := by decide +kernel
theorem dX5_order_74 : decode cX5_order 74 = .ok (.iaload, 1) := by decide +kernel
theorem dX5_order_75 : decode cX5_order 75 = .ok (.iastore, 1) := by decide +kernel
theorem dX5_order_76 : decode cX5_order 76 = .ok (.aload_n 0, 1) := by decide +kernel
theorem dX5_order_77 : decode cX5_order 77 = .ok (.getfield 26, 3) := by decide +kernel
theorem dX5_order_80 : decode cX5_order 80 = .ok (.aload_n 0, 1) := by decide +kernel
theorem dX5_order_81 : decode cX5_order 81 = .ok (.getfield 112, 3) := by decide +kernel
theorem dX5_order_84 : decode cX5_order 84 = .ok (.aload_n 0, 1) := by decide +kernel
theorem dX5_order_85 : decode cX5_order 85 = .ok (.getfield 17, 3) := by decide +kernel
theorem dX5_order_88 : decode cX5_order 88 = .ok (.iload_n 1, 1) := by decide +kernel
theorem dX5_order_89 : decode cX5_order 89 = .ok (.iaload, 1) := by decide +kernel
theorem dX5_order_90 : decode cX5_order 90 = .ok (.iastore, 1) := by decide +kernel
theorem dX5_order_91 : decode cX5_order 91 = .ok (.aload_n 0, 1) := by decide +kernel
theorem dX5_order_92 : decode cX5_order 92 = .ok (.getfield 29, 3) := by decide +kernel
theorem dX5_order_95 : decode cX5_order 95 = .ok (.aload_n 0, 1) := by decide +kernel
theorem dX5_order_96 : decode cX5_order 96 = .ok (.getfield 112, 3) := by decide +kernel
theorem dX5_order_99 : decode cX5_order 99 = .ok (.iload 4, 2) := by decide +kernel
theorem dX5_order_101 : decode cX5_order 101 = .ok (.iastore, 1) := by decide +kernel
theorem dX5_order_102 : decode cX5_order 102 = .ok (.aload_n 0, 1) := by decide +kernel
theorem dX5_order_103 : decode cX5_order 103 = .ok (.getfield 32, 3) := by decide +kernel
theorem dX5_order_106 : decode cX5_order 106 = .ok (.aload_n 0, 1) := by decide +kernel
theorem dX5_order_107 : decode cX5_order 107 = .ok (.getfield 112, 3) := by decide +kernel
theorem dX5_order_110 : decode cX5_order 110 = .ok (.iload_n 3, 1) := by decide +kernel
theorem dX5_order_111 : decode cX5_order 111 = .ok (.iastore, 1) := by decide +kernel
theorem dX5_order_112 : decode cX5_order 112 = .ok (.aload_n 0, 1) := by decide +kernel
theorem dX5_order_113 : decode cX5_order 113 = .ok (.getfield 35, 3) := by decide +kernel
theorem dX5_order_116 : decode cX5_order 116 = .ok (.aload_n 0, 1) := by decide +kernel
theorem dX5_order_117 : decode cX5_order 117 = .ok (.getfield 112, 3) := by decide +kernel
theorem dX5_order_120 : decode cX5_order 120 = .ok (.aload_n 0, 1) := by decide +kernel
theorem dX5_order_121 : decode cX5_order 121 = .ok (.getfield 115, 3) := by decide +kernel
theorem dX5_order_124 : decode cX5_order 124 = .ok (.iastore, 1) := by decide +kernel
theorem dX5_order_125 : decode cX5_order 125 = .ok (.aload_n 0, 1) := by decide +kernel
theorem dX5_order_126 : decode cX5_order 126 = .ok (.getfield 50, 3) := by decide +kernel
theorem dX5_order_129 : decode cX5_order 129 = .ok (.aload_n 0, 1) := by decide +kernel
theorem dX5_order_130 : decode cX5_order 130 = .ok (.getfield 112, 3) := by decide +kernel
theorem dX5_order_133 : decode cX5_order 133 = .ok (.iconst (-1), 1) := by decide +kernel
theorem dX5_order_134 : decode cX5_order 134 = .ok (.iastore, 1) := by decide +kernel
theorem dX5_order_135 : decode cX5_order 135 = .ok (.aload_n 0, 1) := by decide +kernel
theorem dX5_order_136 : decode cX5_order 136 = .ok (.dup, 1) := by decide +kernel
theorem dX5_order_137 : decode cX5_order 137 = .ok (.getfield 112, 3) := by decide +kernel
theorem dX5_order_140 : decode cX5_order 140 = .ok (.iconst 1, 1) := by decide +kernel
theorem dX5_order_141 : decode cX5_order 141 = .ok (.iadd, 1) := by decide +kernel
theorem dX5_order_142 : decode cX5_order 142 = .ok (.putfield 112, 3) := by decide +kernel
theorem dX5_order_145 : decode cX5_order 145 = .ok (.iinc 5 1, 3) := by decide +kernel
theorem dX5_order_148 : decode cX5_order 148 = .ok (.goto (-93), 3) := by decide +kernel
theorem dX5_order_151 : decode cX5_order 151 = .ok (.iload 4, 2) := by decide +kernel
theorem dX5_order_153 : decode cX5_order 153 = .ok (.ireturn, 1) := by decide +kernel
set_option maxRecDepth 20000 in
theorem ggX5_take_X5_in : GoodIn wsX5_take wsX5_in := goodIn_r _ [8] (by decide +kernel) (by decide +kernel)
set_option maxRecDepth 20000 in
theorem gX5_take_X5_in : GoodIn wsX5_take (va_wsS RX5 92 yX5_in wsX5_in) := goodIn_app (goodIn_of _ (by decide +kernel)) ggX5_take_X5_in
set_option maxRecDepth 20000 in
theorem ggX5_take_X5_beans : GoodIn wsX5_take wsX5_beans := goodIn_r _ [11, 12] (by decide +kernel) (by decide +kernel)
set_option maxRecDepth 20000 in
theorem gX5_take_X5_beans : GoodIn wsX5_take (va_wsS RX5 88 yX5_beans wsX5_beans) := goodIn_app (goodIn_of _ (by decide +kernel)) ggX5_take_X5_beans
theorem dX5_take_0 : decode cX5_take 0 = .ok (.iload_n 1, 1) := by decide +kernel
theorem dX5_take_1 : decode cX5_take 1 = .ok (.iconst 0, 1) := by decide +kernel
theorem dX5_take_2 : decode cX5_take 2 = .ok (.aload_n 0, 1) := by decide +kernel
theorem dX5_take_3 : decode cX5_take 3 = .ok (.getfield 112, 3) := by decide +kernel
theorem dX5_take_6 : decode cX5_take 6 = .ok (.iconst 1, 1) := by decide +kernel
theorem dX5_take_7 : decode cX5_take 7 = .ok (.isub, 1) := by decide +kernel
theorem dX5_take_8 : decode cX5_take 8 = .ok (.invokestatic 92, 3) := by decide +kernel
theorem dX5_take_11 : decode cX5_take 11 = .ok (.ifCond .eq 22, 3) := by decide +kernel
theorem dX5_take_14 : decode cX5_take 14 = .ok (.aload_n 0, 1) := by decide +kernel
theorem dX5_take_15 : decode cX5_take 15 = .ok (.getfield 38, 3) := by decide +kernel
theorem dX5_take_18 : decode cX5_take 18 = .ok (.iload_n 1, 1) := by decide +kernel
theorem dX5_take_19 : decode cX5_take 19 = .ok (.iaload, 1) := by decide +kernel
theorem dX5_take_20 : decode cX5_take 20 = .ok (.ifCond .eq 15, 3) := by decide +kernel
theorem dX5_take_23 : decode cX5_take 23 = .ok (.aload_n 0, 1) := by decide +kernel
theorem dX5_take_24 : decode cX5_take 24 = .ok (.getfield 38, 3) := by decide +kernel
theorem dX5_take_27 : decode cX5_take 27 = .ok (.iload_n 1, 1) := by decide +kernel
theorem dX5_take_28 : decode cX5_take 28 = .ok (.iaload, 1) := by decide +kernel
theorem dX5_take_29 : decode cX5_take 29 = .ok (.iconst 2, 1) := by decide +kernel
theorem dX5_take_30 : decode cX5_take 30 = .ok (.if_icmp .eq 5, 3) := by decide +kernel
theorem dX5_take_33 : decode cX5_take 33 = .ok (.iconst 0, 1) := by decide +kernel
theorem dX5_take_34 : decode cX5_take 34 = .ok (.ireturn, 1) := by decide +kernel
theorem dX5_take_35 : decode cX5_take 35 = .ok (.aload_n 0, 1) := by decide +kernel
theorem dX5_take_36 : decode cX5_take 36 = .ok (.getfield 38, 3) := by decide +kernel
theorem dX5_take_39 : decode cX5_take 39 = .ok (.iload_n 1, 1) := by decide +kernel
theorem dX5_take_40 : decode cX5_take 40 = .ok (.iaload, 1) := by decide +kernel
theorem dX5_take_41 : decode cX5_take 41 = .ok (.iconst 2, 1) := by decide +kernel
theorem dX5_take_42 : decode cX5_take 42 = .ok (.if_icmp .ne 21, 3) := by decide +kernel
theorem dX5_take_45 : decode cX5_take 45 = .ok (.aload_n 0, 1) := by decide +kernel
theorem dX5_take_46 : decode cX5_take 46 = .ok (.dup, 1) := by decide +kernel
theorem dX5_take_47 : decode cX5_take 47 = .ok (.getfield 118, 3) := by decide +kernel
theorem dX5_take_50 : decode cX5_take 50 = .ok (.aload_n 0, 1) := by decide +kernel
theorem dX5_take_51 : decode cX5_take 51 = .ok (.getfield 23, 3) := by decide +kernel
theorem dX5_take_54 : decode cX5_take 54 = .ok (.iload_n 1, 1) := by decide +kernel
theorem dX5_take_55 : decode cX5_take 55 = .ok (.iaload, 1) := by decide +kernel
theorem dX5_take_56 : decode cX5_take 56 = .ok (.invokestatic 88, 3) := by decide +kernel
theorem dX5_take_59 : decode cX5_take 59 = .ok (.iadd, 1) := by decide +kernel
theorem dX5_take_60 : decode cX5_take 60 = .ok (.putfield 118, 3) := by decide +kernel
theorem dX5_take_63 : decode cX5_take 63 = .ok (.aload_n 0, 1) := by decide +kernel
theorem dX5_take_64 : decode cX5_take 64 = .ok (.getfield 38, 3) := by decide +kernel
theorem dX5_take_67 : decode cX5_take 67 = .ok (.iload_n 1, 1) := by decide +kernel
theorem dX5_take_68 : decode cX5_take 68 = .ok (.bipush 7, 2) := by decide +kernel
theorem dX5_take_70 : decode cX5_take 70 = .ok (.iastore, 1) := by decide +kernel
theorem dX5_take_71 : decode cX5_take 71 = .ok (.iconst 1, 1) := by decide +kernel
theorem dX5_take_72 : decode cX5_take 72 = .ok (.ireturn, 1) := by decide +kernel
theorem dX5_countOf_0 : decode cX5_countOf 0 = .ok (.iconst 0, 1) := by decide +kernel
theorem dX5_countOf_1 : decode cX5_countOf 1 = .ok (.istore_n 2, 1) := by decide +kernel
theorem dX5_countOf_2 : decode cX5_countOf 2 = .ok (.iconst 0, 1) := by decide +kernel
theorem dX5_countOf_3 : decode cX5_countOf 3 = .ok (.istore_n 3, 1) := by decide +kernel
theorem dX5_countOf_4 : decode cX5_countOf 4 = .ok (.iload_n 3, 1) := by decide +kernel
theorem dX5_countOf_5 : decode cX5_countOf 5 = .ok (.aload_n 0, 1) := by decide +kernel
theorem dX5_countOf_6 : decode cX5_countOf 6 = .ok (.getfield 112, 3) := by decide +kernel
theorem dX5_countOf_9 : decode cX5_countOf 9 = .ok (.if_icmp .ge 27, 3) := by decide +kernel
theorem dX5_countOf_12 : decode cX5_countOf 12 = .ok (.iload_n 2, 1) := by decide +kernel
theorem dX5_countOf_13 : decode cX5_countOf 13 = .ok (.aload_n 0, 1) := by decide +kernel
theorem dX5_countOf_14 : decode cX5_countOf 14 = .ok (.getfield 38, 3) := by decide +kernel
theorem dX5_countOf_17 : decode cX5_countOf 17 = .ok (.iload_n 3, 1) := by decide +kernel
theorem dX5_countOf_18 : decode cX5_countOf 18 = .ok (.iaload, 1) := by decide +kernel
theorem dX5_countOf_19 : decode cX5_countOf 19 = .ok (.iload_n 1, 1) := by decide +kernel
theorem dX5_countOf_20 : decode cX5_countOf 20 = .ok (.if_icmp .ne 7, 3) := by decide +kernel
theorem dX5_countOf_23 : decode cX5_countOf 23 = .ok (.iconst 1, 1) := by decide +kernel
theorem dX5_countOf_24 : decode cX5_countOf 24 = .ok (.goto 4, 3) := by decide +kernel
theorem dX5_countOf_27 : decode cX5_countOf 27 = .ok (.iconst 0, 1) := by decide +kernel
theorem dX5_countOf_28 : decode cX5_countOf 28 = .ok (.iadd, 1) := by decide +kernel
theorem dX5_countOf_29 : decode cX5_countOf 29 = .ok (.istore_n 2, 1) := by decide +kernel
theorem dX5_countOf_30 : decode cX5_countOf 30 = .ok (.iinc 3 1, 3) := by decide +kernel
theorem dX5_countOf_33 : decode cX5_countOf 33 = .ok (.goto (-29), 3) := by decide +kernel
theorem dX5_countOf_36 : decode cX5_countOf 36 = .ok (.iload_n 2, 1) := by decide +kernel
theorem dX5_countOf_37 : decode cX5_countOf 37 = .ok (.ireturn, 1) := by decide +kernel
set_option maxRecDepth 20000 in
theorem ggX5_power_X5_countOf : GoodIn wsX5_power wsX5_countOf := goodIn_r _ [7, 8, 9, 10, 11, 12, 13, 14, 15, 16, 17, 18, 19, 20, 21, 22, 23, 24, 25, 26, 27, 28, 29, 30, 31, 32, 33, 34, 35, 36, 37, 38, 39, 40] (by decide +kernel) (by decide +kernel)
set_option maxRecDepth 20000 in
theorem gX5_power_X5_countOf : GoodIn wsX5_power (wsV RX5 121 RX5 yX5_countOf wsX5_countOf) := goodIn_app (goodIn_of _ (by decide +kernel)) ggX5_power_X5_countOf
theorem dX5_power_0 : decode cX5_power 0 = .ok (.iconst 4, 1) := by decide +kernel
theorem dX5_power_1 : decode cX5_power 1 = .ok (.aload_n 0, 1) := by decide +kernel
theorem dX5_power_2 : decode cX5_power 2 = .ok (.iconst 1, 1) := by decide +kernel
theorem dX5_power_3 : decode cX5_power 3 = .ok (.invokevirtual 121, 3) := by decide +kernel
theorem dX5_power_6 : decode cX5_power 6 = .ok (.imul, 1) := by decide +kernel
theorem dX5_power_7 : decode cX5_power 7 = .ok (.iconst 2, 1) := by decide +kernel
theorem dX5_power_8 : decode cX5_power 8 = .ok (.aload_n 0, 1) := by decide +kernel
theorem dX5_power_9 : decode cX5_power 9 = .ok (.iconst 3, 1) := by decide +kernel
theorem dX5_power_10 : decode cX5_power 10 = .ok (.invokevirtual 121, 3) := by decide +kernel
theorem dX5_power_13 : decode cX5_power 13 = .ok (.imul, 1) := by decide +kernel
theorem dX5_power_14 : decode cX5_power 14 = .ok (.iadd, 1) := by decide +kernel
theorem dX5_power_15 : decode cX5_power 15 = .ok (.iconst 3, 1) := by decide +kernel
theorem dX5_power_16 : decode cX5_power 16 = .ok (.aload_n 0, 1) := by decide +kernel
theorem dX5_power_17 : decode cX5_power 17 = .ok (.iconst 5, 1) := by decide +kernel
theorem dX5_power_18 : decode cX5_power 18 = .ok (.invokevirtual 121, 3) := by decide +kernel
theorem dX5_power_21 : decode cX5_power 21 = .ok (.imul, 1) := by decide +kernel
theorem dX5_power_22 : decode cX5_power 22 = .ok (.iadd, 1) := by decide +kernel
theorem dX5_power_23 : decode cX5_power 23 = .ok (.istore_n 1, 1) := by decide +kernel
theorem dX5_power_24 : decode cX5_power 24 = .ok (.iconst 0, 1) := by decide +kernel
theorem dX5_power_25 : decode cX5_power 25 = .ok (.istore_n 2, 1) := by decide +kernel
theorem dX5_power_26 : decode cX5_power 26 = .ok (.iload_n 2, 1) := by decide +kernel
theorem dX5_power_27 : decode cX5_power 27 = .ok (.aload_n 0, 1) := by decide +kernel
theorem dX5_power_28 : decode cX5_power 28 = .ok (.getfield 80, 3) := by decide +kernel
theorem dX5_power_31 : decode cX5_power 31 = .ok (.if_icmp .ge 26, 3) := by decide +kernel
theorem dX5_power_34 : decode cX5_power 34 = .ok (.iload_n 1, 1) := by decide +kernel
theorem dX5_power_35 : decode cX5_power 35 = .ok (.aload_n 0, 1) := by decide +kernel
theorem dX5_power_36 : decode cX5_power 36 = .ok (.getfield 56, 3) := by decide +kernel
theorem dX5_power_39 : decode cX5_power 39 = .ok (.iload_n 2, 1) := by decide +kernel
theorem dX5_power_40 : decode cX5_power 40 = .ok (.iaload, 1) := by decide +kernel
theorem dX5_power_41 : decode cX5_power 41 = .ok (.ifCond .le 7, 3) := by decide +kernel
theorem dX5_power_44 : decode cX5_power 44 = .ok (.iconst 2, 1) := by decide +kernel
theorem dX5_power_45 : decode cX5_power 45 = .ok (.goto 4, 3) := by decide +kernel
theorem dX5_power_48 : decode cX5_power 48 = .ok (.iconst 0, 1) := by decide +kernel
theorem dX5_power_49 : decode cX5_power 49 = .ok (.iadd, 1) := by decide +kernel
theorem dX5_power_50 : decode cX5_power 50 = .ok (.istore_n 1, 1) := by decide +kernel
theorem dX5_power_51 : decode cX5_power 51 = .ok (.iinc 2 1, 3) := by decide +kernel
theorem dX5_power_54 : decode cX5_power 54 = .ok (.goto (-28), 3) := by decide +kernel
theorem dX5_power_57 : decode cX5_power 57 = .ok (.iload_n 1, 1) := by decide +kernel
theorem dX5_power_58 : decode cX5_power 58 = .ok (.ireturn, 1) := by decide +kernel
set_option maxRecDepth 20000 in
theorem ggX5_mayTake_X5_power : GoodIn wsX5_mayTake wsX5_power := goodIn_r _ [6, 7, 8, 9, 10, 11, 5, 12, 13, 14, 15, 16, 17, 18, 19, 20, 21, 22, 23, 24, 25, 26, 27, 28, 29, 30, 31, 32, 33, 34, 35, 36, 37, 38, 39, 40, 41, 42, 43, 44, 45] (by decide +kernel) (by decide +kernel)
set_option maxRecDepth 20000 in
theorem gX5_mayTake_X5_power : GoodIn wsX5_mayTake (wsV RX5 124 RX5 yX5_power wsX5_power) := goodIn_app (goodIn_of _ (by decide +kernel)) ggX5_mayTake_X5_power
theorem dX5_mayTake_0 : decode cX5_mayTake 0 = .ok (.aload_n 0, 1) := by decide +kernel
theorem dX5_mayTake_1 : decode cX5_mayTake 1 = .ok (.invokevirtual 124, 3) := by decide +kernel
theorem dX5_mayTake_4 : decode cX5_mayTake 4 = .ok (.iload_n 1, 1) := by decide +kernel
theorem dX5_mayTake_5 : decode cX5_mayTake 5 = .ok (.iadd, 1) := by decide +kernel
theorem dX5_mayTake_6 : decode cX5_mayTake 6 = .ok (.aload_n 0, 1) := by decide +kernel
theorem dX5_mayTake_7 : decode cX5_mayTake 7 = .ok (.getfield 83, 3) := by decide +kernel
theorem dX5_mayTake_10 : decode cX5_mayTake 10 = .ok (.if_icmp .gt 7, 3) := by decide +kernel
theorem dX5_mayTake_13 : decode cX5_mayTake 13 = .ok (.iconst 1, 1) := by decide +kernel
theorem dX5_mayTake_14 : decode cX5_mayTake 14 = .ok (.goto 4, 3) := by decide +kernel
theorem dX5_mayTake_17 : decode cX5_mayTake 17 = .ok (.iconst 0, 1) := by decide +kernel
theorem dX5_mayTake_18 : decode cX5_mayTake 18 = .ok (.ireturn, 1) := by decide +kernel
theorem dX5_isFree_0 : decode cX5_isFree 0 = .ok (.aload_n 0, 1) := by decide +kernel
theorem dX5_isFree_1 : decode cX5_isFree 1 = .ok (.getfield 56, 3) := by decide +kernel
theorem dX5_isFree_4 : decode cX5_isFree 4 = .ok (.iload_n 1, 1) := by decide +kernel
theorem dX5_isFree_5 : decode cX5_isFree 5 = .ok (.iaload, 1) := by decide +kernel
theorem dX5_isFree_6 : decode cX5_isFree 6 = .ok (.ifCond .ne 16, 3) := by decide +kernel
theorem dX5_isFree_9 : decode cX5_isFree 9 = .ok (.aload_n 0, 1) := by decide +kernel
theorem dX5_isFree_10 : decode cX5_isFree 10 = .ok (.getfield 62, 3) := by decide +kernel
theorem dX5_isFree_13 : decode cX5_isFree 13 = .ok (.iload_n 1, 1) := by decide +kernel
theorem dX5_isFree_14 : decode cX5_isFree 14 = .ok (.iaload, 1) := by decide +kernel
theorem dX5_isFree_15 : decode cX5_isFree 15 = .ok (.ifCond .ne 7, 3) := by decide +kernel
theorem dX5_isFree_18 : decode cX5_isFree 18 = .ok (.iconst 1, 1) := by decide +kernel
theorem dX5_isFree_19 : decode cX5_isFree 19 = .ok (.goto 4, 3) := by decide +kernel
theorem dX5_isFree_22 : decode cX5_isFree 22 = .ok (.iconst 0, 1) := by decide +kernel
theorem dX5_isFree_23 : decode cX5_isFree 23 = .ok (.istore_n 2, 1) := by decide +kernel
theorem dX5_isFree_24 : decode cX5_isFree 24 = .ok (.iconst 0, 1) := by decide +kernel
theorem dX5_isFree_25 : decode cX5_isFree 25 = .ok (.istore_n 3, 1) := by decide +kernel
theorem dX5_isFree_26 : decode cX5_isFree 26 = .ok (.iload_n 3, 1) := by decide +kernel
theorem dX5_isFree_27 : decode cX5_isFree 27 = .ok (.aload_n 0, 1) := by decide +kernel
theorem dX5_isFree_28 : decode cX5_isFree 28 = .ok (.getfield 112, 3) := by decide +kernel
theorem dX5_isFree_31 : decode cX5_isFree 31 = .ok (.if_icmp .ge 39, 3) := by decide +kernel
theorem dX5_isFree_34 : decode cX5_isFree 34 = .ok (.iload_n 2, 1) := by decide +kernel
theorem dX5_isFree_35 : decode cX5_isFree 35 = .ok (.ifCond .eq 27, 3) := by decide +kernel
theorem dX5_isFree_38 : decode cX5_isFree 38 = .ok (.aload_n 0, 1) := by decide +kernel
theorem dX5_isFree_39 : decode cX5_isFree 39 = .ok (.getfield 38, 3) := by decide +kernel
theorem dX5_isFree_42 : decode cX5_isFree 42 = .ok (.iload_n 3, 1) := by decide +kernel
theorem dX5_isFree_43 : decode cX5_isFree 43 = .ok (.iaload, 1) := by decide +kernel
theorem dX5_isFree_44 : decode cX5_isFree 44 = .ok (.iconst 3, 1) := by decide +kernel
theorem dX5_isFree_45 : decode cX5_isFree 45 = .ok (.if_icmp .ne 13, 3) := by decide +kernel
theorem dX5_isFree_48 : decode cX5_isFree 48 = .ok (.aload_n 0, 1) := by decide +kernel
theorem dX5_isFree_49 : decode cX5_isFree 49 = .ok (.getfield 44, 3) := by decide +kernel
theorem dX5_isFree_52 : decode cX5_isFree 52 = .ok (.iload_n 3, 1) := by decide +kernel
theorem dX5_isFree_53 : decode cX5_isFree 53 = .ok (.iaload, 1) := by decide +kernel
theorem dX5_isFree_54 : decode cX5_isFree 54 = .ok (.iload_n 1, 1) := by decide +kernel
theorem dX5_isFree_55 : decode cX5_isFree 55 = .ok (.if_icmp .eq 7, 3) := by decide +kernel
theorem dX5_isFree_58 : decode cX5_isFree 58 = .ok (.iconst 1, 1) := by decide +kernel
theorem dX5_isFree_59 : decode cX5_isFree 59 = .ok (.goto 4, 3) := by decide +kernel
theorem dX5_isFree_62 : decode cX5_isFree 62 = .ok (.iconst 0, 1) := by decide +kernel
theorem dX5_isFree_63 : decode cX5_isFree 63 = .ok (.istore_n 2, 1) := by decide +kernel
theorem dX5_isFree_64 : decode cX5_isFree 64 = .ok (.iinc 3 1, 3) := by decide +kernel
theorem dX5_isFree_67 : decode cX5_isFree 67 = .ok (.goto (-41), 3) := by decide +kernel
theorem dX5_isFree_70 : decode cX5_isFree 70 = .ok (.iload_n 2, 1) := by decide +kernel
theorem dX5_isFree_71 : decode cX5_isFree 71 = .ok (.ireturn, 1) := by decide +kernel
set_option maxRecDepth 20000 in
theorem ggX5_goesOn_X5_spoils : GoodIn wsX5_goesOn wsX5_spoils := goodIn_r _ [14, 15, 16, 17, 2, 18, 19, 13, 20, 21, 31, 32, 33, 34, 35, 36, 37, 38, 39, 40, 41, 42, 43, 44, 45, 46, 47, 48, 49, 50, 51, 52, 53, 54, 55, 56, 57, 58, 59, 60, 61] (by decide +kernel) (by decide +kernel)
set_option maxRecDepth 20000 in
theorem gX5_goesOn_X5_spoils : GoodIn wsX5_goesOn (wsV RX5 128 RX5 yX5_spoils wsX5_spoils) := goodIn_app (goodIn_of _ (by decide +kernel)) ggX5_goesOn_X5_spoils
set_option maxRecDepth 20000 in
theorem ggX5_goesOn_X5_cupGoes : GoodIn wsX5_goesOn wsX5_cupGoes := goodIn_r _ [25, 26, 2, 4, 3, 16, 27, 28, 29, 13, 30, 31, 32, 33, 34, 35, 36, 37, 38, 39, 40, 41, 42, 43, 44, 45, 46, 47, 48, 49, 50, 51, 52, 53, 54, 55, 56, 57, 58, 59, 60, 61] (by decide +kernel) (by decide +kernel)
set_option maxRecDepth 20000 in
theorem gX5_goesOn_X5_cupGoes : GoodIn wsX5_goesOn (wsV RX5 132 RX5 yX5_cupGoes wsX5_cupGoes) := goodIn_app (goodIn_of _ (by decide +kernel)) ggX5_goesOn_X5_cupGoes
theorem dX5_goesOn_0 : decode cX5_goesOn 0 = .ok (.iconst 0, 1) := by decide +kernel
theorem dX5_goesOn_1 : decode cX5_goesOn 1 = .ok (.istore_n 1, 1) := by decide +kernel
theorem dX5_goesOn_2 : decode cX5_goesOn 2 = .ok (.iload_n 1, 1) := by decide +kernel
theorem dX5_goesOn_3 : decode cX5_goesOn 3 = .ok (.aload_n 0, 1) := by decide +kernel
theorem dX5_goesOn_4 : decode cX5_goesOn 4 = .ok (.getfield 112, 3) := by decide +kernel
theorem dX5_goesOn_7 : decode cX5_goesOn 7 = .ok (.if_icmp .ge 78, 3) := by decide +kernel
theorem dX5_goesOn_10 : decode cX5_goesOn 10 = .ok (.aload_n 0, 1) := by decide +kernel
theorem dX5_goesOn_11 : decode cX5_goesOn 11 = .ok (.getfield 38, 3) := by decide +kernel
theorem dX5_goesOn_14 : decode cX5_goesOn 14 = .ok (.iload_n 1, 1) := by decide +kernel
theorem dX5_goesOn_15 : decode cX5_goesOn 15 = .ok (.iaload, 1) := by decide +kernel
theorem dX5_goesOn_16 : decode cX5_goesOn 16 = .ok (.iconst 2, 1) := by decide +kernel
theorem dX5_goesOn_17 : decode cX5_goesOn 17 = .ok (.if_icmp .ne 27, 3) := by decide +kernel
theorem dX5_goesOn_20 : decode cX5_goesOn 20 = .ok (.aload_n 0, 1) := by decide +kernel
theorem dX5_goesOn_21 : decode cX5_goesOn 21 = .ok (.getfield 115, 3) := by decide +kernel
theorem dX5_goesOn_24 : decode cX5_goesOn 24 = .ok (.aload_n 0, 1) := by decide +kernel
theorem dX5_goesOn_25 : decode cX5_goesOn 25 = .ok (.getfield 47, 3) := by decide +kernel
theorem dX5_goesOn_28 : decode cX5_goesOn 28 = .ok (.iload_n 1, 1) := by decide +kernel
theorem dX5_goesOn_29 : decode cX5_goesOn 29 = .ok (.iaload, 1) := by decide +kernel
theorem dX5_goesOn_30 : decode cX5_goesOn 30 = .ok (.isub, 1) := by decide +kernel
theorem dX5_goesOn_31 : decode cX5_goesOn 31 = .ok (.bipush 30, 2) := by decide +kernel
theorem dX5_goesOn_33 : decode cX5_goesOn 33 = .ok (.if_icmp .lt 11, 3) := by decide +kernel
theorem dX5_goesOn_36 : decode cX5_goesOn 36 = .ok (.aload_n 0, 1) := by decide +kernel
theorem dX5_goesOn_37 : decode cX5_goesOn 37 = .ok (.iload_n 1, 1) := by decide +kernel
theorem dX5_goesOn_38 : decode cX5_goesOn 38 = .ok (.invokevirtual 128, 3) := by decide +kernel
theorem dX5_goesOn_41 : decode cX5_goesOn 41 = .ok (.goto 38, 3) := by decide +kernel
theorem dX5_goesOn_44 : decode cX5_goesOn 44 = .ok (.aload_n 0, 1) := by decide +kernel
theorem dX5_goesOn_45 : decode cX5_goesOn 45 = .ok (.getfield 38, 3) := by decide +kernel
theorem dX5_goesOn_48 : decode cX5_goesOn 48 = .ok (.iload_n 1, 1) := by decide +kernel
theorem dX5_goesOn_49 : decode cX5_goesOn 49 = .ok (.iaload, 1) := by decide +kernel
theorem dX5_goesOn_50 : decode cX5_goesOn 50 = .ok (.iconst 1, 1) := by decide +kernel
theorem dX5_goesOn_51 : decode cX5_goesOn 51 = .ok (.if_icmp .eq 23, 3) := by decide +kernel
theorem dX5_goesOn_54 : decode cX5_goesOn 54 = .ok (.aload_n 0, 1) := by decide +kernel
theorem dX5_goesOn_55 : decode cX5_goesOn 55 = .ok (.getfield 38, 3) := by decide +kernel
theorem dX5_goesOn_58 : decode cX5_goesOn 58 = .ok (.iload_n 1, 1) := by decide +kernel
theorem dX5_goesOn_59 : decode cX5_goesOn 59 = .ok (.iaload, 1) := by decide +kernel
theorem dX5_goesOn_60 : decode cX5_goesOn 60 = .ok (.iconst 3, 1) := by decide +kernel
theorem dX5_goesOn_61 : decode cX5_goesOn 61 = .ok (.if_icmp .eq 13, 3) := by decide +kernel
theorem dX5_goesOn_64 : decode cX5_goesOn 64 = .ok (.aload_n 0, 1) := by decide +kernel
theorem dX5_goesOn_65 : decode cX5_goesOn 65 = .ok (.getfield 38, 3) := by decide +kernel
theorem dX5_goesOn_68 : decode cX5_goesOn 68 = .ok (.iload_n 1, 1) := by decide +kernel
theorem dX5_goesOn_69 : decode cX5_goesOn 69 = .ok (.iaload, 1) := by decide +kernel
theorem dX5_goesOn_70 : decode cX5_goesOn 70 = .ok (.iconst 5, 1) := by decide +kernel
theorem dX5_goesOn_71 : decode cX5_goesOn 71 = .ok (.if_icmp .ne 8, 3) := by decide +kernel
theorem dX5_goesOn_74 : decode cX5_goesOn 74 = .ok (.aload_n 0, 1) := by decide +kernel
theorem dX5_goesOn_75 : decode cX5_goesOn 75 = .ok (.iload_n 1, 1) := by decide +kernel
theorem dX5_goesOn_76 : decode cX5_goesOn 76 = .ok (.invokevirtual 132, 3) := by decide +kernel
theorem dX5_goesOn_79 : decode cX5_goesOn 79 = .ok (.iinc 1 1, 3) := by decide +kernel
theorem dX5_goesOn_82 : decode cX5_goesOn 82 = .ok (.goto (-80), 3) := by decide +kernel
theorem dX5_goesOn_85 : decode cX5_goesOn 85 = .ok (.iconst 0, 1) := by decide +kernel
theorem dX5_goesOn_86 : decode cX5_goesOn 86 = .ok (.istore_n 1, 1) := by decide +kernel
theorem dX5_goesOn_87 : decode cX5_goesOn 87 = .ok (.iload_n 1, 1) := by decide +kernel
theorem dX5_goesOn_88 : decode cX5_goesOn 88 = .ok (.aload_n 0, 1) := by decide +kernel
theorem dX5_goesOn_89 : decode cX5_goesOn 89 = .ok (.getfield 80, 3) := by decide +kernel
theorem dX5_goesOn_92 : decode cX5_goesOn 92 = .ok (.if_icmp .ge 79, 3) := by decide +kernel
theorem dX5_goesOn_95 : decode cX5_goesOn 95 = .ok (.aload_n 0, 1) := by decide +kernel
theorem dX5_goesOn_96 : decode cX5_goesOn 96 = .ok (.getfield 62, 3) := by decide +kernel
theorem dX5_goesOn_99 : decode cX5_goesOn 99 = .ok (.iload_n 1, 1) := by decide +kernel
theorem dX5_goesOn_100 : decode cX5_goesOn 100 = .ok (.iaload, 1) := by decide +kernel
theorem dX5_goesOn_101 : decode cX5_goesOn 101 = .ok (.ifCond .le 13, 3) := by decide +kernel
theorem dX5_goesOn_104 : decode cX5_goesOn 104 = .ok (.aload_n 0, 1) := by decide +kernel
theorem dX5_goesOn_105 : decode cX5_goesOn 105 = .ok (.getfield 62, 3) := by decide +kernel
theorem dX5_goesOn_108 : decode cX5_goesOn 108 = .ok (.iload_n 1, 1) := by decide +kernel
theorem dX5_goesOn_109 : decode cX5_goesOn 109 = .ok (.dup2, 1) := by decide +kernel
theorem dX5_goesOn_110 : decode cX5_goesOn 110 = .ok (.iaload, 1) := by decide +kernel
theorem dX5_goesOn_111 : decode cX5_goesOn 111 = .ok (.iconst 1, 1) := by decide +kernel
theorem dX5_goesOn_112 : decode cX5_goesOn 112 = .ok (.isub, 1) := by decide +kernel
theorem dX5_goesOn_113 : decode cX5_goesOn 113 = .ok (.iastore, 1) := by decide +kernel
theorem dX5_goesOn_114 : decode cX5_goesOn 114 = .ok (.aload_n 0, 1) := by decide +kernel
theorem dX5_goesOn_115 : decode cX5_goesOn 115 = .ok (.getfield 56, 3) := by decide +kernel
theorem dX5_goesOn_118 : decode cX5_goesOn 118 = .ok (.iload_n 1, 1) := by decide +kernel
theorem dX5_goesOn_119 : decode cX5_goesOn 119 = .ok (.iaload, 1) := by decide +kernel
theorem dX5_goesOn_120 : decode cX5_goesOn 120 = .ok (.ifCond .ne 6, 3) := by decide +kernel
theorem dX5_goesOn_123 : decode cX5_goesOn 123 = .ok (.goto 42, 3) := by decide +kernel
theorem dX5_goesOn_126 : decode cX5_goesOn 126 = .ok (.aload_n 0, 1) := by decide +kernel
theorem dX5_goesOn_127 : decode cX5_goesOn 127 = .ok (.getfield 56, 3) := by decide +kernel
theorem dX5_goesOn_130 : decode cX5_goesOn 130 = .ok (.iload_n 1, 1) := by decide +kernel
theorem dX5_goesOn_131 : decode cX5_goesOn 131 = .ok (.dup2, 1) := by decide +kernel
theorem dX5_goesOn_132 : decode cX5_goesOn 132 = .ok (.iaload, 1) := by decide +kernel
theorem dX5_goesOn_133 : decode cX5_goesOn 133 = .ok (.iconst 1, 1) := by decide +kernel
theorem dX5_goesOn_134 : decode cX5_goesOn 134 = .ok (.isub, 1) := by decide +kernel
theorem dX5_goesOn_135 : decode cX5_goesOn 135 = .ok (.iastore, 1) := by decide +kernel
theorem dX5_goesOn_136 : decode cX5_goesOn 136 = .ok (.aload_n 0, 1) := by decide +kernel
theorem dX5_goesOn_137 : decode cX5_goesOn 137 = .ok (.getfield 56, 3) := by decide +kernel
theorem dX5_goesOn_140 : decode cX5_goesOn 140 = .ok (.iload_n 1, 1) := by decide +kernel
theorem dX5_goesOn_141 : decode cX5_goesOn 141 = .ok (.iaload, 1) := by decide +kernel
theorem dX5_goesOn_142 : decode cX5_goesOn 142 = .ok (.ifCond .le 6, 3) := by decide +kernel
theorem dX5_goesOn_145 : decode cX5_goesOn 145 = .ok (.goto 20, 3) := by decide +kernel
theorem dX5_goesOn_148 : decode cX5_goesOn 148 = .ok (.aload_n 0, 1) := by decide +kernel
theorem dX5_goesOn_149 : decode cX5_goesOn 149 = .ok (.getfield 59, 3) := by decide +kernel
theorem dX5_goesOn_152 : decode cX5_goesOn 152 = .ok (.iload_n 1, 1) := by decide +kernel
theorem dX5_goesOn_153 : decode cX5_goesOn 153 = .ok (.iconst 0, 1) := by decide +kernel
theorem dX5_goesOn_154 : decode cX5_goesOn 154 = .ok (.iastore, 1) := by decide +kernel
theorem dX5_goesOn_155 : decode cX5_goesOn 155 = .ok (.aload_n 0, 1) := by decide +kernel
theorem dX5_goesOn_156 : decode cX5_goesOn 156 = .ok (.dup, 1) := by decide +kernel
theorem dX5_goesOn_157 : decode cX5_goesOn 157 = .ok (.getfield 135, 3) := by decide +kernel
theorem dX5_goesOn_160 : decode cX5_goesOn 160 = .ok (.iconst 1, 1) := by decide +kernel
theorem dX5_goesOn_161 : decode cX5_goesOn 161 = .ok (.iadd, 1) := by decide +kernel
theorem dX5_goesOn_162 : decode cX5_goesOn 162 = .ok (.putfield 135, 3) := by decide +kernel
theorem dX5_goesOn_165 : decode cX5_goesOn 165 = .ok (.iinc 1 1, 3) := by decide +kernel
theorem dX5_goesOn_168 : decode cX5_goesOn 168 = .ok (.goto (-81), 3) := by decide +kernel
theorem dX5_goesOn_171 : decode cX5_goesOn 171 = .ok (.return_, 1) := by decide +kernel
set_option maxRecDepth 20000 in
theorem ggX5_spoils_X5_beans : GoodIn wsX5_spoils wsX5_beans := goodIn_r _ [8, 9] (by decide +kernel) (by decide +kernel)
set_option maxRecDepth 20000 in
theorem gX5_spoils_X5_beans : GoodIn wsX5_spoils (va_wsS RX5 88 yX5_beans wsX5_beans) := goodIn_app (goodIn_of _ (by decide +kernel)) ggX5_spoils_X5_beans
theorem dX5_spoils_0 : decode cX5_spoils 0 = .ok (.aload_n 0, 1) := by decide +kernel
theorem dX5_spoils_1 : decode cX5_spoils 1 = .ok (.dup, 1) := by decide +kernel
theorem dX5_spoils_2 : decode cX5_spoils 2 = .ok (.getfield 118, 3) := by decide +kernel
theorem dX5_spoils_5 : decode cX5_spoils 5 = .ok (.aload_n 0, 1) := by decide +kernel
theorem dX5_spoils_6 : decode cX5_spoils 6 = .ok (.getfield 23, 3) := by decide +kernel
theorem dX5_spoils_9 : decode cX5_spoils 9 = .ok (.iload_n 1, 1) := by decide +kernel
theorem dX5_spoils_10 : decode cX5_spoils 10 = .ok (.iaload, 1) := by decide +kernel
theorem dX5_spoils_11 : decode cX5_spoils 11 = .ok (.invokestatic 88, 3) := by decide +kernel
theorem dX5_spoils_14 : decode cX5_spoils 14 = .ok (.iadd, 1) := by decide +kernel
theorem dX5_spoils_15 : decode cX5_spoils 15 = .ok (.putfield 118, 3) := by decide +kernel
theorem dX5_spoils_18 : decode cX5_spoils 18 = .ok (.aload_n 0, 1) := by decide +kernel
theorem dX5_spoils_19 : decode cX5_spoils 19 = .ok (.getfield 53, 3) := by decide +kernel
theorem dX5_spoils_22 : decode cX5_spoils 22 = .ok (.iload_n 1, 1) := by decide +kernel
theorem dX5_spoils_23 : decode cX5_spoils 23 = .ok (.dup2, 1) := by decide +kernel
theorem dX5_spoils_24 : decode cX5_spoils 24 = .ok (.iaload, 1) := by decide +kernel
theorem dX5_spoils_25 : decode cX5_spoils 25 = .ok (.iconst 1, 1) := by decide +kernel
theorem dX5_spoils_26 : decode cX5_spoils 26 = .ok (.iadd, 1) := by decide +kernel
theorem dX5_spoils_27 : decode cX5_spoils 27 = .ok (.iastore, 1) := by decide +kernel
theorem dX5_spoils_28 : decode cX5_spoils 28 = .ok (.aload_n 0, 1) := by decide +kernel
theorem dX5_spoils_29 : decode cX5_spoils 29 = .ok (.getfield 38, 3) := by decide +kernel
theorem dX5_spoils_32 : decode cX5_spoils 32 = .ok (.iload_n 1, 1) := by decide +kernel
theorem dX5_spoils_33 : decode cX5_spoils 33 = .ok (.iconst 0, 1) := by decide +kernel
theorem dX5_spoils_34 : decode cX5_spoils 34 = .ok (.iastore, 1) := by decide +kernel
theorem dX5_spoils_35 : decode cX5_spoils 35 = .ok (.return_, 1) := by decide +kernel
set_option maxRecDepth 20000 in
theorem ggX5_cupGoes_X5_steam : GoodIn wsX5_cupGoes wsX5_steam := goodIn_r _ [10] (by decide +kernel) (by decide +kernel)
set_option maxRecDepth 20000 in
theorem gX5_cupGoes_X5_steam : GoodIn wsX5_cupGoes (va_wsS RX5 102 yX5_steam wsX5_steam) := goodIn_app (goodIn_of _ (by decide +kernel)) ggX5_cupGoes_X5_steam
theorem dX5_cupGoes_0 : decode cX5_cupGoes 0 = .ok (.aload_n 0, 1) := by decide +kernel
theorem dX5_cupGoes_1 : decode cX5_cupGoes 1 = .ok (.getfield 41, 3) := by decide +kernel
theorem dX5_cupGoes_4 : decode cX5_cupGoes 4 = .ok (.iload_n 1, 1) := by decide +kernel
theorem dX5_cupGoes_5 : decode cX5_cupGoes 5 = .ok (.dup2, 1) := by decide +kernel
theorem dX5_cupGoes_6 : decode cX5_cupGoes 6 = .ok (.iaload, 1) := by decide +kernel
theorem dX5_cupGoes_7 : decode cX5_cupGoes 7 = .ok (.iconst 1, 1) := by decide +kernel
theorem dX5_cupGoes_8 : decode cX5_cupGoes 8 = .ok (.isub, 1) := by decide +kernel
theorem dX5_cupGoes_9 : decode cX5_cupGoes 9 = .ok (.iastore, 1) := by decide +kernel
theorem dX5_cupGoes_10 : decode cX5_cupGoes 10 = .ok (.aload_n 0, 1) := by decide +kernel
theorem dX5_cupGoes_11 : decode cX5_cupGoes 11 = .ok (.getfield 41, 3) := by decide +kernel
theorem dX5_cupGoes_14 : decode cX5_cupGoes 14 = .ok (.iload_n 1, 1) := by decide +kernel
theorem dX5_cupGoes_15 : decode cX5_cupGoes 15 = .ok (.iaload, 1) := by decide +kernel
theorem dX5_cupGoes_16 : decode cX5_cupGoes 16 = .ok (.ifCond .le 4, 3) := by decide +kernel
theorem dX5_cupGoes_19 : decode cX5_cupGoes 19 = .ok (.return_, 1) := by decide +kernel
theorem dX5_cupGoes_20 : decode cX5_cupGoes 20 = .ok (.aload_n 0, 1) := by decide +kernel
theorem dX5_cupGoes_21 : decode cX5_cupGoes 21 = .ok (.getfield 38, 3) := by decide +kernel
theorem dX5_cupGoes_24 : decode cX5_cupGoes 24 = .ok (.iload_n 1, 1) := by decide +kernel
theorem dX5_cupGoes_25 : decode cX5_cupGoes 25 = .ok (.iaload, 1) := by decide +kernel
theorem dX5_cupGoes_26 : decode cX5_cupGoes 26 = .ok (.iconst 1, 1) := by decide +kernel
theorem dX5_cupGoes_27 : decode cX5_cupGoes 27 = .ok (.if_icmp .ne 23, 3) := by decide +kernel
theorem dX5_cupGoes_30 : decode cX5_cupGoes 30 = .ok (.aload_n 0, 1) := by decide +kernel
theorem dX5_cupGoes_31 : decode cX5_cupGoes 31 = .ok (.getfield 38, 3) := by decide +kernel
theorem dX5_cupGoes_34 : decode cX5_cupGoes 34 = .ok (.iload_n 1, 1) := by decide +kernel
theorem dX5_cupGoes_35 : decode cX5_cupGoes 35 = .ok (.iconst 2, 1) := by decide +kernel
theorem dX5_cupGoes_36 : decode cX5_cupGoes 36 = .ok (.iastore, 1) := by decide +kernel
theorem dX5_cupGoes_37 : decode cX5_cupGoes 37 = .ok (.aload_n 0, 1) := by decide +kernel
theorem dX5_cupGoes_38 : decode cX5_cupGoes 38 = .ok (.getfield 47, 3) := by decide +kernel
theorem dX5_cupGoes_41 : decode cX5_cupGoes 41 = .ok (.iload_n 1, 1) := by decide +kernel
theorem dX5_cupGoes_42 : decode cX5_cupGoes 42 = .ok (.aload_n 0, 1) := by decide +kernel
theorem dX5_cupGoes_43 : decode cX5_cupGoes 43 = .ok (.getfield 115, 3) := by decide +kernel
theorem dX5_cupGoes_46 : decode cX5_cupGoes 46 = .ok (.iastore, 1) := by decide +kernel
theorem dX5_cupGoes_47 : decode cX5_cupGoes 47 = .ok (.goto 53, 3) := by decide +kernel
theorem dX5_cupGoes_50 : decode cX5_cupGoes 50 = .ok (.aload_n 0, 1) := by decide +kernel
theorem dX5_cupGoes_51 : decode cX5_cupGoes 51 = .ok (.getfield 38, 3) := by decide +kernel
theorem dX5_cupGoes_54 : decode cX5_cupGoes 54 = .ok (.iload_n 1, 1) := by decide +kernel
theorem dX5_cupGoes_55 : decode cX5_cupGoes 55 = .ok (.iaload, 1) := by decide +kernel
theorem dX5_cupGoes_56 : decode cX5_cupGoes 56 = .ok (.iconst 3, 1) := by decide +kernel
theorem dX5_cupGoes_57 : decode cX5_cupGoes 57 = .ok (.if_icmp .ne 25, 3) := by decide +kernel
theorem dX5_cupGoes_60 : decode cX5_cupGoes 60 = .ok (.aload_n 0, 1) := by decide +kernel
theorem dX5_cupGoes_61 : decode cX5_cupGoes 61 = .ok (.getfield 23, 3) := by decide +kernel
theorem dX5_cupGoes_64 : decode cX5_cupGoes 64 = .ok (.iload_n 1, 1) := by decide +kernel
theorem dX5_cupGoes_65 : decode cX5_cupGoes 65 = .ok (.iaload, 1) := by decide +kernel
theorem dX5_cupGoes_66 : decode cX5_cupGoes 66 = .ok (.invokestatic 102, 3) := by decide +kernel
theorem dX5_cupGoes_69 : decode cX5_cupGoes 69 = .ok (.ifCond .le 13, 3) := by decide +kernel
theorem dX5_cupGoes_72 : decode cX5_cupGoes 72 = .ok (.aload_n 0, 1) := by decide +kernel
theorem dX5_cupGoes_73 : decode cX5_cupGoes 73 = .ok (.getfield 38, 3) := by decide +kernel
theorem dX5_cupGoes_76 : decode cX5_cupGoes 76 = .ok (.iload_n 1, 1) := by decide +kernel
theorem dX5_cupGoes_77 : decode cX5_cupGoes 77 = .ok (.iconst 4, 1) := by decide +kernel
theorem dX5_cupGoes_78 : decode cX5_cupGoes 78 = .ok (.iastore, 1) := by decide +kernel
theorem dX5_cupGoes_79 : decode cX5_cupGoes 79 = .ok (.goto 21, 3) := by decide +kernel
theorem dX5_cupGoes_82 : decode cX5_cupGoes 82 = .ok (.aload_n 0, 1) := by decide +kernel
theorem dX5_cupGoes_83 : decode cX5_cupGoes 83 = .ok (.getfield 38, 3) := by decide +kernel
theorem dX5_cupGoes_86 : decode cX5_cupGoes 86 = .ok (.iload_n 1, 1) := by decide +kernel
theorem dX5_cupGoes_87 : decode cX5_cupGoes 87 = .ok (.bipush 6, 2) := by decide +kernel
theorem dX5_cupGoes_89 : decode cX5_cupGoes 89 = .ok (.iastore, 1) := by decide +kernel
theorem dX5_cupGoes_90 : decode cX5_cupGoes 90 = .ok (.aload_n 0, 1) := by decide +kernel
theorem dX5_cupGoes_91 : decode cX5_cupGoes 91 = .ok (.getfield 50, 3) := by decide +kernel
theorem dX5_cupGoes_94 : decode cX5_cupGoes 94 = .ok (.iload_n 1, 1) := by decide +kernel
theorem dX5_cupGoes_95 : decode cX5_cupGoes 95 = .ok (.aload_n 0, 1) := by decide +kernel
theorem dX5_cupGoes_96 : decode cX5_cupGoes 96 = .ok (.getfield 115, 3) := by decide +kernel
theorem dX5_cupGoes_99 : decode cX5_cupGoes 99 = .ok (.iastore, 1) := by decide +kernel
theorem dX5_cupGoes_100 : decode cX5_cupGoes 100 = .ok (.return_, 1) := by decide +kernel
theorem dX5_firstOf_0 : decode cX5_firstOf 0 = .ok (.iconst 0, 1) := by decide +kernel
theorem dX5_firstOf_1 : decode cX5_firstOf 1 = .ok (.istore_n 2, 1) := by decide +kernel
theorem dX5_firstOf_2 : decode cX5_firstOf 2 = .ok (.iload_n 2, 1) := by decide +kernel
theorem dX5_firstOf_3 : decode cX5_firstOf 3 = .ok (.aload_n 0, 1) := by decide +kernel
theorem dX5_firstOf_4 : decode cX5_firstOf 4 = .ok (.getfield 112, 3) := by decide +kernel
theorem dX5_firstOf_7 : decode cX5_firstOf 7 = .ok (.if_icmp .ge 21, 3) := by decide +kernel
theorem dX5_firstOf_10 : decode cX5_firstOf 10 = .ok (.aload_n 0, 1) := by decide +kernel
theorem dX5_firstOf_11 : decode cX5_firstOf 11 = .ok (.getfield 38, 3) := by decide +kernel
theorem dX5_firstOf_14 : decode cX5_firstOf 14 = .ok (.iload_n 2, 1) := by decide +kernel
theorem dX5_firstOf_15 : decode cX5_firstOf 15 = .ok (.iaload, 1) := by decide +kernel
theorem dX5_firstOf_16 : decode cX5_firstOf 16 = .ok (.iload_n 1, 1) := by decide +kernel
theorem dX5_firstOf_17 : decode cX5_firstOf 17 = .ok (.if_icmp .ne 5, 3) := by decide +kernel
theorem dX5_firstOf_20 : decode cX5_firstOf 20 = .ok (.iload_n 2, 1) := by decide +kernel
theorem dX5_firstOf_21 : decode cX5_firstOf 21 = .ok (.ireturn, 1) := by decide +kernel
theorem dX5_firstOf_22 : decode cX5_firstOf 22 = .ok (.iinc 2 1, 3) := by decide +kernel
theorem dX5_firstOf_25 : decode cX5_firstOf 25 = .ok (.goto (-23), 3) := by decide +kernel
theorem dX5_firstOf_28 : decode cX5_firstOf 28 = .ok (.iconst (-1), 1) := by decide +kernel
theorem dX5_firstOf_29 : decode cX5_firstOf 29 = .ok (.ireturn, 1) := by decide +kernel
theorem dX5_begins_0 : decode cX5_begins 0 = .ok (.aload_n 0, 1) := by decide +kernel
theorem dX5_begins_1 : decode cX5_begins 1 = .ok (.getfield 38, 3) := by decide +kernel
theorem dX5_begins_4 : decode cX5_begins 4 = .ok (.iload_n 1, 1) := by decide +kernel
theorem dX5_begins_5 : decode cX5_begins 5 = .ok (.iload_n 2, 1) := by decide +kernel
theorem dX5_begins_6 : decode cX5_begins 6 = .ok (.iastore, 1) := by decide +kernel
theorem dX5_begins_7 : decode cX5_begins 7 = .ok (.aload_n 0, 1) := by decide +kernel
theorem dX5_begins_8 : decode cX5_begins 8 = .ok (.getfield 41, 3) := by decide +kernel
theorem dX5_begins_11 : decode cX5_begins 11 = .ok (.iload_n 1, 1) := by decide +kernel
theorem dX5_begins_12 : decode cX5_begins 12 = .ok (.iload_n 3, 1) := by decide +kernel
theorem dX5_begins_13 : decode cX5_begins 13 = .ok (.iastore, 1) := by decide +kernel
theorem dX5_begins_14 : decode cX5_begins 14 = .ok (.return_, 1) := by decide +kernel
set_option maxRecDepth 20000 in
theorem ggX5_steams_X5_firstOf : GoodIn wsX5_steams wsX5_firstOf := goodIn_r _ [8, 9, 10, 34, 35, 36, 37, 38, 39, 40, 41, 42, 43, 44, 45, 46, 47, 48, 49, 50, 51, 52, 53, 54, 55, 56, 57, 58, 59, 60, 61, 62, 63, 64] (by decide +kernel) (by decide +kernel)
set_option maxRecDepth 20000 in
theorem gX5_steams_X5_firstOf : GoodIn wsX5_steams (wsV RX5 138 RX5 yX5_firstOf wsX5_firstOf) := goodIn_app (goodIn_of _ (by decide +kernel)) ggX5_steams_X5_firstOf
set_option maxRecDepth 20000 in
theorem ggX5_steams_X5_countOf : GoodIn wsX5_steams wsX5_countOf := goodIn_r _ [14, 9, 10, 34, 35, 36, 37, 38, 39, 40, 41, 42, 43, 44, 45, 46, 47, 48, 49, 50, 51, 52, 53, 54, 55, 56, 57, 58, 59, 60, 61, 62, 63, 64] (by decide +kernel) (by decide +kernel)
set_option maxRecDepth 20000 in
theorem gX5_steams_X5_countOf : GoodIn wsX5_steams (wsV RX5 121 RX5 yX5_countOf wsX5_countOf) := goodIn_app (goodIn_of _ (by decide +kernel)) ggX5_steams_X5_countOf
set_option maxRecDepth 20000 in
theorem ggX5_steams_X5_mayTake : GoodIn wsX5_steams wsX5_mayTake := goodIn_r _ [18, 19, 20, 21, 22, 7, 23, 24, 25, 11, 12, 13, 14, 9, 10, 34, 35, 36, 37, 38, 39, 40, 41, 42, 43, 44, 45, 46, 47, 48, 49, 50, 51, 52, 53, 54, 55, 56, 57, 58, 59, 60, 61, 62, 63, 64] (by decide +kernel) (by decide +kernel)
set_option maxRecDepth 20000 in
theorem gX5_steams_X5_mayTake : GoodIn wsX5_steams (wsV RX5 141 RX5 yX5_mayTake wsX5_mayTake) := goodIn_app (goodIn_of _ (by decide +kernel)) ggX5_steams_X5_mayTake
set_option maxRecDepth 20000 in
theorem ggX5_steams_X5_steam : GoodIn wsX5_steams wsX5_steam := goodIn_r _ [28] (by decide +kernel) (by decide +kernel)
set_option maxRecDepth 20000 in
theorem gX5_steams_X5_steam : GoodIn wsX5_steams (va_wsS RX5 102 yX5_steam wsX5_steam) := goodIn_app (goodIn_of _ (by decide +kernel)) ggX5_steams_X5_steam
set_option maxRecDepth 20000 in
theorem ggX5_steams_X5_begins : GoodIn wsX5_steams wsX5_begins := goodIn_r _ [32, 10, 33, 34, 35, 36, 37, 38, 39, 40, 41, 42, 43, 44, 45, 46, 47, 48, 49, 50, 51, 52, 53, 54, 55, 56, 57, 58, 59, 60, 61, 62, 63, 64] (by decide +kernel) (by decide +kernel)
set_option maxRecDepth 20000 in
theorem gX5_steams_X5_begins : GoodIn wsX5_steams (wsV RX5 145 RX5 yX5_begins wsX5_begins) := goodIn_app (goodIn_of _ (by decide +kernel)) ggX5_steams_X5_begins
theorem dX5_steams_0 : decode cX5_steams 0 = .ok (.aload_n 0, 1) := by decide +kernel
theorem dX5_steams_1 : decode cX5_steams 1 = .ok (.iconst 4, 1) := by decide +kernel
theorem dX5_steams_2 : decode cX5_steams 2 = .ok (.invokevirtual 138, 3) := by decide +kernel
theorem dX5_steams_5 : decode cX5_steams 5 = .ok (.istore_n 1, 1) := by decide +kernel
theorem dX5_steams_6 : decode cX5_steams 6 = .ok (.iload_n 1, 1) := by decide +kernel
theorem dX5_steams_7 : decode cX5_steams 7 = .ok (.iconst (-1), 1) := by decide +kernel
theorem dX5_steams_8 : decode cX5_steams 8 = .ok (.if_icmp .eq 38, 3) := by decide +kernel
theorem dX5_steams_11 : decode cX5_steams 11 = .ok (.aload_n 0, 1) := by decide +kernel
theorem dX5_steams_12 : decode cX5_steams 12 = .ok (.iconst 5, 1) := by decide +kernel
theorem dX5_steams_13 : decode cX5_steams 13 = .ok (.invokevirtual 121, 3) := by decide +kernel
theorem dX5_steams_16 : decode cX5_steams 16 = .ok (.ifCond .gt 30, 3) := by decide +kernel
theorem dX5_steams_19 : decode cX5_steams 19 = .ok (.aload_n 0, 1) := by decide +kernel
theorem dX5_steams_20 : decode cX5_steams 20 = .ok (.iconst 3, 1) := by decide +kernel
theorem dX5_steams_21 : decode cX5_steams 21 = .ok (.invokevirtual 141, 3) := by decide +kernel
theorem dX5_steams_24 : decode cX5_steams 24 = .ok (.ifCond .eq 22, 3) := by decide +kernel
theorem dX5_steams_27 : decode cX5_steams 27 = .ok (.aload_n 0, 1) := by decide +kernel
theorem dX5_steams_28 : decode cX5_steams 28 = .ok (.getfield 20, 3) := by decide +kernel
theorem dX5_steams_31 : decode cX5_steams 31 = .ok (.iconst 2, 1) := by decide +kernel
theorem dX5_steams_32 : decode cX5_steams 32 = .ok (.iaload, 1) := by decide +kernel
theorem dX5_steams_33 : decode cX5_steams 33 = .ok (.aload_n 0, 1) := by decide +kernel
theorem dX5_steams_34 : decode cX5_steams 34 = .ok (.getfield 26, 3) := by decide +kernel
theorem dX5_steams_37 : decode cX5_steams 37 = .ok (.iload_n 1, 1) := by decide +kernel
theorem dX5_steams_38 : decode cX5_steams 38 = .ok (.iaload, 1) := by decide +kernel
theorem dX5_steams_39 : decode cX5_steams 39 = .ok (.sipush 1000, 3) := by decide +kernel
theorem dX5_steams_42 : decode cX5_steams 42 = .ok (.irem, 1) := by decide +kernel
theorem dX5_steams_43 : decode cX5_steams 43 = .ok (.if_icmp .ge 4, 3) := by decide +kernel
theorem dX5_steams_46 : decode cX5_steams 46 = .ok (.return_, 1) := by decide +kernel
theorem dX5_steams_47 : decode cX5_steams 47 = .ok (.aload_n 0, 1) := by decide +kernel
theorem dX5_steams_48 : decode cX5_steams 48 = .ok (.getfield 20, 3) := by decide +kernel
theorem dX5_steams_51 : decode cX5_steams 51 = .ok (.iconst 2, 1) := by decide +kernel
theorem dX5_steams_52 : decode cX5_steams 52 = .ok (.dup2, 1) := by decide +kernel
theorem dX5_steams_53 : decode cX5_steams 53 = .ok (.iaload, 1) := by decide +kernel
theorem dX5_steams_54 : decode cX5_steams 54 = .ok (.aload_n 0, 1) := by decide +kernel
theorem dX5_steams_55 : decode cX5_steams 55 = .ok (.getfield 26, 3) := by decide +kernel
theorem dX5_steams_58 : decode cX5_steams 58 = .ok (.iload_n 1, 1) := by decide +kernel
theorem dX5_steams_59 : decode cX5_steams 59 = .ok (.iaload, 1) := by decide +kernel
theorem dX5_steams_60 : decode cX5_steams 60 = .ok (.sipush 1000, 3) := by decide +kernel
theorem dX5_steams_63 : decode cX5_steams 63 = .ok (.irem, 1) := by decide +kernel
theorem dX5_steams_64 : decode cX5_steams 64 = .ok (.isub, 1) := by decide +kernel
theorem dX5_steams_65 : decode cX5_steams 65 = .ok (.iastore, 1) := by decide +kernel
theorem dX5_steams_66 : decode cX5_steams 66 = .ok (.aload_n 0, 1) := by decide +kernel
theorem dX5_steams_67 : decode cX5_steams 67 = .ok (.iload_n 1, 1) := by decide +kernel
theorem dX5_steams_68 : decode cX5_steams 68 = .ok (.iconst 5, 1) := by decide +kernel
theorem dX5_steams_69 : decode cX5_steams 69 = .ok (.aload_n 0, 1) := by decide +kernel
theorem dX5_steams_70 : decode cX5_steams 70 = .ok (.getfield 23, 3) := by decide +kernel
theorem dX5_steams_73 : decode cX5_steams 73 = .ok (.iload_n 1, 1) := by decide +kernel
theorem dX5_steams_74 : decode cX5_steams 74 = .ok (.iaload, 1) := by decide +kernel
theorem dX5_steams_75 : decode cX5_steams 75 = .ok (.invokestatic 102, 3) := by decide +kernel
theorem dX5_steams_78 : decode cX5_steams 78 = .ok (.invokevirtual 145, 3) := by decide +kernel
theorem dX5_steams_81 : decode cX5_steams 81 = .ok (.return_, 1) := by decide +kernel
set_option maxRecDepth 20000 in
theorem ggX5_cleans_X5_countOf : GoodIn wsX5_cleans wsX5_countOf := goodIn_r _ [9, 10, 11, 27, 28, 29, 30, 31, 32, 33, 34, 35, 36, 37, 38, 39, 40, 41, 42, 43, 44, 45, 46, 47, 48, 49, 50, 51, 52, 53, 54, 55, 56, 57] (by decide +kernel) (by decide +kernel)
set_option maxRecDepth 20000 in
theorem gX5_cleans_X5_countOf : GoodIn wsX5_cleans (wsV RX5 121 RX5 yX5_countOf wsX5_countOf) := goodIn_app (goodIn_of _ (by decide +kernel)) ggX5_cleans_X5_countOf
set_option maxRecDepth 20000 in
theorem ggX5_cleans_X5_isFree : GoodIn wsX5_cleans wsX5_isFree := goodIn_r _ [15, 4, 16, 10, 11, 17, 27, 28, 29, 30, 31, 32, 33, 34, 35, 36, 37, 38, 39, 40, 41, 42, 43, 44, 45, 46, 47, 48, 49, 50, 51, 52, 53, 54, 55, 56, 57] (by decide +kernel) (by decide +kernel)
set_option maxRecDepth 20000 in
theorem gX5_cleans_X5_isFree : GoodIn wsX5_cleans (wsV RX5 149 RX5 yX5_isFree wsX5_isFree) := goodIn_app (goodIn_of _ (by decide +kernel)) ggX5_cleans_X5_isFree
set_option maxRecDepth 20000 in
theorem ggX5_cleans_X5_mayTake : GoodIn wsX5_cleans wsX5_mayTake := goodIn_r _ [21, 22, 23, 24, 25, 8, 26, 1, 4, 5, 6, 7, 9, 10, 11, 27, 28, 29, 30, 31, 32, 33, 34, 35, 36, 37, 38, 39, 40, 41, 42, 43, 44, 45, 46, 47, 48, 49, 50, 51, 52, 53, 54, 55, 56, 57] (by decide +kernel) (by decide +kernel)
set_option maxRecDepth 20000 in
theorem gX5_cleans_X5_mayTake : GoodIn wsX5_cleans (wsV RX5 141 RX5 yX5_mayTake wsX5_mayTake) := goodIn_app (goodIn_of _ (by decide +kernel)) ggX5_cleans_X5_mayTake
theorem dX5_cleans_0 : decode cX5_cleans 0 = .ok (.aload_n 0, 1) := by decide +kernel
theorem dX5_cleans_1 : decode cX5_cleans 1 = .ok (.iconst 0, 1) := by decide +kernel
theorem dX5_cleans_2 : decode cX5_cleans 2 = .ok (.invokevirtual 121, 3) := by decide +kernel
theorem dX5_cleans_5 : decode cX5_cleans 5 = .ok (.aload_n 0, 1) := by decide +kernel
theorem dX5_cleans_6 : decode cX5_cleans 6 = .ok (.iconst 2, 1) := by decide +kernel
theorem dX5_cleans_7 : decode cX5_cleans 7 = .ok (.invokevirtual 121, 3) := by decide +kernel
theorem dX5_cleans_10 : decode cX5_cleans 10 = .ok (.iadd, 1) := by decide +kernel
theorem dX5_cleans_11 : decode cX5_cleans 11 = .ok (.ifCond .ne 7, 3) := by decide +kernel
theorem dX5_cleans_14 : decode cX5_cleans 14 = .ok (.iconst 1, 1) := by decide +kernel
theorem dX5_cleans_15 : decode cX5_cleans 15 = .ok (.goto 4, 3) := by decide +kernel
theorem dX5_cleans_18 : decode cX5_cleans 18 = .ok (.iconst 0, 1) := by decide +kernel
theorem dX5_cleans_19 : decode cX5_cleans 19 = .ok (.istore_n 1, 1) := by decide +kernel
theorem dX5_cleans_20 : decode cX5_cleans 20 = .ok (.iconst 0, 1) := by decide +kernel
theorem dX5_cleans_21 : decode cX5_cleans 21 = .ok (.istore_n 2, 1) := by decide +kernel
theorem dX5_cleans_22 : decode cX5_cleans 22 = .ok (.iload_n 2, 1) := by decide +kernel
theorem dX5_cleans_23 : decode cX5_cleans 23 = .ok (.aload_n 0, 1) := by decide +kernel
theorem dX5_cleans_24 : decode cX5_cleans 24 = .ok (.getfield 80, 3) := by decide +kernel
theorem dX5_cleans_27 : decode cX5_cleans 27 = .ok (.if_icmp .ge 83, 3) := by decide +kernel
theorem dX5_cleans_30 : decode cX5_cleans 30 = .ok (.aload_n 0, 1) := by decide +kernel
theorem dX5_cleans_31 : decode cX5_cleans 31 = .ok (.iload_n 2, 1) := by decide +kernel
theorem dX5_cleans_32 : decode cX5_cleans 32 = .ok (.invokevirtual 149, 3) := by decide +kernel
theorem dX5_cleans_35 : decode cX5_cleans 35 = .ok (.ifCond .eq 69, 3) := by decide +kernel
theorem dX5_cleans_38 : decode cX5_cleans 38 = .ok (.aload_n 0, 1) := by decide +kernel
theorem dX5_cleans_39 : decode cX5_cleans 39 = .ok (.getfield 59, 3) := by decide +kernel
theorem dX5_cleans_42 : decode cX5_cleans 42 = .ok (.iload_n 2, 1) := by decide +kernel
theorem dX5_cleans_43 : decode cX5_cleans 43 = .ok (.iaload, 1) := by decide +kernel
theorem dX5_cleans_44 : decode cX5_cleans 44 = .ok (.bipush 10, 2) := by decide +kernel
theorem dX5_cleans_46 : decode cX5_cleans 46 = .ok (.if_icmp .ge 17, 3) := by decide +kernel
theorem dX5_cleans_49 : decode cX5_cleans 49 = .ok (.aload_n 0, 1) := by decide +kernel
theorem dX5_cleans_50 : decode cX5_cleans 50 = .ok (.getfield 59, 3) := by decide +kernel
theorem dX5_cleans_53 : decode cX5_cleans 53 = .ok (.iload_n 2, 1) := by decide +kernel
theorem dX5_cleans_54 : decode cX5_cleans 54 = .ok (.iaload, 1) := by decide +kernel
theorem dX5_cleans_55 : decode cX5_cleans 55 = .ok (.iconst 5, 1) := by decide +kernel
theorem dX5_cleans_56 : decode cX5_cleans 56 = .ok (.if_icmp .lt 48, 3) := by decide +kernel
theorem dX5_cleans_59 : decode cX5_cleans 59 = .ok (.iload_n 1, 1) := by decide +kernel
theorem dX5_cleans_60 : decode cX5_cleans 60 = .ok (.ifCond .eq 44, 3) := by decide +kernel
theorem dX5_cleans_63 : decode cX5_cleans 63 = .ok (.aload_n 0, 1) := by decide +kernel
theorem dX5_cleans_64 : decode cX5_cleans 64 = .ok (.iconst 2, 1) := by decide +kernel
theorem dX5_cleans_65 : decode cX5_cleans 65 = .ok (.invokevirtual 141, 3) := by decide +kernel
theorem dX5_cleans_68 : decode cX5_cleans 68 = .ok (.ifCond .eq 36, 3) := by decide +kernel
theorem dX5_cleans_71 : decode cX5_cleans 71 = .ok (.aload_n 0, 1) := by decide +kernel
theorem dX5_cleans_72 : decode cX5_cleans 72 = .ok (.getfield 20, 3) := by decide +kernel
theorem dX5_cleans_75 : decode cX5_cleans 75 = .ok (.iconst 1, 1) := by decide +kernel
theorem dX5_cleans_76 : decode cX5_cleans 76 = .ok (.iaload, 1) := by decide +kernel
theorem dX5_cleans_77 : decode cX5_cleans 77 = .ok (.bipush 20, 2) := by decide +kernel
theorem dX5_cleans_79 : decode cX5_cleans 79 = .ok (.if_icmp .ge 6, 3) := by decide +kernel
theorem dX5_cleans_82 : decode cX5_cleans 82 = .ok (.goto 22, 3) := by decide +kernel
theorem dX5_cleans_85 : decode cX5_cleans 85 = .ok (.aload_n 0, 1) := by decide +kernel
theorem dX5_cleans_86 : decode cX5_cleans 86 = .ok (.getfield 20, 3) := by decide +kernel
theorem dX5_cleans_89 : decode cX5_cleans 89 = .ok (.iconst 1, 1) := by decide +kernel
theorem dX5_cleans_90 : decode cX5_cleans 90 = .ok (.dup2, 1) := by decide +kernel
theorem dX5_cleans_91 : decode cX5_cleans 91 = .ok (.iaload, 1) := by decide +kernel
theorem dX5_cleans_92 : decode cX5_cleans 92 = .ok (.bipush 20, 2) := by decide +kernel
theorem dX5_cleans_94 : decode cX5_cleans 94 = .ok (.isub, 1) := by decide +kernel
theorem dX5_cleans_95 : decode cX5_cleans 95 = .ok (.iastore, 1) := by decide +kernel
theorem dX5_cleans_96 : decode cX5_cleans 96 = .ok (.aload_n 0, 1) := by decide +kernel
theorem dX5_cleans_97 : decode cX5_cleans 97 = .ok (.getfield 56, 3) := by decide +kernel
theorem dX5_cleans_100 : decode cX5_cleans 100 = .ok (.iload_n 2, 1) := by decide +kernel
theorem dX5_cleans_101 : decode cX5_cleans 101 = .ok (.bipush 6, 2) := by decide +kernel
theorem dX5_cleans_103 : decode cX5_cleans 103 = .ok (.iastore, 1) := by decide +kernel
theorem dX5_cleans_104 : decode cX5_cleans 104 = .ok (.iinc 2 1, 3) := by decide +kernel
theorem dX5_cleans_107 : decode cX5_cleans 107 = .ok (.goto (-85), 3) := by decide +kernel
theorem dX5_cleans_110 : decode cX5_cleans 110 = .ok (.return_, 1) := by decide +kernel
set_option maxRecDepth 20000 in
theorem ggX5_brews_X5_isFree : GoodIn wsX5_brews wsX5_isFree := goodIn_r _ [12, 13, 14, 15, 16, 6, 42, 43, 44, 45, 46, 47, 48, 49, 50, 51, 52, 53, 54, 55, 56, 57, 58, 59, 60, 61, 62, 63, 64, 65, 66, 67, 68, 69, 70, 71, 72] (by decide +kernel) (by decide +kernel)
set_option maxRecDepth 20000 in
theorem gX5_brews_X5_isFree : GoodIn wsX5_brews (wsV RX5 149 RX5 yX5_isFree wsX5_isFree) := goodIn_app (goodIn_of _ (by decide +kernel)) ggX5_brews_X5_isFree
set_option maxRecDepth 20000 in
theorem ggX5_brews_X5_firstOf : GoodIn wsX5_brews wsX5_firstOf := goodIn_r _ [20, 15, 16, 42, 43, 44, 45, 46, 47, 48, 49, 50, 51, 52, 53, 54, 55, 56, 57, 58, 59, 60, 61, 62, 63, 64, 65, 66, 67, 68, 69, 70, 71, 72] (by decide +kernel) (by decide +kernel)
set_option maxRecDepth 20000 in
theorem gX5_brews_X5_firstOf : GoodIn wsX5_brews (wsV RX5 138 RX5 yX5_firstOf wsX5_firstOf) := goodIn_app (goodIn_of _ (by decide +kernel)) ggX5_brews_X5_firstOf
set_option maxRecDepth 20000 in
theorem ggX5_brews_X5_mayTake : GoodIn wsX5_brews wsX5_mayTake := goodIn_r _ [24, 25, 26, 27, 28, 11, 29, 1, 13, 30, 31, 32, 33, 15, 16, 42, 43, 44, 45, 46, 47, 48, 49, 50, 51, 52, 53, 54, 55, 56, 57, 58, 59, 60, 61, 62, 63, 64, 65, 66, 67, 68, 69, 70, 71, 72] (by decide +kernel) (by decide +kernel)
set_option maxRecDepth 20000 in
theorem gX5_brews_X5_mayTake : GoodIn wsX5_brews (wsV RX5 141 RX5 yX5_mayTake wsX5_mayTake) := goodIn_app (goodIn_of _ (by decide +kernel)) ggX5_brews_X5_mayTake
set_option maxRecDepth 20000 in
theorem ggX5_brews_X5_brew : GoodIn wsX5_brews wsX5_brew := goodIn_r _ [36] (by decide +kernel) (by decide +kernel)
set_option maxRecDepth 20000 in
theorem gX5_brews_X5_brew : GoodIn wsX5_brews (va_wsS RX5 99 yX5_brew wsX5_brew) := goodIn_app (goodIn_of _ (by decide +kernel)) ggX5_brews_X5_brew
set_option maxRecDepth 20000 in
theorem ggX5_brews_X5_begins : GoodIn wsX5_brews wsX5_begins := goodIn_r _ [40, 16, 41, 42, 43, 44, 45, 46, 47, 48, 49, 50, 51, 52, 53, 54, 55, 56, 57, 58, 59, 60, 61, 62, 63, 64, 65, 66, 67, 68, 69, 70, 71, 72] (by decide +kernel) (by decide +kernel)
set_option maxRecDepth 20000 in
theorem gX5_brews_X5_begins : GoodIn wsX5_brews (wsV RX5 145 RX5 yX5_begins wsX5_begins) := goodIn_app (goodIn_of _ (by decide +kernel)) ggX5_brews_X5_begins
theorem dX5_brews_0 : decode cX5_brews 0 = .ok (.iconst 0, 1) := by decide +kernel
theorem dX5_brews_1 : decode cX5_brews 1 = .ok (.istore_n 1, 1) := by decide +kernel
theorem dX5_brews_2 : decode cX5_brews 2 = .ok (.iload_n 1, 1) := by decide +kernel
theorem dX5_brews_3 : decode cX5_brews 3 = .ok (.aload_n 0, 1) := by decide +kernel
theorem dX5_brews_4 : decode cX5_brews 4 = .ok (.getfield 80, 3) := by decide +kernel
theorem dX5_brews_7 : decode cX5_brews 7 = .ok (.if_icmp .ge 131, 3) := by decide +kernel
theorem dX5_brews_10 : decode cX5_brews 10 = .ok (.aload_n 0, 1) := by decide +kernel
theorem dX5_brews_11 : decode cX5_brews 11 = .ok (.getfield 7, 3) := by decide +kernel
theorem dX5_brews_14 : decode cX5_brews 14 = .ok (.sipush 880, 3) := by decide +kernel
theorem dX5_brews_17 : decode cX5_brews 17 = .ok (.if_icmp .lt 121, 3) := by decide +kernel
theorem dX5_brews_20 : decode cX5_brews 20 = .ok (.aload_n 0, 1) := by decide +kernel
theorem dX5_brews_21 : decode cX5_brews 21 = .ok (.iload_n 1, 1) := by decide +kernel
theorem dX5_brews_22 : decode cX5_brews 22 = .ok (.invokevirtual 149, 3) := by decide +kernel
theorem dX5_brews_25 : decode cX5_brews 25 = .ok (.ifCond .eq 107, 3) := by decide +kernel
theorem dX5_brews_28 : decode cX5_brews 28 = .ok (.aload_n 0, 1) := by decide +kernel
theorem dX5_brews_29 : decode cX5_brews 29 = .ok (.getfield 59, 3) := by decide +kernel
theorem dX5_brews_32 : decode cX5_brews 32 = .ok (.iload_n 1, 1) := by decide +kernel
theorem dX5_brews_33 : decode cX5_brews 33 = .ok (.iaload, 1) := by decide +kernel
theorem dX5_brews_34 : decode cX5_brews 34 = .ok (.bipush 10, 2) := by decide +kernel
theorem dX5_brews_36 : decode cX5_brews 36 = .ok (.if_icmp .lt 6, 3) := by decide +kernel
theorem dX5_brews_39 : decode cX5_brews 39 = .ok (.goto 93, 3) := by decide +kernel
theorem dX5_brews_42 : decode cX5_brews 42 = .ok (.aload_n 0, 1) := by decide +kernel
theorem dX5_brews_43 : decode cX5_brews 43 = .ok (.iconst 2, 1) := by decide +kernel
theorem dX5_brews_44 : decode cX5_brews 44 = .ok (.invokevirtual 138, 3) := by decide +kernel
theorem dX5_brews_47 : decode cX5_brews 47 = .ok (.istore_n 2, 1) := by decide +kernel
theorem dX5_brews_48 : decode cX5_brews 48 = .ok (.iload_n 2, 1) := by decide +kernel
theorem dX5_brews_49 : decode cX5_brews 49 = .ok (.iconst (-1), 1) := by decide +kernel
theorem dX5_brews_50 : decode cX5_brews 50 = .ok (.if_icmp .eq 30, 3) := by decide +kernel
theorem dX5_brews_53 : decode cX5_brews 53 = .ok (.aload_n 0, 1) := by decide +kernel
theorem dX5_brews_54 : decode cX5_brews 54 = .ok (.iconst 2, 1) := by decide +kernel
theorem dX5_brews_55 : decode cX5_brews 55 = .ok (.invokevirtual 141, 3) := by decide +kernel
theorem dX5_brews_58 : decode cX5_brews 58 = .ok (.ifCond .eq 22, 3) := by decide +kernel
theorem dX5_brews_61 : decode cX5_brews 61 = .ok (.aload_n 0, 1) := by decide +kernel
theorem dX5_brews_62 : decode cX5_brews 62 = .ok (.getfield 20, 3) := by decide +kernel
theorem dX5_brews_65 : decode cX5_brews 65 = .ok (.iconst 1, 1) := by decide +kernel
theorem dX5_brews_66 : decode cX5_brews 66 = .ok (.iaload, 1) := by decide +kernel
theorem dX5_brews_67 : decode cX5_brews 67 = .ok (.aload_n 0, 1) := by decide +kernel
theorem dX5_brews_68 : decode cX5_brews 68 = .ok (.getfield 26, 3) := by decide +kernel
theorem dX5_brews_71 : decode cX5_brews 71 = .ok (.iload_n 2, 1) := by decide +kernel
theorem dX5_brews_72 : decode cX5_brews 72 = .ok (.iaload, 1) := by decide +kernel
theorem dX5_brews_73 : decode cX5_brews 73 = .ok (.sipush 1000, 3) := by decide +kernel
theorem dX5_brews_76 : decode cX5_brews 76 = .ok (.idiv, 1) := by decide +kernel
theorem dX5_brews_77 : decode cX5_brews 77 = .ok (.if_icmp .ge 4, 3) := by decide +kernel
theorem dX5_brews_80 : decode cX5_brews 80 = .ok (.return_, 1) := by decide +kernel
theorem dX5_brews_81 : decode cX5_brews 81 = .ok (.aload_n 0, 1) := by decide +kernel
theorem dX5_brews_82 : decode cX5_brews 82 = .ok (.getfield 20, 3) := by decide +kernel
theorem dX5_brews_85 : decode cX5_brews 85 = .ok (.iconst 1, 1) := by decide +kernel
theorem dX5_brews_86 : decode cX5_brews 86 = .ok (.dup2, 1) := by decide +kernel
theorem dX5_brews_87 : decode cX5_brews 87 = .ok (.iaload, 1) := by decide +kernel
theorem dX5_brews_88 : decode cX5_brews 88 = .ok (.aload_n 0, 1) := by decide +kernel
theorem dX5_brews_89 : decode cX5_brews 89 = .ok (.getfield 26, 3) := by decide +kernel
theorem dX5_brews_92 : decode cX5_brews 92 = .ok (.iload_n 2, 1) := by decide +kernel
theorem dX5_brews_93 : decode cX5_brews 93 = .ok (.iaload, 1) := by decide +kernel
theorem dX5_brews_94 : decode cX5_brews 94 = .ok (.sipush 1000, 3) := by decide +kernel
theorem dX5_brews_97 : decode cX5_brews 97 = .ok (.idiv, 1) := by decide +kernel
theorem dX5_brews_98 : decode cX5_brews 98 = .ok (.isub, 1) := by decide +kernel
theorem dX5_brews_99 : decode cX5_brews 99 = .ok (.iastore, 1) := by decide +kernel
theorem dX5_brews_100 : decode cX5_brews 100 = .ok (.aload_n 0, 1) := by decide +kernel
theorem dX5_brews_101 : decode cX5_brews 101 = .ok (.getfield 59, 3) := by decide +kernel
theorem dX5_brews_104 : decode cX5_brews 104 = .ok (.iload_n 1, 1) := by decide +kernel
theorem dX5_brews_105 : decode cX5_brews 105 = .ok (.dup2, 1) := by decide +kernel
theorem dX5_brews_106 : decode cX5_brews 106 = .ok (.iaload, 1) := by decide +kernel
theorem dX5_brews_107 : decode cX5_brews 107 = .ok (.iconst 1, 1) := by decide +kernel
theorem dX5_brews_108 : decode cX5_brews 108 = .ok (.iadd, 1) := by decide +kernel
theorem dX5_brews_109 : decode cX5_brews 109 = .ok (.iastore, 1) := by decide +kernel
theorem dX5_brews_110 : decode cX5_brews 110 = .ok (.aload_n 0, 1) := by decide +kernel
theorem dX5_brews_111 : decode cX5_brews 111 = .ok (.getfield 44, 3) := by decide +kernel
theorem dX5_brews_114 : decode cX5_brews 114 = .ok (.iload_n 2, 1) := by decide +kernel
theorem dX5_brews_115 : decode cX5_brews 115 = .ok (.iload_n 1, 1) := by decide +kernel
theorem dX5_brews_116 : decode cX5_brews 116 = .ok (.iastore, 1) := by decide +kernel
theorem dX5_brews_117 : decode cX5_brews 117 = .ok (.aload_n 0, 1) := by decide +kernel
theorem dX5_brews_118 : decode cX5_brews 118 = .ok (.iload_n 2, 1) := by decide +kernel
theorem dX5_brews_119 : decode cX5_brews 119 = .ok (.iconst 3, 1) := by decide +kernel
theorem dX5_brews_120 : decode cX5_brews 120 = .ok (.aload_n 0, 1) := by decide +kernel
theorem dX5_brews_121 : decode cX5_brews 121 = .ok (.getfield 23, 3) := by decide +kernel
theorem dX5_brews_124 : decode cX5_brews 124 = .ok (.iload_n 2, 1) := by decide +kernel
theorem dX5_brews_125 : decode cX5_brews 125 = .ok (.iaload, 1) := by decide +kernel
theorem dX5_brews_126 : decode cX5_brews 126 = .ok (.invokestatic 99, 3) := by decide +kernel
theorem dX5_brews_129 : decode cX5_brews 129 = .ok (.invokevirtual 145, 3) := by decide +kernel
theorem dX5_brews_132 : decode cX5_brews 132 = .ok (.iinc 1 1, 3) := by decide +kernel
theorem dX5_brews_135 : decode cX5_brews 135 = .ok (.goto (-133), 3) := by decide +kernel
theorem dX5_brews_138 : decode cX5_brews 138 = .ok (.return_, 1) := by decide +kernel
set_option maxRecDepth 20000 in
theorem ggX5_grinds_X5_countOf : GoodIn wsX5_grinds wsX5_countOf := goodIn_r _ [11, 2, 3, 35, 36, 37, 38, 39, 40, 41, 42, 43, 44, 45, 46, 47, 48, 49, 50, 51, 52, 53, 54, 55, 56, 57, 58, 59, 60, 61, 62, 63, 64, 65] (by decide +kernel) (by decide +kernel)
set_option maxRecDepth 20000 in
theorem gX5_grinds_X5_countOf : GoodIn wsX5_grinds (wsV RX5 121 RX5 yX5_countOf wsX5_countOf) := goodIn_app (goodIn_of _ (by decide +kernel)) ggX5_grinds_X5_countOf
set_option maxRecDepth 20000 in
theorem ggX5_grinds_X5_mayTake : GoodIn wsX5_grinds wsX5_mayTake := goodIn_r _ [15, 16, 17, 18, 19, 10, 20, 1, 21, 7, 8, 9, 11, 2, 3, 35, 36, 37, 38, 39, 40, 41, 42, 43, 44, 45, 46, 47, 48, 49, 50, 51, 52, 53, 54, 55, 56, 57, 58, 59, 60, 61, 62, 63, 64, 65] (by decide +kernel) (by decide +kernel)
set_option maxRecDepth 20000 in
theorem gX5_grinds_X5_mayTake : GoodIn wsX5_grinds (wsV RX5 141 RX5 yX5_mayTake wsX5_mayTake) := goodIn_app (goodIn_of _ (by decide +kernel)) ggX5_grinds_X5_mayTake
set_option maxRecDepth 20000 in
theorem ggX5_grinds_X5_beans : GoodIn wsX5_grinds wsX5_beans := goodIn_r _ [24, 25] (by decide +kernel) (by decide +kernel)
set_option maxRecDepth 20000 in
theorem gX5_grinds_X5_beans : GoodIn wsX5_grinds (va_wsS RX5 88 yX5_beans wsX5_beans) := goodIn_app (goodIn_of _ (by decide +kernel)) ggX5_grinds_X5_beans
set_option maxRecDepth 20000 in
theorem ggX5_grinds_X5_grind : GoodIn wsX5_grinds wsX5_grind := goodIn_r _ [28, 29] (by decide +kernel) (by decide +kernel)
set_option maxRecDepth 20000 in
theorem gX5_grinds_X5_grind : GoodIn wsX5_grinds (va_wsS RX5 96 yX5_grind wsX5_grind) := goodIn_app (goodIn_of _ (by decide +kernel)) ggX5_grinds_X5_grind
set_option maxRecDepth 20000 in
theorem ggX5_grinds_X5_begins : GoodIn wsX5_grinds wsX5_begins := goodIn_r _ [33, 3, 34, 35, 36, 37, 38, 39, 40, 41, 42, 43, 44, 45, 46, 47, 48, 49, 50, 51, 52, 53, 54, 55, 56, 57, 58, 59, 60, 61, 62, 63, 64, 65] (by decide +kernel) (by decide +kernel)
set_option maxRecDepth 20000 in
theorem gX5_grinds_X5_begins : GoodIn wsX5_grinds (wsV RX5 145 RX5 yX5_begins wsX5_begins) := goodIn_app (goodIn_of _ (by decide +kernel)) ggX5_grinds_X5_begins
theorem dX5_grinds_0 : decode cX5_grinds 0 = .ok (.aload_n 0, 1) := by decide +kernel
theorem dX5_grinds_1 : decode cX5_grinds 1 = .ok (.iconst 1, 1) := by decide +kernel
theorem dX5_grinds_2 : decode cX5_grinds 2 = .ok (.invokevirtual 121, 3) := by decide +kernel
theorem dX5_grinds_5 : decode cX5_grinds 5 = .ok (.ifCond .gt 23, 3) := by decide +kernel
theorem dX5_grinds_8 : decode cX5_grinds 8 = .ok (.aload_n 0, 1) := by decide +kernel
theorem dX5_grinds_9 : decode cX5_grinds 9 = .ok (.iconst 2, 1) := by decide +kernel
theorem dX5_grinds_10 : decode cX5_grinds 10 = .ok (.invokevirtual 121, 3) := by decide +kernel
theorem dX5_grinds_13 : decode cX5_grinds 13 = .ok (.aload_n 0, 1) := by decide +kernel
theorem dX5_grinds_14 : decode cX5_grinds 14 = .ok (.getfield 80, 3) := by decide +kernel
theorem dX5_grinds_17 : decode cX5_grinds 17 = .ok (.if_icmp .ge 11, 3) := by decide +kernel
theorem dX5_grinds_20 : decode cX5_grinds 20 = .ok (.aload_n 0, 1) := by decide +kernel
theorem dX5_grinds_21 : decode cX5_grinds 21 = .ok (.iconst 4, 1) := by decide +kernel
theorem dX5_grinds_22 : decode cX5_grinds 22 = .ok (.invokevirtual 141, 3) := by decide +kernel
theorem dX5_grinds_25 : decode cX5_grinds 25 = .ok (.ifCond .ne 4, 3) := by decide +kernel
theorem dX5_grinds_28 : decode cX5_grinds 28 = .ok (.return_, 1) := by decide +kernel
theorem dX5_grinds_29 : decode cX5_grinds 29 = .ok (.iconst (-1), 1) := by decide +kernel
theorem dX5_grinds_30 : decode cX5_grinds 30 = .ok (.istore_n 1, 1) := by decide +kernel
theorem dX5_grinds_31 : decode cX5_grinds 31 = .ok (.iconst 0, 1) := by decide +kernel
theorem dX5_grinds_32 : decode cX5_grinds 32 = .ok (.istore_n 2, 1) := by decide +kernel
theorem dX5_grinds_33 : decode cX5_grinds 33 = .ok (.iload_n 2, 1) := by decide +kernel
theorem dX5_grinds_34 : decode cX5_grinds 34 = .ok (.aload_n 0, 1) := by decide +kernel
theorem dX5_grinds_35 : decode cX5_grinds 35 = .ok (.getfield 112, 3) := by decide +kernel
theorem dX5_grinds_38 : decode cX5_grinds 38 = .ok (.if_icmp .ge 40, 3) := by decide +kernel
theorem dX5_grinds_41 : decode cX5_grinds 41 = .ok (.aload_n 0, 1) := by decide +kernel
theorem dX5_grinds_42 : decode cX5_grinds 42 = .ok (.getfield 38, 3) := by decide +kernel
theorem dX5_grinds_45 : decode cX5_grinds 45 = .ok (.iload_n 2, 1) := by decide +kernel
theorem dX5_grinds_46 : decode cX5_grinds 46 = .ok (.iaload, 1) := by decide +kernel
theorem dX5_grinds_47 : decode cX5_grinds 47 = .ok (.ifCond .ne 25, 3) := by decide +kernel
theorem dX5_grinds_50 : decode cX5_grinds 50 = .ok (.iload_n 1, 1) := by decide +kernel
theorem dX5_grinds_51 : decode cX5_grinds 51 = .ok (.iconst (-1), 1) := by decide +kernel
theorem dX5_grinds_52 : decode cX5_grinds 52 = .ok (.if_icmp .eq 18, 3) := by decide +kernel
theorem dX5_grinds_55 : decode cX5_grinds 55 = .ok (.aload_n 0, 1) := by decide +kernel
theorem dX5_grinds_56 : decode cX5_grinds 56 = .ok (.getfield 32, 3) := by decide +kernel
theorem dX5_grinds_59 : decode cX5_grinds 59 = .ok (.iload_n 2, 1) := by decide +kernel
theorem dX5_grinds_60 : decode cX5_grinds 60 = .ok (.iaload, 1) := by decide +kernel
theorem dX5_grinds_61 : decode cX5_grinds 61 = .ok (.aload_n 0, 1) := by decide +kernel
theorem dX5_grinds_62 : decode cX5_grinds 62 = .ok (.getfield 32, 3) := by decide +kernel
theorem dX5_grinds_65 : decode cX5_grinds 65 = .ok (.iload_n 1, 1) := by decide +kernel
theorem dX5_grinds_66 : decode cX5_grinds 66 = .ok (.iaload, 1) := by decide +kernel
theorem dX5_grinds_67 : decode cX5_grinds 67 = .ok (.if_icmp .ge 5, 3) := by decide +kernel
theorem dX5_grinds_70 : decode cX5_grinds 70 = .ok (.iload_n 2, 1) := by decide +kernel
theorem dX5_grinds_71 : decode cX5_grinds 71 = .ok (.istore_n 1, 1) := by decide +kernel
theorem dX5_grinds_72 : decode cX5_grinds 72 = .ok (.iinc 2 1, 3) := by decide +kernel
theorem dX5_grinds_75 : decode cX5_grinds 75 = .ok (.goto (-42), 3) := by decide +kernel
theorem dX5_grinds_78 : decode cX5_grinds 78 = .ok (.iload_n 1, 1) := by decide +kernel
theorem dX5_grinds_79 : decode cX5_grinds 79 = .ok (.iconst (-1), 1) := by decide +kernel
theorem dX5_grinds_80 : decode cX5_grinds 80 = .ok (.if_icmp .eq 21, 3) := by decide +kernel
theorem dX5_grinds_83 : decode cX5_grinds 83 = .ok (.aload_n 0, 1) := by decide +kernel
theorem dX5_grinds_84 : decode cX5_grinds 84 = .ok (.getfield 20, 3) := by decide +kernel
theorem dX5_grinds_87 : decode cX5_grinds 87 = .ok (.iconst 0, 1) := by decide +kernel
theorem dX5_grinds_88 : decode cX5_grinds 88 = .ok (.iaload, 1) := by decide +kernel
theorem dX5_grinds_89 : decode cX5_grinds 89 = .ok (.aload_n 0, 1) := by decide +kernel
theorem dX5_grinds_90 : decode cX5_grinds 90 = .ok (.getfield 23, 3) := by decide +kernel
theorem dX5_grinds_93 : decode cX5_grinds 93 = .ok (.iload_n 1, 1) := by decide +kernel
theorem dX5_grinds_94 : decode cX5_grinds 94 = .ok (.iaload, 1) := by decide +kernel
theorem dX5_grinds_95 : decode cX5_grinds 95 = .ok (.invokestatic 88, 3) := by decide +kernel
theorem dX5_grinds_98 : decode cX5_grinds 98 = .ok (.if_icmp .ge 4, 3) := by decide +kernel
theorem dX5_grinds_101 : decode cX5_grinds 101 = .ok (.return_, 1) := by decide +kernel
theorem dX5_grinds_102 : decode cX5_grinds 102 = .ok (.aload_n 0, 1) := by decide +kernel
theorem dX5_grinds_103 : decode cX5_grinds 103 = .ok (.getfield 20, 3) := by decide +kernel
theorem dX5_grinds_106 : decode cX5_grinds 106 = .ok (.iconst 0, 1) := by decide +kernel
theorem dX5_grinds_107 : decode cX5_grinds 107 = .ok (.dup2, 1) := by decide +kernel
theorem dX5_grinds_108 : decode cX5_grinds 108 = .ok (.iaload, 1) := by decide +kernel
theorem dX5_grinds_109 : decode cX5_grinds 109 = .ok (.aload_n 0, 1) := by decide +kernel
theorem dX5_grinds_110 : decode cX5_grinds 110 = .ok (.getfield 23, 3) := by decide +kernel
theorem dX5_grinds_113 : decode cX5_grinds 113 = .ok (.iload_n 1, 1) := by decide +kernel
theorem dX5_grinds_114 : decode cX5_grinds 114 = .ok (.iaload, 1) := by decide +kernel
theorem dX5_grinds_115 : decode cX5_grinds 115 = .ok (.invokestatic 88, 3) := by decide +kernel
theorem dX5_grinds_118 : decode cX5_grinds 118 = .ok (.isub, 1) := by decide +kernel
theorem dX5_grinds_119 : decode cX5_grinds 119 = .ok (.iastore, 1) := by decide +kernel
theorem dX5_grinds_120 : decode cX5_grinds 120 = .ok (.aload_n 0, 1) := by decide +kernel
theorem dX5_grinds_121 : decode cX5_grinds 121 = .ok (.iload_n 1, 1) := by decide +kernel
theorem dX5_grinds_122 : decode cX5_grinds 122 = .ok (.iconst 1, 1) := by decide +kernel
theorem dX5_grinds_123 : decode cX5_grinds 123 = .ok (.aload_n 0, 1) := by decide +kernel
theorem dX5_grinds_124 : decode cX5_grinds 124 = .ok (.getfield 23, 3) := by decide +kernel
theorem dX5_grinds_127 : decode cX5_grinds 127 = .ok (.iload_n 1, 1) := by decide +kernel
theorem dX5_grinds_128 : decode cX5_grinds 128 = .ok (.iaload, 1) := by decide +kernel
theorem dX5_grinds_129 : decode cX5_grinds 129 = .ok (.invokestatic 96, 3) := by decide +kernel
theorem dX5_grinds_132 : decode cX5_grinds 132 = .ok (.invokevirtual 145, 3) := by decide +kernel
theorem dX5_grinds_135 : decode cX5_grinds 135 = .ok (.return_, 1) := by decide +kernel
set_option maxRecDepth 20000 in
theorem ggX5_go_X5_in : GoodIn wsX5_go wsX5_in := goodIn_r _ [7] (by decide +kernel) (by decide +kernel)
set_option maxRecDepth 20000 in
theorem gX5_go_X5_in : GoodIn wsX5_go (va_wsS RX5 92 yX5_in wsX5_in) := goodIn_app (goodIn_of _ (by decide +kernel)) ggX5_go_X5_in
set_option maxRecDepth 20000 in
theorem ggX5_go_X5_goesOn : GoodIn wsX5_go wsX5_goesOn := goodIn_r _ [11, 12, 13, 1, 14, 15, 16, 17, 18, 19, 20, 21, 22, 6, 23, 24, 25, 26, 27, 28, 29, 30, 31, 32, 33, 34, 35, 36, 37, 38, 39, 91, 92, 93, 94, 95, 96, 97, 98, 99, 100, 101, 102, 103, 104, 105, 106, 107, 108, 109, 110, 111, 112, 113, 114, 115, 116, 117, 118, 119, 120, 121] (by decide +kernel) (by decide +kernel)
set_option maxRecDepth 20000 in
theorem gX5_go_X5_goesOn : GoodIn wsX5_go (wsV RX5 152 RX5 yX5_goesOn wsX5_goesOn) := goodIn_app (goodIn_of _ (by decide +kernel)) ggX5_go_X5_goesOn
set_option maxRecDepth 20000 in
theorem ggX5_go_X5_steams : GoodIn wsX5_go wsX5_steams := goodIn_r _ [43, 44, 45, 25, 46, 47, 48, 6, 49, 12, 13, 50, 51, 52, 53, 54, 55, 56, 57, 3, 58, 59, 60, 61, 15, 17, 37, 38, 39, 62, 63, 64, 65, 35, 91, 92, 93, 94, 95, 96, 97, 98, 99, 100, 101, 102, 103, 104, 105, 106, 107, 108, 109, 110, 111, 112, 113, 114, 115, 116, 117, 118, 119, 120, 121] (by decide +kernel) (by decide +kernel)
set_option maxRecDepth 20000 in
theorem gX5_go_X5_steams : GoodIn wsX5_go (wsV RX5 155 RX5 yX5_steams wsX5_steams) := goodIn_app (goodIn_of _ (by decide +kernel)) ggX5_go_X5_steams
set_option maxRecDepth 20000 in
theorem ggX5_go_X5_cleans : GoodIn wsX5_go wsX5_cleans := goodIn_r _ [69, 15, 18, 44, 17, 50, 51, 52, 6, 53, 12, 13, 70, 71, 72, 73, 16, 74, 54, 55, 56, 57, 3, 58, 59, 60, 61, 91, 92, 93, 94, 95, 96, 97, 98, 99, 100, 101, 102, 103, 104, 105, 106, 107, 108, 109, 110, 111, 112, 113, 114, 115, 116, 117, 118, 119, 120, 121] (by decide +kernel) (by decide +kernel)
set_option maxRecDepth 20000 in
theorem gX5_go_X5_cleans : GoodIn wsX5_go (wsV RX5 158 RX5 yX5_cleans wsX5_cleans) := goodIn_app (goodIn_of _ (by decide +kernel)) ggX5_go_X5_cleans
set_option maxRecDepth 20000 in
theorem ggX5_go_X5_brews : GoodIn wsX5_go wsX5_brews := goodIn_r _ [78, 15, 2, 18, 44, 45, 74, 25, 70, 71, 72, 6, 73, 17, 16, 12, 13, 46, 47, 48, 49, 54, 55, 56, 57, 3, 58, 59, 60, 61, 50, 51, 52, 53, 79, 80, 81, 62, 63, 64, 65, 35, 91, 92, 93, 94, 95, 96, 97, 98, 99, 100, 101, 102, 103, 104, 105, 106, 107, 108, 109, 110, 111, 112, 113, 114, 115, 116, 117, 118, 119, 120, 121] (by decide +kernel) (by decide +kernel)
set_option maxRecDepth 20000 in
theorem gX5_go_X5_brews : GoodIn wsX5_go (wsV RX5 161 RX5 yX5_brews wsX5_brews) := goodIn_app (goodIn_of _ (by decide +kernel)) ggX5_go_X5_brews
set_option maxRecDepth 20000 in
theorem ggX5_go_X5_grinds : GoodIn wsX5_go wsX5_grinds := goodIn_r _ [85, 15, 12, 13, 86, 44, 25, 50, 51, 52, 6, 53, 54, 55, 56, 57, 3, 58, 59, 60, 61, 17, 27, 28, 29, 30, 87, 88, 89, 90, 62, 63, 64, 65, 35, 91, 92, 93, 94, 95, 96, 97, 98, 99, 100, 101, 102, 103, 104, 105, 106, 107, 108, 109, 110, 111, 112, 113, 114, 115, 116, 117, 118, 119, 120, 121] (by decide +kernel) (by decide +kernel)
set_option maxRecDepth 20000 in
theorem gX5_go_X5_grinds : GoodIn wsX5_go (wsV RX5 164 RX5 yX5_grinds wsX5_grinds) := goodIn_app (goodIn_of _ (by decide +kernel)) ggX5_go_X5_grinds
set_option maxRecDepth 20000 in
theorem ggX5_go_X5_countOf : GoodIn wsX5_go wsX5_countOf := goodIn_r _ [53, 12, 13, 91, 92, 93, 94, 95, 96, 97, 98, 99, 100, 101, 102, 103, 104, 105, 106, 107, 108, 109, 110, 111, 112, 113, 114, 115, 116, 117, 118, 119, 120, 121] (by decide +kernel) (by decide +kernel)
set_option maxRecDepth 20000 in
theorem gX5_go_X5_countOf : GoodIn wsX5_go (wsV RX5 121 RX5 yX5_countOf wsX5_countOf) := goodIn_app (goodIn_of _ (by decide +kernel)) ggX5_go_X5_countOf
set_option maxRecDepth 20000 in
theorem ggX5_go_X5_power : GoodIn wsX5_go wsX5_power := goodIn_r _ [61, 15, 17, 50, 51, 52, 6, 53, 12, 13, 91, 92, 93, 94, 95, 96, 97, 98, 99, 100, 101, 102, 103, 104, 105, 106, 107, 108, 109, 110, 111, 112, 113, 114, 115, 116, 117, 118, 119, 120, 121] (by decide +kernel) (by decide +kernel)
set_option maxRecDepth 20000 in
theorem gX5_go_X5_power : GoodIn wsX5_go (wsV RX5 124 RX5 yX5_power wsX5_power) := goodIn_app (goodIn_of _ (by decide +kernel)) ggX5_go_X5_power
theorem dX5_go_0 : decode cX5_go 0 = .ok (.iload_n 1, 1) := by decide +kernel
theorem dX5_go_1 : decode cX5_go 1 = .ok (.iconst 0, 1) := by decide +kernel
theorem dX5_go_2 : decode cX5_go 2 = .ok (.sipush 500, 3) := by decide +kernel
theorem dX5_go_5 : decode cX5_go 5 = .ok (.invokestatic 92, 3) := by decide +kernel
theorem dX5_go_8 : decode cX5_go 8 = .ok (.ifCond .ne 5, 3) := by decide +kernel
theorem dX5_go_11 : decode cX5_go 11 = .ok (.iconst (-1), 1) := by decide +kernel
theorem dX5_go_12 : decode cX5_go 12 = .ok (.ireturn, 1) := by decide +kernel
theorem dX5_go_13 : decode cX5_go 13 = .ok (.iconst 0, 1) := by decide +kernel
theorem dX5_go_14 : decode cX5_go 14 = .ok (.istore_n 2, 1) := by decide +kernel
theorem dX5_go_15 : decode cX5_go 15 = .ok (.iload_n 2, 1) := by decide +kernel
theorem dX5_go_16 : decode cX5_go 16 = .ok (.iload_n 1, 1) := by decide +kernel
theorem dX5_go_17 : decode cX5_go 17 = .ok (.if_icmp .ge 111, 3) := by decide +kernel
theorem dX5_go_20 : decode cX5_go 20 = .ok (.aload_n 0, 1) := by decide +kernel
theorem dX5_go_21 : decode cX5_go 21 = .ok (.getfield 115, 3) := by decide +kernel
theorem dX5_go_24 : decode cX5_go 24 = .ok (.sipush 20000, 3) := by decide +kernel
theorem dX5_go_27 : decode cX5_go 27 = .ok (.if_icmp .ge 101, 3) := by decide +kernel
theorem dX5_go_30 : decode cX5_go 30 = .ok (.aload_n 0, 1) := by decide +kernel
theorem dX5_go_31 : decode cX5_go 31 = .ok (.invokevirtual 152, 3) := by decide +kernel
theorem dX5_go_34 : decode cX5_go 34 = .ok (.aload_n 0, 1) := by decide +kernel
theorem dX5_go_35 : decode cX5_go 35 = .ok (.invokevirtual 155, 3) := by decide +kernel
theorem dX5_go_38 : decode cX5_go 38 = .ok (.aload_n 0, 1) := by decide +kernel
theorem dX5_go_39 : decode cX5_go 39 = .ok (.invokevirtual 158, 3) := by decide +kernel
theorem dX5_go_42 : decode cX5_go 42 = .ok (.aload_n 0, 1) := by decide +kernel
theorem dX5_go_43 : decode cX5_go 43 = .ok (.invokevirtual 161, 3) := by decide +kernel
theorem dX5_go_46 : decode cX5_go 46 = .ok (.aload_n 0, 1) := by decide +kernel
theorem dX5_go_47 : decode cX5_go 47 = .ok (.invokevirtual 164, 3) := by decide +kernel
theorem dX5_go_50 : decode cX5_go 50 = .ok (.aload_n 0, 1) := by decide +kernel
theorem dX5_go_51 : decode cX5_go 51 = .ok (.dup, 1) := by decide +kernel
theorem dX5_go_52 : decode cX5_go 52 = .ok (.getfield 7, 3) := by decide +kernel
theorem dX5_go_55 : decode cX5_go 55 = .ok (.iconst 1, 1) := by decide +kernel
theorem dX5_go_56 : decode cX5_go 56 = .ok (.iconst 5, 1) := by decide +kernel
theorem dX5_go_57 : decode cX5_go 57 = .ok (.aload_n 0, 1) := by decide +kernel
theorem dX5_go_58 : decode cX5_go 58 = .ok (.iconst 3, 1) := by decide +kernel
theorem dX5_go_59 : decode cX5_go 59 = .ok (.invokevirtual 121, 3) := by decide +kernel
theorem dX5_go_62 : decode cX5_go 62 = .ok (.imul, 1) := by decide +kernel
theorem dX5_go_63 : decode cX5_go 63 = .ok (.iadd, 1) := by decide +kernel
theorem dX5_go_64 : decode cX5_go 64 = .ok (.bipush 8, 2) := by decide +kernel
theorem dX5_go_66 : decode cX5_go 66 = .ok (.aload_n 0, 1) := by decide +kernel
theorem dX5_go_67 : decode cX5_go 67 = .ok (.iconst 5, 1) := by decide +kernel
theorem dX5_go_68 : decode cX5_go 68 = .ok (.invokevirtual 121, 3) := by decide +kernel
theorem dX5_go_71 : decode cX5_go 71 = .ok (.imul, 1) := by decide +kernel
theorem dX5_go_72 : decode cX5_go 72 = .ok (.iadd, 1) := by decide +kernel
theorem dX5_go_73 : decode cX5_go 73 = .ok (.isub, 1) := by decide +kernel
theorem dX5_go_74 : decode cX5_go 74 = .ok (.putfield 7, 3) := by decide +kernel
theorem dX5_go_77 : decode cX5_go 77 = .ok (.aload_n 0, 1) := by decide +kernel
theorem dX5_go_78 : decode cX5_go 78 = .ok (.getfield 7, 3) := by decide +kernel
theorem dX5_go_81 : decode cX5_go 81 = .ok (.sipush 950, 3) := by decide +kernel
theorem dX5_go_84 : decode cX5_go 84 = .ok (.if_icmp .ge 28, 3) := by decide +kernel
theorem dX5_go_87 : decode cX5_go 87 = .ok (.aload_n 0, 1) := by decide +kernel
theorem dX5_go_88 : decode cX5_go 88 = .ok (.getfield 83, 3) := by decide +kernel
theorem dX5_go_91 : decode cX5_go 91 = .ok (.aload_n 0, 1) := by decide +kernel
theorem dX5_go_92 : decode cX5_go 92 = .ok (.invokevirtual 124, 3) := by decide +kernel
theorem dX5_go_95 : decode cX5_go 95 = .ok (.isub, 1) := by decide +kernel
theorem dX5_go_96 : decode cX5_go 96 = .ok (.bipush 6, 2) := by decide +kernel
theorem dX5_go_98 : decode cX5_go 98 = .ok (.if_icmp .lt 14, 3) := by decide +kernel
theorem dX5_go_101 : decode cX5_go 101 = .ok (.aload_n 0, 1) := by decide +kernel
theorem dX5_go_102 : decode cX5_go 102 = .ok (.dup, 1) := by decide +kernel
theorem dX5_go_103 : decode cX5_go 103 = .ok (.getfield 7, 3) := by decide +kernel
theorem dX5_go_106 : decode cX5_go 106 = .ok (.bipush 14, 2) := by decide +kernel
theorem dX5_go_108 : decode cX5_go 108 = .ok (.iadd, 1) := by decide +kernel
theorem dX5_go_109 : decode cX5_go 109 = .ok (.putfield 7, 3) := by decide +kernel
theorem dX5_go_112 : decode cX5_go 112 = .ok (.aload_n 0, 1) := by decide +kernel
theorem dX5_go_113 : decode cX5_go 113 = .ok (.dup, 1) := by decide +kernel
theorem dX5_go_114 : decode cX5_go 114 = .ok (.getfield 115, 3) := by decide +kernel
theorem dX5_go_117 : decode cX5_go 117 = .ok (.iconst 1, 1) := by decide +kernel
theorem dX5_go_118 : decode cX5_go 118 = .ok (.iadd, 1) := by decide +kernel
theorem dX5_go_119 : decode cX5_go 119 = .ok (.putfield 115, 3) := by decide +kernel
theorem dX5_go_122 : decode cX5_go 122 = .ok (.iinc 2 1, 3) := by decide +kernel
theorem dX5_go_125 : decode cX5_go 125 = .ok (.goto (-110), 3) := by decide +kernel
theorem dX5_go_128 : decode cX5_go 128 = .ok (.aload_n 0, 1) := by decide +kernel
theorem dX5_go_129 : decode cX5_go 129 = .ok (.getfield 115, 3) := by decide +kernel
theorem dX5_go_132 : decode cX5_go 132 = .ok (.ireturn, 1) := by decide +kernel
set_option maxRecDepth 20000 in
theorem ggX5_fault_X5_in : GoodIn wsX5_fault wsX5_in := goodIn_r _ [10] (by decide +kernel) (by decide +kernel)
set_option maxRecDepth 20000 in
theorem gX5_fault_X5_in : GoodIn wsX5_fault (va_wsS RX5 92 yX5_in wsX5_in) := goodIn_app (goodIn_of _ (by decide +kernel)) ggX5_fault_X5_in
set_option maxRecDepth 20000 in
theorem ggX5_fault_X5_spoils : GoodIn wsX5_fault wsX5_spoils := goodIn_r _ [14, 15, 16, 17, 3, 18, 19, 9, 20, 21, 22, 23, 24, 25, 26, 27, 28, 29, 30, 31, 32, 33, 34, 35, 36, 37, 38, 39, 40, 41, 42, 43, 44, 45, 46, 47, 48, 49, 50, 51, 52] (by decide +kernel) (by decide +kernel)
set_option maxRecDepth 20000 in
theorem gX5_fault_X5_spoils : GoodIn wsX5_fault (wsV RX5 128 RX5 yX5_spoils wsX5_spoils) := goodIn_app (goodIn_of _ (by decide +kernel)) ggX5_fault_X5_spoils
theorem dX5_fault_0 : decode cX5_fault 0 = .ok (.iload_n 1, 1) := by decide +kernel
theorem dX5_fault_1 : decode cX5_fault 1 = .ok (.iconst 0, 1) := by decide +kernel
theorem dX5_fault_2 : decode cX5_fault 2 = .ok (.aload_n 0, 1) := by decide +kernel
theorem dX5_fault_3 : decode cX5_fault 3 = .ok (.getfield 80, 3) := by decide +kernel
theorem dX5_fault_6 : decode cX5_fault 6 = .ok (.iconst 1, 1) := by decide +kernel
theorem dX5_fault_7 : decode cX5_fault 7 = .ok (.isub, 1) := by decide +kernel
theorem dX5_fault_8 : decode cX5_fault 8 = .ok (.invokestatic 92, 3) := by decide +kernel
theorem dX5_fault_11 : decode cX5_fault 11 = .ok (.ifCond .eq 14, 3) := by decide +kernel
theorem dX5_fault_14 : decode cX5_fault 14 = .ok (.iload_n 2, 1) := by decide +kernel
theorem dX5_fault_15 : decode cX5_fault 15 = .ok (.iconst 1, 1) := by decide +kernel
theorem dX5_fault_16 : decode cX5_fault 16 = .ok (.sipush 200, 3) := by decide +kernel
theorem dX5_fault_19 : decode cX5_fault 19 = .ok (.invokestatic 92, 3) := by decide +kernel
theorem dX5_fault_22 : decode cX5_fault 22 = .ok (.ifCond .ne 5, 3) := by decide +kernel
theorem dX5_fault_25 : decode cX5_fault 25 = .ok (.iconst 0, 1) := by decide +kernel
theorem dX5_fault_26 : decode cX5_fault 26 = .ok (.ireturn, 1) := by decide +kernel
theorem dX5_fault_27 : decode cX5_fault 27 = .ok (.iconst 0, 1) := by decide +kernel
theorem dX5_fault_28 : decode cX5_fault 28 = .ok (.istore_n 3, 1) := by decide +kernel
theorem dX5_fault_29 : decode cX5_fault 29 = .ok (.iload_n 3, 1) := by decide +kernel
theorem dX5_fault_30 : decode cX5_fault 30 = .ok (.aload_n 0, 1) := by decide +kernel
theorem dX5_fault_31 : decode cX5_fault 31 = .ok (.getfield 112, 3) := by decide +kernel
theorem dX5_fault_34 : decode cX5_fault 34 = .ok (.if_icmp .ge 34, 3) := by decide +kernel
theorem dX5_fault_37 : decode cX5_fault 37 = .ok (.aload_n 0, 1) := by decide +kernel
theorem dX5_fault_38 : decode cX5_fault 38 = .ok (.getfield 38, 3) := by decide +kernel
theorem dX5_fault_41 : decode cX5_fault 41 = .ok (.iload_n 3, 1) := by decide +kernel
theorem dX5_fault_42 : decode cX5_fault 42 = .ok (.iaload, 1) := by decide +kernel
theorem dX5_fault_43 : decode cX5_fault 43 = .ok (.iconst 3, 1) := by decide +kernel
theorem dX5_fault_44 : decode cX5_fault 44 = .ok (.if_icmp .ne 18, 3) := by decide +kernel
theorem dX5_fault_47 : decode cX5_fault 47 = .ok (.aload_n 0, 1) := by decide +kernel
theorem dX5_fault_48 : decode cX5_fault 48 = .ok (.getfield 44, 3) := by decide +kernel
theorem dX5_fault_51 : decode cX5_fault 51 = .ok (.iload_n 3, 1) := by decide +kernel
theorem dX5_fault_52 : decode cX5_fault 52 = .ok (.iaload, 1) := by decide +kernel
theorem dX5_fault_53 : decode cX5_fault 53 = .ok (.iload_n 1, 1) := by decide +kernel
theorem dX5_fault_54 : decode cX5_fault 54 = .ok (.if_icmp .ne 8, 3) := by decide +kernel
theorem dX5_fault_57 : decode cX5_fault 57 = .ok (.aload_n 0, 1) := by decide +kernel
theorem dX5_fault_58 : decode cX5_fault 58 = .ok (.iload_n 3, 1) := by decide +kernel
theorem dX5_fault_59 : decode cX5_fault 59 = .ok (.invokevirtual 128, 3) := by decide +kernel
theorem dX5_fault_62 : decode cX5_fault 62 = .ok (.iinc 3 1, 3) := by decide +kernel
theorem dX5_fault_65 : decode cX5_fault 65 = .ok (.goto (-36), 3) := by decide +kernel
theorem dX5_fault_68 : decode cX5_fault 68 = .ok (.aload_n 0, 1) := by decide +kernel
theorem dX5_fault_69 : decode cX5_fault 69 = .ok (.getfield 56, 3) := by decide +kernel
theorem dX5_fault_72 : decode cX5_fault 72 = .ok (.iload_n 1, 1) := by decide +kernel
theorem dX5_fault_73 : decode cX5_fault 73 = .ok (.iconst 0, 1) := by decide +kernel
theorem dX5_fault_74 : decode cX5_fault 74 = .ok (.iastore, 1) := by decide +kernel
theorem dX5_fault_75 : decode cX5_fault 75 = .ok (.aload_n 0, 1) := by decide +kernel
theorem dX5_fault_76 : decode cX5_fault 76 = .ok (.getfield 62, 3) := by decide +kernel
theorem dX5_fault_79 : decode cX5_fault 79 = .ok (.iload_n 1, 1) := by decide +kernel
theorem dX5_fault_80 : decode cX5_fault 80 = .ok (.iload_n 2, 1) := by decide +kernel
theorem dX5_fault_81 : decode cX5_fault 81 = .ok (.iastore, 1) := by decide +kernel
theorem dX5_fault_82 : decode cX5_fault 82 = .ok (.iconst 1, 1) := by decide +kernel
theorem dX5_fault_83 : decode cX5_fault 83 = .ok (.ireturn, 1) := by decide +kernel
set_option maxRecDepth 20000 in
theorem ggX5_limit_X5_in : GoodIn wsX5_limit wsX5_in := goodIn_r _ [5] (by decide +kernel) (by decide +kernel)
set_option maxRecDepth 20000 in
theorem gX5_limit_X5_in : GoodIn wsX5_limit (va_wsS RX5 92 yX5_in wsX5_in) := goodIn_app (goodIn_of _ (by decide +kernel)) ggX5_limit_X5_in
theorem dX5_limit_0 : decode cX5_limit 0 = .ok (.iload_n 1, 1) := by decide +kernel
theorem dX5_limit_1 : decode cX5_limit 1 = .ok (.bipush 6, 2) := by decide +kernel
theorem dX5_limit_3 : decode cX5_limit 3 = .ok (.bipush 30, 2) := by decide +kernel
theorem dX5_limit_5 : decode cX5_limit 5 = .ok (.invokestatic 92, 3) := by decide +kernel
theorem dX5_limit_8 : decode cX5_limit 8 = .ok (.ifCond .ne 5, 3) := by decide +kernel
theorem dX5_limit_11 : decode cX5_limit 11 = .ok (.iconst 0, 1) := by decide +kernel
theorem dX5_limit_12 : decode cX5_limit 12 = .ok (.ireturn, 1) := by decide +kernel
theorem dX5_limit_13 : decode cX5_limit 13 = .ok (.aload_n 0, 1) := by decide +kernel
theorem dX5_limit_14 : decode cX5_limit 14 = .ok (.iload_n 1, 1) := by decide +kernel
theorem dX5_limit_15 : decode cX5_limit 15 = .ok (.putfield 83, 3) := by decide +kernel
theorem dX5_limit_18 : decode cX5_limit 18 = .ok (.iconst 1, 1) := by decide +kernel
theorem dX5_limit_19 : decode cX5_limit 19 = .ok (.ireturn, 1) := by decide +kernel
set_option maxRecDepth 20000 in
theorem ggX5_tell_X5_in : GoodIn wsX5_tell wsX5_in := goodIn_r _ [5] (by decide +kernel) (by decide +kernel)
set_option maxRecDepth 20000 in
theorem gX5_tell_X5_in : GoodIn wsX5_tell (va_wsS RX5 92 yX5_in wsX5_in) := goodIn_app (goodIn_of _ (by decide +kernel)) ggX5_tell_X5_in
theorem dX5_tell_0 : decode cX5_tell 0 = .ok (.iload_n 1, 1) := by decide +kernel
theorem dX5_tell_1 : decode cX5_tell 1 = .ok (.iconst 0, 1) := by decide +kernel
theorem dX5_tell_2 : decode cX5_tell 2 = .ok (.sipush 1000, 3) := by decide +kernel
theorem dX5_tell_5 : decode cX5_tell 5 = .ok (.invokestatic 92, 3) := by decide +kernel
theorem dX5_tell_8 : decode cX5_tell 8 = .ok (.ifCond .eq 14, 3) := by decide +kernel
theorem dX5_tell_11 : decode cX5_tell 11 = .ok (.iload_n 2, 1) := by decide +kernel
theorem dX5_tell_12 : decode cX5_tell 12 = .ok (.iconst 0, 1) := by decide +kernel
theorem dX5_tell_13 : decode cX5_tell 13 = .ok (.sipush 1000, 3) := by decide +kernel
theorem dX5_tell_16 : decode cX5_tell 16 = .ok (.invokestatic 92, 3) := by decide +kernel
theorem dX5_tell_19 : decode cX5_tell 19 = .ok (.ifCond .ne 5, 3) := by decide +kernel
theorem dX5_tell_22 : decode cX5_tell 22 = .ok (.iconst (-1), 1) := by decide +kernel
theorem dX5_tell_23 : decode cX5_tell 23 = .ok (.ireturn, 1) := by decide +kernel
theorem dX5_tell_24 : decode cX5_tell 24 = .ok (.iload_n 1, 1) := by decide +kernel
theorem dX5_tell_25 : decode cX5_tell 25 = .ok (.iload_n 2, 1) := by decide +kernel
theorem dX5_tell_26 : decode cX5_tell 26 = .ok (.isub, 1) := by decide +kernel
theorem dX5_tell_27 : decode cX5_tell 27 = .ok (.iconst 4, 1) := by decide +kernel
theorem dX5_tell_28 : decode cX5_tell 28 = .ok (.idiv, 1) := by decide +kernel
theorem dX5_tell_29 : decode cX5_tell 29 = .ok (.istore_n 3, 1) := by decide +kernel
theorem dX5_tell_30 : decode cX5_tell 30 = .ok (.iload_n 3, 1) := by decide +kernel
theorem dX5_tell_31 : decode cX5_tell 31 = .ok (.bipush 6, 2) := by decide +kernel
theorem dX5_tell_33 : decode cX5_tell 33 = .ok (.if_icmp .le 6, 3) := by decide +kernel
theorem dX5_tell_36 : decode cX5_tell 36 = .ok (.bipush 6, 2) := by decide +kernel
theorem dX5_tell_38 : decode cX5_tell 38 = .ok (.istore_n 3, 1) := by decide +kernel
theorem dX5_tell_39 : decode cX5_tell 39 = .ok (.iload_n 3, 1) := by decide +kernel
theorem dX5_tell_40 : decode cX5_tell 40 = .ok (.bipush (-6), 2) := by decide +kernel
theorem dX5_tell_42 : decode cX5_tell 42 = .ok (.if_icmp .ge 6, 3) := by decide +kernel
theorem dX5_tell_45 : decode cX5_tell 45 = .ok (.bipush (-6), 2) := by decide +kernel
theorem dX5_tell_47 : decode cX5_tell 47 = .ok (.istore_n 3, 1) := by decide +kernel
theorem dX5_tell_48 : decode cX5_tell 48 = .ok (.aload_n 0, 1) := by decide +kernel
theorem dX5_tell_49 : decode cX5_tell 49 = .ok (.dup, 1) := by decide +kernel
theorem dX5_tell_50 : decode cX5_tell 50 = .ok (.getfield 65, 3) := by decide +kernel
theorem dX5_tell_53 : decode cX5_tell 53 = .ok (.iload_n 3, 1) := by decide +kernel
theorem dX5_tell_54 : decode cX5_tell 54 = .ok (.iadd, 1) := by decide +kernel
theorem dX5_tell_55 : decode cX5_tell 55 = .ok (.putfield 65, 3) := by decide +kernel
theorem dX5_tell_58 : decode cX5_tell 58 = .ok (.aload_n 0, 1) := by decide +kernel
theorem dX5_tell_59 : decode cX5_tell 59 = .ok (.getfield 65, 3) := by decide +kernel
theorem dX5_tell_62 : decode cX5_tell 62 = .ok (.ifCond .ge 8, 3) := by decide +kernel
theorem dX5_tell_65 : decode cX5_tell 65 = .ok (.aload_n 0, 1) := by decide +kernel
theorem dX5_tell_66 : decode cX5_tell 66 = .ok (.iconst 0, 1) := by decide +kernel
theorem dX5_tell_67 : decode cX5_tell 67 = .ok (.putfield 65, 3) := by decide +kernel
theorem dX5_tell_70 : decode cX5_tell 70 = .ok (.aload_n 0, 1) := by decide +kernel
theorem dX5_tell_71 : decode cX5_tell 71 = .ok (.getfield 65, 3) := by decide +kernel
theorem dX5_tell_74 : decode cX5_tell 74 = .ok (.bipush 100, 2) := by decide +kernel
theorem dX5_tell_76 : decode cX5_tell 76 = .ok (.if_icmp .le 9, 3) := by decide +kernel
theorem dX5_tell_79 : decode cX5_tell 79 = .ok (.aload_n 0, 1) := by decide +kernel
theorem dX5_tell_80 : decode cX5_tell 80 = .ok (.bipush 100, 2) := by decide +kernel
theorem dX5_tell_82 : decode cX5_tell 82 = .ok (.putfield 65, 3) := by decide +kernel
theorem dX5_tell_85 : decode cX5_tell 85 = .ok (.aload_n 0, 1) := by decide +kernel
theorem dX5_tell_86 : decode cX5_tell 86 = .ok (.getfield 65, 3) := by decide +kernel
theorem dX5_tell_89 : decode cX5_tell 89 = .ok (.ireturn, 1) := by decide +kernel
set_option maxRecDepth 20000 in
theorem ggX5_cup_X5_in : GoodIn wsX5_cup wsX5_in := goodIn_r _ [13] (by decide +kernel) (by decide +kernel)
set_option maxRecDepth 20000 in
theorem gX5_cup_X5_in : GoodIn wsX5_cup (va_wsS RX5 92 yX5_in wsX5_in) := goodIn_app (goodIn_of _ (by decide +kernel)) ggX5_cup_X5_in
theorem dX5_cup_0 : decode cX5_cup 0 = .ok (.iload_n 1, 1) := by decide +kernel
theorem dX5_cup_1 : decode cX5_cup 1 = .ok (.iconst 0, 1) := by decide +kernel
theorem dX5_cup_2 : decode cX5_cup 2 = .ok (.aload_n 0, 1) := by decide +kernel
theorem dX5_cup_3 : decode cX5_cup 3 = .ok (.getfield 112, 3) := by decide +kernel
theorem dX5_cup_6 : decode cX5_cup 6 = .ok (.iconst 1, 1) := by decide +kernel
theorem dX5_cup_7 : decode cX5_cup 7 = .ok (.isub, 1) := by decide +kernel
theorem dX5_cup_8 : decode cX5_cup 8 = .ok (.invokestatic 92, 3) := by decide +kernel
theorem dX5_cup_11 : decode cX5_cup 11 = .ok (.ifCond .ne 5, 3) := by decide +kernel
theorem dX5_cup_14 : decode cX5_cup 14 = .ok (.iconst (-1), 1) := by decide +kernel
theorem dX5_cup_15 : decode cX5_cup 15 = .ok (.ireturn, 1) := by decide +kernel
theorem dX5_cup_16 : decode cX5_cup 16 = .ok (.aload_n 0, 1) := by decide +kernel
theorem dX5_cup_17 : decode cX5_cup 17 = .ok (.getfield 38, 3) := by decide +kernel
theorem dX5_cup_20 : decode cX5_cup 20 = .ok (.iload_n 1, 1) := by decide +kernel
theorem dX5_cup_21 : decode cX5_cup 21 = .ok (.iaload, 1) := by decide +kernel
theorem dX5_cup_22 : decode cX5_cup 22 = .ok (.istore_n 3, 1) := by decide +kernel
theorem dX5_cup_23 : decode cX5_cup 23 = .ok (.iload_n 2, 1) := by decide +kernel
theorem dX5_cup_24 : decode cX5_cup 24 = .ok (.tableswitch 127 0 7 #[48, 50, 57, 64, 71, 78, 94, 120], 48) := by decide +kernel
theorem dX5_cup_72 : decode cX5_cup 72 = .ok (.iload_n 3, 1) := by decide +kernel
theorem dX5_cup_73 : decode cX5_cup 73 = .ok (.ireturn, 1) := by decide +kernel
theorem dX5_cup_74 : decode cX5_cup 74 = .ok (.aload_n 0, 1) := by decide +kernel
theorem dX5_cup_75 : decode cX5_cup 75 = .ok (.getfield 29, 3) := by decide +kernel
theorem dX5_cup_78 : decode cX5_cup 78 = .ok (.iload_n 1, 1) := by decide +kernel
theorem dX5_cup_79 : decode cX5_cup 79 = .ok (.iaload, 1) := by decide +kernel
theorem dX5_cup_80 : decode cX5_cup 80 = .ok (.ireturn, 1) := by decide +kernel
theorem dX5_cup_81 : decode cX5_cup 81 = .ok (.aload_n 0, 1) := by decide +kernel
theorem dX5_cup_82 : decode cX5_cup 82 = .ok (.getfield 32, 3) := by decide +kernel
theorem dX5_cup_85 : decode cX5_cup 85 = .ok (.iload_n 1, 1) := by decide +kernel
theorem dX5_cup_86 : decode cX5_cup 86 = .ok (.iaload, 1) := by decide +kernel
theorem dX5_cup_87 : decode cX5_cup 87 = .ok (.ireturn, 1) := by decide +kernel
theorem dX5_cup_88 : decode cX5_cup 88 = .ok (.aload_n 0, 1) := by decide +kernel
theorem dX5_cup_89 : decode cX5_cup 89 = .ok (.getfield 35, 3) := by decide +kernel
theorem dX5_cup_92 : decode cX5_cup 92 = .ok (.iload_n 1, 1) := by decide +kernel
theorem dX5_cup_93 : decode cX5_cup 93 = .ok (.iaload, 1) := by decide +kernel
theorem dX5_cup_94 : decode cX5_cup 94 = .ok (.ireturn, 1) := by decide +kernel
theorem dX5_cup_95 : decode cX5_cup 95 = .ok (.aload_n 0, 1) := by decide +kernel
theorem dX5_cup_96 : decode cX5_cup 96 = .ok (.getfield 50, 3) := by decide +kernel
theorem dX5_cup_99 : decode cX5_cup 99 = .ok (.iload_n 1, 1) := by decide +kernel
theorem dX5_cup_100 : decode cX5_cup 100 = .ok (.iaload, 1) := by decide +kernel
theorem dX5_cup_101 : decode cX5_cup 101 = .ok (.ireturn, 1) := by decide +kernel
theorem dX5_cup_102 : decode cX5_cup 102 = .ok (.iload_n 3, 1) := by decide +kernel
theorem dX5_cup_103 : decode cX5_cup 103 = .ok (.iconst 3, 1) := by decide +kernel
theorem dX5_cup_104 : decode cX5_cup 104 = .ok (.if_icmp .ne 12, 3) := by decide +kernel
theorem dX5_cup_107 : decode cX5_cup 107 = .ok (.aload_n 0, 1) := by decide +kernel
theorem dX5_cup_108 : decode cX5_cup 108 = .ok (.getfield 44, 3) := by decide +kernel
theorem dX5_cup_111 : decode cX5_cup 111 = .ok (.iload_n 1, 1) := by decide +kernel
theorem dX5_cup_112 : decode cX5_cup 112 = .ok (.iaload, 1) := by decide +kernel
theorem dX5_cup_113 : decode cX5_cup 113 = .ok (.goto 4, 3) := by decide +kernel
theorem dX5_cup_116 : decode cX5_cup 116 = .ok (.iconst (-1), 1) := by decide +kernel
theorem dX5_cup_117 : decode cX5_cup 117 = .ok (.ireturn, 1) := by decide +kernel
theorem dX5_cup_118 : decode cX5_cup 118 = .ok (.iload_n 3, 1) := by decide +kernel
theorem dX5_cup_119 : decode cX5_cup 119 = .ok (.iconst 1, 1) := by decide +kernel
theorem dX5_cup_120 : decode cX5_cup 120 = .ok (.if_icmp .eq 13, 3) := by decide +kernel
theorem dX5_cup_123 : decode cX5_cup 123 = .ok (.iload_n 3, 1) := by decide +kernel
theorem dX5_cup_124 : decode cX5_cup 124 = .ok (.iconst 3, 1) := by decide +kernel
theorem dX5_cup_125 : decode cX5_cup 125 = .ok (.if_icmp .eq 8, 3) := by decide +kernel
theorem dX5_cup_128 : decode cX5_cup 128 = .ok (.iload_n 3, 1) := by decide +kernel
theorem dX5_cup_129 : decode cX5_cup 129 = .ok (.iconst 5, 1) := by decide +kernel
theorem dX5_cup_130 : decode cX5_cup 130 = .ok (.if_icmp .ne 12, 3) := by decide +kernel
theorem dX5_cup_133 : decode cX5_cup 133 = .ok (.aload_n 0, 1) := by decide +kernel
theorem dX5_cup_134 : decode cX5_cup 134 = .ok (.getfield 41, 3) := by decide +kernel
theorem dX5_cup_137 : decode cX5_cup 137 = .ok (.iload_n 1, 1) := by decide +kernel
theorem dX5_cup_138 : decode cX5_cup 138 = .ok (.iaload, 1) := by decide +kernel
theorem dX5_cup_139 : decode cX5_cup 139 = .ok (.goto 4, 3) := by decide +kernel
theorem dX5_cup_142 : decode cX5_cup 142 = .ok (.iconst (-1), 1) := by decide +kernel
theorem dX5_cup_143 : decode cX5_cup 143 = .ok (.ireturn, 1) := by decide +kernel
theorem dX5_cup_144 : decode cX5_cup 144 = .ok (.aload_n 0, 1) := by decide +kernel
theorem dX5_cup_145 : decode cX5_cup 145 = .ok (.getfield 53, 3) := by decide +kernel
theorem dX5_cup_148 : decode cX5_cup 148 = .ok (.iload_n 1, 1) := by decide +kernel
theorem dX5_cup_149 : decode cX5_cup 149 = .ok (.iaload, 1) := by decide +kernel
theorem dX5_cup_150 : decode cX5_cup 150 = .ok (.ireturn, 1) := by decide +kernel
theorem dX5_cup_151 : decode cX5_cup 151 = .ok (.iconst (-1), 1) := by decide +kernel
theorem dX5_cup_152 : decode cX5_cup 152 = .ok (.ireturn, 1) := by decide +kernel
theorem dX5_brewing_0 : decode cX5_brewing 0 = .ok (.iconst 0, 1) := by decide +kernel
theorem dX5_brewing_1 : decode cX5_brewing 1 = .ok (.istore_n 2, 1) := by decide +kernel
theorem dX5_brewing_2 : decode cX5_brewing 2 = .ok (.iload_n 2, 1) := by decide +kernel
theorem dX5_brewing_3 : decode cX5_brewing 3 = .ok (.aload_n 0, 1) := by decide +kernel
theorem dX5_brewing_4 : decode cX5_brewing 4 = .ok (.getfield 112, 3) := by decide +kernel
theorem dX5_brewing_7 : decode cX5_brewing 7 = .ok (.if_icmp .ge 31, 3) := by decide +kernel
theorem dX5_brewing_10 : decode cX5_brewing 10 = .ok (.aload_n 0, 1) := by decide +kernel
theorem dX5_brewing_11 : decode cX5_brewing 11 = .ok (.getfield 38, 3) := by decide +kernel
theorem dX5_brewing_14 : decode cX5_brewing 14 = .ok (.iload_n 2, 1) := by decide +kernel
theorem dX5_brewing_15 : decode cX5_brewing 15 = .ok (.iaload, 1) := by decide +kernel
theorem dX5_brewing_16 : decode cX5_brewing 16 = .ok (.iconst 3, 1) := by decide +kernel
theorem dX5_brewing_17 : decode cX5_brewing 17 = .ok (.if_icmp .ne 15, 3) := by decide +kernel
theorem dX5_brewing_20 : decode cX5_brewing 20 = .ok (.aload_n 0, 1) := by decide +kernel
theorem dX5_brewing_21 : decode cX5_brewing 21 = .ok (.getfield 44, 3) := by decide +kernel
theorem dX5_brewing_24 : decode cX5_brewing 24 = .ok (.iload_n 2, 1) := by decide +kernel
theorem dX5_brewing_25 : decode cX5_brewing 25 = .ok (.iaload, 1) := by decide +kernel
theorem dX5_brewing_26 : decode cX5_brewing 26 = .ok (.iload_n 1, 1) := by decide +kernel
theorem dX5_brewing_27 : decode cX5_brewing 27 = .ok (.if_icmp .ne 5, 3) := by decide +kernel
theorem dX5_brewing_30 : decode cX5_brewing 30 = .ok (.iload_n 2, 1) := by decide +kernel
theorem dX5_brewing_31 : decode cX5_brewing 31 = .ok (.ireturn, 1) := by decide +kernel
theorem dX5_brewing_32 : decode cX5_brewing 32 = .ok (.iinc 2 1, 3) := by decide +kernel
theorem dX5_brewing_35 : decode cX5_brewing 35 = .ok (.goto (-33), 3) := by decide +kernel
theorem dX5_brewing_38 : decode cX5_brewing 38 = .ok (.iconst (-1), 1) := by decide +kernel
theorem dX5_brewing_39 : decode cX5_brewing 39 = .ok (.ireturn, 1) := by decide +kernel
set_option maxRecDepth 20000 in
theorem ggX5_group_X5_in : GoodIn wsX5_group wsX5_in := goodIn_r _ [9] (by decide +kernel) (by decide +kernel)
set_option maxRecDepth 20000 in
theorem gX5_group_X5_in : GoodIn wsX5_group (va_wsS RX5 92 yX5_in wsX5_in) := goodIn_app (goodIn_of _ (by decide +kernel)) ggX5_group_X5_in
set_option maxRecDepth 20000 in
theorem ggX5_group_X5_brewing : GoodIn wsX5_group wsX5_brewing := goodIn_r _ [13, 14, 15, 16, 17, 18, 19, 20, 21, 22, 23, 24, 25, 26, 27, 28, 29, 30, 31, 32, 33, 34, 35, 36, 37, 38, 39, 40, 41, 42, 43, 44, 45, 46, 47] (by decide +kernel) (by decide +kernel)
set_option maxRecDepth 20000 in
theorem gX5_group_X5_brewing : GoodIn wsX5_group (wsV RX5 167 RX5 yX5_brewing wsX5_brewing) := goodIn_app (goodIn_of _ (by decide +kernel)) ggX5_group_X5_brewing
theorem dX5_group_0 : decode cX5_group 0 = .ok (.iload_n 1, 1) := by decide +kernel
theorem dX5_group_1 : decode cX5_group 1 = .ok (.iconst 0, 1) := by decide +kernel
theorem dX5_group_2 : decode cX5_group 2 = .ok (.aload_n 0, 1) := by decide +kernel
theorem dX5_group_3 : decode cX5_group 3 = .ok (.getfield 80, 3) := by decide +kernel
theorem dX5_group_6 : decode cX5_group 6 = .ok (.iconst 1, 1) := by decide +kernel
theorem dX5_group_7 : decode cX5_group 7 = .ok (.isub, 1) := by decide +kernel
theorem dX5_group_8 : decode cX5_group 8 = .ok (.invokestatic 92, 3) := by decide +kernel
theorem dX5_group_11 : decode cX5_group 11 = .ok (.ifCond .ne 5, 3) := by decide +kernel
theorem dX5_group_14 : decode cX5_group 14 = .ok (.iconst (-1), 1) := by decide +kernel
theorem dX5_group_15 : decode cX5_group 15 = .ok (.ireturn, 1) := by decide +kernel
theorem dX5_group_16 : decode cX5_group 16 = .ok (.aload_n 0, 1) := by decide +kernel
theorem dX5_group_17 : decode cX5_group 17 = .ok (.iload_n 1, 1) := by decide +kernel
theorem dX5_group_18 : decode cX5_group 18 = .ok (.invokevirtual 167, 3) := by decide +kernel
theorem dX5_group_21 : decode cX5_group 21 = .ok (.istore_n 3, 1) := by decide +kernel
theorem dX5_group_22 : decode cX5_group 22 = .ok (.iload_n 2, 1) := by decide +kernel
theorem dX5_group_23 : decode cX5_group 23 = .ok (.tableswitch 88 0 3 #[29, 53, 74, 81], 29) := by decide +kernel
theorem dX5_group_52 : decode cX5_group 52 = .ok (.iload_n 3, 1) := by decide +kernel
theorem dX5_group_53 : decode cX5_group 53 = .ok (.iconst (-1), 1) := by decide +kernel
theorem dX5_group_54 : decode cX5_group 54 = .ok (.if_icmp .eq 7, 3) := by decide +kernel
theorem dX5_group_57 : decode cX5_group 57 = .ok (.iconst 1, 1) := by decide +kernel
theorem dX5_group_58 : decode cX5_group 58 = .ok (.goto 17, 3) := by decide +kernel
theorem dX5_group_61 : decode cX5_group 61 = .ok (.aload_n 0, 1) := by decide +kernel
theorem dX5_group_62 : decode cX5_group 62 = .ok (.getfield 56, 3) := by decide +kernel
theorem dX5_group_65 : decode cX5_group 65 = .ok (.iload_n 1, 1) := by decide +kernel
theorem dX5_group_66 : decode cX5_group 66 = .ok (.iaload, 1) := by decide +kernel
theorem dX5_group_67 : decode cX5_group 67 = .ok (.ifCond .le 7, 3) := by decide +kernel
theorem dX5_group_70 : decode cX5_group 70 = .ok (.iconst 2, 1) := by decide +kernel
theorem dX5_group_71 : decode cX5_group 71 = .ok (.goto 4, 3) := by decide +kernel
theorem dX5_group_74 : decode cX5_group 74 = .ok (.iconst 0, 1) := by decide +kernel
theorem dX5_group_75 : decode cX5_group 75 = .ok (.ireturn, 1) := by decide +kernel
theorem dX5_group_76 : decode cX5_group 76 = .ok (.iload_n 3, 1) := by decide +kernel
theorem dX5_group_77 : decode cX5_group 77 = .ok (.iconst (-1), 1) := by decide +kernel
theorem dX5_group_78 : decode cX5_group 78 = .ok (.if_icmp .eq 12, 3) := by decide +kernel
theorem dX5_group_81 : decode cX5_group 81 = .ok (.aload_n 0, 1) := by decide +kernel
theorem dX5_group_82 : decode cX5_group 82 = .ok (.getfield 41, 3) := by decide +kernel
theorem dX5_group_85 : decode cX5_group 85 = .ok (.iload_n 3, 1) := by decide +kernel
theorem dX5_group_86 : decode cX5_group 86 = .ok (.iaload, 1) := by decide +kernel
theorem dX5_group_87 : decode cX5_group 87 = .ok (.goto 9, 3) := by decide +kernel
theorem dX5_group_90 : decode cX5_group 90 = .ok (.aload_n 0, 1) := by decide +kernel
theorem dX5_group_91 : decode cX5_group 91 = .ok (.getfield 56, 3) := by decide +kernel
theorem dX5_group_94 : decode cX5_group 94 = .ok (.iload_n 1, 1) := by decide +kernel
theorem dX5_group_95 : decode cX5_group 95 = .ok (.iaload, 1) := by decide +kernel
theorem dX5_group_96 : decode cX5_group 96 = .ok (.ireturn, 1) := by decide +kernel
theorem dX5_group_97 : decode cX5_group 97 = .ok (.aload_n 0, 1) := by decide +kernel
theorem dX5_group_98 : decode cX5_group 98 = .ok (.getfield 59, 3) := by decide +kernel
theorem dX5_group_101 : decode cX5_group 101 = .ok (.iload_n 1, 1) := by decide +kernel
theorem dX5_group_102 : decode cX5_group 102 = .ok (.iaload, 1) := by decide +kernel
theorem dX5_group_103 : decode cX5_group 103 = .ok (.ireturn, 1) := by decide +kernel
theorem dX5_group_104 : decode cX5_group 104 = .ok (.aload_n 0, 1) := by decide +kernel
theorem dX5_group_105 : decode cX5_group 105 = .ok (.getfield 62, 3) := by decide +kernel
theorem dX5_group_108 : decode cX5_group 108 = .ok (.iload_n 1, 1) := by decide +kernel
theorem dX5_group_109 : decode cX5_group 109 = .ok (.iaload, 1) := by decide +kernel
theorem dX5_group_110 : decode cX5_group 110 = .ok (.ireturn, 1) := by decide +kernel
theorem dX5_group_111 : decode cX5_group 111 = .ok (.iconst (-1), 1) := by decide +kernel
theorem dX5_group_112 : decode cX5_group 112 = .ok (.ireturn, 1) := by decide +kernel
set_option maxRecDepth 20000 in
theorem ggX5_plans_X5_orders : GoodIn wsX5_plans wsX5_orders := goodIn_r _ [11, 6, 3, 30, 31, 32, 33, 34, 35, 36, 37, 38, 39, 40, 41, 42, 43, 44, 45, 46, 47, 48, 49, 50, 51, 52, 53, 54, 55, 56, 57, 58, 59, 60] (by decide +kernel) (by decide +kernel)
set_option maxRecDepth 20000 in
theorem gX5_plans_X5_orders : GoodIn wsX5_plans (wsV RX5 173 RX5 yX5_orders wsX5_orders) := goodIn_app (goodIn_of _ (by decide +kernel)) ggX5_plans_X5_orders
set_option maxRecDepth 20000 in
theorem ggX5_plans_X5_sumOf : GoodIn wsX5_plans wsX5_sumOf := goodIn_r _ [15, 16, 17, 18, 6, 19, 20, 21, 10, 22, 23, 24, 25, 26, 27, 28, 29, 30, 31, 32, 33, 34, 35, 36, 37, 38, 39, 40, 41, 42, 43, 44, 45, 46, 47, 48, 49, 50, 51, 52, 53, 54, 55, 56, 57, 58, 59, 60] (by decide +kernel) (by decide +kernel)
set_option maxRecDepth 20000 in
theorem gX5_plans_X5_sumOf : GoodIn wsX5_plans (wsV RX5 177 RX5 yX5_sumOf wsX5_sumOf) := goodIn_app (goodIn_of _ (by decide +kernel)) ggX5_plans_X5_sumOf
theorem dX5_plans_0 : decode cX5_plans 0 = .ok (.iconst 0, 1) := by decide +kernel
theorem dX5_plans_1 : decode cX5_plans 1 = .ok (.istore_n 1, 1) := by decide +kernel
theorem dX5_plans_2 : decode cX5_plans 2 = .ok (.iconst 0, 1) := by decide +kernel
theorem dX5_plans_3 : decode cX5_plans 3 = .ok (.istore_n 2, 1) := by decide +kernel
theorem dX5_plans_4 : decode cX5_plans 4 = .ok (.iload_n 2, 1) := by decide +kernel
theorem dX5_plans_5 : decode cX5_plans 5 = .ok (.aload_n 0, 1) := by decide +kernel
theorem dX5_plans_6 : decode cX5_plans 6 = .ok (.getfield 112, 3) := by decide +kernel
theorem dX5_plans_9 : decode cX5_plans 9 = .ok (.if_icmp .ge 38, 3) := by decide +kernel
theorem dX5_plans_12 : decode cX5_plans 12 = .ok (.aload_n 0, 1) := by decide +kernel
theorem dX5_plans_13 : decode cX5_plans 13 = .ok (.getfield 38, 3) := by decide +kernel
theorem dX5_plans_16 : decode cX5_plans 16 = .ok (.iload_n 2, 1) := by decide +kernel
theorem dX5_plans_17 : decode cX5_plans 17 = .ok (.iaload, 1) := by decide +kernel
theorem dX5_plans_18 : decode cX5_plans 18 = .ok (.ifCond .eq 6, 3) := by decide +kernel
theorem dX5_plans_21 : decode cX5_plans 21 = .ok (.goto 20, 3) := by decide +kernel
theorem dX5_plans_24 : decode cX5_plans 24 = .ok (.iload_n 1, 1) := by decide +kernel
theorem dX5_plans_25 : decode cX5_plans 25 = .ok (.iconst 5, 1) := by decide +kernel
theorem dX5_plans_26 : decode cX5_plans 26 = .ok (.if_icmp .ne 5, 3) := by decide +kernel
theorem dX5_plans_29 : decode cX5_plans 29 = .ok (.iconst (-1), 1) := by decide +kernel
theorem dX5_plans_30 : decode cX5_plans 30 = .ok (.ireturn, 1) := by decide +kernel
theorem dX5_plans_31 : decode cX5_plans 31 = .ok (.aload_n 0, 1) := by decide +kernel
theorem dX5_plans_32 : decode cX5_plans 32 = .ok (.getfield 68, 3) := by decide +kernel
theorem dX5_plans_35 : decode cX5_plans 35 = .ok (.iload_n 1, 1) := by decide +kernel
theorem dX5_plans_36 : decode cX5_plans 36 = .ok (.iload_n 2, 1) := by decide +kernel
theorem dX5_plans_37 : decode cX5_plans 37 = .ok (.iastore, 1) := by decide +kernel
theorem dX5_plans_38 : decode cX5_plans 38 = .ok (.iinc 1 1, 3) := by decide +kernel
theorem dX5_plans_41 : decode cX5_plans 41 = .ok (.iinc 2 1, 3) := by decide +kernel
theorem dX5_plans_44 : decode cX5_plans 44 = .ok (.goto (-40), 3) := by decide +kernel
theorem dX5_plans_47 : decode cX5_plans 47 = .ok (.iconst 1, 1) := by decide +kernel
theorem dX5_plans_48 : decode cX5_plans 48 = .ok (.istore_n 2, 1) := by decide +kernel
theorem dX5_plans_49 : decode cX5_plans 49 = .ok (.iconst 2, 1) := by decide +kernel
theorem dX5_plans_50 : decode cX5_plans 50 = .ok (.istore_n 3, 1) := by decide +kernel
theorem dX5_plans_51 : decode cX5_plans 51 = .ok (.iload_n 3, 1) := by decide +kernel
theorem dX5_plans_52 : decode cX5_plans 52 = .ok (.iload_n 1, 1) := by decide +kernel
theorem dX5_plans_53 : decode cX5_plans 53 = .ok (.if_icmp .gt 13, 3) := by decide +kernel
theorem dX5_plans_56 : decode cX5_plans 56 = .ok (.iload_n 2, 1) := by decide +kernel
theorem dX5_plans_57 : decode cX5_plans 57 = .ok (.iload_n 3, 1) := by decide +kernel
theorem dX5_plans_58 : decode cX5_plans 58 = .ok (.imul, 1) := by decide +kernel
theorem dX5_plans_59 : decode cX5_plans 59 = .ok (.istore_n 2, 1) := by decide +kernel
theorem dX5_plans_60 : decode cX5_plans 60 = .ok (.iinc 3 1, 3) := by decide +kernel
theorem dX5_plans_63 : decode cX5_plans 63 = .ok (.goto (-12), 3) := by decide +kernel
theorem dX5_plans_66 : decode cX5_plans 66 = .ok (.aload_n 0, 1) := by decide +kernel
theorem dX5_plans_67 : decode cX5_plans 67 = .ok (.iconst (-1), 1) := by decide +kernel
theorem dX5_plans_68 : decode cX5_plans 68 = .ok (.putfield 170, 3) := by decide +kernel
theorem dX5_plans_71 : decode cX5_plans 71 = .ok (.iconst 0, 1) := by decide +kernel
theorem dX5_plans_72 : decode cX5_plans 72 = .ok (.istore_n 3, 1) := by decide +kernel
theorem dX5_plans_73 : decode cX5_plans 73 = .ok (.iload_n 3, 1) := by decide +kernel
theorem dX5_plans_74 : decode cX5_plans 74 = .ok (.iload_n 2, 1) := by decide +kernel
theorem dX5_plans_75 : decode cX5_plans 75 = .ok (.if_icmp .ge 81, 3) := by decide +kernel
theorem dX5_plans_78 : decode cX5_plans 78 = .ok (.iload_n 1, 1) := by decide +kernel
theorem dX5_plans_79 : decode cX5_plans 79 = .ok (.ifCond .le 77, 3) := by decide +kernel
theorem dX5_plans_82 : decode cX5_plans 82 = .ok (.aload_n 0, 1) := by decide +kernel
theorem dX5_plans_83 : decode cX5_plans 83 = .ok (.iload_n 3, 1) := by decide +kernel
theorem dX5_plans_84 : decode cX5_plans 84 = .ok (.iload_n 1, 1) := by decide +kernel
theorem dX5_plans_85 : decode cX5_plans 85 = .ok (.invokevirtual 173, 3) := by decide +kernel
theorem dX5_plans_88 : decode cX5_plans 88 = .ok (.aload_n 0, 1) := by decide +kernel
theorem dX5_plans_89 : decode cX5_plans 89 = .ok (.iload_n 1, 1) := by decide +kernel
theorem dX5_plans_90 : decode cX5_plans 90 = .ok (.invokevirtual 177, 3) := by decide +kernel
theorem dX5_plans_93 : decode cX5_plans 93 = .ok (.istore 4, 2) := by decide +kernel
theorem dX5_plans_95 : decode cX5_plans 95 = .ok (.aload_n 0, 1) := by decide +kernel
theorem dX5_plans_96 : decode cX5_plans 96 = .ok (.getfield 170, 3) := by decide +kernel
theorem dX5_plans_99 : decode cX5_plans 99 = .ok (.iconst (-1), 1) := by decide +kernel
theorem dX5_plans_100 : decode cX5_plans 100 = .ok (.if_icmp .eq 15, 3) := by decide +kernel
theorem dX5_plans_103 : decode cX5_plans 103 = .ok (.iload 4, 2) := by decide +kernel
theorem dX5_plans_105 : decode cX5_plans 105 = .ok (.aload_n 0, 1) := by decide +kernel
theorem dX5_plans_106 : decode cX5_plans 106 = .ok (.getfield 170, 3) := by decide +kernel
theorem dX5_plans_109 : decode cX5_plans 109 = .ok (.if_icmp .lt 6, 3) := by decide +kernel
theorem dX5_plans_112 : decode cX5_plans 112 = .ok (.goto 38, 3) := by decide +kernel
theorem dX5_plans_115 : decode cX5_plans 115 = .ok (.aload_n 0, 1) := by decide +kernel
theorem dX5_plans_116 : decode cX5_plans 116 = .ok (.iload 4, 2) := by decide +kernel
theorem dX5_plans_118 : decode cX5_plans 118 = .ok (.putfield 170, 3) := by decide +kernel
theorem dX5_plans_121 : decode cX5_plans 121 = .ok (.iconst 0, 1) := by decide +kernel
theorem dX5_plans_122 : decode cX5_plans 122 = .ok (.istore 5, 2) := by decide +kernel
theorem dX5_plans_124 : decode cX5_plans 124 = .ok (.iload 5, 2) := by decide +kernel
theorem dX5_plans_126 : decode cX5_plans 126 = .ok (.iload_n 1, 1) := by decide +kernel
theorem dX5_plans_127 : decode cX5_plans 127 = .ok (.if_icmp .ge 23, 3) := by decide +kernel
theorem dX5_plans_130 : decode cX5_plans 130 = .ok (.aload_n 0, 1) := by decide +kernel
theorem dX5_plans_131 : decode cX5_plans 131 = .ok (.getfield 77, 3) := by decide +kernel
theorem dX5_plans_134 : decode cX5_plans 134 = .ok (.iload 5, 2) := by decide +kernel
theorem dX5_plans_136 : decode cX5_plans 136 = .ok (.aload_n 0, 1) := by decide +kernel
theorem dX5_plans_137 : decode cX5_plans 137 = .ok (.getfield 71, 3) := by decide +kernel
theorem dX5_plans_140 : decode cX5_plans 140 = .ok (.iload 5, 2) := by decide +kernel
theorem dX5_plans_142 : decode cX5_plans 142 = .ok (.iaload, 1) := by decide +kernel
theorem dX5_plans_143 : decode cX5_plans 143 = .ok (.iastore, 1) := by decide +kernel
theorem dX5_plans_144 : decode cX5_plans 144 = .ok (.iinc 5 1, 3) := by decide +kernel
theorem dX5_plans_147 : decode cX5_plans 147 = .ok (.goto (-23), 3) := by decide +kernel
theorem dX5_plans_150 : decode cX5_plans 150 = .ok (.iinc 3 1, 3) := by decide +kernel
theorem dX5_plans_153 : decode cX5_plans 153 = .ok (.goto (-80), 3) := by decide +kernel
theorem dX5_plans_156 : decode cX5_plans 156 = .ok (.iload_n 1, 1) := by decide +kernel
theorem dX5_plans_157 : decode cX5_plans 157 = .ok (.ifCond .ne 7, 3) := by decide +kernel
theorem dX5_plans_160 : decode cX5_plans 160 = .ok (.iconst (-1), 1) := by decide +kernel
theorem dX5_plans_161 : decode cX5_plans 161 = .ok (.goto 4, 3) := by decide +kernel
theorem dX5_plans_164 : decode cX5_plans 164 = .ok (.iload_n 1, 1) := by decide +kernel
theorem dX5_plans_165 : decode cX5_plans 165 = .ok (.ireturn, 1) := by decide +kernel
set_option maxRecDepth 20000 in
theorem ggX5_sumOf_X5_grind : GoodIn wsX5_sumOf wsX5_grind := goodIn_r _ [9, 10] (by decide +kernel) (by decide +kernel)
set_option maxRecDepth 20000 in
theorem gX5_sumOf_X5_grind : GoodIn wsX5_sumOf (va_wsS RX5 96 yX5_grind wsX5_grind) := goodIn_app (goodIn_of _ (by decide +kernel)) ggX5_sumOf_X5_grind
set_option maxRecDepth 20000 in
theorem ggX5_sumOf_X5_brew : GoodIn wsX5_sumOf wsX5_brew := goodIn_r _ [13] (by decide +kernel) (by decide +kernel)
set_option maxRecDepth 20000 in
theorem gX5_sumOf_X5_brew : GoodIn wsX5_sumOf (va_wsS RX5 99 yX5_brew wsX5_brew) := goodIn_app (goodIn_of _ (by decide +kernel)) ggX5_sumOf_X5_brew
set_option maxRecDepth 20000 in
theorem ggX5_sumOf_X5_steam : GoodIn wsX5_sumOf wsX5_steam := goodIn_r _ [16] (by decide +kernel) (by decide +kernel)
set_option maxRecDepth 20000 in
theorem gX5_sumOf_X5_steam : GoodIn wsX5_sumOf (va_wsS RX5 102 yX5_steam wsX5_steam) := goodIn_app (goodIn_of _ (by decide +kernel)) ggX5_sumOf_X5_steam
theorem dX5_sumOf_0 : decode cX5_sumOf 0 = .ok (.iconst 0, 1) := by decide +kernel
theorem dX5_sumOf_1 : decode cX5_sumOf 1 = .ok (.istore_n 2, 1) := by decide +kernel
theorem dX5_sumOf_2 : decode cX5_sumOf 2 = .ok (.aload_n 0, 1) := by decide +kernel
theorem dX5_sumOf_3 : decode cX5_sumOf 3 = .ok (.getfield 80, 3) := by decide +kernel
theorem dX5_sumOf_6 : decode cX5_sumOf 6 = .ok (.iconst 1, 1) := by decide +kernel
theorem dX5_sumOf_7 : decode cX5_sumOf 7 = .ok (.if_icmp .le 7, 3) := by decide +kernel
theorem dX5_sumOf_10 : decode cX5_sumOf 10 = .ok (.iconst 0, 1) := by decide +kernel
theorem dX5_sumOf_11 : decode cX5_sumOf 11 = .ok (.goto 5, 3) := by decide +kernel
theorem dX5_sumOf_14 : decode cX5_sumOf 14 = .ok (.ldc 86, 2) := by decide +kernel
theorem dX5_sumOf_16 : decode cX5_sumOf 16 = .ok (.istore_n 3, 1) := by decide +kernel
theorem dX5_sumOf_17 : decode cX5_sumOf 17 = .ok (.aload_n 0, 1) := by decide +kernel
theorem dX5_sumOf_18 : decode cX5_sumOf 18 = .ok (.getfield 80, 3) := by decide +kernel
theorem dX5_sumOf_21 : decode cX5_sumOf 21 = .ok (.iconst 2, 1) := by decide +kernel
theorem dX5_sumOf_22 : decode cX5_sumOf 22 = .ok (.if_icmp .le 7, 3) := by decide +kernel
theorem dX5_sumOf_25 : decode cX5_sumOf 25 = .ok (.iconst 0, 1) := by decide +kernel
theorem dX5_sumOf_26 : decode cX5_sumOf 26 = .ok (.goto 5, 3) := by decide +kernel
theorem dX5_sumOf_29 : decode cX5_sumOf 29 = .ok (.ldc 86, 2) := by decide +kernel
theorem dX5_sumOf_31 : decode cX5_sumOf 31 = .ok (.istore 4, 2) := by decide +kernel
theorem dX5_sumOf_33 : decode cX5_sumOf 33 = .ok (.iconst 0, 1) := by decide +kernel
theorem dX5_sumOf_34 : decode cX5_sumOf 34 = .ok (.istore 5, 2) := by decide +kernel
theorem dX5_sumOf_36 : decode cX5_sumOf 36 = .ok (.iconst 0, 1) := by decide +kernel
theorem dX5_sumOf_37 : decode cX5_sumOf 37 = .ok (.istore 6, 2) := by decide +kernel
theorem dX5_sumOf_39 : decode cX5_sumOf 39 = .ok (.iload 6, 2) := by decide +kernel
theorem dX5_sumOf_41 : decode cX5_sumOf 41 = .ok (.iload_n 1, 1) := by decide +kernel
theorem dX5_sumOf_42 : decode cX5_sumOf 42 = .ok (.if_icmp .ge 127, 3) := by decide +kernel
theorem dX5_sumOf_45 : decode cX5_sumOf 45 = .ok (.iload 5, 2) := by decide +kernel
theorem dX5_sumOf_47 : decode cX5_sumOf 47 = .ok (.aload_n 0, 1) := by decide +kernel
theorem dX5_sumOf_48 : decode cX5_sumOf 48 = .ok (.getfield 23, 3) := by decide +kernel
theorem dX5_sumOf_51 : decode cX5_sumOf 51 = .ok (.aload_n 0, 1) := by decide +kernel
theorem dX5_sumOf_52 : decode cX5_sumOf 52 = .ok (.getfield 71, 3) := by decide +kernel
theorem dX5_sumOf_55 : decode cX5_sumOf 55 = .ok (.iload 6, 2) := by decide +kernel
theorem dX5_sumOf_57 : decode cX5_sumOf 57 = .ok (.iaload, 1) := by decide +kernel
theorem dX5_sumOf_58 : decode cX5_sumOf 58 = .ok (.iaload, 1) := by decide +kernel
theorem dX5_sumOf_59 : decode cX5_sumOf 59 = .ok (.invokestatic 96, 3) := by decide +kernel
theorem dX5_sumOf_62 : decode cX5_sumOf 62 = .ok (.iadd, 1) := by decide +kernel
theorem dX5_sumOf_63 : decode cX5_sumOf 63 = .ok (.istore 5, 2) := by decide +kernel
theorem dX5_sumOf_65 : decode cX5_sumOf 65 = .ok (.iload_n 2, 1) := by decide +kernel
theorem dX5_sumOf_66 : decode cX5_sumOf 66 = .ok (.iload_n 3, 1) := by decide +kernel
theorem dX5_sumOf_67 : decode cX5_sumOf 67 = .ok (.if_icmp .gt 13, 3) := by decide +kernel
theorem dX5_sumOf_70 : decode cX5_sumOf 70 = .ok (.iload_n 2, 1) := by decide +kernel
theorem dX5_sumOf_71 : decode cX5_sumOf 71 = .ok (.iload 4, 2) := by decide +kernel
theorem dX5_sumOf_73 : decode cX5_sumOf 73 = .ok (.if_icmp .gt 7, 3) := by decide +kernel
theorem dX5_sumOf_76 : decode cX5_sumOf 76 = .ok (.iload_n 2, 1) := by decide +kernel
theorem dX5_sumOf_77 : decode cX5_sumOf 77 = .ok (.goto 15, 3) := by decide +kernel
theorem dX5_sumOf_80 : decode cX5_sumOf 80 = .ok (.iload_n 3, 1) := by decide +kernel
theorem dX5_sumOf_81 : decode cX5_sumOf 81 = .ok (.iload 4, 2) := by decide +kernel
theorem dX5_sumOf_83 : decode cX5_sumOf 83 = .ok (.if_icmp .gt 7, 3) := by decide +kernel
theorem dX5_sumOf_86 : decode cX5_sumOf 86 = .ok (.iload_n 3, 1) := by decide +kernel
theorem dX5_sumOf_87 : decode cX5_sumOf 87 = .ok (.goto 5, 3) := by decide +kernel
theorem dX5_sumOf_90 : decode cX5_sumOf 90 = .ok (.iload 4, 2) := by decide +kernel
theorem dX5_sumOf_92 : decode cX5_sumOf 92 = .ok (.istore 7, 2) := by decide +kernel
theorem dX5_sumOf_94 : decode cX5_sumOf 94 = .ok (.iload 7, 2) := by decide +kernel
theorem dX5_sumOf_96 : decode cX5_sumOf 96 = .ok (.iload 5, 2) := by decide +kernel
theorem dX5_sumOf_98 : decode cX5_sumOf 98 = .ok (.if_icmp .le 8, 3) := by decide +kernel
theorem dX5_sumOf_101 : decode cX5_sumOf 101 = .ok (.iload 7, 2) := by decide +kernel
theorem dX5_sumOf_103 : decode cX5_sumOf 103 = .ok (.goto 5, 3) := by decide +kernel
theorem dX5_sumOf_106 : decode cX5_sumOf 106 = .ok (.iload 5, 2) := by decide +kernel
theorem dX5_sumOf_108 : decode cX5_sumOf 108 = .ok (.aload_n 0, 1) := by decide +kernel
theorem dX5_sumOf_109 : decode cX5_sumOf 109 = .ok (.getfield 23, 3) := by decide +kernel
theorem dX5_sumOf_112 : decode cX5_sumOf 112 = .ok (.aload_n 0, 1) := by decide +kernel
theorem dX5_sumOf_113 : decode cX5_sumOf 113 = .ok (.getfield 71, 3) := by decide +kernel
theorem dX5_sumOf_116 : decode cX5_sumOf 116 = .ok (.iload 6, 2) := by decide +kernel
theorem dX5_sumOf_118 : decode cX5_sumOf 118 = .ok (.iaload, 1) := by decide +kernel
theorem dX5_sumOf_119 : decode cX5_sumOf 119 = .ok (.iaload, 1) := by decide +kernel
theorem dX5_sumOf_120 : decode cX5_sumOf 120 = .ok (.invokestatic 99, 3) := by decide +kernel
theorem dX5_sumOf_123 : decode cX5_sumOf 123 = .ok (.iadd, 1) := by decide +kernel
theorem dX5_sumOf_124 : decode cX5_sumOf 124 = .ok (.istore 8, 2) := by decide +kernel
theorem dX5_sumOf_126 : decode cX5_sumOf 126 = .ok (.aload_n 0, 1) := by decide +kernel
theorem dX5_sumOf_127 : decode cX5_sumOf 127 = .ok (.getfield 74, 3) := by decide +kernel
theorem dX5_sumOf_130 : decode cX5_sumOf 130 = .ok (.iload 6, 2) := by decide +kernel
theorem dX5_sumOf_132 : decode cX5_sumOf 132 = .ok (.iload 8, 2) := by decide +kernel
theorem dX5_sumOf_134 : decode cX5_sumOf 134 = .ok (.iastore, 1) := by decide +kernel
theorem dX5_sumOf_135 : decode cX5_sumOf 135 = .ok (.iload 7, 2) := by decide +kernel
theorem dX5_sumOf_137 : decode cX5_sumOf 137 = .ok (.iload_n 2, 1) := by decide +kernel
theorem dX5_sumOf_138 : decode cX5_sumOf 138 = .ok (.if_icmp .ne 9, 3) := by decide +kernel
theorem dX5_sumOf_141 : decode cX5_sumOf 141 = .ok (.iload 8, 2) := by decide +kernel
theorem dX5_sumOf_143 : decode cX5_sumOf 143 = .ok (.istore_n 2, 1) := by decide +kernel
theorem dX5_sumOf_144 : decode cX5_sumOf 144 = .ok (.goto 19, 3) := by decide +kernel
theorem dX5_sumOf_147 : decode cX5_sumOf 147 = .ok (.iload 7, 2) := by decide +kernel
theorem dX5_sumOf_149 : decode cX5_sumOf 149 = .ok (.iload_n 3, 1) := by decide +kernel
theorem dX5_sumOf_150 : decode cX5_sumOf 150 = .ok (.if_icmp .ne 9, 3) := by decide +kernel
theorem dX5_sumOf_153 : decode cX5_sumOf 153 = .ok (.iload 8, 2) := by decide +kernel
theorem dX5_sumOf_155 : decode cX5_sumOf 155 = .ok (.istore_n 3, 1) := by decide +kernel
theorem dX5_sumOf_156 : decode cX5_sumOf 156 = .ok (.goto 7, 3) := by decide +kernel
theorem dX5_sumOf_159 : decode cX5_sumOf 159 = .ok (.iload 8, 2) := by decide +kernel
theorem dX5_sumOf_161 : decode cX5_sumOf 161 = .ok (.istore 4, 2) := by decide +kernel
theorem dX5_sumOf_163 : decode cX5_sumOf 163 = .ok (.iinc 6 1, 3) := by decide +kernel
theorem dX5_sumOf_166 : decode cX5_sumOf 166 = .ok (.goto (-127), 3) := by decide +kernel
theorem dX5_sumOf_169 : decode cX5_sumOf 169 = .ok (.iconst 0, 1) := by decide +kernel
theorem dX5_sumOf_170 : decode cX5_sumOf 170 = .ok (.istore 6, 2) := by decide +kernel
theorem dX5_sumOf_172 : decode cX5_sumOf 172 = .ok (.iconst 0, 1) := by decide +kernel
theorem dX5_sumOf_173 : decode cX5_sumOf 173 = .ok (.istore 7, 2) := by decide +kernel
theorem dX5_sumOf_175 : decode cX5_sumOf 175 = .ok (.iconst 0, 1) := by decide +kernel
theorem dX5_sumOf_176 : decode cX5_sumOf 176 = .ok (.istore 8, 2) := by decide +kernel
theorem dX5_sumOf_178 : decode cX5_sumOf 178 = .ok (.iload 8, 2) := by decide +kernel
theorem dX5_sumOf_180 : decode cX5_sumOf 180 = .ok (.iconst 1, 1) := by decide +kernel
theorem dX5_sumOf_181 : decode cX5_sumOf 181 = .ok (.iload_n 1, 1) := by decide +kernel
theorem dX5_sumOf_182 : decode cX5_sumOf 182 = .ok (.ishl, 1) := by decide +kernel
theorem dX5_sumOf_183 : decode cX5_sumOf 183 = .ok (.iconst 1, 1) := by decide +kernel
theorem dX5_sumOf_184 : decode cX5_sumOf 184 = .ok (.isub, 1) := by decide +kernel
theorem dX5_sumOf_185 : decode cX5_sumOf 185 = .ok (.if_icmp .ge 143, 3) := by decide +kernel
theorem dX5_sumOf_188 : decode cX5_sumOf 188 = .ok (.iconst (-1), 1) := by decide +kernel
theorem dX5_sumOf_189 : decode cX5_sumOf 189 = .ok (.istore 9, 2) := by decide +kernel
theorem dX5_sumOf_191 : decode cX5_sumOf 191 = .ok (.iconst 0, 1) := by decide +kernel
theorem dX5_sumOf_192 : decode cX5_sumOf 192 = .ok (.istore 10, 2) := by decide +kernel
theorem dX5_sumOf_194 : decode cX5_sumOf 194 = .ok (.iload 10, 2) := by decide +kernel
theorem dX5_sumOf_196 : decode cX5_sumOf 196 = .ok (.iload_n 1, 1) := by decide +kernel
theorem dX5_sumOf_197 : decode cX5_sumOf 197 = .ok (.if_icmp .ge 46, 3) := by decide +kernel
theorem dX5_sumOf_200 : decode cX5_sumOf 200 = .ok (.iload 8, 2) := by decide +kernel
theorem dX5_sumOf_202 : decode cX5_sumOf 202 = .ok (.iload 10, 2) := by decide +kernel
theorem dX5_sumOf_204 : decode cX5_sumOf 204 = .ok (.ishr, 1) := by decide +kernel
theorem dX5_sumOf_205 : decode cX5_sumOf 205 = .ok (.iconst 1, 1) := by decide +kernel
theorem dX5_sumOf_206 : decode cX5_sumOf 206 = .ok (.iand, 1) := by decide +kernel
theorem dX5_sumOf_207 : decode cX5_sumOf 207 = .ok (.ifCond .ne 30, 3) := by decide +kernel
theorem dX5_sumOf_210 : decode cX5_sumOf 210 = .ok (.iload 9, 2) := by decide +kernel
theorem dX5_sumOf_212 : decode cX5_sumOf 212 = .ok (.iconst (-1), 1) := by decide +kernel
theorem dX5_sumOf_213 : decode cX5_sumOf 213 = .ok (.if_icmp .eq 20, 3) := by decide +kernel
theorem dX5_sumOf_216 : decode cX5_sumOf 216 = .ok (.aload_n 0, 1) := by decide +kernel
theorem dX5_sumOf_217 : decode cX5_sumOf 217 = .ok (.getfield 74, 3) := by decide +kernel
theorem dX5_sumOf_220 : decode cX5_sumOf 220 = .ok (.iload 10, 2) := by decide +kernel
theorem dX5_sumOf_222 : decode cX5_sumOf 222 = .ok (.iaload, 1) := by decide +kernel
theorem dX5_sumOf_223 : decode cX5_sumOf 223 = .ok (.aload_n 0, 1) := by decide +kernel
theorem dX5_sumOf_224 : decode cX5_sumOf 224 = .ok (.getfield 74, 3) := by decide +kernel
theorem dX5_sumOf_227 : decode cX5_sumOf 227 = .ok (.iload 9, 2) := by decide +kernel
theorem dX5_sumOf_229 : decode cX5_sumOf 229 = .ok (.iaload, 1) := by decide +kernel
theorem dX5_sumOf_230 : decode cX5_sumOf 230 = .ok (.if_icmp .ge 7, 3) := by decide +kernel
theorem dX5_sumOf_233 : decode cX5_sumOf 233 = .ok (.iload 10, 2) := by decide +kernel
theorem dX5_sumOf_235 : decode cX5_sumOf 235 = .ok (.istore 9, 2) := by decide +kernel
theorem dX5_sumOf_237 : decode cX5_sumOf 237 = .ok (.iinc 10 1, 3) := by decide +kernel
theorem dX5_sumOf_240 : decode cX5_sumOf 240 = .ok (.goto (-46), 3) := by decide +kernel
theorem dX5_sumOf_243 : decode cX5_sumOf 243 = .ok (.iload 8, 2) := by decide +kernel
theorem dX5_sumOf_245 : decode cX5_sumOf 245 = .ok (.iconst 1, 1) := by decide +kernel
theorem dX5_sumOf_246 : decode cX5_sumOf 246 = .ok (.iload 9, 2) := by decide +kernel
theorem dX5_sumOf_248 : decode cX5_sumOf 248 = .ok (.ishl, 1) := by decide +kernel
theorem dX5_sumOf_249 : decode cX5_sumOf 249 = .ok (.ior, 1) := by decide +kernel
theorem dX5_sumOf_250 : decode cX5_sumOf 250 = .ok (.istore 8, 2) := by decide +kernel
theorem dX5_sumOf_252 : decode cX5_sumOf 252 = .ok (.aload_n 0, 1) := by decide +kernel
theorem dX5_sumOf_253 : decode cX5_sumOf 253 = .ok (.getfield 23, 3) := by decide +kernel
theorem dX5_sumOf_256 : decode cX5_sumOf 256 = .ok (.aload_n 0, 1) := by decide +kernel
theorem dX5_sumOf_257 : decode cX5_sumOf 257 = .ok (.getfield 71, 3) := by decide +kernel
theorem dX5_sumOf_260 : decode cX5_sumOf 260 = .ok (.iload 9, 2) := by decide +kernel
theorem dX5_sumOf_262 : decode cX5_sumOf 262 = .ok (.iaload, 1) := by decide +kernel
theorem dX5_sumOf_263 : decode cX5_sumOf 263 = .ok (.iaload, 1) := by decide +kernel
theorem dX5_sumOf_264 : decode cX5_sumOf 264 = .ok (.invokestatic 102, 3) := by decide +kernel
theorem dX5_sumOf_267 : decode cX5_sumOf 267 = .ok (.istore 10, 2) := by decide +kernel
theorem dX5_sumOf_269 : decode cX5_sumOf 269 = .ok (.iload 10, 2) := by decide +kernel
theorem dX5_sumOf_271 : decode cX5_sumOf 271 = .ok (.ifCond .ne 18, 3) := by decide +kernel
theorem dX5_sumOf_274 : decode cX5_sumOf 274 = .ok (.iload 6, 2) := by decide +kernel
theorem dX5_sumOf_276 : decode cX5_sumOf 276 = .ok (.aload_n 0, 1) := by decide +kernel
theorem dX5_sumOf_277 : decode cX5_sumOf 277 = .ok (.getfield 74, 3) := by decide +kernel
theorem dX5_sumOf_280 : decode cX5_sumOf 280 = .ok (.iload 9, 2) := by decide +kernel
theorem dX5_sumOf_282 : decode cX5_sumOf 282 = .ok (.iaload, 1) := by decide +kernel
theorem dX5_sumOf_283 : decode cX5_sumOf 283 = .ok (.iadd, 1) := by decide +kernel
theorem dX5_sumOf_284 : decode cX5_sumOf 284 = .ok (.istore 6, 2) := by decide +kernel
theorem dX5_sumOf_286 : decode cX5_sumOf 286 = .ok (.goto (-108), 3) := by decide +kernel
theorem dX5_sumOf_289 : decode cX5_sumOf 289 = .ok (.iload 7, 2) := by decide +kernel
theorem dX5_sumOf_291 : decode cX5_sumOf 291 = .ok (.aload_n 0, 1) := by decide +kernel
theorem dX5_sumOf_292 : decode cX5_sumOf 292 = .ok (.getfield 74, 3) := by decide +kernel
theorem dX5_sumOf_295 : decode cX5_sumOf 295 = .ok (.iload 9, 2) := by decide +kernel
theorem dX5_sumOf_297 : decode cX5_sumOf 297 = .ok (.iaload, 1) := by decide +kernel
theorem dX5_sumOf_298 : decode cX5_sumOf 298 = .ok (.if_icmp .le 8, 3) := by decide +kernel
theorem dX5_sumOf_301 : decode cX5_sumOf 301 = .ok (.iload 7, 2) := by decide +kernel
theorem dX5_sumOf_303 : decode cX5_sumOf 303 = .ok (.goto 10, 3) := by decide +kernel
theorem dX5_sumOf_306 : decode cX5_sumOf 306 = .ok (.aload_n 0, 1) := by decide +kernel
theorem dX5_sumOf_307 : decode cX5_sumOf 307 = .ok (.getfield 74, 3) := by decide +kernel
theorem dX5_sumOf_310 : decode cX5_sumOf 310 = .ok (.iload 9, 2) := by decide +kernel
theorem dX5_sumOf_312 : decode cX5_sumOf 312 = .ok (.iaload, 1) := by decide +kernel
theorem dX5_sumOf_313 : decode cX5_sumOf 313 = .ok (.iload 10, 2) := by decide +kernel
theorem dX5_sumOf_315 : decode cX5_sumOf 315 = .ok (.iadd, 1) := by decide +kernel
theorem dX5_sumOf_316 : decode cX5_sumOf 316 = .ok (.istore 7, 2) := by decide +kernel
theorem dX5_sumOf_318 : decode cX5_sumOf 318 = .ok (.iload 6, 2) := by decide +kernel
theorem dX5_sumOf_320 : decode cX5_sumOf 320 = .ok (.iload 7, 2) := by decide +kernel
theorem dX5_sumOf_322 : decode cX5_sumOf 322 = .ok (.iadd, 1) := by decide +kernel
theorem dX5_sumOf_323 : decode cX5_sumOf 323 = .ok (.istore 6, 2) := by decide +kernel
theorem dX5_sumOf_325 : decode cX5_sumOf 325 = .ok (.goto (-147), 3) := by decide +kernel
theorem dX5_sumOf_328 : decode cX5_sumOf 328 = .ok (.iload 6, 2) := by decide +kernel
theorem dX5_sumOf_330 : decode cX5_sumOf 330 = .ok (.ireturn, 1) := by decide +kernel
theorem dX5_orders_0 : decode cX5_orders 0 = .ok (.iload_n 1, 1) := by decide +kernel
theorem dX5_orders_1 : decode cX5_orders 1 = .ok (.istore_n 3, 1) := by decide +kernel
theorem dX5_orders_2 : decode cX5_orders 2 = .ok (.iconst 0, 1) := by decide +kernel
theorem dX5_orders_3 : decode cX5_orders 3 = .ok (.istore 4, 2) := by decide +kernel
theorem dX5_orders_5 : decode cX5_orders 5 = .ok (.iconst 0, 1) := by decide +kernel
theorem dX5_orders_6 : decode cX5_orders 6 = .ok (.istore 5, 2) := by decide +kernel
theorem dX5_orders_8 : decode cX5_orders 8 = .ok (.iload 5, 2) := by decide +kernel
theorem dX5_orders_10 : decode cX5_orders 10 = .ok (.iload_n 2, 1) := by decide +kernel
theorem dX5_orders_11 : decode cX5_orders 11 = .ok (.if_icmp .ge 122, 3) := by decide +kernel
theorem dX5_orders_14 : decode cX5_orders 14 = .ok (.iconst 1, 1) := by decide +kernel
theorem dX5_orders_15 : decode cX5_orders 15 = .ok (.istore 6, 2) := by decide +kernel
theorem dX5_orders_17 : decode cX5_orders 17 = .ok (.iconst 2, 1) := by decide +kernel
theorem dX5_orders_18 : decode cX5_orders 18 = .ok (.istore 7, 2) := by decide +kernel
theorem dX5_orders_20 : decode cX5_orders 20 = .ok (.iload 7, 2) := by decide +kernel
theorem dX5_orders_22 : decode cX5_orders 22 = .ok (.iload_n 2, 1) := by decide +kernel
theorem dX5_orders_23 : decode cX5_orders 23 = .ok (.iload 5, 2) := by decide +kernel
theorem dX5_orders_25 : decode cX5_orders 25 = .ok (.isub, 1) := by decide +kernel
theorem dX5_orders_26 : decode cX5_orders 26 = .ok (.if_icmp .ge 16, 3) := by decide +kernel
theorem dX5_orders_29 : decode cX5_orders 29 = .ok (.iload 6, 2) := by decide +kernel
theorem dX5_orders_31 : decode cX5_orders 31 = .ok (.iload 7, 2) := by decide +kernel
theorem dX5_orders_33 : decode cX5_orders 33 = .ok (.imul, 1) := by decide +kernel
theorem dX5_orders_34 : decode cX5_orders 34 = .ok (.istore 6, 2) := by decide +kernel
theorem dX5_orders_36 : decode cX5_orders 36 = .ok (.iinc 7 1, 3) := by decide +kernel
theorem dX5_orders_39 : decode cX5_orders 39 = .ok (.goto (-19), 3) := by decide +kernel
theorem dX5_orders_42 : decode cX5_orders 42 = .ok (.iload_n 3, 1) := by decide +kernel
theorem dX5_orders_43 : decode cX5_orders 43 = .ok (.iload 6, 2) := by decide +kernel
theorem dX5_orders_45 : decode cX5_orders 45 = .ok (.idiv, 1) := by decide +kernel
theorem dX5_orders_46 : decode cX5_orders 46 = .ok (.istore 7, 2) := by decide +kernel
theorem dX5_orders_48 : decode cX5_orders 48 = .ok (.iload_n 3, 1) := by decide +kernel
theorem dX5_orders_49 : decode cX5_orders 49 = .ok (.iload 6, 2) := by decide +kernel
theorem dX5_orders_51 : decode cX5_orders 51 = .ok (.irem, 1) := by decide +kernel
theorem dX5_orders_52 : decode cX5_orders 52 = .ok (.istore_n 3, 1) := by decide +kernel
theorem dX5_orders_53 : decode cX5_orders 53 = .ok (.iconst 0, 1) := by decide +kernel
theorem dX5_orders_54 : decode cX5_orders 54 = .ok (.istore 8, 2) := by decide +kernel
theorem dX5_orders_56 : decode cX5_orders 56 = .ok (.iload 4, 2) := by decide +kernel
theorem dX5_orders_58 : decode cX5_orders 58 = .ok (.iload 8, 2) := by decide +kernel
theorem dX5_orders_60 : decode cX5_orders 60 = .ok (.ishr, 1) := by decide +kernel
theorem dX5_orders_61 : decode cX5_orders 61 = .ok (.iconst 1, 1) := by decide +kernel
theorem dX5_orders_62 : decode cX5_orders 62 = .ok (.iand, 1) := by decide +kernel
theorem dX5_orders_63 : decode cX5_orders 63 = .ok (.iconst 1, 1) := by decide +kernel
theorem dX5_orders_64 : decode cX5_orders 64 = .ok (.if_icmp .ne 9, 3) := by decide +kernel
theorem dX5_orders_67 : decode cX5_orders 67 = .ok (.iinc 8 1, 3) := by decide +kernel
theorem dX5_orders_70 : decode cX5_orders 70 = .ok (.goto (-14), 3) := by decide +kernel
theorem dX5_orders_73 : decode cX5_orders 73 = .ok (.iload 7, 2) := by decide +kernel
theorem dX5_orders_75 : decode cX5_orders 75 = .ok (.ifCond .le 29, 3) := by decide +kernel
theorem dX5_orders_78 : decode cX5_orders 78 = .ok (.iinc 8 1, 3) := by decide +kernel
theorem dX5_orders_81 : decode cX5_orders 81 = .ok (.iload 4, 2) := by decide +kernel
theorem dX5_orders_83 : decode cX5_orders 83 = .ok (.iload 8, 2) := by decide +kernel
theorem dX5_orders_85 : decode cX5_orders 85 = .ok (.ishr, 1) := by decide +kernel
theorem dX5_orders_86 : decode cX5_orders 86 = .ok (.iconst 1, 1) := by decide +kernel
theorem dX5_orders_87 : decode cX5_orders 87 = .ok (.iand, 1) := by decide +kernel
theorem dX5_orders_88 : decode cX5_orders 88 = .ok (.iconst 1, 1) := by decide +kernel
theorem dX5_orders_89 : decode cX5_orders 89 = .ok (.if_icmp .ne 9, 3) := by decide +kernel
theorem dX5_orders_92 : decode cX5_orders 92 = .ok (.iinc 8 1, 3) := by decide +kernel
theorem dX5_orders_95 : decode cX5_orders 95 = .ok (.goto (-14), 3) := by decide +kernel
theorem dX5_orders_98 : decode cX5_orders 98 = .ok (.iinc 7 (-1), 3) := by decide +kernel
theorem dX5_orders_101 : decode cX5_orders 101 = .ok (.goto (-28), 3) := by decide +kernel
theorem dX5_orders_104 : decode cX5_orders 104 = .ok (.aload_n 0, 1) := by decide +kernel
theorem dX5_orders_105 : decode cX5_orders 105 = .ok (.getfield 71, 3) := by decide +kernel
theorem dX5_orders_108 : decode cX5_orders 108 = .ok (.iload 5, 2) := by decide +kernel
theorem dX5_orders_110 : decode cX5_orders 110 = .ok (.aload_n 0, 1) := by decide +kernel
theorem dX5_orders_111 : decode cX5_orders 111 = .ok (.getfield 68, 3) := by decide +kernel
theorem dX5_orders_114 : decode cX5_orders 114 = .ok (.iload 8, 2) := by decide +kernel
theorem dX5_orders_116 : decode cX5_orders 116 = .ok (.iaload, 1) := by decide +kernel
theorem dX5_orders_117 : decode cX5_orders 117 = .ok (.iastore, 1) := by decide +kernel
theorem dX5_orders_118 : decode cX5_orders 118 = .ok (.iload 4, 2) := by decide +kernel
theorem dX5_orders_120 : decode cX5_orders 120 = .ok (.iconst 1, 1) := by decide +kernel
theorem dX5_orders_121 : decode cX5_orders 121 = .ok (.iload 8, 2) := by decide +kernel
theorem dX5_orders_123 : decode cX5_orders 123 = .ok (.ishl, 1) := by decide +kernel
theorem dX5_orders_124 : decode cX5_orders 124 = .ok (.ior, 1) := by decide +kernel
theorem dX5_orders_125 : decode cX5_orders 125 = .ok (.istore 4, 2) := by decide +kernel
theorem dX5_orders_127 : decode cX5_orders 127 = .ok (.iinc 5 1, 3) := by decide +kernel
theorem dX5_orders_130 : decode cX5_orders 130 = .ok (.goto (-122), 3) := by decide +kernel
theorem dX5_orders_133 : decode cX5_orders 133 = .ok (.return_, 1) := by decide +kernel
set_option maxRecDepth 20000 in
theorem ggX5_best_X5_plans : GoodIn wsX5_best wsX5_plans := goodIn_r _ [6, 7, 8, 9, 10, 1, 11, 12, 13, 14, 5, 15, 16, 17, 18, 19, 20, 21, 22, 23, 24, 25, 26, 27, 28, 29, 30, 31, 32, 33, 37, 38, 39, 40, 41, 42, 43, 44, 45, 46, 47, 48, 49, 50, 51, 52, 53, 54, 55, 56, 57, 58, 59, 60, 61, 62, 63, 64, 65, 66, 67] (by decide +kernel) (by decide +kernel)
set_option maxRecDepth 20000 in
theorem gX5_best_X5_plans : GoodIn wsX5_best (wsV RX5 180 RX5 yX5_plans wsX5_plans) := goodIn_app (goodIn_of _ (by decide +kernel)) ggX5_best_X5_plans
set_option maxRecDepth 20000 in
theorem ggX5_best_X5_in : GoodIn wsX5_best wsX5_in := goodIn_r _ [36] (by decide +kernel) (by decide +kernel)
set_option maxRecDepth 20000 in
theorem gX5_best_X5_in : GoodIn wsX5_best (va_wsS RX5 92 yX5_in wsX5_in) := goodIn_app (goodIn_of _ (by decide +kernel)) ggX5_best_X5_in
theorem dX5_best_0 : decode cX5_best 0 = .ok (.iload_n 1, 1) := by decide +kernel
theorem dX5_best_1 : decode cX5_best 1 = .ok (.iconst 0, 1) := by decide +kernel
theorem dX5_best_2 : decode cX5_best 2 = .ok (.aload_n 0, 1) := by decide +kernel
theorem dX5_best_3 : decode cX5_best 3 = .ok (.invokevirtual 180, 3) := by decide +kernel
theorem dX5_best_6 : decode cX5_best 6 = .ok (.iconst 1, 1) := by decide +kernel
theorem dX5_best_7 : decode cX5_best 7 = .ok (.isub, 1) := by decide +kernel
theorem dX5_best_8 : decode cX5_best 8 = .ok (.invokestatic 92, 3) := by decide +kernel
theorem dX5_best_11 : decode cX5_best 11 = .ok (.ifCond .eq 12, 3) := by decide +kernel
theorem dX5_best_14 : decode cX5_best 14 = .ok (.aload_n 0, 1) := by decide +kernel
theorem dX5_best_15 : decode cX5_best 15 = .ok (.getfield 77, 3) := by decide +kernel
theorem dX5_best_18 : decode cX5_best 18 = .ok (.iload_n 1, 1) := by decide +kernel
theorem dX5_best_19 : decode cX5_best 19 = .ok (.iaload, 1) := by decide +kernel
theorem dX5_best_20 : decode cX5_best 20 = .ok (.goto 4, 3) := by decide +kernel
theorem dX5_best_23 : decode cX5_best 23 = .ok (.iconst (-1), 1) := by decide +kernel
theorem dX5_best_24 : decode cX5_best 24 = .ok (.ireturn, 1) := by decide +kernel
set_option maxRecDepth 20000 in
theorem ggX5_sum_X5_plans : GoodIn wsX5_sum wsX5_plans := goodIn_r _ [6, 7, 8, 9, 1, 10, 11, 12, 13, 14, 5, 15, 16, 17, 18, 19, 20, 21, 22, 23, 24, 25, 26, 27, 28, 29, 30, 31, 32, 33, 34, 35, 36, 37, 38, 39, 40, 41, 42, 43, 44, 45, 46, 47, 48, 49, 50, 51, 52, 53, 54, 55, 56, 57, 58, 59, 60, 61, 62, 63, 64] (by decide +kernel) (by decide +kernel)
set_option maxRecDepth 20000 in
theorem gX5_sum_X5_plans : GoodIn wsX5_sum (wsV RX5 180 RX5 yX5_plans wsX5_plans) := goodIn_app (goodIn_of _ (by decide +kernel)) ggX5_sum_X5_plans
theorem dX5_sum_0 : decode cX5_sum 0 = .ok (.aload_n 0, 1) := by decide +kernel
theorem dX5_sum_1 : decode cX5_sum 1 = .ok (.invokevirtual 180, 3) := by decide +kernel
theorem dX5_sum_4 : decode cX5_sum 4 = .ok (.iconst (-1), 1) := by decide +kernel
theorem dX5_sum_5 : decode cX5_sum 5 = .ok (.if_icmp .ne 7, 3) := by decide +kernel
theorem dX5_sum_8 : decode cX5_sum 8 = .ok (.iconst (-1), 1) := by decide +kernel
theorem dX5_sum_9 : decode cX5_sum 9 = .ok (.goto 7, 3) := by decide +kernel
theorem dX5_sum_12 : decode cX5_sum 12 = .ok (.aload_n 0, 1) := by decide +kernel
theorem dX5_sum_13 : decode cX5_sum 13 = .ok (.getfield 170, 3) := by decide +kernel
theorem dX5_sum_16 : decode cX5_sum 16 = .ok (.ireturn, 1) := by decide +kernel
set_option maxRecDepth 20000 in
theorem ggX5_count_X5_power : GoodIn wsX5_count wsX5_power := goodIn_r _ [15, 16, 17, 18, 19, 20, 14, 21, 3, 8, 22, 23, 24, 25, 26, 27, 28, 29, 30, 31, 32, 33, 34, 35, 36, 37, 38, 39, 40, 41, 42, 43, 44, 45, 46, 47, 48, 49, 50, 51, 52] (by decide +kernel) (by decide +kernel)
set_option maxRecDepth 20000 in
theorem gX5_count_X5_power : GoodIn wsX5_count (wsV RX5 124 RX5 yX5_power wsX5_power) := goodIn_app (goodIn_of _ (by decide +kernel)) ggX5_count_X5_power
set_option maxRecDepth 20000 in
theorem ggX5_count_X5_countOf : GoodIn wsX5_count wsX5_countOf := goodIn_r _ [21, 3, 8, 22, 23, 24, 25, 26, 27, 28, 29, 30, 31, 32, 33, 34, 35, 36, 37, 38, 39, 40, 41, 42, 43, 44, 45, 46, 47, 48, 49, 50, 51, 52] (by decide +kernel) (by decide +kernel)
set_option maxRecDepth 20000 in
theorem gX5_count_X5_countOf : GoodIn wsX5_count (wsV RX5 121 RX5 yX5_countOf wsX5_countOf) := goodIn_app (goodIn_of _ (by decide +kernel)) ggX5_count_X5_countOf
theorem dX5_count_0 : decode cX5_count 0 = .ok (.iconst 0, 1) := by decide +kernel
theorem dX5_count_1 : decode cX5_count 1 = .ok (.istore_n 2, 1) := by decide +kernel
theorem dX5_count_2 : decode cX5_count 2 = .ok (.iload_n 1, 1) := by decide +kernel
theorem dX5_count_3 : decode cX5_count 3 = .ok (.tableswitch 194 0 12 #[65, 70, 75, 80, 85, 92, 98, 105, 112, 119, 124, 129, 134], 65) := by decide +kernel
theorem dX5_count_68 : decode cX5_count 68 = .ok (.aload_n 0, 1) := by decide +kernel
theorem dX5_count_69 : decode cX5_count 69 = .ok (.getfield 115, 3) := by decide +kernel
theorem dX5_count_72 : decode cX5_count 72 = .ok (.ireturn, 1) := by decide +kernel
theorem dX5_count_73 : decode cX5_count 73 = .ok (.aload_n 0, 1) := by decide +kernel
theorem dX5_count_74 : decode cX5_count 74 = .ok (.getfield 7, 3) := by decide +kernel
theorem dX5_count_77 : decode cX5_count 77 = .ok (.ireturn, 1) := by decide +kernel
theorem dX5_count_78 : decode cX5_count 78 = .ok (.aload_n 0, 1) := by decide +kernel
theorem dX5_count_79 : decode cX5_count 79 = .ok (.invokevirtual 124, 3) := by decide +kernel
theorem dX5_count_82 : decode cX5_count 82 = .ok (.ireturn, 1) := by decide +kernel
theorem dX5_count_83 : decode cX5_count 83 = .ok (.aload_n 0, 1) := by decide +kernel
theorem dX5_count_84 : decode cX5_count 84 = .ok (.getfield 112, 3) := by decide +kernel
theorem dX5_count_87 : decode cX5_count 87 = .ok (.ireturn, 1) := by decide +kernel
theorem dX5_count_88 : decode cX5_count 88 = .ok (.aload_n 0, 1) := by decide +kernel
theorem dX5_count_89 : decode cX5_count 89 = .ok (.bipush 6, 2) := by decide +kernel
theorem dX5_count_91 : decode cX5_count 91 = .ok (.invokevirtual 121, 3) := by decide +kernel
theorem dX5_count_94 : decode cX5_count 94 = .ok (.ireturn, 1) := by decide +kernel
theorem dX5_count_95 : decode cX5_count 95 = .ok (.aload_n 0, 1) := by decide +kernel
theorem dX5_count_96 : decode cX5_count 96 = .ok (.iconst 0, 1) := by decide +kernel
theorem dX5_count_97 : decode cX5_count 97 = .ok (.invokevirtual 121, 3) := by decide +kernel
theorem dX5_count_100 : decode cX5_count 100 = .ok (.ireturn, 1) := by decide +kernel
theorem dX5_count_101 : decode cX5_count 101 = .ok (.aload_n 0, 1) := by decide +kernel
theorem dX5_count_102 : decode cX5_count 102 = .ok (.getfield 20, 3) := by decide +kernel
theorem dX5_count_105 : decode cX5_count 105 = .ok (.iconst 0, 1) := by decide +kernel
theorem dX5_count_106 : decode cX5_count 106 = .ok (.iaload, 1) := by decide +kernel
theorem dX5_count_107 : decode cX5_count 107 = .ok (.ireturn, 1) := by decide +kernel
theorem dX5_count_108 : decode cX5_count 108 = .ok (.aload_n 0, 1) := by decide +kernel
theorem dX5_count_109 : decode cX5_count 109 = .ok (.getfield 20, 3) := by decide +kernel
theorem dX5_count_112 : decode cX5_count 112 = .ok (.iconst 1, 1) := by decide +kernel
theorem dX5_count_113 : decode cX5_count 113 = .ok (.iaload, 1) := by decide +kernel
theorem dX5_count_114 : decode cX5_count 114 = .ok (.ireturn, 1) := by decide +kernel
theorem dX5_count_115 : decode cX5_count 115 = .ok (.aload_n 0, 1) := by decide +kernel
theorem dX5_count_116 : decode cX5_count 116 = .ok (.getfield 20, 3) := by decide +kernel
theorem dX5_count_119 : decode cX5_count 119 = .ok (.iconst 2, 1) := by decide +kernel
theorem dX5_count_120 : decode cX5_count 120 = .ok (.iaload, 1) := by decide +kernel
theorem dX5_count_121 : decode cX5_count 121 = .ok (.ireturn, 1) := by decide +kernel
theorem dX5_count_122 : decode cX5_count 122 = .ok (.aload_n 0, 1) := by decide +kernel
theorem dX5_count_123 : decode cX5_count 123 = .ok (.getfield 118, 3) := by decide +kernel
theorem dX5_count_126 : decode cX5_count 126 = .ok (.ireturn, 1) := by decide +kernel
theorem dX5_count_127 : decode cX5_count 127 = .ok (.aload_n 0, 1) := by decide +kernel
theorem dX5_count_128 : decode cX5_count 128 = .ok (.getfield 135, 3) := by decide +kernel
theorem dX5_count_131 : decode cX5_count 131 = .ok (.ireturn, 1) := by decide +kernel
theorem dX5_count_132 : decode cX5_count 132 = .ok (.aload_n 0, 1) := by decide +kernel
theorem dX5_count_133 : decode cX5_count 133 = .ok (.getfield 65, 3) := by decide +kernel
theorem dX5_count_136 : decode cX5_count 136 = .ok (.ireturn, 1) := by decide +kernel
theorem dX5_count_137 : decode cX5_count 137 = .ok (.iconst 0, 1) := by decide +kernel
theorem dX5_count_138 : decode cX5_count 138 = .ok (.istore_n 3, 1) := by decide +kernel
theorem dX5_count_139 : decode cX5_count 139 = .ok (.iload_n 3, 1) := by decide +kernel
theorem dX5_count_140 : decode cX5_count 140 = .ok (.aload_n 0, 1) := by decide +kernel
theorem dX5_count_141 : decode cX5_count 141 = .ok (.getfield 112, 3) := by decide +kernel
theorem dX5_count_144 : decode cX5_count 144 = .ok (.if_icmp .ge 51, 3) := by decide +kernel
theorem dX5_count_147 : decode cX5_count 147 = .ok (.aload_n 0, 1) := by decide +kernel
theorem dX5_count_148 : decode cX5_count 148 = .ok (.getfield 38, 3) := by decide +kernel
theorem dX5_count_151 : decode cX5_count 151 = .ok (.iload_n 3, 1) := by decide +kernel
theorem dX5_count_152 : decode cX5_count 152 = .ok (.iaload, 1) := by decide +kernel
theorem dX5_count_153 : decode cX5_count 153 = .ok (.bipush 6, 2) := by decide +kernel
theorem dX5_count_155 : decode cX5_count 155 = .ok (.if_icmp .ne 34, 3) := by decide +kernel
theorem dX5_count_158 : decode cX5_count 158 = .ok (.aload_n 0, 1) := by decide +kernel
theorem dX5_count_159 : decode cX5_count 159 = .ok (.getfield 50, 3) := by decide +kernel
theorem dX5_count_162 : decode cX5_count 162 = .ok (.iload_n 3, 1) := by decide +kernel
theorem dX5_count_163 : decode cX5_count 163 = .ok (.iaload, 1) := by decide +kernel
theorem dX5_count_164 : decode cX5_count 164 = .ok (.aload_n 0, 1) := by decide +kernel
theorem dX5_count_165 : decode cX5_count 165 = .ok (.getfield 35, 3) := by decide +kernel
theorem dX5_count_168 : decode cX5_count 168 = .ok (.iload_n 3, 1) := by decide +kernel
theorem dX5_count_169 : decode cX5_count 169 = .ok (.iaload, 1) := by decide +kernel
theorem dX5_count_170 : decode cX5_count 170 = .ok (.isub, 1) := by decide +kernel
theorem dX5_count_171 : decode cX5_count 171 = .ok (.iload_n 2, 1) := by decide +kernel
theorem dX5_count_172 : decode cX5_count 172 = .ok (.if_icmp .le 17, 3) := by decide +kernel
theorem dX5_count_175 : decode cX5_count 175 = .ok (.aload_n 0, 1) := by decide +kernel
theorem dX5_count_176 : decode cX5_count 176 = .ok (.getfield 50, 3) := by decide +kernel
theorem dX5_count_179 : decode cX5_count 179 = .ok (.iload_n 3, 1) := by decide +kernel
theorem dX5_count_180 : decode cX5_count 180 = .ok (.iaload, 1) := by decide +kernel
theorem dX5_count_181 : decode cX5_count 181 = .ok (.aload_n 0, 1) := by decide +kernel
theorem dX5_count_182 : decode cX5_count 182 = .ok (.getfield 35, 3) := by decide +kernel
theorem dX5_count_185 : decode cX5_count 185 = .ok (.iload_n 3, 1) := by decide +kernel
theorem dX5_count_186 : decode cX5_count 186 = .ok (.iaload, 1) := by decide +kernel
theorem dX5_count_187 : decode cX5_count 187 = .ok (.isub, 1) := by decide +kernel
theorem dX5_count_188 : decode cX5_count 188 = .ok (.istore_n 2, 1) := by decide +kernel
theorem dX5_count_189 : decode cX5_count 189 = .ok (.iinc 3 1, 3) := by decide +kernel
theorem dX5_count_192 : decode cX5_count 192 = .ok (.goto (-53), 3) := by decide +kernel
theorem dX5_count_195 : decode cX5_count 195 = .ok (.iload_n 2, 1) := by decide +kernel
theorem dX5_count_196 : decode cX5_count 196 = .ok (.ireturn, 1) := by decide +kernel
theorem dX5_count_197 : decode cX5_count 197 = .ok (.iconst (-1), 1) := by decide +kernel
theorem dX5_count_198 : decode cX5_count 198 = .ok (.ireturn, 1) := by decide +kernel
theorem dJ9_max_7cf53_0 : decode cJ9_max_7cf53 0 = .ok (.iload_n 0, 1) := by decide +kernel
theorem dJ9_max_7cf53_1 : decode cJ9_max_7cf53 1 = .ok (.iload_n 1, 1) := by decide +kernel
theorem dJ9_max_7cf53_2 : decode cJ9_max_7cf53 2 = .ok (.if_icmp .lt 7, 3) := by decide +kernel
theorem dJ9_max_7cf53_5 : decode cJ9_max_7cf53 5 = .ok (.iload_n 0, 1) := by decide +kernel
theorem dJ9_max_7cf53_6 : decode cJ9_max_7cf53 6 = .ok (.goto 4, 3) := by decide +kernel
theorem dJ9_max_7cf53_9 : decode cJ9_max_7cf53 9 = .ok (.iload_n 1, 1) := by decide +kernel
theorem dJ9_max_7cf53_10 : decode cJ9_max_7cf53 10 = .ok (.ireturn, 1) := by decide +kernel
theorem dJ9_min_7cf53_0 : decode cJ9_min_7cf53 0 = .ok (.iload_n 0, 1) := by decide +kernel
theorem dJ9_min_7cf53_1 : decode cJ9_min_7cf53 1 = .ok (.iload_n 1, 1) := by decide +kernel
theorem dJ9_min_7cf53_2 : decode cJ9_min_7cf53 2 = .ok (.if_icmp .gt 7, 3) := by decide +kernel
theorem dJ9_min_7cf53_5 : decode cJ9_min_7cf53 5 = .ok (.iload_n 0, 1) := by decide +kernel
theorem dJ9_min_7cf53_6 : decode cJ9_min_7cf53 6 = .ok (.goto 4, 3) := by decide +kernel
theorem dJ9_min_7cf53_9 : decode cJ9_min_7cf53 9 = .ok (.iload_n 1, 1) := by decide +kernel
theorem dJ9_min_7cf53_10 : decode cJ9_min_7cf53 10 = .ok (.ireturn, 1) := by decide +kernel
