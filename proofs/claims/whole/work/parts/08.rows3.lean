theorem dX8_remember_80 : decode cX8_remember 80 = .ok (.dup, 1) := by decide +kernel
theorem dX8_remember_81 : decode cX8_remember 81 = .ok (.getfield 108, 3) := by decide +kernel
theorem dX8_remember_84 : decode cX8_remember 84 = .ok (.iconst 1, 1) := by decide +kernel
theorem dX8_remember_85 : decode cX8_remember 85 = .ok (.isub, 1) := by decide +kernel
theorem dX8_remember_86 : decode cX8_remember 86 = .ok (.putfield 108, 3) := by decide +kernel
theorem dX8_remember_89 : decode cX8_remember 89 = .ok (.aload_n 0, 1) := by decide +kernel
theorem dX8_remember_90 : decode cX8_remember 90 = .ok (.getfield 53, 3) := by decide +kernel
theorem dX8_remember_93 : decode cX8_remember 93 = .ok (.aload_n 0, 1) := by decide +kernel
theorem dX8_remember_94 : decode cX8_remember 94 = .ok (.getfield 108, 3) := by decide +kernel
theorem dX8_remember_97 : decode cX8_remember 97 = .ok (.iload_n 1, 1) := by decide +kernel
theorem dX8_remember_98 : decode cX8_remember 98 = .ok (.iastore, 1) := by decide +kernel
theorem dX8_remember_99 : decode cX8_remember 99 = .ok (.aload_n 0, 1) := by decide +kernel
theorem dX8_remember_100 : decode cX8_remember 100 = .ok (.getfield 56, 3) := by decide +kernel
theorem dX8_remember_103 : decode cX8_remember 103 = .ok (.aload_n 0, 1) := by decide +kernel
theorem dX8_remember_104 : decode cX8_remember 104 = .ok (.getfield 108, 3) := by decide +kernel
theorem dX8_remember_107 : decode cX8_remember 107 = .ok (.aload_n 0, 1) := by decide +kernel
theorem dX8_remember_108 : decode cX8_remember 108 = .ok (.getfield 7, 3) := by decide +kernel
theorem dX8_remember_111 : decode cX8_remember 111 = .ok (.iload_n 1, 1) := by decide +kernel
theorem dX8_remember_112 : decode cX8_remember 112 = .ok (.iaload, 1) := by decide +kernel
theorem dX8_remember_113 : decode cX8_remember 113 = .ok (.iastore, 1) := by decide +kernel
theorem dX8_remember_114 : decode cX8_remember 114 = .ok (.aload_n 0, 1) := by decide +kernel
theorem dX8_remember_115 : decode cX8_remember 115 = .ok (.getfield 59, 3) := by decide +kernel
theorem dX8_remember_118 : decode cX8_remember 118 = .ok (.aload_n 0, 1) := by decide +kernel
theorem dX8_remember_119 : decode cX8_remember 119 = .ok (.getfield 108, 3) := by decide +kernel
theorem dX8_remember_122 : decode cX8_remember 122 = .ok (.aload_n 0, 1) := by decide +kernel
theorem dX8_remember_123 : decode cX8_remember 123 = .ok (.getfield 13, 3) := by decide +kernel
theorem dX8_remember_126 : decode cX8_remember 126 = .ok (.iload_n 1, 1) := by decide +kernel
theorem dX8_remember_127 : decode cX8_remember 127 = .ok (.iaload, 1) := by decide +kernel
theorem dX8_remember_128 : decode cX8_remember 128 = .ok (.iastore, 1) := by decide +kernel
theorem dX8_remember_129 : decode cX8_remember 129 = .ok (.aload_n 0, 1) := by decide +kernel
theorem dX8_remember_130 : decode cX8_remember 130 = .ok (.getfield 62, 3) := by decide +kernel
theorem dX8_remember_133 : decode cX8_remember 133 = .ok (.aload_n 0, 1) := by decide +kernel
theorem dX8_remember_134 : decode cX8_remember 134 = .ok (.getfield 108, 3) := by decide +kernel
theorem dX8_remember_137 : decode cX8_remember 137 = .ok (.aload_n 0, 1) := by decide +kernel
theorem dX8_remember_138 : decode cX8_remember 138 = .ok (.getfield 16, 3) := by decide +kernel
theorem dX8_remember_141 : decode cX8_remember 141 = .ok (.iload_n 1, 1) := by decide +kernel
theorem dX8_remember_142 : decode cX8_remember 142 = .ok (.iaload, 1) := by decide +kernel
theorem dX8_remember_143 : decode cX8_remember 143 = .ok (.iastore, 1) := by decide +kernel
theorem dX8_remember_144 : decode cX8_remember 144 = .ok (.aload_n 0, 1) := by decide +kernel
theorem dX8_remember_145 : decode cX8_remember 145 = .ok (.dup, 1) := by decide +kernel
theorem dX8_remember_146 : decode cX8_remember 146 = .ok (.getfield 108, 3) := by decide +kernel
theorem dX8_remember_149 : decode cX8_remember 149 = .ok (.iconst 1, 1) := by decide +kernel
theorem dX8_remember_150 : decode cX8_remember 150 = .ok (.iadd, 1) := by decide +kernel
theorem dX8_remember_151 : decode cX8_remember 151 = .ok (.putfield 108, 3) := by decide +kernel
theorem dX8_remember_154 : decode cX8_remember 154 = .ok (.return_, 1) := by decide +kernel
set_option maxRecDepth 20000 in
theorem ggX8_become_X8_remember : GoodIn wsX8_become wsX8_remember := goodIn_r _ [8, 9, 10, 11, 12, 13, 1, 2, 3, 14, 15, 16, 17, 18, 19, 20, 21, 22, 23, 24, 25, 26, 27, 28, 29, 30, 31, 32, 33, 34, 35, 36, 37, 38, 39, 40, 41] (by decide +kernel) (by decide +kernel)
set_option maxRecDepth 20000 in
theorem gX8_become_X8_remember : GoodIn wsX8_become (wsV RX8 115 RX8 yX8_remember wsX8_remember) := goodIn_app (goodIn_of _ (by decide +kernel)) ggX8_become_X8_remember
theorem dX8_become_0 : decode cX8_become 0 = .ok (.aload_n 0, 1) := by decide +kernel
theorem dX8_become_1 : decode cX8_become 1 = .ok (.iload_n 1, 1) := by decide +kernel
theorem dX8_become_2 : decode cX8_become 2 = .ok (.invokevirtual 115, 3) := by decide +kernel
theorem dX8_become_5 : decode cX8_become 5 = .ok (.aload_n 0, 1) := by decide +kernel
theorem dX8_become_6 : decode cX8_become 6 = .ok (.getfield 7, 3) := by decide +kernel
theorem dX8_become_9 : decode cX8_become 9 = .ok (.iload_n 1, 1) := by decide +kernel
theorem dX8_become_10 : decode cX8_become 10 = .ok (.iload_n 2, 1) := by decide +kernel
theorem dX8_become_11 : decode cX8_become 11 = .ok (.iastore, 1) := by decide +kernel
theorem dX8_become_12 : decode cX8_become 12 = .ok (.aload_n 0, 1) := by decide +kernel
theorem dX8_become_13 : decode cX8_become 13 = .ok (.getfield 13, 3) := by decide +kernel
theorem dX8_become_16 : decode cX8_become 16 = .ok (.iload_n 1, 1) := by decide +kernel
theorem dX8_become_17 : decode cX8_become 17 = .ok (.iload_n 3, 1) := by decide +kernel
theorem dX8_become_18 : decode cX8_become 18 = .ok (.iastore, 1) := by decide +kernel
theorem dX8_become_19 : decode cX8_become 19 = .ok (.aload_n 0, 1) := by decide +kernel
theorem dX8_become_20 : decode cX8_become 20 = .ok (.getfield 16, 3) := by decide +kernel
theorem dX8_become_23 : decode cX8_become 23 = .ok (.iload_n 1, 1) := by decide +kernel
theorem dX8_become_24 : decode cX8_become 24 = .ok (.iload_n 3, 1) := by decide +kernel
theorem dX8_become_25 : decode cX8_become 25 = .ok (.ifCond .ne 7, 3) := by decide +kernel
theorem dX8_become_28 : decode cX8_become 28 = .ok (.iconst 0, 1) := by decide +kernel
theorem dX8_become_29 : decode cX8_become 29 = .ok (.goto 5, 3) := by decide +kernel
theorem dX8_become_32 : decode cX8_become 32 = .ok (.iload 4, 2) := by decide +kernel
theorem dX8_become_34 : decode cX8_become 34 = .ok (.iastore, 1) := by decide +kernel
theorem dX8_become_35 : decode cX8_become 35 = .ok (.iload_n 3, 1) := by decide +kernel
theorem dX8_become_36 : decode cX8_become 36 = .ok (.ireturn, 1) := by decide +kernel
set_option maxRecDepth 20000 in
theorem ggX8_set_X8_isRegister : GoodIn wsX8_set wsX8_isRegister := goodIn_r _ [7, 8, 9, 10, 6, 11] (by decide +kernel) (by decide +kernel)
set_option maxRecDepth 20000 in
theorem gX8_set_X8_isRegister : GoodIn wsX8_set (va_wsS RX8 119 yX8_isRegister wsX8_isRegister) := goodIn_app (goodIn_of _ (by decide +kernel)) ggX8_set_X8_isRegister
set_option maxRecDepth 20000 in
theorem ggX8_set_X8_isByte : GoodIn wsX8_set wsX8_isByte := goodIn_r _ [14, 15, 9, 10, 6, 11] (by decide +kernel) (by decide +kernel)
set_option maxRecDepth 20000 in
theorem gX8_set_X8_isByte : GoodIn wsX8_set (va_wsS RX8 124 yX8_isByte wsX8_isByte) := goodIn_app (goodIn_of _ (by decide +kernel)) ggX8_set_X8_isByte
set_option maxRecDepth 20000 in
theorem ggX8_set_X8_become : GoodIn wsX8_set wsX8_become := goodIn_r _ [19, 3, 20, 21, 22, 23, 24, 6, 25, 26, 27, 28, 29, 30, 42, 43, 44, 45, 46, 47, 48, 49, 50, 51, 52, 53, 54, 55, 56, 57, 58, 59, 60, 61, 62, 63, 64, 65, 66, 67, 68, 69] (by decide +kernel) (by decide +kernel)
set_option maxRecDepth 20000 in
theorem gX8_set_X8_become : GoodIn wsX8_set (wsV RX8 128 RX8 yX8_become wsX8_become) := goodIn_app (goodIn_of _ (by decide +kernel)) ggX8_set_X8_become
set_option maxRecDepth 20000 in
theorem ggX8_set_X8_tick : GoodIn wsX8_set wsX8_tick := goodIn_r _ [34, 35, 36, 37, 38, 39, 40, 41, 42, 43, 44, 45, 46, 47, 48, 49, 50, 51, 52, 53, 54, 55, 56, 57, 58, 59, 60, 61, 62, 63, 64, 65, 66, 67, 68, 69] (by decide +kernel) (by decide +kernel)
set_option maxRecDepth 20000 in
theorem gX8_set_X8_tick : GoodIn wsX8_set (wsV RX8 132 RX8 yX8_tick wsX8_tick) := goodIn_app (goodIn_of _ (by decide +kernel)) ggX8_set_X8_tick
theorem dX8_set_0 : decode cX8_set 0 = .ok (.iload_n 1, 1) := by decide +kernel
theorem dX8_set_1 : decode cX8_set 1 = .ok (.invokestatic 119, 3) := by decide +kernel
theorem dX8_set_4 : decode cX8_set 4 = .ok (.ifCond .ne 6, 3) := by decide +kernel
theorem dX8_set_7 : decode cX8_set 7 = .ok (.ldc 123, 2) := by decide +kernel
theorem dX8_set_9 : decode cX8_set 9 = .ok (.ireturn, 1) := by decide +kernel
theorem dX8_set_10 : decode cX8_set 10 = .ok (.iload_n 2, 1) := by decide +kernel
theorem dX8_set_11 : decode cX8_set 11 = .ok (.invokestatic 124, 3) := by decide +kernel
theorem dX8_set_14 : decode cX8_set 14 = .ok (.ifCond .ne 6, 3) := by decide +kernel
theorem dX8_set_17 : decode cX8_set 17 = .ok (.ldc 127, 2) := by decide +kernel
theorem dX8_set_19 : decode cX8_set 19 = .ok (.ireturn, 1) := by decide +kernel
theorem dX8_set_20 : decode cX8_set 20 = .ok (.aload_n 0, 1) := by decide +kernel
theorem dX8_set_21 : decode cX8_set 21 = .ok (.getfield 7, 3) := by decide +kernel
theorem dX8_set_24 : decode cX8_set 24 = .ok (.iload_n 1, 1) := by decide +kernel
theorem dX8_set_25 : decode cX8_set 25 = .ok (.iaload, 1) := by decide +kernel
theorem dX8_set_26 : decode cX8_set 26 = .ok (.istore_n 3, 1) := by decide +kernel
theorem dX8_set_27 : decode cX8_set 27 = .ok (.aload_n 0, 1) := by decide +kernel
theorem dX8_set_28 : decode cX8_set 28 = .ok (.iload_n 1, 1) := by decide +kernel
theorem dX8_set_29 : decode cX8_set 29 = .ok (.iload_n 2, 1) := by decide +kernel
theorem dX8_set_30 : decode cX8_set 30 = .ok (.iconst 0, 1) := by decide +kernel
theorem dX8_set_31 : decode cX8_set 31 = .ok (.iconst 0, 1) := by decide +kernel
theorem dX8_set_32 : decode cX8_set 32 = .ok (.invokevirtual 128, 3) := by decide +kernel
theorem dX8_set_35 : decode cX8_set 35 = .ok (.istore 4, 2) := by decide +kernel
theorem dX8_set_37 : decode cX8_set 37 = .ok (.aload_n 0, 1) := by decide +kernel
theorem dX8_set_38 : decode cX8_set 38 = .ok (.iconst 0, 1) := by decide +kernel
theorem dX8_set_39 : decode cX8_set 39 = .ok (.iload_n 3, 1) := by decide +kernel
theorem dX8_set_40 : decode cX8_set 40 = .ok (.iload 4, 2) := by decide +kernel
theorem dX8_set_42 : decode cX8_set 42 = .ok (.iadd, 1) := by decide +kernel
theorem dX8_set_43 : decode cX8_set 43 = .ok (.invokevirtual 132, 3) := by decide +kernel
theorem dX8_set_46 : decode cX8_set 46 = .ok (.ireturn, 1) := by decide +kernel
set_option maxRecDepth 20000 in
theorem ggX8_forget_X8_isRegister : GoodIn wsX8_forget wsX8_isRegister := goodIn_r _ [10, 11, 12, 13, 9, 14] (by decide +kernel) (by decide +kernel)
set_option maxRecDepth 20000 in
theorem gX8_forget_X8_isRegister : GoodIn wsX8_forget (va_wsS RX8 119 yX8_isRegister wsX8_isRegister) := goodIn_app (goodIn_of _ (by decide +kernel)) ggX8_forget_X8_isRegister
set_option maxRecDepth 20000 in
theorem ggX8_forget_X8_isGround : GoodIn wsX8_forget wsX8_isGround := goodIn_r _ [18, 19, 12, 13, 9, 14, 44, 45, 46, 47, 48, 49, 50, 51, 52, 53, 54, 55, 56, 57, 58, 59, 60, 61, 62, 63, 64, 65, 66, 67, 68, 69, 70, 71] (by decide +kernel) (by decide +kernel)
set_option maxRecDepth 20000 in
theorem gX8_forget_X8_isGround : GoodIn wsX8_forget (wsV RX8 136 RX8 yX8_isGround wsX8_isGround) := goodIn_app (goodIn_of _ (by decide +kernel)) ggX8_forget_X8_isGround
set_option maxRecDepth 20000 in
theorem ggX8_forget_X8_in : GoodIn wsX8_forget wsX8_in := goodIn_r _ [14] (by decide +kernel) (by decide +kernel)
set_option maxRecDepth 20000 in
theorem gX8_forget_X8_in : GoodIn wsX8_forget (va_wsS RX8 77 yX8_in wsX8_in) := goodIn_app (goodIn_of _ (by decide +kernel)) ggX8_forget_X8_in
set_option maxRecDepth 20000 in
theorem ggX8_forget_X8_become : GoodIn wsX8_forget wsX8_become := goodIn_r _ [23, 4, 5, 6, 24, 25, 26, 9, 27, 28, 29, 30, 31, 32, 44, 45, 46, 47, 48, 49, 50, 51, 52, 53, 54, 55, 56, 57, 58, 59, 60, 61, 62, 63, 64, 65, 66, 67, 68, 69, 70, 71] (by decide +kernel) (by decide +kernel)
set_option maxRecDepth 20000 in
theorem gX8_forget_X8_become : GoodIn wsX8_forget (wsV RX8 128 RX8 yX8_become wsX8_become) := goodIn_app (goodIn_of _ (by decide +kernel)) ggX8_forget_X8_become
set_option maxRecDepth 20000 in
theorem ggX8_forget_X8_tick : GoodIn wsX8_forget wsX8_tick := goodIn_r _ [36, 37, 38, 39, 40, 41, 42, 43, 44, 45, 46, 47, 48, 49, 50, 51, 52, 53, 54, 55, 56, 57, 58, 59, 60, 61, 62, 63, 64, 65, 66, 67, 68, 69, 70, 71] (by decide +kernel) (by decide +kernel)
set_option maxRecDepth 20000 in
theorem gX8_forget_X8_tick : GoodIn wsX8_forget (wsV RX8 132 RX8 yX8_tick wsX8_tick) := goodIn_app (goodIn_of _ (by decide +kernel)) ggX8_forget_X8_tick
theorem dX8_forget_0 : decode cX8_forget 0 = .ok (.iload_n 1, 1) := by decide +kernel
theorem dX8_forget_1 : decode cX8_forget 1 = .ok (.invokestatic 119, 3) := by decide +kernel
theorem dX8_forget_4 : decode cX8_forget 4 = .ok (.ifCond .eq 11, 3) := by decide +kernel
theorem dX8_forget_7 : decode cX8_forget 7 = .ok (.aload_n 0, 1) := by decide +kernel
theorem dX8_forget_8 : decode cX8_forget 8 = .ok (.iload_n 3, 1) := by decide +kernel
theorem dX8_forget_9 : decode cX8_forget 9 = .ok (.invokevirtual 136, 3) := by decide +kernel
theorem dX8_forget_12 : decode cX8_forget 12 = .ok (.ifCond .ne 6, 3) := by decide +kernel
theorem dX8_forget_15 : decode cX8_forget 15 = .ok (.ldc 123, 2) := by decide +kernel
theorem dX8_forget_17 : decode cX8_forget 17 = .ok (.ireturn, 1) := by decide +kernel
theorem dX8_forget_18 : decode cX8_forget 18 = .ok (.iload_n 2, 1) := by decide +kernel
theorem dX8_forget_19 : decode cX8_forget 19 = .ok (.i2l, 1) := by decide +kernel
theorem dX8_forget_20 : decode cX8_forget 20 = .ok (.lconst 1, 1) := by decide +kernel
theorem dX8_forget_21 : decode cX8_forget 21 = .ok (.ldc2_w 87, 3) := by decide +kernel
theorem dX8_forget_24 : decode cX8_forget 24 = .ok (.invokestatic 77, 3) := by decide +kernel
theorem dX8_forget_27 : decode cX8_forget 27 = .ok (.ifCond .ne 6, 3) := by decide +kernel
theorem dX8_forget_30 : decode cX8_forget 30 = .ok (.ldc 127, 2) := by decide +kernel
theorem dX8_forget_32 : decode cX8_forget 32 = .ok (.ireturn, 1) := by decide +kernel
theorem dX8_forget_33 : decode cX8_forget 33 = .ok (.aload_n 0, 1) := by decide +kernel
theorem dX8_forget_34 : decode cX8_forget 34 = .ok (.bipush 11, 2) := by decide +kernel
theorem dX8_forget_36 : decode cX8_forget 36 = .ok (.aload_n 0, 1) := by decide +kernel
theorem dX8_forget_37 : decode cX8_forget 37 = .ok (.iload_n 1, 1) := by decide +kernel
theorem dX8_forget_38 : decode cX8_forget 38 = .ok (.aload_n 0, 1) := by decide +kernel
theorem dX8_forget_39 : decode cX8_forget 39 = .ok (.getfield 7, 3) := by decide +kernel
theorem dX8_forget_42 : decode cX8_forget 42 = .ok (.iload_n 1, 1) := by decide +kernel
theorem dX8_forget_43 : decode cX8_forget 43 = .ok (.iaload, 1) := by decide +kernel
theorem dX8_forget_44 : decode cX8_forget 44 = .ok (.aload_n 0, 1) := by decide +kernel
theorem dX8_forget_45 : decode cX8_forget 45 = .ok (.getfield 13, 3) := by decide +kernel
theorem dX8_forget_48 : decode cX8_forget 48 = .ok (.iload_n 1, 1) := by decide +kernel
theorem dX8_forget_49 : decode cX8_forget 49 = .ok (.iaload, 1) := by decide +kernel
theorem dX8_forget_50 : decode cX8_forget 50 = .ok (.iload_n 2, 1) := by decide +kernel
theorem dX8_forget_51 : decode cX8_forget 51 = .ok (.ior, 1) := by decide +kernel
theorem dX8_forget_52 : decode cX8_forget 52 = .ok (.aload_n 0, 1) := by decide +kernel
theorem dX8_forget_53 : decode cX8_forget 53 = .ok (.getfield 16, 3) := by decide +kernel
theorem dX8_forget_56 : decode cX8_forget 56 = .ok (.iload_n 1, 1) := by decide +kernel
theorem dX8_forget_57 : decode cX8_forget 57 = .ok (.iaload, 1) := by decide +kernel
theorem dX8_forget_58 : decode cX8_forget 58 = .ok (.iconst 1, 1) := by decide +kernel
theorem dX8_forget_59 : decode cX8_forget 59 = .ok (.iload_n 3, 1) := by decide +kernel
theorem dX8_forget_60 : decode cX8_forget 60 = .ok (.ishl, 1) := by decide +kernel
theorem dX8_forget_61 : decode cX8_forget 61 = .ok (.ior, 1) := by decide +kernel
theorem dX8_forget_62 : decode cX8_forget 62 = .ok (.invokevirtual 128, 3) := by decide +kernel
theorem dX8_forget_65 : decode cX8_forget 65 = .ok (.invokevirtual 132, 3) := by decide +kernel
theorem dX8_forget_68 : decode cX8_forget 68 = .ok (.ireturn, 1) := by decide +kernel
set_option maxRecDepth 20000 in
theorem ggX8_copy_X8_isRegister : GoodIn wsX8_copy wsX8_isRegister := goodIn_r _ [8, 9, 10, 11, 7, 12] (by decide +kernel) (by decide +kernel)
set_option maxRecDepth 20000 in
theorem gX8_copy_X8_isRegister : GoodIn wsX8_copy (va_wsS RX8 119 yX8_isRegister wsX8_isRegister) := goodIn_app (goodIn_of _ (by decide +kernel)) ggX8_copy_X8_isRegister
set_option maxRecDepth 20000 in
theorem ggX8_copy_X8_become : GoodIn wsX8_copy wsX8_become := goodIn_r _ [16, 2, 3, 4, 17, 18, 19, 7, 20, 21, 22, 23, 24, 25, 37, 38, 39, 40, 41, 42, 43, 44, 45, 46, 47, 48, 49, 50, 51, 52, 53, 54, 55, 56, 57, 58, 59, 60, 61, 62, 63, 64] (by decide +kernel) (by decide +kernel)
set_option maxRecDepth 20000 in
theorem gX8_copy_X8_become : GoodIn wsX8_copy (wsV RX8 128 RX8 yX8_become wsX8_become) := goodIn_app (goodIn_of _ (by decide +kernel)) ggX8_copy_X8_become
set_option maxRecDepth 20000 in
theorem ggX8_copy_X8_tick : GoodIn wsX8_copy wsX8_tick := goodIn_r _ [29, 30, 31, 32, 33, 34, 35, 36, 37, 38, 39, 40, 41, 42, 43, 44, 45, 46, 47, 48, 49, 50, 51, 52, 53, 54, 55, 56, 57, 58, 59, 60, 61, 62, 63, 64] (by decide +kernel) (by decide +kernel)
set_option maxRecDepth 20000 in
theorem gX8_copy_X8_tick : GoodIn wsX8_copy (wsV RX8 132 RX8 yX8_tick wsX8_tick) := goodIn_app (goodIn_of _ (by decide +kernel)) ggX8_copy_X8_tick
theorem dX8_copy_0 : decode cX8_copy 0 = .ok (.iload_n 1, 1) := by decide +kernel
theorem dX8_copy_1 : decode cX8_copy 1 = .ok (.invokestatic 119, 3) := by decide +kernel
theorem dX8_copy_4 : decode cX8_copy 4 = .ok (.ifCond .eq 10, 3) := by decide +kernel
theorem dX8_copy_7 : decode cX8_copy 7 = .ok (.iload_n 2, 1) := by decide +kernel
theorem dX8_copy_8 : decode cX8_copy 8 = .ok (.invokestatic 119, 3) := by decide +kernel
theorem dX8_copy_11 : decode cX8_copy 11 = .ok (.ifCond .ne 6, 3) := by decide +kernel
theorem dX8_copy_14 : decode cX8_copy 14 = .ok (.ldc 123, 2) := by decide +kernel
theorem dX8_copy_16 : decode cX8_copy 16 = .ok (.ireturn, 1) := by decide +kernel
theorem dX8_copy_17 : decode cX8_copy 17 = .ok (.aload_n 0, 1) := by decide +kernel
theorem dX8_copy_18 : decode cX8_copy 18 = .ok (.iconst 1, 1) := by decide +kernel
theorem dX8_copy_19 : decode cX8_copy 19 = .ok (.aload_n 0, 1) := by decide +kernel
theorem dX8_copy_20 : decode cX8_copy 20 = .ok (.iload_n 1, 1) := by decide +kernel
theorem dX8_copy_21 : decode cX8_copy 21 = .ok (.aload_n 0, 1) := by decide +kernel
theorem dX8_copy_22 : decode cX8_copy 22 = .ok (.getfield 7, 3) := by decide +kernel
theorem dX8_copy_25 : decode cX8_copy 25 = .ok (.iload_n 2, 1) := by decide +kernel
theorem dX8_copy_26 : decode cX8_copy 26 = .ok (.iaload, 1) := by decide +kernel
theorem dX8_copy_27 : decode cX8_copy 27 = .ok (.aload_n 0, 1) := by decide +kernel
theorem dX8_copy_28 : decode cX8_copy 28 = .ok (.getfield 13, 3) := by decide +kernel
theorem dX8_copy_31 : decode cX8_copy 31 = .ok (.iload_n 2, 1) := by decide +kernel
theorem dX8_copy_32 : decode cX8_copy 32 = .ok (.iaload, 1) := by decide +kernel
theorem dX8_copy_33 : decode cX8_copy 33 = .ok (.aload_n 0, 1) := by decide +kernel
theorem dX8_copy_34 : decode cX8_copy 34 = .ok (.getfield 16, 3) := by decide +kernel
theorem dX8_copy_37 : decode cX8_copy 37 = .ok (.iload_n 2, 1) := by decide +kernel
theorem dX8_copy_38 : decode cX8_copy 38 = .ok (.iaload, 1) := by decide +kernel
theorem dX8_copy_39 : decode cX8_copy 39 = .ok (.invokevirtual 128, 3) := by decide +kernel
theorem dX8_copy_42 : decode cX8_copy 42 = .ok (.invokevirtual 132, 3) := by decide +kernel
theorem dX8_copy_45 : decode cX8_copy 45 = .ok (.ireturn, 1) := by decide +kernel
set_option maxRecDepth 20000 in
theorem ggX8_read_X8_cries : GoodIn wsX8_read wsX8_cries := goodIn_r _ [7, 8, 9, 10, 11, 12, 13, 14, 15, 16, 17, 18, 19, 20, 21, 22, 23, 24, 25, 26, 27, 28, 29, 30, 31, 32, 33, 34, 35, 36, 37, 38, 39, 40] (by decide +kernel) (by decide +kernel)
set_option maxRecDepth 20000 in
theorem gX8_read_X8_cries : GoodIn wsX8_read (wsV RX8 139 RX8 yX8_cries wsX8_cries) := goodIn_app (goodIn_of _ (by decide +kernel)) ggX8_read_X8_cries
theorem dX8_read_0 : decode cX8_read 0 = .ok (.aload_n 0, 1) := by decide +kernel
theorem dX8_read_1 : decode cX8_read 1 = .ok (.getfield 19, 3) := by decide +kernel
theorem dX8_read_4 : decode cX8_read 4 = .ok (.iload_n 1, 1) := by decide +kernel
theorem dX8_read_5 : decode cX8_read 5 = .ok (.baload, 1) := by decide +kernel
theorem dX8_read_6 : decode cX8_read 6 = .ok (.ifCond .eq 16, 3) := by decide +kernel
theorem dX8_read_9 : decode cX8_read 9 = .ok (.aload_n 0, 1) := by decide +kernel
theorem dX8_read_10 : decode cX8_read 10 = .ok (.iconst 2, 1) := by decide +kernel
theorem dX8_read_11 : decode cX8_read 11 = .ok (.iconst 1, 1) := by decide +kernel
theorem dX8_read_12 : decode cX8_read 12 = .ok (.aload_n 0, 1) := by decide +kernel
theorem dX8_read_13 : decode cX8_read 13 = .ok (.getfield 23, 3) := by decide +kernel
theorem dX8_read_16 : decode cX8_read 16 = .ok (.iload_n 1, 1) := by decide +kernel
theorem dX8_read_17 : decode cX8_read 17 = .ok (.iaload, 1) := by decide +kernel
theorem dX8_read_18 : decode cX8_read 18 = .ok (.ishl, 1) := by decide +kernel
theorem dX8_read_19 : decode cX8_read 19 = .ok (.invokevirtual 139, 3) := by decide +kernel
theorem dX8_read_22 : decode cX8_read 22 = .ok (.return_, 1) := by decide +kernel
set_option maxRecDepth 20000 in
theorem ggX8_loadNow_X8_read : GoodIn wsX8_loadNow wsX8_read := goodIn_r _ [8, 9, 10, 11, 12, 13, 7, 14, 15, 16, 17, 18, 19, 33, 34, 35, 36, 37, 38, 39, 40, 41, 42, 43, 44, 45, 46, 47, 48, 49, 50, 51, 52, 53, 54, 55, 56, 57, 58, 59, 60] (by decide +kernel) (by decide +kernel)
set_option maxRecDepth 20000 in
theorem gX8_loadNow_X8_read : GoodIn wsX8_loadNow (wsV RX8 143 RX8 yX8_read wsX8_read) := goodIn_app (goodIn_of _ (by decide +kernel)) ggX8_loadNow_X8_read
set_option maxRecDepth 20000 in
theorem ggX8_loadNow_X8_become : GoodIn wsX8_loadNow wsX8_become := goodIn_r _ [23, 1, 2, 3, 24, 25, 26, 7, 27, 28, 29, 30, 31, 32, 33, 34, 35, 36, 37, 38, 39, 40, 41, 42, 43, 44, 45, 46, 47, 48, 49, 50, 51, 52, 53, 54, 55, 56, 57, 58, 59, 60] (by decide +kernel) (by decide +kernel)
set_option maxRecDepth 20000 in
theorem gX8_loadNow_X8_become : GoodIn wsX8_loadNow (wsV RX8 128 RX8 yX8_become wsX8_become) := goodIn_app (goodIn_of _ (by decide +kernel)) ggX8_loadNow_X8_become
theorem dX8_loadNow_0 : decode cX8_loadNow 0 = .ok (.aload_n 0, 1) := by decide +kernel
theorem dX8_loadNow_1 : decode cX8_loadNow 1 = .ok (.iload_n 2, 1) := by decide +kernel
theorem dX8_loadNow_2 : decode cX8_loadNow 2 = .ok (.invokevirtual 143, 3) := by decide +kernel
theorem dX8_loadNow_5 : decode cX8_loadNow 5 = .ok (.bipush 8, 2) := by decide +kernel
theorem dX8_loadNow_7 : decode cX8_loadNow 7 = .ok (.iload_n 2, 1) := by decide +kernel
theorem dX8_loadNow_8 : decode cX8_loadNow 8 = .ok (.iadd, 1) := by decide +kernel
theorem dX8_loadNow_9 : decode cX8_loadNow 9 = .ok (.istore_n 3, 1) := by decide +kernel
theorem dX8_loadNow_10 : decode cX8_loadNow 10 = .ok (.aload_n 0, 1) := by decide +kernel
theorem dX8_loadNow_11 : decode cX8_loadNow 11 = .ok (.iload_n 1, 1) := by decide +kernel
theorem dX8_loadNow_12 : decode cX8_loadNow 12 = .ok (.aload_n 0, 1) := by decide +kernel
theorem dX8_loadNow_13 : decode cX8_loadNow 13 = .ok (.getfield 7, 3) := by decide +kernel
theorem dX8_loadNow_16 : decode cX8_loadNow 16 = .ok (.iload_n 3, 1) := by decide +kernel
theorem dX8_loadNow_17 : decode cX8_loadNow 17 = .ok (.iaload, 1) := by decide +kernel
theorem dX8_loadNow_18 : decode cX8_loadNow 18 = .ok (.aload_n 0, 1) := by decide +kernel
theorem dX8_loadNow_19 : decode cX8_loadNow 19 = .ok (.getfield 13, 3) := by decide +kernel
theorem dX8_loadNow_22 : decode cX8_loadNow 22 = .ok (.iload_n 3, 1) := by decide +kernel
theorem dX8_loadNow_23 : decode cX8_loadNow 23 = .ok (.iaload, 1) := by decide +kernel
theorem dX8_loadNow_24 : decode cX8_loadNow 24 = .ok (.aload_n 0, 1) := by decide +kernel
theorem dX8_loadNow_25 : decode cX8_loadNow 25 = .ok (.getfield 16, 3) := by decide +kernel
theorem dX8_loadNow_28 : decode cX8_loadNow 28 = .ok (.iload_n 3, 1) := by decide +kernel
theorem dX8_loadNow_29 : decode cX8_loadNow 29 = .ok (.iaload, 1) := by decide +kernel
theorem dX8_loadNow_30 : decode cX8_loadNow 30 = .ok (.invokevirtual 128, 3) := by decide +kernel
theorem dX8_loadNow_33 : decode cX8_loadNow 33 = .ok (.ireturn, 1) := by decide +kernel
set_option maxRecDepth 20000 in
theorem ggX8_load_X8_isRegister : GoodIn wsX8_load wsX8_isRegister := goodIn_r _ [5, 6, 7, 8, 4, 9] (by decide +kernel) (by decide +kernel)
set_option maxRecDepth 20000 in
theorem gX8_load_X8_isRegister : GoodIn wsX8_load (va_wsS RX8 119 yX8_isRegister wsX8_isRegister) := goodIn_app (goodIn_of _ (by decide +kernel)) ggX8_load_X8_isRegister
set_option maxRecDepth 20000 in
theorem ggX8_load_X8_isOctet : GoodIn wsX8_load wsX8_isOctet := goodIn_r _ [12, 13, 7, 8, 4, 9] (by decide +kernel) (by decide +kernel)
set_option maxRecDepth 20000 in
theorem gX8_load_X8_isOctet : GoodIn wsX8_load (va_wsS RX8 146 yX8_isOctet wsX8_isOctet) := goodIn_app (goodIn_of _ (by decide +kernel)) ggX8_load_X8_isOctet
set_option maxRecDepth 20000 in
theorem ggX8_load_X8_loadNow : GoodIn wsX8_load wsX8_loadNow := goodIn_r _ [17, 18, 19, 20, 21, 22, 23, 4, 24, 25, 26, 27, 28, 29, 30, 31, 32, 33, 34, 35, 36, 37, 38, 39, 40, 41, 42, 43, 44, 45, 46, 47, 48, 58, 59, 60, 61, 62, 63, 64, 65, 66, 67, 68, 69, 70, 71, 72, 73, 74, 75, 76, 77, 78, 79, 80, 81, 82, 83, 84, 85] (by decide +kernel) (by decide +kernel)
set_option maxRecDepth 20000 in
theorem gX8_load_X8_loadNow : GoodIn wsX8_load (wsV RX8 149 RX8 yX8_loadNow wsX8_loadNow) := goodIn_app (goodIn_of _ (by decide +kernel)) ggX8_load_X8_loadNow
set_option maxRecDepth 20000 in
theorem ggX8_load_X8_tick : GoodIn wsX8_load wsX8_tick := goodIn_r _ [52, 53, 54, 55, 34, 56, 13, 57, 58, 59, 60, 61, 62, 63, 64, 65, 66, 67, 68, 69, 70, 71, 72, 73, 74, 75, 76, 77, 78, 79, 80, 81, 82, 83, 84, 85] (by decide +kernel) (by decide +kernel)
set_option maxRecDepth 20000 in
theorem gX8_load_X8_tick : GoodIn wsX8_load (wsV RX8 132 RX8 yX8_tick wsX8_tick) := goodIn_app (goodIn_of _ (by decide +kernel)) ggX8_load_X8_tick
theorem dX8_load_0 : decode cX8_load 0 = .ok (.iload_n 1, 1) := by decide +kernel
theorem dX8_load_1 : decode cX8_load 1 = .ok (.invokestatic 119, 3) := by decide +kernel
theorem dX8_load_4 : decode cX8_load 4 = .ok (.ifCond .eq 10, 3) := by decide +kernel
theorem dX8_load_7 : decode cX8_load 7 = .ok (.iload_n 2, 1) := by decide +kernel
theorem dX8_load_8 : decode cX8_load 8 = .ok (.invokestatic 146, 3) := by decide +kernel
theorem dX8_load_11 : decode cX8_load 11 = .ok (.ifCond .ne 6, 3) := by decide +kernel
theorem dX8_load_14 : decode cX8_load 14 = .ok (.ldc 123, 2) := by decide +kernel
theorem dX8_load_16 : decode cX8_load 16 = .ok (.ireturn, 1) := by decide +kernel
theorem dX8_load_17 : decode cX8_load 17 = .ok (.aload_n 0, 1) := by decide +kernel
theorem dX8_load_18 : decode cX8_load 18 = .ok (.iconst 2, 1) := by decide +kernel
theorem dX8_load_19 : decode cX8_load 19 = .ok (.aload_n 0, 1) := by decide +kernel
theorem dX8_load_20 : decode cX8_load 20 = .ok (.iload_n 1, 1) := by decide +kernel
theorem dX8_load_21 : decode cX8_load 21 = .ok (.iload_n 2, 1) := by decide +kernel
theorem dX8_load_22 : decode cX8_load 22 = .ok (.invokevirtual 149, 3) := by decide +kernel
theorem dX8_load_25 : decode cX8_load 25 = .ok (.invokevirtual 132, 3) := by decide +kernel
theorem dX8_load_28 : decode cX8_load 28 = .ok (.ireturn, 1) := by decide +kernel
set_option maxRecDepth 20000 in
theorem ggX8_part_X8_isRegister : GoodIn wsX8_part wsX8_isRegister := goodIn_r _ [10, 11, 12, 13, 9, 14] (by decide +kernel) (by decide +kernel)
set_option maxRecDepth 20000 in
theorem gX8_part_X8_isRegister : GoodIn wsX8_part (va_wsS RX8 119 yX8_isRegister wsX8_isRegister) := goodIn_app (goodIn_of _ (by decide +kernel)) ggX8_part_X8_isRegister
set_option maxRecDepth 20000 in
theorem ggX8_part_X8_isOctet : GoodIn wsX8_part wsX8_isOctet := goodIn_r _ [17, 18, 12, 13, 9, 14] (by decide +kernel) (by decide +kernel)
set_option maxRecDepth 20000 in
theorem gX8_part_X8_isOctet : GoodIn wsX8_part (va_wsS RX8 146 yX8_isOctet wsX8_isOctet) := goodIn_app (goodIn_of _ (by decide +kernel)) ggX8_part_X8_isOctet
set_option maxRecDepth 20000 in
theorem ggX8_part_X8_in : GoodIn wsX8_part wsX8_in := goodIn_r _ [14] (by decide +kernel) (by decide +kernel)
set_option maxRecDepth 20000 in
theorem gX8_part_X8_in : GoodIn wsX8_part (va_wsS RX8 77 yX8_in wsX8_in) := goodIn_app (goodIn_of _ (by decide +kernel)) ggX8_part_X8_in
set_option maxRecDepth 20000 in
theorem ggX8_part_X8_read : GoodIn wsX8_part wsX8_read := goodIn_r _ [22, 23, 24, 25, 26, 27, 9, 28, 29, 30, 31, 32, 33, 56, 57, 58, 59, 60, 61, 62, 63, 64, 65, 66, 67, 68, 69, 70, 71, 72, 73, 74, 75, 76, 77, 78, 79, 80, 81, 82, 83] (by decide +kernel) (by decide +kernel)
set_option maxRecDepth 20000 in
theorem gX8_part_X8_read : GoodIn wsX8_part (wsV RX8 143 RX8 yX8_read wsX8_read) := goodIn_app (goodIn_of _ (by decide +kernel)) ggX8_part_X8_read
set_option maxRecDepth 20000 in
theorem ggX8_part_X8_become : GoodIn wsX8_part wsX8_become := goodIn_r _ [37, 4, 5, 6, 38, 39, 40, 9, 41, 42, 43, 44, 45, 46, 56, 57, 58, 59, 60, 61, 62, 63, 64, 65, 66, 67, 68, 69, 70, 71, 72, 73, 74, 75, 76, 77, 78, 79, 80, 81, 82, 83] (by decide +kernel) (by decide +kernel)
set_option maxRecDepth 20000 in
theorem gX8_part_X8_become : GoodIn wsX8_part (wsV RX8 128 RX8 yX8_become wsX8_become) := goodIn_app (goodIn_of _ (by decide +kernel)) ggX8_part_X8_become
set_option maxRecDepth 20000 in
theorem ggX8_part_X8_tick : GoodIn wsX8_part wsX8_tick := goodIn_r _ [50, 51, 52, 53, 32, 54, 18, 55, 56, 57, 58, 59, 60, 61, 62, 63, 64, 65, 66, 67, 68, 69, 70, 71, 72, 73, 74, 75, 76, 77, 78, 79, 80, 81, 82, 83] (by decide +kernel) (by decide +kernel)
set_option maxRecDepth 20000 in
theorem gX8_part_X8_tick : GoodIn wsX8_part (wsV RX8 132 RX8 yX8_tick wsX8_tick) := goodIn_app (goodIn_of _ (by decide +kernel)) ggX8_part_X8_tick
theorem dX8_part_0 : decode cX8_part 0 = .ok (.iload_n 1, 1) := by decide +kernel
theorem dX8_part_1 : decode cX8_part 1 = .ok (.invokestatic 119, 3) := by decide +kernel
theorem dX8_part_4 : decode cX8_part 4 = .ok (.ifCond .eq 10, 3) := by decide +kernel
theorem dX8_part_7 : decode cX8_part 7 = .ok (.iload_n 2, 1) := by decide +kernel
theorem dX8_part_8 : decode cX8_part 8 = .ok (.invokestatic 146, 3) := by decide +kernel
theorem dX8_part_11 : decode cX8_part 11 = .ok (.ifCond .ne 6, 3) := by decide +kernel
theorem dX8_part_14 : decode cX8_part 14 = .ok (.ldc 123, 2) := by decide +kernel
theorem dX8_part_16 : decode cX8_part 16 = .ok (.ireturn, 1) := by decide +kernel
theorem dX8_part_17 : decode cX8_part 17 = .ok (.iload 4, 2) := by decide +kernel
theorem dX8_part_19 : decode cX8_part 19 = .ok (.i2l, 1) := by decide +kernel
theorem dX8_part_20 : decode cX8_part 20 = .ok (.lconst 1, 1) := by decide +kernel
theorem dX8_part_21 : decode cX8_part 21 = .ok (.ldc2_w 152, 3) := by decide +kernel
theorem dX8_part_24 : decode cX8_part 24 = .ok (.invokestatic 77, 3) := by decide +kernel
theorem dX8_part_27 : decode cX8_part 27 = .ok (.ifCond .eq 18, 3) := by decide +kernel
theorem dX8_part_30 : decode cX8_part 30 = .ok (.iload_n 3, 1) := by decide +kernel
theorem dX8_part_31 : decode cX8_part 31 = .ok (.i2l, 1) := by decide +kernel
theorem dX8_part_32 : decode cX8_part 32 = .ok (.lconst 0, 1) := by decide +kernel
theorem dX8_part_33 : decode cX8_part 33 = .ok (.bipush 8, 2) := by decide +kernel
theorem dX8_part_35 : decode cX8_part 35 = .ok (.iload 4, 2) := by decide +kernel
theorem dX8_part_37 : decode cX8_part 37 = .ok (.isub, 1) := by decide +kernel
theorem dX8_part_38 : decode cX8_part 38 = .ok (.i2l, 1) := by decide +kernel
theorem dX8_part_39 : decode cX8_part 39 = .ok (.invokestatic 77, 3) := by decide +kernel
theorem dX8_part_42 : decode cX8_part 42 = .ok (.ifCond .ne 6, 3) := by decide +kernel
theorem dX8_part_45 : decode cX8_part 45 = .ok (.ldc 127, 2) := by decide +kernel
theorem dX8_part_47 : decode cX8_part 47 = .ok (.ireturn, 1) := by decide +kernel
theorem dX8_part_48 : decode cX8_part 48 = .ok (.aload_n 0, 1) := by decide +kernel
theorem dX8_part_49 : decode cX8_part 49 = .ok (.iload_n 2, 1) := by decide +kernel
theorem dX8_part_50 : decode cX8_part 50 = .ok (.invokevirtual 143, 3) := by decide +kernel
theorem dX8_part_53 : decode cX8_part 53 = .ok (.bipush 8, 2) := by decide +kernel
theorem dX8_part_55 : decode cX8_part 55 = .ok (.iload_n 2, 1) := by decide +kernel
theorem dX8_part_56 : decode cX8_part 56 = .ok (.iadd, 1) := by decide +kernel
theorem dX8_part_57 : decode cX8_part 57 = .ok (.istore 5, 2) := by decide +kernel
theorem dX8_part_59 : decode cX8_part 59 = .ok (.iconst 1, 1) := by decide +kernel
theorem dX8_part_60 : decode cX8_part 60 = .ok (.iload 4, 2) := by decide +kernel
theorem dX8_part_62 : decode cX8_part 62 = .ok (.ishl, 1) := by decide +kernel
theorem dX8_part_63 : decode cX8_part 63 = .ok (.iconst 1, 1) := by decide +kernel
theorem dX8_part_64 : decode cX8_part 64 = .ok (.isub, 1) := by decide +kernel
theorem dX8_part_65 : decode cX8_part 65 = .ok (.istore 6, 2) := by decide +kernel
theorem dX8_part_67 : decode cX8_part 67 = .ok (.aload_n 0, 1) := by decide +kernel
theorem dX8_part_68 : decode cX8_part 68 = .ok (.bipush 8, 2) := by decide +kernel
theorem dX8_part_70 : decode cX8_part 70 = .ok (.aload_n 0, 1) := by decide +kernel
theorem dX8_part_71 : decode cX8_part 71 = .ok (.iload_n 1, 1) := by decide +kernel
theorem dX8_part_72 : decode cX8_part 72 = .ok (.aload_n 0, 1) := by decide +kernel
theorem dX8_part_73 : decode cX8_part 73 = .ok (.getfield 7, 3) := by decide +kernel
theorem dX8_part_76 : decode cX8_part 76 = .ok (.iload 5, 2) := by decide +kernel
theorem dX8_part_78 : decode cX8_part 78 = .ok (.iaload, 1) := by decide +kernel
theorem dX8_part_79 : decode cX8_part 79 = .ok (.iload_n 3, 1) := by decide +kernel
theorem dX8_part_80 : decode cX8_part 80 = .ok (.ishr, 1) := by decide +kernel
theorem dX8_part_81 : decode cX8_part 81 = .ok (.iload 6, 2) := by decide +kernel
theorem dX8_part_83 : decode cX8_part 83 = .ok (.iand, 1) := by decide +kernel
theorem dX8_part_84 : decode cX8_part 84 = .ok (.aload_n 0, 1) := by decide +kernel
theorem dX8_part_85 : decode cX8_part 85 = .ok (.getfield 13, 3) := by decide +kernel
theorem dX8_part_88 : decode cX8_part 88 = .ok (.iload 5, 2) := by decide +kernel
theorem dX8_part_90 : decode cX8_part 90 = .ok (.iaload, 1) := by decide +kernel
theorem dX8_part_91 : decode cX8_part 91 = .ok (.iload_n 3, 1) := by decide +kernel
theorem dX8_part_92 : decode cX8_part 92 = .ok (.ishr, 1) := by decide +kernel
theorem dX8_part_93 : decode cX8_part 93 = .ok (.iload 6, 2) := by decide +kernel
theorem dX8_part_95 : decode cX8_part 95 = .ok (.iand, 1) := by decide +kernel
theorem dX8_part_96 : decode cX8_part 96 = .ok (.aload_n 0, 1) := by decide +kernel
theorem dX8_part_97 : decode cX8_part 97 = .ok (.getfield 16, 3) := by decide +kernel
theorem dX8_part_100 : decode cX8_part 100 = .ok (.iload 5, 2) := by decide +kernel
theorem dX8_part_102 : decode cX8_part 102 = .ok (.iaload, 1) := by decide +kernel
theorem dX8_part_103 : decode cX8_part 103 = .ok (.invokevirtual 128, 3) := by decide +kernel
theorem dX8_part_106 : decode cX8_part 106 = .ok (.invokevirtual 132, 3) := by decide +kernel
theorem dX8_part_109 : decode cX8_part 109 = .ok (.ireturn, 1) := by decide +kernel
set_option maxRecDepth 20000 in
theorem ggX8_storeNow_X8_become : GoodIn wsX8_storeNow wsX8_become := goodIn_r _ [9, 2, 3, 4, 10, 11, 12, 8, 13, 14, 15, 16, 17, 18, 19, 20, 21, 22, 23, 24, 25, 26, 27, 28, 29, 30, 31, 32, 33, 34, 35, 36, 37, 38, 39, 40, 41, 42, 43, 44, 45, 46] (by decide +kernel) (by decide +kernel)
set_option maxRecDepth 20000 in
theorem gX8_storeNow_X8_become : GoodIn wsX8_storeNow (wsV RX8 128 RX8 yX8_become wsX8_become) := goodIn_app (goodIn_of _ (by decide +kernel)) ggX8_storeNow_X8_become
theorem dX8_storeNow_0 : decode cX8_storeNow 0 = .ok (.aload_n 0, 1) := by decide +kernel
theorem dX8_storeNow_1 : decode cX8_storeNow 1 = .ok (.getfield 19, 3) := by decide +kernel
theorem dX8_storeNow_4 : decode cX8_storeNow 4 = .ok (.iload_n 2, 1) := by decide +kernel
theorem dX8_storeNow_5 : decode cX8_storeNow 5 = .ok (.iconst 0, 1) := by decide +kernel
theorem dX8_storeNow_6 : decode cX8_storeNow 6 = .ok (.bastore, 1) := by decide +kernel
theorem dX8_storeNow_7 : decode cX8_storeNow 7 = .ok (.aload_n 0, 1) := by decide +kernel
theorem dX8_storeNow_8 : decode cX8_storeNow 8 = .ok (.bipush 8, 2) := by decide +kernel
theorem dX8_storeNow_10 : decode cX8_storeNow 10 = .ok (.iload_n 2, 1) := by decide +kernel
theorem dX8_storeNow_11 : decode cX8_storeNow 11 = .ok (.iadd, 1) := by decide +kernel
theorem dX8_storeNow_12 : decode cX8_storeNow 12 = .ok (.aload_n 0, 1) := by decide +kernel
theorem dX8_storeNow_13 : decode cX8_storeNow 13 = .ok (.getfield 7, 3) := by decide +kernel
theorem dX8_storeNow_16 : decode cX8_storeNow 16 = .ok (.iload_n 1, 1) := by decide +kernel
theorem dX8_storeNow_17 : decode cX8_storeNow 17 = .ok (.iaload, 1) := by decide +kernel
theorem dX8_storeNow_18 : decode cX8_storeNow 18 = .ok (.aload_n 0, 1) := by decide +kernel
theorem dX8_storeNow_19 : decode cX8_storeNow 19 = .ok (.getfield 13, 3) := by decide +kernel
theorem dX8_storeNow_22 : decode cX8_storeNow 22 = .ok (.iload_n 1, 1) := by decide +kernel
theorem dX8_storeNow_23 : decode cX8_storeNow 23 = .ok (.iaload, 1) := by decide +kernel
theorem dX8_storeNow_24 : decode cX8_storeNow 24 = .ok (.aload_n 0, 1) := by decide +kernel
theorem dX8_storeNow_25 : decode cX8_storeNow 25 = .ok (.getfield 16, 3) := by decide +kernel
theorem dX8_storeNow_28 : decode cX8_storeNow 28 = .ok (.iload_n 1, 1) := by decide +kernel
theorem dX8_storeNow_29 : decode cX8_storeNow 29 = .ok (.iaload, 1) := by decide +kernel
theorem dX8_storeNow_30 : decode cX8_storeNow 30 = .ok (.invokevirtual 128, 3) := by decide +kernel
theorem dX8_storeNow_33 : decode cX8_storeNow 33 = .ok (.ireturn, 1) := by decide +kernel
set_option maxRecDepth 20000 in
theorem ggX8_store_X8_isRegister : GoodIn wsX8_store wsX8_isRegister := goodIn_r _ [5, 6, 7, 8, 4, 9] (by decide +kernel) (by decide +kernel)
set_option maxRecDepth 20000 in
theorem gX8_store_X8_isRegister : GoodIn wsX8_store (va_wsS RX8 119 yX8_isRegister wsX8_isRegister) := goodIn_app (goodIn_of _ (by decide +kernel)) ggX8_store_X8_isRegister
set_option maxRecDepth 20000 in
theorem ggX8_store_X8_isOctet : GoodIn wsX8_store wsX8_isOctet := goodIn_r _ [12, 13, 7, 8, 4, 9] (by decide +kernel) (by decide +kernel)
set_option maxRecDepth 20000 in
theorem gX8_store_X8_isOctet : GoodIn wsX8_store (va_wsS RX8 146 yX8_isOctet wsX8_isOctet) := goodIn_app (goodIn_of _ (by decide +kernel)) ggX8_store_X8_isOctet
set_option maxRecDepth 20000 in
theorem ggX8_store_X8_storeNow : GoodIn wsX8_store wsX8_storeNow := goodIn_r _ [17, 18, 19, 20, 21, 22, 23, 24, 4, 25, 26, 27, 28, 29, 30, 31, 32, 33, 34, 45, 46, 47, 48, 49, 50, 51, 52, 53, 54, 55, 56, 57, 58, 59, 60, 61, 62, 63, 64, 65, 66, 67, 68, 69, 70, 71, 72] (by decide +kernel) (by decide +kernel)
set_option maxRecDepth 20000 in
theorem gX8_store_X8_storeNow : GoodIn wsX8_store (wsV RX8 154 RX8 yX8_storeNow wsX8_storeNow) := goodIn_app (goodIn_of _ (by decide +kernel)) ggX8_store_X8_storeNow
set_option maxRecDepth 20000 in
theorem ggX8_store_X8_tick : GoodIn wsX8_store wsX8_tick := goodIn_r _ [38, 39, 40, 41, 42, 43, 13, 44, 45, 46, 47, 48, 49, 50, 51, 52, 53, 54, 55, 56, 57, 58, 59, 60, 61, 62, 63, 64, 65, 66, 67, 68, 69, 70, 71, 72] (by decide +kernel) (by decide +kernel)
set_option maxRecDepth 20000 in
theorem gX8_store_X8_tick : GoodIn wsX8_store (wsV RX8 132 RX8 yX8_tick wsX8_tick) := goodIn_app (goodIn_of _ (by decide +kernel)) ggX8_store_X8_tick
theorem dX8_store_0 : decode cX8_store 0 = .ok (.iload_n 1, 1) := by decide +kernel
theorem dX8_store_1 : decode cX8_store 1 = .ok (.invokestatic 119, 3) := by decide +kernel
theorem dX8_store_4 : decode cX8_store 4 = .ok (.ifCond .eq 10, 3) := by decide +kernel
theorem dX8_store_7 : decode cX8_store 7 = .ok (.iload_n 2, 1) := by decide +kernel
theorem dX8_store_8 : decode cX8_store 8 = .ok (.invokestatic 146, 3) := by decide +kernel
theorem dX8_store_11 : decode cX8_store 11 = .ok (.ifCond .ne 6, 3) := by decide +kernel
theorem dX8_store_14 : decode cX8_store 14 = .ok (.ldc 123, 2) := by decide +kernel
theorem dX8_store_16 : decode cX8_store 16 = .ok (.ireturn, 1) := by decide +kernel
theorem dX8_store_17 : decode cX8_store 17 = .ok (.aload_n 0, 1) := by decide +kernel
theorem dX8_store_18 : decode cX8_store 18 = .ok (.iconst 3, 1) := by decide +kernel
theorem dX8_store_19 : decode cX8_store 19 = .ok (.aload_n 0, 1) := by decide +kernel
theorem dX8_store_20 : decode cX8_store 20 = .ok (.iload_n 1, 1) := by decide +kernel
theorem dX8_store_21 : decode cX8_store 21 = .ok (.iload_n 2, 1) := by decide +kernel
theorem dX8_store_22 : decode cX8_store 22 = .ok (.invokevirtual 154, 3) := by decide +kernel
theorem dX8_store_25 : decode cX8_store 25 = .ok (.invokevirtual 132, 3) := by decide +kernel
theorem dX8_store_28 : decode cX8_store 28 = .ok (.ireturn, 1) := by decide +kernel
set_option maxRecDepth 20000 in
theorem ggX8_placeBy_X8_cries : GoodIn wsX8_placeBy wsX8_cries := goodIn_r _ [8, 9, 10, 11, 12, 13, 14, 15, 16, 17, 18, 19, 20, 21, 22, 23, 24, 25, 26, 27, 28, 29, 30, 31, 32, 33, 34, 35, 36, 37, 38, 39, 40, 41] (by decide +kernel) (by decide +kernel)
set_option maxRecDepth 20000 in
theorem gX8_placeBy_X8_cries : GoodIn wsX8_placeBy (wsV RX8 139 RX8 yX8_cries wsX8_cries) := goodIn_app (goodIn_of _ (by decide +kernel)) ggX8_placeBy_X8_cries
theorem dX8_placeBy_0 : decode cX8_placeBy 0 = .ok (.aload_n 0, 1) := by decide +kernel
theorem dX8_placeBy_1 : decode cX8_placeBy 1 = .ok (.getfield 13, 3) := by decide +kernel
theorem dX8_placeBy_4 : decode cX8_placeBy 4 = .ok (.iload_n 1, 1) := by decide +kernel
theorem dX8_placeBy_5 : decode cX8_placeBy 5 = .ok (.iaload, 1) := by decide +kernel
theorem dX8_placeBy_6 : decode cX8_placeBy 6 = .ok (.bipush 31, 2) := by decide +kernel
theorem dX8_placeBy_8 : decode cX8_placeBy 8 = .ok (.iand, 1) := by decide +kernel
theorem dX8_placeBy_9 : decode cX8_placeBy 9 = .ok (.ifCond .eq 14, 3) := by decide +kernel
theorem dX8_placeBy_12 : decode cX8_placeBy 12 = .ok (.aload_n 0, 1) := by decide +kernel
theorem dX8_placeBy_13 : decode cX8_placeBy 13 = .ok (.iconst 1, 1) := by decide +kernel
theorem dX8_placeBy_14 : decode cX8_placeBy 14 = .ok (.aload_n 0, 1) := by decide +kernel
theorem dX8_placeBy_15 : decode cX8_placeBy 15 = .ok (.getfield 16, 3) := by decide +kernel
theorem dX8_placeBy_18 : decode cX8_placeBy 18 = .ok (.iload_n 1, 1) := by decide +kernel
theorem dX8_placeBy_19 : decode cX8_placeBy 19 = .ok (.iaload, 1) := by decide +kernel
theorem dX8_placeBy_20 : decode cX8_placeBy 20 = .ok (.invokevirtual 139, 3) := by decide +kernel
theorem dX8_placeBy_23 : decode cX8_placeBy 23 = .ok (.aload_n 0, 1) := by decide +kernel
theorem dX8_placeBy_24 : decode cX8_placeBy 24 = .ok (.getfield 7, 3) := by decide +kernel
theorem dX8_placeBy_27 : decode cX8_placeBy 27 = .ok (.iload_n 1, 1) := by decide +kernel
theorem dX8_placeBy_28 : decode cX8_placeBy 28 = .ok (.iaload, 1) := by decide +kernel
theorem dX8_placeBy_29 : decode cX8_placeBy 29 = .ok (.bipush 31, 2) := by decide +kernel
theorem dX8_placeBy_31 : decode cX8_placeBy 31 = .ok (.iand, 1) := by decide +kernel
theorem dX8_placeBy_32 : decode cX8_placeBy 32 = .ok (.ireturn, 1) := by decide +kernel
set_option maxRecDepth 20000 in
theorem ggX8_loadAt_X8_isRegister : GoodIn wsX8_loadAt wsX8_isRegister := goodIn_r _ [5, 6, 7, 8, 4, 9] (by decide +kernel) (by decide +kernel)
set_option maxRecDepth 20000 in
theorem gX8_loadAt_X8_isRegister : GoodIn wsX8_loadAt (va_wsS RX8 119 yX8_isRegister wsX8_isRegister) := goodIn_app (goodIn_of _ (by decide +kernel)) ggX8_loadAt_X8_isRegister
set_option maxRecDepth 20000 in
theorem ggX8_loadAt_X8_placeBy : GoodIn wsX8_loadAt wsX8_placeBy := goodIn_r _ [13, 14, 15, 16, 17, 18, 19, 4, 20, 21, 22, 23, 24, 25, 59, 60, 61, 62, 63, 64, 65, 66, 67, 68, 69, 70, 71, 72, 73, 74, 75, 76, 77, 78, 79, 80, 81, 82, 83, 84, 85, 86] (by decide +kernel) (by decide +kernel)
set_option maxRecDepth 20000 in
theorem gX8_loadAt_X8_placeBy : GoodIn wsX8_loadAt (wsV RX8 157 RX8 yX8_placeBy wsX8_placeBy) := goodIn_app (goodIn_of _ (by decide +kernel)) ggX8_loadAt_X8_placeBy
set_option maxRecDepth 20000 in
theorem ggX8_loadAt_X8_loadNow : GoodIn wsX8_loadAt wsX8_loadNow := goodIn_r _ [29, 16, 14, 15, 30, 31, 32, 4, 33, 34, 35, 17, 18, 19, 20, 21, 22, 23, 24, 25, 36, 37, 38, 39, 40, 41, 42, 43, 44, 45, 46, 47, 48, 59, 60, 61, 62, 63, 64, 65, 66, 67, 68, 69, 70, 71, 72, 73, 74, 75, 76, 77, 78, 79, 80, 81, 82, 83, 84, 85, 86] (by decide +kernel) (by decide +kernel)
set_option maxRecDepth 20000 in
theorem gX8_loadAt_X8_loadNow : GoodIn wsX8_loadAt (wsV RX8 149 RX8 yX8_loadNow wsX8_loadNow) := goodIn_app (goodIn_of _ (by decide +kernel)) ggX8_loadAt_X8_loadNow
set_option maxRecDepth 20000 in
theorem ggX8_loadAt_X8_tick : GoodIn wsX8_loadAt wsX8_tick := goodIn_r _ [52, 53, 54, 55, 24, 56, 57, 58, 59, 60, 61, 62, 63, 64, 65, 66, 67, 68, 69, 70, 71, 72, 73, 74, 75, 76, 77, 78, 79, 80, 81, 82, 83, 84, 85, 86] (by decide +kernel) (by decide +kernel)
set_option maxRecDepth 20000 in
theorem gX8_loadAt_X8_tick : GoodIn wsX8_loadAt (wsV RX8 132 RX8 yX8_tick wsX8_tick) := goodIn_app (goodIn_of _ (by decide +kernel)) ggX8_loadAt_X8_tick
theorem dX8_loadAt_0 : decode cX8_loadAt 0 = .ok (.iload_n 1, 1) := by decide +kernel
theorem dX8_loadAt_1 : decode cX8_loadAt 1 = .ok (.invokestatic 119, 3) := by decide +kernel
theorem dX8_loadAt_4 : decode cX8_loadAt 4 = .ok (.ifCond .eq 10, 3) := by decide +kernel
theorem dX8_loadAt_7 : decode cX8_loadAt 7 = .ok (.iload_n 2, 1) := by decide +kernel
theorem dX8_loadAt_8 : decode cX8_loadAt 8 = .ok (.invokestatic 119, 3) := by decide +kernel
theorem dX8_loadAt_11 : decode cX8_loadAt 11 = .ok (.ifCond .ne 6, 3) := by decide +kernel
theorem dX8_loadAt_14 : decode cX8_loadAt 14 = .ok (.ldc 123, 2) := by decide +kernel
theorem dX8_loadAt_16 : decode cX8_loadAt 16 = .ok (.ireturn, 1) := by decide +kernel
theorem dX8_loadAt_17 : decode cX8_loadAt 17 = .ok (.aload_n 0, 1) := by decide +kernel
theorem dX8_loadAt_18 : decode cX8_loadAt 18 = .ok (.bipush 9, 2) := by decide +kernel
theorem dX8_loadAt_20 : decode cX8_loadAt 20 = .ok (.aload_n 0, 1) := by decide +kernel
theorem dX8_loadAt_21 : decode cX8_loadAt 21 = .ok (.iload_n 1, 1) := by decide +kernel
theorem dX8_loadAt_22 : decode cX8_loadAt 22 = .ok (.aload_n 0, 1) := by decide +kernel
theorem dX8_loadAt_23 : decode cX8_loadAt 23 = .ok (.iload_n 2, 1) := by decide +kernel
theorem dX8_loadAt_24 : decode cX8_loadAt 24 = .ok (.invokevirtual 157, 3) := by decide +kernel
theorem dX8_loadAt_27 : decode cX8_loadAt 27 = .ok (.invokevirtual 149, 3) := by decide +kernel
theorem dX8_loadAt_30 : decode cX8_loadAt 30 = .ok (.invokevirtual 132, 3) := by decide +kernel
theorem dX8_loadAt_33 : decode cX8_loadAt 33 = .ok (.ireturn, 1) := by decide +kernel
set_option maxRecDepth 20000 in
theorem ggX8_storeAt_X8_isRegister : GoodIn wsX8_storeAt wsX8_isRegister := goodIn_r _ [5, 6, 7, 8, 4, 9] (by decide +kernel) (by decide +kernel)
set_option maxRecDepth 20000 in
theorem gX8_storeAt_X8_isRegister : GoodIn wsX8_storeAt (va_wsS RX8 119 yX8_isRegister wsX8_isRegister) := goodIn_app (goodIn_of _ (by decide +kernel)) ggX8_storeAt_X8_isRegister
set_option maxRecDepth 20000 in
theorem ggX8_storeAt_X8_placeBy : GoodIn wsX8_storeAt wsX8_placeBy := goodIn_r _ [13, 14, 15, 16, 17, 18, 19, 4, 20, 21, 22, 23, 24, 25, 54, 55, 56, 57, 58, 59, 60, 61, 62, 63, 64, 65, 66, 67, 68, 69, 70, 71, 72, 73, 74, 75, 76, 77, 78, 79, 80, 81] (by decide +kernel) (by decide +kernel)
set_option maxRecDepth 20000 in
theorem gX8_storeAt_X8_placeBy : GoodIn wsX8_storeAt (wsV RX8 157 RX8 yX8_placeBy wsX8_placeBy) := goodIn_app (goodIn_of _ (by decide +kernel)) ggX8_storeAt_X8_placeBy
set_option maxRecDepth 20000 in
theorem ggX8_storeAt_X8_storeNow : GoodIn wsX8_storeAt wsX8_storeNow := goodIn_r _ [29, 30, 16, 14, 15, 31, 32, 33, 4, 34, 35, 36, 37, 38, 39, 40, 41, 42, 43, 54, 55, 56, 57, 58, 59, 60, 61, 62, 63, 64, 65, 66, 67, 68, 69, 70, 71, 72, 73, 74, 75, 76, 77, 78, 79, 80, 81] (by decide +kernel) (by decide +kernel)
set_option maxRecDepth 20000 in
theorem gX8_storeAt_X8_storeNow : GoodIn wsX8_storeAt (wsV RX8 154 RX8 yX8_storeNow wsX8_storeNow) := goodIn_app (goodIn_of _ (by decide +kernel)) ggX8_storeAt_X8_storeNow
set_option maxRecDepth 20000 in
theorem ggX8_storeAt_X8_tick : GoodIn wsX8_storeAt wsX8_tick := goodIn_r _ [47, 48, 49, 50, 24, 51, 52, 53, 54, 55, 56, 57, 58, 59, 60, 61, 62, 63, 64, 65, 66, 67, 68, 69, 70, 71, 72, 73, 74, 75, 76, 77, 78, 79, 80, 81] (by decide +kernel) (by decide +kernel)
set_option maxRecDepth 20000 in
theorem gX8_storeAt_X8_tick : GoodIn wsX8_storeAt (wsV RX8 132 RX8 yX8_tick wsX8_tick) := goodIn_app (goodIn_of _ (by decide +kernel)) ggX8_storeAt_X8_tick
theorem dX8_storeAt_0 : decode cX8_storeAt 0 = .ok (.iload_n 1, 1) := by decide +kernel
theorem dX8_storeAt_1 : decode cX8_storeAt 1 = .ok (.invokestatic 119, 3) := by decide +kernel
theorem dX8_storeAt_4 : decode cX8_storeAt 4 = .ok (.ifCond .eq 10, 3) := by decide +kernel
theorem dX8_storeAt_7 : decode cX8_storeAt 7 = .ok (.iload_n 2, 1) := by decide +kernel
theorem dX8_storeAt_8 : decode cX8_storeAt 8 = .ok (.invokestatic 119, 3) := by decide +kernel
theorem dX8_storeAt_11 : decode cX8_storeAt 11 = .ok (.ifCond .ne 6, 3) := by decide +kernel
theorem dX8_storeAt_14 : decode cX8_storeAt 14 = .ok (.ldc 123, 2) := by decide +kernel
theorem dX8_storeAt_16 : decode cX8_storeAt 16 = .ok (.ireturn, 1) := by decide +kernel
theorem dX8_storeAt_17 : decode cX8_storeAt 17 = .ok (.aload_n 0, 1) := by decide +kernel
theorem dX8_storeAt_18 : decode cX8_storeAt 18 = .ok (.bipush 10, 2) := by decide +kernel
theorem dX8_storeAt_20 : decode cX8_storeAt 20 = .ok (.aload_n 0, 1) := by decide +kernel
theorem dX8_storeAt_21 : decode cX8_storeAt 21 = .ok (.iload_n 1, 1) := by decide +kernel
theorem dX8_storeAt_22 : decode cX8_storeAt 22 = .ok (.aload_n 0, 1) := by decide +kernel
theorem dX8_storeAt_23 : decode cX8_storeAt 23 = .ok (.iload_n 2, 1) := by decide +kernel
theorem dX8_storeAt_24 : decode cX8_storeAt 24 = .ok (.invokevirtual 157, 3) := by decide +kernel
theorem dX8_storeAt_27 : decode cX8_storeAt 27 = .ok (.invokevirtual 154, 3) := by decide +kernel
theorem dX8_storeAt_30 : decode cX8_storeAt 30 = .ok (.invokevirtual 132, 3) := by decide +kernel
theorem dX8_storeAt_33 : decode cX8_storeAt 33 = .ok (.ireturn, 1) := by decide +kernel
theorem dX8_valueBy_0 : decode cX8_valueBy 0 = .ok (.iload_n 0, 1) := by decide +kernel
theorem dX8_valueBy_1 : decode cX8_valueBy 1 = .ok (.tableswitch 78 0 5 #[39, 43, 47, 51, 59, 67], 39) := by decide +kernel
theorem dX8_valueBy_40 : decode cX8_valueBy 40 = .ok (.iload_n 1, 1) := by decide +kernel
theorem dX8_valueBy_41 : decode cX8_valueBy 41 = .ok (.iload_n 2, 1) := by decide +kernel
theorem dX8_valueBy_42 : decode cX8_valueBy 42 = .ok (.iand, 1) := by decide +kernel
theorem dX8_valueBy_43 : decode cX8_valueBy 43 = .ok (.ireturn, 1) := by decide +kernel
theorem dX8_valueBy_44 : decode cX8_valueBy 44 = .ok (.iload_n 1, 1) := by decide +kernel
theorem dX8_valueBy_45 : decode cX8_valueBy 45 = .ok (.iload_n 2, 1) := by decide +kernel
theorem dX8_valueBy_46 : decode cX8_valueBy 46 = .ok (.ior, 1) := by decide +kernel
theorem dX8_valueBy_47 : decode cX8_valueBy 47 = .ok (.ireturn, 1) := by decide +kernel
theorem dX8_valueBy_48 : decode cX8_valueBy 48 = .ok (.iload_n 1, 1) := by decide +kernel
theorem dX8_valueBy_49 : decode cX8_valueBy 49 = .ok (.iload_n 2, 1) := by decide +kernel
theorem dX8_valueBy_50 : decode cX8_valueBy 50 = .ok (.ixor, 1) := by decide +kernel
theorem dX8_valueBy_51 : decode cX8_valueBy 51 = .ok (.ireturn, 1) := by decide +kernel
theorem dX8_valueBy_52 : decode cX8_valueBy 52 = .ok (.iload_n 1, 1) := by decide +kernel
theorem dX8_valueBy_53 : decode cX8_valueBy 53 = .ok (.iload_n 2, 1) := by decide +kernel
theorem dX8_valueBy_54 : decode cX8_valueBy 54 = .ok (.iadd, 1) := by decide +kernel
theorem dX8_valueBy_55 : decode cX8_valueBy 55 = .ok (.sipush 255, 3) := by decide +kernel
theorem dX8_valueBy_58 : decode cX8_valueBy 58 = .ok (.iand, 1) := by decide +kernel
theorem dX8_valueBy_59 : decode cX8_valueBy 59 = .ok (.ireturn, 1) := by decide +kernel
theorem dX8_valueBy_60 : decode cX8_valueBy 60 = .ok (.iload_n 1, 1) := by decide +kernel
theorem dX8_valueBy_61 : decode cX8_valueBy 61 = .ok (.iload_n 2, 1) := by decide +kernel
theorem dX8_valueBy_62 : decode cX8_valueBy 62 = .ok (.isub, 1) := by decide +kernel
theorem dX8_valueBy_63 : decode cX8_valueBy 63 = .ok (.sipush 255, 3) := by decide +kernel
theorem dX8_valueBy_66 : decode cX8_valueBy 66 = .ok (.iand, 1) := by decide +kernel
theorem dX8_valueBy_67 : decode cX8_valueBy 67 = .ok (.ireturn, 1) := by decide +kernel
theorem dX8_valueBy_68 : decode cX8_valueBy 68 = .ok (.iload_n 1, 1) := by decide +kernel
theorem dX8_valueBy_69 : decode cX8_valueBy 69 = .ok (.iload_n 2, 1) := by decide +kernel
theorem dX8_valueBy_70 : decode cX8_valueBy 70 = .ok (.bipush 7, 2) := by decide +kernel
theorem dX8_valueBy_72 : decode cX8_valueBy 72 = .ok (.iand, 1) := by decide +kernel
theorem dX8_valueBy_73 : decode cX8_valueBy 73 = .ok (.ishl, 1) := by decide +kernel
theorem dX8_valueBy_74 : decode cX8_valueBy 74 = .ok (.sipush 255, 3) := by decide +kernel
theorem dX8_valueBy_77 : decode cX8_valueBy 77 = .ok (.iand, 1) := by decide +kernel
theorem dX8_valueBy_78 : decode cX8_valueBy 78 = .ok (.ireturn, 1) := by decide +kernel
theorem dX8_valueBy_79 : decode cX8_valueBy 79 = .ok (.iload_n 1, 1) := by decide +kernel
theorem dX8_valueBy_80 : decode cX8_valueBy 80 = .ok (.iload_n 2, 1) := by decide +kernel
theorem dX8_valueBy_81 : decode cX8_valueBy 81 = .ok (.bipush 7, 2) := by decide +kernel
theorem dX8_valueBy_83 : decode cX8_valueBy 83 = .ok (.iand, 1) := by decide +kernel
theorem dX8_valueBy_84 : decode cX8_valueBy 84 = .ok (.ishr, 1) := by decide +kernel
theorem dX8_valueBy_85 : decode cX8_valueBy 85 = .ok (.ireturn, 1) := by decide +kernel
theorem dX8_shadowBy_0 : decode cX8_shadowBy 0 = .ok (.iload_n 2, 1) := by decide +kernel
theorem dX8_shadowBy_1 : decode cX8_shadowBy 1 = .ok (.iload 4, 2) := by decide +kernel
theorem dX8_shadowBy_3 : decode cX8_shadowBy 3 = .ok (.ior, 1) := by decide +kernel
theorem dX8_shadowBy_4 : decode cX8_shadowBy 4 = .ok (.istore 5, 2) := by decide +kernel
theorem dX8_shadowBy_6 : decode cX8_shadowBy 6 = .ok (.iload_n 1, 1) := by decide +kernel
theorem dX8_shadowBy_7 : decode cX8_shadowBy 7 = .ok (.iload_n 2, 1) := by decide +kernel
theorem dX8_shadowBy_8 : decode cX8_shadowBy 8 = .ok (.iconst (-1), 1) := by decide +kernel
theorem dX8_shadowBy_9 : decode cX8_shadowBy 9 = .ok (.ixor, 1) := by decide +kernel
theorem dX8_shadowBy_10 : decode cX8_shadowBy 10 = .ok (.iand, 1) := by decide +kernel
theorem dX8_shadowBy_11 : decode cX8_shadowBy 11 = .ok (.istore 6, 2) := by decide +kernel
theorem dX8_shadowBy_13 : decode cX8_shadowBy 13 = .ok (.iload_n 1, 1) := by decide +kernel
theorem dX8_shadowBy_14 : decode cX8_shadowBy 14 = .ok (.iload_n 2, 1) := by decide +kernel
theorem dX8_shadowBy_15 : decode cX8_shadowBy 15 = .ok (.ior, 1) := by decide +kernel
theorem dX8_shadowBy_16 : decode cX8_shadowBy 16 = .ok (.istore 7, 2) := by decide +kernel
theorem dX8_shadowBy_18 : decode cX8_shadowBy 18 = .ok (.iload_n 3, 1) := by decide +kernel
theorem dX8_shadowBy_19 : decode cX8_shadowBy 19 = .ok (.iload 4, 2) := by decide +kernel
theorem dX8_shadowBy_21 : decode cX8_shadowBy 21 = .ok (.iconst (-1), 1) := by decide +kernel
theorem dX8_shadowBy_22 : decode cX8_shadowBy 22 = .ok (.ixor, 1) := by decide +kernel
theorem dX8_shadowBy_23 : decode cX8_shadowBy 23 = .ok (.iand, 1) := by decide +kernel
theorem dX8_shadowBy_24 : decode cX8_shadowBy 24 = .ok (.istore 8, 2) := by decide +kernel
theorem dX8_shadowBy_26 : decode cX8_shadowBy 26 = .ok (.iload_n 3, 1) := by decide +kernel
theorem dX8_shadowBy_27 : decode cX8_shadowBy 27 = .ok (.iload 4, 2) := by decide +kernel
theorem dX8_shadowBy_29 : decode cX8_shadowBy 29 = .ok (.ior, 1) := by decide +kernel
theorem dX8_shadowBy_30 : decode cX8_shadowBy 30 = .ok (.istore 9, 2) := by decide +kernel
theorem dX8_shadowBy_32 : decode cX8_shadowBy 32 = .ok (.iload_n 0, 1) := by decide +kernel
theorem dX8_shadowBy_33 : decode cX8_shadowBy 33 = .ok (.tableswitch 125 0 5 #[39, 48, 59, 62, 81, 100], 39) := by decide +kernel
theorem dX8_shadowBy_72 : decode cX8_shadowBy 72 = .ok (.iload 5, 2) := by decide +kernel
theorem dX8_shadowBy_74 : decode cX8_shadowBy 74 = .ok (.iload 7, 2) := by decide +kernel
theorem dX8_shadowBy_76 : decode cX8_shadowBy 76 = .ok (.iand, 1) := by decide +kernel
theorem dX8_shadowBy_77 : decode cX8_shadowBy 77 = .ok (.iload 9, 2) := by decide +kernel
theorem dX8_shadowBy_79 : decode cX8_shadowBy 79 = .ok (.iand, 1) := by decide +kernel
theorem dX8_shadowBy_80 : decode cX8_shadowBy 80 = .ok (.ireturn, 1) := by decide +kernel
theorem dX8_shadowBy_81 : decode cX8_shadowBy 81 = .ok (.iload 5, 2) := by decide +kernel
theorem dX8_shadowBy_83 : decode cX8_shadowBy 83 = .ok (.iload 6, 2) := by decide +kernel
theorem dX8_shadowBy_85 : decode cX8_shadowBy 85 = .ok (.iload 8, 2) := by decide +kernel
theorem dX8_shadowBy_87 : decode cX8_shadowBy 87 = .ok (.ior, 1) := by decide +kernel
theorem dX8_shadowBy_88 : decode cX8_shadowBy 88 = .ok (.iconst (-1), 1) := by decide +kernel
theorem dX8_shadowBy_89 : decode cX8_shadowBy 89 = .ok (.ixor, 1) := by decide +kernel
theorem dX8_shadowBy_90 : decode cX8_shadowBy 90 = .ok (.iand, 1) := by decide +kernel
theorem dX8_shadowBy_91 : decode cX8_shadowBy 91 = .ok (.ireturn, 1) := by decide +kernel
theorem dX8_shadowBy_92 : decode cX8_shadowBy 92 = .ok (.iload 5, 2) := by decide +kernel
theorem dX8_shadowBy_94 : decode cX8_shadowBy 94 = .ok (.ireturn, 1) := by decide +kernel
theorem dX8_shadowBy_95 : decode cX8_shadowBy 95 = .ok (.iload 6, 2) := by decide +kernel
theorem dX8_shadowBy_97 : decode cX8_shadowBy 97 = .ok (.iload 8, 2) := by decide +kernel
theorem dX8_shadowBy_99 : decode cX8_shadowBy 99 = .ok (.iadd, 1) := by decide +kernel
theorem dX8_shadowBy_100 : decode cX8_shadowBy 100 = .ok (.iload 7, 2) := by decide +kernel
theorem dX8_shadowBy_102 : decode cX8_shadowBy 102 = .ok (.iload 9, 2) := by decide +kernel
theorem dX8_shadowBy_104 : decode cX8_shadowBy 104 = .ok (.iadd, 1) := by decide +kernel
theorem dX8_shadowBy_105 : decode cX8_shadowBy 105 = .ok (.ixor, 1) := by decide +kernel
theorem dX8_shadowBy_106 : decode cX8_shadowBy 106 = .ok (.iload 5, 2) := by decide +kernel
theorem dX8_shadowBy_108 : decode cX8_shadowBy 108 = .ok (.ior, 1) := by decide +kernel
theorem dX8_shadowBy_109 : decode cX8_shadowBy 109 = .ok (.sipush 255, 3) := by decide +kernel
theorem dX8_shadowBy_112 : decode cX8_shadowBy 112 = .ok (.iand, 1) := by decide +kernel
theorem dX8_shadowBy_113 : decode cX8_shadowBy 113 = .ok (.ireturn, 1) := by decide +kernel
theorem dX8_shadowBy_114 : decode cX8_shadowBy 114 = .ok (.iload 6, 2) := by decide +kernel
theorem dX8_shadowBy_116 : decode cX8_shadowBy 116 = .ok (.iload 9, 2) := by decide +kernel
theorem dX8_shadowBy_118 : decode cX8_shadowBy 118 = .ok (.isub, 1) := by decide +kernel
theorem dX8_shadowBy_119 : decode cX8_shadowBy 119 = .ok (.iload 7, 2) := by decide +kernel
theorem dX8_shadowBy_121 : decode cX8_shadowBy 121 = .ok (.iload 8, 2) := by decide +kernel
theorem dX8_shadowBy_123 : decode cX8_shadowBy 123 = .ok (.isub, 1) := by decide +kernel
theorem dX8_shadowBy_124 : decode cX8_shadowBy 124 = .ok (.ixor, 1) := by decide +kernel
theorem dX8_shadowBy_125 : decode cX8_shadowBy 125 = .ok (.iload 5, 2) := by decide +kernel
theorem dX8_shadowBy_127 : decode cX8_shadowBy 127 = .ok (.ior, 1) := by decide +kernel
theorem dX8_shadowBy_128 : decode cX8_shadowBy 128 = .ok (.sipush 255, 3) := by decide +kernel
theorem dX8_shadowBy_131 : decode cX8_shadowBy 131 = .ok (.iand, 1) := by decide +kernel
theorem dX8_shadowBy_132 : decode cX8_shadowBy 132 = .ok (.ireturn, 1) := by decide +kernel
theorem dX8_shadowBy_133 : decode cX8_shadowBy 133 = .ok (.iload 4, 2) := by decide +kernel
theorem dX8_shadowBy_135 : decode cX8_shadowBy 135 = .ok (.bipush 7, 2) := by decide +kernel
theorem dX8_shadowBy_137 : decode cX8_shadowBy 137 = .ok (.iand, 1) := by decide +kernel
theorem dX8_shadowBy_138 : decode cX8_shadowBy 138 = .ok (.ifCond .eq 9, 3) := by decide +kernel
theorem dX8_shadowBy_141 : decode cX8_shadowBy 141 = .ok (.sipush 255, 3) := by decide +kernel
theorem dX8_shadowBy_144 : decode cX8_shadowBy 144 = .ok (.goto 13, 3) := by decide +kernel
theorem dX8_shadowBy_147 : decode cX8_shadowBy 147 = .ok (.iload_n 2, 1) := by decide +kernel
theorem dX8_shadowBy_148 : decode cX8_shadowBy 148 = .ok (.iload_n 3, 1) := by decide +kernel
theorem dX8_shadowBy_149 : decode cX8_shadowBy 149 = .ok (.bipush 7, 2) := by decide +kernel
theorem dX8_shadowBy_151 : decode cX8_shadowBy 151 = .ok (.iand, 1) := by decide +kernel
theorem dX8_shadowBy_152 : decode cX8_shadowBy 152 = .ok (.ishl, 1) := by decide +kernel
theorem dX8_shadowBy_153 : decode cX8_shadowBy 153 = .ok (.sipush 255, 3) := by decide +kernel
theorem dX8_shadowBy_156 : decode cX8_shadowBy 156 = .ok (.iand, 1) := by decide +kernel
theorem dX8_shadowBy_157 : decode cX8_shadowBy 157 = .ok (.ireturn, 1) := by decide +kernel
theorem dX8_shadowBy_158 : decode cX8_shadowBy 158 = .ok (.iload 4, 2) := by decide +kernel
theorem dX8_shadowBy_160 : decode cX8_shadowBy 160 = .ok (.bipush 7, 2) := by decide +kernel
theorem dX8_shadowBy_162 : decode cX8_shadowBy 162 = .ok (.iand, 1) := by decide +kernel
theorem dX8_shadowBy_163 : decode cX8_shadowBy 163 = .ok (.ifCond .eq 9, 3) := by decide +kernel
theorem dX8_shadowBy_166 : decode cX8_shadowBy 166 = .ok (.sipush 255, 3) := by decide +kernel
theorem dX8_shadowBy_169 : decode cX8_shadowBy 169 = .ok (.goto 9, 3) := by decide +kernel
theorem dX8_shadowBy_172 : decode cX8_shadowBy 172 = .ok (.iload_n 2, 1) := by decide +kernel
theorem dX8_shadowBy_173 : decode cX8_shadowBy 173 = .ok (.iload_n 3, 1) := by decide +kernel
theorem dX8_shadowBy_174 : decode cX8_shadowBy 174 = .ok (.bipush 7, 2) := by decide +kernel
theorem dX8_shadowBy_176 : decode cX8_shadowBy 176 = .ok (.iand, 1) := by decide +kernel
theorem dX8_shadowBy_177 : decode cX8_shadowBy 177 = .ok (.ishr, 1) := by decide +kernel
theorem dX8_shadowBy_178 : decode cX8_shadowBy 178 = .ok (.ireturn, 1) := by decide +kernel
set_option maxRecDepth 20000 in
theorem ggX8_exactBy_X8_valueBy : GoodIn wsX8_exactBy wsX8_valueBy := goodIn_r _ [4] (by decide +kernel) (by decide +kernel)
set_option maxRecDepth 20000 in
theorem gX8_exactBy_X8_valueBy : GoodIn wsX8_exactBy (va_wsS RX8 161 yX8_valueBy wsX8_valueBy) := goodIn_app (goodIn_of _ (by decide +kernel)) ggX8_exactBy_X8_valueBy
theorem dX8_exactBy_0 : decode cX8_exactBy 0 = .ok (.iload_n 0, 1) := by decide +kernel
theorem dX8_exactBy_1 : decode cX8_exactBy 1 = .ok (.iload_n 1, 1) := by decide +kernel
theorem dX8_exactBy_2 : decode cX8_exactBy 2 = .ok (.iload_n 3, 1) := by decide +kernel
theorem dX8_exactBy_3 : decode cX8_exactBy 3 = .ok (.invokestatic 161, 3) := by decide +kernel
theorem dX8_exactBy_6 : decode cX8_exactBy 6 = .ok (.istore 5, 2) := by decide +kernel
theorem dX8_exactBy_8 : decode cX8_exactBy 8 = .ok (.iconst 0, 1) := by decide +kernel
theorem dX8_exactBy_9 : decode cX8_exactBy 9 = .ok (.istore 6, 2) := by decide +kernel
theorem dX8_exactBy_11 : decode cX8_exactBy 11 = .ok (.iconst 0, 1) := by decide +kernel
theorem dX8_exactBy_12 : decode cX8_exactBy 12 = .ok (.istore 7, 2) := by decide +kernel
theorem dX8_exactBy_14 : decode cX8_exactBy 14 = .ok (.iload 7, 2) := by decide +kernel
theorem dX8_exactBy_16 : decode cX8_exactBy 16 = .ok (.sipush 256, 3) := by decide +kernel
theorem dX8_exactBy_19 : decode cX8_exactBy 19 = .ok (.if_icmp .ge 90, 3) := by decide +kernel
theorem dX8_exactBy_22 : decode cX8_exactBy 22 = .ok (.iconst 0, 1) := by decide +kernel
theorem dX8_exactBy_23 : decode cX8_exactBy 23 = .ok (.istore 8, 2) := by decide +kernel
theorem dX8_exactBy_25 : decode cX8_exactBy 25 = .ok (.iload 8, 2) := by decide +kernel
theorem dX8_exactBy_27 : decode cX8_exactBy 27 = .ok (.sipush 256, 3) := by decide +kernel
theorem dX8_exactBy_30 : decode cX8_exactBy 30 = .ok (.if_icmp .ge 73, 3) := by decide +kernel
theorem dX8_exactBy_33 : decode cX8_exactBy 33 = .ok (.iload 7, 2) := by decide +kernel
theorem dX8_exactBy_35 : decode cX8_exactBy 35 = .ok (.iload_n 2, 1) := by decide +kernel
theorem dX8_exactBy_36 : decode cX8_exactBy 36 = .ok (.iconst (-1), 1) := by decide +kernel
theorem dX8_exactBy_37 : decode cX8_exactBy 37 = .ok (.ixor, 1) := by decide +kernel
theorem dX8_exactBy_38 : decode cX8_exactBy 38 = .ok (.iand, 1) := by decide +kernel
theorem dX8_exactBy_39 : decode cX8_exactBy 39 = .ok (.ifCond .ne 64, 3) := by decide +kernel
theorem dX8_exactBy_42 : decode cX8_exactBy 42 = .ok (.iload 8, 2) := by decide +kernel
theorem dX8_exactBy_44 : decode cX8_exactBy 44 = .ok (.iload 4, 2) := by decide +kernel
theorem dX8_exactBy_46 : decode cX8_exactBy 46 = .ok (.iconst (-1), 1) := by decide +kernel
theorem dX8_exactBy_47 : decode cX8_exactBy 47 = .ok (.ixor, 1) := by decide +kernel
theorem dX8_exactBy_48 : decode cX8_exactBy 48 = .ok (.iand, 1) := by decide +kernel
theorem dX8_exactBy_49 : decode cX8_exactBy 49 = .ok (.ifCond .ne 7, 3) := by decide +kernel
theorem dX8_exactBy_52 : decode cX8_exactBy 52 = .ok (.iconst 1, 1) := by decide +kernel
theorem dX8_exactBy_53 : decode cX8_exactBy 53 = .ok (.goto 4, 3) := by decide +kernel
theorem dX8_exactBy_56 : decode cX8_exactBy 56 = .ok (.iconst 0, 1) := by decide +kernel
theorem dX8_exactBy_57 : decode cX8_exactBy 57 = .ok (.istore 9, 2) := by decide +kernel
theorem dX8_exactBy_59 : decode cX8_exactBy 59 = .ok (.iload 6, 2) := by decide +kernel
theorem dX8_exactBy_61 : decode cX8_exactBy 61 = .ok (.iload 9, 2) := by decide +kernel
theorem dX8_exactBy_63 : decode cX8_exactBy 63 = .ok (.ifCond .eq 30, 3) := by decide +kernel
theorem dX8_exactBy_66 : decode cX8_exactBy 66 = .ok (.iload_n 0, 1) := by decide +kernel
theorem dX8_exactBy_67 : decode cX8_exactBy 67 = .ok (.iload_n 1, 1) := by decide +kernel
theorem dX8_exactBy_68 : decode cX8_exactBy 68 = .ok (.iload_n 2, 1) := by decide +kernel
theorem dX8_exactBy_69 : decode cX8_exactBy 69 = .ok (.iconst (-1), 1) := by decide +kernel
theorem dX8_exactBy_70 : decode cX8_exactBy 70 = .ok (.ixor, 1) := by decide +kernel
theorem dX8_exactBy_71 : decode cX8_exactBy 71 = .ok (.iand, 1) := by decide +kernel
theorem dX8_exactBy_72 : decode cX8_exactBy 72 = .ok (.iload 7, 2) := by decide +kernel
theorem dX8_exactBy_74 : decode cX8_exactBy 74 = .ok (.ior, 1) := by decide +kernel
theorem dX8_exactBy_75 : decode cX8_exactBy 75 = .ok (.iload_n 3, 1) := by decide +kernel
theorem dX8_exactBy_76 : decode cX8_exactBy 76 = .ok (.iload 4, 2) := by decide +kernel
theorem dX8_exactBy_78 : decode cX8_exactBy 78 = .ok (.iconst (-1), 1) := by decide +kernel
theorem dX8_exactBy_79 : decode cX8_exactBy 79 = .ok (.ixor, 1) := by decide +kernel
theorem dX8_exactBy_80 : decode cX8_exactBy 80 = .ok (.iand, 1) := by decide +kernel
theorem dX8_exactBy_81 : decode cX8_exactBy 81 = .ok (.iload 8, 2) := by decide +kernel
theorem dX8_exactBy_83 : decode cX8_exactBy 83 = .ok (.ior, 1) := by decide +kernel
theorem dX8_exactBy_84 : decode cX8_exactBy 84 = .ok (.invokestatic 161, 3) := by decide +kernel
theorem dX8_exactBy_87 : decode cX8_exactBy 87 = .ok (.iload 5, 2) := by decide +kernel
theorem dX8_exactBy_89 : decode cX8_exactBy 89 = .ok (.ixor, 1) := by decide +kernel
theorem dX8_exactBy_90 : decode cX8_exactBy 90 = .ok (.goto 4, 3) := by decide +kernel
theorem dX8_exactBy_93 : decode cX8_exactBy 93 = .ok (.iconst 0, 1) := by decide +kernel
theorem dX8_exactBy_94 : decode cX8_exactBy 94 = .ok (.ior, 1) := by decide +kernel
theorem dX8_exactBy_95 : decode cX8_exactBy 95 = .ok (.istore 6, 2) := by decide +kernel
theorem dX8_exactBy_97 : decode cX8_exactBy 97 = .ok (.iinc 8 1, 3) := by decide +kernel
theorem dX8_exactBy_100 : decode cX8_exactBy 100 = .ok (.goto (-75), 3) := by decide +kernel
theorem dX8_exactBy_103 : decode cX8_exactBy 103 = .ok (.iinc 7 1, 3) := by decide +kernel
theorem dX8_exactBy_106 : decode cX8_exactBy 106 = .ok (.goto (-92), 3) := by decide +kernel
theorem dX8_exactBy_109 : decode cX8_exactBy 109 = .ok (.iload 6, 2) := by decide +kernel
theorem dX8_exactBy_111 : decode cX8_exactBy 111 = .ok (.ireturn, 1) := by decide +kernel
set_option maxRecDepth 20000 in
theorem ggX8_ruleNow_X8_shadowBy : GoodIn wsX8_ruleNow wsX8_shadowBy := goodIn_r _ [8] (by decide +kernel) (by decide +kernel)
set_option maxRecDepth 20000 in
theorem gX8_ruleNow_X8_shadowBy : GoodIn wsX8_ruleNow (va_wsS RX8 165 yX8_shadowBy wsX8_shadowBy) := goodIn_app (goodIn_of _ (by decide +kernel)) ggX8_ruleNow_X8_shadowBy
set_option maxRecDepth 20000 in
theorem ggX8_ruleNow_X8_valueBy : GoodIn wsX8_ruleNow wsX8_valueBy := goodIn_r _ [11] (by decide +kernel) (by decide +kernel)
set_option maxRecDepth 20000 in
theorem gX8_ruleNow_X8_valueBy : GoodIn wsX8_ruleNow (va_wsS RX8 161 yX8_valueBy wsX8_valueBy) := goodIn_app (goodIn_of _ (by decide +kernel)) ggX8_ruleNow_X8_valueBy
set_option maxRecDepth 20000 in
theorem ggX8_ruleNow_X8_exactBy : GoodIn wsX8_ruleNow wsX8_exactBy := goodIn_r _ [14, 9, 10, 7, 11] (by decide +kernel) (by decide +kernel)
set_option maxRecDepth 20000 in
theorem gX8_ruleNow_X8_exactBy : GoodIn wsX8_ruleNow (va_wsS RX8 169 yX8_exactBy wsX8_exactBy) := goodIn_app (goodIn_of _ (by decide +kernel)) ggX8_ruleNow_X8_exactBy
set_option maxRecDepth 20000 in
theorem ggX8_ruleNow_X8_bits : GoodIn wsX8_ruleNow wsX8_bits := goodIn_r _ [17] (by decide +kernel) (by decide +kernel)
set_option maxRecDepth 20000 in
theorem gX8_ruleNow_X8_bits : GoodIn wsX8_ruleNow (va_wsS RX8 172 yX8_bits wsX8_bits) := goodIn_app (goodIn_of _ (by decide +kernel)) ggX8_ruleNow_X8_bits
set_option maxRecDepth 20000 in
theorem ggX8_ruleNow_X8_become : GoodIn wsX8_ruleNow wsX8_become := goodIn_r _ [21, 1, 2, 4, 22, 23, 24, 7, 25, 26, 27, 28, 29, 30, 31, 32, 33, 34, 35, 36, 37, 38, 39, 40, 41, 42, 43, 44, 45, 46, 47, 48, 49, 50, 51, 52, 53, 54, 55, 56, 57, 58] (by decide +kernel) (by decide +kernel)
set_option maxRecDepth 20000 in
theorem gX8_ruleNow_X8_become : GoodIn wsX8_ruleNow (wsV RX8 128 RX8 yX8_become wsX8_become) := goodIn_app (goodIn_of _ (by decide +kernel)) ggX8_ruleNow_X8_become
theorem dX8_ruleNow_0 : decode cX8_ruleNow 0 = .ok (.iload_n 1, 1) := by decide +kernel
theorem dX8_ruleNow_1 : decode cX8_ruleNow 1 = .ok (.aload_n 0, 1) := by decide +kernel
theorem dX8_ruleNow_2 : decode cX8_ruleNow 2 = .ok (.getfield 7, 3) := by decide +kernel
theorem dX8_ruleNow_5 : decode cX8_ruleNow 5 = .ok (.iload_n 3, 1) := by decide +kernel
theorem dX8_ruleNow_6 : decode cX8_ruleNow 6 = .ok (.iaload, 1) := by decide +kernel
theorem dX8_ruleNow_7 : decode cX8_ruleNow 7 = .ok (.aload_n 0, 1) := by decide +kernel
theorem dX8_ruleNow_8 : decode cX8_ruleNow 8 = .ok (.getfield 13, 3) := by decide +kernel
theorem dX8_ruleNow_11 : decode cX8_ruleNow 11 = .ok (.iload_n 3, 1) := by decide +kernel
theorem dX8_ruleNow_12 : decode cX8_ruleNow 12 = .ok (.iaload, 1) := by decide +kernel
theorem dX8_ruleNow_13 : decode cX8_ruleNow 13 = .ok (.aload_n 0, 1) := by decide +kernel
theorem dX8_ruleNow_14 : decode cX8_ruleNow 14 = .ok (.getfield 7, 3) := by decide +kernel
theorem dX8_ruleNow_17 : decode cX8_ruleNow 17 = .ok (.iload 4, 2) := by decide +kernel
theorem dX8_ruleNow_19 : decode cX8_ruleNow 19 = .ok (.iaload, 1) := by decide +kernel
theorem dX8_ruleNow_20 : decode cX8_ruleNow 20 = .ok (.aload_n 0, 1) := by decide +kernel
theorem dX8_ruleNow_21 : decode cX8_ruleNow 21 = .ok (.getfield 13, 3) := by decide +kernel
theorem dX8_ruleNow_24 : decode cX8_ruleNow 24 = .ok (.iload 4, 2) := by decide +kernel
theorem dX8_ruleNow_26 : decode cX8_ruleNow 26 = .ok (.iaload, 1) := by decide +kernel
theorem dX8_ruleNow_27 : decode cX8_ruleNow 27 = .ok (.invokestatic 165, 3) := by decide +kernel
theorem dX8_ruleNow_30 : decode cX8_ruleNow 30 = .ok (.istore 6, 2) := by decide +kernel
theorem dX8_ruleNow_32 : decode cX8_ruleNow 32 = .ok (.iload_n 1, 1) := by decide +kernel
theorem dX8_ruleNow_33 : decode cX8_ruleNow 33 = .ok (.aload_n 0, 1) := by decide +kernel
theorem dX8_ruleNow_34 : decode cX8_ruleNow 34 = .ok (.getfield 7, 3) := by decide +kernel
theorem dX8_ruleNow_37 : decode cX8_ruleNow 37 = .ok (.iload_n 3, 1) := by decide +kernel
theorem dX8_ruleNow_38 : decode cX8_ruleNow 38 = .ok (.iaload, 1) := by decide +kernel
theorem dX8_ruleNow_39 : decode cX8_ruleNow 39 = .ok (.aload_n 0, 1) := by decide +kernel
theorem dX8_ruleNow_40 : decode cX8_ruleNow 40 = .ok (.getfield 7, 3) := by decide +kernel
theorem dX8_ruleNow_43 : decode cX8_ruleNow 43 = .ok (.iload 4, 2) := by decide +kernel
theorem dX8_ruleNow_45 : decode cX8_ruleNow 45 = .ok (.iaload, 1) := by decide +kernel
theorem dX8_ruleNow_46 : decode cX8_ruleNow 46 = .ok (.invokestatic 161, 3) := by decide +kernel
theorem dX8_ruleNow_49 : decode cX8_ruleNow 49 = .ok (.istore 7, 2) := by decide +kernel
theorem dX8_ruleNow_51 : decode cX8_ruleNow 51 = .ok (.aload_n 0, 1) := by decide +kernel
theorem dX8_ruleNow_52 : decode cX8_ruleNow 52 = .ok (.dup, 1) := by decide +kernel
theorem dX8_ruleNow_53 : decode cX8_ruleNow 53 = .ok (.getfield 98, 3) := by decide +kernel
theorem dX8_ruleNow_56 : decode cX8_ruleNow 56 = .ok (.iload 5, 2) := by decide +kernel
theorem dX8_ruleNow_58 : decode cX8_ruleNow 58 = .ok (.ifCond .eq 44, 3) := by decide +kernel
theorem dX8_ruleNow_61 : decode cX8_ruleNow 61 = .ok (.iload 6, 2) := by decide +kernel
theorem dX8_ruleNow_63 : decode cX8_ruleNow 63 = .ok (.iload_n 1, 1) := by decide +kernel
theorem dX8_ruleNow_64 : decode cX8_ruleNow 64 = .ok (.aload_n 0, 1) := by decide +kernel
theorem dX8_ruleNow_65 : decode cX8_ruleNow 65 = .ok (.getfield 7, 3) := by decide +kernel
theorem dX8_ruleNow_68 : decode cX8_ruleNow 68 = .ok (.iload_n 3, 1) := by decide +kernel
theorem dX8_ruleNow_69 : decode cX8_ruleNow 69 = .ok (.iaload, 1) := by decide +kernel
theorem dX8_ruleNow_70 : decode cX8_ruleNow 70 = .ok (.aload_n 0, 1) := by decide +kernel
theorem dX8_ruleNow_71 : decode cX8_ruleNow 71 = .ok (.getfield 13, 3) := by decide +kernel
theorem dX8_ruleNow_74 : decode cX8_ruleNow 74 = .ok (.iload_n 3, 1) := by decide +kernel
theorem dX8_ruleNow_75 : decode cX8_ruleNow 75 = .ok (.iaload, 1) := by decide +kernel
theorem dX8_ruleNow_76 : decode cX8_ruleNow 76 = .ok (.aload_n 0, 1) := by decide +kernel
theorem dX8_ruleNow_77 : decode cX8_ruleNow 77 = .ok (.getfield 7, 3) := by decide +kernel
theorem dX8_ruleNow_80 : decode cX8_ruleNow 80 = .ok (.iload 4, 2) := by decide +kernel
theorem dX8_ruleNow_82 : decode cX8_ruleNow 82 = .ok (.iaload, 1) := by decide +kernel
theorem dX8_ruleNow_83 : decode cX8_ruleNow 83 = .ok (.aload_n 0, 1) := by decide +kernel
theorem dX8_ruleNow_84 : decode cX8_ruleNow 84 = .ok (.getfield 13, 3) := by decide +kernel
theorem dX8_ruleNow_87 : decode cX8_ruleNow 87 = .ok (.iload 4, 2) := by decide +kernel
theorem dX8_ruleNow_89 : decode cX8_ruleNow 89 = .ok (.iaload, 1) := by decide +kernel
theorem dX8_ruleNow_90 : decode cX8_ruleNow 90 = .ok (.invokestatic 169, 3) := by decide +kernel
theorem dX8_ruleNow_93 : decode cX8_ruleNow 93 = .ok (.iconst (-1), 1) := by decide +kernel
theorem dX8_ruleNow_94 : decode cX8_ruleNow 94 = .ok (.ixor, 1) := by decide +kernel
theorem dX8_ruleNow_95 : decode cX8_ruleNow 95 = .ok (.iand, 1) := by decide +kernel
theorem dX8_ruleNow_96 : decode cX8_ruleNow 96 = .ok (.invokestatic 172, 3) := by decide +kernel
theorem dX8_ruleNow_99 : decode cX8_ruleNow 99 = .ok (.goto 4, 3) := by decide +kernel
theorem dX8_ruleNow_102 : decode cX8_ruleNow 102 = .ok (.iconst 0, 1) := by decide +kernel
theorem dX8_ruleNow_103 : decode cX8_ruleNow 103 = .ok (.iadd, 1) := by decide +kernel
theorem dX8_ruleNow_104 : decode cX8_ruleNow 104 = .ok (.putfield 98, 3) := by decide +kernel
theorem dX8_ruleNow_107 : decode cX8_ruleNow 107 = .ok (.aload_n 0, 1) := by decide +kernel
theorem dX8_ruleNow_108 : decode cX8_ruleNow 108 = .ok (.iload_n 2, 1) := by decide +kernel
theorem dX8_ruleNow_109 : decode cX8_ruleNow 109 = .ok (.iload 7, 2) := by decide +kernel
theorem dX8_ruleNow_111 : decode cX8_ruleNow 111 = .ok (.iload 6, 2) := by decide +kernel
theorem dX8_ruleNow_113 : decode cX8_ruleNow 113 = .ok (.aload_n 0, 1) := by decide +kernel
theorem dX8_ruleNow_114 : decode cX8_ruleNow 114 = .ok (.getfield 16, 3) := by decide +kernel
theorem dX8_ruleNow_117 : decode cX8_ruleNow 117 = .ok (.iload_n 3, 1) := by decide +kernel
theorem dX8_ruleNow_118 : decode cX8_ruleNow 118 = .ok (.iaload, 1) := by decide +kernel
theorem dX8_ruleNow_119 : decode cX8_ruleNow 119 = .ok (.aload_n 0, 1) := by decide +kernel
theorem dX8_ruleNow_120 : decode cX8_ruleNow 120 = .ok (.getfield 16, 3) := by decide +kernel
theorem dX8_ruleNow_123 : decode cX8_ruleNow 123 = .ok (.iload 4, 2) := by decide +kernel
theorem dX8_ruleNow_125 : decode cX8_ruleNow 125 = .ok (.iaload, 1) := by decide +kernel
theorem dX8_ruleNow_126 : decode cX8_ruleNow 126 = .ok (.ior, 1) := by decide +kernel
theorem dX8_ruleNow_127 : decode cX8_ruleNow 127 = .ok (.invokevirtual 128, 3) := by decide +kernel
theorem dX8_ruleNow_130 : decode cX8_ruleNow 130 = .ok (.ireturn, 1) := by decide +kernel
set_option maxRecDepth 20000 in
theorem ggX8_rule_X8_isRegister : GoodIn wsX8_rule wsX8_isRegister := goodIn_r _ [7, 8, 9, 10, 6, 11] (by decide +kernel) (by decide +kernel)
set_option maxRecDepth 20000 in
theorem gX8_rule_X8_isRegister : GoodIn wsX8_rule (va_wsS RX8 119 yX8_isRegister wsX8_isRegister) := goodIn_app (goodIn_of _ (by decide +kernel)) ggX8_rule_X8_isRegister
set_option maxRecDepth 20000 in
theorem ggX8_rule_X8_in : GoodIn wsX8_rule wsX8_in := goodIn_r _ [11] (by decide +kernel) (by decide +kernel)
set_option maxRecDepth 20000 in
theorem gX8_rule_X8_in : GoodIn wsX8_rule (va_wsS RX8 77 yX8_in wsX8_in) := goodIn_app (goodIn_of _ (by decide +kernel)) ggX8_rule_X8_in
set_option maxRecDepth 20000 in
theorem ggX8_rule_X8_ruleNow : GoodIn wsX8_rule wsX8_ruleNow := goodIn_r _ [15, 16, 17, 18, 19, 20, 21, 6, 22, 23, 24, 25, 26, 27, 28, 29, 30, 31, 32, 33, 34, 35, 36, 37, 38, 39, 40, 41, 42, 43, 44, 56, 57, 58, 59, 60, 61, 62, 63, 64, 65, 66, 67, 68, 69, 70, 71, 72, 73, 74, 75, 76, 77, 78, 79, 80, 81, 82, 83] (by decide +kernel) (by decide +kernel)
set_option maxRecDepth 20000 in
theorem gX8_rule_X8_ruleNow : GoodIn wsX8_rule (wsV RX8 177 RX8 yX8_ruleNow wsX8_ruleNow) := goodIn_app (goodIn_of _ (by decide +kernel)) ggX8_rule_X8_ruleNow
set_option maxRecDepth 20000 in
theorem ggX8_rule_X8_tick : GoodIn wsX8_rule wsX8_tick := goodIn_r _ [48, 49, 50, 51, 52, 53, 54, 55, 56, 57, 58, 59, 60, 61, 62, 63, 64, 65, 66, 67, 68, 69, 70, 71, 72, 73, 74, 75, 76, 77, 78, 79, 80, 81, 82, 83] (by decide +kernel) (by decide +kernel)
set_option maxRecDepth 20000 in
theorem gX8_rule_X8_tick : GoodIn wsX8_rule (wsV RX8 132 RX8 yX8_tick wsX8_tick) := goodIn_app (goodIn_of _ (by decide +kernel)) ggX8_rule_X8_tick
theorem dX8_rule_0 : decode cX8_rule 0 = .ok (.iload_n 2, 1) := by decide +kernel
theorem dX8_rule_1 : decode cX8_rule 1 = .ok (.invokestatic 119, 3) := by decide +kernel
theorem dX8_rule_4 : decode cX8_rule 4 = .ok (.ifCond .eq 18, 3) := by decide +kernel
theorem dX8_rule_7 : decode cX8_rule 7 = .ok (.iload_n 3, 1) := by decide +kernel
theorem dX8_rule_8 : decode cX8_rule 8 = .ok (.invokestatic 119, 3) := by decide +kernel
theorem dX8_rule_11 : decode cX8_rule 11 = .ok (.ifCond .eq 11, 3) := by decide +kernel
theorem dX8_rule_14 : decode cX8_rule 14 = .ok (.iload 4, 2) := by decide +kernel
theorem dX8_rule_16 : decode cX8_rule 16 = .ok (.invokestatic 119, 3) := by decide +kernel
theorem dX8_rule_19 : decode cX8_rule 19 = .ok (.ifCond .ne 6, 3) := by decide +kernel
theorem dX8_rule_22 : decode cX8_rule 22 = .ok (.ldc 123, 2) := by decide +kernel
theorem dX8_rule_24 : decode cX8_rule 24 = .ok (.ireturn, 1) := by decide +kernel
theorem dX8_rule_25 : decode cX8_rule 25 = .ok (.iload_n 1, 1) := by decide +kernel
theorem dX8_rule_26 : decode cX8_rule 26 = .ok (.i2l, 1) := by decide +kernel
theorem dX8_rule_27 : decode cX8_rule 27 = .ok (.lconst 0, 1) := by decide +kernel
theorem dX8_rule_28 : decode cX8_rule 28 = .ok (.ldc2_w 175, 3) := by decide +kernel
theorem dX8_rule_31 : decode cX8_rule 31 = .ok (.invokestatic 77, 3) := by decide +kernel
theorem dX8_rule_34 : decode cX8_rule 34 = .ok (.ifCond .ne 6, 3) := by decide +kernel
theorem dX8_rule_37 : decode cX8_rule 37 = .ok (.ldc 127, 2) := by decide +kernel
theorem dX8_rule_39 : decode cX8_rule 39 = .ok (.ireturn, 1) := by decide +kernel
theorem dX8_rule_40 : decode cX8_rule 40 = .ok (.aload_n 0, 1) := by decide +kernel
theorem dX8_rule_41 : decode cX8_rule 41 = .ok (.iconst 4, 1) := by decide +kernel
theorem dX8_rule_42 : decode cX8_rule 42 = .ok (.aload_n 0, 1) := by decide +kernel
theorem dX8_rule_43 : decode cX8_rule 43 = .ok (.iload_n 1, 1) := by decide +kernel
theorem dX8_rule_44 : decode cX8_rule 44 = .ok (.iload_n 2, 1) := by decide +kernel
theorem dX8_rule_45 : decode cX8_rule 45 = .ok (.iload_n 3, 1) := by decide +kernel
theorem dX8_rule_46 : decode cX8_rule 46 = .ok (.iload 4, 2) := by decide +kernel
theorem dX8_rule_48 : decode cX8_rule 48 = .ok (.iconst 1, 1) := by decide +kernel
theorem dX8_rule_49 : decode cX8_rule 49 = .ok (.invokevirtual 177, 3) := by decide +kernel
theorem dX8_rule_52 : decode cX8_rule 52 = .ok (.invokevirtual 132, 3) := by decide +kernel
theorem dX8_rule_55 : decode cX8_rule 55 = .ok (.ireturn, 1) := by decide +kernel
theorem dX8_isDecided_0 : decode cX8_isDecided 0 = .ok (.aload_n 0, 1) := by decide +kernel
theorem dX8_isDecided_1 : decode cX8_isDecided 1 = .ok (.getfield 13, 3) := by decide +kernel
theorem dX8_isDecided_4 : decode cX8_isDecided 4 = .ok (.iload_n 1, 1) := by decide +kernel
theorem dX8_isDecided_5 : decode cX8_isDecided 5 = .ok (.iaload, 1) := by decide +kernel
theorem dX8_isDecided_6 : decode cX8_isDecided 6 = .ok (.ifCond .eq 21, 3) := by decide +kernel
theorem dX8_isDecided_9 : decode cX8_isDecided 9 = .ok (.aload_n 0, 1) := by decide +kernel
theorem dX8_isDecided_10 : decode cX8_isDecided 10 = .ok (.getfield 7, 3) := by decide +kernel
theorem dX8_isDecided_13 : decode cX8_isDecided 13 = .ok (.iload_n 1, 1) := by decide +kernel
theorem dX8_isDecided_14 : decode cX8_isDecided 14 = .ok (.iaload, 1) := by decide +kernel
theorem dX8_isDecided_15 : decode cX8_isDecided 15 = .ok (.aload_n 0, 1) := by decide +kernel
theorem dX8_isDecided_16 : decode cX8_isDecided 16 = .ok (.getfield 13, 3) := by decide +kernel
theorem dX8_isDecided_19 : decode cX8_isDecided 19 = .ok (.iload_n 1, 1) := by decide +kernel
theorem dX8_isDecided_20 : decode cX8_isDecided 20 = .ok (.iaload, 1) := by decide +kernel
theorem dX8_isDecided_21 : decode cX8_isDecided 21 = .ok (.iconst (-1), 1) := by decide +kernel
theorem dX8_isDecided_22 : decode cX8_isDecided 22 = .ok (.ixor, 1) := by decide +kernel
theorem dX8_isDecided_23 : decode cX8_isDecided 23 = .ok (.iand, 1) := by decide +kernel
theorem dX8_isDecided_24 : decode cX8_isDecided 24 = .ok (.ifCond .eq 7, 3) := by decide +kernel
theorem dX8_isDecided_27 : decode cX8_isDecided 27 = .ok (.iconst 1, 1) := by decide +kernel
theorem dX8_isDecided_28 : decode cX8_isDecided 28 = .ok (.goto 4, 3) := by decide +kernel
theorem dX8_isDecided_31 : decode cX8_isDecided 31 = .ok (.iconst 0, 1) := by decide +kernel
theorem dX8_isDecided_32 : decode cX8_isDecided 32 = .ok (.ireturn, 1) := by decide +kernel
set_option maxRecDepth 20000 in
theorem ggX8_decideNow_X8_isDecided : GoodIn wsX8_decideNow wsX8_isDecided := goodIn_r _ [7, 8, 2, 18, 19, 20, 21, 22, 23, 24, 25, 26, 27, 28, 29, 30, 31, 32, 33, 34, 35, 36, 37, 38, 39, 40, 41, 42, 43, 44, 45] (by decide +kernel) (by decide +kernel)
set_option maxRecDepth 20000 in
theorem gX8_decideNow_X8_isDecided : GoodIn wsX8_decideNow (wsV RX8 181 RX8 yX8_isDecided wsX8_isDecided) := goodIn_app (goodIn_of _ (by decide +kernel)) ggX8_decideNow_X8_isDecided
set_option maxRecDepth 20000 in
theorem ggX8_decideNow_X8_cries : GoodIn wsX8_decideNow wsX8_cries := goodIn_r _ [12, 13, 14, 15, 16, 17, 18, 19, 20, 21, 22, 23, 24, 25, 26, 27, 28, 29, 30, 31, 32, 33, 34, 35, 36, 37, 38, 39, 40, 41, 42, 43, 44, 45] (by decide +kernel) (by decide +kernel)
set_option maxRecDepth 20000 in
theorem gX8_decideNow_X8_cries : GoodIn wsX8_decideNow (wsV RX8 139 RX8 yX8_cries wsX8_cries) := goodIn_app (goodIn_of _ (by decide +kernel)) ggX8_decideNow_X8_cries
theorem dX8_decideNow_0 : decode cX8_decideNow 0 = .ok (.aload_n 0, 1) := by decide +kernel
theorem dX8_decideNow_1 : decode cX8_decideNow 1 = .ok (.iload_n 1, 1) := by decide +kernel
theorem dX8_decideNow_2 : decode cX8_decideNow 2 = .ok (.invokevirtual 181, 3) := by decide +kernel
theorem dX8_decideNow_5 : decode cX8_decideNow 5 = .ok (.ifCond .ne 14, 3) := by decide +kernel
theorem dX8_decideNow_8 : decode cX8_decideNow 8 = .ok (.aload_n 0, 1) := by decide +kernel
theorem dX8_decideNow_9 : decode cX8_decideNow 9 = .ok (.iconst 0, 1) := by decide +kernel
theorem dX8_decideNow_10 : decode cX8_decideNow 10 = .ok (.aload_n 0, 1) := by decide +kernel
theorem dX8_decideNow_11 : decode cX8_decideNow 11 = .ok (.getfield 16, 3) := by decide +kernel
theorem dX8_decideNow_14 : decode cX8_decideNow 14 = .ok (.iload_n 1, 1) := by decide +kernel
theorem dX8_decideNow_15 : decode cX8_decideNow 15 = .ok (.iaload, 1) := by decide +kernel
theorem dX8_decideNow_16 : decode cX8_decideNow 16 = .ok (.invokevirtual 139, 3) := by decide +kernel
theorem dX8_decideNow_19 : decode cX8_decideNow 19 = .ok (.aload_n 0, 1) := by decide +kernel
theorem dX8_decideNow_20 : decode cX8_decideNow 20 = .ok (.getfield 7, 3) := by decide +kernel
theorem dX8_decideNow_23 : decode cX8_decideNow 23 = .ok (.iload_n 1, 1) := by decide +kernel
theorem dX8_decideNow_24 : decode cX8_decideNow 24 = .ok (.iaload, 1) := by decide +kernel
theorem dX8_decideNow_25 : decode cX8_decideNow 25 = .ok (.ifCond .ne 7, 3) := by decide +kernel
theorem dX8_decideNow_28 : decode cX8_decideNow 28 = .ok (.iconst 0, 1) := by decide +kernel
theorem dX8_decideNow_29 : decode cX8_decideNow 29 = .ok (.goto 4, 3) := by decide +kernel
theorem dX8_decideNow_32 : decode cX8_decideNow 32 = .ok (.iconst 1, 1) := by decide +kernel
theorem dX8_decideNow_33 : decode cX8_decideNow 33 = .ok (.ireturn, 1) := by decide +kernel
set_option maxRecDepth 20000 in
theorem ggX8_decide_X8_isRegister : GoodIn wsX8_decide wsX8_isRegister := goodIn_r _ [5, 6, 7, 8, 4, 9] (by decide +kernel) (by decide +kernel)
set_option maxRecDepth 20000 in
theorem gX8_decide_X8_isRegister : GoodIn wsX8_decide (va_wsS RX8 119 yX8_isRegister wsX8_isRegister) := goodIn_app (goodIn_of _ (by decide +kernel)) ggX8_decide_X8_isRegister
set_option maxRecDepth 20000 in
theorem ggX8_decide_X8_decideNow : GoodIn wsX8_decide wsX8_decideNow := goodIn_r _ [13, 14, 15, 16, 17, 18, 4, 19, 20, 21, 22, 23, 24, 25, 26, 27, 28, 29, 40, 41, 42, 43, 44, 45, 46, 47, 48, 49, 50, 51, 52, 53, 54, 55, 56, 57, 58, 59, 60, 61, 62, 63, 64, 65, 66, 67] (by decide +kernel) (by decide +kernel)
set_option maxRecDepth 20000 in
theorem gX8_decide_X8_decideNow : GoodIn wsX8_decide (wsV RX8 184 RX8 yX8_decideNow wsX8_decideNow) := goodIn_app (goodIn_of _ (by decide +kernel)) ggX8_decide_X8_decideNow
set_option maxRecDepth 20000 in
theorem ggX8_decide_X8_tick : GoodIn wsX8_decide wsX8_tick := goodIn_r _ [33, 34, 35, 36, 28, 37, 38, 39, 40, 41, 42, 43, 44, 45, 46, 47, 48, 49, 50, 51, 52, 53, 54, 55, 56, 57, 58, 59, 60, 61, 62, 63, 64, 65, 66, 67] (by decide +kernel) (by decide +kernel)
set_option maxRecDepth 20000 in
theorem gX8_decide_X8_tick : GoodIn wsX8_decide (wsV RX8 132 RX8 yX8_tick wsX8_tick) := goodIn_app (goodIn_of _ (by decide +kernel)) ggX8_decide_X8_tick
theorem dX8_decide_0 : decode cX8_decide 0 = .ok (.iload_n 1, 1) := by decide +kernel
theorem dX8_decide_1 : decode cX8_decide 1 = .ok (.invokestatic 119, 3) := by decide +kernel
theorem dX8_decide_4 : decode cX8_decide 4 = .ok (.ifCond .eq 16, 3) := by decide +kernel
theorem dX8_decide_7 : decode cX8_decide 7 = .ok (.aload_n 0, 1) := by decide +kernel
theorem dX8_decide_8 : decode cX8_decide 8 = .ok (.iconst 5, 1) := by decide +kernel
theorem dX8_decide_9 : decode cX8_decide 9 = .ok (.aload_n 0, 1) := by decide +kernel
theorem dX8_decide_10 : decode cX8_decide 10 = .ok (.iload_n 1, 1) := by decide +kernel
theorem dX8_decide_11 : decode cX8_decide 11 = .ok (.invokevirtual 184, 3) := by decide +kernel
theorem dX8_decide_14 : decode cX8_decide 14 = .ok (.invokevirtual 132, 3) := by decide +kernel
theorem dX8_decide_17 : decode cX8_decide 17 = .ok (.goto 5, 3) := by decide +kernel
theorem dX8_decide_20 : decode cX8_decide 20 = .ok (.ldc 123, 2) := by decide +kernel
theorem dX8_decide_22 : decode cX8_decide 22 = .ok (.ireturn, 1) := by decide +kernel
theorem dX8_letOnes_0 : decode cX8_letOnes 0 = .ok (.iconst 0, 1) := by decide +kernel
theorem dX8_letOnes_1 : decode cX8_letOnes 1 = .ok (.istore_n 1, 1) := by decide +kernel
theorem dX8_letOnes_2 : decode cX8_letOnes 2 = .ok (.iconst 0, 1) := by decide +kernel
theorem dX8_letOnes_3 : decode cX8_letOnes 3 = .ok (.istore_n 2, 1) := by decide +kernel
theorem dX8_letOnes_4 : decode cX8_letOnes 4 = .ok (.iload_n 2, 1) := by decide +kernel
theorem dX8_letOnes_5 : decode cX8_letOnes 5 = .ok (.aload_n 0, 1) := by decide +kernel
theorem dX8_letOnes_6 : decode cX8_letOnes 6 = .ok (.getfield 83, 3) := by decide +kernel
theorem dX8_letOnes_9 : decode cX8_letOnes 9 = .ok (.if_icmp .ge 28, 3) := by decide +kernel
theorem dX8_letOnes_12 : decode cX8_letOnes 12 = .ok (.iload_n 1, 1) := by decide +kernel
theorem dX8_letOnes_13 : decode cX8_letOnes 13 = .ok (.aload_n 0, 1) := by decide +kernel
theorem dX8_letOnes_14 : decode cX8_letOnes 14 = .ok (.getfield 32, 3) := by decide +kernel
theorem dX8_letOnes_17 : decode cX8_letOnes 17 = .ok (.iload_n 2, 1) := by decide +kernel
theorem dX8_letOnes_18 : decode cX8_letOnes 18 = .ok (.baload, 1) := by decide +kernel
theorem dX8_letOnes_19 : decode cX8_letOnes 19 = .ok (.ifCond .eq 9, 3) := by decide +kernel
theorem dX8_letOnes_22 : decode cX8_letOnes 22 = .ok (.iconst 1, 1) := by decide +kernel
theorem dX8_letOnes_23 : decode cX8_letOnes 23 = .ok (.iload_n 2, 1) := by decide +kernel
theorem dX8_letOnes_24 : decode cX8_letOnes 24 = .ok (.ishl, 1) := by decide +kernel
theorem dX8_letOnes_25 : decode cX8_letOnes 25 = .ok (.goto 4, 3) := by decide +kernel
theorem dX8_letOnes_28 : decode cX8_letOnes 28 = .ok (.iconst 0, 1) := by decide +kernel
theorem dX8_letOnes_29 : decode cX8_letOnes 29 = .ok (.ior, 1) := by decide +kernel
theorem dX8_letOnes_30 : decode cX8_letOnes 30 = .ok (.istore_n 1, 1) := by decide +kernel
theorem dX8_letOnes_31 : decode cX8_letOnes 31 = .ok (.iinc 2 1, 3) := by decide +kernel
theorem dX8_letOnes_34 : decode cX8_letOnes 34 = .ok (.goto (-30), 3) := by decide +kernel
theorem dX8_letOnes_37 : decode cX8_letOnes 37 = .ok (.iload_n 1, 1) := by decide +kernel
theorem dX8_letOnes_38 : decode cX8_letOnes 38 = .ok (.ireturn, 1) := by decide +kernel
set_option maxRecDepth 20000 in
theorem ggX8_let_X8_in : GoodIn wsX8_let wsX8_in := goodIn_r _ [17] (by decide +kernel) (by decide +kernel)
set_option maxRecDepth 20000 in
theorem gX8_let_X8_in : GoodIn wsX8_let (va_wsS RX8 77 yX8_in wsX8_in) := goodIn_app (goodIn_of _ (by decide +kernel)) ggX8_let_X8_in
set_option maxRecDepth 20000 in
theorem ggX8_let_X8_lotBy : GoodIn wsX8_let wsX8_lotBy := goodIn_r _ [21, 22, 23, 24, 36, 37, 38, 39, 40, 41, 42, 43, 44, 45, 46, 47, 48, 49, 50, 51, 52, 53, 54, 55, 56, 57, 58, 59, 60, 61, 62, 63] (by decide +kernel) (by decide +kernel)
set_option maxRecDepth 20000 in
theorem gX8_let_X8_lotBy : GoodIn wsX8_let (wsV RX8 189 RX8 yX8_lotBy wsX8_lotBy) := goodIn_app (goodIn_of _ (by decide +kernel)) ggX8_let_X8_lotBy
set_option maxRecDepth 20000 in
theorem ggX8_let_X8_tick : GoodIn wsX8_let wsX8_tick := goodIn_r _ [28, 29, 30, 31, 32, 33, 34, 35, 36, 37, 38, 39, 40, 41, 42, 43, 44, 45, 46, 47, 48, 49, 50, 51, 52, 53, 54, 55, 56, 57, 58, 59, 60, 61, 62, 63] (by decide +kernel) (by decide +kernel)
set_option maxRecDepth 20000 in
theorem gX8_let_X8_tick : GoodIn wsX8_let (wsV RX8 132 RX8 yX8_tick wsX8_tick) := goodIn_app (goodIn_of _ (by decide +kernel)) ggX8_let_X8_tick
theorem dX8_let_0 : decode cX8_let 0 = .ok (.iload_n 2, 1) := by decide +kernel
theorem dX8_let_1 : decode cX8_let 1 = .ok (.i2l, 1) := by decide +kernel
theorem dX8_let_2 : decode cX8_let 2 = .ok (.lconst 1, 1) := by decide +kernel
theorem dX8_let_3 : decode cX8_let 3 = .ok (.ldc2_w 152, 3) := by decide +kernel
theorem dX8_let_6 : decode cX8_let 6 = .ok (.invokestatic 77, 3) := by decide +kernel
theorem dX8_let_9 : decode cX8_let 9 = .ok (.ifCond .eq 17, 3) := by decide +kernel
theorem dX8_let_12 : decode cX8_let 12 = .ok (.iload_n 1, 1) := by decide +kernel
theorem dX8_let_13 : decode cX8_let 13 = .ok (.i2l, 1) := by decide +kernel
theorem dX8_let_14 : decode cX8_let 14 = .ok (.lconst 0, 1) := by decide +kernel
theorem dX8_let_15 : decode cX8_let 15 = .ok (.bipush 32, 2) := by decide +kernel
theorem dX8_let_17 : decode cX8_let 17 = .ok (.iload_n 2, 1) := by decide +kernel
theorem dX8_let_18 : decode cX8_let 18 = .ok (.isub, 1) := by decide +kernel
theorem dX8_let_19 : decode cX8_let 19 = .ok (.i2l, 1) := by decide +kernel
theorem dX8_let_20 : decode cX8_let 20 = .ok (.invokestatic 77, 3) := by decide +kernel
theorem dX8_let_23 : decode cX8_let 23 = .ok (.ifCond .ne 6, 3) := by decide +kernel
theorem dX8_let_26 : decode cX8_let 26 = .ok (.ldc 127, 2) := by decide +kernel
theorem dX8_let_28 : decode cX8_let 28 = .ok (.ireturn, 1) := by decide +kernel
theorem dX8_let_29 : decode cX8_let 29 = .ok (.iload_n 1, 1) := by decide +kernel
