theorem dX7_forget_0 : decode cX7_forget 0 = .ok (.iload_n 1, 1) := by decide +kernel
theorem dX7_forget_1 : decode cX7_forget 1 = .ok (.invokestatic 57, 3) := by decide +kernel
theorem dX7_forget_4 : decode cX7_forget 4 = .ok (.ifCond .eq 14, 3) := by decide +kernel
theorem dX7_forget_7 : decode cX7_forget 7 = .ok (.aload_n 0, 1) := by decide +kernel
theorem dX7_forget_8 : decode cX7_forget 8 = .ok (.getfield 25, 3) := by decide +kernel
theorem dX7_forget_11 : decode cX7_forget 11 = .ok (.iload_n 3, 1) := by decide +kernel
theorem dX7_forget_12 : decode cX7_forget 12 = .ok (.invokevirtual 88, 3) := by decide +kernel
theorem dX7_forget_15 : decode cX7_forget 15 = .ok (.ifCond .ne 6, 3) := by decide +kernel
theorem dX7_forget_18 : decode cX7_forget 18 = .ok (.ldc 61, 2) := by decide +kernel
theorem dX7_forget_20 : decode cX7_forget 20 = .ok (.ireturn, 1) := by decide +kernel
theorem dX7_forget_21 : decode cX7_forget 21 = .ok (.iload_n 2, 1) := by decide +kernel
theorem dX7_forget_22 : decode cX7_forget 22 = .ok (.iconst 1, 1) := by decide +kernel
theorem dX7_forget_23 : decode cX7_forget 23 = .ok (.if_icmp .lt 10, 3) := by decide +kernel
theorem dX7_forget_26 : decode cX7_forget 26 = .ok (.iload_n 2, 1) := by decide +kernel
theorem dX7_forget_27 : decode cX7_forget 27 = .ok (.sipush 255, 3) := by decide +kernel
theorem dX7_forget_30 : decode cX7_forget 30 = .ok (.if_icmp .le 6, 3) := by decide +kernel
theorem dX7_forget_33 : decode cX7_forget 33 = .ok (.ldc 65, 2) := by decide +kernel
theorem dX7_forget_35 : decode cX7_forget 35 = .ok (.ireturn, 1) := by decide +kernel
theorem dX7_forget_36 : decode cX7_forget 36 = .ok (.aload_n 0, 1) := by decide +kernel
theorem dX7_forget_37 : decode cX7_forget 37 = .ok (.getfield 12, 3) := by decide +kernel
theorem dX7_forget_40 : decode cX7_forget 40 = .ok (.getfield 66, 3) := by decide +kernel
theorem dX7_forget_43 : decode cX7_forget 43 = .ok (.iload_n 1, 1) := by decide +kernel
theorem dX7_forget_44 : decode cX7_forget 44 = .ok (.iaload, 1) := by decide +kernel
theorem dX7_forget_45 : decode cX7_forget 45 = .ok (.istore 4, 2) := by decide +kernel
theorem dX7_forget_47 : decode cX7_forget 47 = .ok (.iload 4, 2) := by decide +kernel
theorem dX7_forget_49 : decode cX7_forget 49 = .ok (.invokestatic 91, 3) := by decide +kernel
theorem dX7_forget_52 : decode cX7_forget 52 = .ok (.iload_n 2, 1) := by decide +kernel
theorem dX7_forget_53 : decode cX7_forget 53 = .ok (.ior, 1) := by decide +kernel
theorem dX7_forget_54 : decode cX7_forget 54 = .ok (.istore 5, 2) := by decide +kernel
theorem dX7_forget_56 : decode cX7_forget 56 = .ok (.aload_n 0, 1) := by decide +kernel
theorem dX7_forget_57 : decode cX7_forget 57 = .ok (.iload_n 1, 1) := by decide +kernel
theorem dX7_forget_58 : decode cX7_forget 58 = .ok (.iload 4, 2) := by decide +kernel
theorem dX7_forget_60 : decode cX7_forget 60 = .ok (.invokestatic 70, 3) := by decide +kernel
theorem dX7_forget_63 : decode cX7_forget 63 = .ok (.iload 5, 2) := by decide +kernel
theorem dX7_forget_65 : decode cX7_forget 65 = .ok (.iload 4, 2) := by decide +kernel
theorem dX7_forget_67 : decode cX7_forget 67 = .ok (.invokestatic 94, 3) := by decide +kernel
theorem dX7_forget_70 : decode cX7_forget 70 = .ok (.iconst 1, 1) := by decide +kernel
theorem dX7_forget_71 : decode cX7_forget 71 = .ok (.iload_n 3, 1) := by decide +kernel
theorem dX7_forget_72 : decode cX7_forget 72 = .ok (.ishl, 1) := by decide +kernel
theorem dX7_forget_73 : decode cX7_forget 73 = .ok (.ior, 1) := by decide +kernel
theorem dX7_forget_74 : decode cX7_forget 74 = .ok (.invokestatic 76, 3) := by decide +kernel
theorem dX7_forget_77 : decode cX7_forget 77 = .ok (.invokevirtual 80, 3) := by decide +kernel
theorem dX7_forget_80 : decode cX7_forget 80 = .ok (.aload_n 0, 1) := by decide +kernel
theorem dX7_forget_81 : decode cX7_forget 81 = .ok (.bipush 11, 2) := by decide +kernel
theorem dX7_forget_83 : decode cX7_forget 83 = .ok (.iload 5, 2) := by decide +kernel
theorem dX7_forget_85 : decode cX7_forget 85 = .ok (.invokevirtual 84, 3) := by decide +kernel
theorem dX7_forget_88 : decode cX7_forget 88 = .ok (.ireturn, 1) := by decide +kernel
set_option maxRecDepth 20000 in
theorem ggX7_copy_X7_isRegister : GoodIn wsX7_copy wsX7_isRegister := goodIn_r _ [7] (by decide +kernel) (by decide +kernel)
set_option maxRecDepth 20000 in
theorem gX7_copy_X7_isRegister : GoodIn wsX7_copy (va_wsS RX7 57 yX7_isRegister wsX7_isRegister) := goodIn_app (goodIn_of _ (by decide +kernel)) ggX7_copy_X7_isRegister
set_option maxRecDepth 20000 in
theorem ggX7_copy_X7_changeRegister : GoodIn wsX7_copy wsX7_changeRegister := goodIn_r _ [11, 12, 2, 3, 13, 14, 15, 16, 17, 18, 19, 20, 21, 22, 23, 24, 25, 53, 54, 55, 56, 57, 58, 59, 60, 61, 62, 63, 64, 65, 66, 67, 68, 69, 70] (by decide +kernel) (by decide +kernel)
set_option maxRecDepth 20000 in
theorem gX7_copy_X7_changeRegister : GoodIn wsX7_copy (wsV RX7 80 RX7 yX7_changeRegister wsX7_changeRegister) := goodIn_app (goodIn_of _ (by decide +kernel)) ggX7_copy_X7_changeRegister
set_option maxRecDepth 20000 in
theorem ggX7_copy_X7_shadowOfRegister : GoodIn wsX7_copy wsX7_shadowOfRegister := goodIn_r _ [29, 2, 3, 30, 31, 32, 33, 53, 54, 55, 56, 57, 58, 59, 60, 61, 62, 63, 64, 65, 66] (by decide +kernel) (by decide +kernel)
set_option maxRecDepth 20000 in
theorem gX7_copy_X7_shadowOfRegister : GoodIn wsX7_copy (wsV RX7 97 RX7 yX7_shadowOfRegister wsX7_shadowOfRegister) := goodIn_app (goodIn_of _ (by decide +kernel)) ggX7_copy_X7_shadowOfRegister
set_option maxRecDepth 20000 in
theorem ggX7_copy_X7_tick : GoodIn wsX7_copy wsX7_tick := goodIn_r _ [37, 38, 39, 40, 41, 42, 43, 44, 45, 46, 47, 48, 49, 50, 51, 52, 23, 24, 25, 53, 54, 55, 56, 57, 58, 59, 60, 61, 62, 63, 64, 71, 72, 73, 74, 75] (by decide +kernel) (by decide +kernel)
set_option maxRecDepth 20000 in
theorem gX7_copy_X7_tick : GoodIn wsX7_copy (wsV RX7 84 RX7 yX7_tick wsX7_tick) := goodIn_app (goodIn_of _ (by decide +kernel)) ggX7_copy_X7_tick
theorem dX7_copy_0 : decode cX7_copy 0 = .ok (.iload_n 1, 1) := by decide +kernel
theorem dX7_copy_1 : decode cX7_copy 1 = .ok (.invokestatic 57, 3) := by decide +kernel
theorem dX7_copy_4 : decode cX7_copy 4 = .ok (.ifCond .eq 10, 3) := by decide +kernel
theorem dX7_copy_7 : decode cX7_copy 7 = .ok (.iload_n 2, 1) := by decide +kernel
theorem dX7_copy_8 : decode cX7_copy 8 = .ok (.invokestatic 57, 3) := by decide +kernel
theorem dX7_copy_11 : decode cX7_copy 11 = .ok (.ifCond .ne 6, 3) := by decide +kernel
theorem dX7_copy_14 : decode cX7_copy 14 = .ok (.ldc 61, 2) := by decide +kernel
theorem dX7_copy_16 : decode cX7_copy 16 = .ok (.ireturn, 1) := by decide +kernel
theorem dX7_copy_17 : decode cX7_copy 17 = .ok (.aload_n 0, 1) := by decide +kernel
theorem dX7_copy_18 : decode cX7_copy 18 = .ok (.iload_n 1, 1) := by decide +kernel
theorem dX7_copy_19 : decode cX7_copy 19 = .ok (.aload_n 0, 1) := by decide +kernel
theorem dX7_copy_20 : decode cX7_copy 20 = .ok (.getfield 12, 3) := by decide +kernel
theorem dX7_copy_23 : decode cX7_copy 23 = .ok (.getfield 66, 3) := by decide +kernel
theorem dX7_copy_26 : decode cX7_copy 26 = .ok (.iload_n 2, 1) := by decide +kernel
theorem dX7_copy_27 : decode cX7_copy 27 = .ok (.iaload, 1) := by decide +kernel
theorem dX7_copy_28 : decode cX7_copy 28 = .ok (.invokevirtual 80, 3) := by decide +kernel
theorem dX7_copy_31 : decode cX7_copy 31 = .ok (.aload_n 0, 1) := by decide +kernel
theorem dX7_copy_32 : decode cX7_copy 32 = .ok (.iconst 1, 1) := by decide +kernel
theorem dX7_copy_33 : decode cX7_copy 33 = .ok (.aload_n 0, 1) := by decide +kernel
theorem dX7_copy_34 : decode cX7_copy 34 = .ok (.iload_n 1, 1) := by decide +kernel
theorem dX7_copy_35 : decode cX7_copy 35 = .ok (.invokevirtual 97, 3) := by decide +kernel
theorem dX7_copy_38 : decode cX7_copy 38 = .ok (.invokevirtual 84, 3) := by decide +kernel
theorem dX7_copy_41 : decode cX7_copy 41 = .ok (.ireturn, 1) := by decide +kernel
set_option maxRecDepth 20000 in
theorem ggX7_load_X7_isRegister : GoodIn wsX7_load wsX7_isRegister := goodIn_r _ [5] (by decide +kernel) (by decide +kernel)
set_option maxRecDepth 20000 in
theorem gX7_load_X7_isRegister : GoodIn wsX7_load (va_wsS RX7 57 yX7_isRegister wsX7_isRegister) := goodIn_app (goodIn_of _ (by decide +kernel)) ggX7_load_X7_isRegister
set_option maxRecDepth 20000 in
theorem ggX7_load_X7_isOctet : GoodIn wsX7_load wsX7_isOctet := goodIn_r _ [8] (by decide +kernel) (by decide +kernel)
set_option maxRecDepth 20000 in
theorem gX7_load_X7_isOctet : GoodIn wsX7_load (va_wsS RX7 100 yX7_isOctet wsX7_isOctet) := goodIn_app (goodIn_of _ (by decide +kernel)) ggX7_load_X7_isOctet
set_option maxRecDepth 20000 in
theorem ggX7_load_X7_readOctet : GoodIn wsX7_load wsX7_readOctet := goodIn_r _ [12, 13, 14, 15, 16, 17, 18, 19, 20, 21, 22, 23, 24, 25, 26, 27, 28, 29, 30, 31, 32, 33, 34, 79, 80, 81, 82, 83, 84, 85, 86, 87, 88, 89, 90, 91, 92, 93, 94, 95, 96, 97, 98, 99, 100, 101, 102] (by decide +kernel) (by decide +kernel)
set_option maxRecDepth 20000 in
theorem gX7_load_X7_readOctet : GoodIn wsX7_load (wsV RX7 103 RX7 yX7_readOctet wsX7_readOctet) := goodIn_app (goodIn_of _ (by decide +kernel)) ggX7_load_X7_readOctet
set_option maxRecDepth 20000 in
theorem ggX7_load_X7_changeRegister : GoodIn wsX7_load wsX7_changeRegister := goodIn_r _ [38, 39, 15, 18, 40, 41, 42, 43, 44, 45, 46, 47, 48, 49, 50, 51, 52, 79, 80, 81, 82, 83, 84, 85, 86, 87, 88, 89, 90, 96, 97, 103, 104, 105, 106] (by decide +kernel) (by decide +kernel)
set_option maxRecDepth 20000 in
theorem gX7_load_X7_changeRegister : GoodIn wsX7_load (wsV RX7 80 RX7 yX7_changeRegister wsX7_changeRegister) := goodIn_app (goodIn_of _ (by decide +kernel)) ggX7_load_X7_changeRegister
set_option maxRecDepth 20000 in
theorem ggX7_load_X7_shadowOfRegister : GoodIn wsX7_load wsX7_shadowOfRegister := goodIn_r _ [56, 15, 18, 57, 58, 59, 60, 79, 80, 81, 82, 83, 84, 85, 86, 87, 88, 89, 90, 96, 97] (by decide +kernel) (by decide +kernel)
set_option maxRecDepth 20000 in
theorem gX7_load_X7_shadowOfRegister : GoodIn wsX7_load (wsV RX7 97 RX7 yX7_shadowOfRegister wsX7_shadowOfRegister) := goodIn_app (goodIn_of _ (by decide +kernel)) ggX7_load_X7_shadowOfRegister
set_option maxRecDepth 20000 in
theorem ggX7_load_X7_tick : GoodIn wsX7_load wsX7_tick := goodIn_r _ [64, 65, 17, 66, 67, 68, 69, 70, 71, 72, 73, 74, 75, 76, 77, 78, 50, 51, 52, 79, 80, 81, 82, 83, 84, 85, 86, 87, 88, 89, 90, 107, 108, 109, 110, 111] (by decide +kernel) (by decide +kernel)
set_option maxRecDepth 20000 in
theorem gX7_load_X7_tick : GoodIn wsX7_load (wsV RX7 84 RX7 yX7_tick wsX7_tick) := goodIn_app (goodIn_of _ (by decide +kernel)) ggX7_load_X7_tick
theorem dX7_load_0 : decode cX7_load 0 = .ok (.iload_n 1, 1) := by decide +kernel
theorem dX7_load_1 : decode cX7_load 1 = .ok (.invokestatic 57, 3) := by decide +kernel
theorem dX7_load_4 : decode cX7_load 4 = .ok (.ifCond .eq 10, 3) := by decide +kernel
theorem dX7_load_7 : decode cX7_load 7 = .ok (.iload_n 2, 1) := by decide +kernel
theorem dX7_load_8 : decode cX7_load 8 = .ok (.invokestatic 100, 3) := by decide +kernel
theorem dX7_load_11 : decode cX7_load 11 = .ok (.ifCond .ne 6, 3) := by decide +kernel
theorem dX7_load_14 : decode cX7_load 14 = .ok (.ldc 61, 2) := by decide +kernel
theorem dX7_load_16 : decode cX7_load 16 = .ok (.ireturn, 1) := by decide +kernel
theorem dX7_load_17 : decode cX7_load 17 = .ok (.aload_n 0, 1) := by decide +kernel
theorem dX7_load_18 : decode cX7_load 18 = .ok (.iload_n 1, 1) := by decide +kernel
theorem dX7_load_19 : decode cX7_load 19 = .ok (.aload_n 0, 1) := by decide +kernel
theorem dX7_load_20 : decode cX7_load 20 = .ok (.iload_n 2, 1) := by decide +kernel
theorem dX7_load_21 : decode cX7_load 21 = .ok (.invokevirtual 103, 3) := by decide +kernel
theorem dX7_load_24 : decode cX7_load 24 = .ok (.invokevirtual 80, 3) := by decide +kernel
theorem dX7_load_27 : decode cX7_load 27 = .ok (.aload_n 0, 1) := by decide +kernel
theorem dX7_load_28 : decode cX7_load 28 = .ok (.iconst 2, 1) := by decide +kernel
theorem dX7_load_29 : decode cX7_load 29 = .ok (.aload_n 0, 1) := by decide +kernel
theorem dX7_load_30 : decode cX7_load 30 = .ok (.iload_n 1, 1) := by decide +kernel
theorem dX7_load_31 : decode cX7_load 31 = .ok (.invokevirtual 97, 3) := by decide +kernel
theorem dX7_load_34 : decode cX7_load 34 = .ok (.invokevirtual 84, 3) := by decide +kernel
theorem dX7_load_37 : decode cX7_load 37 = .ok (.ireturn, 1) := by decide +kernel
set_option maxRecDepth 20000 in
theorem ggX7_part_X7_isRegister : GoodIn wsX7_part wsX7_isRegister := goodIn_r _ [6] (by decide +kernel) (by decide +kernel)
set_option maxRecDepth 20000 in
theorem gX7_part_X7_isRegister : GoodIn wsX7_part (va_wsS RX7 57 yX7_isRegister wsX7_isRegister) := goodIn_app (goodIn_of _ (by decide +kernel)) ggX7_part_X7_isRegister
set_option maxRecDepth 20000 in
theorem ggX7_part_X7_isOctet : GoodIn wsX7_part wsX7_isOctet := goodIn_r _ [9] (by decide +kernel) (by decide +kernel)
set_option maxRecDepth 20000 in
theorem gX7_part_X7_isOctet : GoodIn wsX7_part (va_wsS RX7 100 yX7_isOctet wsX7_isOctet) := goodIn_app (goodIn_of _ (by decide +kernel)) ggX7_part_X7_isOctet
set_option maxRecDepth 20000 in
theorem ggX7_part_X7_readOctet : GoodIn wsX7_part wsX7_readOctet := goodIn_r _ [13, 14, 15, 16, 17, 18, 19, 20, 21, 22, 23, 24, 25, 26, 27, 28, 29, 30, 31, 32, 33, 34, 35, 93, 94, 95, 96, 97, 98, 99, 100, 101, 102, 103, 104, 105, 106, 107, 108, 109, 110, 111, 112, 113, 114, 115, 116] (by decide +kernel) (by decide +kernel)
set_option maxRecDepth 20000 in
theorem gX7_part_X7_readOctet : GoodIn wsX7_part (wsV RX7 103 RX7 yX7_readOctet wsX7_readOctet) := goodIn_app (goodIn_of _ (by decide +kernel)) ggX7_part_X7_readOctet
set_option maxRecDepth 20000 in
theorem ggX7_part_X0_partOf : GoodIn wsX7_part wsX0_partOf := goodIn_r _ [39, 40, 41, 38, 42, 43, 44, 45, 46, 47, 48, 49, 50, 51] (by decide +kernel) (by decide +kernel)
set_option maxRecDepth 20000 in
theorem gX7_part_X0_partOf : GoodIn wsX7_part (va_wsS RX7 106 yX0_partOf wsX0_partOf) := goodIn_app (goodIn_of _ (by decide +kernel)) ggX7_part_X0_partOf
set_option maxRecDepth 20000 in
theorem ggX7_part_X7_changeRegister : GoodIn wsX7_part wsX7_changeRegister := goodIn_r _ [55, 56, 16, 19, 57, 58, 59, 60, 61, 62, 63, 64, 65, 66, 67, 68, 69, 93, 94, 95, 96, 97, 98, 99, 100, 101, 102, 103, 104, 110, 111, 117, 118, 119, 120] (by decide +kernel) (by decide +kernel)
set_option maxRecDepth 20000 in
theorem gX7_part_X7_changeRegister : GoodIn wsX7_part (wsV RX7 80 RX7 yX7_changeRegister wsX7_changeRegister) := goodIn_app (goodIn_of _ (by decide +kernel)) ggX7_part_X7_changeRegister
set_option maxRecDepth 20000 in
theorem ggX7_part_X7_shadowOfRegister : GoodIn wsX7_part wsX7_shadowOfRegister := goodIn_r _ [73, 16, 19, 74, 44, 38, 45, 93, 94, 95, 96, 97, 98, 99, 100, 101, 102, 103, 104, 110, 111] (by decide +kernel) (by decide +kernel)
set_option maxRecDepth 20000 in
theorem gX7_part_X7_shadowOfRegister : GoodIn wsX7_part (wsV RX7 97 RX7 yX7_shadowOfRegister wsX7_shadowOfRegister) := goodIn_app (goodIn_of _ (by decide +kernel)) ggX7_part_X7_shadowOfRegister
set_option maxRecDepth 20000 in
theorem ggX7_part_X7_tick : GoodIn wsX7_part wsX7_tick := goodIn_r _ [78, 79, 18, 80, 81, 82, 83, 84, 85, 86, 87, 88, 89, 90, 91, 92, 67, 68, 69, 93, 94, 95, 96, 97, 98, 99, 100, 101, 102, 103, 104, 121, 122, 123, 124, 125] (by decide +kernel) (by decide +kernel)
set_option maxRecDepth 20000 in
theorem gX7_part_X7_tick : GoodIn wsX7_part (wsV RX7 84 RX7 yX7_tick wsX7_tick) := goodIn_app (goodIn_of _ (by decide +kernel)) ggX7_part_X7_tick
theorem dX7_part_0 : decode cX7_part 0 = .ok (.iload_n 1, 1) := by decide +kernel
theorem dX7_part_1 : decode cX7_part 1 = .ok (.invokestatic 57, 3) := by decide +kernel
theorem dX7_part_4 : decode cX7_part 4 = .ok (.ifCond .eq 10, 3) := by decide +kernel
theorem dX7_part_7 : decode cX7_part 7 = .ok (.iload_n 2, 1) := by decide +kernel
theorem dX7_part_8 : decode cX7_part 8 = .ok (.invokestatic 100, 3) := by decide +kernel
theorem dX7_part_11 : decode cX7_part 11 = .ok (.ifCond .ne 6, 3) := by decide +kernel
theorem dX7_part_14 : decode cX7_part 14 = .ok (.ldc 61, 2) := by decide +kernel
theorem dX7_part_16 : decode cX7_part 16 = .ok (.ireturn, 1) := by decide +kernel
theorem dX7_part_17 : decode cX7_part 17 = .ok (.iload 4, 2) := by decide +kernel
theorem dX7_part_19 : decode cX7_part 19 = .ok (.iconst 1, 1) := by decide +kernel
theorem dX7_part_20 : decode cX7_part 20 = .ok (.if_icmp .lt 29, 3) := by decide +kernel
theorem dX7_part_23 : decode cX7_part 23 = .ok (.iload 4, 2) := by decide +kernel
theorem dX7_part_25 : decode cX7_part 25 = .ok (.bipush 8, 2) := by decide +kernel
theorem dX7_part_27 : decode cX7_part 27 = .ok (.if_icmp .gt 22, 3) := by decide +kernel
theorem dX7_part_30 : decode cX7_part 30 = .ok (.iload_n 3, 1) := by decide +kernel
theorem dX7_part_31 : decode cX7_part 31 = .ok (.ifCond .lt 18, 3) := by decide +kernel
theorem dX7_part_34 : decode cX7_part 34 = .ok (.iload_n 3, 1) := by decide +kernel
theorem dX7_part_35 : decode cX7_part 35 = .ok (.bipush 7, 2) := by decide +kernel
theorem dX7_part_37 : decode cX7_part 37 = .ok (.if_icmp .gt 12, 3) := by decide +kernel
theorem dX7_part_40 : decode cX7_part 40 = .ok (.iload_n 3, 1) := by decide +kernel
theorem dX7_part_41 : decode cX7_part 41 = .ok (.iload 4, 2) := by decide +kernel
theorem dX7_part_43 : decode cX7_part 43 = .ok (.iadd, 1) := by decide +kernel
theorem dX7_part_44 : decode cX7_part 44 = .ok (.bipush 8, 2) := by decide +kernel
theorem dX7_part_46 : decode cX7_part 46 = .ok (.if_icmp .le 6, 3) := by decide +kernel
theorem dX7_part_49 : decode cX7_part 49 = .ok (.ldc 65, 2) := by decide +kernel
theorem dX7_part_51 : decode cX7_part 51 = .ok (.ireturn, 1) := by decide +kernel
theorem dX7_part_52 : decode cX7_part 52 = .ok (.aload_n 0, 1) := by decide +kernel
theorem dX7_part_53 : decode cX7_part 53 = .ok (.iload_n 1, 1) := by decide +kernel
theorem dX7_part_54 : decode cX7_part 54 = .ok (.aload_n 0, 1) := by decide +kernel
theorem dX7_part_55 : decode cX7_part 55 = .ok (.iload_n 2, 1) := by decide +kernel
theorem dX7_part_56 : decode cX7_part 56 = .ok (.invokevirtual 103, 3) := by decide +kernel
theorem dX7_part_59 : decode cX7_part 59 = .ok (.iload_n 3, 1) := by decide +kernel
theorem dX7_part_60 : decode cX7_part 60 = .ok (.iload 4, 2) := by decide +kernel
theorem dX7_part_62 : decode cX7_part 62 = .ok (.invokestatic 106, 3) := by decide +kernel
theorem dX7_part_65 : decode cX7_part 65 = .ok (.invokevirtual 80, 3) := by decide +kernel
theorem dX7_part_68 : decode cX7_part 68 = .ok (.aload_n 0, 1) := by decide +kernel
theorem dX7_part_69 : decode cX7_part 69 = .ok (.bipush 8, 2) := by decide +kernel
theorem dX7_part_71 : decode cX7_part 71 = .ok (.aload_n 0, 1) := by decide +kernel
theorem dX7_part_72 : decode cX7_part 72 = .ok (.iload_n 1, 1) := by decide +kernel
theorem dX7_part_73 : decode cX7_part 73 = .ok (.invokevirtual 97, 3) := by decide +kernel
theorem dX7_part_76 : decode cX7_part 76 = .ok (.invokevirtual 84, 3) := by decide +kernel
theorem dX7_part_79 : decode cX7_part 79 = .ok (.ireturn, 1) := by decide +kernel
set_option maxRecDepth 20000 in
theorem ggX7_store_X7_isRegister : GoodIn wsX7_store wsX7_isRegister := goodIn_r _ [7] (by decide +kernel) (by decide +kernel)
set_option maxRecDepth 20000 in
theorem gX7_store_X7_isRegister : GoodIn wsX7_store (va_wsS RX7 57 yX7_isRegister wsX7_isRegister) := goodIn_app (goodIn_of _ (by decide +kernel)) ggX7_store_X7_isRegister
set_option maxRecDepth 20000 in
theorem ggX7_store_X7_isOctet : GoodIn wsX7_store wsX7_isOctet := goodIn_r _ [10] (by decide +kernel) (by decide +kernel)
set_option maxRecDepth 20000 in
theorem gX7_store_X7_isOctet : GoodIn wsX7_store (va_wsS RX7 100 yX7_isOctet wsX7_isOctet) := goodIn_app (goodIn_of _ (by decide +kernel)) ggX7_store_X7_isOctet
set_option maxRecDepth 20000 in
theorem ggX7_store_X7_changeOctet : GoodIn wsX7_store wsX7_changeOctet := goodIn_r _ [14, 15, 2, 3, 16, 17, 18, 19, 20, 21, 22, 23, 24, 25, 26, 27, 28, 29, 30, 31, 6, 32, 60, 61, 62, 63, 64, 65, 66, 67, 68, 69, 70, 71, 72, 73, 74, 75, 76, 77] (by decide +kernel) (by decide +kernel)
set_option maxRecDepth 20000 in
theorem gX7_store_X7_changeOctet : GoodIn wsX7_store (wsV RX7 109 RX7 yX7_changeOctet wsX7_changeOctet) := goodIn_app (goodIn_of _ (by decide +kernel)) ggX7_store_X7_changeOctet
set_option maxRecDepth 20000 in
theorem ggX7_store_X7_shadowOfRegister : GoodIn wsX7_store wsX7_shadowOfRegister := goodIn_r _ [36, 2, 3, 37, 38, 39, 40, 60, 61, 62, 63, 64, 65, 66, 67, 68, 69, 70, 71, 72, 73] (by decide +kernel) (by decide +kernel)
set_option maxRecDepth 20000 in
theorem gX7_store_X7_shadowOfRegister : GoodIn wsX7_store (wsV RX7 97 RX7 yX7_shadowOfRegister wsX7_shadowOfRegister) := goodIn_app (goodIn_of _ (by decide +kernel)) ggX7_store_X7_shadowOfRegister
set_option maxRecDepth 20000 in
theorem ggX7_store_X7_tick : GoodIn wsX7_store wsX7_tick := goodIn_r _ [44, 45, 46, 47, 48, 49, 50, 51, 52, 53, 54, 55, 56, 57, 58, 59, 27, 28, 29, 60, 61, 62, 63, 64, 65, 66, 67, 68, 69, 70, 71, 78, 79, 80, 81, 82] (by decide +kernel) (by decide +kernel)
set_option maxRecDepth 20000 in
theorem gX7_store_X7_tick : GoodIn wsX7_store (wsV RX7 84 RX7 yX7_tick wsX7_tick) := goodIn_app (goodIn_of _ (by decide +kernel)) ggX7_store_X7_tick
theorem dX7_store_0 : decode cX7_store 0 = .ok (.iload_n 1, 1) := by decide +kernel
theorem dX7_store_1 : decode cX7_store 1 = .ok (.invokestatic 57, 3) := by decide +kernel
theorem dX7_store_4 : decode cX7_store 4 = .ok (.ifCond .eq 10, 3) := by decide +kernel
theorem dX7_store_7 : decode cX7_store 7 = .ok (.iload_n 2, 1) := by decide +kernel
theorem dX7_store_8 : decode cX7_store 8 = .ok (.invokestatic 100, 3) := by decide +kernel
theorem dX7_store_11 : decode cX7_store 11 = .ok (.ifCond .ne 6, 3) := by decide +kernel
theorem dX7_store_14 : decode cX7_store 14 = .ok (.ldc 61, 2) := by decide +kernel
theorem dX7_store_16 : decode cX7_store 16 = .ok (.ireturn, 1) := by decide +kernel
theorem dX7_store_17 : decode cX7_store 17 = .ok (.aload_n 0, 1) := by decide +kernel
theorem dX7_store_18 : decode cX7_store 18 = .ok (.iload_n 2, 1) := by decide +kernel
theorem dX7_store_19 : decode cX7_store 19 = .ok (.aload_n 0, 1) := by decide +kernel
theorem dX7_store_20 : decode cX7_store 20 = .ok (.getfield 12, 3) := by decide +kernel
theorem dX7_store_23 : decode cX7_store 23 = .ok (.getfield 66, 3) := by decide +kernel
theorem dX7_store_26 : decode cX7_store 26 = .ok (.iload_n 1, 1) := by decide +kernel
theorem dX7_store_27 : decode cX7_store 27 = .ok (.iaload, 1) := by decide +kernel
theorem dX7_store_28 : decode cX7_store 28 = .ok (.invokevirtual 109, 3) := by decide +kernel
theorem dX7_store_31 : decode cX7_store 31 = .ok (.aload_n 0, 1) := by decide +kernel
theorem dX7_store_32 : decode cX7_store 32 = .ok (.iconst 3, 1) := by decide +kernel
theorem dX7_store_33 : decode cX7_store 33 = .ok (.aload_n 0, 1) := by decide +kernel
theorem dX7_store_34 : decode cX7_store 34 = .ok (.iload_n 1, 1) := by decide +kernel
theorem dX7_store_35 : decode cX7_store 35 = .ok (.invokevirtual 97, 3) := by decide +kernel
theorem dX7_store_38 : decode cX7_store 38 = .ok (.invokevirtual 84, 3) := by decide +kernel
theorem dX7_store_41 : decode cX7_store 41 = .ok (.ireturn, 1) := by decide +kernel
set_option maxRecDepth 20000 in
theorem ggX7_loadAt_X7_isRegister : GoodIn wsX7_loadAt wsX7_isRegister := goodIn_r _ [5] (by decide +kernel) (by decide +kernel)
set_option maxRecDepth 20000 in
theorem gX7_loadAt_X7_isRegister : GoodIn wsX7_loadAt (va_wsS RX7 57 yX7_isRegister wsX7_isRegister) := goodIn_app (goodIn_of _ (by decide +kernel)) ggX7_loadAt_X7_isRegister
set_option maxRecDepth 20000 in
theorem ggX7_loadAt_X7_placeAt : GoodIn wsX7_loadAt wsX7_placeAt := goodIn_r _ [9, 10, 11, 12, 13, 14, 15, 16, 17, 18, 19, 20, 21, 22, 23, 24, 25, 26, 27, 28, 29, 30, 31, 32, 33, 86, 87, 88, 89, 90, 91, 92, 93, 94, 95, 96, 97, 98, 99, 100, 101, 102, 103, 104] (by decide +kernel) (by decide +kernel)
set_option maxRecDepth 20000 in
theorem gX7_loadAt_X7_placeAt : GoodIn wsX7_loadAt (wsV RX7 112 RX7 yX7_placeAt wsX7_placeAt) := goodIn_app (goodIn_of _ (by decide +kernel)) ggX7_loadAt_X7_placeAt
set_option maxRecDepth 20000 in
theorem ggX7_loadAt_X7_readOctet : GoodIn wsX7_loadAt wsX7_readOctet := goodIn_r _ [37, 38, 39, 10, 12, 13, 11, 40, 41, 42, 43, 44, 45, 21, 22, 23, 24, 25, 26, 27, 28, 29, 30, 86, 87, 88, 89, 90, 91, 92, 93, 94, 95, 96, 97, 105, 106, 107, 108, 109, 98, 99, 100, 101, 102, 103, 104] (by decide +kernel) (by decide +kernel)
set_option maxRecDepth 20000 in
theorem gX7_loadAt_X7_readOctet : GoodIn wsX7_loadAt (wsV RX7 103 RX7 yX7_readOctet wsX7_readOctet) := goodIn_app (goodIn_of _ (by decide +kernel)) ggX7_loadAt_X7_readOctet
set_option maxRecDepth 20000 in
theorem ggX7_loadAt_X7_changeRegister : GoodIn wsX7_loadAt wsX7_changeRegister := goodIn_r _ [49, 50, 10, 11, 51, 52, 53, 54, 55, 56, 57, 58, 59, 60, 61, 62, 63, 86, 87, 88, 89, 90, 91, 92, 93, 94, 95, 96, 97, 98, 99, 110, 111, 112, 113] (by decide +kernel) (by decide +kernel)
set_option maxRecDepth 20000 in
theorem gX7_loadAt_X7_changeRegister : GoodIn wsX7_loadAt (wsV RX7 80 RX7 yX7_changeRegister wsX7_changeRegister) := goodIn_app (goodIn_of _ (by decide +kernel)) ggX7_loadAt_X7_changeRegister
set_option maxRecDepth 20000 in
theorem ggX7_loadAt_X7_shadowOfRegister : GoodIn wsX7_loadAt wsX7_shadowOfRegister := goodIn_r _ [67, 10, 11, 14, 15, 16, 17, 86, 87, 88, 89, 90, 91, 92, 93, 94, 95, 96, 97, 98, 99] (by decide +kernel) (by decide +kernel)
set_option maxRecDepth 20000 in
theorem gX7_loadAt_X7_shadowOfRegister : GoodIn wsX7_loadAt (wsV RX7 97 RX7 yX7_shadowOfRegister wsX7_shadowOfRegister) := goodIn_app (goodIn_of _ (by decide +kernel)) ggX7_loadAt_X7_shadowOfRegister
set_option maxRecDepth 20000 in
theorem ggX7_loadAt_X7_tick : GoodIn wsX7_loadAt wsX7_tick := goodIn_r _ [71, 72, 13, 73, 74, 75, 76, 77, 78, 79, 80, 81, 82, 83, 84, 85, 61, 62, 63, 86, 87, 88, 89, 90, 91, 92, 93, 94, 95, 96, 97, 114, 115, 116, 117, 118] (by decide +kernel) (by decide +kernel)
set_option maxRecDepth 20000 in
theorem gX7_loadAt_X7_tick : GoodIn wsX7_loadAt (wsV RX7 84 RX7 yX7_tick wsX7_tick) := goodIn_app (goodIn_of _ (by decide +kernel)) ggX7_loadAt_X7_tick
theorem dX7_loadAt_0 : decode cX7_loadAt 0 = .ok (.iload_n 1, 1) := by decide +kernel
theorem dX7_loadAt_1 : decode cX7_loadAt 1 = .ok (.invokestatic 57, 3) := by decide +kernel
theorem dX7_loadAt_4 : decode cX7_loadAt 4 = .ok (.ifCond .eq 10, 3) := by decide +kernel
theorem dX7_loadAt_7 : decode cX7_loadAt 7 = .ok (.iload_n 2, 1) := by decide +kernel
theorem dX7_loadAt_8 : decode cX7_loadAt 8 = .ok (.invokestatic 57, 3) := by decide +kernel
theorem dX7_loadAt_11 : decode cX7_loadAt 11 = .ok (.ifCond .ne 6, 3) := by decide +kernel
theorem dX7_loadAt_14 : decode cX7_loadAt 14 = .ok (.ldc 61, 2) := by decide +kernel
theorem dX7_loadAt_16 : decode cX7_loadAt 16 = .ok (.ireturn, 1) := by decide +kernel
theorem dX7_loadAt_17 : decode cX7_loadAt 17 = .ok (.aload_n 0, 1) := by decide +kernel
theorem dX7_loadAt_18 : decode cX7_loadAt 18 = .ok (.iload_n 1, 1) := by decide +kernel
theorem dX7_loadAt_19 : decode cX7_loadAt 19 = .ok (.aload_n 0, 1) := by decide +kernel
theorem dX7_loadAt_20 : decode cX7_loadAt 20 = .ok (.aload_n 0, 1) := by decide +kernel
theorem dX7_loadAt_21 : decode cX7_loadAt 21 = .ok (.iload_n 2, 1) := by decide +kernel
theorem dX7_loadAt_22 : decode cX7_loadAt 22 = .ok (.invokevirtual 112, 3) := by decide +kernel
theorem dX7_loadAt_25 : decode cX7_loadAt 25 = .ok (.invokevirtual 103, 3) := by decide +kernel
theorem dX7_loadAt_28 : decode cX7_loadAt 28 = .ok (.invokevirtual 80, 3) := by decide +kernel
theorem dX7_loadAt_31 : decode cX7_loadAt 31 = .ok (.aload_n 0, 1) := by decide +kernel
theorem dX7_loadAt_32 : decode cX7_loadAt 32 = .ok (.bipush 9, 2) := by decide +kernel
theorem dX7_loadAt_34 : decode cX7_loadAt 34 = .ok (.aload_n 0, 1) := by decide +kernel
theorem dX7_loadAt_35 : decode cX7_loadAt 35 = .ok (.iload_n 1, 1) := by decide +kernel
theorem dX7_loadAt_36 : decode cX7_loadAt 36 = .ok (.invokevirtual 97, 3) := by decide +kernel
theorem dX7_loadAt_39 : decode cX7_loadAt 39 = .ok (.invokevirtual 84, 3) := by decide +kernel
theorem dX7_loadAt_42 : decode cX7_loadAt 42 = .ok (.ireturn, 1) := by decide +kernel
set_option maxRecDepth 20000 in
theorem ggX7_storeAt_X7_isRegister : GoodIn wsX7_storeAt wsX7_isRegister := goodIn_r _ [7] (by decide +kernel) (by decide +kernel)
set_option maxRecDepth 20000 in
theorem gX7_storeAt_X7_isRegister : GoodIn wsX7_storeAt (va_wsS RX7 57 yX7_isRegister wsX7_isRegister) := goodIn_app (goodIn_of _ (by decide +kernel)) ggX7_storeAt_X7_isRegister
set_option maxRecDepth 20000 in
theorem ggX7_storeAt_X7_placeAt : GoodIn wsX7_storeAt wsX7_placeAt := goodIn_r _ [11, 2, 3, 12, 13, 14, 15, 16, 17, 18, 19, 20, 21, 22, 23, 24, 25, 26, 27, 28, 29, 30, 31, 32, 33, 78, 79, 80, 81, 82, 83, 84, 85, 86, 87, 88, 89, 90, 91, 92, 93, 94, 95, 96] (by decide +kernel) (by decide +kernel)
set_option maxRecDepth 20000 in
theorem gX7_storeAt_X7_placeAt : GoodIn wsX7_storeAt (wsV RX7 112 RX7 yX7_placeAt wsX7_placeAt) := goodIn_app (goodIn_of _ (by decide +kernel)) ggX7_storeAt_X7_placeAt
set_option maxRecDepth 20000 in
theorem ggX7_storeAt_X7_changeOctet : GoodIn wsX7_storeAt wsX7_changeOctet := goodIn_r _ [37, 38, 2, 3, 39, 40, 41, 42, 43, 44, 45, 46, 47, 48, 49, 50, 51, 52, 53, 54, 6, 55, 78, 79, 80, 81, 82, 83, 84, 85, 86, 87, 88, 89, 90, 91, 97, 98, 99, 100] (by decide +kernel) (by decide +kernel)
set_option maxRecDepth 20000 in
theorem gX7_storeAt_X7_changeOctet : GoodIn wsX7_storeAt (wsV RX7 109 RX7 yX7_changeOctet wsX7_changeOctet) := goodIn_app (goodIn_of _ (by decide +kernel)) ggX7_storeAt_X7_changeOctet
set_option maxRecDepth 20000 in
theorem ggX7_storeAt_X7_shadowOfRegister : GoodIn wsX7_storeAt wsX7_shadowOfRegister := goodIn_r _ [59, 2, 3, 14, 15, 16, 17, 78, 79, 80, 81, 82, 83, 84, 85, 86, 87, 88, 89, 90, 91] (by decide +kernel) (by decide +kernel)
set_option maxRecDepth 20000 in
theorem gX7_storeAt_X7_shadowOfRegister : GoodIn wsX7_storeAt (wsV RX7 97 RX7 yX7_shadowOfRegister wsX7_shadowOfRegister) := goodIn_app (goodIn_of _ (by decide +kernel)) ggX7_storeAt_X7_shadowOfRegister
set_option maxRecDepth 20000 in
theorem ggX7_storeAt_X7_tick : GoodIn wsX7_storeAt wsX7_tick := goodIn_r _ [63, 64, 13, 65, 66, 67, 68, 69, 70, 71, 72, 73, 74, 75, 76, 77, 50, 51, 52, 78, 79, 80, 81, 82, 83, 84, 85, 86, 87, 88, 89, 101, 102, 103, 104, 105] (by decide +kernel) (by decide +kernel)
set_option maxRecDepth 20000 in
theorem gX7_storeAt_X7_tick : GoodIn wsX7_storeAt (wsV RX7 84 RX7 yX7_tick wsX7_tick) := goodIn_app (goodIn_of _ (by decide +kernel)) ggX7_storeAt_X7_tick
theorem dX7_storeAt_0 : decode cX7_storeAt 0 = .ok (.iload_n 1, 1) := by decide +kernel
theorem dX7_storeAt_1 : decode cX7_storeAt 1 = .ok (.invokestatic 57, 3) := by decide +kernel
theorem dX7_storeAt_4 : decode cX7_storeAt 4 = .ok (.ifCond .eq 10, 3) := by decide +kernel
theorem dX7_storeAt_7 : decode cX7_storeAt 7 = .ok (.iload_n 2, 1) := by decide +kernel
theorem dX7_storeAt_8 : decode cX7_storeAt 8 = .ok (.invokestatic 57, 3) := by decide +kernel
theorem dX7_storeAt_11 : decode cX7_storeAt 11 = .ok (.ifCond .ne 6, 3) := by decide +kernel
theorem dX7_storeAt_14 : decode cX7_storeAt 14 = .ok (.ldc 61, 2) := by decide +kernel
theorem dX7_storeAt_16 : decode cX7_storeAt 16 = .ok (.ireturn, 1) := by decide +kernel
theorem dX7_storeAt_17 : decode cX7_storeAt 17 = .ok (.aload_n 0, 1) := by decide +kernel
theorem dX7_storeAt_18 : decode cX7_storeAt 18 = .ok (.aload_n 0, 1) := by decide +kernel
theorem dX7_storeAt_19 : decode cX7_storeAt 19 = .ok (.iload_n 2, 1) := by decide +kernel
theorem dX7_storeAt_20 : decode cX7_storeAt 20 = .ok (.invokevirtual 112, 3) := by decide +kernel
theorem dX7_storeAt_23 : decode cX7_storeAt 23 = .ok (.aload_n 0, 1) := by decide +kernel
theorem dX7_storeAt_24 : decode cX7_storeAt 24 = .ok (.getfield 12, 3) := by decide +kernel
theorem dX7_storeAt_27 : decode cX7_storeAt 27 = .ok (.getfield 66, 3) := by decide +kernel
theorem dX7_storeAt_30 : decode cX7_storeAt 30 = .ok (.iload_n 1, 1) := by decide +kernel
theorem dX7_storeAt_31 : decode cX7_storeAt 31 = .ok (.iaload, 1) := by decide +kernel
theorem dX7_storeAt_32 : decode cX7_storeAt 32 = .ok (.invokevirtual 109, 3) := by decide +kernel
theorem dX7_storeAt_35 : decode cX7_storeAt 35 = .ok (.aload_n 0, 1) := by decide +kernel
theorem dX7_storeAt_36 : decode cX7_storeAt 36 = .ok (.bipush 10, 2) := by decide +kernel
theorem dX7_storeAt_38 : decode cX7_storeAt 38 = .ok (.aload_n 0, 1) := by decide +kernel
theorem dX7_storeAt_39 : decode cX7_storeAt 39 = .ok (.iload_n 1, 1) := by decide +kernel
theorem dX7_storeAt_40 : decode cX7_storeAt 40 = .ok (.invokevirtual 97, 3) := by decide +kernel
theorem dX7_storeAt_43 : decode cX7_storeAt 43 = .ok (.invokevirtual 84, 3) := by decide +kernel
theorem dX7_storeAt_46 : decode cX7_storeAt 46 = .ok (.ireturn, 1) := by decide +kernel
set_option maxRecDepth 20000 in
theorem ggX7_rule_X7_isRegister : GoodIn wsX7_rule wsX7_isRegister := goodIn_r _ [9] (by decide +kernel) (by decide +kernel)
set_option maxRecDepth 20000 in
theorem gX7_rule_X7_isRegister : GoodIn wsX7_rule (va_wsS RX7 57 yX7_isRegister wsX7_isRegister) := goodIn_app (goodIn_of _ (by decide +kernel)) ggX7_rule_X7_isRegister
set_option maxRecDepth 20000 in
theorem ggX7_rule_X7_isSort : GoodIn wsX7_rule wsX7_isSort := goodIn_r _ [12] (by decide +kernel) (by decide +kernel)
set_option maxRecDepth 20000 in
theorem gX7_rule_X7_isSort : GoodIn wsX7_rule (va_wsS RX7 115 yX7_isSort wsX7_isSort) := goodIn_app (goodIn_of _ (by decide +kernel)) ggX7_rule_X7_isSort
set_option maxRecDepth 20000 in
theorem ggX7_rule_X6_slackOf : GoodIn wsX7_rule wsX6_slackOf := goodIn_r _ [16, 17, 18, 19, 20, 21, 22, 23, 24, 25, 15, 26, 27, 28, 29, 30, 31, 32, 33, 34, 35, 36, 37, 38, 39, 40, 41, 42] (by decide +kernel) (by decide +kernel)
set_option maxRecDepth 20000 in
theorem gX7_rule_X6_slackOf : GoodIn wsX7_rule (va_wsS RX7 121 yX6_slackOf wsX6_slackOf) := goodIn_app (goodIn_of _ (by decide +kernel)) ggX7_rule_X6_slackOf
set_option maxRecDepth 20000 in
theorem ggX7_rule_X7_followRule : GoodIn wsX7_rule wsX7_followRule := goodIn_r _ [46, 4, 5, 47, 48, 15, 49, 17, 18, 19, 20, 21, 22, 23, 24, 25, 26, 27, 28, 29, 50, 51, 52, 53, 54, 55, 56, 57, 58, 8, 59, 60, 61, 62, 63, 64, 65, 66, 67, 68, 69, 70, 71, 72, 73, 74, 75, 76, 77, 78, 79, 80, 81, 82, 83, 84, 85, 86, 87, 88, 89, 90, 91, 92, 93, 94, 95, 96, 97, 98, 99, 100, 101, 102, 103, 104, 105, 106, 107, 108, 109, 110, 111, 112, 113, 114, 115, 116, 117, 118, 119, 120] (by decide +kernel) (by decide +kernel)
set_option maxRecDepth 20000 in
theorem gX7_rule_X7_followRule : GoodIn wsX7_rule (wsV RX7 126 RX7 yX7_followRule wsX7_followRule) := goodIn_app (goodIn_of _ (by decide +kernel)) ggX7_rule_X7_followRule
theorem dX7_rule_0 : decode cX7_rule 0 = .ok (.iload_n 2, 1) := by decide +kernel
theorem dX7_rule_1 : decode cX7_rule 1 = .ok (.invokestatic 57, 3) := by decide +kernel
theorem dX7_rule_4 : decode cX7_rule 4 = .ok (.ifCond .eq 18, 3) := by decide +kernel
theorem dX7_rule_7 : decode cX7_rule 7 = .ok (.iload_n 3, 1) := by decide +kernel
theorem dX7_rule_8 : decode cX7_rule 8 = .ok (.invokestatic 57, 3) := by decide +kernel
theorem dX7_rule_11 : decode cX7_rule 11 = .ok (.ifCond .eq 11, 3) := by decide +kernel
theorem dX7_rule_14 : decode cX7_rule 14 = .ok (.iload 4, 2) := by decide +kernel
theorem dX7_rule_16 : decode cX7_rule 16 = .ok (.invokestatic 57, 3) := by decide +kernel
theorem dX7_rule_19 : decode cX7_rule 19 = .ok (.ifCond .ne 6, 3) := by decide +kernel
theorem dX7_rule_22 : decode cX7_rule 22 = .ok (.ldc 61, 2) := by decide +kernel
theorem dX7_rule_24 : decode cX7_rule 24 = .ok (.ireturn, 1) := by decide +kernel
theorem dX7_rule_25 : decode cX7_rule 25 = .ok (.iload_n 1, 1) := by decide +kernel
theorem dX7_rule_26 : decode cX7_rule 26 = .ok (.invokestatic 115, 3) := by decide +kernel
theorem dX7_rule_29 : decode cX7_rule 29 = .ok (.ifCond .ne 6, 3) := by decide +kernel
theorem dX7_rule_32 : decode cX7_rule 32 = .ok (.ldc 65, 2) := by decide +kernel
theorem dX7_rule_34 : decode cX7_rule 34 = .ok (.ireturn, 1) := by decide +kernel
theorem dX7_rule_35 : decode cX7_rule 35 = .ok (.aload_n 0, 1) := by decide +kernel
theorem dX7_rule_36 : decode cX7_rule 36 = .ok (.dup, 1) := by decide +kernel
theorem dX7_rule_37 : decode cX7_rule 37 = .ok (.getfield 118, 3) := by decide +kernel
theorem dX7_rule_40 : decode cX7_rule 40 = .ok (.iload_n 1, 1) := by decide +kernel
theorem dX7_rule_41 : decode cX7_rule 41 = .ok (.aload_n 0, 1) := by decide +kernel
theorem dX7_rule_42 : decode cX7_rule 42 = .ok (.getfield 12, 3) := by decide +kernel
theorem dX7_rule_45 : decode cX7_rule 45 = .ok (.getfield 66, 3) := by decide +kernel
theorem dX7_rule_48 : decode cX7_rule 48 = .ok (.iload_n 3, 1) := by decide +kernel
theorem dX7_rule_49 : decode cX7_rule 49 = .ok (.iaload, 1) := by decide +kernel
theorem dX7_rule_50 : decode cX7_rule 50 = .ok (.aload_n 0, 1) := by decide +kernel
theorem dX7_rule_51 : decode cX7_rule 51 = .ok (.getfield 12, 3) := by decide +kernel
theorem dX7_rule_54 : decode cX7_rule 54 = .ok (.getfield 66, 3) := by decide +kernel
theorem dX7_rule_57 : decode cX7_rule 57 = .ok (.iload 4, 2) := by decide +kernel
theorem dX7_rule_59 : decode cX7_rule 59 = .ok (.iaload, 1) := by decide +kernel
theorem dX7_rule_60 : decode cX7_rule 60 = .ok (.invokestatic 121, 3) := by decide +kernel
theorem dX7_rule_63 : decode cX7_rule 63 = .ok (.iadd, 1) := by decide +kernel
theorem dX7_rule_64 : decode cX7_rule 64 = .ok (.putfield 118, 3) := by decide +kernel
theorem dX7_rule_67 : decode cX7_rule 67 = .ok (.aload_n 0, 1) := by decide +kernel
theorem dX7_rule_68 : decode cX7_rule 68 = .ok (.iload_n 1, 1) := by decide +kernel
theorem dX7_rule_69 : decode cX7_rule 69 = .ok (.iload_n 2, 1) := by decide +kernel
theorem dX7_rule_70 : decode cX7_rule 70 = .ok (.iload_n 3, 1) := by decide +kernel
theorem dX7_rule_71 : decode cX7_rule 71 = .ok (.iload 4, 2) := by decide +kernel
theorem dX7_rule_73 : decode cX7_rule 73 = .ok (.invokevirtual 126, 3) := by decide +kernel
theorem dX7_rule_76 : decode cX7_rule 76 = .ok (.ireturn, 1) := by decide +kernel
set_option maxRecDepth 20000 in
theorem ggX7_decide_X7_isRegister : GoodIn wsX7_decide wsX7_isRegister := goodIn_r _ [9] (by decide +kernel) (by decide +kernel)
set_option maxRecDepth 20000 in
theorem gX7_decide_X7_isRegister : GoodIn wsX7_decide (va_wsS RX7 57 yX7_isRegister wsX7_isRegister) := goodIn_app (goodIn_of _ (by decide +kernel)) ggX7_decide_X7_isRegister
set_option maxRecDepth 20000 in
theorem ggX7_decide_X0_isDecided : GoodIn wsX7_decide wsX0_isDecided := goodIn_r _ [13, 14, 15, 12, 16, 17, 18, 19, 20, 21, 22] (by decide +kernel) (by decide +kernel)
set_option maxRecDepth 20000 in
theorem gX7_decide_X0_isDecided : GoodIn wsX7_decide (va_wsS RX7 130 yX0_isDecided wsX0_isDecided) := goodIn_app (goodIn_of _ (by decide +kernel)) ggX7_decide_X0_isDecided
set_option maxRecDepth 20000 in
theorem ggX7_decide_X0_fromOf : GoodIn wsX7_decide wsX0_fromOf := goodIn_r _ [25] (by decide +kernel) (by decide +kernel)
set_option maxRecDepth 20000 in
theorem gX7_decide_X0_fromOf : GoodIn wsX7_decide (va_wsS RX7 94 yX0_fromOf wsX0_fromOf) := goodIn_app (goodIn_of _ (by decide +kernel)) ggX7_decide_X0_fromOf
set_option maxRecDepth 20000 in
theorem ggX7_decide_X2_add : GoodIn wsX7_decide wsX2_add := goodIn_r _ [30, 31, 32, 33, 34, 35, 72, 73, 74, 75, 76] (by decide +kernel) (by decide +kernel)
set_option maxRecDepth 20000 in
theorem gX7_decide_X2_add : GoodIn wsX7_decide (wsV RX7 133 RX2 yX2_add wsX2_add) := goodIn_app (goodIn_of _ (by decide +kernel)) ggX7_decide_X2_add
set_option maxRecDepth 20000 in
theorem ggX7_decide_X0_valueOf : GoodIn wsX7_decide wsX0_valueOf := goodIn_r _ [19] (by decide +kernel) (by decide +kernel)
set_option maxRecDepth 20000 in
theorem gX7_decide_X0_valueOf : GoodIn wsX7_decide (va_wsS RX7 70 yX0_valueOf wsX0_valueOf) := goodIn_app (goodIn_of _ (by decide +kernel)) ggX7_decide_X0_valueOf
set_option maxRecDepth 20000 in
theorem ggX7_decide_X7_tick : GoodIn wsX7_decide wsX7_tick := goodIn_r _ [40, 41, 5, 42, 43, 44, 45, 46, 47, 48, 49, 50, 51, 52, 53, 54, 55, 56, 57, 58, 59, 60, 61, 62, 63, 64, 65, 66, 67, 68, 69, 77, 78, 79, 80, 81] (by decide +kernel) (by decide +kernel)
set_option maxRecDepth 20000 in
theorem gX7_decide_X7_tick : GoodIn wsX7_decide (wsV RX7 84 RX7 yX7_tick wsX7_tick) := goodIn_app (goodIn_of _ (by decide +kernel)) ggX7_decide_X7_tick
theorem dX7_decide_0 : decode cX7_decide 0 = .ok (.iload_n 1, 1) := by decide +kernel
theorem dX7_decide_1 : decode cX7_decide 1 = .ok (.invokestatic 57, 3) := by decide +kernel
theorem dX7_decide_4 : decode cX7_decide 4 = .ok (.ifCond .ne 6, 3) := by decide +kernel
theorem dX7_decide_7 : decode cX7_decide 7 = .ok (.ldc 61, 2) := by decide +kernel
theorem dX7_decide_9 : decode cX7_decide 9 = .ok (.ireturn, 1) := by decide +kernel
theorem dX7_decide_10 : decode cX7_decide 10 = .ok (.aload_n 0, 1) := by decide +kernel
theorem dX7_decide_11 : decode cX7_decide 11 = .ok (.getfield 12, 3) := by decide +kernel
theorem dX7_decide_14 : decode cX7_decide 14 = .ok (.getfield 66, 3) := by decide +kernel
theorem dX7_decide_17 : decode cX7_decide 17 = .ok (.iload_n 1, 1) := by decide +kernel
theorem dX7_decide_18 : decode cX7_decide 18 = .ok (.iaload, 1) := by decide +kernel
theorem dX7_decide_19 : decode cX7_decide 19 = .ok (.istore_n 2, 1) := by decide +kernel
theorem dX7_decide_20 : decode cX7_decide 20 = .ok (.iload_n 2, 1) := by decide +kernel
theorem dX7_decide_21 : decode cX7_decide 21 = .ok (.invokestatic 130, 3) := by decide +kernel
theorem dX7_decide_24 : decode cX7_decide 24 = .ok (.ifCond .ne 19, 3) := by decide +kernel
theorem dX7_decide_27 : decode cX7_decide 27 = .ok (.aload_n 0, 1) := by decide +kernel
theorem dX7_decide_28 : decode cX7_decide 28 = .ok (.getfield 32, 3) := by decide +kernel
theorem dX7_decide_31 : decode cX7_decide 31 = .ok (.iconst 0, 1) := by decide +kernel
theorem dX7_decide_32 : decode cX7_decide 32 = .ok (.aload_n 0, 1) := by decide +kernel
theorem dX7_decide_33 : decode cX7_decide 33 = .ok (.getfield 53, 3) := by decide +kernel
theorem dX7_decide_36 : decode cX7_decide 36 = .ok (.iload_n 2, 1) := by decide +kernel
theorem dX7_decide_37 : decode cX7_decide 37 = .ok (.invokestatic 94, 3) := by decide +kernel
theorem dX7_decide_40 : decode cX7_decide 40 = .ok (.invokevirtual 133, 3) := by decide +kernel
theorem dX7_decide_43 : decode cX7_decide 43 = .ok (.aload_n 0, 1) := by decide +kernel
theorem dX7_decide_44 : decode cX7_decide 44 = .ok (.iconst 5, 1) := by decide +kernel
theorem dX7_decide_45 : decode cX7_decide 45 = .ok (.iload_n 2, 1) := by decide +kernel
theorem dX7_decide_46 : decode cX7_decide 46 = .ok (.invokestatic 70, 3) := by decide +kernel
theorem dX7_decide_49 : decode cX7_decide 49 = .ok (.ifCond .eq 7, 3) := by decide +kernel
theorem dX7_decide_52 : decode cX7_decide 52 = .ok (.iconst 1, 1) := by decide +kernel
theorem dX7_decide_53 : decode cX7_decide 53 = .ok (.goto 4, 3) := by decide +kernel
theorem dX7_decide_56 : decode cX7_decide 56 = .ok (.iconst 0, 1) := by decide +kernel
theorem dX7_decide_57 : decode cX7_decide 57 = .ok (.invokevirtual 84, 3) := by decide +kernel
theorem dX7_decide_60 : decode cX7_decide 60 = .ok (.ireturn, 1) := by decide +kernel
set_option maxRecDepth 20000 in
theorem ggX7_let_X7_isOctet : GoodIn wsX7_let wsX7_isOctet := goodIn_r _ [12] (by decide +kernel) (by decide +kernel)
set_option maxRecDepth 20000 in
theorem gX7_let_X7_isOctet : GoodIn wsX7_let (va_wsS RX7 100 yX7_isOctet wsX7_isOctet) := goodIn_app (goodIn_of _ (by decide +kernel)) ggX7_let_X7_isOctet
set_option maxRecDepth 20000 in
theorem ggX7_let_X3_anyIsLet : GoodIn wsX7_let wsX3_anyIsLet := goodIn_r _ [17, 18, 19, 20, 21, 16, 22, 23, 79, 80, 81, 82, 83] (by decide +kernel) (by decide +kernel)
set_option maxRecDepth 20000 in
theorem gX7_let_X3_anyIsLet : GoodIn wsX7_let (wsV RX7 137 RX3 yX3_anyIsLet wsX3_anyIsLet) := goodIn_app (goodIn_of _ (by decide +kernel)) ggX7_let_X3_anyIsLet
set_option maxRecDepth 20000 in
theorem ggX7_let_X3_open : GoodIn wsX7_let wsX3_open := goodIn_r _ [27, 28, 29, 30, 18, 23, 79, 80, 81, 82, 83] (by decide +kernel) (by decide +kernel)
set_option maxRecDepth 20000 in
theorem gX7_let_X3_open : GoodIn wsX7_let (wsV RX7 146 RX3 yX3_open wsX3_open) := goodIn_app (goodIn_of _ (by decide +kernel)) ggX7_let_X3_open
set_option maxRecDepth 20000 in
theorem ggX7_let_X7_nextLot : GoodIn wsX7_let wsX7_nextLot := goodIn_r _ [34, 35, 36, 37, 67, 68, 69, 70, 71, 72, 73, 74, 75, 76, 77, 78] (by decide +kernel) (by decide +kernel)
set_option maxRecDepth 20000 in
theorem gX7_let_X7_nextLot : GoodIn wsX7_let (wsV RX7 149 RX7 yX7_nextLot wsX7_nextLot) := goodIn_app (goodIn_of _ (by decide +kernel)) ggX7_let_X7_nextLot
set_option maxRecDepth 20000 in
theorem ggX7_let_X0_of : GoodIn wsX7_let wsX0_of := goodIn_r _ [41] (by decide +kernel) (by decide +kernel)
set_option maxRecDepth 20000 in
theorem gX7_let_X0_of : GoodIn wsX7_let (va_wsS RX7 76 yX0_of wsX0_of) := goodIn_app (goodIn_of _ (by decide +kernel)) ggX7_let_X0_of
set_option maxRecDepth 20000 in
theorem ggX7_let_X7_octetSet : GoodIn wsX7_let wsX7_octetSet := goodIn_r _ [44] (by decide +kernel) (by decide +kernel)
set_option maxRecDepth 20000 in
theorem gX7_let_X7_octetSet : GoodIn wsX7_let (va_wsS RX7 156 yX7_octetSet wsX7_octetSet) := goodIn_app (goodIn_of _ (by decide +kernel)) ggX7_let_X7_octetSet
set_option maxRecDepth 20000 in
theorem ggX7_let_X7_tick : GoodIn wsX7_let wsX7_tick := goodIn_r _ [48, 49, 50, 51, 52, 53, 54, 55, 56, 57, 58, 59, 60, 61, 62, 63, 64, 65, 66, 67, 68, 69, 70, 71, 72, 73, 74, 75, 76, 77, 78, 86, 87, 88, 89, 90] (by decide +kernel) (by decide +kernel)
set_option maxRecDepth 20000 in
theorem gX7_let_X7_tick : GoodIn wsX7_let (wsV RX7 84 RX7 yX7_tick wsX7_tick) := goodIn_app (goodIn_of _ (by decide +kernel)) ggX7_let_X7_tick
theorem dX7_let_0 : decode cX7_let 0 = .ok (.iload_n 1, 1) := by decide +kernel
theorem dX7_let_1 : decode cX7_let 1 = .ok (.invokestatic 100, 3) := by decide +kernel
theorem dX7_let_4 : decode cX7_let 4 = .ok (.ifCond .eq 22, 3) := by decide +kernel
theorem dX7_let_7 : decode cX7_let 7 = .ok (.iload_n 2, 1) := by decide +kernel
theorem dX7_let_8 : decode cX7_let 8 = .ok (.iconst 1, 1) := by decide +kernel
theorem dX7_let_9 : decode cX7_let 9 = .ok (.if_icmp .lt 17, 3) := by decide +kernel
theorem dX7_let_12 : decode cX7_let 12 = .ok (.iload_n 2, 1) := by decide +kernel
theorem dX7_let_13 : decode cX7_let 13 = .ok (.bipush 8, 2) := by decide +kernel
theorem dX7_let_15 : decode cX7_let 15 = .ok (.if_icmp .gt 11, 3) := by decide +kernel
theorem dX7_let_18 : decode cX7_let 18 = .ok (.iload_n 1, 1) := by decide +kernel
theorem dX7_let_19 : decode cX7_let 19 = .ok (.iload_n 2, 1) := by decide +kernel
theorem dX7_let_20 : decode cX7_let 20 = .ok (.iadd, 1) := by decide +kernel
theorem dX7_let_21 : decode cX7_let 21 = .ok (.bipush 32, 2) := by decide +kernel
theorem dX7_let_23 : decode cX7_let 23 = .ok (.if_icmp .le 6, 3) := by decide +kernel
theorem dX7_let_26 : decode cX7_let 26 = .ok (.ldc 65, 2) := by decide +kernel
theorem dX7_let_28 : decode cX7_let 28 = .ok (.ireturn, 1) := by decide +kernel
theorem dX7_let_29 : decode cX7_let 29 = .ok (.aload_n 0, 1) := by decide +kernel
theorem dX7_let_30 : decode cX7_let 30 = .ok (.getfield 25, 3) := by decide +kernel
theorem dX7_let_33 : decode cX7_let 33 = .ok (.iload_n 1, 1) := by decide +kernel
theorem dX7_let_34 : decode cX7_let 34 = .ok (.iload_n 2, 1) := by decide +kernel
theorem dX7_let_35 : decode cX7_let 35 = .ok (.invokevirtual 137, 3) := by decide +kernel
theorem dX7_let_38 : decode cX7_let 38 = .ok (.ifCond .eq 6, 3) := by decide +kernel
theorem dX7_let_41 : decode cX7_let 41 = .ok (.ldc 141, 2) := by decide +kernel
theorem dX7_let_43 : decode cX7_let 43 = .ok (.ireturn, 1) := by decide +kernel
theorem dX7_let_44 : decode cX7_let 44 = .ok (.aload_n 0, 1) := by decide +kernel
theorem dX7_let_45 : decode cX7_let 45 = .ok (.getfield 25, 3) := by decide +kernel
theorem dX7_let_48 : decode cX7_let 48 = .ok (.getfield 142, 3) := by decide +kernel
theorem dX7_let_51 : decode cX7_let 51 = .ok (.bipush 12, 2) := by decide +kernel
theorem dX7_let_53 : decode cX7_let 53 = .ok (.if_icmp .lt 6, 3) := by decide +kernel
theorem dX7_let_56 : decode cX7_let 56 = .ok (.ldc 145, 2) := by decide +kernel
theorem dX7_let_58 : decode cX7_let 58 = .ok (.ireturn, 1) := by decide +kernel
theorem dX7_let_59 : decode cX7_let 59 = .ok (.aload_n 0, 1) := by decide +kernel
theorem dX7_let_60 : decode cX7_let 60 = .ok (.getfield 25, 3) := by decide +kernel
theorem dX7_let_63 : decode cX7_let 63 = .ok (.iload_n 1, 1) := by decide +kernel
theorem dX7_let_64 : decode cX7_let 64 = .ok (.iload_n 2, 1) := by decide +kernel
theorem dX7_let_65 : decode cX7_let 65 = .ok (.invokevirtual 146, 3) := by decide +kernel
theorem dX7_let_68 : decode cX7_let 68 = .ok (.istore_n 3, 1) := by decide +kernel
theorem dX7_let_69 : decode cX7_let 69 = .ok (.iload_n 1, 1) := by decide +kernel
theorem dX7_let_70 : decode cX7_let 70 = .ok (.istore 4, 2) := by decide +kernel
theorem dX7_let_72 : decode cX7_let 72 = .ok (.iload 4, 2) := by decide +kernel
theorem dX7_let_74 : decode cX7_let 74 = .ok (.iload_n 1, 1) := by decide +kernel
theorem dX7_let_75 : decode cX7_let 75 = .ok (.iload_n 2, 1) := by decide +kernel
theorem dX7_let_76 : decode cX7_let 76 = .ok (.iadd, 1) := by decide +kernel
theorem dX7_let_77 : decode cX7_let 77 = .ok (.if_icmp .ge 39, 3) := by decide +kernel
theorem dX7_let_80 : decode cX7_let 80 = .ok (.aload_n 0, 1) := by decide +kernel
theorem dX7_let_81 : decode cX7_let 81 = .ok (.getfield 12, 3) := by decide +kernel
theorem dX7_let_84 : decode cX7_let 84 = .ok (.getfield 66, 3) := by decide +kernel
theorem dX7_let_87 : decode cX7_let 87 = .ok (.bipush 8, 2) := by decide +kernel
theorem dX7_let_89 : decode cX7_let 89 = .ok (.iload 4, 2) := by decide +kernel
theorem dX7_let_91 : decode cX7_let 91 = .ok (.iadd, 1) := by decide +kernel
theorem dX7_let_92 : decode cX7_let 92 = .ok (.aload_n 0, 1) := by decide +kernel
theorem dX7_let_93 : decode cX7_let 93 = .ok (.invokevirtual 149, 3) := by decide +kernel
theorem dX7_let_96 : decode cX7_let 96 = .ok (.sipush 256, 3) := by decide +kernel
theorem dX7_let_99 : decode cX7_let 99 = .ok (.irem, 1) := by decide +kernel
theorem dX7_let_100 : decode cX7_let 100 = .ok (.sipush 255, 3) := by decide +kernel
theorem dX7_let_103 : decode cX7_let 103 = .ok (.iconst 1, 1) := by decide +kernel
theorem dX7_let_104 : decode cX7_let 104 = .ok (.iload_n 3, 1) := by decide +kernel
theorem dX7_let_105 : decode cX7_let 105 = .ok (.ishl, 1) := by decide +kernel
theorem dX7_let_106 : decode cX7_let 106 = .ok (.invokestatic 76, 3) := by decide +kernel
theorem dX7_let_109 : decode cX7_let 109 = .ok (.iastore, 1) := by decide +kernel
theorem dX7_let_110 : decode cX7_let 110 = .ok (.iinc 4 1, 3) := by decide +kernel
theorem dX7_let_113 : decode cX7_let 113 = .ok (.goto (-41), 3) := by decide +kernel
theorem dX7_let_116 : decode cX7_let 116 = .ok (.aload_n 0, 1) := by decide +kernel
theorem dX7_let_117 : decode cX7_let 117 = .ok (.getfield 12, 3) := by decide +kernel
theorem dX7_let_120 : decode cX7_let 120 = .ok (.dup, 1) := by decide +kernel
theorem dX7_let_121 : decode cX7_let 121 = .ok (.getfield 153, 3) := by decide +kernel
theorem dX7_let_124 : decode cX7_let 124 = .ok (.iload_n 1, 1) := by decide +kernel
theorem dX7_let_125 : decode cX7_let 125 = .ok (.iload_n 2, 1) := by decide +kernel
theorem dX7_let_126 : decode cX7_let 126 = .ok (.invokestatic 156, 3) := by decide +kernel
theorem dX7_let_129 : decode cX7_let 129 = .ok (.iconst (-1), 1) := by decide +kernel
theorem dX7_let_130 : decode cX7_let 130 = .ok (.ixor, 1) := by decide +kernel
theorem dX7_let_131 : decode cX7_let 131 = .ok (.iand, 1) := by decide +kernel
theorem dX7_let_132 : decode cX7_let 132 = .ok (.putfield 153, 3) := by decide +kernel
theorem dX7_let_135 : decode cX7_let 135 = .ok (.aload_n 0, 1) := by decide +kernel
theorem dX7_let_136 : decode cX7_let 136 = .ok (.bipush 6, 2) := by decide +kernel
theorem dX7_let_138 : decode cX7_let 138 = .ok (.iload_n 3, 1) := by decide +kernel
theorem dX7_let_139 : decode cX7_let 139 = .ok (.invokevirtual 84, 3) := by decide +kernel
theorem dX7_let_142 : decode cX7_let 142 = .ok (.ireturn, 1) := by decide +kernel
set_option maxRecDepth 20000 in
theorem ggX7_giveBack_X3_has : GoodIn wsX7_giveBack wsX3_has := goodIn_r _ [13, 14, 71, 72, 73, 74, 75] (by decide +kernel) (by decide +kernel)
set_option maxRecDepth 20000 in
theorem gX7_giveBack_X3_has : GoodIn wsX7_giveBack (wsV RX7 88 RX3 yX3_has wsX3_has) := goodIn_app (goodIn_of _ (by decide +kernel)) ggX7_giveBack_X3_has
set_option maxRecDepth 20000 in
theorem ggX7_giveBack_X3_isLet : GoodIn wsX7_giveBack wsX3_isLet := goodIn_r _ [18, 19, 71, 72, 73, 74, 75] (by decide +kernel) (by decide +kernel)
set_option maxRecDepth 20000 in
theorem gX7_giveBack_X3_isLet : GoodIn wsX7_giveBack (wsV RX7 159 RX3 yX3_isLet wsX3_isLet) := goodIn_app (goodIn_of _ (by decide +kernel)) ggX7_giveBack_X3_isLet
set_option maxRecDepth 20000 in
theorem ggX7_giveBack_X3_close : GoodIn wsX7_giveBack wsX3_close := goodIn_r _ [23, 19, 71, 72, 73, 74, 75] (by decide +kernel) (by decide +kernel)
set_option maxRecDepth 20000 in
theorem gX7_giveBack_X3_close : GoodIn wsX7_giveBack (wsV RX7 162 RX3 yX3_close wsX3_close) := goodIn_app (goodIn_of _ (by decide +kernel)) ggX7_giveBack_X3_close
set_option maxRecDepth 20000 in
theorem ggX7_giveBack_X7_octetSet : GoodIn wsX7_giveBack wsX7_octetSet := goodIn_r _ [27] (by decide +kernel) (by decide +kernel)
set_option maxRecDepth 20000 in
theorem gX7_giveBack_X7_octetSet : GoodIn wsX7_giveBack (va_wsS RX7 156 yX7_octetSet wsX7_octetSet) := goodIn_app (goodIn_of _ (by decide +kernel)) ggX7_giveBack_X7_octetSet
set_option maxRecDepth 20000 in
theorem ggX7_giveBack_J6_bitCount_0f7a4 : GoodIn wsX7_giveBack wsJ6_bitCount_0f7a4 := goodIn_r _ [31, 32, 33, 34] (by decide +kernel) (by decide +kernel)
set_option maxRecDepth 20000 in
theorem gX7_giveBack_J6_bitCount_0f7a4 : GoodIn wsX7_giveBack (va_wsS RX7 175 yJ6_bitCount_0f7a4 wsJ6_bitCount_0f7a4) := goodIn_app (goodIn_of _ (by decide +kernel)) ggX7_giveBack_J6_bitCount_0f7a4
set_option maxRecDepth 20000 in
theorem ggX7_giveBack_X7_tick : GoodIn wsX7_giveBack wsX7_tick := goodIn_r _ [38, 39, 40, 41, 42, 43, 44, 45, 46, 47, 48, 49, 50, 51, 52, 53, 54, 55, 56, 57, 58, 59, 60, 61, 62, 63, 64, 65, 66, 67, 68, 76, 77, 78, 79, 80] (by decide +kernel) (by decide +kernel)
set_option maxRecDepth 20000 in
theorem gX7_giveBack_X7_tick : GoodIn wsX7_giveBack (wsV RX7 84 RX7 yX7_tick wsX7_tick) := goodIn_app (goodIn_of _ (by decide +kernel)) ggX7_giveBack_X7_tick
theorem dX7_giveBack_0 : decode cX7_giveBack 0 = .ok (.aload_n 0, 1) := by decide +kernel
theorem dX7_giveBack_1 : decode cX7_giveBack 1 = .ok (.getfield 25, 3) := by decide +kernel
theorem dX7_giveBack_4 : decode cX7_giveBack 4 = .ok (.iload_n 1, 1) := by decide +kernel
theorem dX7_giveBack_5 : decode cX7_giveBack 5 = .ok (.invokevirtual 88, 3) := by decide +kernel
theorem dX7_giveBack_8 : decode cX7_giveBack 8 = .ok (.ifCond .ne 6, 3) := by decide +kernel
theorem dX7_giveBack_11 : decode cX7_giveBack 11 = .ok (.ldc 61, 2) := by decide +kernel
theorem dX7_giveBack_13 : decode cX7_giveBack 13 = .ok (.ireturn, 1) := by decide +kernel
theorem dX7_giveBack_14 : decode cX7_giveBack 14 = .ok (.aload_n 0, 1) := by decide +kernel
theorem dX7_giveBack_15 : decode cX7_giveBack 15 = .ok (.getfield 25, 3) := by decide +kernel
theorem dX7_giveBack_18 : decode cX7_giveBack 18 = .ok (.iload_n 1, 1) := by decide +kernel
theorem dX7_giveBack_19 : decode cX7_giveBack 19 = .ok (.invokevirtual 159, 3) := by decide +kernel
theorem dX7_giveBack_22 : decode cX7_giveBack 22 = .ok (.ifCond .ne 6, 3) := by decide +kernel
theorem dX7_giveBack_25 : decode cX7_giveBack 25 = .ok (.ldc 141, 2) := by decide +kernel
theorem dX7_giveBack_27 : decode cX7_giveBack 27 = .ok (.ireturn, 1) := by decide +kernel
theorem dX7_giveBack_28 : decode cX7_giveBack 28 = .ok (.aload_n 0, 1) := by decide +kernel
theorem dX7_giveBack_29 : decode cX7_giveBack 29 = .ok (.getfield 25, 3) := by decide +kernel
theorem dX7_giveBack_32 : decode cX7_giveBack 32 = .ok (.iload_n 1, 1) := by decide +kernel
theorem dX7_giveBack_33 : decode cX7_giveBack 33 = .ok (.invokevirtual 162, 3) := by decide +kernel
theorem dX7_giveBack_36 : decode cX7_giveBack 36 = .ok (.aload_n 0, 1) := by decide +kernel
theorem dX7_giveBack_37 : decode cX7_giveBack 37 = .ok (.getfield 12, 3) := by decide +kernel
theorem dX7_giveBack_40 : decode cX7_giveBack 40 = .ok (.dup, 1) := by decide +kernel
theorem dX7_giveBack_41 : decode cX7_giveBack 41 = .ok (.getfield 153, 3) := by decide +kernel
theorem dX7_giveBack_44 : decode cX7_giveBack 44 = .ok (.aload_n 0, 1) := by decide +kernel
theorem dX7_giveBack_45 : decode cX7_giveBack 45 = .ok (.getfield 25, 3) := by decide +kernel
theorem dX7_giveBack_48 : decode cX7_giveBack 48 = .ok (.getfield 166, 3) := by decide +kernel
theorem dX7_giveBack_51 : decode cX7_giveBack 51 = .ok (.iload_n 1, 1) := by decide +kernel
theorem dX7_giveBack_52 : decode cX7_giveBack 52 = .ok (.iaload, 1) := by decide +kernel
theorem dX7_giveBack_53 : decode cX7_giveBack 53 = .ok (.aload_n 0, 1) := by decide +kernel
theorem dX7_giveBack_54 : decode cX7_giveBack 54 = .ok (.getfield 25, 3) := by decide +kernel
theorem dX7_giveBack_57 : decode cX7_giveBack 57 = .ok (.getfield 169, 3) := by decide +kernel
theorem dX7_giveBack_60 : decode cX7_giveBack 60 = .ok (.iload_n 1, 1) := by decide +kernel
theorem dX7_giveBack_61 : decode cX7_giveBack 61 = .ok (.iaload, 1) := by decide +kernel
theorem dX7_giveBack_62 : decode cX7_giveBack 62 = .ok (.invokestatic 156, 3) := by decide +kernel
theorem dX7_giveBack_65 : decode cX7_giveBack 65 = .ok (.ior, 1) := by decide +kernel
theorem dX7_giveBack_66 : decode cX7_giveBack 66 = .ok (.putfield 153, 3) := by decide +kernel
theorem dX7_giveBack_69 : decode cX7_giveBack 69 = .ok (.aload_n 0, 1) := by decide +kernel
theorem dX7_giveBack_70 : decode cX7_giveBack 70 = .ok (.bipush 7, 2) := by decide +kernel
theorem dX7_giveBack_72 : decode cX7_giveBack 72 = .ok (.aload_n 0, 1) := by decide +kernel
theorem dX7_giveBack_73 : decode cX7_giveBack 73 = .ok (.getfield 25, 3) := by decide +kernel
theorem dX7_giveBack_76 : decode cX7_giveBack 76 = .ok (.getfield 172, 3) := by decide +kernel
theorem dX7_giveBack_79 : decode cX7_giveBack 79 = .ok (.invokestatic 175, 3) := by decide +kernel
theorem dX7_giveBack_82 : decode cX7_giveBack 82 = .ok (.invokevirtual 84, 3) := by decide +kernel
theorem dX7_giveBack_85 : decode cX7_giveBack 85 = .ok (.ireturn, 1) := by decide +kernel
set_option maxRecDepth 20000 in
theorem ggX7_drift_X7_doByLots : GoodIn wsX7_drift wsX7_doByLots := goodIn_r _ [8, 9, 10, 11, 7, 12, 13, 14, 15, 16, 17, 18, 19, 20, 21, 22, 23, 24, 25, 26, 27, 28, 29, 30, 31, 32, 33, 34, 35, 36, 37, 38, 39, 40, 41, 42, 43, 44, 45, 46, 47, 48, 49, 50, 51, 52, 53, 54, 55, 56, 57, 58, 59, 60, 61, 62, 63, 64, 65, 66, 67, 68, 69, 70, 71, 72, 73, 74, 75, 76, 77, 78, 79, 80, 81, 82, 83, 84, 85, 86, 87, 88, 89, 90, 91, 92, 93, 94, 95, 96, 97, 98, 99, 100, 101, 102, 103, 2, 104, 105, 106, 107, 108, 109, 110, 111, 112, 113, 114, 115, 116, 117, 118, 119, 120, 121, 122, 123, 124, 125, 126, 127, 128, 129, 130, 131, 132, 133, 134, 135, 136, 137, 138, 139, 140, 141, 142, 143, 144, 145, 146, 147, 148, 149, 150, 151, 152, 153, 154, 155, 156, 157, 163, 164, 165, 166, 167, 168, 169, 170, 171, 172, 173, 174, 175, 176, 177, 178, 158, 159, 160, 161, 162] (by decide +kernel) (by decide +kernel)
set_option maxRecDepth 20000 in
theorem gX7_drift_X7_doByLots : GoodIn wsX7_drift (wsV RX7 180 RX7 yX7_doByLots wsX7_doByLots) := goodIn_app (goodIn_of _ (by decide +kernel)) ggX7_drift_X7_doByLots
theorem dX7_drift_0 : decode cX7_drift 0 = .ok (.iload_n 1, 1) := by decide +kernel
theorem dX7_drift_1 : decode cX7_drift 1 = .ok (.iconst 1, 1) := by decide +kernel
theorem dX7_drift_2 : decode cX7_drift 2 = .ok (.if_icmp .lt 9, 3) := by decide +kernel
theorem dX7_drift_5 : decode cX7_drift 5 = .ok (.iload_n 1, 1) := by decide +kernel
theorem dX7_drift_6 : decode cX7_drift 6 = .ok (.bipush 40, 2) := by decide +kernel
theorem dX7_drift_8 : decode cX7_drift 8 = .ok (.if_icmp .le 6, 3) := by decide +kernel
theorem dX7_drift_11 : decode cX7_drift 11 = .ok (.ldc 65, 2) := by decide +kernel
theorem dX7_drift_13 : decode cX7_drift 13 = .ok (.ireturn, 1) := by decide +kernel
theorem dX7_drift_14 : decode cX7_drift 14 = .ok (.iconst 0, 1) := by decide +kernel
theorem dX7_drift_15 : decode cX7_drift 15 = .ok (.istore_n 2, 1) := by decide +kernel
theorem dX7_drift_16 : decode cX7_drift 16 = .ok (.iload_n 2, 1) := by decide +kernel
theorem dX7_drift_17 : decode cX7_drift 17 = .ok (.iload_n 1, 1) := by decide +kernel
theorem dX7_drift_18 : decode cX7_drift 18 = .ok (.if_icmp .ge 13, 3) := by decide +kernel
theorem dX7_drift_21 : decode cX7_drift 21 = .ok (.aload_n 0, 1) := by decide +kernel
theorem dX7_drift_22 : decode cX7_drift 22 = .ok (.invokevirtual 180, 3) := by decide +kernel
theorem dX7_drift_25 : decode cX7_drift 25 = .ok (.iinc 2 1, 3) := by decide +kernel
theorem dX7_drift_28 : decode cX7_drift 28 = .ok (.goto (-12), 3) := by decide +kernel
theorem dX7_drift_31 : decode cX7_drift 31 = .ok (.aload_n 0, 1) := by decide +kernel
theorem dX7_drift_32 : decode cX7_drift 32 = .ok (.getfield 32, 3) := by decide +kernel
theorem dX7_drift_35 : decode cX7_drift 35 = .ok (.getfield 183, 3) := by decide +kernel
theorem dX7_drift_38 : decode cX7_drift 38 = .ok (.ireturn, 1) := by decide +kernel
theorem dX7_lot_0 : decode cX7_lot 0 = .ok (.iload_n 1, 1) := by decide +kernel
theorem dX7_lot_1 : decode cX7_lot 1 = .ok (.iconst 1, 1) := by decide +kernel
theorem dX7_lot_2 : decode cX7_lot 2 = .ok (.if_icmp .lt 9, 3) := by decide +kernel
theorem dX7_lot_5 : decode cX7_lot 5 = .ok (.iload_n 1, 1) := by decide +kernel
theorem dX7_lot_6 : decode cX7_lot 6 = .ok (.ldc 186, 2) := by decide +kernel
theorem dX7_lot_8 : decode cX7_lot 8 = .ok (.if_icmp .lt 6, 3) := by decide +kernel
theorem dX7_lot_11 : decode cX7_lot 11 = .ok (.ldc 65, 2) := by decide +kernel
theorem dX7_lot_13 : decode cX7_lot 13 = .ok (.ireturn, 1) := by decide +kernel
theorem dX7_lot_14 : decode cX7_lot 14 = .ok (.aload_n 0, 1) := by decide +kernel
theorem dX7_lot_15 : decode cX7_lot 15 = .ok (.getfield 187, 3) := by decide +kernel
theorem dX7_lot_18 : decode cX7_lot 18 = .ok (.istore_n 2, 1) := by decide +kernel
theorem dX7_lot_19 : decode cX7_lot 19 = .ok (.aload_n 0, 1) := by decide +kernel
theorem dX7_lot_20 : decode cX7_lot 20 = .ok (.iload_n 1, 1) := by decide +kernel
theorem dX7_lot_21 : decode cX7_lot 21 = .ok (.putfield 187, 3) := by decide +kernel
theorem dX7_lot_24 : decode cX7_lot 24 = .ok (.iload_n 2, 1) := by decide +kernel
theorem dX7_lot_25 : decode cX7_lot 25 = .ok (.ireturn, 1) := by decide +kernel
set_option maxRecDepth 20000 in
theorem ggX7_undo_X1_takeBackLatest : GoodIn wsX7_undo wsX1_takeBackLatest := goodIn_r _ [10, 11, 12, 13, 14, 27, 28, 29, 30] (by decide +kernel) (by decide +kernel)
set_option maxRecDepth 20000 in
theorem gX7_undo_X1_takeBackLatest : GoodIn wsX7_undo (wsV RX7 191 RX1 yX1_takeBackLatest wsX1_takeBackLatest) := goodIn_app (goodIn_of _ (by decide +kernel)) ggX7_undo_X1_takeBackLatest
theorem dX7_undo_0 : decode cX7_undo 0 = .ok (.aload_n 0, 1) := by decide +kernel
theorem dX7_undo_1 : decode cX7_undo 1 = .ok (.getfield 46, 3) := by decide +kernel
theorem dX7_undo_4 : decode cX7_undo 4 = .ok (.getfield 190, 3) := by decide +kernel
theorem dX7_undo_7 : decode cX7_undo 7 = .ok (.ifCond .ne 6, 3) := by decide +kernel
theorem dX7_undo_10 : decode cX7_undo 10 = .ok (.ldc 141, 2) := by decide +kernel
theorem dX7_undo_12 : decode cX7_undo 12 = .ok (.ireturn, 1) := by decide +kernel
theorem dX7_undo_13 : decode cX7_undo 13 = .ok (.aload_n 0, 1) := by decide +kernel
theorem dX7_undo_14 : decode cX7_undo 14 = .ok (.getfield 46, 3) := by decide +kernel
theorem dX7_undo_17 : decode cX7_undo 17 = .ok (.aload_n 0, 1) := by decide +kernel
theorem dX7_undo_18 : decode cX7_undo 18 = .ok (.getfield 12, 3) := by decide +kernel
theorem dX7_undo_21 : decode cX7_undo 21 = .ok (.getfield 66, 3) := by decide +kernel
theorem dX7_undo_24 : decode cX7_undo 24 = .ok (.invokevirtual 191, 3) := by decide +kernel
theorem dX7_undo_27 : decode cX7_undo 27 = .ok (.aload_n 0, 1) := by decide +kernel
theorem dX7_undo_28 : decode cX7_undo 28 = .ok (.getfield 46, 3) := by decide +kernel
theorem dX7_undo_31 : decode cX7_undo 31 = .ok (.getfield 190, 3) := by decide +kernel
theorem dX7_undo_34 : decode cX7_undo 34 = .ok (.ireturn, 1) := by decide +kernel
set_option maxRecDepth 20000 in
theorem ggX7_told_J6_bitCount_0f7a4 : GoodIn wsX7_told wsJ6_bitCount_0f7a4 := goodIn_r _ [20, 21, 22, 23] (by decide +kernel) (by decide +kernel)
set_option maxRecDepth 20000 in
theorem gX7_told_J6_bitCount_0f7a4 : GoodIn wsX7_told (va_wsS RX7 175 yJ6_bitCount_0f7a4 wsJ6_bitCount_0f7a4) := goodIn_app (goodIn_of _ (by decide +kernel)) ggX7_told_J6_bitCount_0f7a4
set_option maxRecDepth 20000 in
theorem ggX7_told_X4_unknownBits : GoodIn wsX7_told wsX4_unknownBits := goodIn_r _ [28, 29, 30, 31, 32, 33, 34, 18, 19, 20, 21, 22, 23, 57, 58] (by decide +kernel) (by decide +kernel)
set_option maxRecDepth 20000 in
theorem gX7_told_X4_unknownBits : GoodIn wsX7_told (wsV RX7 199 RX4 yX4_unknownBits wsX4_unknownBits) := goodIn_app (goodIn_of _ (by decide +kernel)) ggX7_told_X4_unknownBits
theorem dX7_told_0 : decode cX7_told 0 = .ok (.iload_n 1, 1) := by decide +kernel
theorem dX7_told_1 : decode cX7_told 1 = .ok (.tableswitch 160 0 11 #[63, 68, 76, 84, 89, 97, 105, 116, 124, 135, 147, 152], 63) := by decide +kernel
theorem dX7_told_64 : decode cX7_told 64 = .ok (.aload_n 0, 1) := by decide +kernel
theorem dX7_told_65 : decode cX7_told 65 = .ok (.getfield 53, 3) := by decide +kernel
theorem dX7_told_68 : decode cX7_told 68 = .ok (.ireturn, 1) := by decide +kernel
theorem dX7_told_69 : decode cX7_told 69 = .ok (.aload_n 0, 1) := by decide +kernel
theorem dX7_told_70 : decode cX7_told 70 = .ok (.getfield 32, 3) := by decide +kernel
theorem dX7_told_73 : decode cX7_told 73 = .ok (.getfield 183, 3) := by decide +kernel
theorem dX7_told_76 : decode cX7_told 76 = .ok (.ireturn, 1) := by decide +kernel
theorem dX7_told_77 : decode cX7_told 77 = .ok (.aload_n 0, 1) := by decide +kernel
theorem dX7_told_78 : decode cX7_told 78 = .ok (.getfield 32, 3) := by decide +kernel
theorem dX7_told_81 : decode cX7_told 81 = .ok (.getfield 195, 3) := by decide +kernel
theorem dX7_told_84 : decode cX7_told 84 = .ok (.ireturn, 1) := by decide +kernel
theorem dX7_told_85 : decode cX7_told 85 = .ok (.aload_n 0, 1) := by decide +kernel
theorem dX7_told_86 : decode cX7_told 86 = .ok (.getfield 118, 3) := by decide +kernel
theorem dX7_told_89 : decode cX7_told 89 = .ok (.ireturn, 1) := by decide +kernel
theorem dX7_told_90 : decode cX7_told 90 = .ok (.aload_n 0, 1) := by decide +kernel
theorem dX7_told_91 : decode cX7_told 91 = .ok (.getfield 25, 3) := by decide +kernel
theorem dX7_told_94 : decode cX7_told 94 = .ok (.getfield 142, 3) := by decide +kernel
theorem dX7_told_97 : decode cX7_told 97 = .ok (.ireturn, 1) := by decide +kernel
theorem dX7_told_98 : decode cX7_told 98 = .ok (.aload_n 0, 1) := by decide +kernel
theorem dX7_told_99 : decode cX7_told 99 = .ok (.getfield 25, 3) := by decide +kernel
theorem dX7_told_102 : decode cX7_told 102 = .ok (.getfield 172, 3) := by decide +kernel
theorem dX7_told_105 : decode cX7_told 105 = .ok (.ireturn, 1) := by decide +kernel
theorem dX7_told_106 : decode cX7_told 106 = .ok (.aload_n 0, 1) := by decide +kernel
theorem dX7_told_107 : decode cX7_told 107 = .ok (.getfield 12, 3) := by decide +kernel
theorem dX7_told_110 : decode cX7_told 110 = .ok (.getfield 153, 3) := by decide +kernel
theorem dX7_told_113 : decode cX7_told 113 = .ok (.invokestatic 175, 3) := by decide +kernel
theorem dX7_told_116 : decode cX7_told 116 = .ok (.ireturn, 1) := by decide +kernel
theorem dX7_told_117 : decode cX7_told 117 = .ok (.aload_n 0, 1) := by decide +kernel
theorem dX7_told_118 : decode cX7_told 118 = .ok (.getfield 39, 3) := by decide +kernel
theorem dX7_told_121 : decode cX7_told 121 = .ok (.getfield 198, 3) := by decide +kernel
theorem dX7_told_124 : decode cX7_told 124 = .ok (.ireturn, 1) := by decide +kernel
theorem dX7_told_125 : decode cX7_told 125 = .ok (.aload_n 0, 1) := by decide +kernel
theorem dX7_told_126 : decode cX7_told 126 = .ok (.getfield 12, 3) := by decide +kernel
theorem dX7_told_129 : decode cX7_told 129 = .ok (.iconst 0, 1) := by decide +kernel
theorem dX7_told_130 : decode cX7_told 130 = .ok (.bipush 8, 2) := by decide +kernel
theorem dX7_told_132 : decode cX7_told 132 = .ok (.invokevirtual 199, 3) := by decide +kernel
theorem dX7_told_135 : decode cX7_told 135 = .ok (.ireturn, 1) := by decide +kernel
theorem dX7_told_136 : decode cX7_told 136 = .ok (.aload_n 0, 1) := by decide +kernel
theorem dX7_told_137 : decode cX7_told 137 = .ok (.getfield 12, 3) := by decide +kernel
theorem dX7_told_140 : decode cX7_told 140 = .ok (.bipush 8, 2) := by decide +kernel
theorem dX7_told_142 : decode cX7_told 142 = .ok (.bipush 40, 2) := by decide +kernel
theorem dX7_told_144 : decode cX7_told 144 = .ok (.invokevirtual 199, 3) := by decide +kernel
theorem dX7_told_147 : decode cX7_told 147 = .ok (.ireturn, 1) := by decide +kernel
theorem dX7_told_148 : decode cX7_told 148 = .ok (.aload_n 0, 1) := by decide +kernel
theorem dX7_told_149 : decode cX7_told 149 = .ok (.getfield 187, 3) := by decide +kernel
theorem dX7_told_152 : decode cX7_told 152 = .ok (.ireturn, 1) := by decide +kernel
theorem dX7_told_153 : decode cX7_told 153 = .ok (.aload_n 0, 1) := by decide +kernel
theorem dX7_told_154 : decode cX7_told 154 = .ok (.getfield 46, 3) := by decide +kernel
theorem dX7_told_157 : decode cX7_told 157 = .ok (.getfield 190, 3) := by decide +kernel
theorem dX7_told_160 : decode cX7_told 160 = .ok (.ireturn, 1) := by decide +kernel
theorem dX7_told_161 : decode cX7_told 161 = .ok (.ldc 65, 2) := by decide +kernel
theorem dX7_told_163 : decode cX7_told 163 = .ok (.ireturn, 1) := by decide +kernel
theorem dX7_mark_0 : decode cX7_mark 0 = .ok (.aload_n 0, 1) := by decide +kernel
theorem dX7_mark_1 : decode cX7_mark 1 = .ok (.getfield 202, 3) := by decide +kernel
theorem dX7_mark_4 : decode cX7_mark 4 = .ok (.lreturn, 1) := by decide +kernel
set_option maxRecDepth 20000 in
theorem ggX7_register_X7_isRegister : GoodIn wsX7_register wsX7_isRegister := goodIn_r _ [8] (by decide +kernel) (by decide +kernel)
set_option maxRecDepth 20000 in
theorem gX7_register_X7_isRegister : GoodIn wsX7_register (va_wsS RX7 57 yX7_isRegister wsX7_isRegister) := goodIn_app (goodIn_of _ (by decide +kernel)) ggX7_register_X7_isRegister
set_option maxRecDepth 20000 in
theorem ggX7_register_X0_valueOf : GoodIn wsX7_register wsX0_valueOf := goodIn_r _ [12] (by decide +kernel) (by decide +kernel)
set_option maxRecDepth 20000 in
theorem gX7_register_X0_valueOf : GoodIn wsX7_register (va_wsS RX7 70 yX0_valueOf wsX0_valueOf) := goodIn_app (goodIn_of _ (by decide +kernel)) ggX7_register_X0_valueOf
set_option maxRecDepth 20000 in
theorem ggX7_register_X0_shadowOf : GoodIn wsX7_register wsX0_shadowOf := goodIn_r _ [15] (by decide +kernel) (by decide +kernel)
set_option maxRecDepth 20000 in
theorem gX7_register_X0_shadowOf : GoodIn wsX7_register (va_wsS RX7 91 yX0_shadowOf wsX0_shadowOf) := goodIn_app (goodIn_of _ (by decide +kernel)) ggX7_register_X0_shadowOf
set_option maxRecDepth 20000 in
theorem ggX7_register_X0_fromOf : GoodIn wsX7_register wsX0_fromOf := goodIn_r _ [18] (by decide +kernel) (by decide +kernel)
set_option maxRecDepth 20000 in
theorem gX7_register_X0_fromOf : GoodIn wsX7_register (va_wsS RX7 94 yX0_fromOf wsX0_fromOf) := goodIn_app (goodIn_of _ (by decide +kernel)) ggX7_register_X0_fromOf
set_option maxRecDepth 20000 in
theorem ggX7_register_X0_leastOf : GoodIn wsX7_register wsX0_leastOf := goodIn_r _ [21, 22, 10, 11, 12, 23, 14, 15] (by decide +kernel) (by decide +kernel)
set_option maxRecDepth 20000 in
theorem gX7_register_X0_leastOf : GoodIn wsX7_register (va_wsS RX7 206 yX0_leastOf wsX0_leastOf) := goodIn_app (goodIn_of _ (by decide +kernel)) ggX7_register_X0_leastOf
set_option maxRecDepth 20000 in
theorem ggX7_register_X0_mostOf : GoodIn wsX7_register wsX0_mostOf := goodIn_r _ [26, 22, 10, 11, 12, 23, 14, 15] (by decide +kernel) (by decide +kernel)
set_option maxRecDepth 20000 in
theorem gX7_register_X0_mostOf : GoodIn wsX7_register (va_wsS RX7 209 yX0_mostOf wsX0_mostOf) := goodIn_app (goodIn_of _ (by decide +kernel)) ggX7_register_X0_mostOf
set_option maxRecDepth 20000 in
theorem ggX7_register_J6_bitCount_0f7a4 : GoodIn wsX7_register wsJ6_bitCount_0f7a4 := goodIn_r _ [30, 31, 32, 33] (by decide +kernel) (by decide +kernel)
set_option maxRecDepth 20000 in
theorem gX7_register_J6_bitCount_0f7a4 : GoodIn wsX7_register (va_wsS RX7 175 yJ6_bitCount_0f7a4 wsJ6_bitCount_0f7a4) := goodIn_app (goodIn_of _ (by decide +kernel)) ggX7_register_J6_bitCount_0f7a4
set_option maxRecDepth 20000 in
theorem ggX7_register_X0_isDecided : GoodIn wsX7_register wsX0_isDecided := goodIn_r _ [36, 37, 20, 11, 21, 22, 10, 12, 23, 14, 15] (by decide +kernel) (by decide +kernel)
set_option maxRecDepth 20000 in
theorem gX7_register_X0_isDecided : GoodIn wsX7_register (va_wsS RX7 130 yX0_isDecided wsX0_isDecided) := goodIn_app (goodIn_of _ (by decide +kernel)) ggX7_register_X0_isDecided
theorem dX7_register_0 : decode cX7_register 0 = .ok (.iload_n 1, 1) := by decide +kernel
theorem dX7_register_1 : decode cX7_register 1 = .ok (.invokestatic 57, 3) := by decide +kernel
theorem dX7_register_4 : decode cX7_register 4 = .ok (.ifCond .ne 6, 3) := by decide +kernel
theorem dX7_register_7 : decode cX7_register 7 = .ok (.ldc 61, 2) := by decide +kernel
theorem dX7_register_9 : decode cX7_register 9 = .ok (.ireturn, 1) := by decide +kernel
theorem dX7_register_10 : decode cX7_register 10 = .ok (.aload_n 0, 1) := by decide +kernel
theorem dX7_register_11 : decode cX7_register 11 = .ok (.getfield 12, 3) := by decide +kernel
theorem dX7_register_14 : decode cX7_register 14 = .ok (.getfield 66, 3) := by decide +kernel
theorem dX7_register_17 : decode cX7_register 17 = .ok (.iload_n 1, 1) := by decide +kernel
theorem dX7_register_18 : decode cX7_register 18 = .ok (.iaload, 1) := by decide +kernel
theorem dX7_register_19 : decode cX7_register 19 = .ok (.istore_n 3, 1) := by decide +kernel
theorem dX7_register_20 : decode cX7_register 20 = .ok (.iload_n 2, 1) := by decide +kernel
theorem dX7_register_21 : decode cX7_register 21 = .ok (.tableswitch 91 0 6 #[43, 48, 53, 58, 63, 68, 78], 43) := by decide +kernel
theorem dX7_register_64 : decode cX7_register 64 = .ok (.iload_n 3, 1) := by decide +kernel
theorem dX7_register_65 : decode cX7_register 65 = .ok (.invokestatic 70, 3) := by decide +kernel
theorem dX7_register_68 : decode cX7_register 68 = .ok (.ireturn, 1) := by decide +kernel
theorem dX7_register_69 : decode cX7_register 69 = .ok (.iload_n 3, 1) := by decide +kernel
theorem dX7_register_70 : decode cX7_register 70 = .ok (.invokestatic 91, 3) := by decide +kernel
theorem dX7_register_73 : decode cX7_register 73 = .ok (.ireturn, 1) := by decide +kernel
theorem dX7_register_74 : decode cX7_register 74 = .ok (.iload_n 3, 1) := by decide +kernel
theorem dX7_register_75 : decode cX7_register 75 = .ok (.invokestatic 94, 3) := by decide +kernel
theorem dX7_register_78 : decode cX7_register 78 = .ok (.ireturn, 1) := by decide +kernel
theorem dX7_register_79 : decode cX7_register 79 = .ok (.iload_n 3, 1) := by decide +kernel
theorem dX7_register_80 : decode cX7_register 80 = .ok (.invokestatic 206, 3) := by decide +kernel
theorem dX7_register_83 : decode cX7_register 83 = .ok (.ireturn, 1) := by decide +kernel
theorem dX7_register_84 : decode cX7_register 84 = .ok (.iload_n 3, 1) := by decide +kernel
theorem dX7_register_85 : decode cX7_register 85 = .ok (.invokestatic 209, 3) := by decide +kernel
theorem dX7_register_88 : decode cX7_register 88 = .ok (.ireturn, 1) := by decide +kernel
theorem dX7_register_89 : decode cX7_register 89 = .ok (.iconst 1, 1) := by decide +kernel
theorem dX7_register_90 : decode cX7_register 90 = .ok (.iload_n 3, 1) := by decide +kernel
theorem dX7_register_91 : decode cX7_register 91 = .ok (.invokestatic 91, 3) := by decide +kernel
theorem dX7_register_94 : decode cX7_register 94 = .ok (.invokestatic 175, 3) := by decide +kernel
theorem dX7_register_97 : decode cX7_register 97 = .ok (.ishl, 1) := by decide +kernel
theorem dX7_register_98 : decode cX7_register 98 = .ok (.ireturn, 1) := by decide +kernel
theorem dX7_register_99 : decode cX7_register 99 = .ok (.iload_n 3, 1) := by decide +kernel
theorem dX7_register_100 : decode cX7_register 100 = .ok (.invokestatic 130, 3) := by decide +kernel
theorem dX7_register_103 : decode cX7_register 103 = .ok (.ifCond .eq 7, 3) := by decide +kernel
theorem dX7_register_106 : decode cX7_register 106 = .ok (.iconst 1, 1) := by decide +kernel
theorem dX7_register_107 : decode cX7_register 107 = .ok (.goto 4, 3) := by decide +kernel
theorem dX7_register_110 : decode cX7_register 110 = .ok (.iconst 0, 1) := by decide +kernel
theorem dX7_register_111 : decode cX7_register 111 = .ok (.ireturn, 1) := by decide +kernel
theorem dX7_register_112 : decode cX7_register 112 = .ok (.ldc 65, 2) := by decide +kernel
theorem dX7_register_114 : decode cX7_register 114 = .ok (.ireturn, 1) := by decide +kernel
set_option maxRecDepth 20000 in
theorem ggX7_octet_X7_isOctet : GoodIn wsX7_octet wsX7_isOctet := goodIn_r _ [10] (by decide +kernel) (by decide +kernel)
set_option maxRecDepth 20000 in
theorem gX7_octet_X7_isOctet : GoodIn wsX7_octet (va_wsS RX7 100 yX7_isOctet wsX7_isOctet) := goodIn_app (goodIn_of _ (by decide +kernel)) ggX7_octet_X7_isOctet
set_option maxRecDepth 20000 in
theorem ggX7_octet_X0_valueOf : GoodIn wsX7_octet wsX0_valueOf := goodIn_r _ [14] (by decide +kernel) (by decide +kernel)
set_option maxRecDepth 20000 in
theorem gX7_octet_X0_valueOf : GoodIn wsX7_octet (va_wsS RX7 70 yX0_valueOf wsX0_valueOf) := goodIn_app (goodIn_of _ (by decide +kernel)) ggX7_octet_X0_valueOf
set_option maxRecDepth 20000 in
theorem ggX7_octet_X0_shadowOf : GoodIn wsX7_octet wsX0_shadowOf := goodIn_r _ [17] (by decide +kernel) (by decide +kernel)
set_option maxRecDepth 20000 in
theorem gX7_octet_X0_shadowOf : GoodIn wsX7_octet (va_wsS RX7 91 yX0_shadowOf wsX0_shadowOf) := goodIn_app (goodIn_of _ (by decide +kernel)) ggX7_octet_X0_shadowOf
set_option maxRecDepth 20000 in
theorem ggX7_octet_X0_fromOf : GoodIn wsX7_octet wsX0_fromOf := goodIn_r _ [20] (by decide +kernel) (by decide +kernel)
set_option maxRecDepth 20000 in
theorem gX7_octet_X0_fromOf : GoodIn wsX7_octet (va_wsS RX7 94 yX0_fromOf wsX0_fromOf) := goodIn_app (goodIn_of _ (by decide +kernel)) ggX7_octet_X0_fromOf
set_option maxRecDepth 20000 in
theorem ggX7_octet_X4_isDead : GoodIn wsX7_octet wsX4_isDead := goodIn_r _ [25, 26, 39, 40] (by decide +kernel) (by decide +kernel)
set_option maxRecDepth 20000 in
theorem gX7_octet_X4_isDead : GoodIn wsX7_octet (wsV RX7 212 RX4 yX4_isDead wsX4_isDead) := goodIn_app (goodIn_of _ (by decide +kernel)) ggX7_octet_X4_isDead
theorem dX7_octet_0 : decode cX7_octet 0 = .ok (.iload_n 1, 1) := by decide +kernel
theorem dX7_octet_1 : decode cX7_octet 1 = .ok (.invokestatic 100, 3) := by decide +kernel
theorem dX7_octet_4 : decode cX7_octet 4 = .ok (.ifCond .ne 6, 3) := by decide +kernel
theorem dX7_octet_7 : decode cX7_octet 7 = .ok (.ldc 61, 2) := by decide +kernel
theorem dX7_octet_9 : decode cX7_octet 9 = .ok (.ireturn, 1) := by decide +kernel
theorem dX7_octet_10 : decode cX7_octet 10 = .ok (.aload_n 0, 1) := by decide +kernel
theorem dX7_octet_11 : decode cX7_octet 11 = .ok (.getfield 12, 3) := by decide +kernel
theorem dX7_octet_14 : decode cX7_octet 14 = .ok (.getfield 66, 3) := by decide +kernel
theorem dX7_octet_17 : decode cX7_octet 17 = .ok (.bipush 8, 2) := by decide +kernel
theorem dX7_octet_19 : decode cX7_octet 19 = .ok (.iload_n 1, 1) := by decide +kernel
theorem dX7_octet_20 : decode cX7_octet 20 = .ok (.iadd, 1) := by decide +kernel
theorem dX7_octet_21 : decode cX7_octet 21 = .ok (.iaload, 1) := by decide +kernel
theorem dX7_octet_22 : decode cX7_octet 22 = .ok (.istore_n 3, 1) := by decide +kernel
theorem dX7_octet_23 : decode cX7_octet 23 = .ok (.iload_n 2, 1) := by decide +kernel
theorem dX7_octet_24 : decode cX7_octet 24 = .ok (.tableswitch 78 0 4 #[36, 41, 46, 51, 68], 36) := by decide +kernel
theorem dX7_octet_60 : decode cX7_octet 60 = .ok (.iload_n 3, 1) := by decide +kernel
theorem dX7_octet_61 : decode cX7_octet 61 = .ok (.invokestatic 70, 3) := by decide +kernel
theorem dX7_octet_64 : decode cX7_octet 64 = .ok (.ireturn, 1) := by decide +kernel
theorem dX7_octet_65 : decode cX7_octet 65 = .ok (.iload_n 3, 1) := by decide +kernel
theorem dX7_octet_66 : decode cX7_octet 66 = .ok (.invokestatic 91, 3) := by decide +kernel
theorem dX7_octet_69 : decode cX7_octet 69 = .ok (.ireturn, 1) := by decide +kernel
theorem dX7_octet_70 : decode cX7_octet 70 = .ok (.iload_n 3, 1) := by decide +kernel
theorem dX7_octet_71 : decode cX7_octet 71 = .ok (.invokestatic 94, 3) := by decide +kernel
theorem dX7_octet_74 : decode cX7_octet 74 = .ok (.ireturn, 1) := by decide +kernel
theorem dX7_octet_75 : decode cX7_octet 75 = .ok (.aload_n 0, 1) := by decide +kernel
theorem dX7_octet_76 : decode cX7_octet 76 = .ok (.getfield 12, 3) := by decide +kernel
theorem dX7_octet_79 : decode cX7_octet 79 = .ok (.iload_n 1, 1) := by decide +kernel
theorem dX7_octet_80 : decode cX7_octet 80 = .ok (.invokevirtual 212, 3) := by decide +kernel
theorem dX7_octet_83 : decode cX7_octet 83 = .ok (.ifCond .eq 7, 3) := by decide +kernel
theorem dX7_octet_86 : decode cX7_octet 86 = .ok (.iconst 1, 1) := by decide +kernel
theorem dX7_octet_87 : decode cX7_octet 87 = .ok (.goto 4, 3) := by decide +kernel
theorem dX7_octet_90 : decode cX7_octet 90 = .ok (.iconst 0, 1) := by decide +kernel
theorem dX7_octet_91 : decode cX7_octet 91 = .ok (.ireturn, 1) := by decide +kernel
theorem dX7_octet_92 : decode cX7_octet 92 = .ok (.aload_n 0, 1) := by decide +kernel
theorem dX7_octet_93 : decode cX7_octet 93 = .ok (.getfield 25, 3) := by decide +kernel
theorem dX7_octet_96 : decode cX7_octet 96 = .ok (.getfield 215, 3) := by decide +kernel
theorem dX7_octet_99 : decode cX7_octet 99 = .ok (.iload_n 1, 1) := by decide +kernel
theorem dX7_octet_100 : decode cX7_octet 100 = .ok (.iaload, 1) := by decide +kernel
theorem dX7_octet_101 : decode cX7_octet 101 = .ok (.ireturn, 1) := by decide +kernel
theorem dX7_octet_102 : decode cX7_octet 102 = .ok (.ldc 65, 2) := by decide +kernel
theorem dX7_octet_104 : decode cX7_octet 104 = .ok (.ireturn, 1) := by decide +kernel
set_option maxRecDepth 20000 in
theorem ggX7_ground_X3_has : GoodIn wsX7_ground wsX3_has := goodIn_r _ [11, 12, 37, 38, 39, 40, 41] (by decide +kernel) (by decide +kernel)
set_option maxRecDepth 20000 in
theorem gX7_ground_X3_has : GoodIn wsX7_ground (wsV RX7 88 RX3 yX3_has wsX3_has) := goodIn_app (goodIn_of _ (by decide +kernel)) ggX7_ground_X3_has
set_option maxRecDepth 20000 in
theorem ggX7_ground_X3_isLet : GoodIn wsX7_ground wsX3_isLet := goodIn_r _ [16, 17, 37, 38, 39, 40, 41] (by decide +kernel) (by decide +kernel)
set_option maxRecDepth 20000 in
theorem gX7_ground_X3_isLet : GoodIn wsX7_ground (wsV RX7 159 RX3 yX3_isLet wsX3_isLet) := goodIn_app (goodIn_of _ (by decide +kernel)) ggX7_ground_X3_isLet
set_option maxRecDepth 20000 in
theorem ggX7_ground_X2_countNaming : GoodIn wsX7_ground wsX2_countNaming := goodIn_r _ [22, 23, 24, 42, 43, 44, 45, 46] (by decide +kernel) (by decide +kernel)
set_option maxRecDepth 20000 in
theorem gX7_ground_X2_countNaming : GoodIn wsX7_ground (wsV RX7 218 RX2 yX2_countNaming wsX2_countNaming) := goodIn_app (goodIn_of _ (by decide +kernel)) ggX7_ground_X2_countNaming
theorem dX7_ground_0 : decode cX7_ground 0 = .ok (.aload_n 0, 1) := by decide +kernel
theorem dX7_ground_1 : decode cX7_ground 1 = .ok (.getfield 25, 3) := by decide +kernel
theorem dX7_ground_4 : decode cX7_ground 4 = .ok (.iload_n 1, 1) := by decide +kernel
theorem dX7_ground_5 : decode cX7_ground 5 = .ok (.invokevirtual 88, 3) := by decide +kernel
theorem dX7_ground_8 : decode cX7_ground 8 = .ok (.ifCond .ne 6, 3) := by decide +kernel
theorem dX7_ground_11 : decode cX7_ground 11 = .ok (.ldc 61, 2) := by decide +kernel
theorem dX7_ground_13 : decode cX7_ground 13 = .ok (.ireturn, 1) := by decide +kernel
theorem dX7_ground_14 : decode cX7_ground 14 = .ok (.iload_n 2, 1) := by decide +kernel
theorem dX7_ground_15 : decode cX7_ground 15 = .ok (.tableswitch 75 0 3 #[29, 39, 49, 66], 29) := by decide +kernel
theorem dX7_ground_44 : decode cX7_ground 44 = .ok (.aload_n 0, 1) := by decide +kernel
theorem dX7_ground_45 : decode cX7_ground 45 = .ok (.getfield 25, 3) := by decide +kernel
theorem dX7_ground_48 : decode cX7_ground 48 = .ok (.getfield 166, 3) := by decide +kernel
theorem dX7_ground_51 : decode cX7_ground 51 = .ok (.iload_n 1, 1) := by decide +kernel
theorem dX7_ground_52 : decode cX7_ground 52 = .ok (.iaload, 1) := by decide +kernel
theorem dX7_ground_53 : decode cX7_ground 53 = .ok (.ireturn, 1) := by decide +kernel
theorem dX7_ground_54 : decode cX7_ground 54 = .ok (.aload_n 0, 1) := by decide +kernel
theorem dX7_ground_55 : decode cX7_ground 55 = .ok (.getfield 25, 3) := by decide +kernel
theorem dX7_ground_58 : decode cX7_ground 58 = .ok (.getfield 169, 3) := by decide +kernel
theorem dX7_ground_61 : decode cX7_ground 61 = .ok (.iload_n 1, 1) := by decide +kernel
theorem dX7_ground_62 : decode cX7_ground 62 = .ok (.iaload, 1) := by decide +kernel
theorem dX7_ground_63 : decode cX7_ground 63 = .ok (.ireturn, 1) := by decide +kernel
theorem dX7_ground_64 : decode cX7_ground 64 = .ok (.aload_n 0, 1) := by decide +kernel
theorem dX7_ground_65 : decode cX7_ground 65 = .ok (.getfield 25, 3) := by decide +kernel
theorem dX7_ground_68 : decode cX7_ground 68 = .ok (.iload_n 1, 1) := by decide +kernel
theorem dX7_ground_69 : decode cX7_ground 69 = .ok (.invokevirtual 159, 3) := by decide +kernel
theorem dX7_ground_72 : decode cX7_ground 72 = .ok (.ifCond .eq 7, 3) := by decide +kernel
theorem dX7_ground_75 : decode cX7_ground 75 = .ok (.iconst 1, 1) := by decide +kernel
theorem dX7_ground_76 : decode cX7_ground 76 = .ok (.goto 4, 3) := by decide +kernel
theorem dX7_ground_79 : decode cX7_ground 79 = .ok (.iconst 0, 1) := by decide +kernel
theorem dX7_ground_80 : decode cX7_ground 80 = .ok (.ireturn, 1) := by decide +kernel
theorem dX7_ground_81 : decode cX7_ground 81 = .ok (.aload_n 0, 1) := by decide +kernel
theorem dX7_ground_82 : decode cX7_ground 82 = .ok (.getfield 32, 3) := by decide +kernel
theorem dX7_ground_85 : decode cX7_ground 85 = .ok (.iload_n 1, 1) := by decide +kernel
theorem dX7_ground_86 : decode cX7_ground 86 = .ok (.invokevirtual 218, 3) := by decide +kernel
theorem dX7_ground_89 : decode cX7_ground 89 = .ok (.ireturn, 1) := by decide +kernel
theorem dX7_ground_90 : decode cX7_ground 90 = .ok (.ldc 65, 2) := by decide +kernel
theorem dX7_ground_92 : decode cX7_ground 92 = .ok (.ireturn, 1) := by decide +kernel
theorem dX7_cry_0 : decode cX7_cry 0 = .ok (.iload_n 1, 1) := by decide +kernel
theorem dX7_cry_1 : decode cX7_cry 1 = .ok (.ifCond .lt 14, 3) := by decide +kernel
theorem dX7_cry_4 : decode cX7_cry 4 = .ok (.iload_n 1, 1) := by decide +kernel
theorem dX7_cry_5 : decode cX7_cry 5 = .ok (.aload_n 0, 1) := by decide +kernel
theorem dX7_cry_6 : decode cX7_cry 6 = .ok (.getfield 32, 3) := by decide +kernel
theorem dX7_cry_9 : decode cX7_cry 9 = .ok (.getfield 195, 3) := by decide +kernel
theorem dX7_cry_12 : decode cX7_cry 12 = .ok (.if_icmp .lt 6, 3) := by decide +kernel
theorem dX7_cry_15 : decode cX7_cry 15 = .ok (.ldc 61, 2) := by decide +kernel
theorem dX7_cry_17 : decode cX7_cry 17 = .ok (.ireturn, 1) := by decide +kernel
theorem dX7_cry_18 : decode cX7_cry 18 = .ok (.iload_n 2, 1) := by decide +kernel
theorem dX7_cry_19 : decode cX7_cry 19 = .ok (.tableswitch 55 0 2 #[25, 35, 45], 25) := by decide +kernel
theorem dX7_cry_44 : decode cX7_cry 44 = .ok (.aload_n 0, 1) := by decide +kernel
theorem dX7_cry_45 : decode cX7_cry 45 = .ok (.getfield 32, 3) := by decide +kernel
theorem dX7_cry_48 : decode cX7_cry 48 = .ok (.getfield 221, 3) := by decide +kernel
theorem dX7_cry_51 : decode cX7_cry 51 = .ok (.iload_n 1, 1) := by decide +kernel
theorem dX7_cry_52 : decode cX7_cry 52 = .ok (.iaload, 1) := by decide +kernel
theorem dX7_cry_53 : decode cX7_cry 53 = .ok (.ireturn, 1) := by decide +kernel
theorem dX7_cry_54 : decode cX7_cry 54 = .ok (.aload_n 0, 1) := by decide +kernel
theorem dX7_cry_55 : decode cX7_cry 55 = .ok (.getfield 32, 3) := by decide +kernel
theorem dX7_cry_58 : decode cX7_cry 58 = .ok (.getfield 224, 3) := by decide +kernel
theorem dX7_cry_61 : decode cX7_cry 61 = .ok (.iload_n 1, 1) := by decide +kernel
theorem dX7_cry_62 : decode cX7_cry 62 = .ok (.iaload, 1) := by decide +kernel
theorem dX7_cry_63 : decode cX7_cry 63 = .ok (.ireturn, 1) := by decide +kernel
theorem dX7_cry_64 : decode cX7_cry 64 = .ok (.aload_n 0, 1) := by decide +kernel
theorem dX7_cry_65 : decode cX7_cry 65 = .ok (.getfield 32, 3) := by decide +kernel
theorem dX7_cry_68 : decode cX7_cry 68 = .ok (.getfield 226, 3) := by decide +kernel
theorem dX7_cry_71 : decode cX7_cry 71 = .ok (.iload_n 1, 1) := by decide +kernel
theorem dX7_cry_72 : decode cX7_cry 72 = .ok (.iaload, 1) := by decide +kernel
theorem dX7_cry_73 : decode cX7_cry 73 = .ok (.ireturn, 1) := by decide +kernel
theorem dX7_cry_74 : decode cX7_cry 74 = .ok (.ldc 65, 2) := by decide +kernel
theorem dX7_cry_76 : decode cX7_cry 76 = .ok (.ireturn, 1) := by decide +kernel
set_option maxRecDepth 20000 in
theorem ggX7_ring_X5_placeOf : GoodIn wsX7_ring wsX5_placeOf := goodIn_r _ [11, 12, 25, 26, 27, 28, 29] (by decide +kernel) (by decide +kernel)
set_option maxRecDepth 20000 in
theorem gX7_ring_X5_placeOf : GoodIn wsX7_ring (wsV RX7 229 RX5 yX5_placeOf wsX5_placeOf) := goodIn_app (goodIn_of _ (by decide +kernel)) ggX7_ring_X5_placeOf
theorem dX7_ring_0 : decode cX7_ring 0 = .ok (.iload_n 2, 1) := by decide +kernel
theorem dX7_ring_1 : decode cX7_ring 1 = .ok (.ifCond .lt 8, 3) := by decide +kernel
theorem dX7_ring_4 : decode cX7_ring 4 = .ok (.iload_n 2, 1) := by decide +kernel
theorem dX7_ring_5 : decode cX7_ring 5 = .ok (.iconst 2, 1) := by decide +kernel
theorem dX7_ring_6 : decode cX7_ring 6 = .ok (.if_icmp .le 6, 3) := by decide +kernel
theorem dX7_ring_9 : decode cX7_ring 9 = .ok (.ldc 65, 2) := by decide +kernel
theorem dX7_ring_11 : decode cX7_ring 11 = .ok (.ireturn, 1) := by decide +kernel
theorem dX7_ring_12 : decode cX7_ring 12 = .ok (.iload_n 1, 1) := by decide +kernel
theorem dX7_ring_13 : decode cX7_ring 13 = .ok (.ifCond .lt 14, 3) := by decide +kernel
theorem dX7_ring_16 : decode cX7_ring 16 = .ok (.iload_n 1, 1) := by decide +kernel
theorem dX7_ring_17 : decode cX7_ring 17 = .ok (.aload_n 0, 1) := by decide +kernel
theorem dX7_ring_18 : decode cX7_ring 18 = .ok (.getfield 39, 3) := by decide +kernel
theorem dX7_ring_21 : decode cX7_ring 21 = .ok (.getfield 198, 3) := by decide +kernel
theorem dX7_ring_24 : decode cX7_ring 24 = .ok (.if_icmp .lt 5, 3) := by decide +kernel
theorem dX7_ring_27 : decode cX7_ring 27 = .ok (.iconst (-1), 1) := by decide +kernel
theorem dX7_ring_28 : decode cX7_ring 28 = .ok (.ireturn, 1) := by decide +kernel
theorem dX7_ring_29 : decode cX7_ring 29 = .ok (.aload_n 0, 1) := by decide +kernel
theorem dX7_ring_30 : decode cX7_ring 30 = .ok (.getfield 39, 3) := by decide +kernel
theorem dX7_ring_33 : decode cX7_ring 33 = .ok (.iload_n 1, 1) := by decide +kernel
theorem dX7_ring_34 : decode cX7_ring 34 = .ok (.invokevirtual 229, 3) := by decide +kernel
theorem dX7_ring_37 : decode cX7_ring 37 = .ok (.istore_n 3, 1) := by decide +kernel
theorem dX7_ring_38 : decode cX7_ring 38 = .ok (.iload_n 2, 1) := by decide +kernel
theorem dX7_ring_39 : decode cX7_ring 39 = .ok (.lookupswitch 45 #[(0, 25), (1, 35)], 25) := by decide +kernel
theorem dX7_ring_64 : decode cX7_ring 64 = .ok (.aload_n 0, 1) := by decide +kernel
theorem dX7_ring_65 : decode cX7_ring 65 = .ok (.getfield 39, 3) := by decide +kernel
theorem dX7_ring_68 : decode cX7_ring 68 = .ok (.getfield 232, 3) := by decide +kernel
theorem dX7_ring_71 : decode cX7_ring 71 = .ok (.iload_n 3, 1) := by decide +kernel
theorem dX7_ring_72 : decode cX7_ring 72 = .ok (.iaload, 1) := by decide +kernel
theorem dX7_ring_73 : decode cX7_ring 73 = .ok (.ireturn, 1) := by decide +kernel
theorem dX7_ring_74 : decode cX7_ring 74 = .ok (.aload_n 0, 1) := by decide +kernel
theorem dX7_ring_75 : decode cX7_ring 75 = .ok (.getfield 39, 3) := by decide +kernel
theorem dX7_ring_78 : decode cX7_ring 78 = .ok (.getfield 233, 3) := by decide +kernel
theorem dX7_ring_81 : decode cX7_ring 81 = .ok (.iload_n 3, 1) := by decide +kernel
theorem dX7_ring_82 : decode cX7_ring 82 = .ok (.iaload, 1) := by decide +kernel
theorem dX7_ring_83 : decode cX7_ring 83 = .ok (.ireturn, 1) := by decide +kernel
theorem dX7_ring_84 : decode cX7_ring 84 = .ok (.aload_n 0, 1) := by decide +kernel
theorem dX7_ring_85 : decode cX7_ring 85 = .ok (.getfield 39, 3) := by decide +kernel
theorem dX7_ring_88 : decode cX7_ring 88 = .ok (.getfield 234, 3) := by decide +kernel
theorem dX7_ring_91 : decode cX7_ring 91 = .ok (.iload_n 3, 1) := by decide +kernel
