theorem dX7_ring_92 : decode cX7_ring 92 = .ok (.iaload, 1) := by decide +kernel
theorem dX7_ring_93 : decode cX7_ring 93 = .ok (.ireturn, 1) := by decide +kernel
set_option maxRecDepth 20000 in
theorem ggX7_shadow_X7_isSort : GoodIn wsX7_shadow wsX7_isSort := goodIn_r _ [5] (by decide +kernel) (by decide +kernel)
set_option maxRecDepth 20000 in
theorem gX7_shadow_X7_isSort : GoodIn wsX7_shadow (va_wsS RX7 115 yX7_isSort wsX7_isSort) := goodIn_app (goodIn_of _ (by decide +kernel)) ggX7_shadow_X7_isSort
set_option maxRecDepth 20000 in
theorem ggX7_shadow_X7_isByte : GoodIn wsX7_shadow wsX7_isByte := goodIn_r _ [8] (by decide +kernel) (by decide +kernel)
set_option maxRecDepth 20000 in
theorem gX7_shadow_X7_isByte : GoodIn wsX7_shadow (va_wsS RX7 62 yX7_isByte wsX7_isByte) := goodIn_app (goodIn_of _ (by decide +kernel)) ggX7_shadow_X7_isByte
set_option maxRecDepth 20000 in
theorem ggX7_shadow_X6_shadowBy : GoodIn wsX7_shadow wsX6_shadowBy := goodIn_r _ [12, 13, 14, 11, 15] (by decide +kernel) (by decide +kernel)
set_option maxRecDepth 20000 in
theorem gX7_shadow_X6_shadowBy : GoodIn wsX7_shadow (va_wsS RX7 237 yX6_shadowBy wsX6_shadowBy) := goodIn_app (goodIn_of _ (by decide +kernel)) ggX7_shadow_X6_shadowBy
theorem dX7_shadow_0 : decode cX7_shadow 0 = .ok (.iload_n 1, 1) := by decide +kernel
theorem dX7_shadow_1 : decode cX7_shadow 1 = .ok (.invokestatic 115, 3) := by decide +kernel
theorem dX7_shadow_4 : decode cX7_shadow 4 = .ok (.ifCond .eq 33, 3) := by decide +kernel
theorem dX7_shadow_7 : decode cX7_shadow 7 = .ok (.iload_n 2, 1) := by decide +kernel
theorem dX7_shadow_8 : decode cX7_shadow 8 = .ok (.invokestatic 62, 3) := by decide +kernel
theorem dX7_shadow_11 : decode cX7_shadow 11 = .ok (.ifCond .eq 26, 3) := by decide +kernel
theorem dX7_shadow_14 : decode cX7_shadow 14 = .ok (.iload_n 3, 1) := by decide +kernel
theorem dX7_shadow_15 : decode cX7_shadow 15 = .ok (.invokestatic 62, 3) := by decide +kernel
theorem dX7_shadow_18 : decode cX7_shadow 18 = .ok (.ifCond .eq 19, 3) := by decide +kernel
theorem dX7_shadow_21 : decode cX7_shadow 21 = .ok (.iload 4, 2) := by decide +kernel
theorem dX7_shadow_23 : decode cX7_shadow 23 = .ok (.invokestatic 62, 3) := by decide +kernel
theorem dX7_shadow_26 : decode cX7_shadow 26 = .ok (.ifCond .eq 11, 3) := by decide +kernel
theorem dX7_shadow_29 : decode cX7_shadow 29 = .ok (.iload 5, 2) := by decide +kernel
theorem dX7_shadow_31 : decode cX7_shadow 31 = .ok (.invokestatic 62, 3) := by decide +kernel
theorem dX7_shadow_34 : decode cX7_shadow 34 = .ok (.ifCond .ne 6, 3) := by decide +kernel
theorem dX7_shadow_37 : decode cX7_shadow 37 = .ok (.ldc 65, 2) := by decide +kernel
theorem dX7_shadow_39 : decode cX7_shadow 39 = .ok (.ireturn, 1) := by decide +kernel
theorem dX7_shadow_40 : decode cX7_shadow 40 = .ok (.iload_n 1, 1) := by decide +kernel
theorem dX7_shadow_41 : decode cX7_shadow 41 = .ok (.iload_n 2, 1) := by decide +kernel
theorem dX7_shadow_42 : decode cX7_shadow 42 = .ok (.iload_n 3, 1) := by decide +kernel
theorem dX7_shadow_43 : decode cX7_shadow 43 = .ok (.iload 4, 2) := by decide +kernel
theorem dX7_shadow_45 : decode cX7_shadow 45 = .ok (.iload 5, 2) := by decide +kernel
theorem dX7_shadow_47 : decode cX7_shadow 47 = .ok (.invokestatic 237, 3) := by decide +kernel
theorem dX7_shadow_50 : decode cX7_shadow 50 = .ok (.ireturn, 1) := by decide +kernel
set_option maxRecDepth 20000 in
theorem ggX7_exact_X7_isSort : GoodIn wsX7_exact wsX7_isSort := goodIn_r _ [5] (by decide +kernel) (by decide +kernel)
set_option maxRecDepth 20000 in
theorem gX7_exact_X7_isSort : GoodIn wsX7_exact (va_wsS RX7 115 yX7_isSort wsX7_isSort) := goodIn_app (goodIn_of _ (by decide +kernel)) ggX7_exact_X7_isSort
set_option maxRecDepth 20000 in
theorem ggX7_exact_X7_isByte : GoodIn wsX7_exact wsX7_isByte := goodIn_r _ [8] (by decide +kernel) (by decide +kernel)
set_option maxRecDepth 20000 in
theorem gX7_exact_X7_isByte : GoodIn wsX7_exact (va_wsS RX7 62 yX7_isByte wsX7_isByte) := goodIn_app (goodIn_of _ (by decide +kernel)) ggX7_exact_X7_isByte
set_option maxRecDepth 20000 in
theorem ggX7_exact_X6_exactBy : GoodIn wsX7_exact wsX6_exactBy := goodIn_r _ [12, 13, 14, 11, 15, 16, 17, 18, 19, 20, 21] (by decide +kernel) (by decide +kernel)
set_option maxRecDepth 20000 in
theorem gX7_exact_X6_exactBy : GoodIn wsX7_exact (va_wsS RX7 241 yX6_exactBy wsX6_exactBy) := goodIn_app (goodIn_of _ (by decide +kernel)) ggX7_exact_X6_exactBy
theorem dX7_exact_0 : decode cX7_exact 0 = .ok (.iload_n 1, 1) := by decide +kernel
theorem dX7_exact_1 : decode cX7_exact 1 = .ok (.invokestatic 115, 3) := by decide +kernel
theorem dX7_exact_4 : decode cX7_exact 4 = .ok (.ifCond .eq 33, 3) := by decide +kernel
theorem dX7_exact_7 : decode cX7_exact 7 = .ok (.iload_n 2, 1) := by decide +kernel
theorem dX7_exact_8 : decode cX7_exact 8 = .ok (.invokestatic 62, 3) := by decide +kernel
theorem dX7_exact_11 : decode cX7_exact 11 = .ok (.ifCond .eq 26, 3) := by decide +kernel
theorem dX7_exact_14 : decode cX7_exact 14 = .ok (.iload_n 3, 1) := by decide +kernel
theorem dX7_exact_15 : decode cX7_exact 15 = .ok (.invokestatic 62, 3) := by decide +kernel
theorem dX7_exact_18 : decode cX7_exact 18 = .ok (.ifCond .eq 19, 3) := by decide +kernel
theorem dX7_exact_21 : decode cX7_exact 21 = .ok (.iload 4, 2) := by decide +kernel
theorem dX7_exact_23 : decode cX7_exact 23 = .ok (.invokestatic 62, 3) := by decide +kernel
theorem dX7_exact_26 : decode cX7_exact 26 = .ok (.ifCond .eq 11, 3) := by decide +kernel
theorem dX7_exact_29 : decode cX7_exact 29 = .ok (.iload 5, 2) := by decide +kernel
theorem dX7_exact_31 : decode cX7_exact 31 = .ok (.invokestatic 62, 3) := by decide +kernel
theorem dX7_exact_34 : decode cX7_exact 34 = .ok (.ifCond .ne 6, 3) := by decide +kernel
theorem dX7_exact_37 : decode cX7_exact 37 = .ok (.ldc 65, 2) := by decide +kernel
theorem dX7_exact_39 : decode cX7_exact 39 = .ok (.ireturn, 1) := by decide +kernel
theorem dX7_exact_40 : decode cX7_exact 40 = .ok (.iload_n 1, 1) := by decide +kernel
theorem dX7_exact_41 : decode cX7_exact 41 = .ok (.iload_n 2, 1) := by decide +kernel
theorem dX7_exact_42 : decode cX7_exact 42 = .ok (.iload_n 3, 1) := by decide +kernel
theorem dX7_exact_43 : decode cX7_exact 43 = .ok (.iload 4, 2) := by decide +kernel
theorem dX7_exact_45 : decode cX7_exact 45 = .ok (.iload 5, 2) := by decide +kernel
theorem dX7_exact_47 : decode cX7_exact 47 = .ok (.invokestatic 241, 3) := by decide +kernel
theorem dX7_exact_50 : decode cX7_exact 50 = .ok (.ireturn, 1) := by decide +kernel
set_option maxRecDepth 20000 in
theorem ggX7_keep_X7_isImage : GoodIn wsX7_keep wsX7_isImage := goodIn_r _ [8] (by decide +kernel) (by decide +kernel)
set_option maxRecDepth 20000 in
theorem gX7_keep_X7_isImage : GoodIn wsX7_keep (va_wsS RX7 244 yX7_isImage wsX7_isImage) := goodIn_app (goodIn_of _ (by decide +kernel)) ggX7_keep_X7_isImage
set_option maxRecDepth 20000 in
theorem ggX7_keep_X7_imageOf : GoodIn wsX7_keep wsX7_imageOf := goodIn_r _ [12, 13, 14, 33, 34, 35, 36, 37, 38, 39, 40, 41, 42, 43, 44] (by decide +kernel) (by decide +kernel)
set_option maxRecDepth 20000 in
theorem gX7_keep_X7_imageOf : GoodIn wsX7_keep (wsV RX7 247 RX7 yX7_imageOf wsX7_imageOf) := goodIn_app (goodIn_of _ (by decide +kernel)) ggX7_keep_X7_imageOf
set_option maxRecDepth 20000 in
theorem ggX7_keep_X4_becomeAs : GoodIn wsX7_keep wsX4_becomeAs := goodIn_r _ [19, 20, 21, 22, 23, 24, 25, 45, 46] (by decide +kernel) (by decide +kernel)
set_option maxRecDepth 20000 in
theorem gX7_keep_X4_becomeAs : GoodIn wsX7_keep (wsV RX7 251 RX4 yX4_becomeAs wsX4_becomeAs) := goodIn_app (goodIn_of _ (by decide +kernel)) ggX7_keep_X4_becomeAs
set_option maxRecDepth 20000 in
theorem ggX7_keep_X1_clear : GoodIn wsX7_keep wsX1_clear := goodIn_r _ [30, 31, 32, 47, 48, 49, 50] (by decide +kernel) (by decide +kernel)
set_option maxRecDepth 20000 in
theorem gX7_keep_X1_clear : GoodIn wsX7_keep (wsV RX7 258 RX1 yX1_clear wsX1_clear) := goodIn_app (goodIn_of _ (by decide +kernel)) ggX7_keep_X1_clear
theorem dX7_keep_0 : decode cX7_keep 0 = .ok (.iload_n 1, 1) := by decide +kernel
theorem dX7_keep_1 : decode cX7_keep 1 = .ok (.invokestatic 244, 3) := by decide +kernel
theorem dX7_keep_4 : decode cX7_keep 4 = .ok (.ifCond .ne 6, 3) := by decide +kernel
theorem dX7_keep_7 : decode cX7_keep 7 = .ok (.ldc 61, 2) := by decide +kernel
theorem dX7_keep_9 : decode cX7_keep 9 = .ok (.ireturn, 1) := by decide +kernel
theorem dX7_keep_10 : decode cX7_keep 10 = .ok (.aload_n 0, 1) := by decide +kernel
theorem dX7_keep_11 : decode cX7_keep 11 = .ok (.iload_n 1, 1) := by decide +kernel
theorem dX7_keep_12 : decode cX7_keep 12 = .ok (.invokevirtual 247, 3) := by decide +kernel
theorem dX7_keep_15 : decode cX7_keep 15 = .ok (.aload_n 0, 1) := by decide +kernel
theorem dX7_keep_16 : decode cX7_keep 16 = .ok (.getfield 12, 3) := by decide +kernel
theorem dX7_keep_19 : decode cX7_keep 19 = .ok (.invokevirtual 251, 3) := by decide +kernel
theorem dX7_keep_22 : decode cX7_keep 22 = .ok (.aload_n 0, 1) := by decide +kernel
theorem dX7_keep_23 : decode cX7_keep 23 = .ok (.dup, 1) := by decide +kernel
theorem dX7_keep_24 : decode cX7_keep 24 = .ok (.getfield 255, 3) := by decide +kernel
theorem dX7_keep_27 : decode cX7_keep 27 = .ok (.iconst 1, 1) := by decide +kernel
theorem dX7_keep_28 : decode cX7_keep 28 = .ok (.iload_n 1, 1) := by decide +kernel
theorem dX7_keep_29 : decode cX7_keep 29 = .ok (.ishl, 1) := by decide +kernel
theorem dX7_keep_30 : decode cX7_keep 30 = .ok (.ior, 1) := by decide +kernel
theorem dX7_keep_31 : decode cX7_keep 31 = .ok (.putfield 255, 3) := by decide +kernel
theorem dX7_keep_34 : decode cX7_keep 34 = .ok (.aload_n 0, 1) := by decide +kernel
theorem dX7_keep_35 : decode cX7_keep 35 = .ok (.getfield 46, 3) := by decide +kernel
theorem dX7_keep_38 : decode cX7_keep 38 = .ok (.invokevirtual 258, 3) := by decide +kernel
theorem dX7_keep_41 : decode cX7_keep 41 = .ok (.iconst 1, 1) := by decide +kernel
theorem dX7_keep_42 : decode cX7_keep 42 = .ok (.ireturn, 1) := by decide +kernel
set_option maxRecDepth 20000 in
theorem ggX7_goBack_X7_isImage : GoodIn wsX7_goBack wsX7_isImage := goodIn_r _ [9] (by decide +kernel) (by decide +kernel)
set_option maxRecDepth 20000 in
theorem gX7_goBack_X7_isImage : GoodIn wsX7_goBack (va_wsS RX7 244 yX7_isImage wsX7_isImage) := goodIn_app (goodIn_of _ (by decide +kernel)) ggX7_goBack_X7_isImage
set_option maxRecDepth 20000 in
theorem ggX7_goBack_X7_imageOf : GoodIn wsX7_goBack wsX7_imageOf := goodIn_r _ [13, 14, 15, 34, 35, 36, 37, 38, 39, 40, 41, 42, 43, 44, 45] (by decide +kernel) (by decide +kernel)
set_option maxRecDepth 20000 in
theorem gX7_goBack_X7_imageOf : GoodIn wsX7_goBack (wsV RX7 247 RX7 yX7_imageOf wsX7_imageOf) := goodIn_app (goodIn_of _ (by decide +kernel)) ggX7_goBack_X7_imageOf
set_option maxRecDepth 20000 in
theorem ggX7_goBack_X4_becomeAs : GoodIn wsX7_goBack wsX4_becomeAs := goodIn_r _ [20, 21, 22, 23, 24, 25, 26, 46, 47] (by decide +kernel) (by decide +kernel)
set_option maxRecDepth 20000 in
theorem gX7_goBack_X4_becomeAs : GoodIn wsX7_goBack (wsV RX7 251 RX4 yX4_becomeAs wsX4_becomeAs) := goodIn_app (goodIn_of _ (by decide +kernel)) ggX7_goBack_X4_becomeAs
set_option maxRecDepth 20000 in
theorem ggX7_goBack_X1_clear : GoodIn wsX7_goBack wsX1_clear := goodIn_r _ [31, 32, 33, 48, 49, 50, 51] (by decide +kernel) (by decide +kernel)
set_option maxRecDepth 20000 in
theorem gX7_goBack_X1_clear : GoodIn wsX7_goBack (wsV RX7 258 RX1 yX1_clear wsX1_clear) := goodIn_app (goodIn_of _ (by decide +kernel)) ggX7_goBack_X1_clear
theorem dX7_goBack_0 : decode cX7_goBack 0 = .ok (.iload_n 1, 1) := by decide +kernel
theorem dX7_goBack_1 : decode cX7_goBack 1 = .ok (.invokestatic 244, 3) := by decide +kernel
theorem dX7_goBack_4 : decode cX7_goBack 4 = .ok (.ifCond .ne 6, 3) := by decide +kernel
theorem dX7_goBack_7 : decode cX7_goBack 7 = .ok (.ldc 61, 2) := by decide +kernel
theorem dX7_goBack_9 : decode cX7_goBack 9 = .ok (.ireturn, 1) := by decide +kernel
theorem dX7_goBack_10 : decode cX7_goBack 10 = .ok (.aload_n 0, 1) := by decide +kernel
theorem dX7_goBack_11 : decode cX7_goBack 11 = .ok (.getfield 255, 3) := by decide +kernel
theorem dX7_goBack_14 : decode cX7_goBack 14 = .ok (.iload_n 1, 1) := by decide +kernel
theorem dX7_goBack_15 : decode cX7_goBack 15 = .ok (.ishr, 1) := by decide +kernel
theorem dX7_goBack_16 : decode cX7_goBack 16 = .ok (.iconst 1, 1) := by decide +kernel
theorem dX7_goBack_17 : decode cX7_goBack 17 = .ok (.iand, 1) := by decide +kernel
theorem dX7_goBack_18 : decode cX7_goBack 18 = .ok (.ifCond .ne 6, 3) := by decide +kernel
theorem dX7_goBack_21 : decode cX7_goBack 21 = .ok (.ldc 141, 2) := by decide +kernel
theorem dX7_goBack_23 : decode cX7_goBack 23 = .ok (.ireturn, 1) := by decide +kernel
theorem dX7_goBack_24 : decode cX7_goBack 24 = .ok (.aload_n 0, 1) := by decide +kernel
theorem dX7_goBack_25 : decode cX7_goBack 25 = .ok (.getfield 12, 3) := by decide +kernel
theorem dX7_goBack_28 : decode cX7_goBack 28 = .ok (.aload_n 0, 1) := by decide +kernel
theorem dX7_goBack_29 : decode cX7_goBack 29 = .ok (.iload_n 1, 1) := by decide +kernel
theorem dX7_goBack_30 : decode cX7_goBack 30 = .ok (.invokevirtual 247, 3) := by decide +kernel
theorem dX7_goBack_33 : decode cX7_goBack 33 = .ok (.invokevirtual 251, 3) := by decide +kernel
theorem dX7_goBack_36 : decode cX7_goBack 36 = .ok (.aload_n 0, 1) := by decide +kernel
theorem dX7_goBack_37 : decode cX7_goBack 37 = .ok (.getfield 46, 3) := by decide +kernel
theorem dX7_goBack_40 : decode cX7_goBack 40 = .ok (.invokevirtual 258, 3) := by decide +kernel
theorem dX7_goBack_43 : decode cX7_goBack 43 = .ok (.iconst 1, 1) := by decide +kernel
theorem dX7_goBack_44 : decode cX7_goBack 44 = .ok (.ireturn, 1) := by decide +kernel
set_option maxRecDepth 20000 in
theorem ggX7_begin_X4_clear : GoodIn wsX7_begin wsX4_clear := goodIn_r _ [15, 16, 17, 59, 60] (by decide +kernel) (by decide +kernel)
set_option maxRecDepth 20000 in
theorem gX7_begin_X4_clear : GoodIn wsX7_begin (wsV RX7 261 RX4 yX4_clear wsX4_clear) := goodIn_app (goodIn_of _ (by decide +kernel)) ggX7_begin_X4_clear
set_option maxRecDepth 20000 in
theorem ggX7_begin_X3_clear : GoodIn wsX7_begin wsX3_clear := goodIn_r _ [22, 23, 24, 25, 61, 62, 63, 64, 65] (by decide +kernel) (by decide +kernel)
set_option maxRecDepth 20000 in
theorem gX7_begin_X3_clear : GoodIn wsX7_begin (wsV RX7 262 RX3 yX3_clear wsX3_clear) := goodIn_app (goodIn_of _ (by decide +kernel)) ggX7_begin_X3_clear
set_option maxRecDepth 20000 in
theorem ggX7_begin_X2_clear : GoodIn wsX7_begin wsX2_clear := goodIn_r _ [30, 31, 32, 66, 67, 68, 69, 70] (by decide +kernel) (by decide +kernel)
set_option maxRecDepth 20000 in
theorem gX7_begin_X2_clear : GoodIn wsX7_begin (wsV RX7 263 RX2 yX2_clear wsX2_clear) := goodIn_app (goodIn_of _ (by decide +kernel)) ggX7_begin_X2_clear
set_option maxRecDepth 20000 in
theorem ggX7_begin_X5_clear : GoodIn wsX7_begin wsX5_clear := goodIn_r _ [37, 38, 39, 71, 72, 73, 74, 75] (by decide +kernel) (by decide +kernel)
set_option maxRecDepth 20000 in
theorem gX7_begin_X5_clear : GoodIn wsX7_begin (wsV RX7 264 RX5 yX5_clear wsX5_clear) := goodIn_app (goodIn_of _ (by decide +kernel)) ggX7_begin_X5_clear
set_option maxRecDepth 20000 in
theorem ggX7_begin_X1_clear : GoodIn wsX7_begin wsX1_clear := goodIn_r _ [44, 45, 46, 76, 77, 78, 79] (by decide +kernel) (by decide +kernel)
set_option maxRecDepth 20000 in
theorem gX7_begin_X1_clear : GoodIn wsX7_begin (wsV RX7 258 RX1 yX1_clear wsX1_clear) := goodIn_app (goodIn_of _ (by decide +kernel)) ggX7_begin_X1_clear
theorem dX7_begin_0 : decode cX7_begin 0 = .ok (.aload_n 0, 1) := by decide +kernel
theorem dX7_begin_1 : decode cX7_begin 1 = .ok (.getfield 12, 3) := by decide +kernel
theorem dX7_begin_4 : decode cX7_begin 4 = .ok (.invokevirtual 261, 3) := by decide +kernel
theorem dX7_begin_7 : decode cX7_begin 7 = .ok (.aload_n 0, 1) := by decide +kernel
theorem dX7_begin_8 : decode cX7_begin 8 = .ok (.getfield 25, 3) := by decide +kernel
theorem dX7_begin_11 : decode cX7_begin 11 = .ok (.invokevirtual 262, 3) := by decide +kernel
theorem dX7_begin_14 : decode cX7_begin 14 = .ok (.aload_n 0, 1) := by decide +kernel
theorem dX7_begin_15 : decode cX7_begin 15 = .ok (.getfield 32, 3) := by decide +kernel
theorem dX7_begin_18 : decode cX7_begin 18 = .ok (.invokevirtual 263, 3) := by decide +kernel
theorem dX7_begin_21 : decode cX7_begin 21 = .ok (.aload_n 0, 1) := by decide +kernel
theorem dX7_begin_22 : decode cX7_begin 22 = .ok (.getfield 39, 3) := by decide +kernel
theorem dX7_begin_25 : decode cX7_begin 25 = .ok (.invokevirtual 264, 3) := by decide +kernel
theorem dX7_begin_28 : decode cX7_begin 28 = .ok (.aload_n 0, 1) := by decide +kernel
theorem dX7_begin_29 : decode cX7_begin 29 = .ok (.getfield 46, 3) := by decide +kernel
theorem dX7_begin_32 : decode cX7_begin 32 = .ok (.invokevirtual 258, 3) := by decide +kernel
theorem dX7_begin_35 : decode cX7_begin 35 = .ok (.aload_n 0, 1) := by decide +kernel
theorem dX7_begin_36 : decode cX7_begin 36 = .ok (.iconst 0, 1) := by decide +kernel
theorem dX7_begin_37 : decode cX7_begin 37 = .ok (.putfield 255, 3) := by decide +kernel
theorem dX7_begin_40 : decode cX7_begin 40 = .ok (.aload_n 0, 1) := by decide +kernel
theorem dX7_begin_41 : decode cX7_begin 41 = .ok (.iconst 1, 1) := by decide +kernel
theorem dX7_begin_42 : decode cX7_begin 42 = .ok (.putfield 187, 3) := by decide +kernel
theorem dX7_begin_45 : decode cX7_begin 45 = .ok (.aload_n 0, 1) := by decide +kernel
theorem dX7_begin_46 : decode cX7_begin 46 = .ok (.iconst 0, 1) := by decide +kernel
theorem dX7_begin_47 : decode cX7_begin 47 = .ok (.putfield 53, 3) := by decide +kernel
theorem dX7_begin_50 : decode cX7_begin 50 = .ok (.aload_n 0, 1) := by decide +kernel
theorem dX7_begin_51 : decode cX7_begin 51 = .ok (.iconst 0, 1) := by decide +kernel
theorem dX7_begin_52 : decode cX7_begin 52 = .ok (.putfield 118, 3) := by decide +kernel
theorem dX7_begin_55 : decode cX7_begin 55 = .ok (.aload_n 0, 1) := by decide +kernel
theorem dX7_begin_56 : decode cX7_begin 56 = .ok (.lconst 0, 1) := by decide +kernel
theorem dX7_begin_57 : decode cX7_begin 57 = .ok (.putfield 202, 3) := by decide +kernel
theorem dX7_begin_60 : decode cX7_begin 60 = .ok (.return_, 1) := by decide +kernel
theorem dX7_isRegister_0 : decode cX7_isRegister 0 = .ok (.iload_n 0, 1) := by decide +kernel
theorem dX7_isRegister_1 : decode cX7_isRegister 1 = .ok (.ifCond .lt 13, 3) := by decide +kernel
theorem dX7_isRegister_4 : decode cX7_isRegister 4 = .ok (.iload_n 0, 1) := by decide +kernel
theorem dX7_isRegister_5 : decode cX7_isRegister 5 = .ok (.bipush 8, 2) := by decide +kernel
theorem dX7_isRegister_7 : decode cX7_isRegister 7 = .ok (.if_icmp .ge 7, 3) := by decide +kernel
theorem dX7_isRegister_10 : decode cX7_isRegister 10 = .ok (.iconst 1, 1) := by decide +kernel
theorem dX7_isRegister_11 : decode cX7_isRegister 11 = .ok (.goto 4, 3) := by decide +kernel
theorem dX7_isRegister_14 : decode cX7_isRegister 14 = .ok (.iconst 0, 1) := by decide +kernel
theorem dX7_isRegister_15 : decode cX7_isRegister 15 = .ok (.ireturn, 1) := by decide +kernel
theorem dX7_isOctet_0 : decode cX7_isOctet 0 = .ok (.iload_n 0, 1) := by decide +kernel
theorem dX7_isOctet_1 : decode cX7_isOctet 1 = .ok (.ifCond .lt 13, 3) := by decide +kernel
theorem dX7_isOctet_4 : decode cX7_isOctet 4 = .ok (.iload_n 0, 1) := by decide +kernel
theorem dX7_isOctet_5 : decode cX7_isOctet 5 = .ok (.bipush 32, 2) := by decide +kernel
theorem dX7_isOctet_7 : decode cX7_isOctet 7 = .ok (.if_icmp .ge 7, 3) := by decide +kernel
theorem dX7_isOctet_10 : decode cX7_isOctet 10 = .ok (.iconst 1, 1) := by decide +kernel
theorem dX7_isOctet_11 : decode cX7_isOctet 11 = .ok (.goto 4, 3) := by decide +kernel
theorem dX7_isOctet_14 : decode cX7_isOctet 14 = .ok (.iconst 0, 1) := by decide +kernel
theorem dX7_isOctet_15 : decode cX7_isOctet 15 = .ok (.ireturn, 1) := by decide +kernel
theorem dX7_isImage_0 : decode cX7_isImage 0 = .ok (.iload_n 0, 1) := by decide +kernel
theorem dX7_isImage_1 : decode cX7_isImage 1 = .ok (.ifCond .lt 12, 3) := by decide +kernel
theorem dX7_isImage_4 : decode cX7_isImage 4 = .ok (.iload_n 0, 1) := by decide +kernel
theorem dX7_isImage_5 : decode cX7_isImage 5 = .ok (.iconst 2, 1) := by decide +kernel
theorem dX7_isImage_6 : decode cX7_isImage 6 = .ok (.if_icmp .ge 7, 3) := by decide +kernel
theorem dX7_isImage_9 : decode cX7_isImage 9 = .ok (.iconst 1, 1) := by decide +kernel
theorem dX7_isImage_10 : decode cX7_isImage 10 = .ok (.goto 4, 3) := by decide +kernel
theorem dX7_isImage_13 : decode cX7_isImage 13 = .ok (.iconst 0, 1) := by decide +kernel
theorem dX7_isImage_14 : decode cX7_isImage 14 = .ok (.ireturn, 1) := by decide +kernel
theorem dX7_imageOf_0 : decode cX7_imageOf 0 = .ok (.iload_n 1, 1) := by decide +kernel
theorem dX7_imageOf_1 : decode cX7_imageOf 1 = .ok (.ifCond .ne 10, 3) := by decide +kernel
theorem dX7_imageOf_4 : decode cX7_imageOf 4 = .ok (.aload_n 0, 1) := by decide +kernel
theorem dX7_imageOf_5 : decode cX7_imageOf 5 = .ok (.getfield 16, 3) := by decide +kernel
theorem dX7_imageOf_8 : decode cX7_imageOf 8 = .ok (.goto 7, 3) := by decide +kernel
theorem dX7_imageOf_11 : decode cX7_imageOf 11 = .ok (.aload_n 0, 1) := by decide +kernel
theorem dX7_imageOf_12 : decode cX7_imageOf 12 = .ok (.getfield 19, 3) := by decide +kernel
theorem dX7_imageOf_15 : decode cX7_imageOf 15 = .ok (.areturn, 1) := by decide +kernel
theorem dX7_isByte_0 : decode cX7_isByte 0 = .ok (.iload_n 0, 1) := by decide +kernel
theorem dX7_isByte_1 : decode cX7_isByte 1 = .ok (.ifCond .lt 14, 3) := by decide +kernel
theorem dX7_isByte_4 : decode cX7_isByte 4 = .ok (.iload_n 0, 1) := by decide +kernel
theorem dX7_isByte_5 : decode cX7_isByte 5 = .ok (.sipush 255, 3) := by decide +kernel
theorem dX7_isByte_8 : decode cX7_isByte 8 = .ok (.if_icmp .gt 7, 3) := by decide +kernel
theorem dX7_isByte_11 : decode cX7_isByte 11 = .ok (.iconst 1, 1) := by decide +kernel
theorem dX7_isByte_12 : decode cX7_isByte 12 = .ok (.goto 4, 3) := by decide +kernel
theorem dX7_isByte_15 : decode cX7_isByte 15 = .ok (.iconst 0, 1) := by decide +kernel
theorem dX7_isByte_16 : decode cX7_isByte 16 = .ok (.ireturn, 1) := by decide +kernel
theorem dX7_isSort_0 : decode cX7_isSort 0 = .ok (.iload_n 0, 1) := by decide +kernel
theorem dX7_isSort_1 : decode cX7_isSort 1 = .ok (.ifCond .lt 13, 3) := by decide +kernel
theorem dX7_isSort_4 : decode cX7_isSort 4 = .ok (.iload_n 0, 1) := by decide +kernel
theorem dX7_isSort_5 : decode cX7_isSort 5 = .ok (.bipush 7, 2) := by decide +kernel
theorem dX7_isSort_7 : decode cX7_isSort 7 = .ok (.if_icmp .ge 7, 3) := by decide +kernel
theorem dX7_isSort_10 : decode cX7_isSort 10 = .ok (.iconst 1, 1) := by decide +kernel
theorem dX7_isSort_11 : decode cX7_isSort 11 = .ok (.goto 4, 3) := by decide +kernel
theorem dX7_isSort_14 : decode cX7_isSort 14 = .ok (.iconst 0, 1) := by decide +kernel
theorem dX7_isSort_15 : decode cX7_isSort 15 = .ok (.ireturn, 1) := by decide +kernel
theorem dX7_octetSet_0 : decode cX7_octetSet 0 = .ok (.iconst 1, 1) := by decide +kernel
theorem dX7_octetSet_1 : decode cX7_octetSet 1 = .ok (.iload_n 1, 1) := by decide +kernel
theorem dX7_octetSet_2 : decode cX7_octetSet 2 = .ok (.ishl, 1) := by decide +kernel
theorem dX7_octetSet_3 : decode cX7_octetSet 3 = .ok (.iconst 1, 1) := by decide +kernel
theorem dX7_octetSet_4 : decode cX7_octetSet 4 = .ok (.isub, 1) := by decide +kernel
theorem dX7_octetSet_5 : decode cX7_octetSet 5 = .ok (.iload_n 0, 1) := by decide +kernel
theorem dX7_octetSet_6 : decode cX7_octetSet 6 = .ok (.ishl, 1) := by decide +kernel
theorem dX7_octetSet_7 : decode cX7_octetSet 7 = .ok (.ireturn, 1) := by decide +kernel
set_option maxRecDepth 20000 in
theorem ggX7_tick_X5_add : GoodIn wsX7_tick wsX5_add := goodIn_r _ [9, 10, 11, 12, 13, 14, 15, 16, 17, 18, 31, 32, 33, 34, 35] (by decide +kernel) (by decide +kernel)
set_option maxRecDepth 20000 in
theorem gX7_tick_X5_add : GoodIn wsX7_tick (wsV RX7 265 RX5 yX5_add wsX5_add) := goodIn_app (goodIn_of _ (by decide +kernel)) ggX7_tick_X5_add
theorem dX7_tick_0 : decode cX7_tick 0 = .ok (.aload_n 0, 1) := by decide +kernel
theorem dX7_tick_1 : decode cX7_tick 1 = .ok (.getfield 39, 3) := by decide +kernel
theorem dX7_tick_4 : decode cX7_tick 4 = .ok (.iload_n 1, 1) := by decide +kernel
theorem dX7_tick_5 : decode cX7_tick 5 = .ok (.aload_n 0, 1) := by decide +kernel
theorem dX7_tick_6 : decode cX7_tick 6 = .ok (.getfield 53, 3) := by decide +kernel
theorem dX7_tick_9 : decode cX7_tick 9 = .ok (.iload_n 2, 1) := by decide +kernel
theorem dX7_tick_10 : decode cX7_tick 10 = .ok (.invokevirtual 265, 3) := by decide +kernel
theorem dX7_tick_13 : decode cX7_tick 13 = .ok (.aload_n 0, 1) := by decide +kernel
theorem dX7_tick_14 : decode cX7_tick 14 = .ok (.ldc2_w 266, 3) := by decide +kernel
theorem dX7_tick_17 : decode cX7_tick 17 = .ok (.aload_n 0, 1) := by decide +kernel
theorem dX7_tick_18 : decode cX7_tick 18 = .ok (.getfield 202, 3) := by decide +kernel
theorem dX7_tick_21 : decode cX7_tick 21 = .ok (.lmul, 1) := by decide +kernel
theorem dX7_tick_22 : decode cX7_tick 22 = .ok (.iload_n 2, 1) := by decide +kernel
theorem dX7_tick_23 : decode cX7_tick 23 = .ok (.i2l, 1) := by decide +kernel
theorem dX7_tick_24 : decode cX7_tick 24 = .ok (.ladd, 1) := by decide +kernel
theorem dX7_tick_25 : decode cX7_tick 25 = .ok (.putfield 202, 3) := by decide +kernel
theorem dX7_tick_28 : decode cX7_tick 28 = .ok (.aload_n 0, 1) := by decide +kernel
theorem dX7_tick_29 : decode cX7_tick 29 = .ok (.dup, 1) := by decide +kernel
theorem dX7_tick_30 : decode cX7_tick 30 = .ok (.getfield 53, 3) := by decide +kernel
theorem dX7_tick_33 : decode cX7_tick 33 = .ok (.iconst 1, 1) := by decide +kernel
theorem dX7_tick_34 : decode cX7_tick 34 = .ok (.iadd, 1) := by decide +kernel
theorem dX7_tick_35 : decode cX7_tick 35 = .ok (.putfield 53, 3) := by decide +kernel
theorem dX7_tick_38 : decode cX7_tick 38 = .ok (.iload_n 2, 1) := by decide +kernel
theorem dX7_tick_39 : decode cX7_tick 39 = .ok (.ireturn, 1) := by decide +kernel
set_option maxRecDepth 20000 in
theorem ggX7_shadowOfRegister_X0_shadowOf : GoodIn wsX7_shadowOfRegister wsX0_shadowOf := goodIn_r _ [6] (by decide +kernel) (by decide +kernel)
set_option maxRecDepth 20000 in
theorem gX7_shadowOfRegister_X0_shadowOf : GoodIn wsX7_shadowOfRegister (va_wsS RX7 91 yX0_shadowOf wsX0_shadowOf) := goodIn_app (goodIn_of _ (by decide +kernel)) ggX7_shadowOfRegister_X0_shadowOf
theorem dX7_shadowOfRegister_0 : decode cX7_shadowOfRegister 0 = .ok (.aload_n 0, 1) := by decide +kernel
theorem dX7_shadowOfRegister_1 : decode cX7_shadowOfRegister 1 = .ok (.getfield 12, 3) := by decide +kernel
theorem dX7_shadowOfRegister_4 : decode cX7_shadowOfRegister 4 = .ok (.getfield 66, 3) := by decide +kernel
theorem dX7_shadowOfRegister_7 : decode cX7_shadowOfRegister 7 = .ok (.iload_n 1, 1) := by decide +kernel
theorem dX7_shadowOfRegister_8 : decode cX7_shadowOfRegister 8 = .ok (.iaload, 1) := by decide +kernel
theorem dX7_shadowOfRegister_9 : decode cX7_shadowOfRegister 9 = .ok (.invokestatic 91, 3) := by decide +kernel
theorem dX7_shadowOfRegister_12 : decode cX7_shadowOfRegister 12 = .ok (.ireturn, 1) := by decide +kernel
set_option maxRecDepth 20000 in
theorem ggX7_changeRegister_X1_add : GoodIn wsX7_changeRegister wsX1_add := goodIn_r _ [8, 9, 10, 11, 12, 13, 14, 15, 16, 31, 32, 33, 34] (by decide +kernel) (by decide +kernel)
set_option maxRecDepth 20000 in
theorem gX7_changeRegister_X1_add : GoodIn wsX7_changeRegister (wsV RX7 268 RX1 yX1_add wsX1_add) := goodIn_app (goodIn_of _ (by decide +kernel)) ggX7_changeRegister_X1_add
theorem dX7_changeRegister_0 : decode cX7_changeRegister 0 = .ok (.aload_n 0, 1) := by decide +kernel
theorem dX7_changeRegister_1 : decode cX7_changeRegister 1 = .ok (.getfield 46, 3) := by decide +kernel
theorem dX7_changeRegister_4 : decode cX7_changeRegister 4 = .ok (.iload_n 1, 1) := by decide +kernel
theorem dX7_changeRegister_5 : decode cX7_changeRegister 5 = .ok (.aload_n 0, 1) := by decide +kernel
theorem dX7_changeRegister_6 : decode cX7_changeRegister 6 = .ok (.getfield 12, 3) := by decide +kernel
theorem dX7_changeRegister_9 : decode cX7_changeRegister 9 = .ok (.getfield 66, 3) := by decide +kernel
theorem dX7_changeRegister_12 : decode cX7_changeRegister 12 = .ok (.iload_n 1, 1) := by decide +kernel
theorem dX7_changeRegister_13 : decode cX7_changeRegister 13 = .ok (.iaload, 1) := by decide +kernel
theorem dX7_changeRegister_14 : decode cX7_changeRegister 14 = .ok (.invokevirtual 268, 3) := by decide +kernel
theorem dX7_changeRegister_17 : decode cX7_changeRegister 17 = .ok (.aload_n 0, 1) := by decide +kernel
theorem dX7_changeRegister_18 : decode cX7_changeRegister 18 = .ok (.getfield 12, 3) := by decide +kernel
theorem dX7_changeRegister_21 : decode cX7_changeRegister 21 = .ok (.getfield 66, 3) := by decide +kernel
theorem dX7_changeRegister_24 : decode cX7_changeRegister 24 = .ok (.iload_n 1, 1) := by decide +kernel
theorem dX7_changeRegister_25 : decode cX7_changeRegister 25 = .ok (.iload_n 2, 1) := by decide +kernel
theorem dX7_changeRegister_26 : decode cX7_changeRegister 26 = .ok (.iastore, 1) := by decide +kernel
theorem dX7_changeRegister_27 : decode cX7_changeRegister 27 = .ok (.return_, 1) := by decide +kernel
set_option maxRecDepth 20000 in
theorem ggX7_changeOctet_X1_add : GoodIn wsX7_changeOctet wsX1_add := goodIn_r _ [9, 10, 11, 12, 13, 14, 15, 16, 17, 36, 37, 38, 39] (by decide +kernel) (by decide +kernel)
set_option maxRecDepth 20000 in
theorem gX7_changeOctet_X1_add : GoodIn wsX7_changeOctet (wsV RX7 268 RX1 yX1_add wsX1_add) := goodIn_app (goodIn_of _ (by decide +kernel)) ggX7_changeOctet_X1_add
set_option maxRecDepth 20000 in
theorem ggX7_changeOctet_X7_octetSet : GoodIn wsX7_changeOctet wsX7_octetSet := goodIn_r _ [21] (by decide +kernel) (by decide +kernel)
set_option maxRecDepth 20000 in
theorem gX7_changeOctet_X7_octetSet : GoodIn wsX7_changeOctet (va_wsS RX7 156 yX7_octetSet wsX7_octetSet) := goodIn_app (goodIn_of _ (by decide +kernel)) ggX7_changeOctet_X7_octetSet
theorem dX7_changeOctet_0 : decode cX7_changeOctet 0 = .ok (.aload_n 0, 1) := by decide +kernel
theorem dX7_changeOctet_1 : decode cX7_changeOctet 1 = .ok (.getfield 46, 3) := by decide +kernel
theorem dX7_changeOctet_4 : decode cX7_changeOctet 4 = .ok (.bipush 8, 2) := by decide +kernel
theorem dX7_changeOctet_6 : decode cX7_changeOctet 6 = .ok (.iload_n 1, 1) := by decide +kernel
theorem dX7_changeOctet_7 : decode cX7_changeOctet 7 = .ok (.iadd, 1) := by decide +kernel
theorem dX7_changeOctet_8 : decode cX7_changeOctet 8 = .ok (.aload_n 0, 1) := by decide +kernel
theorem dX7_changeOctet_9 : decode cX7_changeOctet 9 = .ok (.getfield 12, 3) := by decide +kernel
theorem dX7_changeOctet_12 : decode cX7_changeOctet 12 = .ok (.getfield 66, 3) := by decide +kernel
theorem dX7_changeOctet_15 : decode cX7_changeOctet 15 = .ok (.bipush 8, 2) := by decide +kernel
theorem dX7_changeOctet_17 : decode cX7_changeOctet 17 = .ok (.iload_n 1, 1) := by decide +kernel
theorem dX7_changeOctet_18 : decode cX7_changeOctet 18 = .ok (.iadd, 1) := by decide +kernel
theorem dX7_changeOctet_19 : decode cX7_changeOctet 19 = .ok (.iaload, 1) := by decide +kernel
theorem dX7_changeOctet_20 : decode cX7_changeOctet 20 = .ok (.invokevirtual 268, 3) := by decide +kernel
theorem dX7_changeOctet_23 : decode cX7_changeOctet 23 = .ok (.aload_n 0, 1) := by decide +kernel
theorem dX7_changeOctet_24 : decode cX7_changeOctet 24 = .ok (.getfield 12, 3) := by decide +kernel
theorem dX7_changeOctet_27 : decode cX7_changeOctet 27 = .ok (.getfield 66, 3) := by decide +kernel
theorem dX7_changeOctet_30 : decode cX7_changeOctet 30 = .ok (.bipush 8, 2) := by decide +kernel
theorem dX7_changeOctet_32 : decode cX7_changeOctet 32 = .ok (.iload_n 1, 1) := by decide +kernel
theorem dX7_changeOctet_33 : decode cX7_changeOctet 33 = .ok (.iadd, 1) := by decide +kernel
theorem dX7_changeOctet_34 : decode cX7_changeOctet 34 = .ok (.iload_n 2, 1) := by decide +kernel
theorem dX7_changeOctet_35 : decode cX7_changeOctet 35 = .ok (.iastore, 1) := by decide +kernel
theorem dX7_changeOctet_36 : decode cX7_changeOctet 36 = .ok (.aload_n 0, 1) := by decide +kernel
theorem dX7_changeOctet_37 : decode cX7_changeOctet 37 = .ok (.getfield 12, 3) := by decide +kernel
theorem dX7_changeOctet_40 : decode cX7_changeOctet 40 = .ok (.dup, 1) := by decide +kernel
theorem dX7_changeOctet_41 : decode cX7_changeOctet 41 = .ok (.getfield 153, 3) := by decide +kernel
theorem dX7_changeOctet_44 : decode cX7_changeOctet 44 = .ok (.iload_n 1, 1) := by decide +kernel
theorem dX7_changeOctet_45 : decode cX7_changeOctet 45 = .ok (.iconst 1, 1) := by decide +kernel
theorem dX7_changeOctet_46 : decode cX7_changeOctet 46 = .ok (.invokestatic 156, 3) := by decide +kernel
theorem dX7_changeOctet_49 : decode cX7_changeOctet 49 = .ok (.iconst (-1), 1) := by decide +kernel
theorem dX7_changeOctet_50 : decode cX7_changeOctet 50 = .ok (.ixor, 1) := by decide +kernel
theorem dX7_changeOctet_51 : decode cX7_changeOctet 51 = .ok (.iand, 1) := by decide +kernel
theorem dX7_changeOctet_52 : decode cX7_changeOctet 52 = .ok (.putfield 153, 3) := by decide +kernel
theorem dX7_changeOctet_55 : decode cX7_changeOctet 55 = .ok (.return_, 1) := by decide +kernel
set_option maxRecDepth 20000 in
theorem ggX7_readOctet_X4_isDead : GoodIn wsX7_readOctet wsX4_isDead := goodIn_r _ [11, 12, 40, 41] (by decide +kernel) (by decide +kernel)
set_option maxRecDepth 20000 in
theorem gX7_readOctet_X4_isDead : GoodIn wsX7_readOctet (wsV RX7 212 RX4 yX4_isDead wsX4_isDead) := goodIn_app (goodIn_of _ (by decide +kernel)) ggX7_readOctet_X4_isDead
set_option maxRecDepth 20000 in
theorem ggX7_readOctet_X2_add : GoodIn wsX7_readOctet wsX2_add := goodIn_r _ [17, 18, 19, 20, 21, 22, 42, 43, 44, 45, 46] (by decide +kernel) (by decide +kernel)
set_option maxRecDepth 20000 in
theorem gX7_readOctet_X2_add : GoodIn wsX7_readOctet (wsV RX7 133 RX2 yX2_add wsX2_add) := goodIn_app (goodIn_of _ (by decide +kernel)) ggX7_readOctet_X2_add
theorem dX7_readOctet_0 : decode cX7_readOctet 0 = .ok (.aload_n 0, 1) := by decide +kernel
theorem dX7_readOctet_1 : decode cX7_readOctet 1 = .ok (.getfield 25, 3) := by decide +kernel
theorem dX7_readOctet_4 : decode cX7_readOctet 4 = .ok (.getfield 215, 3) := by decide +kernel
theorem dX7_readOctet_7 : decode cX7_readOctet 7 = .ok (.iload_n 1, 1) := by decide +kernel
theorem dX7_readOctet_8 : decode cX7_readOctet 8 = .ok (.iaload, 1) := by decide +kernel
theorem dX7_readOctet_9 : decode cX7_readOctet 9 = .ok (.istore_n 2, 1) := by decide +kernel
theorem dX7_readOctet_10 : decode cX7_readOctet 10 = .ok (.aload_n 0, 1) := by decide +kernel
theorem dX7_readOctet_11 : decode cX7_readOctet 11 = .ok (.getfield 12, 3) := by decide +kernel
theorem dX7_readOctet_14 : decode cX7_readOctet 14 = .ok (.iload_n 1, 1) := by decide +kernel
theorem dX7_readOctet_15 : decode cX7_readOctet 15 = .ok (.invokevirtual 212, 3) := by decide +kernel
theorem dX7_readOctet_18 : decode cX7_readOctet 18 = .ok (.ifCond .eq 23, 3) := by decide +kernel
theorem dX7_readOctet_21 : decode cX7_readOctet 21 = .ok (.iload_n 2, 1) := by decide +kernel
theorem dX7_readOctet_22 : decode cX7_readOctet 22 = .ok (.iconst (-1), 1) := by decide +kernel
theorem dX7_readOctet_23 : decode cX7_readOctet 23 = .ok (.if_icmp .eq 18, 3) := by decide +kernel
theorem dX7_readOctet_26 : decode cX7_readOctet 26 = .ok (.aload_n 0, 1) := by decide +kernel
theorem dX7_readOctet_27 : decode cX7_readOctet 27 = .ok (.getfield 32, 3) := by decide +kernel
theorem dX7_readOctet_30 : decode cX7_readOctet 30 = .ok (.iconst 2, 1) := by decide +kernel
theorem dX7_readOctet_31 : decode cX7_readOctet 31 = .ok (.aload_n 0, 1) := by decide +kernel
theorem dX7_readOctet_32 : decode cX7_readOctet 32 = .ok (.getfield 53, 3) := by decide +kernel
theorem dX7_readOctet_35 : decode cX7_readOctet 35 = .ok (.iconst 1, 1) := by decide +kernel
theorem dX7_readOctet_36 : decode cX7_readOctet 36 = .ok (.iload_n 2, 1) := by decide +kernel
theorem dX7_readOctet_37 : decode cX7_readOctet 37 = .ok (.ishl, 1) := by decide +kernel
theorem dX7_readOctet_38 : decode cX7_readOctet 38 = .ok (.invokevirtual 133, 3) := by decide +kernel
theorem dX7_readOctet_41 : decode cX7_readOctet 41 = .ok (.aload_n 0, 1) := by decide +kernel
theorem dX7_readOctet_42 : decode cX7_readOctet 42 = .ok (.getfield 12, 3) := by decide +kernel
theorem dX7_readOctet_45 : decode cX7_readOctet 45 = .ok (.getfield 66, 3) := by decide +kernel
theorem dX7_readOctet_48 : decode cX7_readOctet 48 = .ok (.bipush 8, 2) := by decide +kernel
theorem dX7_readOctet_50 : decode cX7_readOctet 50 = .ok (.iload_n 1, 1) := by decide +kernel
theorem dX7_readOctet_51 : decode cX7_readOctet 51 = .ok (.iadd, 1) := by decide +kernel
theorem dX7_readOctet_52 : decode cX7_readOctet 52 = .ok (.iaload, 1) := by decide +kernel
theorem dX7_readOctet_53 : decode cX7_readOctet 53 = .ok (.ireturn, 1) := by decide +kernel
set_option maxRecDepth 20000 in
theorem ggX7_placeAt_X0_shadowOf : GoodIn wsX7_placeAt wsX0_shadowOf := goodIn_r _ [8] (by decide +kernel) (by decide +kernel)
set_option maxRecDepth 20000 in
theorem gX7_placeAt_X0_shadowOf : GoodIn wsX7_placeAt (va_wsS RX7 91 yX0_shadowOf wsX0_shadowOf) := goodIn_app (goodIn_of _ (by decide +kernel)) ggX7_placeAt_X0_shadowOf
set_option maxRecDepth 20000 in
theorem ggX7_placeAt_X0_fromOf : GoodIn wsX7_placeAt wsX0_fromOf := goodIn_r _ [11] (by decide +kernel) (by decide +kernel)
set_option maxRecDepth 20000 in
theorem gX7_placeAt_X0_fromOf : GoodIn wsX7_placeAt (va_wsS RX7 94 yX0_fromOf wsX0_fromOf) := goodIn_app (goodIn_of _ (by decide +kernel)) ggX7_placeAt_X0_fromOf
set_option maxRecDepth 20000 in
theorem ggX7_placeAt_X2_add : GoodIn wsX7_placeAt wsX2_add := goodIn_r _ [16, 17, 18, 19, 20, 21, 39, 40, 41, 42, 43] (by decide +kernel) (by decide +kernel)
set_option maxRecDepth 20000 in
theorem gX7_placeAt_X2_add : GoodIn wsX7_placeAt (wsV RX7 133 RX2 yX2_add wsX2_add) := goodIn_app (goodIn_of _ (by decide +kernel)) ggX7_placeAt_X2_add
set_option maxRecDepth 20000 in
theorem ggX7_placeAt_X0_valueOf : GoodIn wsX7_placeAt wsX0_valueOf := goodIn_r _ [24] (by decide +kernel) (by decide +kernel)
set_option maxRecDepth 20000 in
theorem gX7_placeAt_X0_valueOf : GoodIn wsX7_placeAt (va_wsS RX7 70 yX0_valueOf wsX0_valueOf) := goodIn_app (goodIn_of _ (by decide +kernel)) ggX7_placeAt_X0_valueOf
theorem dX7_placeAt_0 : decode cX7_placeAt 0 = .ok (.aload_n 0, 1) := by decide +kernel
theorem dX7_placeAt_1 : decode cX7_placeAt 1 = .ok (.getfield 12, 3) := by decide +kernel
theorem dX7_placeAt_4 : decode cX7_placeAt 4 = .ok (.getfield 66, 3) := by decide +kernel
theorem dX7_placeAt_7 : decode cX7_placeAt 7 = .ok (.iload_n 1, 1) := by decide +kernel
theorem dX7_placeAt_8 : decode cX7_placeAt 8 = .ok (.iaload, 1) := by decide +kernel
theorem dX7_placeAt_9 : decode cX7_placeAt 9 = .ok (.istore_n 2, 1) := by decide +kernel
theorem dX7_placeAt_10 : decode cX7_placeAt 10 = .ok (.iload_n 2, 1) := by decide +kernel
theorem dX7_placeAt_11 : decode cX7_placeAt 11 = .ok (.invokestatic 91, 3) := by decide +kernel
theorem dX7_placeAt_14 : decode cX7_placeAt 14 = .ok (.bipush 31, 2) := by decide +kernel
theorem dX7_placeAt_16 : decode cX7_placeAt 16 = .ok (.iand, 1) := by decide +kernel
theorem dX7_placeAt_17 : decode cX7_placeAt 17 = .ok (.ifCond .eq 19, 3) := by decide +kernel
theorem dX7_placeAt_20 : decode cX7_placeAt 20 = .ok (.aload_n 0, 1) := by decide +kernel
theorem dX7_placeAt_21 : decode cX7_placeAt 21 = .ok (.getfield 32, 3) := by decide +kernel
theorem dX7_placeAt_24 : decode cX7_placeAt 24 = .ok (.iconst 1, 1) := by decide +kernel
theorem dX7_placeAt_25 : decode cX7_placeAt 25 = .ok (.aload_n 0, 1) := by decide +kernel
theorem dX7_placeAt_26 : decode cX7_placeAt 26 = .ok (.getfield 53, 3) := by decide +kernel
theorem dX7_placeAt_29 : decode cX7_placeAt 29 = .ok (.iload_n 2, 1) := by decide +kernel
theorem dX7_placeAt_30 : decode cX7_placeAt 30 = .ok (.invokestatic 94, 3) := by decide +kernel
theorem dX7_placeAt_33 : decode cX7_placeAt 33 = .ok (.invokevirtual 133, 3) := by decide +kernel
theorem dX7_placeAt_36 : decode cX7_placeAt 36 = .ok (.iload_n 2, 1) := by decide +kernel
theorem dX7_placeAt_37 : decode cX7_placeAt 37 = .ok (.invokestatic 70, 3) := by decide +kernel
theorem dX7_placeAt_40 : decode cX7_placeAt 40 = .ok (.bipush 31, 2) := by decide +kernel
theorem dX7_placeAt_42 : decode cX7_placeAt 42 = .ok (.iand, 1) := by decide +kernel
theorem dX7_placeAt_43 : decode cX7_placeAt 43 = .ok (.ireturn, 1) := by decide +kernel
set_option maxRecDepth 20000 in
theorem ggX7_followRule_X6_cellBy : GoodIn wsX7_followRule wsX6_cellBy := goodIn_r _ [6, 7, 8, 9, 10, 11, 12, 13, 14, 15, 5, 16, 17, 18, 19, 20, 21, 22, 23, 24, 25] (by decide +kernel) (by decide +kernel)
set_option maxRecDepth 20000 in
theorem gX7_followRule_X6_cellBy : GoodIn wsX7_followRule (va_wsS RX7 270 yX6_cellBy wsX6_cellBy) := goodIn_app (goodIn_of _ (by decide +kernel)) ggX7_followRule_X6_cellBy
set_option maxRecDepth 20000 in
theorem ggX7_followRule_X7_changeRegister : GoodIn wsX7_followRule wsX7_changeRegister := goodIn_r _ [30, 31, 1, 2, 32, 33, 34, 35, 36, 37, 38, 39, 40, 41, 42, 43, 44, 69, 70, 71, 72, 73, 74, 75, 76, 77, 78, 79, 80, 81, 82, 83, 84, 85, 86] (by decide +kernel) (by decide +kernel)
set_option maxRecDepth 20000 in
theorem gX7_followRule_X7_changeRegister : GoodIn wsX7_followRule (wsV RX7 80 RX7 yX7_changeRegister wsX7_changeRegister) := goodIn_app (goodIn_of _ (by decide +kernel)) ggX7_followRule_X7_changeRegister
set_option maxRecDepth 20000 in
theorem ggX7_followRule_X7_shadowOfRegister : GoodIn wsX7_followRule wsX7_shadowOfRegister := goodIn_r _ [48, 1, 2, 49, 12, 9, 13, 69, 70, 71, 72, 73, 74, 75, 76, 77, 78, 79, 80, 81, 82] (by decide +kernel) (by decide +kernel)
set_option maxRecDepth 20000 in
theorem gX7_followRule_X7_shadowOfRegister : GoodIn wsX7_followRule (wsV RX7 97 RX7 yX7_shadowOfRegister wsX7_shadowOfRegister) := goodIn_app (goodIn_of _ (by decide +kernel)) ggX7_followRule_X7_shadowOfRegister
set_option maxRecDepth 20000 in
theorem ggX7_followRule_X7_tick : GoodIn wsX7_followRule wsX7_tick := goodIn_r _ [53, 54, 55, 56, 57, 58, 59, 60, 61, 62, 63, 64, 65, 66, 67, 68, 42, 43, 44, 69, 70, 71, 72, 73, 74, 75, 76, 77, 78, 79, 80, 87, 88, 89, 90, 91] (by decide +kernel) (by decide +kernel)
set_option maxRecDepth 20000 in
theorem gX7_followRule_X7_tick : GoodIn wsX7_followRule (wsV RX7 84 RX7 yX7_tick wsX7_tick) := goodIn_app (goodIn_of _ (by decide +kernel)) ggX7_followRule_X7_tick
theorem dX7_followRule_0 : decode cX7_followRule 0 = .ok (.aload_n 0, 1) := by decide +kernel
theorem dX7_followRule_1 : decode cX7_followRule 1 = .ok (.iload_n 2, 1) := by decide +kernel
theorem dX7_followRule_2 : decode cX7_followRule 2 = .ok (.iload_n 1, 1) := by decide +kernel
theorem dX7_followRule_3 : decode cX7_followRule 3 = .ok (.aload_n 0, 1) := by decide +kernel
theorem dX7_followRule_4 : decode cX7_followRule 4 = .ok (.getfield 12, 3) := by decide +kernel
theorem dX7_followRule_7 : decode cX7_followRule 7 = .ok (.getfield 66, 3) := by decide +kernel
theorem dX7_followRule_10 : decode cX7_followRule 10 = .ok (.iload_n 3, 1) := by decide +kernel
theorem dX7_followRule_11 : decode cX7_followRule 11 = .ok (.iaload, 1) := by decide +kernel
theorem dX7_followRule_12 : decode cX7_followRule 12 = .ok (.aload_n 0, 1) := by decide +kernel
theorem dX7_followRule_13 : decode cX7_followRule 13 = .ok (.getfield 12, 3) := by decide +kernel
theorem dX7_followRule_16 : decode cX7_followRule 16 = .ok (.getfield 66, 3) := by decide +kernel
theorem dX7_followRule_19 : decode cX7_followRule 19 = .ok (.iload 4, 2) := by decide +kernel
theorem dX7_followRule_21 : decode cX7_followRule 21 = .ok (.iaload, 1) := by decide +kernel
theorem dX7_followRule_22 : decode cX7_followRule 22 = .ok (.invokestatic 270, 3) := by decide +kernel
theorem dX7_followRule_25 : decode cX7_followRule 25 = .ok (.invokevirtual 80, 3) := by decide +kernel
theorem dX7_followRule_28 : decode cX7_followRule 28 = .ok (.aload_n 0, 1) := by decide +kernel
theorem dX7_followRule_29 : decode cX7_followRule 29 = .ok (.iconst 4, 1) := by decide +kernel
theorem dX7_followRule_30 : decode cX7_followRule 30 = .ok (.aload_n 0, 1) := by decide +kernel
theorem dX7_followRule_31 : decode cX7_followRule 31 = .ok (.iload_n 2, 1) := by decide +kernel
theorem dX7_followRule_32 : decode cX7_followRule 32 = .ok (.invokevirtual 97, 3) := by decide +kernel
theorem dX7_followRule_35 : decode cX7_followRule 35 = .ok (.invokevirtual 84, 3) := by decide +kernel
theorem dX7_followRule_38 : decode cX7_followRule 38 = .ok (.ireturn, 1) := by decide +kernel
theorem dX7_nextLot_0 : decode cX7_nextLot 0 = .ok (.aload_n 0, 1) := by decide +kernel
theorem dX7_nextLot_1 : decode cX7_nextLot 1 = .ok (.aload_n 0, 1) := by decide +kernel
theorem dX7_nextLot_2 : decode cX7_nextLot 2 = .ok (.getfield 187, 3) := by decide +kernel
theorem dX7_nextLot_5 : decode cX7_nextLot 5 = .ok (.i2l, 1) := by decide +kernel
theorem dX7_nextLot_6 : decode cX7_nextLot 6 = .ok (.ldc2_w 273, 3) := by decide +kernel
theorem dX7_nextLot_9 : decode cX7_nextLot 9 = .ok (.lmul, 1) := by decide +kernel
theorem dX7_nextLot_10 : decode cX7_nextLot 10 = .ok (.ldc2_w 275, 3) := by decide +kernel
theorem dX7_nextLot_13 : decode cX7_nextLot 13 = .ok (.lrem, 1) := by decide +kernel
theorem dX7_nextLot_14 : decode cX7_nextLot 14 = .ok (.l2i, 1) := by decide +kernel
theorem dX7_nextLot_15 : decode cX7_nextLot 15 = .ok (.putfield 187, 3) := by decide +kernel
theorem dX7_nextLot_18 : decode cX7_nextLot 18 = .ok (.aload_n 0, 1) := by decide +kernel
theorem dX7_nextLot_19 : decode cX7_nextLot 19 = .ok (.getfield 187, 3) := by decide +kernel
theorem dX7_nextLot_22 : decode cX7_nextLot 22 = .ok (.ireturn, 1) := by decide +kernel
set_option maxRecDepth 20000 in
theorem ggX7_doByLots_X7_nextLot : GoodIn wsX7_doByLots wsX7_nextLot := goodIn_r _ [5, 6, 7, 8, 140, 141, 142, 143, 144, 145, 146, 147, 148, 149, 150, 151] (by decide +kernel) (by decide +kernel)
set_option maxRecDepth 20000 in
theorem gX7_doByLots_X7_nextLot : GoodIn wsX7_doByLots (wsV RX7 149 RX7 yX7_nextLot wsX7_nextLot) := goodIn_app (goodIn_of _ (by decide +kernel)) ggX7_doByLots_X7_nextLot
set_option maxRecDepth 20000 in
theorem ggX7_doByLots_X7_followRule : GoodIn wsX7_doByLots wsX7_followRule := goodIn_r _ [12, 13, 14, 15, 16, 17, 18, 19, 20, 21, 22, 23, 24, 25, 26, 27, 28, 29, 30, 31, 32, 33, 34, 35, 36, 37, 38, 39, 40, 4, 41, 42, 43, 44, 45, 46, 47, 48, 49, 50, 51, 52, 53, 54, 55, 56, 57, 58, 59, 60, 61, 62, 63, 64, 65, 66, 67, 68, 69, 70, 71, 72, 73, 74, 75, 76, 77, 78, 79, 140, 141, 142, 143, 144, 145, 146, 147, 148, 149, 150, 151, 152, 153, 154, 155, 156, 157, 158, 159, 160, 161, 162] (by decide +kernel) (by decide +kernel)
set_option maxRecDepth 20000 in
theorem gX7_doByLots_X7_followRule : GoodIn wsX7_doByLots (wsV RX7 126 RX7 yX7_followRule wsX7_followRule) := goodIn_app (goodIn_of _ (by decide +kernel)) ggX7_doByLots_X7_followRule
set_option maxRecDepth 20000 in
theorem ggX7_doByLots_X7_load : GoodIn wsX7_doByLots wsX7_load := goodIn_r _ [83, 84, 85, 86, 4, 87, 88, 89, 90, 91, 92, 93, 94, 95, 96, 13, 97, 66, 14, 98, 99, 100, 101, 102, 103, 104, 105, 106, 107, 108, 109, 110, 111, 112, 113, 38, 39, 40, 41, 42, 43, 44, 45, 46, 47, 48, 49, 50, 51, 52, 53, 54, 55, 56, 57, 58, 59, 60, 24, 21, 25, 61, 62, 63, 64, 65, 67, 68, 69, 70, 71, 72, 73, 74, 75, 76, 77, 78, 79, 140, 141, 142, 143, 144, 145, 146, 147, 148, 149, 150, 151, 163, 164, 165, 166, 167, 152, 153, 168, 169, 170, 171, 172, 154, 155, 156, 157, 158, 159, 160, 161, 162] (by decide +kernel) (by decide +kernel)
set_option maxRecDepth 20000 in
theorem gX7_doByLots_X7_load : GoodIn wsX7_doByLots (wsV RX7 277 RX7 yX7_load wsX7_load) := goodIn_app (goodIn_of _ (by decide +kernel)) ggX7_doByLots_X7_load
set_option maxRecDepth 20000 in
theorem ggX7_doByLots_X7_store : GoodIn wsX7_doByLots wsX7_store := goodIn_r _ [117, 84, 13, 14, 85, 86, 4, 87, 88, 89, 90, 118, 119, 120, 121, 42, 122, 43, 44, 45, 46, 47, 48, 49, 50, 51, 52, 53, 54, 55, 123, 124, 125, 56, 57, 58, 59, 60, 24, 21, 25, 61, 62, 63, 64, 65, 66, 67, 68, 69, 70, 71, 72, 73, 74, 75, 76, 77, 78, 79, 140, 141, 142, 143, 144, 145, 146, 147, 148, 149, 150, 151, 152, 153, 154, 155, 156, 157, 158, 159, 160, 161, 162] (by decide +kernel) (by decide +kernel)
set_option maxRecDepth 20000 in
theorem gX7_doByLots_X7_store : GoodIn wsX7_doByLots (wsV RX7 280 RX7 yX7_store wsX7_store) := goodIn_app (goodIn_of _ (by decide +kernel)) ggX7_doByLots_X7_store
set_option maxRecDepth 20000 in
theorem ggX7_doByLots_X7_decide : GoodIn wsX7_doByLots wsX7_decide := goodIn_r _ [129, 84, 13, 14, 97, 66, 85, 86, 4, 87, 130, 131, 21, 132, 133, 134, 135, 136, 20, 22, 137, 24, 25, 138, 33, 34, 104, 105, 106, 107, 108, 109, 110, 111, 112, 113, 139, 61, 62, 63, 64, 65, 67, 68, 69, 70, 71, 72, 73, 74, 75, 76, 77, 78, 79, 53, 54, 55, 140, 141, 142, 143, 144, 145, 146, 147, 148, 149, 150, 151, 152, 153, 168, 169, 170, 171, 172, 158, 159, 160, 161, 162] (by decide +kernel) (by decide +kernel)
set_option maxRecDepth 20000 in
theorem gX7_doByLots_X7_decide : GoodIn wsX7_doByLots (wsV RX7 283 RX7 yX7_decide wsX7_decide) := goodIn_app (goodIn_of _ (by decide +kernel)) ggX7_doByLots_X7_decide
theorem dX7_doByLots_0 : decode cX7_doByLots 0 = .ok (.aload_n 0, 1) := by decide +kernel
theorem dX7_doByLots_1 : decode cX7_doByLots 1 = .ok (.invokevirtual 149, 3) := by decide +kernel
theorem dX7_doByLots_4 : decode cX7_doByLots 4 = .ok (.iconst 4, 1) := by decide +kernel
theorem dX7_doByLots_5 : decode cX7_doByLots 5 = .ok (.irem, 1) := by decide +kernel
theorem dX7_doByLots_6 : decode cX7_doByLots 6 = .ok (.istore_n 1, 1) := by decide +kernel
theorem dX7_doByLots_7 : decode cX7_doByLots 7 = .ok (.iload_n 1, 1) := by decide +kernel
theorem dX7_doByLots_8 : decode cX7_doByLots 8 = .ok (.ifCond .ne 47, 3) := by decide +kernel
theorem dX7_doByLots_11 : decode cX7_doByLots 11 = .ok (.aload_n 0, 1) := by decide +kernel
theorem dX7_doByLots_12 : decode cX7_doByLots 12 = .ok (.invokevirtual 149, 3) := by decide +kernel
theorem dX7_doByLots_15 : decode cX7_doByLots 15 = .ok (.bipush 7, 2) := by decide +kernel
theorem dX7_doByLots_17 : decode cX7_doByLots 17 = .ok (.irem, 1) := by decide +kernel
theorem dX7_doByLots_18 : decode cX7_doByLots 18 = .ok (.istore_n 2, 1) := by decide +kernel
theorem dX7_doByLots_19 : decode cX7_doByLots 19 = .ok (.aload_n 0, 1) := by decide +kernel
theorem dX7_doByLots_20 : decode cX7_doByLots 20 = .ok (.invokevirtual 149, 3) := by decide +kernel
theorem dX7_doByLots_23 : decode cX7_doByLots 23 = .ok (.bipush 8, 2) := by decide +kernel
theorem dX7_doByLots_25 : decode cX7_doByLots 25 = .ok (.irem, 1) := by decide +kernel
theorem dX7_doByLots_26 : decode cX7_doByLots 26 = .ok (.istore_n 3, 1) := by decide +kernel
theorem dX7_doByLots_27 : decode cX7_doByLots 27 = .ok (.aload_n 0, 1) := by decide +kernel
theorem dX7_doByLots_28 : decode cX7_doByLots 28 = .ok (.invokevirtual 149, 3) := by decide +kernel
theorem dX7_doByLots_31 : decode cX7_doByLots 31 = .ok (.bipush 8, 2) := by decide +kernel
theorem dX7_doByLots_33 : decode cX7_doByLots 33 = .ok (.irem, 1) := by decide +kernel
theorem dX7_doByLots_34 : decode cX7_doByLots 34 = .ok (.istore 4, 2) := by decide +kernel
theorem dX7_doByLots_36 : decode cX7_doByLots 36 = .ok (.aload_n 0, 1) := by decide +kernel
theorem dX7_doByLots_37 : decode cX7_doByLots 37 = .ok (.iload_n 2, 1) := by decide +kernel
theorem dX7_doByLots_38 : decode cX7_doByLots 38 = .ok (.iload_n 3, 1) := by decide +kernel
theorem dX7_doByLots_39 : decode cX7_doByLots 39 = .ok (.iload 4, 2) := by decide +kernel
theorem dX7_doByLots_41 : decode cX7_doByLots 41 = .ok (.aload_n 0, 1) := by decide +kernel
theorem dX7_doByLots_42 : decode cX7_doByLots 42 = .ok (.invokevirtual 149, 3) := by decide +kernel
theorem dX7_doByLots_45 : decode cX7_doByLots 45 = .ok (.bipush 8, 2) := by decide +kernel
theorem dX7_doByLots_47 : decode cX7_doByLots 47 = .ok (.irem, 1) := by decide +kernel
theorem dX7_doByLots_48 : decode cX7_doByLots 48 = .ok (.invokevirtual 126, 3) := by decide +kernel
theorem dX7_doByLots_51 : decode cX7_doByLots 51 = .ok (.pop, 1) := by decide +kernel
theorem dX7_doByLots_52 : decode cX7_doByLots 52 = .ok (.goto 73, 3) := by decide +kernel
theorem dX7_doByLots_55 : decode cX7_doByLots 55 = .ok (.iload_n 1, 1) := by decide +kernel
theorem dX7_doByLots_56 : decode cX7_doByLots 56 = .ok (.iconst 1, 1) := by decide +kernel
theorem dX7_doByLots_57 : decode cX7_doByLots 57 = .ok (.if_icmp .ne 27, 3) := by decide +kernel
theorem dX7_doByLots_60 : decode cX7_doByLots 60 = .ok (.aload_n 0, 1) := by decide +kernel
theorem dX7_doByLots_61 : decode cX7_doByLots 61 = .ok (.invokevirtual 149, 3) := by decide +kernel
theorem dX7_doByLots_64 : decode cX7_doByLots 64 = .ok (.bipush 8, 2) := by decide +kernel
theorem dX7_doByLots_66 : decode cX7_doByLots 66 = .ok (.irem, 1) := by decide +kernel
theorem dX7_doByLots_67 : decode cX7_doByLots 67 = .ok (.istore_n 2, 1) := by decide +kernel
theorem dX7_doByLots_68 : decode cX7_doByLots 68 = .ok (.aload_n 0, 1) := by decide +kernel
theorem dX7_doByLots_69 : decode cX7_doByLots 69 = .ok (.iload_n 2, 1) := by decide +kernel
theorem dX7_doByLots_70 : decode cX7_doByLots 70 = .ok (.aload_n 0, 1) := by decide +kernel
theorem dX7_doByLots_71 : decode cX7_doByLots 71 = .ok (.invokevirtual 149, 3) := by decide +kernel
theorem dX7_doByLots_74 : decode cX7_doByLots 74 = .ok (.bipush 32, 2) := by decide +kernel
theorem dX7_doByLots_76 : decode cX7_doByLots 76 = .ok (.irem, 1) := by decide +kernel
theorem dX7_doByLots_77 : decode cX7_doByLots 77 = .ok (.invokevirtual 277, 3) := by decide +kernel
theorem dX7_doByLots_80 : decode cX7_doByLots 80 = .ok (.pop, 1) := by decide +kernel
theorem dX7_doByLots_81 : decode cX7_doByLots 81 = .ok (.goto 44, 3) := by decide +kernel
theorem dX7_doByLots_84 : decode cX7_doByLots 84 = .ok (.iload_n 1, 1) := by decide +kernel
theorem dX7_doByLots_85 : decode cX7_doByLots 85 = .ok (.iconst 2, 1) := by decide +kernel
theorem dX7_doByLots_86 : decode cX7_doByLots 86 = .ok (.if_icmp .ne 27, 3) := by decide +kernel
theorem dX7_doByLots_89 : decode cX7_doByLots 89 = .ok (.aload_n 0, 1) := by decide +kernel
theorem dX7_doByLots_90 : decode cX7_doByLots 90 = .ok (.invokevirtual 149, 3) := by decide +kernel
theorem dX7_doByLots_93 : decode cX7_doByLots 93 = .ok (.bipush 8, 2) := by decide +kernel
theorem dX7_doByLots_95 : decode cX7_doByLots 95 = .ok (.irem, 1) := by decide +kernel
theorem dX7_doByLots_96 : decode cX7_doByLots 96 = .ok (.istore_n 2, 1) := by decide +kernel
theorem dX7_doByLots_97 : decode cX7_doByLots 97 = .ok (.aload_n 0, 1) := by decide +kernel
theorem dX7_doByLots_98 : decode cX7_doByLots 98 = .ok (.iload_n 2, 1) := by decide +kernel
theorem dX7_doByLots_99 : decode cX7_doByLots 99 = .ok (.aload_n 0, 1) := by decide +kernel
theorem dX7_doByLots_100 : decode cX7_doByLots 100 = .ok (.invokevirtual 149, 3) := by decide +kernel
theorem dX7_doByLots_103 : decode cX7_doByLots 103 = .ok (.bipush 32, 2) := by decide +kernel
theorem dX7_doByLots_105 : decode cX7_doByLots 105 = .ok (.irem, 1) := by decide +kernel
theorem dX7_doByLots_106 : decode cX7_doByLots 106 = .ok (.invokevirtual 280, 3) := by decide +kernel
theorem dX7_doByLots_109 : decode cX7_doByLots 109 = .ok (.pop, 1) := by decide +kernel
theorem dX7_doByLots_110 : decode cX7_doByLots 110 = .ok (.goto 15, 3) := by decide +kernel
theorem dX7_doByLots_113 : decode cX7_doByLots 113 = .ok (.aload_n 0, 1) := by decide +kernel
theorem dX7_doByLots_114 : decode cX7_doByLots 114 = .ok (.aload_n 0, 1) := by decide +kernel
theorem dX7_doByLots_115 : decode cX7_doByLots 115 = .ok (.invokevirtual 149, 3) := by decide +kernel
theorem dX7_doByLots_118 : decode cX7_doByLots 118 = .ok (.bipush 8, 2) := by decide +kernel
theorem dX7_doByLots_120 : decode cX7_doByLots 120 = .ok (.irem, 1) := by decide +kernel
theorem dX7_doByLots_121 : decode cX7_doByLots 121 = .ok (.invokevirtual 283, 3) := by decide +kernel
theorem dX7_doByLots_124 : decode cX7_doByLots 124 = .ok (.pop, 1) := by decide +kernel
theorem dX7_doByLots_125 : decode cX7_doByLots 125 = .ok (.return_, 1) := by decide +kernel
set_option maxRecDepth 20000 in
theorem ggX8_init_X8_start : GoodIn wsX8_init wsX8_start := goodIn_r _ [30, 31, 5, 6, 7, 9, 10, 32, 33, 34, 35, 36, 37, 38, 25, 39, 40, 41, 42, 43, 44, 45, 46, 47, 48, 49, 50, 51, 52, 53, 54, 55, 56, 57, 58, 59, 60, 61, 62, 63, 64, 65, 66] (by decide +kernel) (by decide +kernel)
set_option maxRecDepth 20000 in
theorem gX8_init_X8_start : GoodIn wsX8_init (wsV RX8 71 RX8 yX8_start wsX8_start) := goodIn_app (goodIn_of _ (by decide +kernel)) ggX8_init_X8_start
theorem dX8_init_0 : decode cX8_init 0 = .ok (.aload_n 0, 1) := by decide +kernel
theorem dX8_init_1 : decode cX8_init 1 = .ok (.invokespecial 1, 3) := by decide +kernel
theorem dX8_init_4 : decode cX8_init 4 = .ok (.aload_n 0, 1) := by decide +kernel
theorem dX8_init_5 : decode cX8_init 5 = .ok (.bipush 40, 2) := by decide +kernel
theorem dX8_init_7 : decode cX8_init 7 = .ok (.newarray .int, 2) := by decide +kernel
theorem dX8_init_9 : decode cX8_init 9 = .ok (.putfield 7, 3) := by decide +kernel
theorem dX8_init_12 : decode cX8_init 12 = .ok (.aload_n 0, 1) := by decide +kernel
theorem dX8_init_13 : decode cX8_init 13 = .ok (.bipush 40, 2) := by decide +kernel
theorem dX8_init_15 : decode cX8_init 15 = .ok (.newarray .int, 2) := by decide +kernel
theorem dX8_init_17 : decode cX8_init 17 = .ok (.putfield 13, 3) := by decide +kernel
theorem dX8_init_20 : decode cX8_init 20 = .ok (.aload_n 0, 1) := by decide +kernel
theorem dX8_init_21 : decode cX8_init 21 = .ok (.bipush 40, 2) := by decide +kernel
theorem dX8_init_23 : decode cX8_init 23 = .ok (.newarray .int, 2) := by decide +kernel
theorem dX8_init_25 : decode cX8_init 25 = .ok (.putfield 16, 3) := by decide +kernel
theorem dX8_init_28 : decode cX8_init 28 = .ok (.aload_n 0, 1) := by decide +kernel
theorem dX8_init_29 : decode cX8_init 29 = .ok (.bipush 32, 2) := by decide +kernel
theorem dX8_init_31 : decode cX8_init 31 = .ok (.newarray .boolean, 2) := by decide +kernel
theorem dX8_init_33 : decode cX8_init 33 = .ok (.putfield 19, 3) := by decide +kernel
theorem dX8_init_36 : decode cX8_init 36 = .ok (.aload_n 0, 1) := by decide +kernel
theorem dX8_init_37 : decode cX8_init 37 = .ok (.bipush 32, 2) := by decide +kernel
theorem dX8_init_39 : decode cX8_init 39 = .ok (.newarray .int, 2) := by decide +kernel
theorem dX8_init_41 : decode cX8_init 41 = .ok (.putfield 23, 3) := by decide +kernel
theorem dX8_init_44 : decode cX8_init 44 = .ok (.aload_n 0, 1) := by decide +kernel
theorem dX8_init_45 : decode cX8_init 45 = .ok (.bipush 12, 2) := by decide +kernel
theorem dX8_init_47 : decode cX8_init 47 = .ok (.newarray .int, 2) := by decide +kernel
theorem dX8_init_49 : decode cX8_init 49 = .ok (.putfield 26, 3) := by decide +kernel
theorem dX8_init_52 : decode cX8_init 52 = .ok (.aload_n 0, 1) := by decide +kernel
theorem dX8_init_53 : decode cX8_init 53 = .ok (.bipush 12, 2) := by decide +kernel
theorem dX8_init_55 : decode cX8_init 55 = .ok (.newarray .int, 2) := by decide +kernel
theorem dX8_init_57 : decode cX8_init 57 = .ok (.putfield 29, 3) := by decide +kernel
theorem dX8_init_60 : decode cX8_init 60 = .ok (.aload_n 0, 1) := by decide +kernel
theorem dX8_init_61 : decode cX8_init 61 = .ok (.bipush 12, 2) := by decide +kernel
theorem dX8_init_63 : decode cX8_init 63 = .ok (.newarray .boolean, 2) := by decide +kernel
theorem dX8_init_65 : decode cX8_init 65 = .ok (.putfield 32, 3) := by decide +kernel
theorem dX8_init_68 : decode cX8_init 68 = .ok (.aload_n 0, 1) := by decide +kernel
theorem dX8_init_69 : decode cX8_init 69 = .ok (.bipush 20, 2) := by decide +kernel
theorem dX8_init_71 : decode cX8_init 71 = .ok (.newarray .int, 2) := by decide +kernel
theorem dX8_init_73 : decode cX8_init 73 = .ok (.putfield 35, 3) := by decide +kernel
theorem dX8_init_76 : decode cX8_init 76 = .ok (.aload_n 0, 1) := by decide +kernel
theorem dX8_init_77 : decode cX8_init 77 = .ok (.bipush 20, 2) := by decide +kernel
theorem dX8_init_79 : decode cX8_init 79 = .ok (.newarray .int, 2) := by decide +kernel
theorem dX8_init_81 : decode cX8_init 81 = .ok (.putfield 38, 3) := by decide +kernel
theorem dX8_init_84 : decode cX8_init 84 = .ok (.aload_n 0, 1) := by decide +kernel
theorem dX8_init_85 : decode cX8_init 85 = .ok (.bipush 20, 2) := by decide +kernel
theorem dX8_init_87 : decode cX8_init 87 = .ok (.newarray .int, 2) := by decide +kernel
theorem dX8_init_89 : decode cX8_init 89 = .ok (.putfield 41, 3) := by decide +kernel
theorem dX8_init_92 : decode cX8_init 92 = .ok (.aload_n 0, 1) := by decide +kernel
theorem dX8_init_93 : decode cX8_init 93 = .ok (.bipush 16, 2) := by decide +kernel
theorem dX8_init_95 : decode cX8_init 95 = .ok (.newarray .int, 2) := by decide +kernel
theorem dX8_init_97 : decode cX8_init 97 = .ok (.putfield 44, 3) := by decide +kernel
theorem dX8_init_100 : decode cX8_init 100 = .ok (.aload_n 0, 1) := by decide +kernel
theorem dX8_init_101 : decode cX8_init 101 = .ok (.bipush 16, 2) := by decide +kernel
theorem dX8_init_103 : decode cX8_init 103 = .ok (.newarray .int, 2) := by decide +kernel
theorem dX8_init_105 : decode cX8_init 105 = .ok (.putfield 47, 3) := by decide +kernel
theorem dX8_init_108 : decode cX8_init 108 = .ok (.aload_n 0, 1) := by decide +kernel
theorem dX8_init_109 : decode cX8_init 109 = .ok (.bipush 16, 2) := by decide +kernel
theorem dX8_init_111 : decode cX8_init 111 = .ok (.newarray .int, 2) := by decide +kernel
theorem dX8_init_113 : decode cX8_init 113 = .ok (.putfield 50, 3) := by decide +kernel
theorem dX8_init_116 : decode cX8_init 116 = .ok (.aload_n 0, 1) := by decide +kernel
theorem dX8_init_117 : decode cX8_init 117 = .ok (.bipush 32, 2) := by decide +kernel
theorem dX8_init_119 : decode cX8_init 119 = .ok (.newarray .int, 2) := by decide +kernel
theorem dX8_init_121 : decode cX8_init 121 = .ok (.putfield 53, 3) := by decide +kernel
theorem dX8_init_124 : decode cX8_init 124 = .ok (.aload_n 0, 1) := by decide +kernel
theorem dX8_init_125 : decode cX8_init 125 = .ok (.bipush 32, 2) := by decide +kernel
theorem dX8_init_127 : decode cX8_init 127 = .ok (.newarray .int, 2) := by decide +kernel
theorem dX8_init_129 : decode cX8_init 129 = .ok (.putfield 56, 3) := by decide +kernel
theorem dX8_init_132 : decode cX8_init 132 = .ok (.aload_n 0, 1) := by decide +kernel
theorem dX8_init_133 : decode cX8_init 133 = .ok (.bipush 32, 2) := by decide +kernel
theorem dX8_init_135 : decode cX8_init 135 = .ok (.newarray .int, 2) := by decide +kernel
theorem dX8_init_137 : decode cX8_init 137 = .ok (.putfield 59, 3) := by decide +kernel
theorem dX8_init_140 : decode cX8_init 140 = .ok (.aload_n 0, 1) := by decide +kernel
theorem dX8_init_141 : decode cX8_init 141 = .ok (.bipush 32, 2) := by decide +kernel
theorem dX8_init_143 : decode cX8_init 143 = .ok (.newarray .int, 2) := by decide +kernel
theorem dX8_init_145 : decode cX8_init 145 = .ok (.putfield 62, 3) := by decide +kernel
theorem dX8_init_148 : decode cX8_init 148 = .ok (.aload_n 0, 1) := by decide +kernel
theorem dX8_init_149 : decode cX8_init 149 = .ok (.sipush 304, 3) := by decide +kernel
theorem dX8_init_152 : decode cX8_init 152 = .ok (.newarray .int, 2) := by decide +kernel
theorem dX8_init_154 : decode cX8_init 154 = .ok (.putfield 65, 3) := by decide +kernel
theorem dX8_init_157 : decode cX8_init 157 = .ok (.aload_n 0, 1) := by decide +kernel
theorem dX8_init_158 : decode cX8_init 158 = .ok (.iconst 2, 1) := by decide +kernel
theorem dX8_init_159 : decode cX8_init 159 = .ok (.newarray .boolean, 2) := by decide +kernel
theorem dX8_init_161 : decode cX8_init 161 = .ok (.putfield 68, 3) := by decide +kernel
theorem dX8_init_164 : decode cX8_init 164 = .ok (.aload_n 0, 1) := by decide +kernel
theorem dX8_init_165 : decode cX8_init 165 = .ok (.invokevirtual 71, 3) := by decide +kernel
theorem dX8_init_168 : decode cX8_init 168 = .ok (.istore_n 1, 1) := by decide +kernel
theorem dX8_init_169 : decode cX8_init 169 = .ok (.return_, 1) := by decide +kernel
theorem dX8_in_0 : decode cX8_in 0 = .ok (.lload_n 0, 1) := by decide +kernel
theorem dX8_in_1 : decode cX8_in 1 = .ok (.lload_n 2, 1) := by decide +kernel
theorem dX8_in_2 : decode cX8_in 2 = .ok (.lcmp, 1) := by decide +kernel
theorem dX8_in_3 : decode cX8_in 3 = .ok (.ifCond .lt 14, 3) := by decide +kernel
theorem dX8_in_6 : decode cX8_in 6 = .ok (.lload_n 0, 1) := by decide +kernel
theorem dX8_in_7 : decode cX8_in 7 = .ok (.lload 4, 2) := by decide +kernel
theorem dX8_in_9 : decode cX8_in 9 = .ok (.lcmp, 1) := by decide +kernel
theorem dX8_in_10 : decode cX8_in 10 = .ok (.ifCond .gt 7, 3) := by decide +kernel
theorem dX8_in_13 : decode cX8_in 13 = .ok (.iconst 1, 1) := by decide +kernel
theorem dX8_in_14 : decode cX8_in 14 = .ok (.goto 4, 3) := by decide +kernel
theorem dX8_in_17 : decode cX8_in 17 = .ok (.iconst 0, 1) := by decide +kernel
theorem dX8_in_18 : decode cX8_in 18 = .ok (.ireturn, 1) := by decide +kernel
set_option maxRecDepth 20000 in
theorem ggX8_isRegister_X8_in : GoodIn wsX8_isRegister wsX8_in := goodIn_r _ [5] (by decide +kernel) (by decide +kernel)
set_option maxRecDepth 20000 in
theorem gX8_isRegister_X8_in : GoodIn wsX8_isRegister (va_wsS RX8 77 yX8_in wsX8_in) := goodIn_app (goodIn_of _ (by decide +kernel)) ggX8_isRegister_X8_in
theorem dX8_isRegister_0 : decode cX8_isRegister 0 = .ok (.iload_n 0, 1) := by decide +kernel
theorem dX8_isRegister_1 : decode cX8_isRegister 1 = .ok (.i2l, 1) := by decide +kernel
theorem dX8_isRegister_2 : decode cX8_isRegister 2 = .ok (.lconst 0, 1) := by decide +kernel
theorem dX8_isRegister_3 : decode cX8_isRegister 3 = .ok (.ldc2_w 75, 3) := by decide +kernel
theorem dX8_isRegister_6 : decode cX8_isRegister 6 = .ok (.invokestatic 77, 3) := by decide +kernel
theorem dX8_isRegister_9 : decode cX8_isRegister 9 = .ok (.ireturn, 1) := by decide +kernel
set_option maxRecDepth 20000 in
theorem ggX8_isOctet_X8_in : GoodIn wsX8_isOctet wsX8_in := goodIn_r _ [5] (by decide +kernel) (by decide +kernel)
set_option maxRecDepth 20000 in
theorem gX8_isOctet_X8_in : GoodIn wsX8_isOctet (va_wsS RX8 77 yX8_in wsX8_in) := goodIn_app (goodIn_of _ (by decide +kernel)) ggX8_isOctet_X8_in
theorem dX8_isOctet_0 : decode cX8_isOctet 0 = .ok (.iload_n 0, 1) := by decide +kernel
theorem dX8_isOctet_1 : decode cX8_isOctet 1 = .ok (.i2l, 1) := by decide +kernel
theorem dX8_isOctet_2 : decode cX8_isOctet 2 = .ok (.lconst 0, 1) := by decide +kernel
theorem dX8_isOctet_3 : decode cX8_isOctet 3 = .ok (.ldc2_w 81, 3) := by decide +kernel
theorem dX8_isOctet_6 : decode cX8_isOctet 6 = .ok (.invokestatic 77, 3) := by decide +kernel
theorem dX8_isOctet_9 : decode cX8_isOctet 9 = .ok (.ireturn, 1) := by decide +kernel
set_option maxRecDepth 20000 in
theorem ggX8_isGround_X8_in : GoodIn wsX8_isGround wsX8_in := goodIn_r _ [5] (by decide +kernel) (by decide +kernel)
set_option maxRecDepth 20000 in
theorem gX8_isGround_X8_in : GoodIn wsX8_isGround (va_wsS RX8 77 yX8_in wsX8_in) := goodIn_app (goodIn_of _ (by decide +kernel)) ggX8_isGround_X8_in
theorem dX8_isGround_0 : decode cX8_isGround 0 = .ok (.iload_n 1, 1) := by decide +kernel
theorem dX8_isGround_1 : decode cX8_isGround 1 = .ok (.i2l, 1) := by decide +kernel
theorem dX8_isGround_2 : decode cX8_isGround 2 = .ok (.lconst 0, 1) := by decide +kernel
theorem dX8_isGround_3 : decode cX8_isGround 3 = .ok (.aload_n 0, 1) := by decide +kernel
theorem dX8_isGround_4 : decode cX8_isGround 4 = .ok (.getfield 83, 3) := by decide +kernel
theorem dX8_isGround_7 : decode cX8_isGround 7 = .ok (.iconst 1, 1) := by decide +kernel
theorem dX8_isGround_8 : decode cX8_isGround 8 = .ok (.isub, 1) := by decide +kernel
theorem dX8_isGround_9 : decode cX8_isGround 9 = .ok (.i2l, 1) := by decide +kernel
theorem dX8_isGround_10 : decode cX8_isGround 10 = .ok (.invokestatic 77, 3) := by decide +kernel
theorem dX8_isGround_13 : decode cX8_isGround 13 = .ok (.ireturn, 1) := by decide +kernel
set_option maxRecDepth 20000 in
theorem ggX8_isByte_X8_in : GoodIn wsX8_isByte wsX8_in := goodIn_r _ [5] (by decide +kernel) (by decide +kernel)
set_option maxRecDepth 20000 in
theorem gX8_isByte_X8_in : GoodIn wsX8_isByte (va_wsS RX8 77 yX8_in wsX8_in) := goodIn_app (goodIn_of _ (by decide +kernel)) ggX8_isByte_X8_in
theorem dX8_isByte_0 : decode cX8_isByte 0 = .ok (.iload_n 0, 1) := by decide +kernel
theorem dX8_isByte_1 : decode cX8_isByte 1 = .ok (.i2l, 1) := by decide +kernel
theorem dX8_isByte_2 : decode cX8_isByte 2 = .ok (.lconst 0, 1) := by decide +kernel
theorem dX8_isByte_3 : decode cX8_isByte 3 = .ok (.ldc2_w 87, 3) := by decide +kernel
theorem dX8_isByte_6 : decode cX8_isByte 6 = .ok (.invokestatic 77, 3) := by decide +kernel
theorem dX8_isByte_9 : decode cX8_isByte 9 = .ok (.ireturn, 1) := by decide +kernel
theorem dX8_bits_0 : decode cX8_bits 0 = .ok (.iconst 0, 1) := by decide +kernel
theorem dX8_bits_1 : decode cX8_bits 1 = .ok (.istore_n 1, 1) := by decide +kernel
theorem dX8_bits_2 : decode cX8_bits 2 = .ok (.iconst 0, 1) := by decide +kernel
theorem dX8_bits_3 : decode cX8_bits 3 = .ok (.istore_n 2, 1) := by decide +kernel
theorem dX8_bits_4 : decode cX8_bits 4 = .ok (.iload_n 2, 1) := by decide +kernel
theorem dX8_bits_5 : decode cX8_bits 5 = .ok (.bipush 16, 2) := by decide +kernel
theorem dX8_bits_7 : decode cX8_bits 7 = .ok (.if_icmp .ge 17, 3) := by decide +kernel
theorem dX8_bits_10 : decode cX8_bits 10 = .ok (.iload_n 1, 1) := by decide +kernel
theorem dX8_bits_11 : decode cX8_bits 11 = .ok (.iload_n 0, 1) := by decide +kernel
theorem dX8_bits_12 : decode cX8_bits 12 = .ok (.iload_n 2, 1) := by decide +kernel
theorem dX8_bits_13 : decode cX8_bits 13 = .ok (.ishr, 1) := by decide +kernel
theorem dX8_bits_14 : decode cX8_bits 14 = .ok (.iconst 1, 1) := by decide +kernel
theorem dX8_bits_15 : decode cX8_bits 15 = .ok (.iand, 1) := by decide +kernel
theorem dX8_bits_16 : decode cX8_bits 16 = .ok (.iadd, 1) := by decide +kernel
theorem dX8_bits_17 : decode cX8_bits 17 = .ok (.istore_n 1, 1) := by decide +kernel
theorem dX8_bits_18 : decode cX8_bits 18 = .ok (.iinc 2 1, 3) := by decide +kernel
theorem dX8_bits_21 : decode cX8_bits 21 = .ok (.goto (-17), 3) := by decide +kernel
theorem dX8_bits_24 : decode cX8_bits 24 = .ok (.iload_n 1, 1) := by decide +kernel
theorem dX8_bits_25 : decode cX8_bits 25 = .ok (.ireturn, 1) := by decide +kernel
theorem dX8_start_0 : decode cX8_start 0 = .ok (.aload_n 0, 1) := by decide +kernel
theorem dX8_start_1 : decode cX8_start 1 = .ok (.getfield 89, 3) := by decide +kernel
theorem dX8_start_4 : decode cX8_start 4 = .ok (.istore_n 1, 1) := by decide +kernel
theorem dX8_start_5 : decode cX8_start 5 = .ok (.iconst 0, 1) := by decide +kernel
theorem dX8_start_6 : decode cX8_start 6 = .ok (.istore_n 2, 1) := by decide +kernel
theorem dX8_start_7 : decode cX8_start 7 = .ok (.iload_n 2, 1) := by decide +kernel
theorem dX8_start_8 : decode cX8_start 8 = .ok (.bipush 40, 2) := by decide +kernel
theorem dX8_start_10 : decode cX8_start 10 = .ok (.if_icmp .ge 30, 3) := by decide +kernel
theorem dX8_start_13 : decode cX8_start 13 = .ok (.aload_n 0, 1) := by decide +kernel
theorem dX8_start_14 : decode cX8_start 14 = .ok (.getfield 7, 3) := by decide +kernel
theorem dX8_start_17 : decode cX8_start 17 = .ok (.iload_n 2, 1) := by decide +kernel
theorem dX8_start_18 : decode cX8_start 18 = .ok (.iconst 0, 1) := by decide +kernel
theorem dX8_start_19 : decode cX8_start 19 = .ok (.iastore, 1) := by decide +kernel
theorem dX8_start_20 : decode cX8_start 20 = .ok (.aload_n 0, 1) := by decide +kernel
theorem dX8_start_21 : decode cX8_start 21 = .ok (.getfield 13, 3) := by decide +kernel
theorem dX8_start_24 : decode cX8_start 24 = .ok (.iload_n 2, 1) := by decide +kernel
theorem dX8_start_25 : decode cX8_start 25 = .ok (.iconst 0, 1) := by decide +kernel
theorem dX8_start_26 : decode cX8_start 26 = .ok (.iastore, 1) := by decide +kernel
theorem dX8_start_27 : decode cX8_start 27 = .ok (.aload_n 0, 1) := by decide +kernel
theorem dX8_start_28 : decode cX8_start 28 = .ok (.getfield 16, 3) := by decide +kernel
theorem dX8_start_31 : decode cX8_start 31 = .ok (.iload_n 2, 1) := by decide +kernel
theorem dX8_start_32 : decode cX8_start 32 = .ok (.iconst 0, 1) := by decide +kernel
theorem dX8_start_33 : decode cX8_start 33 = .ok (.iastore, 1) := by decide +kernel
theorem dX8_start_34 : decode cX8_start 34 = .ok (.iinc 2 1, 3) := by decide +kernel
theorem dX8_start_37 : decode cX8_start 37 = .ok (.goto (-30), 3) := by decide +kernel
theorem dX8_start_40 : decode cX8_start 40 = .ok (.iconst 0, 1) := by decide +kernel
theorem dX8_start_41 : decode cX8_start 41 = .ok (.istore_n 2, 1) := by decide +kernel
theorem dX8_start_42 : decode cX8_start 42 = .ok (.iload_n 2, 1) := by decide +kernel
theorem dX8_start_43 : decode cX8_start 43 = .ok (.bipush 32, 2) := by decide +kernel
theorem dX8_start_45 : decode cX8_start 45 = .ok (.if_icmp .ge 23, 3) := by decide +kernel
theorem dX8_start_48 : decode cX8_start 48 = .ok (.aload_n 0, 1) := by decide +kernel
theorem dX8_start_49 : decode cX8_start 49 = .ok (.getfield 19, 3) := by decide +kernel
theorem dX8_start_52 : decode cX8_start 52 = .ok (.iload_n 2, 1) := by decide +kernel
theorem dX8_start_53 : decode cX8_start 53 = .ok (.iconst 0, 1) := by decide +kernel
theorem dX8_start_54 : decode cX8_start 54 = .ok (.bastore, 1) := by decide +kernel
theorem dX8_start_55 : decode cX8_start 55 = .ok (.aload_n 0, 1) := by decide +kernel
theorem dX8_start_56 : decode cX8_start 56 = .ok (.getfield 23, 3) := by decide +kernel
theorem dX8_start_59 : decode cX8_start 59 = .ok (.iload_n 2, 1) := by decide +kernel
theorem dX8_start_60 : decode cX8_start 60 = .ok (.iconst (-1), 1) := by decide +kernel
theorem dX8_start_61 : decode cX8_start 61 = .ok (.iastore, 1) := by decide +kernel
theorem dX8_start_62 : decode cX8_start 62 = .ok (.iinc 2 1, 3) := by decide +kernel
theorem dX8_start_65 : decode cX8_start 65 = .ok (.goto (-23), 3) := by decide +kernel
theorem dX8_start_68 : decode cX8_start 68 = .ok (.aload_n 0, 1) := by decide +kernel
theorem dX8_start_69 : decode cX8_start 69 = .ok (.iconst 0, 1) := by decide +kernel
theorem dX8_start_70 : decode cX8_start 70 = .ok (.putfield 83, 3) := by decide +kernel
theorem dX8_start_73 : decode cX8_start 73 = .ok (.aload_n 0, 1) := by decide +kernel
theorem dX8_start_74 : decode cX8_start 74 = .ok (.iconst 1, 1) := by decide +kernel
theorem dX8_start_75 : decode cX8_start 75 = .ok (.putfield 92, 3) := by decide +kernel
theorem dX8_start_78 : decode cX8_start 78 = .ok (.aload_n 0, 1) := by decide +kernel
theorem dX8_start_79 : decode cX8_start 79 = .ok (.iconst 0, 1) := by decide +kernel
theorem dX8_start_80 : decode cX8_start 80 = .ok (.putfield 89, 3) := by decide +kernel
theorem dX8_start_83 : decode cX8_start 83 = .ok (.aload_n 0, 1) := by decide +kernel
theorem dX8_start_84 : decode cX8_start 84 = .ok (.iconst 0, 1) := by decide +kernel
theorem dX8_start_85 : decode cX8_start 85 = .ok (.putfield 95, 3) := by decide +kernel
theorem dX8_start_88 : decode cX8_start 88 = .ok (.aload_n 0, 1) := by decide +kernel
theorem dX8_start_89 : decode cX8_start 89 = .ok (.iconst 0, 1) := by decide +kernel
theorem dX8_start_90 : decode cX8_start 90 = .ok (.putfield 98, 3) := by decide +kernel
theorem dX8_start_93 : decode cX8_start 93 = .ok (.aload_n 0, 1) := by decide +kernel
theorem dX8_start_94 : decode cX8_start 94 = .ok (.lconst 0, 1) := by decide +kernel
theorem dX8_start_95 : decode cX8_start 95 = .ok (.putfield 101, 3) := by decide +kernel
theorem dX8_start_98 : decode cX8_start 98 = .ok (.aload_n 0, 1) := by decide +kernel
theorem dX8_start_99 : decode cX8_start 99 = .ok (.iconst 0, 1) := by decide +kernel
theorem dX8_start_100 : decode cX8_start 100 = .ok (.putfield 105, 3) := by decide +kernel
theorem dX8_start_103 : decode cX8_start 103 = .ok (.aload_n 0, 1) := by decide +kernel
theorem dX8_start_104 : decode cX8_start 104 = .ok (.iconst 0, 1) := by decide +kernel
theorem dX8_start_105 : decode cX8_start 105 = .ok (.putfield 108, 3) := by decide +kernel
theorem dX8_start_108 : decode cX8_start 108 = .ok (.aload_n 0, 1) := by decide +kernel
theorem dX8_start_109 : decode cX8_start 109 = .ok (.getfield 68, 3) := by decide +kernel
theorem dX8_start_112 : decode cX8_start 112 = .ok (.iconst 0, 1) := by decide +kernel
theorem dX8_start_113 : decode cX8_start 113 = .ok (.iconst 0, 1) := by decide +kernel
theorem dX8_start_114 : decode cX8_start 114 = .ok (.bastore, 1) := by decide +kernel
theorem dX8_start_115 : decode cX8_start 115 = .ok (.aload_n 0, 1) := by decide +kernel
theorem dX8_start_116 : decode cX8_start 116 = .ok (.getfield 68, 3) := by decide +kernel
theorem dX8_start_119 : decode cX8_start 119 = .ok (.iconst 1, 1) := by decide +kernel
theorem dX8_start_120 : decode cX8_start 120 = .ok (.iconst 0, 1) := by decide +kernel
theorem dX8_start_121 : decode cX8_start 121 = .ok (.bastore, 1) := by decide +kernel
theorem dX8_start_122 : decode cX8_start 122 = .ok (.iload_n 1, 1) := by decide +kernel
theorem dX8_start_123 : decode cX8_start 123 = .ok (.ireturn, 1) := by decide +kernel
theorem dX8_lotBy_0 : decode cX8_lotBy 0 = .ok (.aload_n 0, 1) := by decide +kernel
theorem dX8_lotBy_1 : decode cX8_lotBy 1 = .ok (.aload_n 0, 1) := by decide +kernel
theorem dX8_lotBy_2 : decode cX8_lotBy 2 = .ok (.getfield 92, 3) := by decide +kernel
theorem dX8_lotBy_5 : decode cX8_lotBy 5 = .ok (.i2l, 1) := by decide +kernel
theorem dX8_lotBy_6 : decode cX8_lotBy 6 = .ok (.ldc2_w 111, 3) := by decide +kernel
theorem dX8_lotBy_9 : decode cX8_lotBy 9 = .ok (.lmul, 1) := by decide +kernel
theorem dX8_lotBy_10 : decode cX8_lotBy 10 = .ok (.ldc2_w 113, 3) := by decide +kernel
theorem dX8_lotBy_13 : decode cX8_lotBy 13 = .ok (.lrem, 1) := by decide +kernel
theorem dX8_lotBy_14 : decode cX8_lotBy 14 = .ok (.l2i, 1) := by decide +kernel
theorem dX8_lotBy_15 : decode cX8_lotBy 15 = .ok (.putfield 92, 3) := by decide +kernel
theorem dX8_lotBy_18 : decode cX8_lotBy 18 = .ok (.aload_n 0, 1) := by decide +kernel
theorem dX8_lotBy_19 : decode cX8_lotBy 19 = .ok (.getfield 92, 3) := by decide +kernel
theorem dX8_lotBy_22 : decode cX8_lotBy 22 = .ok (.iload_n 1, 1) := by decide +kernel
theorem dX8_lotBy_23 : decode cX8_lotBy 23 = .ok (.irem, 1) := by decide +kernel
theorem dX8_lotBy_24 : decode cX8_lotBy 24 = .ok (.ireturn, 1) := by decide +kernel
theorem dX8_cries_0 : decode cX8_cries 0 = .ok (.aload_n 0, 1) := by decide +kernel
theorem dX8_cries_1 : decode cX8_cries 1 = .ok (.getfield 95, 3) := by decide +kernel
theorem dX8_cries_4 : decode cX8_cries 4 = .ok (.bipush 20, 2) := by decide +kernel
theorem dX8_cries_6 : decode cX8_cries 6 = .ok (.if_icmp .ge 36, 3) := by decide +kernel
theorem dX8_cries_9 : decode cX8_cries 9 = .ok (.aload_n 0, 1) := by decide +kernel
theorem dX8_cries_10 : decode cX8_cries 10 = .ok (.getfield 35, 3) := by decide +kernel
theorem dX8_cries_13 : decode cX8_cries 13 = .ok (.aload_n 0, 1) := by decide +kernel
theorem dX8_cries_14 : decode cX8_cries 14 = .ok (.getfield 95, 3) := by decide +kernel
theorem dX8_cries_17 : decode cX8_cries 17 = .ok (.iload_n 1, 1) := by decide +kernel
theorem dX8_cries_18 : decode cX8_cries 18 = .ok (.iastore, 1) := by decide +kernel
theorem dX8_cries_19 : decode cX8_cries 19 = .ok (.aload_n 0, 1) := by decide +kernel
theorem dX8_cries_20 : decode cX8_cries 20 = .ok (.getfield 38, 3) := by decide +kernel
theorem dX8_cries_23 : decode cX8_cries 23 = .ok (.aload_n 0, 1) := by decide +kernel
theorem dX8_cries_24 : decode cX8_cries 24 = .ok (.getfield 95, 3) := by decide +kernel
theorem dX8_cries_27 : decode cX8_cries 27 = .ok (.aload_n 0, 1) := by decide +kernel
theorem dX8_cries_28 : decode cX8_cries 28 = .ok (.getfield 89, 3) := by decide +kernel
theorem dX8_cries_31 : decode cX8_cries 31 = .ok (.iastore, 1) := by decide +kernel
theorem dX8_cries_32 : decode cX8_cries 32 = .ok (.aload_n 0, 1) := by decide +kernel
theorem dX8_cries_33 : decode cX8_cries 33 = .ok (.getfield 41, 3) := by decide +kernel
theorem dX8_cries_36 : decode cX8_cries 36 = .ok (.aload_n 0, 1) := by decide +kernel
theorem dX8_cries_37 : decode cX8_cries 37 = .ok (.getfield 95, 3) := by decide +kernel
theorem dX8_cries_40 : decode cX8_cries 40 = .ok (.iload_n 2, 1) := by decide +kernel
theorem dX8_cries_41 : decode cX8_cries 41 = .ok (.iastore, 1) := by decide +kernel
theorem dX8_cries_42 : decode cX8_cries 42 = .ok (.aload_n 0, 1) := by decide +kernel
theorem dX8_cries_43 : decode cX8_cries 43 = .ok (.dup, 1) := by decide +kernel
theorem dX8_cries_44 : decode cX8_cries 44 = .ok (.getfield 95, 3) := by decide +kernel
theorem dX8_cries_47 : decode cX8_cries 47 = .ok (.iconst 1, 1) := by decide +kernel
theorem dX8_cries_48 : decode cX8_cries 48 = .ok (.iadd, 1) := by decide +kernel
theorem dX8_cries_49 : decode cX8_cries 49 = .ok (.putfield 95, 3) := by decide +kernel
theorem dX8_cries_52 : decode cX8_cries 52 = .ok (.return_, 1) := by decide +kernel
theorem dX8_tick_0 : decode cX8_tick 0 = .ok (.bipush 15, 2) := by decide +kernel
theorem dX8_tick_2 : decode cX8_tick 2 = .ok (.istore_n 3, 1) := by decide +kernel
theorem dX8_tick_3 : decode cX8_tick 3 = .ok (.iload_n 3, 1) := by decide +kernel
theorem dX8_tick_4 : decode cX8_tick 4 = .ok (.ifCond .le 51, 3) := by decide +kernel
theorem dX8_tick_7 : decode cX8_tick 7 = .ok (.aload_n 0, 1) := by decide +kernel
theorem dX8_tick_8 : decode cX8_tick 8 = .ok (.getfield 44, 3) := by decide +kernel
theorem dX8_tick_11 : decode cX8_tick 11 = .ok (.iload_n 3, 1) := by decide +kernel
theorem dX8_tick_12 : decode cX8_tick 12 = .ok (.aload_n 0, 1) := by decide +kernel
theorem dX8_tick_13 : decode cX8_tick 13 = .ok (.getfield 44, 3) := by decide +kernel
theorem dX8_tick_16 : decode cX8_tick 16 = .ok (.iload_n 3, 1) := by decide +kernel
theorem dX8_tick_17 : decode cX8_tick 17 = .ok (.iconst 1, 1) := by decide +kernel
theorem dX8_tick_18 : decode cX8_tick 18 = .ok (.isub, 1) := by decide +kernel
theorem dX8_tick_19 : decode cX8_tick 19 = .ok (.iaload, 1) := by decide +kernel
theorem dX8_tick_20 : decode cX8_tick 20 = .ok (.iastore, 1) := by decide +kernel
theorem dX8_tick_21 : decode cX8_tick 21 = .ok (.aload_n 0, 1) := by decide +kernel
theorem dX8_tick_22 : decode cX8_tick 22 = .ok (.getfield 47, 3) := by decide +kernel
theorem dX8_tick_25 : decode cX8_tick 25 = .ok (.iload_n 3, 1) := by decide +kernel
theorem dX8_tick_26 : decode cX8_tick 26 = .ok (.aload_n 0, 1) := by decide +kernel
theorem dX8_tick_27 : decode cX8_tick 27 = .ok (.getfield 47, 3) := by decide +kernel
theorem dX8_tick_30 : decode cX8_tick 30 = .ok (.iload_n 3, 1) := by decide +kernel
theorem dX8_tick_31 : decode cX8_tick 31 = .ok (.iconst 1, 1) := by decide +kernel
theorem dX8_tick_32 : decode cX8_tick 32 = .ok (.isub, 1) := by decide +kernel
theorem dX8_tick_33 : decode cX8_tick 33 = .ok (.iaload, 1) := by decide +kernel
theorem dX8_tick_34 : decode cX8_tick 34 = .ok (.iastore, 1) := by decide +kernel
theorem dX8_tick_35 : decode cX8_tick 35 = .ok (.aload_n 0, 1) := by decide +kernel
theorem dX8_tick_36 : decode cX8_tick 36 = .ok (.getfield 50, 3) := by decide +kernel
theorem dX8_tick_39 : decode cX8_tick 39 = .ok (.iload_n 3, 1) := by decide +kernel
theorem dX8_tick_40 : decode cX8_tick 40 = .ok (.aload_n 0, 1) := by decide +kernel
theorem dX8_tick_41 : decode cX8_tick 41 = .ok (.getfield 50, 3) := by decide +kernel
theorem dX8_tick_44 : decode cX8_tick 44 = .ok (.iload_n 3, 1) := by decide +kernel
theorem dX8_tick_45 : decode cX8_tick 45 = .ok (.iconst 1, 1) := by decide +kernel
theorem dX8_tick_46 : decode cX8_tick 46 = .ok (.isub, 1) := by decide +kernel
theorem dX8_tick_47 : decode cX8_tick 47 = .ok (.iaload, 1) := by decide +kernel
theorem dX8_tick_48 : decode cX8_tick 48 = .ok (.iastore, 1) := by decide +kernel
theorem dX8_tick_49 : decode cX8_tick 49 = .ok (.iinc 3 (-1), 3) := by decide +kernel
theorem dX8_tick_52 : decode cX8_tick 52 = .ok (.goto (-49), 3) := by decide +kernel
theorem dX8_tick_55 : decode cX8_tick 55 = .ok (.aload_n 0, 1) := by decide +kernel
theorem dX8_tick_56 : decode cX8_tick 56 = .ok (.getfield 44, 3) := by decide +kernel
theorem dX8_tick_59 : decode cX8_tick 59 = .ok (.iconst 0, 1) := by decide +kernel
theorem dX8_tick_60 : decode cX8_tick 60 = .ok (.iload_n 1, 1) := by decide +kernel
theorem dX8_tick_61 : decode cX8_tick 61 = .ok (.iastore, 1) := by decide +kernel
theorem dX8_tick_62 : decode cX8_tick 62 = .ok (.aload_n 0, 1) := by decide +kernel
theorem dX8_tick_63 : decode cX8_tick 63 = .ok (.getfield 47, 3) := by decide +kernel
theorem dX8_tick_66 : decode cX8_tick 66 = .ok (.iconst 0, 1) := by decide +kernel
theorem dX8_tick_67 : decode cX8_tick 67 = .ok (.aload_n 0, 1) := by decide +kernel
theorem dX8_tick_68 : decode cX8_tick 68 = .ok (.getfield 89, 3) := by decide +kernel
theorem dX8_tick_71 : decode cX8_tick 71 = .ok (.iastore, 1) := by decide +kernel
theorem dX8_tick_72 : decode cX8_tick 72 = .ok (.aload_n 0, 1) := by decide +kernel
theorem dX8_tick_73 : decode cX8_tick 73 = .ok (.getfield 50, 3) := by decide +kernel
theorem dX8_tick_76 : decode cX8_tick 76 = .ok (.iconst 0, 1) := by decide +kernel
theorem dX8_tick_77 : decode cX8_tick 77 = .ok (.iload_n 2, 1) := by decide +kernel
theorem dX8_tick_78 : decode cX8_tick 78 = .ok (.iastore, 1) := by decide +kernel
theorem dX8_tick_79 : decode cX8_tick 79 = .ok (.aload_n 0, 1) := by decide +kernel
theorem dX8_tick_80 : decode cX8_tick 80 = .ok (.dup, 1) := by decide +kernel
theorem dX8_tick_81 : decode cX8_tick 81 = .ok (.getfield 105, 3) := by decide +kernel
theorem dX8_tick_84 : decode cX8_tick 84 = .ok (.aload_n 0, 1) := by decide +kernel
theorem dX8_tick_85 : decode cX8_tick 85 = .ok (.getfield 105, 3) := by decide +kernel
theorem dX8_tick_88 : decode cX8_tick 88 = .ok (.bipush 16, 2) := by decide +kernel
theorem dX8_tick_90 : decode cX8_tick 90 = .ok (.if_icmp .ge 7, 3) := by decide +kernel
theorem dX8_tick_93 : decode cX8_tick 93 = .ok (.iconst 1, 1) := by decide +kernel
theorem dX8_tick_94 : decode cX8_tick 94 = .ok (.goto 4, 3) := by decide +kernel
theorem dX8_tick_97 : decode cX8_tick 97 = .ok (.iconst 0, 1) := by decide +kernel
theorem dX8_tick_98 : decode cX8_tick 98 = .ok (.iadd, 1) := by decide +kernel
theorem dX8_tick_99 : decode cX8_tick 99 = .ok (.putfield 105, 3) := by decide +kernel
theorem dX8_tick_102 : decode cX8_tick 102 = .ok (.aload_n 0, 1) := by decide +kernel
theorem dX8_tick_103 : decode cX8_tick 103 = .ok (.ldc2_w 81, 3) := by decide +kernel
theorem dX8_tick_106 : decode cX8_tick 106 = .ok (.aload_n 0, 1) := by decide +kernel
theorem dX8_tick_107 : decode cX8_tick 107 = .ok (.getfield 101, 3) := by decide +kernel
theorem dX8_tick_110 : decode cX8_tick 110 = .ok (.lmul, 1) := by decide +kernel
theorem dX8_tick_111 : decode cX8_tick 111 = .ok (.iload_n 2, 1) := by decide +kernel
theorem dX8_tick_112 : decode cX8_tick 112 = .ok (.i2l, 1) := by decide +kernel
theorem dX8_tick_113 : decode cX8_tick 113 = .ok (.ladd, 1) := by decide +kernel
theorem dX8_tick_114 : decode cX8_tick 114 = .ok (.putfield 101, 3) := by decide +kernel
theorem dX8_tick_117 : decode cX8_tick 117 = .ok (.aload_n 0, 1) := by decide +kernel
theorem dX8_tick_118 : decode cX8_tick 118 = .ok (.dup, 1) := by decide +kernel
theorem dX8_tick_119 : decode cX8_tick 119 = .ok (.getfield 89, 3) := by decide +kernel
theorem dX8_tick_122 : decode cX8_tick 122 = .ok (.iconst 1, 1) := by decide +kernel
theorem dX8_tick_123 : decode cX8_tick 123 = .ok (.iadd, 1) := by decide +kernel
theorem dX8_tick_124 : decode cX8_tick 124 = .ok (.putfield 89, 3) := by decide +kernel
theorem dX8_tick_127 : decode cX8_tick 127 = .ok (.iload_n 2, 1) := by decide +kernel
theorem dX8_tick_128 : decode cX8_tick 128 = .ok (.ireturn, 1) := by decide +kernel
theorem dX8_remember_0 : decode cX8_remember 0 = .ok (.aload_n 0, 1) := by decide +kernel
theorem dX8_remember_1 : decode cX8_remember 1 = .ok (.getfield 108, 3) := by decide +kernel
theorem dX8_remember_4 : decode cX8_remember 4 = .ok (.bipush 32, 2) := by decide +kernel
theorem dX8_remember_6 : decode cX8_remember 6 = .ok (.if_icmp .ne 83, 3) := by decide +kernel
theorem dX8_remember_9 : decode cX8_remember 9 = .ok (.iconst 1, 1) := by decide +kernel
theorem dX8_remember_10 : decode cX8_remember 10 = .ok (.istore_n 2, 1) := by decide +kernel
theorem dX8_remember_11 : decode cX8_remember 11 = .ok (.iload_n 2, 1) := by decide +kernel
theorem dX8_remember_12 : decode cX8_remember 12 = .ok (.bipush 32, 2) := by decide +kernel
theorem dX8_remember_14 : decode cX8_remember 14 = .ok (.if_icmp .ge 65, 3) := by decide +kernel
theorem dX8_remember_17 : decode cX8_remember 17 = .ok (.aload_n 0, 1) := by decide +kernel
theorem dX8_remember_18 : decode cX8_remember 18 = .ok (.getfield 53, 3) := by decide +kernel
theorem dX8_remember_21 : decode cX8_remember 21 = .ok (.iload_n 2, 1) := by decide +kernel
theorem dX8_remember_22 : decode cX8_remember 22 = .ok (.iconst 1, 1) := by decide +kernel
theorem dX8_remember_23 : decode cX8_remember 23 = .ok (.isub, 1) := by decide +kernel
theorem dX8_remember_24 : decode cX8_remember 24 = .ok (.aload_n 0, 1) := by decide +kernel
theorem dX8_remember_25 : decode cX8_remember 25 = .ok (.getfield 53, 3) := by decide +kernel
theorem dX8_remember_28 : decode cX8_remember 28 = .ok (.iload_n 2, 1) := by decide +kernel
theorem dX8_remember_29 : decode cX8_remember 29 = .ok (.iaload, 1) := by decide +kernel
theorem dX8_remember_30 : decode cX8_remember 30 = .ok (.iastore, 1) := by decide +kernel
theorem dX8_remember_31 : decode cX8_remember 31 = .ok (.aload_n 0, 1) := by decide +kernel
theorem dX8_remember_32 : decode cX8_remember 32 = .ok (.getfield 56, 3) := by decide +kernel
theorem dX8_remember_35 : decode cX8_remember 35 = .ok (.iload_n 2, 1) := by decide +kernel
theorem dX8_remember_36 : decode cX8_remember 36 = .ok (.iconst 1, 1) := by decide +kernel
theorem dX8_remember_37 : decode cX8_remember 37 = .ok (.isub, 1) := by decide +kernel
theorem dX8_remember_38 : decode cX8_remember 38 = .ok (.aload_n 0, 1) := by decide +kernel
theorem dX8_remember_39 : decode cX8_remember 39 = .ok (.getfield 56, 3) := by decide +kernel
theorem dX8_remember_42 : decode cX8_remember 42 = .ok (.iload_n 2, 1) := by decide +kernel
theorem dX8_remember_43 : decode cX8_remember 43 = .ok (.iaload, 1) := by decide +kernel
theorem dX8_remember_44 : decode cX8_remember 44 = .ok (.iastore, 1) := by decide +kernel
theorem dX8_remember_45 : decode cX8_remember 45 = .ok (.aload_n 0, 1) := by decide +kernel
theorem dX8_remember_46 : decode cX8_remember 46 = .ok (.getfield 59, 3) := by decide +kernel
theorem dX8_remember_49 : decode cX8_remember 49 = .ok (.iload_n 2, 1) := by decide +kernel
theorem dX8_remember_50 : decode cX8_remember 50 = .ok (.iconst 1, 1) := by decide +kernel
theorem dX8_remember_51 : decode cX8_remember 51 = .ok (.isub, 1) := by decide +kernel
theorem dX8_remember_52 : decode cX8_remember 52 = .ok (.aload_n 0, 1) := by decide +kernel
theorem dX8_remember_53 : decode cX8_remember 53 = .ok (.getfield 59, 3) := by decide +kernel
theorem dX8_remember_56 : decode cX8_remember 56 = .ok (.iload_n 2, 1) := by decide +kernel
theorem dX8_remember_57 : decode cX8_remember 57 = .ok (.iaload, 1) := by decide +kernel
theorem dX8_remember_58 : decode cX8_remember 58 = .ok (.iastore, 1) := by decide +kernel
theorem dX8_remember_59 : decode cX8_remember 59 = .ok (.aload_n 0, 1) := by decide +kernel
theorem dX8_remember_60 : decode cX8_remember 60 = .ok (.getfield 62, 3) := by decide +kernel
theorem dX8_remember_63 : decode cX8_remember 63 = .ok (.iload_n 2, 1) := by decide +kernel
theorem dX8_remember_64 : decode cX8_remember 64 = .ok (.iconst 1, 1) := by decide +kernel
theorem dX8_remember_65 : decode cX8_remember 65 = .ok (.isub, 1) := by decide +kernel
theorem dX8_remember_66 : decode cX8_remember 66 = .ok (.aload_n 0, 1) := by decide +kernel
theorem dX8_remember_67 : decode cX8_remember 67 = .ok (.getfield 62, 3) := by decide +kernel
theorem dX8_remember_70 : decode cX8_remember 70 = .ok (.iload_n 2, 1) := by decide +kernel
theorem dX8_remember_71 : decode cX8_remember 71 = .ok (.iaload, 1) := by decide +kernel
theorem dX8_remember_72 : decode cX8_remember 72 = .ok (.iastore, 1) := by decide +kernel
theorem dX8_remember_73 : decode cX8_remember 73 = .ok (.iinc 2 1, 3) := by decide +kernel
theorem dX8_remember_76 : decode cX8_remember 76 = .ok (.goto (-65), 3) := by decide +kernel
theorem dX8_remember_79 : decode cX8_remember 79 = .ok (.aload_n 0, 1) := by decide +kernel
