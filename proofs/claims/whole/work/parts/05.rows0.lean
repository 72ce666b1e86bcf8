theorem dX0_of_0 : decode cX0_of 0 = .ok (.iload_n 1, 1) := by decide +kernel
theorem dX0_of_1 : decode cX0_of 1 = .ok (.ifCond .ne 7, 3) := by decide +kernel
theorem dX0_of_4 : decode cX0_of 4 = .ok (.iconst 0, 1) := by decide +kernel
theorem dX0_of_5 : decode cX0_of 5 = .ok (.goto 4, 3) := by decide +kernel
theorem dX0_of_8 : decode cX0_of 8 = .ok (.iload_n 2, 1) := by decide +kernel
theorem dX0_of_9 : decode cX0_of 9 = .ok (.istore_n 3, 1) := by decide +kernel
theorem dX0_of_10 : decode cX0_of 10 = .ok (.iload_n 0, 1) := by decide +kernel
theorem dX0_of_11 : decode cX0_of 11 = .ok (.iload_n 1, 1) := by decide +kernel
theorem dX0_of_12 : decode cX0_of 12 = .ok (.bipush 8, 2) := by decide +kernel
theorem dX0_of_14 : decode cX0_of 14 = .ok (.ishl, 1) := by decide +kernel
theorem dX0_of_15 : decode cX0_of 15 = .ok (.ior, 1) := by decide +kernel
theorem dX0_of_16 : decode cX0_of 16 = .ok (.iload_n 3, 1) := by decide +kernel
theorem dX0_of_17 : decode cX0_of 17 = .ok (.bipush 16, 2) := by decide +kernel
theorem dX0_of_19 : decode cX0_of 19 = .ok (.ishl, 1) := by decide +kernel
theorem dX0_of_20 : decode cX0_of 20 = .ok (.ior, 1) := by decide +kernel
theorem dX0_of_21 : decode cX0_of 21 = .ok (.ireturn, 1) := by decide +kernel
theorem dX0_valueOf_0 : decode cX0_valueOf 0 = .ok (.iload_n 0, 1) := by decide +kernel
theorem dX0_valueOf_1 : decode cX0_valueOf 1 = .ok (.sipush 255, 3) := by decide +kernel
theorem dX0_valueOf_4 : decode cX0_valueOf 4 = .ok (.iand, 1) := by decide +kernel
theorem dX0_valueOf_5 : decode cX0_valueOf 5 = .ok (.ireturn, 1) := by decide +kernel
theorem dX0_shadowOf_0 : decode cX0_shadowOf 0 = .ok (.iload_n 0, 1) := by decide +kernel
theorem dX0_shadowOf_1 : decode cX0_shadowOf 1 = .ok (.bipush 8, 2) := by decide +kernel
theorem dX0_shadowOf_3 : decode cX0_shadowOf 3 = .ok (.ishr, 1) := by decide +kernel
theorem dX0_shadowOf_4 : decode cX0_shadowOf 4 = .ok (.sipush 255, 3) := by decide +kernel
theorem dX0_shadowOf_7 : decode cX0_shadowOf 7 = .ok (.iand, 1) := by decide +kernel
theorem dX0_shadowOf_8 : decode cX0_shadowOf 8 = .ok (.ireturn, 1) := by decide +kernel
theorem dX0_fromOf_0 : decode cX0_fromOf 0 = .ok (.iload_n 0, 1) := by decide +kernel
theorem dX0_fromOf_1 : decode cX0_fromOf 1 = .ok (.bipush 16, 2) := by decide +kernel
theorem dX0_fromOf_3 : decode cX0_fromOf 3 = .ok (.ishr, 1) := by decide +kernel
theorem dX0_fromOf_4 : decode cX0_fromOf 4 = .ok (.ireturn, 1) := by decide +kernel
set_option maxRecDepth 20000 in
theorem ggX0_leastOf_X0_valueOf : GoodIn wsX0_leastOf wsX0_valueOf := goodIn_r _ [4] (by decide +kernel) (by decide +kernel)
set_option maxRecDepth 20000 in
theorem gX0_leastOf_X0_valueOf : GoodIn wsX0_leastOf (va_wsS RX0 9 yX0_valueOf wsX0_valueOf) := goodIn_app (goodIn_of _ (by decide +kernel)) ggX0_leastOf_X0_valueOf
set_option maxRecDepth 20000 in
theorem ggX0_leastOf_X0_shadowOf : GoodIn wsX0_leastOf wsX0_shadowOf := goodIn_r _ [7] (by decide +kernel) (by decide +kernel)
set_option maxRecDepth 20000 in
theorem gX0_leastOf_X0_shadowOf : GoodIn wsX0_leastOf (va_wsS RX0 15 yX0_shadowOf wsX0_shadowOf) := goodIn_app (goodIn_of _ (by decide +kernel)) ggX0_leastOf_X0_shadowOf
theorem dX0_leastOf_0 : decode cX0_leastOf 0 = .ok (.iload_n 0, 1) := by decide +kernel
theorem dX0_leastOf_1 : decode cX0_leastOf 1 = .ok (.invokestatic 9, 3) := by decide +kernel
theorem dX0_leastOf_4 : decode cX0_leastOf 4 = .ok (.iload_n 0, 1) := by decide +kernel
theorem dX0_leastOf_5 : decode cX0_leastOf 5 = .ok (.invokestatic 15, 3) := by decide +kernel
theorem dX0_leastOf_8 : decode cX0_leastOf 8 = .ok (.iconst (-1), 1) := by decide +kernel
theorem dX0_leastOf_9 : decode cX0_leastOf 9 = .ok (.ixor, 1) := by decide +kernel
theorem dX0_leastOf_10 : decode cX0_leastOf 10 = .ok (.iand, 1) := by decide +kernel
theorem dX0_leastOf_11 : decode cX0_leastOf 11 = .ok (.ireturn, 1) := by decide +kernel
set_option maxRecDepth 20000 in
theorem ggX0_mostOf_X0_valueOf : GoodIn wsX0_mostOf wsX0_valueOf := goodIn_r _ [4] (by decide +kernel) (by decide +kernel)
set_option maxRecDepth 20000 in
theorem gX0_mostOf_X0_valueOf : GoodIn wsX0_mostOf (va_wsS RX0 9 yX0_valueOf wsX0_valueOf) := goodIn_app (goodIn_of _ (by decide +kernel)) ggX0_mostOf_X0_valueOf
set_option maxRecDepth 20000 in
theorem ggX0_mostOf_X0_shadowOf : GoodIn wsX0_mostOf wsX0_shadowOf := goodIn_r _ [7] (by decide +kernel) (by decide +kernel)
set_option maxRecDepth 20000 in
theorem gX0_mostOf_X0_shadowOf : GoodIn wsX0_mostOf (va_wsS RX0 15 yX0_shadowOf wsX0_shadowOf) := goodIn_app (goodIn_of _ (by decide +kernel)) ggX0_mostOf_X0_shadowOf
theorem dX0_mostOf_0 : decode cX0_mostOf 0 = .ok (.iload_n 0, 1) := by decide +kernel
theorem dX0_mostOf_1 : decode cX0_mostOf 1 = .ok (.invokestatic 9, 3) := by decide +kernel
theorem dX0_mostOf_4 : decode cX0_mostOf 4 = .ok (.iload_n 0, 1) := by decide +kernel
theorem dX0_mostOf_5 : decode cX0_mostOf 5 = .ok (.invokestatic 15, 3) := by decide +kernel
theorem dX0_mostOf_8 : decode cX0_mostOf 8 = .ok (.ior, 1) := by decide +kernel
theorem dX0_mostOf_9 : decode cX0_mostOf 9 = .ok (.ireturn, 1) := by decide +kernel
set_option maxRecDepth 20000 in
theorem ggX0_isDecided_X0_leastOf : GoodIn wsX0_isDecided wsX0_leastOf := goodIn_r _ [4, 5, 6, 3, 7, 8, 9, 10] (by decide +kernel) (by decide +kernel)
set_option maxRecDepth 20000 in
theorem gX0_isDecided_X0_leastOf : GoodIn wsX0_isDecided (va_wsS RX0 18 yX0_leastOf wsX0_leastOf) := goodIn_app (goodIn_of _ (by decide +kernel)) ggX0_isDecided_X0_leastOf
set_option maxRecDepth 20000 in
theorem ggX0_isDecided_X0_shadowOf : GoodIn wsX0_isDecided wsX0_shadowOf := goodIn_r _ [10] (by decide +kernel) (by decide +kernel)
set_option maxRecDepth 20000 in
theorem gX0_isDecided_X0_shadowOf : GoodIn wsX0_isDecided (va_wsS RX0 15 yX0_shadowOf wsX0_shadowOf) := goodIn_app (goodIn_of _ (by decide +kernel)) ggX0_isDecided_X0_shadowOf
theorem dX0_isDecided_0 : decode cX0_isDecided 0 = .ok (.iload_n 0, 1) := by decide +kernel
theorem dX0_isDecided_1 : decode cX0_isDecided 1 = .ok (.invokestatic 18, 3) := by decide +kernel
theorem dX0_isDecided_4 : decode cX0_isDecided 4 = .ok (.ifCond .ne 10, 3) := by decide +kernel
theorem dX0_isDecided_7 : decode cX0_isDecided 7 = .ok (.iload_n 0, 1) := by decide +kernel
theorem dX0_isDecided_8 : decode cX0_isDecided 8 = .ok (.invokestatic 15, 3) := by decide +kernel
theorem dX0_isDecided_11 : decode cX0_isDecided 11 = .ok (.ifCond .ne 7, 3) := by decide +kernel
theorem dX0_isDecided_14 : decode cX0_isDecided 14 = .ok (.iconst 1, 1) := by decide +kernel
theorem dX0_isDecided_15 : decode cX0_isDecided 15 = .ok (.goto 4, 3) := by decide +kernel
theorem dX0_isDecided_18 : decode cX0_isDecided 18 = .ok (.iconst 0, 1) := by decide +kernel
theorem dX0_isDecided_19 : decode cX0_isDecided 19 = .ok (.ireturn, 1) := by decide +kernel
set_option maxRecDepth 20000 in
theorem ggX0_partOf_X0_valueOf : GoodIn wsX0_partOf wsX0_valueOf := goodIn_r _ [4] (by decide +kernel) (by decide +kernel)
set_option maxRecDepth 20000 in
theorem gX0_partOf_X0_valueOf : GoodIn wsX0_partOf (va_wsS RX0 9 yX0_valueOf wsX0_valueOf) := goodIn_app (goodIn_of _ (by decide +kernel)) ggX0_partOf_X0_valueOf
set_option maxRecDepth 20000 in
theorem ggX0_partOf_X0_shadowOf : GoodIn wsX0_partOf wsX0_shadowOf := goodIn_r _ [7] (by decide +kernel) (by decide +kernel)
set_option maxRecDepth 20000 in
theorem gX0_partOf_X0_shadowOf : GoodIn wsX0_partOf (va_wsS RX0 15 yX0_shadowOf wsX0_shadowOf) := goodIn_app (goodIn_of _ (by decide +kernel)) ggX0_partOf_X0_shadowOf
set_option maxRecDepth 20000 in
theorem ggX0_partOf_X0_fromOf : GoodIn wsX0_partOf wsX0_fromOf := goodIn_r _ [10] (by decide +kernel) (by decide +kernel)
set_option maxRecDepth 20000 in
theorem gX0_partOf_X0_fromOf : GoodIn wsX0_partOf (va_wsS RX0 21 yX0_fromOf wsX0_fromOf) := goodIn_app (goodIn_of _ (by decide +kernel)) ggX0_partOf_X0_fromOf
set_option maxRecDepth 20000 in
theorem ggX0_partOf_X0_of : GoodIn wsX0_partOf wsX0_of := goodIn_r _ [13] (by decide +kernel) (by decide +kernel)
set_option maxRecDepth 20000 in
theorem gX0_partOf_X0_of : GoodIn wsX0_partOf (va_wsS RX0 24 yX0_of wsX0_of) := goodIn_app (goodIn_of _ (by decide +kernel)) ggX0_partOf_X0_of
theorem dX0_partOf_0 : decode cX0_partOf 0 = .ok (.iconst 1, 1) := by decide +kernel
theorem dX0_partOf_1 : decode cX0_partOf 1 = .ok (.iload_n 2, 1) := by decide +kernel
theorem dX0_partOf_2 : decode cX0_partOf 2 = .ok (.ishl, 1) := by decide +kernel
theorem dX0_partOf_3 : decode cX0_partOf 3 = .ok (.iconst 1, 1) := by decide +kernel
theorem dX0_partOf_4 : decode cX0_partOf 4 = .ok (.isub, 1) := by decide +kernel
theorem dX0_partOf_5 : decode cX0_partOf 5 = .ok (.istore_n 3, 1) := by decide +kernel
theorem dX0_partOf_6 : decode cX0_partOf 6 = .ok (.iload_n 0, 1) := by decide +kernel
theorem dX0_partOf_7 : decode cX0_partOf 7 = .ok (.invokestatic 9, 3) := by decide +kernel
theorem dX0_partOf_10 : decode cX0_partOf 10 = .ok (.iload_n 1, 1) := by decide +kernel
theorem dX0_partOf_11 : decode cX0_partOf 11 = .ok (.ishr, 1) := by decide +kernel
theorem dX0_partOf_12 : decode cX0_partOf 12 = .ok (.iload_n 3, 1) := by decide +kernel
theorem dX0_partOf_13 : decode cX0_partOf 13 = .ok (.iand, 1) := by decide +kernel
theorem dX0_partOf_14 : decode cX0_partOf 14 = .ok (.iload_n 0, 1) := by decide +kernel
theorem dX0_partOf_15 : decode cX0_partOf 15 = .ok (.invokestatic 15, 3) := by decide +kernel
theorem dX0_partOf_18 : decode cX0_partOf 18 = .ok (.iload_n 1, 1) := by decide +kernel
theorem dX0_partOf_19 : decode cX0_partOf 19 = .ok (.ishr, 1) := by decide +kernel
theorem dX0_partOf_20 : decode cX0_partOf 20 = .ok (.iload_n 3, 1) := by decide +kernel
theorem dX0_partOf_21 : decode cX0_partOf 21 = .ok (.iand, 1) := by decide +kernel
theorem dX0_partOf_22 : decode cX0_partOf 22 = .ok (.iload_n 0, 1) := by decide +kernel
theorem dX0_partOf_23 : decode cX0_partOf 23 = .ok (.invokestatic 21, 3) := by decide +kernel
theorem dX0_partOf_26 : decode cX0_partOf 26 = .ok (.invokestatic 24, 3) := by decide +kernel
theorem dX0_partOf_29 : decode cX0_partOf 29 = .ok (.ireturn, 1) := by decide +kernel
theorem dX1_init_0 : decode cX1_init 0 = .ok (.aload_n 0, 1) := by decide +kernel
theorem dX1_init_1 : decode cX1_init 1 = .ok (.invokespecial 3, 3) := by decide +kernel
theorem dX1_init_4 : decode cX1_init 4 = .ok (.aload_n 0, 1) := by decide +kernel
theorem dX1_init_5 : decode cX1_init 5 = .ok (.bipush 32, 2) := by decide +kernel
theorem dX1_init_7 : decode cX1_init 7 = .ok (.newarray .int, 2) := by decide +kernel
theorem dX1_init_9 : decode cX1_init 9 = .ok (.putfield 9, 3) := by decide +kernel
theorem dX1_init_12 : decode cX1_init 12 = .ok (.aload_n 0, 1) := by decide +kernel
theorem dX1_init_13 : decode cX1_init 13 = .ok (.bipush 32, 2) := by decide +kernel
theorem dX1_init_15 : decode cX1_init 15 = .ok (.newarray .int, 2) := by decide +kernel
theorem dX1_init_17 : decode cX1_init 17 = .ok (.putfield 15, 3) := by decide +kernel
theorem dX1_init_20 : decode cX1_init 20 = .ok (.return_, 1) := by decide +kernel
theorem dX1_clear_0 : decode cX1_clear 0 = .ok (.aload_n 0, 1) := by decide +kernel
theorem dX1_clear_1 : decode cX1_clear 1 = .ok (.iconst 0, 1) := by decide +kernel
theorem dX1_clear_2 : decode cX1_clear 2 = .ok (.putfield 18, 3) := by decide +kernel
theorem dX1_clear_5 : decode cX1_clear 5 = .ok (.aload_n 0, 1) := by decide +kernel
theorem dX1_clear_6 : decode cX1_clear 6 = .ok (.iconst 0, 1) := by decide +kernel
theorem dX1_clear_7 : decode cX1_clear 7 = .ok (.putfield 22, 3) := by decide +kernel
theorem dX1_clear_10 : decode cX1_clear 10 = .ok (.return_, 1) := by decide +kernel
theorem dX1_add_0 : decode cX1_add 0 = .ok (.aload_n 0, 1) := by decide +kernel
theorem dX1_add_1 : decode cX1_add 1 = .ok (.getfield 9, 3) := by decide +kernel
theorem dX1_add_4 : decode cX1_add 4 = .ok (.aload_n 0, 1) := by decide +kernel
theorem dX1_add_5 : decode cX1_add 5 = .ok (.getfield 22, 3) := by decide +kernel
theorem dX1_add_8 : decode cX1_add 8 = .ok (.iload_n 1, 1) := by decide +kernel
theorem dX1_add_9 : decode cX1_add 9 = .ok (.iastore, 1) := by decide +kernel
theorem dX1_add_10 : decode cX1_add 10 = .ok (.aload_n 0, 1) := by decide +kernel
theorem dX1_add_11 : decode cX1_add 11 = .ok (.getfield 15, 3) := by decide +kernel
theorem dX1_add_14 : decode cX1_add 14 = .ok (.aload_n 0, 1) := by decide +kernel
theorem dX1_add_15 : decode cX1_add 15 = .ok (.getfield 22, 3) := by decide +kernel
theorem dX1_add_18 : decode cX1_add 18 = .ok (.iload_n 2, 1) := by decide +kernel
theorem dX1_add_19 : decode cX1_add 19 = .ok (.iastore, 1) := by decide +kernel
theorem dX1_add_20 : decode cX1_add 20 = .ok (.aload_n 0, 1) := by decide +kernel
theorem dX1_add_21 : decode cX1_add 21 = .ok (.aload_n 0, 1) := by decide +kernel
theorem dX1_add_22 : decode cX1_add 22 = .ok (.getfield 22, 3) := by decide +kernel
theorem dX1_add_25 : decode cX1_add 25 = .ok (.iconst 1, 1) := by decide +kernel
theorem dX1_add_26 : decode cX1_add 26 = .ok (.iadd, 1) := by decide +kernel
theorem dX1_add_27 : decode cX1_add 27 = .ok (.bipush 31, 2) := by decide +kernel
theorem dX1_add_29 : decode cX1_add 29 = .ok (.iand, 1) := by decide +kernel
theorem dX1_add_30 : decode cX1_add 30 = .ok (.putfield 22, 3) := by decide +kernel
theorem dX1_add_33 : decode cX1_add 33 = .ok (.aload_n 0, 1) := by decide +kernel
theorem dX1_add_34 : decode cX1_add 34 = .ok (.aload_n 0, 1) := by decide +kernel
theorem dX1_add_35 : decode cX1_add 35 = .ok (.getfield 18, 3) := by decide +kernel
theorem dX1_add_38 : decode cX1_add 38 = .ok (.iconst 1, 1) := by decide +kernel
theorem dX1_add_39 : decode cX1_add 39 = .ok (.iadd, 1) := by decide +kernel
theorem dX1_add_40 : decode cX1_add 40 = .ok (.bipush 32, 2) := by decide +kernel
theorem dX1_add_42 : decode cX1_add 42 = .ok (.invokestatic 25, 3) := by decide +kernel
theorem dX1_add_45 : decode cX1_add 45 = .ok (.putfield 18, 3) := by decide +kernel
theorem dX1_add_48 : decode cX1_add 48 = .ok (.return_, 1) := by decide +kernel
theorem dX1_takeBackLatest_0 : decode cX1_takeBackLatest 0 = .ok (.aload_n 0, 1) := by decide +kernel
theorem dX1_takeBackLatest_1 : decode cX1_takeBackLatest 1 = .ok (.aload_n 0, 1) := by decide +kernel
theorem dX1_takeBackLatest_2 : decode cX1_takeBackLatest 2 = .ok (.getfield 22, 3) := by decide +kernel
theorem dX1_takeBackLatest_5 : decode cX1_takeBackLatest 5 = .ok (.iconst 1, 1) := by decide +kernel
theorem dX1_takeBackLatest_6 : decode cX1_takeBackLatest 6 = .ok (.isub, 1) := by decide +kernel
theorem dX1_takeBackLatest_7 : decode cX1_takeBackLatest 7 = .ok (.bipush 31, 2) := by decide +kernel
theorem dX1_takeBackLatest_9 : decode cX1_takeBackLatest 9 = .ok (.iand, 1) := by decide +kernel
theorem dX1_takeBackLatest_10 : decode cX1_takeBackLatest 10 = .ok (.putfield 22, 3) := by decide +kernel
theorem dX1_takeBackLatest_13 : decode cX1_takeBackLatest 13 = .ok (.aload_n 1, 1) := by decide +kernel
theorem dX1_takeBackLatest_14 : decode cX1_takeBackLatest 14 = .ok (.aload_n 0, 1) := by decide +kernel
theorem dX1_takeBackLatest_15 : decode cX1_takeBackLatest 15 = .ok (.getfield 9, 3) := by decide +kernel
theorem dX1_takeBackLatest_18 : decode cX1_takeBackLatest 18 = .ok (.aload_n 0, 1) := by decide +kernel
theorem dX1_takeBackLatest_19 : decode cX1_takeBackLatest 19 = .ok (.getfield 22, 3) := by decide +kernel
theorem dX1_takeBackLatest_22 : decode cX1_takeBackLatest 22 = .ok (.iaload, 1) := by decide +kernel
theorem dX1_takeBackLatest_23 : decode cX1_takeBackLatest 23 = .ok (.aload_n 0, 1) := by decide +kernel
theorem dX1_takeBackLatest_24 : decode cX1_takeBackLatest 24 = .ok (.getfield 15, 3) := by decide +kernel
theorem dX1_takeBackLatest_27 : decode cX1_takeBackLatest 27 = .ok (.aload_n 0, 1) := by decide +kernel
theorem dX1_takeBackLatest_28 : decode cX1_takeBackLatest 28 = .ok (.getfield 22, 3) := by decide +kernel
theorem dX1_takeBackLatest_31 : decode cX1_takeBackLatest 31 = .ok (.iaload, 1) := by decide +kernel
theorem dX1_takeBackLatest_32 : decode cX1_takeBackLatest 32 = .ok (.iastore, 1) := by decide +kernel
theorem dX1_takeBackLatest_33 : decode cX1_takeBackLatest 33 = .ok (.aload_n 0, 1) := by decide +kernel
theorem dX1_takeBackLatest_34 : decode cX1_takeBackLatest 34 = .ok (.dup, 1) := by decide +kernel
theorem dX1_takeBackLatest_35 : decode cX1_takeBackLatest 35 = .ok (.getfield 18, 3) := by decide +kernel
theorem dX1_takeBackLatest_38 : decode cX1_takeBackLatest 38 = .ok (.iconst 1, 1) := by decide +kernel
theorem dX1_takeBackLatest_39 : decode cX1_takeBackLatest 39 = .ok (.isub, 1) := by decide +kernel
theorem dX1_takeBackLatest_40 : decode cX1_takeBackLatest 40 = .ok (.putfield 18, 3) := by decide +kernel
theorem dX1_takeBackLatest_43 : decode cX1_takeBackLatest 43 = .ok (.return_, 1) := by decide +kernel
theorem dX2_init_0 : decode cX2_init 0 = .ok (.aload_n 0, 1) := by decide +kernel
theorem dX2_init_1 : decode cX2_init 1 = .ok (.invokespecial 3, 3) := by decide +kernel
theorem dX2_init_4 : decode cX2_init 4 = .ok (.aload_n 0, 1) := by decide +kernel
theorem dX2_init_5 : decode cX2_init 5 = .ok (.bipush 20, 2) := by decide +kernel
theorem dX2_init_7 : decode cX2_init 7 = .ok (.newarray .int, 2) := by decide +kernel
theorem dX2_init_9 : decode cX2_init 9 = .ok (.putfield 9, 3) := by decide +kernel
theorem dX2_init_12 : decode cX2_init 12 = .ok (.aload_n 0, 1) := by decide +kernel
theorem dX2_init_13 : decode cX2_init 13 = .ok (.bipush 20, 2) := by decide +kernel
theorem dX2_init_15 : decode cX2_init 15 = .ok (.newarray .int, 2) := by decide +kernel
theorem dX2_init_17 : decode cX2_init 17 = .ok (.putfield 15, 3) := by decide +kernel
theorem dX2_init_20 : decode cX2_init 20 = .ok (.aload_n 0, 1) := by decide +kernel
theorem dX2_init_21 : decode cX2_init 21 = .ok (.bipush 20, 2) := by decide +kernel
theorem dX2_init_23 : decode cX2_init 23 = .ok (.newarray .int, 2) := by decide +kernel
theorem dX2_init_25 : decode cX2_init 25 = .ok (.putfield 18, 3) := by decide +kernel
theorem dX2_init_28 : decode cX2_init 28 = .ok (.return_, 1) := by decide +kernel
theorem dX2_clear_0 : decode cX2_clear 0 = .ok (.aload_n 0, 1) := by decide +kernel
theorem dX2_clear_1 : decode cX2_clear 1 = .ok (.iconst 0, 1) := by decide +kernel
theorem dX2_clear_2 : decode cX2_clear 2 = .ok (.putfield 21, 3) := by decide +kernel
theorem dX2_clear_5 : decode cX2_clear 5 = .ok (.aload_n 0, 1) := by decide +kernel
theorem dX2_clear_6 : decode cX2_clear 6 = .ok (.iconst 0, 1) := by decide +kernel
theorem dX2_clear_7 : decode cX2_clear 7 = .ok (.putfield 25, 3) := by decide +kernel
theorem dX2_clear_10 : decode cX2_clear 10 = .ok (.return_, 1) := by decide +kernel
theorem dX2_add_0 : decode cX2_add 0 = .ok (.aload_n 0, 1) := by decide +kernel
theorem dX2_add_1 : decode cX2_add 1 = .ok (.dup, 1) := by decide +kernel
theorem dX2_add_2 : decode cX2_add 2 = .ok (.getfield 21, 3) := by decide +kernel
theorem dX2_add_5 : decode cX2_add 5 = .ok (.iconst 1, 1) := by decide +kernel
theorem dX2_add_6 : decode cX2_add 6 = .ok (.iadd, 1) := by decide +kernel
theorem dX2_add_7 : decode cX2_add 7 = .ok (.putfield 21, 3) := by decide +kernel
theorem dX2_add_10 : decode cX2_add 10 = .ok (.aload_n 0, 1) := by decide +kernel
theorem dX2_add_11 : decode cX2_add 11 = .ok (.getfield 25, 3) := by decide +kernel
theorem dX2_add_14 : decode cX2_add 14 = .ok (.bipush 20, 2) := by decide +kernel
theorem dX2_add_16 : decode cX2_add 16 = .ok (.if_icmp .ge 43, 3) := by decide +kernel
theorem dX2_add_19 : decode cX2_add 19 = .ok (.aload_n 0, 1) := by decide +kernel
theorem dX2_add_20 : decode cX2_add 20 = .ok (.getfield 9, 3) := by decide +kernel
theorem dX2_add_23 : decode cX2_add 23 = .ok (.aload_n 0, 1) := by decide +kernel
theorem dX2_add_24 : decode cX2_add 24 = .ok (.getfield 25, 3) := by decide +kernel
theorem dX2_add_27 : decode cX2_add 27 = .ok (.iload_n 1, 1) := by decide +kernel
theorem dX2_add_28 : decode cX2_add 28 = .ok (.iastore, 1) := by decide +kernel
theorem dX2_add_29 : decode cX2_add 29 = .ok (.aload_n 0, 1) := by decide +kernel
theorem dX2_add_30 : decode cX2_add 30 = .ok (.getfield 15, 3) := by decide +kernel
theorem dX2_add_33 : decode cX2_add 33 = .ok (.aload_n 0, 1) := by decide +kernel
theorem dX2_add_34 : decode cX2_add 34 = .ok (.getfield 25, 3) := by decide +kernel
theorem dX2_add_37 : decode cX2_add 37 = .ok (.iload_n 2, 1) := by decide +kernel
theorem dX2_add_38 : decode cX2_add 38 = .ok (.iastore, 1) := by decide +kernel
theorem dX2_add_39 : decode cX2_add 39 = .ok (.aload_n 0, 1) := by decide +kernel
theorem dX2_add_40 : decode cX2_add 40 = .ok (.getfield 18, 3) := by decide +kernel
theorem dX2_add_43 : decode cX2_add 43 = .ok (.aload_n 0, 1) := by decide +kernel
theorem dX2_add_44 : decode cX2_add 44 = .ok (.getfield 25, 3) := by decide +kernel
theorem dX2_add_47 : decode cX2_add 47 = .ok (.iload_n 3, 1) := by decide +kernel
theorem dX2_add_48 : decode cX2_add 48 = .ok (.iastore, 1) := by decide +kernel
theorem dX2_add_49 : decode cX2_add 49 = .ok (.aload_n 0, 1) := by decide +kernel
theorem dX2_add_50 : decode cX2_add 50 = .ok (.dup, 1) := by decide +kernel
theorem dX2_add_51 : decode cX2_add 51 = .ok (.getfield 25, 3) := by decide +kernel
theorem dX2_add_54 : decode cX2_add 54 = .ok (.iconst 1, 1) := by decide +kernel
theorem dX2_add_55 : decode cX2_add 55 = .ok (.iadd, 1) := by decide +kernel
theorem dX2_add_56 : decode cX2_add 56 = .ok (.putfield 25, 3) := by decide +kernel
theorem dX2_add_59 : decode cX2_add 59 = .ok (.return_, 1) := by decide +kernel
theorem dX2_countNaming_0 : decode cX2_countNaming 0 = .ok (.iconst 0, 1) := by decide +kernel
theorem dX2_countNaming_1 : decode cX2_countNaming 1 = .ok (.istore_n 2, 1) := by decide +kernel
theorem dX2_countNaming_2 : decode cX2_countNaming 2 = .ok (.iconst 0, 1) := by decide +kernel
theorem dX2_countNaming_3 : decode cX2_countNaming 3 = .ok (.istore_n 3, 1) := by decide +kernel
theorem dX2_countNaming_4 : decode cX2_countNaming 4 = .ok (.iload_n 3, 1) := by decide +kernel
theorem dX2_countNaming_5 : decode cX2_countNaming 5 = .ok (.aload_n 0, 1) := by decide +kernel
theorem dX2_countNaming_6 : decode cX2_countNaming 6 = .ok (.getfield 25, 3) := by decide +kernel
theorem dX2_countNaming_9 : decode cX2_countNaming 9 = .ok (.if_icmp .ge 22, 3) := by decide +kernel
theorem dX2_countNaming_12 : decode cX2_countNaming 12 = .ok (.iload_n 2, 1) := by decide +kernel
theorem dX2_countNaming_13 : decode cX2_countNaming 13 = .ok (.aload_n 0, 1) := by decide +kernel
theorem dX2_countNaming_14 : decode cX2_countNaming 14 = .ok (.getfield 18, 3) := by decide +kernel
theorem dX2_countNaming_17 : decode cX2_countNaming 17 = .ok (.iload_n 3, 1) := by decide +kernel
theorem dX2_countNaming_18 : decode cX2_countNaming 18 = .ok (.iaload, 1) := by decide +kernel
theorem dX2_countNaming_19 : decode cX2_countNaming 19 = .ok (.iload_n 1, 1) := by decide +kernel
theorem dX2_countNaming_20 : decode cX2_countNaming 20 = .ok (.ishr, 1) := by decide +kernel
theorem dX2_countNaming_21 : decode cX2_countNaming 21 = .ok (.iconst 1, 1) := by decide +kernel
theorem dX2_countNaming_22 : decode cX2_countNaming 22 = .ok (.iand, 1) := by decide +kernel
theorem dX2_countNaming_23 : decode cX2_countNaming 23 = .ok (.iadd, 1) := by decide +kernel
theorem dX2_countNaming_24 : decode cX2_countNaming 24 = .ok (.istore_n 2, 1) := by decide +kernel
theorem dX2_countNaming_25 : decode cX2_countNaming 25 = .ok (.iinc 3 1, 3) := by decide +kernel
theorem dX2_countNaming_28 : decode cX2_countNaming 28 = .ok (.goto (-24), 3) := by decide +kernel
theorem dX2_countNaming_31 : decode cX2_countNaming 31 = .ok (.iload_n 2, 1) := by decide +kernel
theorem dX2_countNaming_32 : decode cX2_countNaming 32 = .ok (.ireturn, 1) := by decide +kernel
theorem dX3_init_0 : decode cX3_init 0 = .ok (.aload_n 0, 1) := by decide +kernel
theorem dX3_init_1 : decode cX3_init 1 = .ok (.invokespecial 3, 3) := by decide +kernel
theorem dX3_init_4 : decode cX3_init 4 = .ok (.aload_n 0, 1) := by decide +kernel
theorem dX3_init_5 : decode cX3_init 5 = .ok (.bipush 12, 2) := by decide +kernel
theorem dX3_init_7 : decode cX3_init 7 = .ok (.newarray .int, 2) := by decide +kernel
theorem dX3_init_9 : decode cX3_init 9 = .ok (.putfield 9, 3) := by decide +kernel
theorem dX3_init_12 : decode cX3_init 12 = .ok (.aload_n 0, 1) := by decide +kernel
theorem dX3_init_13 : decode cX3_init 13 = .ok (.bipush 12, 2) := by decide +kernel
theorem dX3_init_15 : decode cX3_init 15 = .ok (.newarray .int, 2) := by decide +kernel
theorem dX3_init_17 : decode cX3_init 17 = .ok (.putfield 15, 3) := by decide +kernel
theorem dX3_init_20 : decode cX3_init 20 = .ok (.aload_n 0, 1) := by decide +kernel
theorem dX3_init_21 : decode cX3_init 21 = .ok (.bipush 32, 2) := by decide +kernel
theorem dX3_init_23 : decode cX3_init 23 = .ok (.newarray .int, 2) := by decide +kernel
theorem dX3_init_25 : decode cX3_init 25 = .ok (.putfield 18, 3) := by decide +kernel
theorem dX3_init_28 : decode cX3_init 28 = .ok (.return_, 1) := by decide +kernel
theorem dX3_clear_0 : decode cX3_clear 0 = .ok (.iconst 0, 1) := by decide +kernel
theorem dX3_clear_1 : decode cX3_clear 1 = .ok (.istore_n 1, 1) := by decide +kernel
theorem dX3_clear_2 : decode cX3_clear 2 = .ok (.iload_n 1, 1) := by decide +kernel
theorem dX3_clear_3 : decode cX3_clear 3 = .ok (.bipush 32, 2) := by decide +kernel
theorem dX3_clear_5 : decode cX3_clear 5 = .ok (.if_icmp .ge 16, 3) := by decide +kernel
theorem dX3_clear_8 : decode cX3_clear 8 = .ok (.aload_n 0, 1) := by decide +kernel
theorem dX3_clear_9 : decode cX3_clear 9 = .ok (.getfield 18, 3) := by decide +kernel
theorem dX3_clear_12 : decode cX3_clear 12 = .ok (.iload_n 1, 1) := by decide +kernel
theorem dX3_clear_13 : decode cX3_clear 13 = .ok (.iconst (-1), 1) := by decide +kernel
theorem dX3_clear_14 : decode cX3_clear 14 = .ok (.iastore, 1) := by decide +kernel
theorem dX3_clear_15 : decode cX3_clear 15 = .ok (.iinc 1 1, 3) := by decide +kernel
theorem dX3_clear_18 : decode cX3_clear 18 = .ok (.goto (-16), 3) := by decide +kernel
theorem dX3_clear_21 : decode cX3_clear 21 = .ok (.aload_n 0, 1) := by decide +kernel
theorem dX3_clear_22 : decode cX3_clear 22 = .ok (.iconst 0, 1) := by decide +kernel
theorem dX3_clear_23 : decode cX3_clear 23 = .ok (.putfield 21, 3) := by decide +kernel
theorem dX3_clear_26 : decode cX3_clear 26 = .ok (.aload_n 0, 1) := by decide +kernel
theorem dX3_clear_27 : decode cX3_clear 27 = .ok (.iconst 0, 1) := by decide +kernel
theorem dX3_clear_28 : decode cX3_clear 28 = .ok (.putfield 25, 3) := by decide +kernel
theorem dX3_clear_31 : decode cX3_clear 31 = .ok (.return_, 1) := by decide +kernel
theorem dX3_has_0 : decode cX3_has 0 = .ok (.iload_n 1, 1) := by decide +kernel
theorem dX3_has_1 : decode cX3_has 1 = .ok (.ifCond .lt 15, 3) := by decide +kernel
theorem dX3_has_4 : decode cX3_has 4 = .ok (.iload_n 1, 1) := by decide +kernel
theorem dX3_has_5 : decode cX3_has 5 = .ok (.aload_n 0, 1) := by decide +kernel
theorem dX3_has_6 : decode cX3_has 6 = .ok (.getfield 21, 3) := by decide +kernel
theorem dX3_has_9 : decode cX3_has 9 = .ok (.if_icmp .ge 7, 3) := by decide +kernel
theorem dX3_has_12 : decode cX3_has 12 = .ok (.iconst 1, 1) := by decide +kernel
theorem dX3_has_13 : decode cX3_has 13 = .ok (.goto 4, 3) := by decide +kernel
theorem dX3_has_16 : decode cX3_has 16 = .ok (.iconst 0, 1) := by decide +kernel
theorem dX3_has_17 : decode cX3_has 17 = .ok (.ireturn, 1) := by decide +kernel
theorem dX3_isLet_0 : decode cX3_isLet 0 = .ok (.aload_n 0, 1) := by decide +kernel
theorem dX3_isLet_1 : decode cX3_isLet 1 = .ok (.getfield 25, 3) := by decide +kernel
theorem dX3_isLet_4 : decode cX3_isLet 4 = .ok (.iload_n 1, 1) := by decide +kernel
theorem dX3_isLet_5 : decode cX3_isLet 5 = .ok (.ishr, 1) := by decide +kernel
theorem dX3_isLet_6 : decode cX3_isLet 6 = .ok (.iconst 1, 1) := by decide +kernel
theorem dX3_isLet_7 : decode cX3_isLet 7 = .ok (.iand, 1) := by decide +kernel
theorem dX3_isLet_8 : decode cX3_isLet 8 = .ok (.ifCond .eq 7, 3) := by decide +kernel
theorem dX3_isLet_11 : decode cX3_isLet 11 = .ok (.iconst 1, 1) := by decide +kernel
theorem dX3_isLet_12 : decode cX3_isLet 12 = .ok (.goto 4, 3) := by decide +kernel
theorem dX3_isLet_15 : decode cX3_isLet 15 = .ok (.iconst 0, 1) := by decide +kernel
theorem dX3_isLet_16 : decode cX3_isLet 16 = .ok (.ireturn, 1) := by decide +kernel
set_option maxRecDepth 20000 in
theorem ggX3_anyIsLet_X3_isLet : GoodIn wsX3_anyIsLet wsX3_isLet := goodIn_r _ [6, 7, 8, 9, 10, 11, 12] (by decide +kernel) (by decide +kernel)
set_option maxRecDepth 20000 in
theorem gX3_anyIsLet_X3_isLet : GoodIn wsX3_anyIsLet (wsV RX3 28 RX3 yX3_isLet wsX3_isLet) := goodIn_app (goodIn_of _ (by decide +kernel)) ggX3_anyIsLet_X3_isLet
theorem dX3_anyIsLet_0 : decode cX3_anyIsLet 0 = .ok (.iload_n 1, 1) := by decide +kernel
theorem dX3_anyIsLet_1 : decode cX3_anyIsLet 1 = .ok (.istore_n 3, 1) := by decide +kernel
theorem dX3_anyIsLet_2 : decode cX3_anyIsLet 2 = .ok (.iload_n 3, 1) := by decide +kernel
theorem dX3_anyIsLet_3 : decode cX3_anyIsLet 3 = .ok (.iload_n 1, 1) := by decide +kernel
theorem dX3_anyIsLet_4 : decode cX3_anyIsLet 4 = .ok (.iload_n 2, 1) := by decide +kernel
theorem dX3_anyIsLet_5 : decode cX3_anyIsLet 5 = .ok (.iadd, 1) := by decide +kernel
theorem dX3_anyIsLet_6 : decode cX3_anyIsLet 6 = .ok (.if_icmp .ge 34, 3) := by decide +kernel
theorem dX3_anyIsLet_9 : decode cX3_anyIsLet 9 = .ok (.aload_n 0, 1) := by decide +kernel
theorem dX3_anyIsLet_10 : decode cX3_anyIsLet 10 = .ok (.getfield 18, 3) := by decide +kernel
theorem dX3_anyIsLet_13 : decode cX3_anyIsLet 13 = .ok (.iload_n 3, 1) := by decide +kernel
theorem dX3_anyIsLet_14 : decode cX3_anyIsLet 14 = .ok (.iaload, 1) := by decide +kernel
theorem dX3_anyIsLet_15 : decode cX3_anyIsLet 15 = .ok (.istore 4, 2) := by decide +kernel
theorem dX3_anyIsLet_17 : decode cX3_anyIsLet 17 = .ok (.iload 4, 2) := by decide +kernel
theorem dX3_anyIsLet_19 : decode cX3_anyIsLet 19 = .ok (.iconst (-1), 1) := by decide +kernel
theorem dX3_anyIsLet_20 : decode cX3_anyIsLet 20 = .ok (.if_icmp .eq 14, 3) := by decide +kernel
theorem dX3_anyIsLet_23 : decode cX3_anyIsLet 23 = .ok (.aload_n 0, 1) := by decide +kernel
theorem dX3_anyIsLet_24 : decode cX3_anyIsLet 24 = .ok (.iload 4, 2) := by decide +kernel
theorem dX3_anyIsLet_26 : decode cX3_anyIsLet 26 = .ok (.invokevirtual 28, 3) := by decide +kernel
theorem dX3_anyIsLet_29 : decode cX3_anyIsLet 29 = .ok (.ifCond .eq 5, 3) := by decide +kernel
theorem dX3_anyIsLet_32 : decode cX3_anyIsLet 32 = .ok (.iconst 1, 1) := by decide +kernel
theorem dX3_anyIsLet_33 : decode cX3_anyIsLet 33 = .ok (.ireturn, 1) := by decide +kernel
theorem dX3_anyIsLet_34 : decode cX3_anyIsLet 34 = .ok (.iinc 3 1, 3) := by decide +kernel
theorem dX3_anyIsLet_37 : decode cX3_anyIsLet 37 = .ok (.goto (-35), 3) := by decide +kernel
theorem dX3_anyIsLet_40 : decode cX3_anyIsLet 40 = .ok (.iconst 0, 1) := by decide +kernel
theorem dX3_anyIsLet_41 : decode cX3_anyIsLet 41 = .ok (.ireturn, 1) := by decide +kernel
theorem dX3_open_0 : decode cX3_open 0 = .ok (.aload_n 0, 1) := by decide +kernel
theorem dX3_open_1 : decode cX3_open 1 = .ok (.getfield 21, 3) := by decide +kernel
theorem dX3_open_4 : decode cX3_open 4 = .ok (.istore_n 3, 1) := by decide +kernel
theorem dX3_open_5 : decode cX3_open 5 = .ok (.aload_n 0, 1) := by decide +kernel
theorem dX3_open_6 : decode cX3_open 6 = .ok (.getfield 9, 3) := by decide +kernel
theorem dX3_open_9 : decode cX3_open 9 = .ok (.iload_n 3, 1) := by decide +kernel
theorem dX3_open_10 : decode cX3_open 10 = .ok (.iload_n 1, 1) := by decide +kernel
theorem dX3_open_11 : decode cX3_open 11 = .ok (.iastore, 1) := by decide +kernel
theorem dX3_open_12 : decode cX3_open 12 = .ok (.aload_n 0, 1) := by decide +kernel
theorem dX3_open_13 : decode cX3_open 13 = .ok (.getfield 15, 3) := by decide +kernel
theorem dX3_open_16 : decode cX3_open 16 = .ok (.iload_n 3, 1) := by decide +kernel
theorem dX3_open_17 : decode cX3_open 17 = .ok (.iload_n 2, 1) := by decide +kernel
theorem dX3_open_18 : decode cX3_open 18 = .ok (.iastore, 1) := by decide +kernel
theorem dX3_open_19 : decode cX3_open 19 = .ok (.iload_n 1, 1) := by decide +kernel
theorem dX3_open_20 : decode cX3_open 20 = .ok (.istore 4, 2) := by decide +kernel
theorem dX3_open_22 : decode cX3_open 22 = .ok (.iload 4, 2) := by decide +kernel
theorem dX3_open_24 : decode cX3_open 24 = .ok (.iload_n 1, 1) := by decide +kernel
theorem dX3_open_25 : decode cX3_open 25 = .ok (.iload_n 2, 1) := by decide +kernel
theorem dX3_open_26 : decode cX3_open 26 = .ok (.iadd, 1) := by decide +kernel
theorem dX3_open_27 : decode cX3_open 27 = .ok (.if_icmp .ge 17, 3) := by decide +kernel
theorem dX3_open_30 : decode cX3_open 30 = .ok (.aload_n 0, 1) := by decide +kernel
theorem dX3_open_31 : decode cX3_open 31 = .ok (.getfield 18, 3) := by decide +kernel
theorem dX3_open_34 : decode cX3_open 34 = .ok (.iload 4, 2) := by decide +kernel
theorem dX3_open_36 : decode cX3_open 36 = .ok (.iload_n 3, 1) := by decide +kernel
theorem dX3_open_37 : decode cX3_open 37 = .ok (.iastore, 1) := by decide +kernel
theorem dX3_open_38 : decode cX3_open 38 = .ok (.iinc 4 1, 3) := by decide +kernel
theorem dX3_open_41 : decode cX3_open 41 = .ok (.goto (-19), 3) := by decide +kernel
theorem dX3_open_44 : decode cX3_open 44 = .ok (.aload_n 0, 1) := by decide +kernel
theorem dX3_open_45 : decode cX3_open 45 = .ok (.dup, 1) := by decide +kernel
theorem dX3_open_46 : decode cX3_open 46 = .ok (.getfield 25, 3) := by decide +kernel
theorem dX3_open_49 : decode cX3_open 49 = .ok (.iconst 1, 1) := by decide +kernel
theorem dX3_open_50 : decode cX3_open 50 = .ok (.iload_n 3, 1) := by decide +kernel
theorem dX3_open_51 : decode cX3_open 51 = .ok (.ishl, 1) := by decide +kernel
theorem dX3_open_52 : decode cX3_open 52 = .ok (.ior, 1) := by decide +kernel
theorem dX3_open_53 : decode cX3_open 53 = .ok (.putfield 25, 3) := by decide +kernel
theorem dX3_open_56 : decode cX3_open 56 = .ok (.aload_n 0, 1) := by decide +kernel
theorem dX3_open_57 : decode cX3_open 57 = .ok (.dup, 1) := by decide +kernel
theorem dX3_open_58 : decode cX3_open 58 = .ok (.getfield 21, 3) := by decide +kernel
theorem dX3_open_61 : decode cX3_open 61 = .ok (.iconst 1, 1) := by decide +kernel
theorem dX3_open_62 : decode cX3_open 62 = .ok (.iadd, 1) := by decide +kernel
theorem dX3_open_63 : decode cX3_open 63 = .ok (.putfield 21, 3) := by decide +kernel
theorem dX3_open_66 : decode cX3_open 66 = .ok (.iload_n 3, 1) := by decide +kernel
theorem dX3_open_67 : decode cX3_open 67 = .ok (.ireturn, 1) := by decide +kernel
theorem dX3_close_0 : decode cX3_close 0 = .ok (.aload_n 0, 1) := by decide +kernel
theorem dX3_close_1 : decode cX3_close 1 = .ok (.dup, 1) := by decide +kernel
theorem dX3_close_2 : decode cX3_close 2 = .ok (.getfield 25, 3) := by decide +kernel
theorem dX3_close_5 : decode cX3_close 5 = .ok (.iconst 1, 1) := by decide +kernel
theorem dX3_close_6 : decode cX3_close 6 = .ok (.iload_n 1, 1) := by decide +kernel
theorem dX3_close_7 : decode cX3_close 7 = .ok (.ishl, 1) := by decide +kernel
theorem dX3_close_8 : decode cX3_close 8 = .ok (.iconst (-1), 1) := by decide +kernel
theorem dX3_close_9 : decode cX3_close 9 = .ok (.ixor, 1) := by decide +kernel
theorem dX3_close_10 : decode cX3_close 10 = .ok (.iand, 1) := by decide +kernel
theorem dX3_close_11 : decode cX3_close 11 = .ok (.putfield 25, 3) := by decide +kernel
theorem dX3_close_14 : decode cX3_close 14 = .ok (.return_, 1) := by decide +kernel
theorem dX4_init_0 : decode cX4_init 0 = .ok (.aload_n 0, 1) := by decide +kernel
theorem dX4_init_1 : decode cX4_init 1 = .ok (.invokespecial 3, 3) := by decide +kernel
theorem dX4_init_4 : decode cX4_init 4 = .ok (.aload_n 0, 1) := by decide +kernel
theorem dX4_init_5 : decode cX4_init 5 = .ok (.bipush 40, 2) := by decide +kernel
theorem dX4_init_7 : decode cX4_init 7 = .ok (.newarray .int, 2) := by decide +kernel
theorem dX4_init_9 : decode cX4_init 9 = .ok (.putfield 9, 3) := by decide +kernel
theorem dX4_init_12 : decode cX4_init 12 = .ok (.return_, 1) := by decide +kernel
theorem dX4_clear_0 : decode cX4_clear 0 = .ok (.iconst 0, 1) := by decide +kernel
theorem dX4_clear_1 : decode cX4_clear 1 = .ok (.istore_n 1, 1) := by decide +kernel
theorem dX4_clear_2 : decode cX4_clear 2 = .ok (.iload_n 1, 1) := by decide +kernel
theorem dX4_clear_3 : decode cX4_clear 3 = .ok (.bipush 40, 2) := by decide +kernel
theorem dX4_clear_5 : decode cX4_clear 5 = .ok (.if_icmp .ge 16, 3) := by decide +kernel
theorem dX4_clear_8 : decode cX4_clear 8 = .ok (.aload_n 0, 1) := by decide +kernel
theorem dX4_clear_9 : decode cX4_clear 9 = .ok (.getfield 9, 3) := by decide +kernel
theorem dX4_clear_12 : decode cX4_clear 12 = .ok (.iload_n 1, 1) := by decide +kernel
theorem dX4_clear_13 : decode cX4_clear 13 = .ok (.iconst 0, 1) := by decide +kernel
theorem dX4_clear_14 : decode cX4_clear 14 = .ok (.iastore, 1) := by decide +kernel
theorem dX4_clear_15 : decode cX4_clear 15 = .ok (.iinc 1 1, 3) := by decide +kernel
theorem dX4_clear_18 : decode cX4_clear 18 = .ok (.goto (-16), 3) := by decide +kernel
theorem dX4_clear_21 : decode cX4_clear 21 = .ok (.aload_n 0, 1) := by decide +kernel
theorem dX4_clear_22 : decode cX4_clear 22 = .ok (.iconst 0, 1) := by decide +kernel
theorem dX4_clear_23 : decode cX4_clear 23 = .ok (.putfield 15, 3) := by decide +kernel
theorem dX4_clear_26 : decode cX4_clear 26 = .ok (.return_, 1) := by decide +kernel
theorem dX4_becomeAs_0 : decode cX4_becomeAs 0 = .ok (.aload_n 1, 1) := by decide +kernel
theorem dX4_becomeAs_1 : decode cX4_becomeAs 1 = .ok (.getfield 9, 3) := by decide +kernel
theorem dX4_becomeAs_4 : decode cX4_becomeAs 4 = .ok (.iconst 0, 1) := by decide +kernel
theorem dX4_becomeAs_5 : decode cX4_becomeAs 5 = .ok (.aload_n 0, 1) := by decide +kernel
theorem dX4_becomeAs_6 : decode cX4_becomeAs 6 = .ok (.getfield 9, 3) := by decide +kernel
theorem dX4_becomeAs_9 : decode cX4_becomeAs 9 = .ok (.iconst 0, 1) := by decide +kernel
theorem dX4_becomeAs_10 : decode cX4_becomeAs 10 = .ok (.bipush 40, 2) := by decide +kernel
theorem dX4_becomeAs_12 : decode cX4_becomeAs 12 = .ok (.invokestatic 19, 3) := by decide +kernel
theorem dX4_becomeAs_15 : decode cX4_becomeAs 15 = .ok (.aload_n 0, 1) := by decide +kernel
theorem dX4_becomeAs_16 : decode cX4_becomeAs 16 = .ok (.aload_n 1, 1) := by decide +kernel
theorem dX4_becomeAs_17 : decode cX4_becomeAs 17 = .ok (.getfield 15, 3) := by decide +kernel
theorem dX4_becomeAs_20 : decode cX4_becomeAs 20 = .ok (.putfield 15, 3) := by decide +kernel
theorem dX4_becomeAs_23 : decode cX4_becomeAs 23 = .ok (.return_, 1) := by decide +kernel
theorem dX4_isDead_0 : decode cX4_isDead 0 = .ok (.aload_n 0, 1) := by decide +kernel
theorem dX4_isDead_1 : decode cX4_isDead 1 = .ok (.getfield 15, 3) := by decide +kernel
theorem dX4_isDead_4 : decode cX4_isDead 4 = .ok (.iload_n 1, 1) := by decide +kernel
theorem dX4_isDead_5 : decode cX4_isDead 5 = .ok (.iushr, 1) := by decide +kernel
theorem dX4_isDead_6 : decode cX4_isDead 6 = .ok (.iconst 1, 1) := by decide +kernel
theorem dX4_isDead_7 : decode cX4_isDead 7 = .ok (.iand, 1) := by decide +kernel
theorem dX4_isDead_8 : decode cX4_isDead 8 = .ok (.ifCond .eq 7, 3) := by decide +kernel
theorem dX4_isDead_11 : decode cX4_isDead 11 = .ok (.iconst 1, 1) := by decide +kernel
theorem dX4_isDead_12 : decode cX4_isDead 12 = .ok (.goto 4, 3) := by decide +kernel
theorem dX4_isDead_15 : decode cX4_isDead 15 = .ok (.iconst 0, 1) := by decide +kernel
theorem dX4_isDead_16 : decode cX4_isDead 16 = .ok (.ireturn, 1) := by decide +kernel
set_option maxRecDepth 20000 in
theorem ggX4_unknownBits_X0_shadowOf : GoodIn wsX4_unknownBits wsX0_shadowOf := goodIn_r _ [5] (by decide +kernel) (by decide +kernel)
set_option maxRecDepth 20000 in
theorem gX4_unknownBits_X0_shadowOf : GoodIn wsX4_unknownBits (va_wsS RX4 25 yX0_shadowOf wsX0_shadowOf) := goodIn_app (goodIn_of _ (by decide +kernel)) ggX4_unknownBits_X0_shadowOf
set_option maxRecDepth 20000 in
theorem ggX4_unknownBits_J6_bitCount_0f7a4 : GoodIn wsX4_unknownBits wsJ6_bitCount_0f7a4 := goodIn_r _ [9, 10, 11, 12] (by decide +kernel) (by decide +kernel)
set_option maxRecDepth 20000 in
theorem gX4_unknownBits_J6_bitCount_0f7a4 : GoodIn wsX4_unknownBits (va_wsS RX4 31 yJ6_bitCount_0f7a4 wsJ6_bitCount_0f7a4) := goodIn_app (goodIn_of _ (by decide +kernel)) ggX4_unknownBits_J6_bitCount_0f7a4
theorem dX4_unknownBits_0 : decode cX4_unknownBits 0 = .ok (.iconst 0, 1) := by decide +kernel
theorem dX4_unknownBits_1 : decode cX4_unknownBits 1 = .ok (.istore_n 3, 1) := by decide +kernel
theorem dX4_unknownBits_2 : decode cX4_unknownBits 2 = .ok (.iload_n 1, 1) := by decide +kernel
theorem dX4_unknownBits_3 : decode cX4_unknownBits 3 = .ok (.istore 4, 2) := by decide +kernel
theorem dX4_unknownBits_5 : decode cX4_unknownBits 5 = .ok (.iload 4, 2) := by decide +kernel
theorem dX4_unknownBits_7 : decode cX4_unknownBits 7 = .ok (.iload_n 2, 1) := by decide +kernel
theorem dX4_unknownBits_8 : decode cX4_unknownBits 8 = .ok (.if_icmp .ge 25, 3) := by decide +kernel
theorem dX4_unknownBits_11 : decode cX4_unknownBits 11 = .ok (.iload_n 3, 1) := by decide +kernel
theorem dX4_unknownBits_12 : decode cX4_unknownBits 12 = .ok (.aload_n 0, 1) := by decide +kernel
theorem dX4_unknownBits_13 : decode cX4_unknownBits 13 = .ok (.getfield 9, 3) := by decide +kernel
theorem dX4_unknownBits_16 : decode cX4_unknownBits 16 = .ok (.iload 4, 2) := by decide +kernel
theorem dX4_unknownBits_18 : decode cX4_unknownBits 18 = .ok (.iaload, 1) := by decide +kernel
theorem dX4_unknownBits_19 : decode cX4_unknownBits 19 = .ok (.invokestatic 25, 3) := by decide +kernel
theorem dX4_unknownBits_22 : decode cX4_unknownBits 22 = .ok (.invokestatic 31, 3) := by decide +kernel
theorem dX4_unknownBits_25 : decode cX4_unknownBits 25 = .ok (.iadd, 1) := by decide +kernel
theorem dX4_unknownBits_26 : decode cX4_unknownBits 26 = .ok (.istore_n 3, 1) := by decide +kernel
theorem dX4_unknownBits_27 : decode cX4_unknownBits 27 = .ok (.iinc 4 1, 3) := by decide +kernel
theorem dX4_unknownBits_30 : decode cX4_unknownBits 30 = .ok (.goto (-25), 3) := by decide +kernel
theorem dX4_unknownBits_33 : decode cX4_unknownBits 33 = .ok (.iload_n 3, 1) := by decide +kernel
theorem dX4_unknownBits_34 : decode cX4_unknownBits 34 = .ok (.ireturn, 1) := by decide +kernel
theorem dX5_init_0 : decode cX5_init 0 = .ok (.aload_n 0, 1) := by decide +kernel
theorem dX5_init_1 : decode cX5_init 1 = .ok (.invokespecial 3, 3) := by decide +kernel
theorem dX5_init_4 : decode cX5_init 4 = .ok (.aload_n 0, 1) := by decide +kernel
theorem dX5_init_5 : decode cX5_init 5 = .ok (.bipush 16, 2) := by decide +kernel
theorem dX5_init_7 : decode cX5_init 7 = .ok (.newarray .int, 2) := by decide +kernel
theorem dX5_init_9 : decode cX5_init 9 = .ok (.putfield 9, 3) := by decide +kernel
theorem dX5_init_12 : decode cX5_init 12 = .ok (.aload_n 0, 1) := by decide +kernel
theorem dX5_init_13 : decode cX5_init 13 = .ok (.bipush 16, 2) := by decide +kernel
theorem dX5_init_15 : decode cX5_init 15 = .ok (.newarray .int, 2) := by decide +kernel
theorem dX5_init_17 : decode cX5_init 17 = .ok (.putfield 15, 3) := by decide +kernel
theorem dX5_init_20 : decode cX5_init 20 = .ok (.aload_n 0, 1) := by decide +kernel
theorem dX5_init_21 : decode cX5_init 21 = .ok (.bipush 16, 2) := by decide +kernel
theorem dX5_init_23 : decode cX5_init 23 = .ok (.newarray .int, 2) := by decide +kernel
theorem dX5_init_25 : decode cX5_init 25 = .ok (.putfield 18, 3) := by decide +kernel
theorem dX5_init_28 : decode cX5_init 28 = .ok (.return_, 1) := by decide +kernel
theorem dX5_clear_0 : decode cX5_clear 0 = .ok (.aload_n 0, 1) := by decide +kernel
theorem dX5_clear_1 : decode cX5_clear 1 = .ok (.iconst 0, 1) := by decide +kernel
theorem dX5_clear_2 : decode cX5_clear 2 = .ok (.putfield 21, 3) := by decide +kernel
theorem dX5_clear_5 : decode cX5_clear 5 = .ok (.aload_n 0, 1) := by decide +kernel
theorem dX5_clear_6 : decode cX5_clear 6 = .ok (.iconst 0, 1) := by decide +kernel
theorem dX5_clear_7 : decode cX5_clear 7 = .ok (.putfield 25, 3) := by decide +kernel
theorem dX5_clear_10 : decode cX5_clear 10 = .ok (.return_, 1) := by decide +kernel
theorem dX5_add_0 : decode cX5_add 0 = .ok (.aload_n 0, 1) := by decide +kernel
theorem dX5_add_1 : decode cX5_add 1 = .ok (.getfield 9, 3) := by decide +kernel
theorem dX5_add_4 : decode cX5_add 4 = .ok (.aload_n 0, 1) := by decide +kernel
theorem dX5_add_5 : decode cX5_add 5 = .ok (.getfield 25, 3) := by decide +kernel
theorem dX5_add_8 : decode cX5_add 8 = .ok (.iload_n 1, 1) := by decide +kernel
theorem dX5_add_9 : decode cX5_add 9 = .ok (.iastore, 1) := by decide +kernel
theorem dX5_add_10 : decode cX5_add 10 = .ok (.aload_n 0, 1) := by decide +kernel
theorem dX5_add_11 : decode cX5_add 11 = .ok (.getfield 15, 3) := by decide +kernel
theorem dX5_add_14 : decode cX5_add 14 = .ok (.aload_n 0, 1) := by decide +kernel
theorem dX5_add_15 : decode cX5_add 15 = .ok (.getfield 25, 3) := by decide +kernel
theorem dX5_add_18 : decode cX5_add 18 = .ok (.iload_n 2, 1) := by decide +kernel
theorem dX5_add_19 : decode cX5_add 19 = .ok (.iastore, 1) := by decide +kernel
theorem dX5_add_20 : decode cX5_add 20 = .ok (.aload_n 0, 1) := by decide +kernel
theorem dX5_add_21 : decode cX5_add 21 = .ok (.getfield 18, 3) := by decide +kernel
theorem dX5_add_24 : decode cX5_add 24 = .ok (.aload_n 0, 1) := by decide +kernel
theorem dX5_add_25 : decode cX5_add 25 = .ok (.getfield 25, 3) := by decide +kernel
theorem dX5_add_28 : decode cX5_add 28 = .ok (.iload_n 3, 1) := by decide +kernel
theorem dX5_add_29 : decode cX5_add 29 = .ok (.iastore, 1) := by decide +kernel
theorem dX5_add_30 : decode cX5_add 30 = .ok (.aload_n 0, 1) := by decide +kernel
theorem dX5_add_31 : decode cX5_add 31 = .ok (.aload_n 0, 1) := by decide +kernel
theorem dX5_add_32 : decode cX5_add 32 = .ok (.getfield 25, 3) := by decide +kernel
theorem dX5_add_35 : decode cX5_add 35 = .ok (.iconst 1, 1) := by decide +kernel
theorem dX5_add_36 : decode cX5_add 36 = .ok (.iadd, 1) := by decide +kernel
theorem dX5_add_37 : decode cX5_add 37 = .ok (.bipush 15, 2) := by decide +kernel
theorem dX5_add_39 : decode cX5_add 39 = .ok (.iand, 1) := by decide +kernel
theorem dX5_add_40 : decode cX5_add 40 = .ok (.putfield 25, 3) := by decide +kernel
theorem dX5_add_43 : decode cX5_add 43 = .ok (.aload_n 0, 1) := by decide +kernel
theorem dX5_add_44 : decode cX5_add 44 = .ok (.aload_n 0, 1) := by decide +kernel
theorem dX5_add_45 : decode cX5_add 45 = .ok (.getfield 21, 3) := by decide +kernel
theorem dX5_add_48 : decode cX5_add 48 = .ok (.iconst 1, 1) := by decide +kernel
theorem dX5_add_49 : decode cX5_add 49 = .ok (.iadd, 1) := by decide +kernel
theorem dX5_add_50 : decode cX5_add 50 = .ok (.bipush 16, 2) := by decide +kernel
theorem dX5_add_52 : decode cX5_add 52 = .ok (.invokestatic 28, 3) := by decide +kernel
theorem dX5_add_55 : decode cX5_add 55 = .ok (.putfield 21, 3) := by decide +kernel
theorem dX5_add_58 : decode cX5_add 58 = .ok (.return_, 1) := by decide +kernel
theorem dX5_placeOf_0 : decode cX5_placeOf 0 = .ok (.aload_n 0, 1) := by decide +kernel
theorem dX5_placeOf_1 : decode cX5_placeOf 1 = .ok (.getfield 25, 3) := by decide +kernel
theorem dX5_placeOf_4 : decode cX5_placeOf 4 = .ok (.iconst 1, 1) := by decide +kernel
theorem dX5_placeOf_5 : decode cX5_placeOf 5 = .ok (.isub, 1) := by decide +kernel
theorem dX5_placeOf_6 : decode cX5_placeOf 6 = .ok (.iload_n 1, 1) := by decide +kernel
theorem dX5_placeOf_7 : decode cX5_placeOf 7 = .ok (.isub, 1) := by decide +kernel
theorem dX5_placeOf_8 : decode cX5_placeOf 8 = .ok (.bipush 15, 2) := by decide +kernel
theorem dX5_placeOf_10 : decode cX5_placeOf 10 = .ok (.iand, 1) := by decide +kernel
theorem dX5_placeOf_11 : decode cX5_placeOf 11 = .ok (.ireturn, 1) := by decide +kernel
theorem dX6_valueBy_0 : decode cX6_valueBy 0 = .ok (.iload_n 0, 1) := by decide +kernel
theorem dX6_valueBy_1 : decode cX6_valueBy 1 = .ok (.tableswitch 78 0 5 #[39, 43, 47, 51, 59, 67], 39) := by decide +kernel
theorem dX6_valueBy_40 : decode cX6_valueBy 40 = .ok (.iload_n 1, 1) := by decide +kernel
theorem dX6_valueBy_41 : decode cX6_valueBy 41 = .ok (.iload_n 2, 1) := by decide +kernel
theorem dX6_valueBy_42 : decode cX6_valueBy 42 = .ok (.iand, 1) := by decide +kernel
theorem dX6_valueBy_43 : decode cX6_valueBy 43 = .ok (.ireturn, 1) := by decide +kernel
theorem dX6_valueBy_44 : decode cX6_valueBy 44 = .ok (.iload_n 1, 1) := by decide +kernel
theorem dX6_valueBy_45 : decode cX6_valueBy 45 = .ok (.iload_n 2, 1) := by decide +kernel
theorem dX6_valueBy_46 : decode cX6_valueBy 46 = .ok (.ior, 1) := by decide +kernel
theorem dX6_valueBy_47 : decode cX6_valueBy 47 = .ok (.ireturn, 1) := by decide +kernel
theorem dX6_valueBy_48 : decode cX6_valueBy 48 = .ok (.iload_n 1, 1) := by decide +kernel
theorem dX6_valueBy_49 : decode cX6_valueBy 49 = .ok (.iload_n 2, 1) := by decide +kernel
theorem dX6_valueBy_50 : decode cX6_valueBy 50 = .ok (.ixor, 1) := by decide +kernel
theorem dX6_valueBy_51 : decode cX6_valueBy 51 = .ok (.ireturn, 1) := by decide +kernel
theorem dX6_valueBy_52 : decode cX6_valueBy 52 = .ok (.iload_n 1, 1) := by decide +kernel
theorem dX6_valueBy_53 : decode cX6_valueBy 53 = .ok (.iload_n 2, 1) := by decide +kernel
theorem dX6_valueBy_54 : decode cX6_valueBy 54 = .ok (.iadd, 1) := by decide +kernel
theorem dX6_valueBy_55 : decode cX6_valueBy 55 = .ok (.sipush 255, 3) := by decide +kernel
theorem dX6_valueBy_58 : decode cX6_valueBy 58 = .ok (.iand, 1) := by decide +kernel
theorem dX6_valueBy_59 : decode cX6_valueBy 59 = .ok (.ireturn, 1) := by decide +kernel
theorem dX6_valueBy_60 : decode cX6_valueBy 60 = .ok (.iload_n 1, 1) := by decide +kernel
theorem dX6_valueBy_61 : decode cX6_valueBy 61 = .ok (.iload_n 2, 1) := by decide +kernel
theorem dX6_valueBy_62 : decode cX6_valueBy 62 = .ok (.isub, 1) := by decide +kernel
theorem dX6_valueBy_63 : decode cX6_valueBy 63 = .ok (.sipush 255, 3) := by decide +kernel
theorem dX6_valueBy_66 : decode cX6_valueBy 66 = .ok (.iand, 1) := by decide +kernel
theorem dX6_valueBy_67 : decode cX6_valueBy 67 = .ok (.ireturn, 1) := by decide +kernel
theorem dX6_valueBy_68 : decode cX6_valueBy 68 = .ok (.iload_n 1, 1) := by decide +kernel
theorem dX6_valueBy_69 : decode cX6_valueBy 69 = .ok (.iload_n 2, 1) := by decide +kernel
theorem dX6_valueBy_70 : decode cX6_valueBy 70 = .ok (.bipush 7, 2) := by decide +kernel
theorem dX6_valueBy_72 : decode cX6_valueBy 72 = .ok (.iand, 1) := by decide +kernel
theorem dX6_valueBy_73 : decode cX6_valueBy 73 = .ok (.ishl, 1) := by decide +kernel
theorem dX6_valueBy_74 : decode cX6_valueBy 74 = .ok (.sipush 255, 3) := by decide +kernel
theorem dX6_valueBy_77 : decode cX6_valueBy 77 = .ok (.iand, 1) := by decide +kernel
theorem dX6_valueBy_78 : decode cX6_valueBy 78 = .ok (.ireturn, 1) := by decide +kernel
theorem dX6_valueBy_79 : decode cX6_valueBy 79 = .ok (.iload_n 1, 1) := by decide +kernel
theorem dX6_valueBy_80 : decode cX6_valueBy 80 = .ok (.iload_n 2, 1) := by decide +kernel
theorem dX6_valueBy_81 : decode cX6_valueBy 81 = .ok (.bipush 7, 2) := by decide +kernel
theorem dX6_valueBy_83 : decode cX6_valueBy 83 = .ok (.iand, 1) := by decide +kernel
theorem dX6_valueBy_84 : decode cX6_valueBy 84 = .ok (.ishr, 1) := by decide +kernel
theorem dX6_valueBy_85 : decode cX6_valueBy 85 = .ok (.ireturn, 1) := by decide +kernel
set_option maxRecDepth 20000 in
theorem ggX6_shadowBy_X6_valueBy : GoodIn wsX6_shadowBy wsX6_valueBy := goodIn_r _ [4] (by decide +kernel) (by decide +kernel)
set_option maxRecDepth 20000 in
theorem gX6_shadowBy_X6_valueBy : GoodIn wsX6_shadowBy (va_wsS RX6 9 yX6_valueBy wsX6_valueBy) := goodIn_app (goodIn_of _ (by decide +kernel)) ggX6_shadowBy_X6_valueBy
theorem dX6_shadowBy_0 : decode cX6_shadowBy 0 = .ok (.iload_n 1, 1) := by decide +kernel
theorem dX6_shadowBy_1 : decode cX6_shadowBy 1 = .ok (.iload_n 2, 1) := by decide +kernel
theorem dX6_shadowBy_2 : decode cX6_shadowBy 2 = .ok (.iconst (-1), 1) := by decide +kernel
theorem dX6_shadowBy_3 : decode cX6_shadowBy 3 = .ok (.ixor, 1) := by decide +kernel
theorem dX6_shadowBy_4 : decode cX6_shadowBy 4 = .ok (.iand, 1) := by decide +kernel
theorem dX6_shadowBy_5 : decode cX6_shadowBy 5 = .ok (.istore 5, 2) := by decide +kernel
theorem dX6_shadowBy_7 : decode cX6_shadowBy 7 = .ok (.iload_n 1, 1) := by decide +kernel
theorem dX6_shadowBy_8 : decode cX6_shadowBy 8 = .ok (.iload_n 2, 1) := by decide +kernel
theorem dX6_shadowBy_9 : decode cX6_shadowBy 9 = .ok (.ior, 1) := by decide +kernel
theorem dX6_shadowBy_10 : decode cX6_shadowBy 10 = .ok (.istore 6, 2) := by decide +kernel
theorem dX6_shadowBy_12 : decode cX6_shadowBy 12 = .ok (.iload_n 3, 1) := by decide +kernel
theorem dX6_shadowBy_13 : decode cX6_shadowBy 13 = .ok (.iload 4, 2) := by decide +kernel
theorem dX6_shadowBy_15 : decode cX6_shadowBy 15 = .ok (.iconst (-1), 1) := by decide +kernel
theorem dX6_shadowBy_16 : decode cX6_shadowBy 16 = .ok (.ixor, 1) := by decide +kernel
theorem dX6_shadowBy_17 : decode cX6_shadowBy 17 = .ok (.iand, 1) := by decide +kernel
theorem dX6_shadowBy_18 : decode cX6_shadowBy 18 = .ok (.istore 7, 2) := by decide +kernel
theorem dX6_shadowBy_20 : decode cX6_shadowBy 20 = .ok (.iload_n 3, 1) := by decide +kernel
theorem dX6_shadowBy_21 : decode cX6_shadowBy 21 = .ok (.iload 4, 2) := by decide +kernel
theorem dX6_shadowBy_23 : decode cX6_shadowBy 23 = .ok (.ior, 1) := by decide +kernel
theorem dX6_shadowBy_24 : decode cX6_shadowBy 24 = .ok (.istore 8, 2) := by decide +kernel
theorem dX6_shadowBy_26 : decode cX6_shadowBy 26 = .ok (.iload_n 0, 1) := by decide +kernel
theorem dX6_shadowBy_27 : decode cX6_shadowBy 27 = .ok (.tableswitch 106 0 4 #[33, 44, 59, 64, 85], 33) := by decide +kernel
theorem dX6_shadowBy_60 : decode cX6_shadowBy 60 = .ok (.iload_n 2, 1) := by decide +kernel
theorem dX6_shadowBy_61 : decode cX6_shadowBy 61 = .ok (.iload 4, 2) := by decide +kernel
theorem dX6_shadowBy_63 : decode cX6_shadowBy 63 = .ok (.ior, 1) := by decide +kernel
theorem dX6_shadowBy_64 : decode cX6_shadowBy 64 = .ok (.iload 6, 2) := by decide +kernel
theorem dX6_shadowBy_66 : decode cX6_shadowBy 66 = .ok (.iand, 1) := by decide +kernel
theorem dX6_shadowBy_67 : decode cX6_shadowBy 67 = .ok (.iload 8, 2) := by decide +kernel
theorem dX6_shadowBy_69 : decode cX6_shadowBy 69 = .ok (.iand, 1) := by decide +kernel
theorem dX6_shadowBy_70 : decode cX6_shadowBy 70 = .ok (.ireturn, 1) := by decide +kernel
theorem dX6_shadowBy_71 : decode cX6_shadowBy 71 = .ok (.iload_n 2, 1) := by decide +kernel
theorem dX6_shadowBy_72 : decode cX6_shadowBy 72 = .ok (.iload 4, 2) := by decide +kernel
theorem dX6_shadowBy_74 : decode cX6_shadowBy 74 = .ok (.ior, 1) := by decide +kernel
theorem dX6_shadowBy_75 : decode cX6_shadowBy 75 = .ok (.iload 5, 2) := by decide +kernel
theorem dX6_shadowBy_77 : decode cX6_shadowBy 77 = .ok (.iconst (-1), 1) := by decide +kernel
theorem dX6_shadowBy_78 : decode cX6_shadowBy 78 = .ok (.ixor, 1) := by decide +kernel
theorem dX6_shadowBy_79 : decode cX6_shadowBy 79 = .ok (.iand, 1) := by decide +kernel
theorem dX6_shadowBy_80 : decode cX6_shadowBy 80 = .ok (.iload 7, 2) := by decide +kernel
theorem dX6_shadowBy_82 : decode cX6_shadowBy 82 = .ok (.iconst (-1), 1) := by decide +kernel
theorem dX6_shadowBy_83 : decode cX6_shadowBy 83 = .ok (.ixor, 1) := by decide +kernel
theorem dX6_shadowBy_84 : decode cX6_shadowBy 84 = .ok (.iand, 1) := by decide +kernel
theorem dX6_shadowBy_85 : decode cX6_shadowBy 85 = .ok (.ireturn, 1) := by decide +kernel
theorem dX6_shadowBy_86 : decode cX6_shadowBy 86 = .ok (.iload_n 2, 1) := by decide +kernel
theorem dX6_shadowBy_87 : decode cX6_shadowBy 87 = .ok (.iload 4, 2) := by decide +kernel
theorem dX6_shadowBy_89 : decode cX6_shadowBy 89 = .ok (.ior, 1) := by decide +kernel
theorem dX6_shadowBy_90 : decode cX6_shadowBy 90 = .ok (.ireturn, 1) := by decide +kernel
theorem dX6_shadowBy_91 : decode cX6_shadowBy 91 = .ok (.iload 5, 2) := by decide +kernel
theorem dX6_shadowBy_93 : decode cX6_shadowBy 93 = .ok (.iload 7, 2) := by decide +kernel
theorem dX6_shadowBy_95 : decode cX6_shadowBy 95 = .ok (.iadd, 1) := by decide +kernel
theorem dX6_shadowBy_96 : decode cX6_shadowBy 96 = .ok (.iload 6, 2) := by decide +kernel
theorem dX6_shadowBy_98 : decode cX6_shadowBy 98 = .ok (.iload 8, 2) := by decide +kernel
theorem dX6_shadowBy_100 : decode cX6_shadowBy 100 = .ok (.iadd, 1) := by decide +kernel
theorem dX6_shadowBy_101 : decode cX6_shadowBy 101 = .ok (.ixor, 1) := by decide +kernel
theorem dX6_shadowBy_102 : decode cX6_shadowBy 102 = .ok (.iload_n 2, 1) := by decide +kernel
theorem dX6_shadowBy_103 : decode cX6_shadowBy 103 = .ok (.ior, 1) := by decide +kernel
theorem dX6_shadowBy_104 : decode cX6_shadowBy 104 = .ok (.iload 4, 2) := by decide +kernel
theorem dX6_shadowBy_106 : decode cX6_shadowBy 106 = .ok (.ior, 1) := by decide +kernel
theorem dX6_shadowBy_107 : decode cX6_shadowBy 107 = .ok (.sipush 255, 3) := by decide +kernel
theorem dX6_shadowBy_110 : decode cX6_shadowBy 110 = .ok (.iand, 1) := by decide +kernel
theorem dX6_shadowBy_111 : decode cX6_shadowBy 111 = .ok (.ireturn, 1) := by decide +kernel
theorem dX6_shadowBy_112 : decode cX6_shadowBy 112 = .ok (.iload 5, 2) := by decide +kernel
theorem dX6_shadowBy_114 : decode cX6_shadowBy 114 = .ok (.iload 8, 2) := by decide +kernel
theorem dX6_shadowBy_116 : decode cX6_shadowBy 116 = .ok (.isub, 1) := by decide +kernel
theorem dX6_shadowBy_117 : decode cX6_shadowBy 117 = .ok (.iload 6, 2) := by decide +kernel
theorem dX6_shadowBy_119 : decode cX6_shadowBy 119 = .ok (.iload 7, 2) := by decide +kernel
theorem dX6_shadowBy_121 : decode cX6_shadowBy 121 = .ok (.isub, 1) := by decide +kernel
theorem dX6_shadowBy_122 : decode cX6_shadowBy 122 = .ok (.ixor, 1) := by decide +kernel
theorem dX6_shadowBy_123 : decode cX6_shadowBy 123 = .ok (.iload_n 2, 1) := by decide +kernel
theorem dX6_shadowBy_124 : decode cX6_shadowBy 124 = .ok (.ior, 1) := by decide +kernel
theorem dX6_shadowBy_125 : decode cX6_shadowBy 125 = .ok (.iload 4, 2) := by decide +kernel
theorem dX6_shadowBy_127 : decode cX6_shadowBy 127 = .ok (.ior, 1) := by decide +kernel
theorem dX6_shadowBy_128 : decode cX6_shadowBy 128 = .ok (.sipush 255, 3) := by decide +kernel
theorem dX6_shadowBy_131 : decode cX6_shadowBy 131 = .ok (.iand, 1) := by decide +kernel
theorem dX6_shadowBy_132 : decode cX6_shadowBy 132 = .ok (.ireturn, 1) := by decide +kernel
theorem dX6_shadowBy_133 : decode cX6_shadowBy 133 = .ok (.iload 4, 2) := by decide +kernel
theorem dX6_shadowBy_135 : decode cX6_shadowBy 135 = .ok (.bipush 7, 2) := by decide +kernel
theorem dX6_shadowBy_137 : decode cX6_shadowBy 137 = .ok (.iand, 1) := by decide +kernel
theorem dX6_shadowBy_138 : decode cX6_shadowBy 138 = .ok (.ifCond .eq 9, 3) := by decide +kernel
theorem dX6_shadowBy_141 : decode cX6_shadowBy 141 = .ok (.sipush 255, 3) := by decide +kernel
theorem dX6_shadowBy_144 : decode cX6_shadowBy 144 = .ok (.goto 9, 3) := by decide +kernel
theorem dX6_shadowBy_147 : decode cX6_shadowBy 147 = .ok (.iload_n 0, 1) := by decide +kernel
theorem dX6_shadowBy_148 : decode cX6_shadowBy 148 = .ok (.iload_n 2, 1) := by decide +kernel
theorem dX6_shadowBy_149 : decode cX6_shadowBy 149 = .ok (.iload_n 3, 1) := by decide +kernel
theorem dX6_shadowBy_150 : decode cX6_shadowBy 150 = .ok (.invokestatic 9, 3) := by decide +kernel
theorem dX6_shadowBy_153 : decode cX6_shadowBy 153 = .ok (.ireturn, 1) := by decide +kernel
set_option maxRecDepth 20000 in
theorem ggX6_exactBy_X6_shadowBy : GoodIn wsX6_exactBy wsX6_shadowBy := goodIn_r _ [4, 5, 6, 3, 7] (by decide +kernel) (by decide +kernel)
set_option maxRecDepth 20000 in
theorem gX6_exactBy_X6_shadowBy : GoodIn wsX6_exactBy (va_wsS RX6 15 yX6_shadowBy wsX6_shadowBy) := goodIn_app (goodIn_of _ (by decide +kernel)) ggX6_exactBy_X6_shadowBy
set_option maxRecDepth 20000 in
theorem ggX6_exactBy_X6_exactShift : GoodIn wsX6_exactBy wsX6_exactShift := goodIn_r _ [10, 5, 6, 3, 7] (by decide +kernel) (by decide +kernel)
set_option maxRecDepth 20000 in
theorem gX6_exactBy_X6_exactShift : GoodIn wsX6_exactBy (va_wsS RX6 19 yX6_exactShift wsX6_exactShift) := goodIn_app (goodIn_of _ (by decide +kernel)) ggX6_exactBy_X6_exactShift
theorem dX6_exactBy_0 : decode cX6_exactBy 0 = .ok (.iload_n 0, 1) := by decide +kernel
theorem dX6_exactBy_1 : decode cX6_exactBy 1 = .ok (.iconst 5, 1) := by decide +kernel
theorem dX6_exactBy_2 : decode cX6_exactBy 2 = .ok (.if_icmp .ge 15, 3) := by decide +kernel
theorem dX6_exactBy_5 : decode cX6_exactBy 5 = .ok (.iload_n 0, 1) := by decide +kernel
theorem dX6_exactBy_6 : decode cX6_exactBy 6 = .ok (.iload_n 1, 1) := by decide +kernel
theorem dX6_exactBy_7 : decode cX6_exactBy 7 = .ok (.iload_n 2, 1) := by decide +kernel
theorem dX6_exactBy_8 : decode cX6_exactBy 8 = .ok (.iload_n 3, 1) := by decide +kernel
theorem dX6_exactBy_9 : decode cX6_exactBy 9 = .ok (.iload 4, 2) := by decide +kernel
theorem dX6_exactBy_11 : decode cX6_exactBy 11 = .ok (.invokestatic 15, 3) := by decide +kernel
theorem dX6_exactBy_14 : decode cX6_exactBy 14 = .ok (.goto 12, 3) := by decide +kernel
theorem dX6_exactBy_17 : decode cX6_exactBy 17 = .ok (.iload_n 0, 1) := by decide +kernel
theorem dX6_exactBy_18 : decode cX6_exactBy 18 = .ok (.iload_n 1, 1) := by decide +kernel
theorem dX6_exactBy_19 : decode cX6_exactBy 19 = .ok (.iload_n 2, 1) := by decide +kernel
theorem dX6_exactBy_20 : decode cX6_exactBy 20 = .ok (.iload_n 3, 1) := by decide +kernel
theorem dX6_exactBy_21 : decode cX6_exactBy 21 = .ok (.iload 4, 2) := by decide +kernel
theorem dX6_exactBy_23 : decode cX6_exactBy 23 = .ok (.invokestatic 19, 3) := by decide +kernel
theorem dX6_exactBy_26 : decode cX6_exactBy 26 = .ok (.ireturn, 1) := by decide +kernel
set_option maxRecDepth 20000 in
theorem ggX6_exactShift_X6_valueBy : GoodIn wsX6_exactShift wsX6_valueBy := goodIn_r _ [4] (by decide +kernel) (by decide +kernel)
set_option maxRecDepth 20000 in
theorem gX6_exactShift_X6_valueBy : GoodIn wsX6_exactShift (va_wsS RX6 9 yX6_valueBy wsX6_valueBy) := goodIn_app (goodIn_of _ (by decide +kernel)) ggX6_exactShift_X6_valueBy
theorem dX6_exactShift_0 : decode cX6_exactShift 0 = .ok (.iconst 0, 1) := by decide +kernel
theorem dX6_exactShift_1 : decode cX6_exactShift 1 = .ok (.istore 5, 2) := by decide +kernel
theorem dX6_exactShift_3 : decode cX6_exactShift 3 = .ok (.sipush 255, 3) := by decide +kernel
theorem dX6_exactShift_6 : decode cX6_exactShift 6 = .ok (.istore 6, 2) := by decide +kernel
theorem dX6_exactShift_8 : decode cX6_exactShift 8 = .ok (.iconst 0, 1) := by decide +kernel
theorem dX6_exactShift_9 : decode cX6_exactShift 9 = .ok (.istore 7, 2) := by decide +kernel
theorem dX6_exactShift_11 : decode cX6_exactShift 11 = .ok (.iload 7, 2) := by decide +kernel
theorem dX6_exactShift_13 : decode cX6_exactShift 13 = .ok (.bipush 7, 2) := by decide +kernel
theorem dX6_exactShift_15 : decode cX6_exactShift 15 = .ok (.if_icmp .gt 66, 3) := by decide +kernel
theorem dX6_exactShift_18 : decode cX6_exactShift 18 = .ok (.iload 7, 2) := by decide +kernel
theorem dX6_exactShift_20 : decode cX6_exactShift 20 = .ok (.iload_n 3, 1) := by decide +kernel
theorem dX6_exactShift_21 : decode cX6_exactShift 21 = .ok (.ixor, 1) := by decide +kernel
theorem dX6_exactShift_22 : decode cX6_exactShift 22 = .ok (.iload 4, 2) := by decide +kernel
theorem dX6_exactShift_24 : decode cX6_exactShift 24 = .ok (.iconst (-1), 1) := by decide +kernel
theorem dX6_exactShift_25 : decode cX6_exactShift 25 = .ok (.ixor, 1) := by decide +kernel
theorem dX6_exactShift_26 : decode cX6_exactShift 26 = .ok (.iand, 1) := by decide +kernel
theorem dX6_exactShift_27 : decode cX6_exactShift 27 = .ok (.bipush 7, 2) := by decide +kernel
theorem dX6_exactShift_29 : decode cX6_exactShift 29 = .ok (.iand, 1) := by decide +kernel
theorem dX6_exactShift_30 : decode cX6_exactShift 30 = .ok (.ifCond .ne 7, 3) := by decide +kernel
theorem dX6_exactShift_33 : decode cX6_exactShift 33 = .ok (.iconst 1, 1) := by decide +kernel
theorem dX6_exactShift_34 : decode cX6_exactShift 34 = .ok (.goto 4, 3) := by decide +kernel
theorem dX6_exactShift_37 : decode cX6_exactShift 37 = .ok (.iconst 0, 1) := by decide +kernel
theorem dX6_exactShift_38 : decode cX6_exactShift 38 = .ok (.istore 8, 2) := by decide +kernel
theorem dX6_exactShift_40 : decode cX6_exactShift 40 = .ok (.iload 8, 2) := by decide +kernel
theorem dX6_exactShift_42 : decode cX6_exactShift 42 = .ok (.ifCond .eq 33, 3) := by decide +kernel
theorem dX6_exactShift_45 : decode cX6_exactShift 45 = .ok (.iload 5, 2) := by decide +kernel
theorem dX6_exactShift_47 : decode cX6_exactShift 47 = .ok (.iload_n 0, 1) := by decide +kernel
theorem dX6_exactShift_48 : decode cX6_exactShift 48 = .ok (.iload_n 1, 1) := by decide +kernel
theorem dX6_exactShift_49 : decode cX6_exactShift 49 = .ok (.iload_n 2, 1) := by decide +kernel
theorem dX6_exactShift_50 : decode cX6_exactShift 50 = .ok (.ior, 1) := by decide +kernel
theorem dX6_exactShift_51 : decode cX6_exactShift 51 = .ok (.iload 7, 2) := by decide +kernel
theorem dX6_exactShift_53 : decode cX6_exactShift 53 = .ok (.invokestatic 9, 3) := by decide +kernel
theorem dX6_exactShift_56 : decode cX6_exactShift 56 = .ok (.ior, 1) := by decide +kernel
theorem dX6_exactShift_57 : decode cX6_exactShift 57 = .ok (.istore 5, 2) := by decide +kernel
theorem dX6_exactShift_59 : decode cX6_exactShift 59 = .ok (.iload 6, 2) := by decide +kernel
theorem dX6_exactShift_61 : decode cX6_exactShift 61 = .ok (.iload_n 0, 1) := by decide +kernel
theorem dX6_exactShift_62 : decode cX6_exactShift 62 = .ok (.iload_n 1, 1) := by decide +kernel
theorem dX6_exactShift_63 : decode cX6_exactShift 63 = .ok (.iload_n 2, 1) := by decide +kernel
theorem dX6_exactShift_64 : decode cX6_exactShift 64 = .ok (.iconst (-1), 1) := by decide +kernel
theorem dX6_exactShift_65 : decode cX6_exactShift 65 = .ok (.ixor, 1) := by decide +kernel
theorem dX6_exactShift_66 : decode cX6_exactShift 66 = .ok (.iand, 1) := by decide +kernel
theorem dX6_exactShift_67 : decode cX6_exactShift 67 = .ok (.iload 7, 2) := by decide +kernel
theorem dX6_exactShift_69 : decode cX6_exactShift 69 = .ok (.invokestatic 9, 3) := by decide +kernel
theorem dX6_exactShift_72 : decode cX6_exactShift 72 = .ok (.iand, 1) := by decide +kernel
theorem dX6_exactShift_73 : decode cX6_exactShift 73 = .ok (.istore 6, 2) := by decide +kernel
theorem dX6_exactShift_75 : decode cX6_exactShift 75 = .ok (.iinc 7 1, 3) := by decide +kernel
theorem dX6_exactShift_78 : decode cX6_exactShift 78 = .ok (.goto (-67), 3) := by decide +kernel
theorem dX6_exactShift_81 : decode cX6_exactShift 81 = .ok (.iload 5, 2) := by decide +kernel
theorem dX6_exactShift_83 : decode cX6_exactShift 83 = .ok (.iload 6, 2) := by decide +kernel
theorem dX6_exactShift_85 : decode cX6_exactShift 85 = .ok (.iconst (-1), 1) := by decide +kernel
theorem dX6_exactShift_86 : decode cX6_exactShift 86 = .ok (.ixor, 1) := by decide +kernel
theorem dX6_exactShift_87 : decode cX6_exactShift 87 = .ok (.iand, 1) := by decide +kernel
theorem dX6_exactShift_88 : decode cX6_exactShift 88 = .ok (.ireturn, 1) := by decide +kernel
set_option maxRecDepth 20000 in
theorem ggX6_cellBy_X0_valueOf : GoodIn wsX6_cellBy wsX0_valueOf := goodIn_r _ [4] (by decide +kernel) (by decide +kernel)
set_option maxRecDepth 20000 in
theorem gX6_cellBy_X0_valueOf : GoodIn wsX6_cellBy (va_wsS RX6 22 yX0_valueOf wsX0_valueOf) := goodIn_app (goodIn_of _ (by decide +kernel)) ggX6_cellBy_X0_valueOf
set_option maxRecDepth 20000 in
theorem ggX6_cellBy_X0_shadowOf : GoodIn wsX6_cellBy wsX0_shadowOf := goodIn_r _ [7] (by decide +kernel) (by decide +kernel)
set_option maxRecDepth 20000 in
theorem gX6_cellBy_X0_shadowOf : GoodIn wsX6_cellBy (va_wsS RX6 28 yX0_shadowOf wsX0_shadowOf) := goodIn_app (goodIn_of _ (by decide +kernel)) ggX6_cellBy_X0_shadowOf
set_option maxRecDepth 20000 in
theorem ggX6_cellBy_X6_shadowBy : GoodIn wsX6_cellBy wsX6_shadowBy := goodIn_r _ [11, 12, 13, 10, 14] (by decide +kernel) (by decide +kernel)
set_option maxRecDepth 20000 in
theorem gX6_cellBy_X6_shadowBy : GoodIn wsX6_cellBy (va_wsS RX6 15 yX6_shadowBy wsX6_shadowBy) := goodIn_app (goodIn_of _ (by decide +kernel)) ggX6_cellBy_X6_shadowBy
set_option maxRecDepth 20000 in
theorem ggX6_cellBy_X6_valueBy : GoodIn wsX6_cellBy wsX6_valueBy := goodIn_r _ [14] (by decide +kernel) (by decide +kernel)
set_option maxRecDepth 20000 in
theorem gX6_cellBy_X6_valueBy : GoodIn wsX6_cellBy (va_wsS RX6 9 yX6_valueBy wsX6_valueBy) := goodIn_app (goodIn_of _ (by decide +kernel)) ggX6_cellBy_X6_valueBy
set_option maxRecDepth 20000 in
theorem ggX6_cellBy_X0_fromOf : GoodIn wsX6_cellBy wsX0_fromOf := goodIn_r _ [17] (by decide +kernel) (by decide +kernel)
set_option maxRecDepth 20000 in
theorem gX6_cellBy_X0_fromOf : GoodIn wsX6_cellBy (va_wsS RX6 31 yX0_fromOf wsX0_fromOf) := goodIn_app (goodIn_of _ (by decide +kernel)) ggX6_cellBy_X0_fromOf
set_option maxRecDepth 20000 in
theorem ggX6_cellBy_X0_of : GoodIn wsX6_cellBy wsX0_of := goodIn_r _ [20] (by decide +kernel) (by decide +kernel)
set_option maxRecDepth 20000 in
theorem gX6_cellBy_X0_of : GoodIn wsX6_cellBy (va_wsS RX6 34 yX0_of wsX0_of) := goodIn_app (goodIn_of _ (by decide +kernel)) ggX6_cellBy_X0_of
theorem dX6_cellBy_0 : decode cX6_cellBy 0 = .ok (.iload_n 1, 1) := by decide +kernel
theorem dX6_cellBy_1 : decode cX6_cellBy 1 = .ok (.invokestatic 22, 3) := by decide +kernel
theorem dX6_cellBy_4 : decode cX6_cellBy 4 = .ok (.istore_n 3, 1) := by decide +kernel
theorem dX6_cellBy_5 : decode cX6_cellBy 5 = .ok (.iload_n 2, 1) := by decide +kernel
theorem dX6_cellBy_6 : decode cX6_cellBy 6 = .ok (.invokestatic 22, 3) := by decide +kernel
theorem dX6_cellBy_9 : decode cX6_cellBy 9 = .ok (.istore 4, 2) := by decide +kernel
theorem dX6_cellBy_11 : decode cX6_cellBy 11 = .ok (.iload_n 0, 1) := by decide +kernel
theorem dX6_cellBy_12 : decode cX6_cellBy 12 = .ok (.iload_n 3, 1) := by decide +kernel
theorem dX6_cellBy_13 : decode cX6_cellBy 13 = .ok (.iload_n 1, 1) := by decide +kernel
theorem dX6_cellBy_14 : decode cX6_cellBy 14 = .ok (.invokestatic 28, 3) := by decide +kernel
theorem dX6_cellBy_17 : decode cX6_cellBy 17 = .ok (.iload 4, 2) := by decide +kernel
theorem dX6_cellBy_19 : decode cX6_cellBy 19 = .ok (.iload_n 2, 1) := by decide +kernel
theorem dX6_cellBy_20 : decode cX6_cellBy 20 = .ok (.invokestatic 28, 3) := by decide +kernel
theorem dX6_cellBy_23 : decode cX6_cellBy 23 = .ok (.invokestatic 15, 3) := by decide +kernel
theorem dX6_cellBy_26 : decode cX6_cellBy 26 = .ok (.istore 5, 2) := by decide +kernel
theorem dX6_cellBy_28 : decode cX6_cellBy 28 = .ok (.iload_n 0, 1) := by decide +kernel
theorem dX6_cellBy_29 : decode cX6_cellBy 29 = .ok (.iload_n 3, 1) := by decide +kernel
theorem dX6_cellBy_30 : decode cX6_cellBy 30 = .ok (.iload 4, 2) := by decide +kernel
theorem dX6_cellBy_32 : decode cX6_cellBy 32 = .ok (.invokestatic 9, 3) := by decide +kernel
theorem dX6_cellBy_35 : decode cX6_cellBy 35 = .ok (.iload 5, 2) := by decide +kernel
theorem dX6_cellBy_37 : decode cX6_cellBy 37 = .ok (.iload_n 1, 1) := by decide +kernel
theorem dX6_cellBy_38 : decode cX6_cellBy 38 = .ok (.invokestatic 31, 3) := by decide +kernel
theorem dX6_cellBy_41 : decode cX6_cellBy 41 = .ok (.iload_n 2, 1) := by decide +kernel
theorem dX6_cellBy_42 : decode cX6_cellBy 42 = .ok (.invokestatic 31, 3) := by decide +kernel
theorem dX6_cellBy_45 : decode cX6_cellBy 45 = .ok (.ior, 1) := by decide +kernel
theorem dX6_cellBy_46 : decode cX6_cellBy 46 = .ok (.invokestatic 34, 3) := by decide +kernel
theorem dX6_cellBy_49 : decode cX6_cellBy 49 = .ok (.ireturn, 1) := by decide +kernel
set_option maxRecDepth 20000 in
theorem ggX6_slackOf_X0_valueOf : GoodIn wsX6_slackOf wsX0_valueOf := goodIn_r _ [4] (by decide +kernel) (by decide +kernel)
set_option maxRecDepth 20000 in
theorem gX6_slackOf_X0_valueOf : GoodIn wsX6_slackOf (va_wsS RX6 22 yX0_valueOf wsX0_valueOf) := goodIn_app (goodIn_of _ (by decide +kernel)) ggX6_slackOf_X0_valueOf
set_option maxRecDepth 20000 in
theorem ggX6_slackOf_X0_shadowOf : GoodIn wsX6_slackOf wsX0_shadowOf := goodIn_r _ [7] (by decide +kernel) (by decide +kernel)
set_option maxRecDepth 20000 in
theorem gX6_slackOf_X0_shadowOf : GoodIn wsX6_slackOf (va_wsS RX6 28 yX0_shadowOf wsX0_shadowOf) := goodIn_app (goodIn_of _ (by decide +kernel)) ggX6_slackOf_X0_shadowOf
set_option maxRecDepth 20000 in
theorem ggX6_slackOf_X6_shadowBy : GoodIn wsX6_slackOf wsX6_shadowBy := goodIn_r _ [11, 12, 13, 10, 14] (by decide +kernel) (by decide +kernel)
set_option maxRecDepth 20000 in
theorem gX6_slackOf_X6_shadowBy : GoodIn wsX6_slackOf (va_wsS RX6 15 yX6_shadowBy wsX6_shadowBy) := goodIn_app (goodIn_of _ (by decide +kernel)) ggX6_slackOf_X6_shadowBy
set_option maxRecDepth 20000 in
theorem ggX6_slackOf_X6_exactBy : GoodIn wsX6_slackOf wsX6_exactBy := goodIn_r _ [17, 8, 9, 10, 11, 12, 13, 14, 18, 19, 20] (by decide +kernel) (by decide +kernel)
set_option maxRecDepth 20000 in
theorem gX6_slackOf_X6_exactBy : GoodIn wsX6_slackOf (va_wsS RX6 37 yX6_exactBy wsX6_exactBy) := goodIn_app (goodIn_of _ (by decide +kernel)) ggX6_slackOf_X6_exactBy
set_option maxRecDepth 20000 in
theorem ggX6_slackOf_J6_bitCount_0f7a4 : GoodIn wsX6_slackOf wsJ6_bitCount_0f7a4 := goodIn_r _ [24, 25, 26, 27] (by decide +kernel) (by decide +kernel)
set_option maxRecDepth 20000 in
theorem gX6_slackOf_J6_bitCount_0f7a4 : GoodIn wsX6_slackOf (va_wsS RX6 40 yJ6_bitCount_0f7a4 wsJ6_bitCount_0f7a4) := goodIn_app (goodIn_of _ (by decide +kernel)) ggX6_slackOf_J6_bitCount_0f7a4
theorem dX6_slackOf_0 : decode cX6_slackOf 0 = .ok (.iload_n 1, 1) := by decide +kernel
theorem dX6_slackOf_1 : decode cX6_slackOf 1 = .ok (.invokestatic 22, 3) := by decide +kernel
theorem dX6_slackOf_4 : decode cX6_slackOf 4 = .ok (.istore_n 3, 1) := by decide +kernel
theorem dX6_slackOf_5 : decode cX6_slackOf 5 = .ok (.iload_n 1, 1) := by decide +kernel
theorem dX6_slackOf_6 : decode cX6_slackOf 6 = .ok (.invokestatic 28, 3) := by decide +kernel
theorem dX6_slackOf_9 : decode cX6_slackOf 9 = .ok (.istore 4, 2) := by decide +kernel
theorem dX6_slackOf_11 : decode cX6_slackOf 11 = .ok (.iload_n 2, 1) := by decide +kernel
theorem dX6_slackOf_12 : decode cX6_slackOf 12 = .ok (.invokestatic 22, 3) := by decide +kernel
theorem dX6_slackOf_15 : decode cX6_slackOf 15 = .ok (.istore 5, 2) := by decide +kernel
theorem dX6_slackOf_17 : decode cX6_slackOf 17 = .ok (.iload_n 2, 1) := by decide +kernel
theorem dX6_slackOf_18 : decode cX6_slackOf 18 = .ok (.invokestatic 28, 3) := by decide +kernel
theorem dX6_slackOf_21 : decode cX6_slackOf 21 = .ok (.istore 6, 2) := by decide +kernel
theorem dX6_slackOf_23 : decode cX6_slackOf 23 = .ok (.iload_n 0, 1) := by decide +kernel
theorem dX6_slackOf_24 : decode cX6_slackOf 24 = .ok (.iload_n 3, 1) := by decide +kernel
theorem dX6_slackOf_25 : decode cX6_slackOf 25 = .ok (.iload 4, 2) := by decide +kernel
theorem dX6_slackOf_27 : decode cX6_slackOf 27 = .ok (.iload 5, 2) := by decide +kernel
theorem dX6_slackOf_29 : decode cX6_slackOf 29 = .ok (.iload 6, 2) := by decide +kernel
theorem dX6_slackOf_31 : decode cX6_slackOf 31 = .ok (.invokestatic 15, 3) := by decide +kernel
theorem dX6_slackOf_34 : decode cX6_slackOf 34 = .ok (.iload_n 0, 1) := by decide +kernel
theorem dX6_slackOf_35 : decode cX6_slackOf 35 = .ok (.iload_n 3, 1) := by decide +kernel
theorem dX6_slackOf_36 : decode cX6_slackOf 36 = .ok (.iload 4, 2) := by decide +kernel
theorem dX6_slackOf_38 : decode cX6_slackOf 38 = .ok (.iload 5, 2) := by decide +kernel
theorem dX6_slackOf_40 : decode cX6_slackOf 40 = .ok (.iload 6, 2) := by decide +kernel
theorem dX6_slackOf_42 : decode cX6_slackOf 42 = .ok (.invokestatic 37, 3) := by decide +kernel
theorem dX6_slackOf_45 : decode cX6_slackOf 45 = .ok (.iconst (-1), 1) := by decide +kernel
theorem dX6_slackOf_46 : decode cX6_slackOf 46 = .ok (.ixor, 1) := by decide +kernel
theorem dX6_slackOf_47 : decode cX6_slackOf 47 = .ok (.iand, 1) := by decide +kernel
theorem dX6_slackOf_48 : decode cX6_slackOf 48 = .ok (.invokestatic 40, 3) := by decide +kernel
theorem dX6_slackOf_51 : decode cX6_slackOf 51 = .ok (.ireturn, 1) := by decide +kernel
set_option maxRecDepth 20000 in
theorem ggX7_init_X4_init : GoodIn wsX7_init wsX4_init := goodIn_r _ [27, 28, 2, 3, 29, 30, 93, 94] (by decide +kernel) (by decide +kernel)
set_option maxRecDepth 20000 in
theorem gX7_init_X4_init_n11 : GoodIn wsX7_init (wsX4_init) := ggX7_init_X4_init
set_option maxRecDepth 20000 in
theorem ggX7_init_X3_init : GoodIn wsX7_init wsX3_init := goodIn_r _ [32, 33, 2, 3, 29, 34, 35, 36, 107, 108, 109, 110, 111] (by decide +kernel) (by decide +kernel)
set_option maxRecDepth 20000 in
theorem gX7_init_X3_init_n24 : GoodIn wsX7_init (wsX3_init) := ggX7_init_X3_init
set_option maxRecDepth 20000 in
theorem ggX7_init_X2_init : GoodIn wsX7_init wsX2_init := goodIn_r _ [38, 39, 2, 3, 29, 40, 41, 42, 112, 113, 114, 115, 116] (by decide +kernel) (by decide +kernel)
set_option maxRecDepth 20000 in
theorem gX7_init_X2_init_n31 : GoodIn wsX7_init (wsX2_init) := ggX7_init_X2_init
set_option maxRecDepth 20000 in
theorem ggX7_init_X5_init : GoodIn wsX7_init wsX5_init := goodIn_r _ [44, 45, 2, 3, 29, 46, 47, 48, 117, 118, 119, 120, 121] (by decide +kernel) (by decide +kernel)
set_option maxRecDepth 20000 in
theorem gX7_init_X5_init_n38 : GoodIn wsX7_init (wsX5_init) := ggX7_init_X5_init
set_option maxRecDepth 20000 in
theorem ggX7_init_X1_init : GoodIn wsX7_init wsX1_init := goodIn_r _ [50, 51, 2, 3, 29, 52, 53, 122, 123, 124, 125] (by decide +kernel) (by decide +kernel)
set_option maxRecDepth 20000 in
theorem gX7_init_X1_init_n45 : GoodIn wsX7_init (wsX1_init) := ggX7_init_X1_init
set_option maxRecDepth 20000 in
theorem ggX7_init_X7_begin : GoodIn wsX7_init wsX7_begin := goodIn_r _ [58, 7, 13, 17, 21, 25, 59, 60, 61, 62, 63, 64, 65, 66, 6, 67, 30, 68, 69, 70, 71, 12, 72, 36, 73, 74, 75, 76, 77, 16, 78, 79, 80, 81, 82, 83, 20, 84, 85, 86, 87, 88, 89, 24, 90, 91, 92, 95, 96, 97, 98, 99, 100, 101, 102, 103, 104, 105, 106, 93, 94, 107, 108, 109, 110, 111, 112, 113, 114, 115, 116, 117, 118, 119, 120, 121, 122, 123, 124, 125] (by decide +kernel) (by decide +kernel)
set_option maxRecDepth 20000 in
theorem gX7_init_X7_begin : GoodIn wsX7_init (wsV RX7 50 RX7 yX7_begin wsX7_begin) := goodIn_app (goodIn_of _ (by decide +kernel)) ggX7_init_X7_begin
theorem dX7_init_0 : decode cX7_init 0 = .ok (.aload_n 0, 1) := by decide +kernel
theorem dX7_init_1 : decode cX7_init 1 = .ok (.invokespecial 3, 3) := by decide +kernel
theorem dX7_init_4 : decode cX7_init 4 = .ok (.aload_n 0, 1) := by decide +kernel
theorem dX7_init_5 : decode cX7_init 5 = .ok (.new 9, 3) := by decide +kernel
theorem dX7_init_8 : decode cX7_init 8 = .ok (.dup, 1) := by decide +kernel
theorem dX7_init_9 : decode cX7_init 9 = .ok (.invokespecial 11, 3) := by decide +kernel
theorem dX7_init_12 : decode cX7_init 12 = .ok (.putfield 12, 3) := by decide +kernel
theorem dX7_init_15 : decode cX7_init 15 = .ok (.aload_n 0, 1) := by decide +kernel
theorem dX7_init_16 : decode cX7_init 16 = .ok (.new 9, 3) := by decide +kernel
theorem dX7_init_19 : decode cX7_init 19 = .ok (.dup, 1) := by decide +kernel
theorem dX7_init_20 : decode cX7_init 20 = .ok (.invokespecial 11, 3) := by decide +kernel
theorem dX7_init_23 : decode cX7_init 23 = .ok (.putfield 16, 3) := by decide +kernel
theorem dX7_init_26 : decode cX7_init 26 = .ok (.aload_n 0, 1) := by decide +kernel
theorem dX7_init_27 : decode cX7_init 27 = .ok (.new 9, 3) := by decide +kernel
theorem dX7_init_30 : decode cX7_init 30 = .ok (.dup, 1) := by decide +kernel
theorem dX7_init_31 : decode cX7_init 31 = .ok (.invokespecial 11, 3) := by decide +kernel
theorem dX7_init_34 : decode cX7_init 34 = .ok (.putfield 19, 3) := by decide +kernel
theorem dX7_init_37 : decode cX7_init 37 = .ok (.aload_n 0, 1) := by decide +kernel
theorem dX7_init_38 : decode cX7_init 38 = .ok (.new 22, 3) := by decide +kernel
theorem dX7_init_41 : decode cX7_init 41 = .ok (.dup, 1) := by decide +kernel
theorem dX7_init_42 : decode cX7_init 42 = .ok (.invokespecial 24, 3) := by decide +kernel
theorem dX7_init_45 : decode cX7_init 45 = .ok (.putfield 25, 3) := by decide +kernel
theorem dX7_init_48 : decode cX7_init 48 = .ok (.aload_n 0, 1) := by decide +kernel
theorem dX7_init_49 : decode cX7_init 49 = .ok (.new 29, 3) := by decide +kernel
theorem dX7_init_52 : decode cX7_init 52 = .ok (.dup, 1) := by decide +kernel
theorem dX7_init_53 : decode cX7_init 53 = .ok (.invokespecial 31, 3) := by decide +kernel
theorem dX7_init_56 : decode cX7_init 56 = .ok (.putfield 32, 3) := by decide +kernel
theorem dX7_init_59 : decode cX7_init 59 = .ok (.aload_n 0, 1) := by decide +kernel
theorem dX7_init_60 : decode cX7_init 60 = .ok (.new 36, 3) := by decide +kernel
theorem dX7_init_63 : decode cX7_init 63 = .ok (.dup, 1) := by decide +kernel
theorem dX7_init_64 : decode cX7_init 64 = .ok (.invokespecial 38, 3) := by decide +kernel
theorem dX7_init_67 : decode cX7_init 67 = .ok (.putfield 39, 3) := by decide +kernel
theorem dX7_init_70 : decode cX7_init 70 = .ok (.aload_n 0, 1) := by decide +kernel
theorem dX7_init_71 : decode cX7_init 71 = .ok (.new 43, 3) := by decide +kernel
theorem dX7_init_74 : decode cX7_init 74 = .ok (.dup, 1) := by decide +kernel
theorem dX7_init_75 : decode cX7_init 75 = .ok (.invokespecial 45, 3) := by decide +kernel
theorem dX7_init_78 : decode cX7_init 78 = .ok (.putfield 46, 3) := by decide +kernel
theorem dX7_init_81 : decode cX7_init 81 = .ok (.aload_n 0, 1) := by decide +kernel
theorem dX7_init_82 : decode cX7_init 82 = .ok (.invokevirtual 50, 3) := by decide +kernel
theorem dX7_init_85 : decode cX7_init 85 = .ok (.return_, 1) := by decide +kernel
set_option maxRecDepth 20000 in
theorem ggX7_start_X7_begin : GoodIn wsX7_start wsX7_begin := goodIn_r _ [6, 7, 8, 9, 10, 11, 12, 13, 1, 14, 15, 16, 17, 18, 19, 20, 21, 22, 23, 24, 25, 26, 27, 28, 29, 30, 31, 32, 33, 34, 35, 36, 37, 38, 39, 40, 41, 42, 43, 44, 45, 46, 47, 48, 49, 50, 51, 52, 53, 54, 55, 56, 57, 58, 59, 60, 61, 62, 63, 64, 65, 66, 67, 68, 69, 70, 71, 72, 73, 74, 75, 76, 77, 78, 79, 80, 81, 82, 83, 84] (by decide +kernel) (by decide +kernel)
set_option maxRecDepth 20000 in
theorem gX7_start_X7_begin : GoodIn wsX7_start (wsV RX7 50 RX7 yX7_begin wsX7_begin) := goodIn_app (goodIn_of _ (by decide +kernel)) ggX7_start_X7_begin
theorem dX7_start_0 : decode cX7_start 0 = .ok (.aload_n 0, 1) := by decide +kernel
theorem dX7_start_1 : decode cX7_start 1 = .ok (.getfield 53, 3) := by decide +kernel
theorem dX7_start_4 : decode cX7_start 4 = .ok (.istore_n 1, 1) := by decide +kernel
theorem dX7_start_5 : decode cX7_start 5 = .ok (.aload_n 0, 1) := by decide +kernel
theorem dX7_start_6 : decode cX7_start 6 = .ok (.invokevirtual 50, 3) := by decide +kernel
theorem dX7_start_9 : decode cX7_start 9 = .ok (.iload_n 1, 1) := by decide +kernel
theorem dX7_start_10 : decode cX7_start 10 = .ok (.ireturn, 1) := by decide +kernel
set_option maxRecDepth 20000 in
theorem ggX7_set_X7_isRegister : GoodIn wsX7_set wsX7_isRegister := goodIn_r _ [8] (by decide +kernel) (by decide +kernel)
set_option maxRecDepth 20000 in
theorem gX7_set_X7_isRegister : GoodIn wsX7_set (va_wsS RX7 57 yX7_isRegister wsX7_isRegister) := goodIn_app (goodIn_of _ (by decide +kernel)) ggX7_set_X7_isRegister
set_option maxRecDepth 20000 in
theorem ggX7_set_X7_isByte : GoodIn wsX7_set wsX7_isByte := goodIn_r _ [11] (by decide +kernel) (by decide +kernel)
set_option maxRecDepth 20000 in
theorem gX7_set_X7_isByte : GoodIn wsX7_set (va_wsS RX7 62 yX7_isByte wsX7_isByte) := goodIn_app (goodIn_of _ (by decide +kernel)) ggX7_set_X7_isByte
set_option maxRecDepth 20000 in
theorem ggX7_set_X0_valueOf : GoodIn wsX7_set wsX0_valueOf := goodIn_r _ [15] (by decide +kernel) (by decide +kernel)
set_option maxRecDepth 20000 in
theorem gX7_set_X0_valueOf : GoodIn wsX7_set (va_wsS RX7 70 yX0_valueOf wsX0_valueOf) := goodIn_app (goodIn_of _ (by decide +kernel)) ggX7_set_X0_valueOf
set_option maxRecDepth 20000 in
theorem ggX7_set_X0_of : GoodIn wsX7_set wsX0_of := goodIn_r _ [18] (by decide +kernel) (by decide +kernel)
set_option maxRecDepth 20000 in
theorem gX7_set_X0_of : GoodIn wsX7_set (va_wsS RX7 76 yX0_of wsX0_of) := goodIn_app (goodIn_of _ (by decide +kernel)) ggX7_set_X0_of
set_option maxRecDepth 20000 in
theorem ggX7_set_X7_changeRegister : GoodIn wsX7_set wsX7_changeRegister := goodIn_r _ [22, 23, 3, 4, 24, 25, 26, 27, 28, 29, 30, 31, 32, 33, 34, 35, 36, 56, 57, 58, 59, 60, 61, 62, 63, 64, 65, 66, 67, 68, 69, 70, 71, 72, 73] (by decide +kernel) (by decide +kernel)
set_option maxRecDepth 20000 in
theorem gX7_set_X7_changeRegister : GoodIn wsX7_set (wsV RX7 80 RX7 yX7_changeRegister wsX7_changeRegister) := goodIn_app (goodIn_of _ (by decide +kernel)) ggX7_set_X7_changeRegister
set_option maxRecDepth 20000 in
theorem ggX7_set_X7_tick : GoodIn wsX7_set wsX7_tick := goodIn_r _ [40, 41, 42, 43, 44, 45, 46, 47, 48, 49, 50, 51, 52, 53, 54, 55, 34, 35, 36, 56, 57, 58, 59, 60, 61, 62, 63, 64, 65, 66, 67, 74, 75, 76, 77, 78] (by decide +kernel) (by decide +kernel)
set_option maxRecDepth 20000 in
theorem gX7_set_X7_tick : GoodIn wsX7_set (wsV RX7 84 RX7 yX7_tick wsX7_tick) := goodIn_app (goodIn_of _ (by decide +kernel)) ggX7_set_X7_tick
theorem dX7_set_0 : decode cX7_set 0 = .ok (.iload_n 1, 1) := by decide +kernel
theorem dX7_set_1 : decode cX7_set 1 = .ok (.invokestatic 57, 3) := by decide +kernel
theorem dX7_set_4 : decode cX7_set 4 = .ok (.ifCond .ne 6, 3) := by decide +kernel
theorem dX7_set_7 : decode cX7_set 7 = .ok (.ldc 61, 2) := by decide +kernel
theorem dX7_set_9 : decode cX7_set 9 = .ok (.ireturn, 1) := by decide +kernel
theorem dX7_set_10 : decode cX7_set 10 = .ok (.iload_n 2, 1) := by decide +kernel
theorem dX7_set_11 : decode cX7_set 11 = .ok (.invokestatic 62, 3) := by decide +kernel
theorem dX7_set_14 : decode cX7_set 14 = .ok (.ifCond .ne 6, 3) := by decide +kernel
theorem dX7_set_17 : decode cX7_set 17 = .ok (.ldc 65, 2) := by decide +kernel
theorem dX7_set_19 : decode cX7_set 19 = .ok (.ireturn, 1) := by decide +kernel
theorem dX7_set_20 : decode cX7_set 20 = .ok (.aload_n 0, 1) := by decide +kernel
theorem dX7_set_21 : decode cX7_set 21 = .ok (.getfield 12, 3) := by decide +kernel
theorem dX7_set_24 : decode cX7_set 24 = .ok (.getfield 66, 3) := by decide +kernel
theorem dX7_set_27 : decode cX7_set 27 = .ok (.iload_n 1, 1) := by decide +kernel
theorem dX7_set_28 : decode cX7_set 28 = .ok (.iaload, 1) := by decide +kernel
theorem dX7_set_29 : decode cX7_set 29 = .ok (.invokestatic 70, 3) := by decide +kernel
theorem dX7_set_32 : decode cX7_set 32 = .ok (.istore_n 3, 1) := by decide +kernel
theorem dX7_set_33 : decode cX7_set 33 = .ok (.aload_n 0, 1) := by decide +kernel
theorem dX7_set_34 : decode cX7_set 34 = .ok (.iload_n 1, 1) := by decide +kernel
theorem dX7_set_35 : decode cX7_set 35 = .ok (.iload_n 2, 1) := by decide +kernel
theorem dX7_set_36 : decode cX7_set 36 = .ok (.iconst 0, 1) := by decide +kernel
theorem dX7_set_37 : decode cX7_set 37 = .ok (.iconst 0, 1) := by decide +kernel
theorem dX7_set_38 : decode cX7_set 38 = .ok (.invokestatic 76, 3) := by decide +kernel
theorem dX7_set_41 : decode cX7_set 41 = .ok (.invokevirtual 80, 3) := by decide +kernel
theorem dX7_set_44 : decode cX7_set 44 = .ok (.aload_n 0, 1) := by decide +kernel
theorem dX7_set_45 : decode cX7_set 45 = .ok (.iconst 0, 1) := by decide +kernel
theorem dX7_set_46 : decode cX7_set 46 = .ok (.iload_n 3, 1) := by decide +kernel
theorem dX7_set_47 : decode cX7_set 47 = .ok (.invokevirtual 84, 3) := by decide +kernel
theorem dX7_set_50 : decode cX7_set 50 = .ok (.ireturn, 1) := by decide +kernel
set_option maxRecDepth 20000 in
theorem ggX7_forget_X7_isRegister : GoodIn wsX7_forget wsX7_isRegister := goodIn_r _ [9] (by decide +kernel) (by decide +kernel)
set_option maxRecDepth 20000 in
theorem gX7_forget_X7_isRegister : GoodIn wsX7_forget (va_wsS RX7 57 yX7_isRegister wsX7_isRegister) := goodIn_app (goodIn_of _ (by decide +kernel)) ggX7_forget_X7_isRegister
set_option maxRecDepth 20000 in
theorem ggX7_forget_X3_has : GoodIn wsX7_forget wsX3_has := goodIn_r _ [14, 15, 80, 81, 82, 83, 84] (by decide +kernel) (by decide +kernel)
set_option maxRecDepth 20000 in
theorem gX7_forget_X3_has : GoodIn wsX7_forget (wsV RX7 88 RX3 yX3_has wsX3_has) := goodIn_app (goodIn_of _ (by decide +kernel)) ggX7_forget_X3_has
set_option maxRecDepth 20000 in
theorem ggX7_forget_X0_shadowOf : GoodIn wsX7_forget wsX0_shadowOf := goodIn_r _ [19] (by decide +kernel) (by decide +kernel)
set_option maxRecDepth 20000 in
theorem gX7_forget_X0_shadowOf : GoodIn wsX7_forget (va_wsS RX7 91 yX0_shadowOf wsX0_shadowOf) := goodIn_app (goodIn_of _ (by decide +kernel)) ggX7_forget_X0_shadowOf
set_option maxRecDepth 20000 in
theorem ggX7_forget_X0_valueOf : GoodIn wsX7_forget wsX0_valueOf := goodIn_r _ [22] (by decide +kernel) (by decide +kernel)
set_option maxRecDepth 20000 in
theorem gX7_forget_X0_valueOf : GoodIn wsX7_forget (va_wsS RX7 70 yX0_valueOf wsX0_valueOf) := goodIn_app (goodIn_of _ (by decide +kernel)) ggX7_forget_X0_valueOf
set_option maxRecDepth 20000 in
theorem ggX7_forget_X0_fromOf : GoodIn wsX7_forget wsX0_fromOf := goodIn_r _ [25] (by decide +kernel) (by decide +kernel)
set_option maxRecDepth 20000 in
theorem gX7_forget_X0_fromOf : GoodIn wsX7_forget (va_wsS RX7 94 yX0_fromOf wsX0_fromOf) := goodIn_app (goodIn_of _ (by decide +kernel)) ggX7_forget_X0_fromOf
set_option maxRecDepth 20000 in
theorem ggX7_forget_X0_of : GoodIn wsX7_forget wsX0_of := goodIn_r _ [28] (by decide +kernel) (by decide +kernel)
set_option maxRecDepth 20000 in
theorem gX7_forget_X0_of : GoodIn wsX7_forget (va_wsS RX7 76 yX0_of wsX0_of) := goodIn_app (goodIn_of _ (by decide +kernel)) ggX7_forget_X0_of
set_option maxRecDepth 20000 in
theorem ggX7_forget_X7_changeRegister : GoodIn wsX7_forget wsX7_changeRegister := goodIn_r _ [32, 33, 4, 5, 34, 35, 36, 37, 38, 39, 40, 41, 42, 43, 44, 45, 46, 66, 67, 68, 69, 70, 71, 72, 73, 74, 75, 76, 77, 78, 79, 85, 86, 87, 88] (by decide +kernel) (by decide +kernel)
set_option maxRecDepth 20000 in
theorem gX7_forget_X7_changeRegister : GoodIn wsX7_forget (wsV RX7 80 RX7 yX7_changeRegister wsX7_changeRegister) := goodIn_app (goodIn_of _ (by decide +kernel)) ggX7_forget_X7_changeRegister
set_option maxRecDepth 20000 in
theorem ggX7_forget_X7_tick : GoodIn wsX7_forget wsX7_tick := goodIn_r _ [50, 51, 52, 53, 54, 55, 56, 57, 58, 59, 60, 61, 62, 63, 64, 65, 44, 45, 46, 66, 67, 68, 69, 70, 71, 72, 73, 74, 75, 76, 77, 89, 90, 91, 92, 93] (by decide +kernel) (by decide +kernel)
set_option maxRecDepth 20000 in
theorem gX7_forget_X7_tick : GoodIn wsX7_forget (wsV RX7 84 RX7 yX7_tick wsX7_tick) := goodIn_app (goodIn_of _ (by decide +kernel)) ggX7_forget_X7_tick
