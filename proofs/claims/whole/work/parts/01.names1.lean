theorem dX0_init_0 : decode cX0_init 0 = .ok (.aload_n 0, 1) := by decide +kernel
theorem dX0_init_1 : decode cX0_init 1 = .ok (.invokespecial 3, 3) := by decide +kernel
theorem dX0_init_4 : decode cX0_init 4 = .ok (.aload_n 0, 1) := by decide +kernel
theorem dX0_init_5 : decode cX0_init 5 = .ok (.bipush 8, 2) := by decide +kernel
theorem dX0_init_7 : decode cX0_init 7 = .ok (.newarray .int, 2) := by decide +kernel
theorem dX0_init_9 : decode cX0_init 9 = .ok (.putfield 9, 3) := by decide +kernel
theorem dX0_init_12 : decode cX0_init 12 = .ok (.aload_n 0, 1) := by decide +kernel
theorem dX0_init_13 : decode cX0_init 13 = .ok (.bipush 8, 2) := by decide +kernel
theorem dX0_init_15 : decode cX0_init 15 = .ok (.newarray .int, 2) := by decide +kernel
theorem dX0_init_17 : decode cX0_init 17 = .ok (.putfield 15, 3) := by decide +kernel
theorem dX0_init_20 : decode cX0_init 20 = .ok (.aload_n 0, 1) := by decide +kernel
theorem dX0_init_21 : decode cX0_init 21 = .ok (.bipush 8, 2) := by decide +kernel
theorem dX0_init_23 : decode cX0_init 23 = .ok (.newarray .int, 2) := by decide +kernel
theorem dX0_init_25 : decode cX0_init 25 = .ok (.putfield 18, 3) := by decide +kernel
theorem dX0_init_28 : decode cX0_init 28 = .ok (.aload_n 0, 1) := by decide +kernel
theorem dX0_init_29 : decode cX0_init 29 = .ok (.iconst 0, 1) := by decide +kernel
theorem dX0_init_30 : decode cX0_init 30 = .ok (.putfield 21, 3) := by decide +kernel
theorem dX0_init_33 : decode cX0_init 33 = .ok (.aload_n 0, 1) := by decide +kernel
theorem dX0_init_34 : decode cX0_init 34 = .ok (.iload_n 1, 1) := by decide +kernel
theorem dX0_init_35 : decode cX0_init 35 = .ok (.putfield 25, 3) := by decide +kernel
theorem dX0_init_38 : decode cX0_init 38 = .ok (.return_, 1) := by decide +kernel
theorem dX0_isFull_0 : decode cX0_isFull 0 = .ok (.aload_n 0, 1) := by decide +kernel
theorem dX0_isFull_1 : decode cX0_isFull 1 = .ok (.getfield 21, 3) := by decide +kernel
theorem dX0_isFull_4 : decode cX0_isFull 4 = .ok (.aload_n 0, 1) := by decide +kernel
theorem dX0_isFull_5 : decode cX0_isFull 5 = .ok (.getfield 25, 3) := by decide +kernel
theorem dX0_isFull_8 : decode cX0_isFull 8 = .ok (.if_icmp .lt 7, 3) := by decide +kernel
theorem dX0_isFull_11 : decode cX0_isFull 11 = .ok (.iconst 1, 1) := by decide +kernel
theorem dX0_isFull_12 : decode cX0_isFull 12 = .ok (.goto 4, 3) := by decide +kernel
theorem dX0_isFull_15 : decode cX0_isFull 15 = .ok (.iconst 0, 1) := by decide +kernel
theorem dX0_isFull_16 : decode cX0_isFull 16 = .ok (.ireturn, 1) := by decide +kernel
theorem dX0_add_0 : decode cX0_add 0 = .ok (.aload_n 0, 1) := by decide +kernel
theorem dX0_add_1 : decode cX0_add 1 = .ok (.getfield 21, 3) := by decide +kernel
theorem dX0_add_4 : decode cX0_add 4 = .ok (.istore 4, 2) := by decide +kernel
theorem dX0_add_6 : decode cX0_add 6 = .ok (.aload_n 0, 1) := by decide +kernel
theorem dX0_add_7 : decode cX0_add 7 = .ok (.getfield 9, 3) := by decide +kernel
theorem dX0_add_10 : decode cX0_add 10 = .ok (.iload 4, 2) := by decide +kernel
theorem dX0_add_12 : decode cX0_add 12 = .ok (.iload_n 1, 1) := by decide +kernel
theorem dX0_add_13 : decode cX0_add 13 = .ok (.iastore, 1) := by decide +kernel
theorem dX0_add_14 : decode cX0_add 14 = .ok (.aload_n 0, 1) := by decide +kernel
theorem dX0_add_15 : decode cX0_add 15 = .ok (.getfield 15, 3) := by decide +kernel
theorem dX0_add_18 : decode cX0_add 18 = .ok (.iload 4, 2) := by decide +kernel
theorem dX0_add_20 : decode cX0_add 20 = .ok (.iload_n 2, 1) := by decide +kernel
theorem dX0_add_21 : decode cX0_add 21 = .ok (.iastore, 1) := by decide +kernel
theorem dX0_add_22 : decode cX0_add 22 = .ok (.aload_n 0, 1) := by decide +kernel
theorem dX0_add_23 : decode cX0_add 23 = .ok (.getfield 18, 3) := by decide +kernel
theorem dX0_add_26 : decode cX0_add 26 = .ok (.iload 4, 2) := by decide +kernel
theorem dX0_add_28 : decode cX0_add 28 = .ok (.iload_n 3, 1) := by decide +kernel
theorem dX0_add_29 : decode cX0_add 29 = .ok (.iastore, 1) := by decide +kernel
theorem dX0_add_30 : decode cX0_add 30 = .ok (.aload_n 0, 1) := by decide +kernel
theorem dX0_add_31 : decode cX0_add 31 = .ok (.iload 4, 2) := by decide +kernel
theorem dX0_add_33 : decode cX0_add 33 = .ok (.iconst 1, 1) := by decide +kernel
theorem dX0_add_34 : decode cX0_add 34 = .ok (.iadd, 1) := by decide +kernel
theorem dX0_add_35 : decode cX0_add 35 = .ok (.putfield 21, 3) := by decide +kernel
theorem dX0_add_38 : decode cX0_add 38 = .ok (.iload 4, 2) := by decide +kernel
theorem dX0_add_40 : decode cX0_add 40 = .ok (.ireturn, 1) := by decide +kernel
theorem dX0_takeBack_0 : decode cX0_takeBack 0 = .ok (.iload_n 1, 1) := by decide +kernel
theorem dX0_takeBack_1 : decode cX0_takeBack 1 = .ok (.ifCond .lt 11, 3) := by decide +kernel
theorem dX0_takeBack_4 : decode cX0_takeBack 4 = .ok (.iload_n 1, 1) := by decide +kernel
theorem dX0_takeBack_5 : decode cX0_takeBack 5 = .ok (.aload_n 0, 1) := by decide +kernel
theorem dX0_takeBack_6 : decode cX0_takeBack 6 = .ok (.getfield 21, 3) := by decide +kernel
theorem dX0_takeBack_9 : decode cX0_takeBack 9 = .ok (.if_icmp .le 6, 3) := by decide +kernel
theorem dX0_takeBack_12 : decode cX0_takeBack 12 = .ok (.bipush (-2), 2) := by decide +kernel
theorem dX0_takeBack_14 : decode cX0_takeBack 14 = .ok (.ireturn, 1) := by decide +kernel
theorem dX0_takeBack_15 : decode cX0_takeBack 15 = .ok (.aload_n 0, 1) := by decide +kernel
theorem dX0_takeBack_16 : decode cX0_takeBack 16 = .ok (.dup, 1) := by decide +kernel
theorem dX0_takeBack_17 : decode cX0_takeBack 17 = .ok (.getfield 21, 3) := by decide +kernel
theorem dX0_takeBack_20 : decode cX0_takeBack 20 = .ok (.iload_n 1, 1) := by decide +kernel
theorem dX0_takeBack_21 : decode cX0_takeBack 21 = .ok (.isub, 1) := by decide +kernel
theorem dX0_takeBack_22 : decode cX0_takeBack 22 = .ok (.putfield 21, 3) := by decide +kernel
theorem dX0_takeBack_25 : decode cX0_takeBack 25 = .ok (.aload_n 0, 1) := by decide +kernel
theorem dX0_takeBack_26 : decode cX0_takeBack 26 = .ok (.getfield 21, 3) := by decide +kernel
theorem dX0_takeBack_29 : decode cX0_takeBack 29 = .ok (.ireturn, 1) := by decide +kernel
set_option maxRecDepth 20000 in
theorem ggX0_has_X4_isBelow : GoodIn wsX0_has wsX4_isBelow := goodIn_r _ [6] (by decide +kernel) (by decide +kernel)
set_option maxRecDepth 20000 in
theorem gX0_has_X4_isBelow_n28 : GoodIn wsX0_has (wsX4_isBelow) := ggX0_has_X4_isBelow
theorem dX0_has_0 : decode cX0_has 0 = .ok (.iload_n 1, 1) := by decide +kernel
theorem dX0_has_1 : decode cX0_has 1 = .ok (.aload_n 0, 1) := by decide +kernel
theorem dX0_has_2 : decode cX0_has 2 = .ok (.getfield 21, 3) := by decide +kernel
theorem dX0_has_5 : decode cX0_has 5 = .ok (.invokestatic 28, 3) := by decide +kernel
theorem dX0_has_8 : decode cX0_has 8 = .ok (.ifCond .eq 27, 3) := by decide +kernel
theorem dX0_has_11 : decode cX0_has 11 = .ok (.aload_n 0, 1) := by decide +kernel
theorem dX0_has_12 : decode cX0_has 12 = .ok (.getfield 9, 3) := by decide +kernel
theorem dX0_has_15 : decode cX0_has 15 = .ok (.iload_n 1, 1) := by decide +kernel
theorem dX0_has_16 : decode cX0_has 16 = .ok (.iaload, 1) := by decide +kernel
theorem dX0_has_17 : decode cX0_has 17 = .ok (.iload_n 2, 1) := by decide +kernel
theorem dX0_has_18 : decode cX0_has 18 = .ok (.if_icmp .ne 17, 3) := by decide +kernel
theorem dX0_has_21 : decode cX0_has 21 = .ok (.aload_n 0, 1) := by decide +kernel
theorem dX0_has_22 : decode cX0_has 22 = .ok (.getfield 15, 3) := by decide +kernel
theorem dX0_has_25 : decode cX0_has 25 = .ok (.iload_n 1, 1) := by decide +kernel
theorem dX0_has_26 : decode cX0_has 26 = .ok (.iaload, 1) := by decide +kernel
theorem dX0_has_27 : decode cX0_has 27 = .ok (.iload_n 3, 1) := by decide +kernel
theorem dX0_has_28 : decode cX0_has 28 = .ok (.if_icmp .ne 7, 3) := by decide +kernel
theorem dX0_has_31 : decode cX0_has 31 = .ok (.iconst 1, 1) := by decide +kernel
theorem dX0_has_32 : decode cX0_has 32 = .ok (.goto 4, 3) := by decide +kernel
theorem dX0_has_35 : decode cX0_has 35 = .ok (.iconst 0, 1) := by decide +kernel
theorem dX0_has_36 : decode cX0_has 36 = .ok (.ireturn, 1) := by decide +kernel
theorem dX1_init_0 : decode cX1_init 0 = .ok (.aload_n 0, 1) := by decide +kernel
theorem dX1_init_1 : decode cX1_init 1 = .ok (.invokespecial 3, 3) := by decide +kernel
theorem dX1_init_4 : decode cX1_init 4 = .ok (.aload_n 0, 1) := by decide +kernel
theorem dX1_init_5 : decode cX1_init 5 = .ok (.bipush 6, 2) := by decide +kernel
theorem dX1_init_7 : decode cX1_init 7 = .ok (.newarray .int, 2) := by decide +kernel
theorem dX1_init_9 : decode cX1_init 9 = .ok (.putfield 9, 3) := by decide +kernel
theorem dX1_init_12 : decode cX1_init 12 = .ok (.aload_n 0, 1) := by decide +kernel
theorem dX1_init_13 : decode cX1_init 13 = .ok (.bipush 9, 2) := by decide +kernel
theorem dX1_init_15 : decode cX1_init 15 = .ok (.newarray .int, 2) := by decide +kernel
theorem dX1_init_17 : decode cX1_init 17 = .ok (.putfield 15, 3) := by decide +kernel
theorem dX1_init_20 : decode cX1_init 20 = .ok (.aload_n 0, 1) := by decide +kernel
theorem dX1_init_21 : decode cX1_init 21 = .ok (.bipush 9, 2) := by decide +kernel
theorem dX1_init_23 : decode cX1_init 23 = .ok (.newarray .int, 2) := by decide +kernel
theorem dX1_init_25 : decode cX1_init 25 = .ok (.putfield 18, 3) := by decide +kernel
theorem dX1_init_28 : decode cX1_init 28 = .ok (.aload_n 0, 1) := by decide +kernel
theorem dX1_init_29 : decode cX1_init 29 = .ok (.bipush 9, 2) := by decide +kernel
theorem dX1_init_31 : decode cX1_init 31 = .ok (.newarray .int, 2) := by decide +kernel
theorem dX1_init_33 : decode cX1_init 33 = .ok (.putfield 21, 3) := by decide +kernel
theorem dX1_init_36 : decode cX1_init 36 = .ok (.aload_n 0, 1) := by decide +kernel
theorem dX1_init_37 : decode cX1_init 37 = .ok (.iconst 0, 1) := by decide +kernel
theorem dX1_init_38 : decode cX1_init 38 = .ok (.putfield 24, 3) := by decide +kernel
theorem dX1_init_41 : decode cX1_init 41 = .ok (.aload_n 0, 1) := by decide +kernel
theorem dX1_init_42 : decode cX1_init 42 = .ok (.iconst 0, 1) := by decide +kernel
theorem dX1_init_43 : decode cX1_init 43 = .ok (.putfield 28, 3) := by decide +kernel
theorem dX1_init_46 : decode cX1_init 46 = .ok (.aload_n 0, 1) := by decide +kernel
theorem dX1_init_47 : decode cX1_init 47 = .ok (.iconst 0, 1) := by decide +kernel
theorem dX1_init_48 : decode cX1_init 48 = .ok (.putfield 31, 3) := by decide +kernel
theorem dX1_init_51 : decode cX1_init 51 = .ok (.return_, 1) := by decide +kernel
set_option maxRecDepth 20000 in
theorem ggX1_isSmith_X4_holds : GoodIn wsX1_isSmith wsX4_holds := goodIn_r _ [4] (by decide +kernel) (by decide +kernel)
set_option maxRecDepth 20000 in
theorem gX1_isSmith_X4_holds_n34 : GoodIn wsX1_isSmith (wsX4_holds) := ggX1_isSmith_X4_holds
theorem dX1_isSmith_0 : decode cX1_isSmith 0 = .ok (.aload_n 0, 1) := by decide +kernel
theorem dX1_isSmith_1 : decode cX1_isSmith 1 = .ok (.getfield 28, 3) := by decide +kernel
theorem dX1_isSmith_4 : decode cX1_isSmith 4 = .ok (.iload_n 1, 1) := by decide +kernel
theorem dX1_isSmith_5 : decode cX1_isSmith 5 = .ok (.invokestatic 34, 3) := by decide +kernel
theorem dX1_isSmith_8 : decode cX1_isSmith 8 = .ok (.ireturn, 1) := by decide +kernel
set_option maxRecDepth 20000 in
theorem ggX1_read_X1_codeAt : GoodIn wsX1_read wsX1_codeAt := goodIn_r _ [7, 8, 34, 35, 36] (by decide +kernel) (by decide +kernel)
set_option maxRecDepth 20000 in
theorem gX1_read_X1_codeAt : GoodIn wsX1_read (va_wsS RX1 38 yX1_codeAt wsX1_codeAt) := goodIn_app (goodIn_of _ (by decide +kernel)) ggX1_read_X1_codeAt
set_option maxRecDepth 20000 in
theorem ggX1_read_X1_readPersons : GoodIn wsX1_read wsX1_readPersons := goodIn_r _ [12, 1, 13, 2, 4, 5, 6, 7, 8, 14, 15, 16, 17, 18, 19, 27, 28, 29, 30, 31, 32, 33, 34, 35, 36] (by decide +kernel) (by decide +kernel)
set_option maxRecDepth 20000 in
theorem gX1_read_X1_readPersons : GoodIn wsX1_read (wsV RX1 42 RX1 yX1_readPersons wsX1_readPersons) := goodIn_app (goodIn_of _ (by decide +kernel)) ggX1_read_X1_readPersons
set_option maxRecDepth 20000 in
theorem ggX1_read_X1_readWays : GoodIn wsX1_read wsX1_readWays := goodIn_r _ [23, 1, 3, 24, 25, 26, 4, 5, 6, 7, 8, 17, 18, 19, 27, 28, 29, 30, 31, 32, 33, 34, 35, 36] (by decide +kernel) (by decide +kernel)
set_option maxRecDepth 20000 in
theorem gX1_read_X1_readWays : GoodIn wsX1_read (wsV RX1 46 RX1 yX1_readWays wsX1_readWays) := goodIn_app (goodIn_of _ (by decide +kernel)) ggX1_read_X1_readWays
theorem dX1_read_0 : decode cX1_read 0 = .ok (.aload_n 0, 1) := by decide +kernel
theorem dX1_read_1 : decode cX1_read 1 = .ok (.iconst 0, 1) := by decide +kernel
theorem dX1_read_2 : decode cX1_read 2 = .ok (.putfield 24, 3) := by decide +kernel
theorem dX1_read_5 : decode cX1_read 5 = .ok (.aload_n 0, 1) := by decide +kernel
theorem dX1_read_6 : decode cX1_read 6 = .ok (.iconst 0, 1) := by decide +kernel
theorem dX1_read_7 : decode cX1_read 7 = .ok (.putfield 28, 3) := by decide +kernel
theorem dX1_read_10 : decode cX1_read 10 = .ok (.aload_n 0, 1) := by decide +kernel
theorem dX1_read_11 : decode cX1_read 11 = .ok (.iconst 0, 1) := by decide +kernel
theorem dX1_read_12 : decode cX1_read 12 = .ok (.putfield 31, 3) := by decide +kernel
theorem dX1_read_15 : decode cX1_read 15 = .ok (.aload_n 1, 1) := by decide +kernel
theorem dX1_read_16 : decode cX1_read 16 = .ok (.iload_n 2, 1) := by decide +kernel
theorem dX1_read_17 : decode cX1_read 17 = .ok (.iload_n 3, 1) := by decide +kernel
theorem dX1_read_18 : decode cX1_read 18 = .ok (.iconst 0, 1) := by decide +kernel
theorem dX1_read_19 : decode cX1_read 19 = .ok (.invokestatic 38, 3) := by decide +kernel
theorem dX1_read_22 : decode cX1_read 22 = .ok (.bipush 105, 2) := by decide +kernel
theorem dX1_read_24 : decode cX1_read 24 = .ok (.if_icmp .eq 5, 3) := by decide +kernel
theorem dX1_read_27 : decode cX1_read 27 = .ok (.iconst 0, 1) := by decide +kernel
theorem dX1_read_28 : decode cX1_read 28 = .ok (.ireturn, 1) := by decide +kernel
theorem dX1_read_29 : decode cX1_read 29 = .ok (.aload_n 0, 1) := by decide +kernel
theorem dX1_read_30 : decode cX1_read 30 = .ok (.aload_n 1, 1) := by decide +kernel
theorem dX1_read_31 : decode cX1_read 31 = .ok (.iload_n 2, 1) := by decide +kernel
theorem dX1_read_32 : decode cX1_read 32 = .ok (.iload_n 3, 1) := by decide +kernel
theorem dX1_read_33 : decode cX1_read 33 = .ok (.invokevirtual 42, 3) := by decide +kernel
theorem dX1_read_36 : decode cX1_read 36 = .ok (.istore 4, 2) := by decide +kernel
theorem dX1_read_38 : decode cX1_read 38 = .ok (.iload 4, 2) := by decide +kernel
theorem dX1_read_40 : decode cX1_read 40 = .ok (.iconst (-1), 1) := by decide +kernel
theorem dX1_read_41 : decode cX1_read 41 = .ok (.if_icmp .eq 8, 3) := by decide +kernel
theorem dX1_read_44 : decode cX1_read 44 = .ok (.iload 4, 2) := by decide +kernel
theorem dX1_read_46 : decode cX1_read 46 = .ok (.goto 10, 3) := by decide +kernel
theorem dX1_read_49 : decode cX1_read 49 = .ok (.aload_n 0, 1) := by decide +kernel
theorem dX1_read_50 : decode cX1_read 50 = .ok (.aload_n 1, 1) := by decide +kernel
theorem dX1_read_51 : decode cX1_read 51 = .ok (.iload_n 2, 1) := by decide +kernel
theorem dX1_read_52 : decode cX1_read 52 = .ok (.iload_n 3, 1) := by decide +kernel
theorem dX1_read_53 : decode cX1_read 53 = .ok (.invokevirtual 46, 3) := by decide +kernel
theorem dX1_read_56 : decode cX1_read 56 = .ok (.ireturn, 1) := by decide +kernel
set_option maxRecDepth 20000 in
theorem ggX1_readPersons_X1_codeAt : GoodIn wsX1_readPersons wsX1_codeAt := goodIn_r _ [7, 8, 22, 23, 24] (by decide +kernel) (by decide +kernel)
set_option maxRecDepth 20000 in
theorem gX1_readPersons_X1_codeAt : GoodIn wsX1_readPersons (va_wsS RX1 38 yX1_codeAt wsX1_codeAt) := goodIn_app (goodIn_of _ (by decide +kernel)) ggX1_readPersons_X1_codeAt
set_option maxRecDepth 20000 in
theorem ggX1_readPersons_X1_kindOf : GoodIn wsX1_readPersons wsX1_kindOf := goodIn_r _ [11] (by decide +kernel) (by decide +kernel)
set_option maxRecDepth 20000 in
theorem gX1_readPersons_X1_kindOf : GoodIn wsX1_readPersons (va_wsS RX1 49 yX1_kindOf wsX1_kindOf) := goodIn_app (goodIn_of _ (by decide +kernel)) ggX1_readPersons_X1_kindOf
set_option maxRecDepth 20000 in
theorem ggX1_readPersons_X1_digitOf : GoodIn wsX1_readPersons wsX1_digitOf := goodIn_r _ [14] (by decide +kernel) (by decide +kernel)
set_option maxRecDepth 20000 in
theorem gX1_readPersons_X1_digitOf : GoodIn wsX1_readPersons (va_wsS RX1 53 yX1_digitOf wsX1_digitOf) := goodIn_app (goodIn_of _ (by decide +kernel)) ggX1_readPersons_X1_digitOf
theorem dX1_readPersons_0 : decode cX1_readPersons 0 = .ok (.iconst 1, 1) := by decide +kernel
theorem dX1_readPersons_1 : decode cX1_readPersons 1 = .ok (.istore 4, 2) := by decide +kernel
theorem dX1_readPersons_3 : decode cX1_readPersons 3 = .ok (.aload_n 0, 1) := by decide +kernel
theorem dX1_readPersons_4 : decode cX1_readPersons 4 = .ok (.getfield 24, 3) := by decide +kernel
theorem dX1_readPersons_7 : decode cX1_readPersons 7 = .ok (.bipush 6, 2) := by decide +kernel
theorem dX1_readPersons_9 : decode cX1_readPersons 9 = .ok (.if_icmp .ge 110, 3) := by decide +kernel
theorem dX1_readPersons_12 : decode cX1_readPersons 12 = .ok (.aload_n 1, 1) := by decide +kernel
theorem dX1_readPersons_13 : decode cX1_readPersons 13 = .ok (.iload_n 2, 1) := by decide +kernel
theorem dX1_readPersons_14 : decode cX1_readPersons 14 = .ok (.iload_n 3, 1) := by decide +kernel
theorem dX1_readPersons_15 : decode cX1_readPersons 15 = .ok (.iload 4, 2) := by decide +kernel
theorem dX1_readPersons_17 : decode cX1_readPersons 17 = .ok (.invokestatic 38, 3) := by decide +kernel
theorem dX1_readPersons_20 : decode cX1_readPersons 20 = .ok (.invokestatic 49, 3) := by decide +kernel
theorem dX1_readPersons_23 : decode cX1_readPersons 23 = .ok (.istore 5, 2) := by decide +kernel
theorem dX1_readPersons_25 : decode cX1_readPersons 25 = .ok (.iload 5, 2) := by decide +kernel
theorem dX1_readPersons_27 : decode cX1_readPersons 27 = .ok (.bipush (-9), 2) := by decide +kernel
theorem dX1_readPersons_29 : decode cX1_readPersons 29 = .ok (.if_icmp .ne 18, 3) := by decide +kernel
theorem dX1_readPersons_32 : decode cX1_readPersons 32 = .ok (.aload_n 0, 1) := by decide +kernel
theorem dX1_readPersons_33 : decode cX1_readPersons 33 = .ok (.getfield 24, 3) := by decide +kernel
theorem dX1_readPersons_36 : decode cX1_readPersons 36 = .ok (.iconst 2, 1) := by decide +kernel
theorem dX1_readPersons_37 : decode cX1_readPersons 37 = .ok (.if_icmp .ge 8, 3) := by decide +kernel
theorem dX1_readPersons_40 : decode cX1_readPersons 40 = .ok (.iload 4, 2) := by decide +kernel
theorem dX1_readPersons_42 : decode cX1_readPersons 42 = .ok (.goto 4, 3) := by decide +kernel
theorem dX1_readPersons_45 : decode cX1_readPersons 45 = .ok (.iconst (-1), 1) := by decide +kernel
theorem dX1_readPersons_46 : decode cX1_readPersons 46 = .ok (.ireturn, 1) := by decide +kernel
theorem dX1_readPersons_47 : decode cX1_readPersons 47 = .ok (.aload_n 1, 1) := by decide +kernel
theorem dX1_readPersons_48 : decode cX1_readPersons 48 = .ok (.iload_n 2, 1) := by decide +kernel
theorem dX1_readPersons_49 : decode cX1_readPersons 49 = .ok (.iload_n 3, 1) := by decide +kernel
theorem dX1_readPersons_50 : decode cX1_readPersons 50 = .ok (.iload 4, 2) := by decide +kernel
theorem dX1_readPersons_52 : decode cX1_readPersons 52 = .ok (.iconst 1, 1) := by decide +kernel
theorem dX1_readPersons_53 : decode cX1_readPersons 53 = .ok (.iadd, 1) := by decide +kernel
theorem dX1_readPersons_54 : decode cX1_readPersons 54 = .ok (.invokestatic 38, 3) := by decide +kernel
theorem dX1_readPersons_57 : decode cX1_readPersons 57 = .ok (.iconst 0, 1) := by decide +kernel
theorem dX1_readPersons_58 : decode cX1_readPersons 58 = .ok (.iconst 1, 1) := by decide +kernel
theorem dX1_readPersons_59 : decode cX1_readPersons 59 = .ok (.invokestatic 53, 3) := by decide +kernel
theorem dX1_readPersons_62 : decode cX1_readPersons 62 = .ok (.istore 6, 2) := by decide +kernel
theorem dX1_readPersons_64 : decode cX1_readPersons 64 = .ok (.iload 6, 2) := by decide +kernel
theorem dX1_readPersons_66 : decode cX1_readPersons 66 = .ok (.bipush (-9), 2) := by decide +kernel
theorem dX1_readPersons_68 : decode cX1_readPersons 68 = .ok (.if_icmp .ne 8, 3) := by decide +kernel
theorem dX1_readPersons_71 : decode cX1_readPersons 71 = .ok (.iload 4, 2) := by decide +kernel
theorem dX1_readPersons_73 : decode cX1_readPersons 73 = .ok (.iconst 1, 1) := by decide +kernel
theorem dX1_readPersons_74 : decode cX1_readPersons 74 = .ok (.iadd, 1) := by decide +kernel
theorem dX1_readPersons_75 : decode cX1_readPersons 75 = .ok (.ireturn, 1) := by decide +kernel
theorem dX1_readPersons_76 : decode cX1_readPersons 76 = .ok (.aload_n 0, 1) := by decide +kernel
theorem dX1_readPersons_77 : decode cX1_readPersons 77 = .ok (.getfield 9, 3) := by decide +kernel
theorem dX1_readPersons_80 : decode cX1_readPersons 80 = .ok (.aload_n 0, 1) := by decide +kernel
theorem dX1_readPersons_81 : decode cX1_readPersons 81 = .ok (.getfield 24, 3) := by decide +kernel
theorem dX1_readPersons_84 : decode cX1_readPersons 84 = .ok (.iload 5, 2) := by decide +kernel
theorem dX1_readPersons_86 : decode cX1_readPersons 86 = .ok (.iastore, 1) := by decide +kernel
theorem dX1_readPersons_87 : decode cX1_readPersons 87 = .ok (.aload_n 0, 1) := by decide +kernel
theorem dX1_readPersons_88 : decode cX1_readPersons 88 = .ok (.dup, 1) := by decide +kernel
theorem dX1_readPersons_89 : decode cX1_readPersons 89 = .ok (.getfield 28, 3) := by decide +kernel
theorem dX1_readPersons_92 : decode cX1_readPersons 92 = .ok (.iload 6, 2) := by decide +kernel
theorem dX1_readPersons_94 : decode cX1_readPersons 94 = .ok (.aload_n 0, 1) := by decide +kernel
theorem dX1_readPersons_95 : decode cX1_readPersons 95 = .ok (.getfield 24, 3) := by decide +kernel
theorem dX1_readPersons_98 : decode cX1_readPersons 98 = .ok (.ishl, 1) := by decide +kernel
theorem dX1_readPersons_99 : decode cX1_readPersons 99 = .ok (.ior, 1) := by decide +kernel
theorem dX1_readPersons_100 : decode cX1_readPersons 100 = .ok (.putfield 28, 3) := by decide +kernel
theorem dX1_readPersons_103 : decode cX1_readPersons 103 = .ok (.aload_n 0, 1) := by decide +kernel
theorem dX1_readPersons_104 : decode cX1_readPersons 104 = .ok (.dup, 1) := by decide +kernel
theorem dX1_readPersons_105 : decode cX1_readPersons 105 = .ok (.getfield 24, 3) := by decide +kernel
theorem dX1_readPersons_108 : decode cX1_readPersons 108 = .ok (.iconst 1, 1) := by decide +kernel
theorem dX1_readPersons_109 : decode cX1_readPersons 109 = .ok (.iadd, 1) := by decide +kernel
theorem dX1_readPersons_110 : decode cX1_readPersons 110 = .ok (.putfield 24, 3) := by decide +kernel
theorem dX1_readPersons_113 : decode cX1_readPersons 113 = .ok (.iinc 4 2, 3) := by decide +kernel
theorem dX1_readPersons_116 : decode cX1_readPersons 116 = .ok (.goto (-113), 3) := by decide +kernel
theorem dX1_readPersons_119 : decode cX1_readPersons 119 = .ok (.iconst (-1), 1) := by decide +kernel
theorem dX1_readPersons_120 : decode cX1_readPersons 120 = .ok (.ireturn, 1) := by decide +kernel
set_option maxRecDepth 20000 in
theorem ggX1_readWays_X1_codeAt : GoodIn wsX1_readWays wsX1_codeAt := goodIn_r _ [9, 10, 21, 22, 23] (by decide +kernel) (by decide +kernel)
set_option maxRecDepth 20000 in
theorem gX1_readWays_X1_codeAt : GoodIn wsX1_readWays (va_wsS RX1 38 yX1_codeAt wsX1_codeAt) := goodIn_app (goodIn_of _ (by decide +kernel)) ggX1_readWays_X1_codeAt
set_option maxRecDepth 20000 in
theorem ggX1_readWays_X1_digitOf : GoodIn wsX1_readWays wsX1_digitOf := goodIn_r _ [13] (by decide +kernel) (by decide +kernel)
set_option maxRecDepth 20000 in
theorem gX1_readWays_X1_digitOf : GoodIn wsX1_readWays (va_wsS RX1 53 yX1_digitOf wsX1_digitOf) := goodIn_app (goodIn_of _ (by decide +kernel)) ggX1_readWays_X1_digitOf
theorem dX1_readWays_0 : decode cX1_readWays 0 = .ok (.iconst 1, 1) := by decide +kernel
theorem dX1_readWays_1 : decode cX1_readWays 1 = .ok (.iconst 2, 1) := by decide +kernel
theorem dX1_readWays_2 : decode cX1_readWays 2 = .ok (.aload_n 0, 1) := by decide +kernel
theorem dX1_readWays_3 : decode cX1_readWays 3 = .ok (.getfield 24, 3) := by decide +kernel
theorem dX1_readWays_6 : decode cX1_readWays 6 = .ok (.imul, 1) := by decide +kernel
theorem dX1_readWays_7 : decode cX1_readWays 7 = .ok (.iadd, 1) := by decide +kernel
theorem dX1_readWays_8 : decode cX1_readWays 8 = .ok (.istore 4, 2) := by decide +kernel
theorem dX1_readWays_10 : decode cX1_readWays 10 = .ok (.aload_n 0, 1) := by decide +kernel
theorem dX1_readWays_11 : decode cX1_readWays 11 = .ok (.getfield 31, 3) := by decide +kernel
theorem dX1_readWays_14 : decode cX1_readWays 14 = .ok (.bipush 9, 2) := by decide +kernel
theorem dX1_readWays_16 : decode cX1_readWays 16 = .ok (.if_icmp .ge 172, 3) := by decide +kernel
theorem dX1_readWays_19 : decode cX1_readWays 19 = .ok (.aload_n 1, 1) := by decide +kernel
theorem dX1_readWays_20 : decode cX1_readWays 20 = .ok (.iload_n 2, 1) := by decide +kernel
theorem dX1_readWays_21 : decode cX1_readWays 21 = .ok (.iload_n 3, 1) := by decide +kernel
theorem dX1_readWays_22 : decode cX1_readWays 22 = .ok (.iload 4, 2) := by decide +kernel
theorem dX1_readWays_24 : decode cX1_readWays 24 = .ok (.invokestatic 38, 3) := by decide +kernel
theorem dX1_readWays_27 : decode cX1_readWays 27 = .ok (.bipush 59, 2) := by decide +kernel
theorem dX1_readWays_29 : decode cX1_readWays 29 = .ok (.if_icmp .ne 159, 3) := by decide +kernel
theorem dX1_readWays_32 : decode cX1_readWays 32 = .ok (.aload_n 0, 1) := by decide +kernel
theorem dX1_readWays_33 : decode cX1_readWays 33 = .ok (.getfield 15, 3) := by decide +kernel
theorem dX1_readWays_36 : decode cX1_readWays 36 = .ok (.aload_n 0, 1) := by decide +kernel
theorem dX1_readWays_37 : decode cX1_readWays 37 = .ok (.getfield 31, 3) := by decide +kernel
theorem dX1_readWays_40 : decode cX1_readWays 40 = .ok (.aload_n 1, 1) := by decide +kernel
theorem dX1_readWays_41 : decode cX1_readWays 41 = .ok (.iload_n 2, 1) := by decide +kernel
theorem dX1_readWays_42 : decode cX1_readWays 42 = .ok (.iload_n 3, 1) := by decide +kernel
theorem dX1_readWays_43 : decode cX1_readWays 43 = .ok (.iload 4, 2) := by decide +kernel
theorem dX1_readWays_45 : decode cX1_readWays 45 = .ok (.iconst 1, 1) := by decide +kernel
theorem dX1_readWays_46 : decode cX1_readWays 46 = .ok (.iadd, 1) := by decide +kernel
theorem dX1_readWays_47 : decode cX1_readWays 47 = .ok (.invokestatic 38, 3) := by decide +kernel
theorem dX1_readWays_50 : decode cX1_readWays 50 = .ok (.iconst 0, 1) := by decide +kernel
theorem dX1_readWays_51 : decode cX1_readWays 51 = .ok (.aload_n 0, 1) := by decide +kernel
theorem dX1_readWays_52 : decode cX1_readWays 52 = .ok (.getfield 24, 3) := by decide +kernel
theorem dX1_readWays_55 : decode cX1_readWays 55 = .ok (.iconst 1, 1) := by decide +kernel
theorem dX1_readWays_56 : decode cX1_readWays 56 = .ok (.isub, 1) := by decide +kernel
theorem dX1_readWays_57 : decode cX1_readWays 57 = .ok (.invokestatic 53, 3) := by decide +kernel
theorem dX1_readWays_60 : decode cX1_readWays 60 = .ok (.iastore, 1) := by decide +kernel
theorem dX1_readWays_61 : decode cX1_readWays 61 = .ok (.aload_n 0, 1) := by decide +kernel
theorem dX1_readWays_62 : decode cX1_readWays 62 = .ok (.getfield 18, 3) := by decide +kernel
theorem dX1_readWays_65 : decode cX1_readWays 65 = .ok (.aload_n 0, 1) := by decide +kernel
theorem dX1_readWays_66 : decode cX1_readWays 66 = .ok (.getfield 31, 3) := by decide +kernel
theorem dX1_readWays_69 : decode cX1_readWays 69 = .ok (.aload_n 1, 1) := by decide +kernel
theorem dX1_readWays_70 : decode cX1_readWays 70 = .ok (.iload_n 2, 1) := by decide +kernel
theorem dX1_readWays_71 : decode cX1_readWays 71 = .ok (.iload_n 3, 1) := by decide +kernel
theorem dX1_readWays_72 : decode cX1_readWays 72 = .ok (.iload 4, 2) := by decide +kernel
theorem dX1_readWays_74 : decode cX1_readWays 74 = .ok (.iconst 2, 1) := by decide +kernel
theorem dX1_readWays_75 : decode cX1_readWays 75 = .ok (.iadd, 1) := by decide +kernel
theorem dX1_readWays_76 : decode cX1_readWays 76 = .ok (.invokestatic 38, 3) := by decide +kernel
theorem dX1_readWays_79 : decode cX1_readWays 79 = .ok (.iconst 0, 1) := by decide +kernel
theorem dX1_readWays_80 : decode cX1_readWays 80 = .ok (.aload_n 0, 1) := by decide +kernel
theorem dX1_readWays_81 : decode cX1_readWays 81 = .ok (.getfield 24, 3) := by decide +kernel
theorem dX1_readWays_84 : decode cX1_readWays 84 = .ok (.iconst 1, 1) := by decide +kernel
theorem dX1_readWays_85 : decode cX1_readWays 85 = .ok (.isub, 1) := by decide +kernel
theorem dX1_readWays_86 : decode cX1_readWays 86 = .ok (.invokestatic 53, 3) := by decide +kernel
theorem dX1_readWays_89 : decode cX1_readWays 89 = .ok (.iastore, 1) := by decide +kernel
theorem dX1_readWays_90 : decode cX1_readWays 90 = .ok (.aload_n 0, 1) := by decide +kernel
theorem dX1_readWays_91 : decode cX1_readWays 91 = .ok (.getfield 21, 3) := by decide +kernel
theorem dX1_readWays_94 : decode cX1_readWays 94 = .ok (.aload_n 0, 1) := by decide +kernel
theorem dX1_readWays_95 : decode cX1_readWays 95 = .ok (.getfield 31, 3) := by decide +kernel
theorem dX1_readWays_98 : decode cX1_readWays 98 = .ok (.aload_n 1, 1) := by decide +kernel
theorem dX1_readWays_99 : decode cX1_readWays 99 = .ok (.iload_n 2, 1) := by decide +kernel
theorem dX1_readWays_100 : decode cX1_readWays 100 = .ok (.iload_n 3, 1) := by decide +kernel
theorem dX1_readWays_101 : decode cX1_readWays 101 = .ok (.iload 4, 2) := by decide +kernel
theorem dX1_readWays_103 : decode cX1_readWays 103 = .ok (.iconst 3, 1) := by decide +kernel
theorem dX1_readWays_104 : decode cX1_readWays 104 = .ok (.iadd, 1) := by decide +kernel
theorem dX1_readWays_105 : decode cX1_readWays 105 = .ok (.invokestatic 38, 3) := by decide +kernel
theorem dX1_readWays_108 : decode cX1_readWays 108 = .ok (.iconst 1, 1) := by decide +kernel
theorem dX1_readWays_109 : decode cX1_readWays 109 = .ok (.bipush 9, 2) := by decide +kernel
theorem dX1_readWays_111 : decode cX1_readWays 111 = .ok (.invokestatic 53, 3) := by decide +kernel
theorem dX1_readWays_114 : decode cX1_readWays 114 = .ok (.iastore, 1) := by decide +kernel
theorem dX1_readWays_115 : decode cX1_readWays 115 = .ok (.aload_n 0, 1) := by decide +kernel
theorem dX1_readWays_116 : decode cX1_readWays 116 = .ok (.getfield 15, 3) := by decide +kernel
theorem dX1_readWays_119 : decode cX1_readWays 119 = .ok (.aload_n 0, 1) := by decide +kernel
theorem dX1_readWays_120 : decode cX1_readWays 120 = .ok (.getfield 31, 3) := by decide +kernel
theorem dX1_readWays_123 : decode cX1_readWays 123 = .ok (.iaload, 1) := by decide +kernel
theorem dX1_readWays_124 : decode cX1_readWays 124 = .ok (.bipush (-9), 2) := by decide +kernel
theorem dX1_readWays_126 : decode cX1_readWays 126 = .ok (.if_icmp .ne 8, 3) := by decide +kernel
theorem dX1_readWays_129 : decode cX1_readWays 129 = .ok (.iload 4, 2) := by decide +kernel
theorem dX1_readWays_131 : decode cX1_readWays 131 = .ok (.iconst 1, 1) := by decide +kernel
theorem dX1_readWays_132 : decode cX1_readWays 132 = .ok (.iadd, 1) := by decide +kernel
theorem dX1_readWays_133 : decode cX1_readWays 133 = .ok (.ireturn, 1) := by decide +kernel
theorem dX1_readWays_134 : decode cX1_readWays 134 = .ok (.aload_n 0, 1) := by decide +kernel
theorem dX1_readWays_135 : decode cX1_readWays 135 = .ok (.getfield 18, 3) := by decide +kernel
theorem dX1_readWays_138 : decode cX1_readWays 138 = .ok (.aload_n 0, 1) := by decide +kernel
theorem dX1_readWays_139 : decode cX1_readWays 139 = .ok (.getfield 31, 3) := by decide +kernel
theorem dX1_readWays_142 : decode cX1_readWays 142 = .ok (.iaload, 1) := by decide +kernel
theorem dX1_readWays_143 : decode cX1_readWays 143 = .ok (.bipush (-9), 2) := by decide +kernel
theorem dX1_readWays_145 : decode cX1_readWays 145 = .ok (.if_icmp .ne 8, 3) := by decide +kernel
theorem dX1_readWays_148 : decode cX1_readWays 148 = .ok (.iload 4, 2) := by decide +kernel
theorem dX1_readWays_150 : decode cX1_readWays 150 = .ok (.iconst 2, 1) := by decide +kernel
theorem dX1_readWays_151 : decode cX1_readWays 151 = .ok (.iadd, 1) := by decide +kernel
theorem dX1_readWays_152 : decode cX1_readWays 152 = .ok (.ireturn, 1) := by decide +kernel
theorem dX1_readWays_153 : decode cX1_readWays 153 = .ok (.aload_n 0, 1) := by decide +kernel
theorem dX1_readWays_154 : decode cX1_readWays 154 = .ok (.getfield 21, 3) := by decide +kernel
theorem dX1_readWays_157 : decode cX1_readWays 157 = .ok (.aload_n 0, 1) := by decide +kernel
theorem dX1_readWays_158 : decode cX1_readWays 158 = .ok (.getfield 31, 3) := by decide +kernel
theorem dX1_readWays_161 : decode cX1_readWays 161 = .ok (.iaload, 1) := by decide +kernel
theorem dX1_readWays_162 : decode cX1_readWays 162 = .ok (.bipush (-9), 2) := by decide +kernel
theorem dX1_readWays_164 : decode cX1_readWays 164 = .ok (.if_icmp .ne 8, 3) := by decide +kernel
theorem dX1_readWays_167 : decode cX1_readWays 167 = .ok (.iload 4, 2) := by decide +kernel
theorem dX1_readWays_169 : decode cX1_readWays 169 = .ok (.iconst 3, 1) := by decide +kernel
theorem dX1_readWays_170 : decode cX1_readWays 170 = .ok (.iadd, 1) := by decide +kernel
theorem dX1_readWays_171 : decode cX1_readWays 171 = .ok (.ireturn, 1) := by decide +kernel
theorem dX1_readWays_172 : decode cX1_readWays 172 = .ok (.aload_n 0, 1) := by decide +kernel
theorem dX1_readWays_173 : decode cX1_readWays 173 = .ok (.dup, 1) := by decide +kernel
theorem dX1_readWays_174 : decode cX1_readWays 174 = .ok (.getfield 31, 3) := by decide +kernel
theorem dX1_readWays_177 : decode cX1_readWays 177 = .ok (.iconst 1, 1) := by decide +kernel
theorem dX1_readWays_178 : decode cX1_readWays 178 = .ok (.iadd, 1) := by decide +kernel
theorem dX1_readWays_179 : decode cX1_readWays 179 = .ok (.putfield 31, 3) := by decide +kernel
theorem dX1_readWays_182 : decode cX1_readWays 182 = .ok (.iinc 4 4, 3) := by decide +kernel
theorem dX1_readWays_185 : decode cX1_readWays 185 = .ok (.goto (-175), 3) := by decide +kernel
theorem dX1_readWays_188 : decode cX1_readWays 188 = .ok (.iload 4, 2) := by decide +kernel
theorem dX1_readWays_190 : decode cX1_readWays 190 = .ok (.iload_n 3, 1) := by decide +kernel
theorem dX1_readWays_191 : decode cX1_readWays 191 = .ok (.if_icmp .ne 7, 3) := by decide +kernel
theorem dX1_readWays_194 : decode cX1_readWays 194 = .ok (.iconst (-1), 1) := by decide +kernel
theorem dX1_readWays_195 : decode cX1_readWays 195 = .ok (.goto 5, 3) := by decide +kernel
theorem dX1_readWays_198 : decode cX1_readWays 198 = .ok (.iload 4, 2) := by decide +kernel
theorem dX1_readWays_200 : decode cX1_readWays 200 = .ok (.ireturn, 1) := by decide +kernel
theorem dX1_codeAt_0 : decode cX1_codeAt 0 = .ok (.iload_n 3, 1) := by decide +kernel
theorem dX1_codeAt_1 : decode cX1_codeAt 1 = .ok (.iload_n 2, 1) := by decide +kernel
theorem dX1_codeAt_2 : decode cX1_codeAt 2 = .ok (.if_icmp .ge 14, 3) := by decide +kernel
theorem dX1_codeAt_5 : decode cX1_codeAt 5 = .ok (.aload_n 0, 1) := by decide +kernel
theorem dX1_codeAt_6 : decode cX1_codeAt 6 = .ok (.getfield 57, 3) := by decide +kernel
theorem dX1_codeAt_9 : decode cX1_codeAt 9 = .ok (.iload_n 1, 1) := by decide +kernel
theorem dX1_codeAt_10 : decode cX1_codeAt 10 = .ok (.iload_n 3, 1) := by decide +kernel
theorem dX1_codeAt_11 : decode cX1_codeAt 11 = .ok (.iadd, 1) := by decide +kernel
theorem dX1_codeAt_12 : decode cX1_codeAt 12 = .ok (.iaload, 1) := by decide +kernel
theorem dX1_codeAt_13 : decode cX1_codeAt 13 = .ok (.goto 4, 3) := by decide +kernel
theorem dX1_codeAt_16 : decode cX1_codeAt 16 = .ok (.iconst 0, 1) := by decide +kernel
theorem dX1_codeAt_17 : decode cX1_codeAt 17 = .ok (.ireturn, 1) := by decide +kernel
theorem dX1_kindOf_0 : decode cX1_kindOf 0 = .ok (.iload_n 0, 1) := by decide +kernel
theorem dX1_kindOf_1 : decode cX1_kindOf 1 = .ok (.lookupswitch 41 #[(106, 37), (108, 39), (116, 35)], 35) := by decide +kernel
theorem dX1_kindOf_36 : decode cX1_kindOf 36 = .ok (.iconst 0, 1) := by decide +kernel
theorem dX1_kindOf_37 : decode cX1_kindOf 37 = .ok (.ireturn, 1) := by decide +kernel
theorem dX1_kindOf_38 : decode cX1_kindOf 38 = .ok (.iconst 1, 1) := by decide +kernel
theorem dX1_kindOf_39 : decode cX1_kindOf 39 = .ok (.ireturn, 1) := by decide +kernel
theorem dX1_kindOf_40 : decode cX1_kindOf 40 = .ok (.iconst 2, 1) := by decide +kernel
theorem dX1_kindOf_41 : decode cX1_kindOf 41 = .ok (.ireturn, 1) := by decide +kernel
theorem dX1_kindOf_42 : decode cX1_kindOf 42 = .ok (.bipush (-9), 2) := by decide +kernel
theorem dX1_kindOf_44 : decode cX1_kindOf 44 = .ok (.ireturn, 1) := by decide +kernel
theorem dX1_digitOf_0 : decode cX1_digitOf 0 = .ok (.iload_n 0, 1) := by decide +kernel
theorem dX1_digitOf_1 : decode cX1_digitOf 1 = .ok (.bipush 48, 2) := by decide +kernel
theorem dX1_digitOf_3 : decode cX1_digitOf 3 = .ok (.iload_n 1, 1) := by decide +kernel
theorem dX1_digitOf_4 : decode cX1_digitOf 4 = .ok (.iadd, 1) := by decide +kernel
theorem dX1_digitOf_5 : decode cX1_digitOf 5 = .ok (.if_icmp .lt 18, 3) := by decide +kernel
theorem dX1_digitOf_8 : decode cX1_digitOf 8 = .ok (.iload_n 0, 1) := by decide +kernel
theorem dX1_digitOf_9 : decode cX1_digitOf 9 = .ok (.bipush 48, 2) := by decide +kernel
theorem dX1_digitOf_11 : decode cX1_digitOf 11 = .ok (.iload_n 2, 1) := by decide +kernel
theorem dX1_digitOf_12 : decode cX1_digitOf 12 = .ok (.iadd, 1) := by decide +kernel
theorem dX1_digitOf_13 : decode cX1_digitOf 13 = .ok (.if_icmp .gt 10, 3) := by decide +kernel
theorem dX1_digitOf_16 : decode cX1_digitOf 16 = .ok (.iload_n 0, 1) := by decide +kernel
theorem dX1_digitOf_17 : decode cX1_digitOf 17 = .ok (.bipush 48, 2) := by decide +kernel
theorem dX1_digitOf_19 : decode cX1_digitOf 19 = .ok (.isub, 1) := by decide +kernel
theorem dX1_digitOf_20 : decode cX1_digitOf 20 = .ok (.goto 5, 3) := by decide +kernel
theorem dX1_digitOf_23 : decode cX1_digitOf 23 = .ok (.bipush (-9), 2) := by decide +kernel
theorem dX1_digitOf_25 : decode cX1_digitOf 25 = .ok (.ireturn, 1) := by decide +kernel
theorem dX2_init_0 : decode cX2_init 0 = .ok (.aload_n 0, 1) := by decide +kernel
theorem dX2_init_1 : decode cX2_init 1 = .ok (.invokespecial 3, 3) := by decide +kernel
theorem dX2_init_4 : decode cX2_init 4 = .ok (.aload_n 0, 1) := by decide +kernel
theorem dX2_init_5 : decode cX2_init 5 = .ok (.bipush 60, 2) := by decide +kernel
theorem dX2_init_7 : decode cX2_init 7 = .ok (.newarray .int, 2) := by decide +kernel
theorem dX2_init_9 : decode cX2_init 9 = .ok (.putfield 9, 3) := by decide +kernel
theorem dX2_init_12 : decode cX2_init 12 = .ok (.aload_n 0, 1) := by decide +kernel
theorem dX2_init_13 : decode cX2_init 13 = .ok (.iconst (-1), 1) := by decide +kernel
theorem dX2_init_14 : decode cX2_init 14 = .ok (.putfield 15, 3) := by decide +kernel
theorem dX2_init_17 : decode cX2_init 17 = .ok (.aload_n 0, 1) := by decide +kernel
theorem dX2_init_18 : decode cX2_init 18 = .ok (.iconst 0, 1) := by decide +kernel
theorem dX2_init_19 : decode cX2_init 19 = .ok (.putfield 19, 3) := by decide +kernel
theorem dX2_init_22 : decode cX2_init 22 = .ok (.return_, 1) := by decide +kernel
theorem dX2_hasNothing_0 : decode cX2_hasNothing 0 = .ok (.aload_n 0, 1) := by decide +kernel
theorem dX2_hasNothing_1 : decode cX2_hasNothing 1 = .ok (.getfield 15, 3) := by decide +kernel
theorem dX2_hasNothing_4 : decode cX2_hasNothing 4 = .ok (.iconst (-1), 1) := by decide +kernel
theorem dX2_hasNothing_5 : decode cX2_hasNothing 5 = .ok (.if_icmp .ne 7, 3) := by decide +kernel
theorem dX2_hasNothing_8 : decode cX2_hasNothing 8 = .ok (.iconst 1, 1) := by decide +kernel
theorem dX2_hasNothing_9 : decode cX2_hasNothing 9 = .ok (.goto 4, 3) := by decide +kernel
theorem dX2_hasNothing_12 : decode cX2_hasNothing 12 = .ok (.iconst 0, 1) := by decide +kernel
theorem dX2_hasNothing_13 : decode cX2_hasNothing 13 = .ok (.ireturn, 1) := by decide +kernel
theorem dX2_empty_0 : decode cX2_empty 0 = .ok (.aload_n 0, 1) := by decide +kernel
theorem dX2_empty_1 : decode cX2_empty 1 = .ok (.iconst (-1), 1) := by decide +kernel
theorem dX2_empty_2 : decode cX2_empty 2 = .ok (.putfield 15, 3) := by decide +kernel
theorem dX2_empty_5 : decode cX2_empty 5 = .ok (.aload_n 0, 1) := by decide +kernel
theorem dX2_empty_6 : decode cX2_empty 6 = .ok (.iconst 0, 1) := by decide +kernel
theorem dX2_empty_7 : decode cX2_empty 7 = .ok (.putfield 19, 3) := by decide +kernel
theorem dX2_empty_10 : decode cX2_empty 10 = .ok (.return_, 1) := by decide +kernel
set_option maxRecDepth 20000 in
theorem ggX2_renew_J7_fill_53178 : GoodIn wsX2_renew wsJ7_fill_53178 := goodIn_r _ [7] (by decide +kernel) (by decide +kernel)
set_option maxRecDepth 20000 in
theorem gX2_renew_J7_fill_53178 : GoodIn wsX2_renew (va_wsS RX2 22 yJ7_fill_53178 wsJ7_fill_53178) := goodIn_app (goodIn_of _ (by decide +kernel)) ggX2_renew_J7_fill_53178
theorem dX2_renew_0 : decode cX2_renew 0 = .ok (.aload_n 0, 1) := by decide +kernel
theorem dX2_renew_1 : decode cX2_renew 1 = .ok (.iload_n 1, 1) := by decide +kernel
theorem dX2_renew_2 : decode cX2_renew 2 = .ok (.putfield 15, 3) := by decide +kernel
theorem dX2_renew_5 : decode cX2_renew 5 = .ok (.aload_n 0, 1) := by decide +kernel
theorem dX2_renew_6 : decode cX2_renew 6 = .ok (.iload_n 2, 1) := by decide +kernel
theorem dX2_renew_7 : decode cX2_renew 7 = .ok (.putfield 19, 3) := by decide +kernel
theorem dX2_renew_10 : decode cX2_renew 10 = .ok (.aload_n 0, 1) := by decide +kernel
theorem dX2_renew_11 : decode cX2_renew 11 = .ok (.getfield 9, 3) := by decide +kernel
theorem dX2_renew_14 : decode cX2_renew 14 = .ok (.iconst 0, 1) := by decide +kernel
theorem dX2_renew_15 : decode cX2_renew 15 = .ok (.invokestatic 22, 3) := by decide +kernel
theorem dX2_renew_18 : decode cX2_renew 18 = .ok (.return_, 1) := by decide +kernel
theorem dX2_write_0 : decode cX2_write 0 = .ok (.aload_n 0, 1) := by decide +kernel
theorem dX2_write_1 : decode cX2_write 1 = .ok (.getfield 9, 3) := by decide +kernel
theorem dX2_write_4 : decode cX2_write 4 = .ok (.iload_n 1, 1) := by decide +kernel
theorem dX2_write_5 : decode cX2_write 5 = .ok (.aload_n 0, 1) := by decide +kernel
theorem dX2_write_6 : decode cX2_write 6 = .ok (.getfield 15, 3) := by decide +kernel
theorem dX2_write_9 : decode cX2_write 9 = .ok (.ifCond .ne 8, 3) := by decide +kernel
theorem dX2_write_12 : decode cX2_write 12 = .ok (.iload_n 2, 1) := by decide +kernel
theorem dX2_write_13 : decode cX2_write 13 = .ok (.i2b, 1) := by decide +kernel
theorem dX2_write_14 : decode cX2_write 14 = .ok (.goto 17, 3) := by decide +kernel
theorem dX2_write_17 : decode cX2_write 17 = .ok (.aload_n 0, 1) := by decide +kernel
theorem dX2_write_18 : decode cX2_write 18 = .ok (.getfield 15, 3) := by decide +kernel
theorem dX2_write_21 : decode cX2_write 21 = .ok (.iconst 1, 1) := by decide +kernel
theorem dX2_write_22 : decode cX2_write 22 = .ok (.if_icmp .ne 8, 3) := by decide +kernel
theorem dX2_write_25 : decode cX2_write 25 = .ok (.iload_n 2, 1) := by decide +kernel
theorem dX2_write_26 : decode cX2_write 26 = .ok (.i2s, 1) := by decide +kernel
theorem dX2_write_27 : decode cX2_write 27 = .ok (.goto 4, 3) := by decide +kernel
theorem dX2_write_30 : decode cX2_write 30 = .ok (.iload_n 2, 1) := by decide +kernel
theorem dX2_write_31 : decode cX2_write 31 = .ok (.iastore, 1) := by decide +kernel
theorem dX2_write_32 : decode cX2_write 32 = .ok (.return_, 1) := by decide +kernel
theorem dX2_hasCells_0 : decode cX2_hasCells 0 = .ok (.iload_n 1, 1) := by decide +kernel
theorem dX2_hasCells_1 : decode cX2_hasCells 1 = .ok (.ifCond .lt 25, 3) := by decide +kernel
theorem dX2_hasCells_4 : decode cX2_hasCells 4 = .ok (.iload_n 1, 1) := by decide +kernel
theorem dX2_hasCells_5 : decode cX2_hasCells 5 = .ok (.aload_n 0, 1) := by decide +kernel
theorem dX2_hasCells_6 : decode cX2_hasCells 6 = .ok (.getfield 19, 3) := by decide +kernel
theorem dX2_hasCells_9 : decode cX2_hasCells 9 = .ok (.if_icmp .gt 17, 3) := by decide +kernel
theorem dX2_hasCells_12 : decode cX2_hasCells 12 = .ok (.iload_n 2, 1) := by decide +kernel
theorem dX2_hasCells_13 : decode cX2_hasCells 13 = .ok (.aload_n 0, 1) := by decide +kernel
theorem dX2_hasCells_14 : decode cX2_hasCells 14 = .ok (.getfield 19, 3) := by decide +kernel
theorem dX2_hasCells_17 : decode cX2_hasCells 17 = .ok (.iload_n 1, 1) := by decide +kernel
theorem dX2_hasCells_18 : decode cX2_hasCells 18 = .ok (.isub, 1) := by decide +kernel
theorem dX2_hasCells_19 : decode cX2_hasCells 19 = .ok (.if_icmp .gt 7, 3) := by decide +kernel
theorem dX2_hasCells_22 : decode cX2_hasCells 22 = .ok (.iconst 1, 1) := by decide +kernel
theorem dX2_hasCells_23 : decode cX2_hasCells 23 = .ok (.goto 4, 3) := by decide +kernel
theorem dX2_hasCells_26 : decode cX2_hasCells 26 = .ok (.iconst 0, 1) := by decide +kernel
theorem dX2_hasCells_27 : decode cX2_hasCells 27 = .ok (.ireturn, 1) := by decide +kernel
set_option maxRecDepth 20000 in
theorem ggX2_faultOfRow_X2_hasNothing : GoodIn wsX2_faultOfRow wsX2_hasNothing := goodIn_r _ [6, 1, 7, 8, 9] (by decide +kernel) (by decide +kernel)
set_option maxRecDepth 20000 in
theorem gX2_faultOfRow_X2_hasNothing : GoodIn wsX2_faultOfRow (wsV RX2 28 RX2 yX2_hasNothing wsX2_hasNothing) := goodIn_app (goodIn_of _ (by decide +kernel)) ggX2_faultOfRow_X2_hasNothing
theorem dX2_faultOfRow_0 : decode cX2_faultOfRow 0 = .ok (.aload_n 0, 1) := by decide +kernel
theorem dX2_faultOfRow_1 : decode cX2_faultOfRow 1 = .ok (.invokevirtual 28, 3) := by decide +kernel
theorem dX2_faultOfRow_4 : decode cX2_faultOfRow 4 = .ok (.ifCond .eq 5, 3) := by decide +kernel
theorem dX2_faultOfRow_7 : decode cX2_faultOfRow 7 = .ok (.iconst 1, 1) := by decide +kernel
theorem dX2_faultOfRow_8 : decode cX2_faultOfRow 8 = .ok (.ireturn, 1) := by decide +kernel
theorem dX2_faultOfRow_9 : decode cX2_faultOfRow 9 = .ok (.aload_n 0, 1) := by decide +kernel
theorem dX2_faultOfRow_10 : decode cX2_faultOfRow 10 = .ok (.getfield 15, 3) := by decide +kernel
theorem dX2_faultOfRow_13 : decode cX2_faultOfRow 13 = .ok (.iload_n 1, 1) := by decide +kernel
theorem dX2_faultOfRow_14 : decode cX2_faultOfRow 14 = .ok (.if_icmp .ne 7, 3) := by decide +kernel
theorem dX2_faultOfRow_17 : decode cX2_faultOfRow 17 = .ok (.iconst 0, 1) := by decide +kernel
theorem dX2_faultOfRow_18 : decode cX2_faultOfRow 18 = .ok (.goto 4, 3) := by decide +kernel
theorem dX2_faultOfRow_21 : decode cX2_faultOfRow 21 = .ok (.iconst 2, 1) := by decide +kernel
theorem dX2_faultOfRow_22 : decode cX2_faultOfRow 22 = .ok (.ireturn, 1) := by decide +kernel
set_option maxRecDepth 20000 in
theorem ggX2_faultOfCells_X2_faultOfRow : GoodIn wsX2_faultOfCells wsX2_faultOfRow := goodIn_r _ [5, 6, 7, 8, 9, 4, 10, 16, 17, 18] (by decide +kernel) (by decide +kernel)
set_option maxRecDepth 20000 in
theorem gX2_faultOfCells_X2_faultOfRow : GoodIn wsX2_faultOfCells (wsV RX2 32 RX2 yX2_faultOfRow wsX2_faultOfRow) := goodIn_app (goodIn_of _ (by decide +kernel)) ggX2_faultOfCells_X2_faultOfRow
set_option maxRecDepth 20000 in
theorem ggX2_faultOfCells_X2_hasCells : GoodIn wsX2_faultOfCells wsX2_hasCells := goodIn_r _ [14, 15, 16, 17, 18] (by decide +kernel) (by decide +kernel)
set_option maxRecDepth 20000 in
theorem gX2_faultOfCells_X2_hasCells : GoodIn wsX2_faultOfCells (wsV RX2 36 RX2 yX2_hasCells wsX2_hasCells) := goodIn_app (goodIn_of _ (by decide +kernel)) ggX2_faultOfCells_X2_hasCells
theorem dX2_faultOfCells_0 : decode cX2_faultOfCells 0 = .ok (.aload_n 0, 1) := by decide +kernel
theorem dX2_faultOfCells_1 : decode cX2_faultOfCells 1 = .ok (.iload_n 1, 1) := by decide +kernel
theorem dX2_faultOfCells_2 : decode cX2_faultOfCells 2 = .ok (.invokevirtual 32, 3) := by decide +kernel
theorem dX2_faultOfCells_5 : decode cX2_faultOfCells 5 = .ok (.istore 4, 2) := by decide +kernel
theorem dX2_faultOfCells_7 : decode cX2_faultOfCells 7 = .ok (.iload 4, 2) := by decide +kernel
theorem dX2_faultOfCells_9 : decode cX2_faultOfCells 9 = .ok (.ifCond .eq 6, 3) := by decide +kernel
theorem dX2_faultOfCells_12 : decode cX2_faultOfCells 12 = .ok (.iload 4, 2) := by decide +kernel
theorem dX2_faultOfCells_14 : decode cX2_faultOfCells 14 = .ok (.ireturn, 1) := by decide +kernel
theorem dX2_faultOfCells_15 : decode cX2_faultOfCells 15 = .ok (.iload_n 3, 1) := by decide +kernel
theorem dX2_faultOfCells_16 : decode cX2_faultOfCells 16 = .ok (.ifCond .ge 5, 3) := by decide +kernel
theorem dX2_faultOfCells_19 : decode cX2_faultOfCells 19 = .ok (.iconst 4, 1) := by decide +kernel
theorem dX2_faultOfCells_20 : decode cX2_faultOfCells 20 = .ok (.ireturn, 1) := by decide +kernel
theorem dX2_faultOfCells_21 : decode cX2_faultOfCells 21 = .ok (.aload_n 0, 1) := by decide +kernel
theorem dX2_faultOfCells_22 : decode cX2_faultOfCells 22 = .ok (.iload_n 2, 1) := by decide +kernel
theorem dX2_faultOfCells_23 : decode cX2_faultOfCells 23 = .ok (.iload_n 3, 1) := by decide +kernel
theorem dX2_faultOfCells_24 : decode cX2_faultOfCells 24 = .ok (.invokevirtual 36, 3) := by decide +kernel
theorem dX2_faultOfCells_27 : decode cX2_faultOfCells 27 = .ok (.ifCond .eq 7, 3) := by decide +kernel
theorem dX2_faultOfCells_30 : decode cX2_faultOfCells 30 = .ok (.iconst 0, 1) := by decide +kernel
theorem dX2_faultOfCells_31 : decode cX2_faultOfCells 31 = .ok (.goto 4, 3) := by decide +kernel
theorem dX2_faultOfCells_34 : decode cX2_faultOfCells 34 = .ok (.iconst 3, 1) := by decide +kernel
theorem dX2_faultOfCells_35 : decode cX2_faultOfCells 35 = .ok (.ireturn, 1) := by decide +kernel
theorem dX3_init_0 : decode cX3_init 0 = .ok (.aload_n 0, 1) := by decide +kernel
theorem dX3_init_1 : decode cX3_init 1 = .ok (.invokespecial 3, 3) := by decide +kernel
theorem dX3_init_4 : decode cX3_init 4 = .ok (.aload_n 0, 1) := by decide +kernel
theorem dX3_init_5 : decode cX3_init 5 = .ok (.sipush 360, 3) := by decide +kernel
theorem dX3_init_8 : decode cX3_init 8 = .ok (.newarray .long, 2) := by decide +kernel
theorem dX3_init_10 : decode cX3_init 10 = .ok (.putfield 9, 3) := by decide +kernel
theorem dX3_init_13 : decode cX3_init 13 = .ok (.return_, 1) := by decide +kernel
theorem dX3_rumour_0 : decode cX3_rumour 0 = .ok (.lconst 1, 1) := by decide +kernel
theorem dX3_rumour_1 : decode cX3_rumour 1 = .ok (.iload_n 0, 1) := by decide +kernel
theorem dX3_rumour_2 : decode cX3_rumour 2 = .ok (.bipush 15, 2) := by decide +kernel
theorem dX3_rumour_4 : decode cX3_rumour 4 = .ok (.imul, 1) := by decide +kernel
theorem dX3_rumour_5 : decode cX3_rumour 5 = .ok (.iload_n 1, 1) := by decide +kernel
theorem dX3_rumour_6 : decode cX3_rumour 6 = .ok (.iadd, 1) := by decide +kernel
theorem dX3_rumour_7 : decode cX3_rumour 7 = .ok (.lshl, 1) := by decide +kernel
theorem dX3_rumour_8 : decode cX3_rumour 8 = .ok (.lreturn, 1) := by decide +kernel
set_option maxRecDepth 20000 in
theorem ggX3_clear_J7_fill_d0a16 : GoodIn wsX3_clear wsJ7_fill_d0a16 := goodIn_r _ [5] (by decide +kernel) (by decide +kernel)
set_option maxRecDepth 20000 in
theorem gX3_clear_J7_fill_d0a16 : GoodIn wsX3_clear (va_wsS RX3 15 yJ7_fill_d0a16 wsJ7_fill_d0a16) := goodIn_app (goodIn_of _ (by decide +kernel)) ggX3_clear_J7_fill_d0a16
theorem dX3_clear_0 : decode cX3_clear 0 = .ok (.aload_n 0, 1) := by decide +kernel
theorem dX3_clear_1 : decode cX3_clear 1 = .ok (.getfield 9, 3) := by decide +kernel
theorem dX3_clear_4 : decode cX3_clear 4 = .ok (.lconst 0, 1) := by decide +kernel
theorem dX3_clear_5 : decode cX3_clear 5 = .ok (.invokestatic 15, 3) := by decide +kernel
theorem dX3_clear_8 : decode cX3_clear 8 = .ok (.return_, 1) := by decide +kernel
set_option maxRecDepth 20000 in
theorem ggX3_plant_X3_rumour : GoodIn wsX3_plant wsX3_rumour := goodIn_r _ [5] (by decide +kernel) (by decide +kernel)
set_option maxRecDepth 20000 in
theorem gX3_plant_X3_rumour : GoodIn wsX3_plant (va_wsS RX3 21 yX3_rumour wsX3_rumour) := goodIn_app (goodIn_of _ (by decide +kernel)) ggX3_plant_X3_rumour
theorem dX3_plant_0 : decode cX3_plant 0 = .ok (.aload_n 0, 1) := by decide +kernel
theorem dX3_plant_1 : decode cX3_plant 1 = .ok (.getfield 9, 3) := by decide +kernel
theorem dX3_plant_4 : decode cX3_plant 4 = .ok (.iload 4, 2) := by decide +kernel
theorem dX3_plant_6 : decode cX3_plant 6 = .ok (.bipush 6, 2) := by decide +kernel
theorem dX3_plant_8 : decode cX3_plant 8 = .ok (.imul, 1) := by decide +kernel
theorem dX3_plant_9 : decode cX3_plant 9 = .ok (.iload_n 1, 1) := by decide +kernel
theorem dX3_plant_10 : decode cX3_plant 10 = .ok (.iadd, 1) := by decide +kernel
theorem dX3_plant_11 : decode cX3_plant 11 = .ok (.dup2, 1) := by decide +kernel
theorem dX3_plant_12 : decode cX3_plant 12 = .ok (.laload, 1) := by decide +kernel
theorem dX3_plant_13 : decode cX3_plant 13 = .ok (.iload_n 2, 1) := by decide +kernel
theorem dX3_plant_14 : decode cX3_plant 14 = .ok (.iload_n 3, 1) := by decide +kernel
theorem dX3_plant_15 : decode cX3_plant 15 = .ok (.invokestatic 21, 3) := by decide +kernel
theorem dX3_plant_18 : decode cX3_plant 18 = .ok (.lor, 1) := by decide +kernel
theorem dX3_plant_19 : decode cX3_plant 19 = .ok (.lastore, 1) := by decide +kernel
theorem dX3_plant_20 : decode cX3_plant 20 = .ok (.return_, 1) := by decide +kernel
set_option maxRecDepth 20000 in
theorem ggX3_spread_X3_keepWhatWasHeard : GoodIn wsX3_spread wsX3_keepWhatWasHeard := goodIn_r _ [9, 3, 39] (by decide +kernel) (by decide +kernel)
set_option maxRecDepth 20000 in
theorem gX3_spread_X3_keepWhatWasHeard : GoodIn wsX3_spread (wsV RX3 25 RX3 yX3_keepWhatWasHeard wsX3_keepWhatWasHeard) := goodIn_app (goodIn_of _ (by decide +kernel)) ggX3_spread_X3_keepWhatWasHeard
set_option maxRecDepth 20000 in
theorem ggX3_spread_X3_broughtBy : GoodIn wsX3_spread wsX3_broughtBy := goodIn_r _ [13, 2, 14, 15, 16, 17, 18, 19, 20, 21, 8, 22, 3, 23, 24, 25, 26, 27, 28, 29, 30, 31, 32, 33, 34, 35, 36, 37, 38, 39] (by decide +kernel) (by decide +kernel)
set_option maxRecDepth 20000 in
theorem gX3_spread_X3_broughtBy : GoodIn wsX3_spread (wsV RX3 42 RX3 yX3_broughtBy wsX3_broughtBy) := goodIn_app (goodIn_of _ (by decide +kernel)) ggX3_spread_X3_broughtBy
theorem dX3_spread_0 : decode cX3_spread 0 = .ok (.iconst 0, 1) := by decide +kernel
theorem dX3_spread_1 : decode cX3_spread 1 = .ok (.istore 4, 2) := by decide +kernel
theorem dX3_spread_3 : decode cX3_spread 3 = .ok (.iload 4, 2) := by decide +kernel
theorem dX3_spread_5 : decode cX3_spread 5 = .ok (.bipush 60, 2) := by decide +kernel
theorem dX3_spread_7 : decode cX3_spread 7 = .ok (.if_icmp .ge 89, 3) := by decide +kernel
theorem dX3_spread_10 : decode cX3_spread 10 = .ok (.aload_n 0, 1) := by decide +kernel
theorem dX3_spread_11 : decode cX3_spread 11 = .ok (.iload 4, 2) := by decide +kernel
theorem dX3_spread_13 : decode cX3_spread 13 = .ok (.invokevirtual 25, 3) := by decide +kernel
theorem dX3_spread_16 : decode cX3_spread 16 = .ok (.iconst 0, 1) := by decide +kernel
theorem dX3_spread_17 : decode cX3_spread 17 = .ok (.istore 5, 2) := by decide +kernel
theorem dX3_spread_19 : decode cX3_spread 19 = .ok (.iload 5, 2) := by decide +kernel
theorem dX3_spread_21 : decode cX3_spread 21 = .ok (.aload_n 1, 1) := by decide +kernel
theorem dX3_spread_22 : decode cX3_spread 22 = .ok (.getfield 29, 3) := by decide +kernel
theorem dX3_spread_25 : decode cX3_spread 25 = .ok (.if_icmp .ge 65, 3) := by decide +kernel
theorem dX3_spread_28 : decode cX3_spread 28 = .ok (.iload 4, 2) := by decide +kernel
theorem dX3_spread_30 : decode cX3_spread 30 = .ok (.aload_n 1, 1) := by decide +kernel
theorem dX3_spread_31 : decode cX3_spread 31 = .ok (.getfield 35, 3) := by decide +kernel
theorem dX3_spread_34 : decode cX3_spread 34 = .ok (.iload 5, 2) := by decide +kernel
theorem dX3_spread_36 : decode cX3_spread 36 = .ok (.iaload, 1) := by decide +kernel
theorem dX3_spread_37 : decode cX3_spread 37 = .ok (.iadd, 1) := by decide +kernel
theorem dX3_spread_38 : decode cX3_spread 38 = .ok (.istore 6, 2) := by decide +kernel
theorem dX3_spread_40 : decode cX3_spread 40 = .ok (.iload 5, 2) := by decide +kernel
theorem dX3_spread_42 : decode cX3_spread 42 = .ok (.iload_n 3, 1) := by decide +kernel
theorem dX3_spread_43 : decode cX3_spread 43 = .ok (.if_icmp .eq 41, 3) := by decide +kernel
theorem dX3_spread_46 : decode cX3_spread 46 = .ok (.iload 6, 2) := by decide +kernel
theorem dX3_spread_48 : decode cX3_spread 48 = .ok (.bipush 60, 2) := by decide +kernel
theorem dX3_spread_50 : decode cX3_spread 50 = .ok (.if_icmp .ge 34, 3) := by decide +kernel
theorem dX3_spread_53 : decode cX3_spread 53 = .ok (.aload_n 0, 1) := by decide +kernel
theorem dX3_spread_54 : decode cX3_spread 54 = .ok (.getfield 9, 3) := by decide +kernel
theorem dX3_spread_57 : decode cX3_spread 57 = .ok (.iload 6, 2) := by decide +kernel
theorem dX3_spread_59 : decode cX3_spread 59 = .ok (.bipush 6, 2) := by decide +kernel
theorem dX3_spread_61 : decode cX3_spread 61 = .ok (.imul, 1) := by decide +kernel
theorem dX3_spread_62 : decode cX3_spread 62 = .ok (.aload_n 1, 1) := by decide +kernel
theorem dX3_spread_63 : decode cX3_spread 63 = .ok (.getfield 39, 3) := by decide +kernel
theorem dX3_spread_66 : decode cX3_spread 66 = .ok (.iload 5, 2) := by decide +kernel
theorem dX3_spread_68 : decode cX3_spread 68 = .ok (.iaload, 1) := by decide +kernel
theorem dX3_spread_69 : decode cX3_spread 69 = .ok (.iadd, 1) := by decide +kernel
theorem dX3_spread_70 : decode cX3_spread 70 = .ok (.dup2, 1) := by decide +kernel
theorem dX3_spread_71 : decode cX3_spread 71 = .ok (.laload, 1) := by decide +kernel
theorem dX3_spread_72 : decode cX3_spread 72 = .ok (.aload_n 0, 1) := by decide +kernel
theorem dX3_spread_73 : decode cX3_spread 73 = .ok (.aload_n 1, 1) := by decide +kernel
theorem dX3_spread_74 : decode cX3_spread 74 = .ok (.iload_n 2, 1) := by decide +kernel
theorem dX3_spread_75 : decode cX3_spread 75 = .ok (.iload 5, 2) := by decide +kernel
theorem dX3_spread_77 : decode cX3_spread 77 = .ok (.iload 6, 2) := by decide +kernel
theorem dX3_spread_79 : decode cX3_spread 79 = .ok (.invokevirtual 42, 3) := by decide +kernel
theorem dX3_spread_82 : decode cX3_spread 82 = .ok (.lor, 1) := by decide +kernel
theorem dX3_spread_83 : decode cX3_spread 83 = .ok (.lastore, 1) := by decide +kernel
theorem dX3_spread_84 : decode cX3_spread 84 = .ok (.iinc 5 1, 3) := by decide +kernel
theorem dX3_spread_87 : decode cX3_spread 87 = .ok (.goto (-68), 3) := by decide +kernel
theorem dX3_spread_90 : decode cX3_spread 90 = .ok (.iinc 4 1, 3) := by decide +kernel
theorem dX3_spread_93 : decode cX3_spread 93 = .ok (.goto (-90), 3) := by decide +kernel
theorem dX3_spread_96 : decode cX3_spread 96 = .ok (.return_, 1) := by decide +kernel
set_option maxRecDepth 20000 in
theorem ggX3_broughtBy_X4_holds : GoodIn wsX3_broughtBy wsX4_holds := goodIn_r _ [6] (by decide +kernel) (by decide +kernel)
set_option maxRecDepth 20000 in
theorem gX3_broughtBy_X4_holds_n49 : GoodIn wsX3_broughtBy (wsX4_holds) := ggX3_broughtBy_X4_holds
set_option maxRecDepth 20000 in
theorem ggX3_broughtBy_X3_heardFirstOn : GoodIn wsX3_broughtBy wsX3_heardFirstOn := goodIn_r _ [11, 12, 13, 29] (by decide +kernel) (by decide +kernel)
set_option maxRecDepth 20000 in
theorem gX3_broughtBy_X3_heardFirstOn : GoodIn wsX3_broughtBy (wsV RX3 53 RX3 yX3_heardFirstOn wsX3_heardFirstOn) := goodIn_app (goodIn_of _ (by decide +kernel)) ggX3_broughtBy_X3_heardFirstOn
set_option maxRecDepth 20000 in
theorem ggX3_broughtBy_X3_changed : GoodIn wsX3_broughtBy wsX3_changed := goodIn_r _ [16, 17, 18, 19, 10, 20, 21] (by decide +kernel) (by decide +kernel)
set_option maxRecDepth 20000 in
theorem gX3_broughtBy_X3_changed : GoodIn wsX3_broughtBy (va_wsS RX3 59 yX3_changed wsX3_changed) := goodIn_app (goodIn_of _ (by decide +kernel)) ggX3_broughtBy_X3_changed
theorem dX3_broughtBy_0 : decode cX3_broughtBy 0 = .ok (.iload 4, 2) := by decide +kernel
theorem dX3_broughtBy_2 : decode cX3_broughtBy 2 = .ok (.aload_n 1, 1) := by decide +kernel
theorem dX3_broughtBy_3 : decode cX3_broughtBy 3 = .ok (.getfield 35, 3) := by decide +kernel
theorem dX3_broughtBy_6 : decode cX3_broughtBy 6 = .ok (.iload_n 3, 1) := by decide +kernel
theorem dX3_broughtBy_7 : decode cX3_broughtBy 7 = .ok (.iaload, 1) := by decide +kernel
theorem dX3_broughtBy_8 : decode cX3_broughtBy 8 = .ok (.isub, 1) := by decide +kernel
theorem dX3_broughtBy_9 : decode cX3_broughtBy 9 = .ok (.istore 5, 2) := by decide +kernel
theorem dX3_broughtBy_11 : decode cX3_broughtBy 11 = .ok (.aload_n 1, 1) := by decide +kernel
theorem dX3_broughtBy_12 : decode cX3_broughtBy 12 = .ok (.getfield 46, 3) := by decide +kernel
theorem dX3_broughtBy_15 : decode cX3_broughtBy 15 = .ok (.iload_n 3, 1) := by decide +kernel
theorem dX3_broughtBy_16 : decode cX3_broughtBy 16 = .ok (.iaload, 1) := by decide +kernel
theorem dX3_broughtBy_17 : decode cX3_broughtBy 17 = .ok (.istore 6, 2) := by decide +kernel
theorem dX3_broughtBy_19 : decode cX3_broughtBy 19 = .ok (.iload 5, 2) := by decide +kernel
theorem dX3_broughtBy_21 : decode cX3_broughtBy 21 = .ok (.ifCond .lt 12, 3) := by decide +kernel
theorem dX3_broughtBy_24 : decode cX3_broughtBy 24 = .ok (.iload_n 2, 1) := by decide +kernel
theorem dX3_broughtBy_25 : decode cX3_broughtBy 25 = .ok (.iload 6, 2) := by decide +kernel
theorem dX3_broughtBy_27 : decode cX3_broughtBy 27 = .ok (.invokestatic 49, 3) := by decide +kernel
theorem dX3_broughtBy_30 : decode cX3_broughtBy 30 = .ok (.ifCond .eq 5, 3) := by decide +kernel
theorem dX3_broughtBy_33 : decode cX3_broughtBy 33 = .ok (.lconst 0, 1) := by decide +kernel
theorem dX3_broughtBy_34 : decode cX3_broughtBy 34 = .ok (.lreturn, 1) := by decide +kernel
theorem dX3_broughtBy_35 : decode cX3_broughtBy 35 = .ok (.aload_n 0, 1) := by decide +kernel
theorem dX3_broughtBy_36 : decode cX3_broughtBy 36 = .ok (.iload 5, 2) := by decide +kernel
theorem dX3_broughtBy_38 : decode cX3_broughtBy 38 = .ok (.iload 6, 2) := by decide +kernel
theorem dX3_broughtBy_40 : decode cX3_broughtBy 40 = .ok (.invokevirtual 53, 3) := by decide +kernel
theorem dX3_broughtBy_43 : decode cX3_broughtBy 43 = .ok (.lstore 7, 2) := by decide +kernel
theorem dX3_broughtBy_45 : decode cX3_broughtBy 45 = .ok (.lload 7, 2) := by decide +kernel
theorem dX3_broughtBy_47 : decode cX3_broughtBy 47 = .ok (.lconst 0, 1) := by decide +kernel
theorem dX3_broughtBy_48 : decode cX3_broughtBy 48 = .ok (.lcmp, 1) := by decide +kernel
theorem dX3_broughtBy_49 : decode cX3_broughtBy 49 = .ok (.ifCond .ne 7, 3) := by decide +kernel
theorem dX3_broughtBy_52 : decode cX3_broughtBy 52 = .ok (.lconst 0, 1) := by decide +kernel
theorem dX3_broughtBy_53 : decode cX3_broughtBy 53 = .ok (.goto 17, 3) := by decide +kernel
theorem dX3_broughtBy_56 : decode cX3_broughtBy 56 = .ok (.aload_n 1, 1) := by decide +kernel
theorem dX3_broughtBy_57 : decode cX3_broughtBy 57 = .ok (.getfield 56, 3) := by decide +kernel
theorem dX3_broughtBy_60 : decode cX3_broughtBy 60 = .ok (.iload 6, 2) := by decide +kernel
theorem dX3_broughtBy_62 : decode cX3_broughtBy 62 = .ok (.iaload, 1) := by decide +kernel
theorem dX3_broughtBy_63 : decode cX3_broughtBy 63 = .ok (.iload 6, 2) := by decide +kernel
theorem dX3_broughtBy_65 : decode cX3_broughtBy 65 = .ok (.lload 7, 2) := by decide +kernel
theorem dX3_broughtBy_67 : decode cX3_broughtBy 67 = .ok (.invokestatic 59, 3) := by decide +kernel
theorem dX3_broughtBy_70 : decode cX3_broughtBy 70 = .ok (.lreturn, 1) := by decide +kernel
set_option maxRecDepth 20000 in
theorem ggX3_firstDay_X3_rumour : GoodIn wsX3_firstDay wsX3_rumour := goodIn_r _ [5] (by decide +kernel) (by decide +kernel)
set_option maxRecDepth 20000 in
theorem gX3_firstDay_X3_rumour : GoodIn wsX3_firstDay (va_wsS RX3 21 yX3_rumour wsX3_rumour) := goodIn_app (goodIn_of _ (by decide +kernel)) ggX3_firstDay_X3_rumour
theorem dX3_firstDay_0 : decode cX3_firstDay 0 = .ok (.iload_n 2, 1) := by decide +kernel
theorem dX3_firstDay_1 : decode cX3_firstDay 1 = .ok (.iload_n 3, 1) := by decide +kernel
theorem dX3_firstDay_2 : decode cX3_firstDay 2 = .ok (.invokestatic 21, 3) := by decide +kernel
theorem dX3_firstDay_5 : decode cX3_firstDay 5 = .ok (.lstore 4, 2) := by decide +kernel
theorem dX3_firstDay_7 : decode cX3_firstDay 7 = .ok (.iconst 0, 1) := by decide +kernel
theorem dX3_firstDay_8 : decode cX3_firstDay 8 = .ok (.istore 6, 2) := by decide +kernel
theorem dX3_firstDay_10 : decode cX3_firstDay 10 = .ok (.iload 6, 2) := by decide +kernel
theorem dX3_firstDay_12 : decode cX3_firstDay 12 = .ok (.bipush 60, 2) := by decide +kernel
theorem dX3_firstDay_14 : decode cX3_firstDay 14 = .ok (.if_icmp .ge 32, 3) := by decide +kernel
theorem dX3_firstDay_17 : decode cX3_firstDay 17 = .ok (.aload_n 0, 1) := by decide +kernel
theorem dX3_firstDay_18 : decode cX3_firstDay 18 = .ok (.getfield 9, 3) := by decide +kernel
theorem dX3_firstDay_21 : decode cX3_firstDay 21 = .ok (.iload 6, 2) := by decide +kernel
theorem dX3_firstDay_23 : decode cX3_firstDay 23 = .ok (.bipush 6, 2) := by decide +kernel
theorem dX3_firstDay_25 : decode cX3_firstDay 25 = .ok (.imul, 1) := by decide +kernel
theorem dX3_firstDay_26 : decode cX3_firstDay 26 = .ok (.iload_n 1, 1) := by decide +kernel
theorem dX3_firstDay_27 : decode cX3_firstDay 27 = .ok (.iadd, 1) := by decide +kernel
theorem dX3_firstDay_28 : decode cX3_firstDay 28 = .ok (.laload, 1) := by decide +kernel
theorem dX3_firstDay_29 : decode cX3_firstDay 29 = .ok (.lload 4, 2) := by decide +kernel
theorem dX3_firstDay_31 : decode cX3_firstDay 31 = .ok (.land, 1) := by decide +kernel
theorem dX3_firstDay_32 : decode cX3_firstDay 32 = .ok (.lconst 0, 1) := by decide +kernel
theorem dX3_firstDay_33 : decode cX3_firstDay 33 = .ok (.lcmp, 1) := by decide +kernel
theorem dX3_firstDay_34 : decode cX3_firstDay 34 = .ok (.ifCond .eq 6, 3) := by decide +kernel
theorem dX3_firstDay_37 : decode cX3_firstDay 37 = .ok (.iload 6, 2) := by decide +kernel
theorem dX3_firstDay_39 : decode cX3_firstDay 39 = .ok (.ireturn, 1) := by decide +kernel
theorem dX3_firstDay_40 : decode cX3_firstDay 40 = .ok (.iinc 6 1, 3) := by decide +kernel
theorem dX3_firstDay_43 : decode cX3_firstDay 43 = .ok (.goto (-33), 3) := by decide +kernel
theorem dX3_firstDay_46 : decode cX3_firstDay 46 = .ok (.bipush (-9), 2) := by decide +kernel
theorem dX3_firstDay_48 : decode cX3_firstDay 48 = .ok (.ireturn, 1) := by decide +kernel
set_option maxRecDepth 20000 in
theorem ggX3_originsBy_J13_bitCount_95d88 : GoodIn wsX3_originsBy wsJ13_bitCount_95d88 := goodIn_r _ [6, 7, 8, 9] (by decide +kernel) (by decide +kernel)
set_option maxRecDepth 20000 in
theorem gX3_originsBy_J13_bitCount_95d88 : GoodIn wsX3_originsBy (va_wsS RX3 65 yJ13_bitCount_95d88 wsJ13_bitCount_95d88) := goodIn_app (goodIn_of _ (by decide +kernel)) ggX3_originsBy_J13_bitCount_95d88
theorem dX3_originsBy_0 : decode cX3_originsBy 0 = .ok (.aload_n 0, 1) := by decide +kernel
theorem dX3_originsBy_1 : decode cX3_originsBy 1 = .ok (.getfield 9, 3) := by decide +kernel
theorem dX3_originsBy_4 : decode cX3_originsBy 4 = .ok (.iload_n 3, 1) := by decide +kernel
theorem dX3_originsBy_5 : decode cX3_originsBy 5 = .ok (.bipush 6, 2) := by decide +kernel
theorem dX3_originsBy_7 : decode cX3_originsBy 7 = .ok (.imul, 1) := by decide +kernel
theorem dX3_originsBy_8 : decode cX3_originsBy 8 = .ok (.iload_n 1, 1) := by decide +kernel
theorem dX3_originsBy_9 : decode cX3_originsBy 9 = .ok (.iadd, 1) := by decide +kernel
theorem dX3_originsBy_10 : decode cX3_originsBy 10 = .ok (.laload, 1) := by decide +kernel
theorem dX3_originsBy_11 : decode cX3_originsBy 11 = .ok (.iload_n 2, 1) := by decide +kernel
theorem dX3_originsBy_12 : decode cX3_originsBy 12 = .ok (.bipush 15, 2) := by decide +kernel
theorem dX3_originsBy_14 : decode cX3_originsBy 14 = .ok (.imul, 1) := by decide +kernel
theorem dX3_originsBy_15 : decode cX3_originsBy 15 = .ok (.lshr, 1) := by decide +kernel
theorem dX3_originsBy_16 : decode cX3_originsBy 16 = .ok (.ldc2_w 63, 3) := by decide +kernel
theorem dX3_originsBy_19 : decode cX3_originsBy 19 = .ok (.land, 1) := by decide +kernel
theorem dX3_originsBy_20 : decode cX3_originsBy 20 = .ok (.invokestatic 65, 3) := by decide +kernel
theorem dX3_originsBy_23 : decode cX3_originsBy 23 = .ok (.ireturn, 1) := by decide +kernel
theorem dX3_keepWhatWasHeard_0 : decode cX3_keepWhatWasHeard 0 = .ok (.iconst 0, 1) := by decide +kernel
theorem dX3_keepWhatWasHeard_1 : decode cX3_keepWhatWasHeard 1 = .ok (.istore_n 2, 1) := by decide +kernel
theorem dX3_keepWhatWasHeard_2 : decode cX3_keepWhatWasHeard 2 = .ok (.iload_n 1, 1) := by decide +kernel
theorem dX3_keepWhatWasHeard_3 : decode cX3_keepWhatWasHeard 3 = .ok (.ifCond .le 42, 3) := by decide +kernel
theorem dX3_keepWhatWasHeard_6 : decode cX3_keepWhatWasHeard 6 = .ok (.iload_n 2, 1) := by decide +kernel
theorem dX3_keepWhatWasHeard_7 : decode cX3_keepWhatWasHeard 7 = .ok (.bipush 6, 2) := by decide +kernel
theorem dX3_keepWhatWasHeard_9 : decode cX3_keepWhatWasHeard 9 = .ok (.if_icmp .ge 36, 3) := by decide +kernel
theorem dX3_keepWhatWasHeard_12 : decode cX3_keepWhatWasHeard 12 = .ok (.aload_n 0, 1) := by decide +kernel
theorem dX3_keepWhatWasHeard_13 : decode cX3_keepWhatWasHeard 13 = .ok (.getfield 9, 3) := by decide +kernel
theorem dX3_keepWhatWasHeard_16 : decode cX3_keepWhatWasHeard 16 = .ok (.iload_n 1, 1) := by decide +kernel
theorem dX3_keepWhatWasHeard_17 : decode cX3_keepWhatWasHeard 17 = .ok (.bipush 6, 2) := by decide +kernel
theorem dX3_keepWhatWasHeard_19 : decode cX3_keepWhatWasHeard 19 = .ok (.imul, 1) := by decide +kernel
theorem dX3_keepWhatWasHeard_20 : decode cX3_keepWhatWasHeard 20 = .ok (.iload_n 2, 1) := by decide +kernel
theorem dX3_keepWhatWasHeard_21 : decode cX3_keepWhatWasHeard 21 = .ok (.iadd, 1) := by decide +kernel
theorem dX3_keepWhatWasHeard_22 : decode cX3_keepWhatWasHeard 22 = .ok (.dup2, 1) := by decide +kernel
theorem dX3_keepWhatWasHeard_23 : decode cX3_keepWhatWasHeard 23 = .ok (.laload, 1) := by decide +kernel
theorem dX3_keepWhatWasHeard_24 : decode cX3_keepWhatWasHeard 24 = .ok (.aload_n 0, 1) := by decide +kernel
theorem dX3_keepWhatWasHeard_25 : decode cX3_keepWhatWasHeard 25 = .ok (.getfield 9, 3) := by decide +kernel
theorem dX3_keepWhatWasHeard_28 : decode cX3_keepWhatWasHeard 28 = .ok (.iload_n 1, 1) := by decide +kernel
theorem dX3_keepWhatWasHeard_29 : decode cX3_keepWhatWasHeard 29 = .ok (.iconst 1, 1) := by decide +kernel
theorem dX3_keepWhatWasHeard_30 : decode cX3_keepWhatWasHeard 30 = .ok (.isub, 1) := by decide +kernel
theorem dX3_keepWhatWasHeard_31 : decode cX3_keepWhatWasHeard 31 = .ok (.bipush 6, 2) := by decide +kernel
theorem dX3_keepWhatWasHeard_33 : decode cX3_keepWhatWasHeard 33 = .ok (.imul, 1) := by decide +kernel
theorem dX3_keepWhatWasHeard_34 : decode cX3_keepWhatWasHeard 34 = .ok (.iload_n 2, 1) := by decide +kernel
theorem dX3_keepWhatWasHeard_35 : decode cX3_keepWhatWasHeard 35 = .ok (.iadd, 1) := by decide +kernel
theorem dX3_keepWhatWasHeard_36 : decode cX3_keepWhatWasHeard 36 = .ok (.laload, 1) := by decide +kernel
theorem dX3_keepWhatWasHeard_37 : decode cX3_keepWhatWasHeard 37 = .ok (.lor, 1) := by decide +kernel
theorem dX3_keepWhatWasHeard_38 : decode cX3_keepWhatWasHeard 38 = .ok (.lastore, 1) := by decide +kernel
theorem dX3_keepWhatWasHeard_39 : decode cX3_keepWhatWasHeard 39 = .ok (.iinc 2 1, 3) := by decide +kernel
theorem dX3_keepWhatWasHeard_42 : decode cX3_keepWhatWasHeard 42 = .ok (.goto (-40), 3) := by decide +kernel
theorem dX3_keepWhatWasHeard_45 : decode cX3_keepWhatWasHeard 45 = .ok (.return_, 1) := by decide +kernel
theorem dX3_heardFirstOn_0 : decode cX3_heardFirstOn 0 = .ok (.iload_n 1, 1) := by decide +kernel
theorem dX3_heardFirstOn_1 : decode cX3_heardFirstOn 1 = .ok (.ifCond .le 19, 3) := by decide +kernel
theorem dX3_heardFirstOn_4 : decode cX3_heardFirstOn 4 = .ok (.aload_n 0, 1) := by decide +kernel
theorem dX3_heardFirstOn_5 : decode cX3_heardFirstOn 5 = .ok (.getfield 9, 3) := by decide +kernel
theorem dX3_heardFirstOn_8 : decode cX3_heardFirstOn 8 = .ok (.iload_n 1, 1) := by decide +kernel
theorem dX3_heardFirstOn_9 : decode cX3_heardFirstOn 9 = .ok (.iconst 1, 1) := by decide +kernel
theorem dX3_heardFirstOn_10 : decode cX3_heardFirstOn 10 = .ok (.isub, 1) := by decide +kernel
theorem dX3_heardFirstOn_11 : decode cX3_heardFirstOn 11 = .ok (.bipush 6, 2) := by decide +kernel
theorem dX3_heardFirstOn_13 : decode cX3_heardFirstOn 13 = .ok (.imul, 1) := by decide +kernel
theorem dX3_heardFirstOn_14 : decode cX3_heardFirstOn 14 = .ok (.iload_n 2, 1) := by decide +kernel
theorem dX3_heardFirstOn_15 : decode cX3_heardFirstOn 15 = .ok (.iadd, 1) := by decide +kernel
theorem dX3_heardFirstOn_16 : decode cX3_heardFirstOn 16 = .ok (.laload, 1) := by decide +kernel
theorem dX3_heardFirstOn_17 : decode cX3_heardFirstOn 17 = .ok (.goto 4, 3) := by decide +kernel
theorem dX3_heardFirstOn_20 : decode cX3_heardFirstOn 20 = .ok (.lconst 0, 1) := by decide +kernel
theorem dX3_heardFirstOn_21 : decode cX3_heardFirstOn 21 = .ok (.lstore_n 3, 1) := by decide +kernel
theorem dX3_heardFirstOn_22 : decode cX3_heardFirstOn 22 = .ok (.aload_n 0, 1) := by decide +kernel
theorem dX3_heardFirstOn_23 : decode cX3_heardFirstOn 23 = .ok (.getfield 9, 3) := by decide +kernel
theorem dX3_heardFirstOn_26 : decode cX3_heardFirstOn 26 = .ok (.iload_n 1, 1) := by decide +kernel
theorem dX3_heardFirstOn_27 : decode cX3_heardFirstOn 27 = .ok (.bipush 6, 2) := by decide +kernel
theorem dX3_heardFirstOn_29 : decode cX3_heardFirstOn 29 = .ok (.imul, 1) := by decide +kernel
theorem dX3_heardFirstOn_30 : decode cX3_heardFirstOn 30 = .ok (.iload_n 2, 1) := by decide +kernel
theorem dX3_heardFirstOn_31 : decode cX3_heardFirstOn 31 = .ok (.iadd, 1) := by decide +kernel
theorem dX3_heardFirstOn_32 : decode cX3_heardFirstOn 32 = .ok (.laload, 1) := by decide +kernel
theorem dX3_heardFirstOn_33 : decode cX3_heardFirstOn 33 = .ok (.lload_n 3, 1) := by decide +kernel
theorem dX3_heardFirstOn_34 : decode cX3_heardFirstOn 34 = .ok (.ldc2_w 71, 3) := by decide +kernel
theorem dX3_heardFirstOn_37 : decode cX3_heardFirstOn 37 = .ok (.lxor, 1) := by decide +kernel
theorem dX3_heardFirstOn_38 : decode cX3_heardFirstOn 38 = .ok (.land, 1) := by decide +kernel
theorem dX3_heardFirstOn_39 : decode cX3_heardFirstOn 39 = .ok (.lreturn, 1) := by decide +kernel
set_option maxRecDepth 20000 in
theorem ggX3_changed_X3_asOnesOwn : GoodIn wsX3_changed wsX3_asOnesOwn := goodIn_r _ [5, 6] (by decide +kernel) (by decide +kernel)
set_option maxRecDepth 20000 in
theorem gX3_changed_X3_asOnesOwn : GoodIn wsX3_changed (va_wsS RX3 75 yX3_asOnesOwn wsX3_asOnesOwn) := goodIn_app (goodIn_of _ (by decide +kernel)) ggX3_changed_X3_asOnesOwn
theorem dX3_changed_0 : decode cX3_changed 0 = .ok (.iload_n 0, 1) := by decide +kernel
theorem dX3_changed_1 : decode cX3_changed 1 = .ok (.ifCond .ne 5, 3) := by decide +kernel
theorem dX3_changed_4 : decode cX3_changed 4 = .ok (.lload_n 2, 1) := by decide +kernel
theorem dX3_changed_5 : decode cX3_changed 5 = .ok (.lreturn, 1) := by decide +kernel
theorem dX3_changed_6 : decode cX3_changed 6 = .ok (.lload_n 2, 1) := by decide +kernel
theorem dX3_changed_7 : decode cX3_changed 7 = .ok (.bipush 15, 2) := by decide +kernel
theorem dX3_changed_9 : decode cX3_changed 9 = .ok (.lshl, 1) := by decide +kernel
theorem dX3_changed_10 : decode cX3_changed 10 = .ok (.lload_n 2, 1) := by decide +kernel
theorem dX3_changed_11 : decode cX3_changed 11 = .ok (.bipush 45, 2) := by decide +kernel
theorem dX3_changed_13 : decode cX3_changed 13 = .ok (.lshr, 1) := by decide +kernel
theorem dX3_changed_14 : decode cX3_changed 14 = .ok (.lor, 1) := by decide +kernel
theorem dX3_changed_15 : decode cX3_changed 15 = .ok (.ldc2_w 73, 3) := by decide +kernel
theorem dX3_changed_18 : decode cX3_changed 18 = .ok (.land, 1) := by decide +kernel
theorem dX3_changed_19 : decode cX3_changed 19 = .ok (.lstore 4, 2) := by decide +kernel
theorem dX3_changed_21 : decode cX3_changed 21 = .ok (.iload_n 0, 1) := by decide +kernel
theorem dX3_changed_22 : decode cX3_changed 22 = .ok (.iconst 1, 1) := by decide +kernel
theorem dX3_changed_23 : decode cX3_changed 23 = .ok (.if_icmp .ne 8, 3) := by decide +kernel
theorem dX3_changed_26 : decode cX3_changed 26 = .ok (.lload 4, 2) := by decide +kernel
theorem dX3_changed_28 : decode cX3_changed 28 = .ok (.goto 9, 3) := by decide +kernel
theorem dX3_changed_31 : decode cX3_changed 31 = .ok (.iload_n 1, 1) := by decide +kernel
theorem dX3_changed_32 : decode cX3_changed 32 = .ok (.lload 4, 2) := by decide +kernel
theorem dX3_changed_34 : decode cX3_changed 34 = .ok (.invokestatic 75, 3) := by decide +kernel
theorem dX3_changed_37 : decode cX3_changed 37 = .ok (.lreturn, 1) := by decide +kernel
theorem dX3_asOnesOwn_0 : decode cX3_asOnesOwn 0 = .ok (.lconst 0, 1) := by decide +kernel
theorem dX3_asOnesOwn_1 : decode cX3_asOnesOwn 1 = .ok (.lstore_n 3, 1) := by decide +kernel
theorem dX3_asOnesOwn_2 : decode cX3_asOnesOwn 2 = .ok (.iconst 0, 1) := by decide +kernel
theorem dX3_asOnesOwn_3 : decode cX3_asOnesOwn 3 = .ok (.istore 5, 2) := by decide +kernel
theorem dX3_asOnesOwn_5 : decode cX3_asOnesOwn 5 = .ok (.iload 5, 2) := by decide +kernel
theorem dX3_asOnesOwn_7 : decode cX3_asOnesOwn 7 = .ok (.bipush 60, 2) := by decide +kernel
theorem dX3_asOnesOwn_9 : decode cX3_asOnesOwn 9 = .ok (.if_icmp .ge 34, 3) := by decide +kernel
theorem dX3_asOnesOwn_12 : decode cX3_asOnesOwn 12 = .ok (.lload_n 1, 1) := by decide +kernel
theorem dX3_asOnesOwn_13 : decode cX3_asOnesOwn 13 = .ok (.iload 5, 2) := by decide +kernel
theorem dX3_asOnesOwn_15 : decode cX3_asOnesOwn 15 = .ok (.lshr, 1) := by decide +kernel
theorem dX3_asOnesOwn_16 : decode cX3_asOnesOwn 16 = .ok (.ldc2_w 63, 3) := by decide +kernel
theorem dX3_asOnesOwn_19 : decode cX3_asOnesOwn 19 = .ok (.land, 1) := by decide +kernel
theorem dX3_asOnesOwn_20 : decode cX3_asOnesOwn 20 = .ok (.lconst 0, 1) := by decide +kernel
theorem dX3_asOnesOwn_21 : decode cX3_asOnesOwn 21 = .ok (.lcmp, 1) := by decide +kernel
theorem dX3_asOnesOwn_22 : decode cX3_asOnesOwn 22 = .ok (.ifCond .eq 15, 3) := by decide +kernel
theorem dX3_asOnesOwn_25 : decode cX3_asOnesOwn 25 = .ok (.lload_n 3, 1) := by decide +kernel
theorem dX3_asOnesOwn_26 : decode cX3_asOnesOwn 26 = .ok (.lconst 1, 1) := by decide +kernel
theorem dX3_asOnesOwn_27 : decode cX3_asOnesOwn 27 = .ok (.iload 5, 2) := by decide +kernel
theorem dX3_asOnesOwn_29 : decode cX3_asOnesOwn 29 = .ok (.bipush 8, 2) := by decide +kernel
theorem dX3_asOnesOwn_31 : decode cX3_asOnesOwn 31 = .ok (.iadd, 1) := by decide +kernel
theorem dX3_asOnesOwn_32 : decode cX3_asOnesOwn 32 = .ok (.iload_n 0, 1) := by decide +kernel
theorem dX3_asOnesOwn_33 : decode cX3_asOnesOwn 33 = .ok (.iadd, 1) := by decide +kernel
theorem dX3_asOnesOwn_34 : decode cX3_asOnesOwn 34 = .ok (.lshl, 1) := by decide +kernel
theorem dX3_asOnesOwn_35 : decode cX3_asOnesOwn 35 = .ok (.lor, 1) := by decide +kernel
theorem dX3_asOnesOwn_36 : decode cX3_asOnesOwn 36 = .ok (.lstore_n 3, 1) := by decide +kernel
theorem dX3_asOnesOwn_37 : decode cX3_asOnesOwn 37 = .ok (.iinc 5 15, 3) := by decide +kernel
theorem dX3_asOnesOwn_40 : decode cX3_asOnesOwn 40 = .ok (.goto (-35), 3) := by decide +kernel
theorem dX3_asOnesOwn_43 : decode cX3_asOnesOwn 43 = .ok (.lload_n 3, 1) := by decide +kernel
theorem dX3_asOnesOwn_44 : decode cX3_asOnesOwn 44 = .ok (.lreturn, 1) := by decide +kernel
set_option maxRecDepth 20000 in
theorem ggX4_init_X0_init : GoodIn wsX4_init wsX0_init := goodIn_r _ [33, 34, 2, 3, 17, 35, 36, 37, 38, 39, 74, 75, 76, 77, 78] (by decide +kernel) (by decide +kernel)
set_option maxRecDepth 20000 in
theorem gX4_init_X0_init : GoodIn wsX4_init (wsX0_init) := ggX4_init_X0_init
set_option maxRecDepth 20000 in
theorem ggX4_init_X3_init : GoodIn wsX4_init wsX3_init := goodIn_r _ [41, 42, 2, 3, 43, 44, 79] (by decide +kernel) (by decide +kernel)
set_option maxRecDepth 20000 in
theorem gX4_init_X3_init_n35 : GoodIn wsX4_init (wsX3_init) := ggX4_init_X3_init
set_option maxRecDepth 20000 in
theorem ggX4_init_X1_init : GoodIn wsX4_init wsX1_init := goodIn_r _ [46, 47, 2, 3, 17, 48, 49, 50, 51, 52, 53, 54, 80, 81, 82, 83, 84, 85, 86] (by decide +kernel) (by decide +kernel)
set_option maxRecDepth 20000 in
theorem gX4_init_X1_init_n46 : GoodIn wsX4_init (wsX1_init) := ggX4_init_X1_init
set_option maxRecDepth 20000 in
theorem ggX4_init_X2_init : GoodIn wsX4_init wsX2_init := goodIn_r _ [56, 57, 2, 3, 17, 58, 59, 60, 87, 88, 89] (by decide +kernel) (by decide +kernel)
set_option maxRecDepth 20000 in
theorem gX4_init_X2_init_n71 : GoodIn wsX4_init (wsX2_init) := ggX4_init_X2_init
theorem dX4_init_0 : decode cX4_init 0 = .ok (.aload_n 0, 1) := by decide +kernel
theorem dX4_init_1 : decode cX4_init 1 = .ok (.invokespecial 5, 3) := by decide +kernel
theorem dX4_init_4 : decode cX4_init 4 = .ok (.aload_n 0, 1) := by decide +kernel
theorem dX4_init_5 : decode cX4_init 5 = .ok (.iconst 4, 1) := by decide +kernel
theorem dX4_init_6 : decode cX4_init 6 = .ok (.anewarray 11, 3) := by decide +kernel
theorem dX4_init_9 : decode cX4_init 9 = .ok (.putfield 13, 3) := by decide +kernel
theorem dX4_init_12 : decode cX4_init 12 = .ok (.aload_n 0, 1) := by decide +kernel
theorem dX4_init_13 : decode cX4_init 13 = .ok (.new 17, 3) := by decide +kernel
theorem dX4_init_16 : decode cX4_init 16 = .ok (.dup, 1) := by decide +kernel
theorem dX4_init_17 : decode cX4_init 17 = .ok (.bipush 8, 2) := by decide +kernel
theorem dX4_init_19 : decode cX4_init 19 = .ok (.invokespecial 19, 3) := by decide +kernel
theorem dX4_init_22 : decode cX4_init 22 = .ok (.putfield 22, 3) := by decide +kernel
theorem dX4_init_25 : decode cX4_init 25 = .ok (.aload_n 0, 1) := by decide +kernel
theorem dX4_init_26 : decode cX4_init 26 = .ok (.new 17, 3) := by decide +kernel
theorem dX4_init_29 : decode cX4_init 29 = .ok (.dup, 1) := by decide +kernel
theorem dX4_init_30 : decode cX4_init 30 = .ok (.bipush 6, 2) := by decide +kernel
theorem dX4_init_32 : decode cX4_init 32 = .ok (.invokespecial 19, 3) := by decide +kernel
theorem dX4_init_35 : decode cX4_init 35 = .ok (.putfield 26, 3) := by decide +kernel
theorem dX4_init_38 : decode cX4_init 38 = .ok (.aload_n 0, 1) := by decide +kernel
theorem dX4_init_39 : decode cX4_init 39 = .ok (.bipush 6, 2) := by decide +kernel
theorem dX4_init_41 : decode cX4_init 41 = .ok (.newarray .boolean, 2) := by decide +kernel
theorem dX4_init_43 : decode cX4_init 43 = .ok (.putfield 29, 3) := by decide +kernel
theorem dX4_init_46 : decode cX4_init 46 = .ok (.aload_n 0, 1) := by decide +kernel
theorem dX4_init_47 : decode cX4_init 47 = .ok (.new 33, 3) := by decide +kernel
theorem dX4_init_50 : decode cX4_init 50 = .ok (.dup, 1) := by decide +kernel
theorem dX4_init_51 : decode cX4_init 51 = .ok (.invokespecial 35, 3) := by decide +kernel
theorem dX4_init_54 : decode cX4_init 54 = .ok (.putfield 36, 3) := by decide +kernel
theorem dX4_init_57 : decode cX4_init 57 = .ok (.aload_n 0, 1) := by decide +kernel
theorem dX4_init_58 : decode cX4_init 58 = .ok (.bipush 24, 2) := by decide +kernel
theorem dX4_init_60 : decode cX4_init 60 = .ok (.newarray .int, 2) := by decide +kernel
theorem dX4_init_62 : decode cX4_init 62 = .ok (.putfield 40, 3) := by decide +kernel
theorem dX4_init_65 : decode cX4_init 65 = .ok (.aload_n 0, 1) := by decide +kernel
theorem dX4_init_66 : decode cX4_init 66 = .ok (.new 44, 3) := by decide +kernel
theorem dX4_init_69 : decode cX4_init 69 = .ok (.dup, 1) := by decide +kernel
theorem dX4_init_70 : decode cX4_init 70 = .ok (.invokespecial 46, 3) := by decide +kernel
theorem dX4_init_73 : decode cX4_init 73 = .ok (.putfield 47, 3) := by decide +kernel
theorem dX4_init_76 : decode cX4_init 76 = .ok (.aload_n 0, 1) := by decide +kernel
theorem dX4_init_77 : decode cX4_init 77 = .ok (.new 44, 3) := by decide +kernel
theorem dX4_init_80 : decode cX4_init 80 = .ok (.dup, 1) := by decide +kernel
theorem dX4_init_81 : decode cX4_init 81 = .ok (.invokespecial 46, 3) := by decide +kernel
theorem dX4_init_84 : decode cX4_init 84 = .ok (.putfield 51, 3) := by decide +kernel
theorem dX4_init_87 : decode cX4_init 87 = .ok (.aload_n 0, 1) := by decide +kernel
theorem dX4_init_88 : decode cX4_init 88 = .ok (.iconst 0, 1) := by decide +kernel
theorem dX4_init_89 : decode cX4_init 89 = .ok (.putfield 54, 3) := by decide +kernel
theorem dX4_init_92 : decode cX4_init 92 = .ok (.aload_n 0, 1) := by decide +kernel
theorem dX4_init_93 : decode cX4_init 93 = .ok (.iconst 0, 1) := by decide +kernel
theorem dX4_init_94 : decode cX4_init 94 = .ok (.putfield 58, 3) := by decide +kernel
theorem dX4_init_97 : decode cX4_init 97 = .ok (.aload_n 0, 1) := by decide +kernel
theorem dX4_init_98 : decode cX4_init 98 = .ok (.lconst 0, 1) := by decide +kernel
theorem dX4_init_99 : decode cX4_init 99 = .ok (.putfield 61, 3) := by decide +kernel
theorem dX4_init_102 : decode cX4_init 102 = .ok (.aload_n 0, 1) := by decide +kernel
theorem dX4_init_103 : decode cX4_init 103 = .ok (.iconst 0, 1) := by decide +kernel
theorem dX4_init_104 : decode cX4_init 104 = .ok (.putfield 65, 3) := by decide +kernel
theorem dX4_init_107 : decode cX4_init 107 = .ok (.aload_n 0, 1) := by decide +kernel
theorem dX4_init_108 : decode cX4_init 108 = .ok (.iconst 0, 1) := by decide +kernel
theorem dX4_init_109 : decode cX4_init 109 = .ok (.putfield 68, 3) := by decide +kernel
theorem dX4_init_112 : decode cX4_init 112 = .ok (.iconst 0, 1) := by decide +kernel
theorem dX4_init_113 : decode cX4_init 113 = .ok (.istore_n 1, 1) := by decide +kernel
theorem dX4_init_114 : decode cX4_init 114 = .ok (.iload_n 1, 1) := by decide +kernel
theorem dX4_init_115 : decode cX4_init 115 = .ok (.iconst 4, 1) := by decide +kernel
theorem dX4_init_116 : decode cX4_init 116 = .ok (.if_icmp .ge 22, 3) := by decide +kernel
theorem dX4_init_119 : decode cX4_init 119 = .ok (.aload_n 0, 1) := by decide +kernel
theorem dX4_init_120 : decode cX4_init 120 = .ok (.getfield 13, 3) := by decide +kernel
theorem dX4_init_123 : decode cX4_init 123 = .ok (.iload_n 1, 1) := by decide +kernel
theorem dX4_init_124 : decode cX4_init 124 = .ok (.new 11, 3) := by decide +kernel
theorem dX4_init_127 : decode cX4_init 127 = .ok (.dup, 1) := by decide +kernel
theorem dX4_init_128 : decode cX4_init 128 = .ok (.invokespecial 71, 3) := by decide +kernel
theorem dX4_init_131 : decode cX4_init 131 = .ok (.aastore, 1) := by decide +kernel
theorem dX4_init_132 : decode cX4_init 132 = .ok (.iinc 1 1, 3) := by decide +kernel
theorem dX4_init_135 : decode cX4_init 135 = .ok (.goto (-21), 3) := by decide +kernel
theorem dX4_init_138 : decode cX4_init 138 = .ok (.return_, 1) := by decide +kernel
set_option maxRecDepth 20000 in
theorem ggX4_pass_X4_isSheet : GoodIn wsX4_pass wsX4_isSheet := goodIn_r _ [9, 10, 11, 8, 12] (by decide +kernel) (by decide +kernel)
set_option maxRecDepth 20000 in
theorem gX4_pass_X4_isSheet : GoodIn wsX4_pass (va_wsS RX4 72 yX4_isSheet wsX4_isSheet) := goodIn_app (goodIn_of _ (by decide +kernel)) ggX4_pass_X4_isSheet
set_option maxRecDepth 20000 in
theorem ggX4_pass_X4_isBelow : GoodIn wsX4_pass wsX4_isBelow := goodIn_r _ [12] (by decide +kernel) (by decide +kernel)
set_option maxRecDepth 20000 in
theorem gX4_pass_X4_isBelow : GoodIn wsX4_pass (va_wsS RX4 76 yX4_isBelow wsX4_isBelow) := goodIn_app (goodIn_of _ (by decide +kernel)) ggX4_pass_X4_isBelow
set_option maxRecDepth 20000 in
theorem ggX4_pass_X2_faultOfCells : GoodIn wsX4_pass wsX2_faultOfCells := goodIn_r _ [17, 18, 19, 20, 16, 21, 22, 23, 24, 25, 26, 27, 28, 29, 30, 31, 96, 97, 98] (by decide +kernel) (by decide +kernel)
set_option maxRecDepth 20000 in
theorem gX4_pass_X2_faultOfCells : GoodIn wsX4_pass (wsV RX4 80 RX2 yX2_faultOfCells wsX2_faultOfCells) := goodIn_app (goodIn_of _ (by decide +kernel)) ggX4_pass_X2_faultOfCells
set_option maxRecDepth 20000 in
theorem ggX4_pass_X4_meet : GoodIn wsX4_pass wsX4_meet := goodIn_r _ [35, 1, 76, 77, 78, 79, 80, 81, 82, 83, 84, 85, 86, 87, 88] (by decide +kernel) (by decide +kernel)
set_option maxRecDepth 20000 in
theorem gX4_pass_X4_meet : GoodIn wsX4_pass (wsV RX4 84 RX4 yX4_meet wsX4_meet) := goodIn_app (goodIn_of _ (by decide +kernel)) ggX4_pass_X4_meet
set_option maxRecDepth 20000 in
theorem ggX4_pass_X1_read : GoodIn wsX4_pass wsX1_read := goodIn_r _ [40, 41, 42, 43, 44, 45, 39, 46, 47, 48, 49, 50, 51, 52, 53, 54, 55, 56, 57, 58, 59, 60, 61, 62, 63, 64, 65, 89, 90, 91, 92, 93, 94, 95, 96, 97, 98] (by decide +kernel) (by decide +kernel)
set_option maxRecDepth 20000 in
theorem gX4_pass_X1_read : GoodIn wsX4_pass (wsV RX4 88 RX1 yX1_read wsX1_read) := goodIn_app (goodIn_of _ (by decide +kernel)) ggX4_pass_X1_read
set_option maxRecDepth 20000 in
theorem ggX4_pass_X4_takeDraft : GoodIn wsX4_pass wsX4_takeDraft := goodIn_r _ [69, 4, 3, 70, 71, 72, 73, 74, 75, 76, 77, 78, 79, 80, 81, 82, 83, 84, 85, 86, 87, 88, 99, 100, 101, 102, 103] (by decide +kernel) (by decide +kernel)
set_option maxRecDepth 20000 in
theorem gX4_pass_X4_takeDraft : GoodIn wsX4_pass (wsV RX4 92 RX4 yX4_takeDraft wsX4_takeDraft) := goodIn_app (goodIn_of _ (by decide +kernel)) ggX4_pass_X4_takeDraft
theorem dX4_pass_0 : decode cX4_pass 0 = .ok (.aload_n 0, 1) := by decide +kernel
theorem dX4_pass_1 : decode cX4_pass 1 = .ok (.iconst 0, 1) := by decide +kernel
theorem dX4_pass_2 : decode cX4_pass 2 = .ok (.putfield 68, 3) := by decide +kernel
theorem dX4_pass_5 : decode cX4_pass 5 = .ok (.iload_n 1, 1) := by decide +kernel
theorem dX4_pass_6 : decode cX4_pass 6 = .ok (.invokestatic 72, 3) := by decide +kernel
theorem dX4_pass_9 : decode cX4_pass 9 = .ok (.ifCond .ne 5, 3) := by decide +kernel
theorem dX4_pass_12 : decode cX4_pass 12 = .ok (.iconst (-1), 1) := by decide +kernel
theorem dX4_pass_13 : decode cX4_pass 13 = .ok (.ireturn, 1) := by decide +kernel
theorem dX4_pass_14 : decode cX4_pass 14 = .ok (.iload_n 2, 1) := by decide +kernel
theorem dX4_pass_15 : decode cX4_pass 15 = .ok (.iconst 3, 1) := by decide +kernel
theorem dX4_pass_16 : decode cX4_pass 16 = .ok (.invokestatic 76, 3) := by decide +kernel
theorem dX4_pass_19 : decode cX4_pass 19 = .ok (.ifCond .ne 6, 3) := by decide +kernel
theorem dX4_pass_22 : decode cX4_pass 22 = .ok (.bipush (-2), 2) := by decide +kernel
theorem dX4_pass_24 : decode cX4_pass 24 = .ok (.ireturn, 1) := by decide +kernel
theorem dX4_pass_25 : decode cX4_pass 25 = .ok (.aload_n 0, 1) := by decide +kernel
theorem dX4_pass_26 : decode cX4_pass 26 = .ok (.getfield 13, 3) := by decide +kernel
theorem dX4_pass_29 : decode cX4_pass 29 = .ok (.iload_n 1, 1) := by decide +kernel
theorem dX4_pass_30 : decode cX4_pass 30 = .ok (.aaload, 1) := by decide +kernel
theorem dX4_pass_31 : decode cX4_pass 31 = .ok (.iload_n 2, 1) := by decide +kernel
theorem dX4_pass_32 : decode cX4_pass 32 = .ok (.iload_n 3, 1) := by decide +kernel
theorem dX4_pass_33 : decode cX4_pass 33 = .ok (.iload 4, 2) := by decide +kernel
theorem dX4_pass_35 : decode cX4_pass 35 = .ok (.invokevirtual 80, 3) := by decide +kernel
theorem dX4_pass_38 : decode cX4_pass 38 = .ok (.istore 5, 2) := by decide +kernel
theorem dX4_pass_40 : decode cX4_pass 40 = .ok (.iload 5, 2) := by decide +kernel
theorem dX4_pass_42 : decode cX4_pass 42 = .ok (.ifCond .eq 10, 3) := by decide +kernel
theorem dX4_pass_45 : decode cX4_pass 45 = .ok (.aload_n 0, 1) := by decide +kernel
theorem dX4_pass_46 : decode cX4_pass 46 = .ok (.iload 5, 2) := by decide +kernel
theorem dX4_pass_48 : decode cX4_pass 48 = .ok (.invokevirtual 84, 3) := by decide +kernel
theorem dX4_pass_51 : decode cX4_pass 51 = .ok (.ireturn, 1) := by decide +kernel
theorem dX4_pass_52 : decode cX4_pass 52 = .ok (.aload_n 0, 1) := by decide +kernel
theorem dX4_pass_53 : decode cX4_pass 53 = .ok (.getfield 51, 3) := by decide +kernel
theorem dX4_pass_56 : decode cX4_pass 56 = .ok (.aload_n 0, 1) := by decide +kernel
theorem dX4_pass_57 : decode cX4_pass 57 = .ok (.getfield 13, 3) := by decide +kernel
theorem dX4_pass_60 : decode cX4_pass 60 = .ok (.iload_n 1, 1) := by decide +kernel
theorem dX4_pass_61 : decode cX4_pass 61 = .ok (.aaload, 1) := by decide +kernel
theorem dX4_pass_62 : decode cX4_pass 62 = .ok (.iload_n 3, 1) := by decide +kernel
theorem dX4_pass_63 : decode cX4_pass 63 = .ok (.iload 4, 2) := by decide +kernel
theorem dX4_pass_65 : decode cX4_pass 65 = .ok (.invokevirtual 88, 3) := by decide +kernel
theorem dX4_pass_68 : decode cX4_pass 68 = .ok (.istore 6, 2) := by decide +kernel
theorem dX4_pass_70 : decode cX4_pass 70 = .ok (.iload 6, 2) := by decide +kernel
theorem dX4_pass_72 : decode cX4_pass 72 = .ok (.iconst (-1), 1) := by decide +kernel
theorem dX4_pass_73 : decode cX4_pass 73 = .ok (.if_icmp .eq 9, 3) := by decide +kernel
theorem dX4_pass_76 : decode cX4_pass 76 = .ok (.bipush (-100), 2) := by decide +kernel
theorem dX4_pass_78 : decode cX4_pass 78 = .ok (.iload 6, 2) := by decide +kernel
theorem dX4_pass_80 : decode cX4_pass 80 = .ok (.isub, 1) := by decide +kernel
theorem dX4_pass_81 : decode cX4_pass 81 = .ok (.ireturn, 1) := by decide +kernel
theorem dX4_pass_82 : decode cX4_pass 82 = .ok (.aload_n 0, 1) := by decide +kernel
theorem dX4_pass_83 : decode cX4_pass 83 = .ok (.invokevirtual 92, 3) := by decide +kernel
theorem dX4_pass_86 : decode cX4_pass 86 = .ok (.aload_n 0, 1) := by decide +kernel
theorem dX4_pass_87 : decode cX4_pass 87 = .ok (.getfield 47, 3) := by decide +kernel
theorem dX4_pass_90 : decode cX4_pass 90 = .ok (.getfield 95, 3) := by decide +kernel
theorem dX4_pass_93 : decode cX4_pass 93 = .ok (.ireturn, 1) := by decide +kernel
set_option maxRecDepth 20000 in
theorem ggX4_ofPerson_X4_isPerson : GoodIn wsX4_ofPerson wsX4_isPerson := goodIn_r _ [8, 1, 9, 10, 11, 7, 12, 22, 23, 24, 25, 26, 27, 28, 29, 30, 31, 32, 33, 34, 35, 36, 37, 38, 39, 40, 41] (by decide +kernel) (by decide +kernel)
set_option maxRecDepth 20000 in
theorem gX4_ofPerson_X4_isPerson : GoodIn wsX4_ofPerson (wsV RX4 98 RX4 yX4_isPerson wsX4_isPerson) := goodIn_app (goodIn_of _ (by decide +kernel)) ggX4_ofPerson_X4_isPerson
set_option maxRecDepth 20000 in
theorem ggX4_ofPerson_X1_isSmith : GoodIn wsX4_ofPerson wsX1_isSmith := goodIn_r _ [17, 18, 19, 7, 20, 35, 36, 37, 38, 39, 40, 41] (by decide +kernel) (by decide +kernel)
set_option maxRecDepth 20000 in
theorem gX4_ofPerson_X1_isSmith : GoodIn wsX4_ofPerson (wsV RX4 104 RX1 yX1_isSmith wsX1_isSmith) := goodIn_app (goodIn_of _ (by decide +kernel)) ggX4_ofPerson_X1_isSmith
set_option maxRecDepth 20000 in
theorem ggX4_ofPerson_X4_holds : GoodIn wsX4_ofPerson wsX4_holds := goodIn_r _ [20] (by decide +kernel) (by decide +kernel)
set_option maxRecDepth 20000 in
theorem gX4_ofPerson_X4_holds : GoodIn wsX4_ofPerson (va_wsS RX4 107 yX4_holds wsX4_holds) := goodIn_app (goodIn_of _ (by decide +kernel)) ggX4_ofPerson_X4_holds
theorem dX4_ofPerson_0 : decode cX4_ofPerson 0 = .ok (.aload_n 0, 1) := by decide +kernel
theorem dX4_ofPerson_1 : decode cX4_ofPerson 1 = .ok (.iload_n 1, 1) := by decide +kernel
theorem dX4_ofPerson_2 : decode cX4_ofPerson 2 = .ok (.invokevirtual 98, 3) := by decide +kernel
theorem dX4_ofPerson_5 : decode cX4_ofPerson 5 = .ok (.ifCond .ne 5, 3) := by decide +kernel
theorem dX4_ofPerson_8 : decode cX4_ofPerson 8 = .ok (.iconst (-1), 1) := by decide +kernel
theorem dX4_ofPerson_9 : decode cX4_ofPerson 9 = .ok (.ireturn, 1) := by decide +kernel
theorem dX4_ofPerson_10 : decode cX4_ofPerson 10 = .ok (.iload_n 2, 1) := by decide +kernel
theorem dX4_ofPerson_11 : decode cX4_ofPerson 11 = .ok (.tableswitch 69 0 2 #[25, 35, 52], 25) := by decide +kernel
theorem dX4_ofPerson_36 : decode cX4_ofPerson 36 = .ok (.aload_n 0, 1) := by decide +kernel
theorem dX4_ofPerson_37 : decode cX4_ofPerson 37 = .ok (.getfield 47, 3) := by decide +kernel
theorem dX4_ofPerson_40 : decode cX4_ofPerson 40 = .ok (.getfield 101, 3) := by decide +kernel
theorem dX4_ofPerson_43 : decode cX4_ofPerson 43 = .ok (.iload_n 1, 1) := by decide +kernel
theorem dX4_ofPerson_44 : decode cX4_ofPerson 44 = .ok (.iaload, 1) := by decide +kernel
theorem dX4_ofPerson_45 : decode cX4_ofPerson 45 = .ok (.ireturn, 1) := by decide +kernel
theorem dX4_ofPerson_46 : decode cX4_ofPerson 46 = .ok (.aload_n 0, 1) := by decide +kernel
theorem dX4_ofPerson_47 : decode cX4_ofPerson 47 = .ok (.getfield 47, 3) := by decide +kernel
theorem dX4_ofPerson_50 : decode cX4_ofPerson 50 = .ok (.iload_n 1, 1) := by decide +kernel
theorem dX4_ofPerson_51 : decode cX4_ofPerson 51 = .ok (.invokevirtual 104, 3) := by decide +kernel
theorem dX4_ofPerson_54 : decode cX4_ofPerson 54 = .ok (.ifCond .eq 7, 3) := by decide +kernel
theorem dX4_ofPerson_57 : decode cX4_ofPerson 57 = .ok (.iconst 1, 1) := by decide +kernel
theorem dX4_ofPerson_58 : decode cX4_ofPerson 58 = .ok (.goto 4, 3) := by decide +kernel
theorem dX4_ofPerson_61 : decode cX4_ofPerson 61 = .ok (.iconst 0, 1) := by decide +kernel
theorem dX4_ofPerson_62 : decode cX4_ofPerson 62 = .ok (.ireturn, 1) := by decide +kernel
theorem dX4_ofPerson_63 : decode cX4_ofPerson 63 = .ok (.aload_n 0, 1) := by decide +kernel
theorem dX4_ofPerson_64 : decode cX4_ofPerson 64 = .ok (.getfield 58, 3) := by decide +kernel
theorem dX4_ofPerson_67 : decode cX4_ofPerson 67 = .ok (.iload_n 1, 1) := by decide +kernel
theorem dX4_ofPerson_68 : decode cX4_ofPerson 68 = .ok (.invokestatic 107, 3) := by decide +kernel
theorem dX4_ofPerson_71 : decode cX4_ofPerson 71 = .ok (.ifCond .eq 7, 3) := by decide +kernel
theorem dX4_ofPerson_74 : decode cX4_ofPerson 74 = .ok (.iconst 1, 1) := by decide +kernel
theorem dX4_ofPerson_75 : decode cX4_ofPerson 75 = .ok (.goto 4, 3) := by decide +kernel
theorem dX4_ofPerson_78 : decode cX4_ofPerson 78 = .ok (.iconst 0, 1) := by decide +kernel
theorem dX4_ofPerson_79 : decode cX4_ofPerson 79 = .ok (.ireturn, 1) := by decide +kernel
theorem dX4_ofPerson_80 : decode cX4_ofPerson 80 = .ok (.bipush (-2), 2) := by decide +kernel
theorem dX4_ofPerson_82 : decode cX4_ofPerson 82 = .ok (.ireturn, 1) := by decide +kernel
set_option maxRecDepth 20000 in
theorem ggX4_ofWay_X4_isBelow : GoodIn wsX4_ofWay wsX4_isBelow := goodIn_r _ [9] (by decide +kernel) (by decide +kernel)
set_option maxRecDepth 20000 in
theorem gX4_ofWay_X4_isBelow : GoodIn wsX4_ofWay (va_wsS RX4 76 yX4_isBelow wsX4_isBelow) := goodIn_app (goodIn_of _ (by decide +kernel)) ggX4_ofWay_X4_isBelow
theorem dX4_ofWay_0 : decode cX4_ofWay 0 = .ok (.iload_n 1, 1) := by decide +kernel
theorem dX4_ofWay_1 : decode cX4_ofWay 1 = .ok (.aload_n 0, 1) := by decide +kernel
theorem dX4_ofWay_2 : decode cX4_ofWay 2 = .ok (.getfield 47, 3) := by decide +kernel
theorem dX4_ofWay_5 : decode cX4_ofWay 5 = .ok (.getfield 110, 3) := by decide +kernel
theorem dX4_ofWay_8 : decode cX4_ofWay 8 = .ok (.invokestatic 76, 3) := by decide +kernel
theorem dX4_ofWay_11 : decode cX4_ofWay 11 = .ok (.ifCond .ne 5, 3) := by decide +kernel
theorem dX4_ofWay_14 : decode cX4_ofWay 14 = .ok (.iconst (-1), 1) := by decide +kernel
theorem dX4_ofWay_15 : decode cX4_ofWay 15 = .ok (.ireturn, 1) := by decide +kernel
theorem dX4_ofWay_16 : decode cX4_ofWay 16 = .ok (.iload_n 2, 1) := by decide +kernel
theorem dX4_ofWay_17 : decode cX4_ofWay 17 = .ok (.tableswitch 57 0 2 #[27, 37, 47], 27) := by decide +kernel
theorem dX4_ofWay_44 : decode cX4_ofWay 44 = .ok (.aload_n 0, 1) := by decide +kernel
theorem dX4_ofWay_45 : decode cX4_ofWay 45 = .ok (.getfield 47, 3) := by decide +kernel
theorem dX4_ofWay_48 : decode cX4_ofWay 48 = .ok (.getfield 113, 3) := by decide +kernel
theorem dX4_ofWay_51 : decode cX4_ofWay 51 = .ok (.iload_n 1, 1) := by decide +kernel
theorem dX4_ofWay_52 : decode cX4_ofWay 52 = .ok (.iaload, 1) := by decide +kernel
theorem dX4_ofWay_53 : decode cX4_ofWay 53 = .ok (.ireturn, 1) := by decide +kernel
theorem dX4_ofWay_54 : decode cX4_ofWay 54 = .ok (.aload_n 0, 1) := by decide +kernel
theorem dX4_ofWay_55 : decode cX4_ofWay 55 = .ok (.getfield 47, 3) := by decide +kernel
theorem dX4_ofWay_58 : decode cX4_ofWay 58 = .ok (.getfield 116, 3) := by decide +kernel
theorem dX4_ofWay_61 : decode cX4_ofWay 61 = .ok (.iload_n 1, 1) := by decide +kernel
theorem dX4_ofWay_62 : decode cX4_ofWay 62 = .ok (.iaload, 1) := by decide +kernel
theorem dX4_ofWay_63 : decode cX4_ofWay 63 = .ok (.ireturn, 1) := by decide +kernel
theorem dX4_ofWay_64 : decode cX4_ofWay 64 = .ok (.aload_n 0, 1) := by decide +kernel
theorem dX4_ofWay_65 : decode cX4_ofWay 65 = .ok (.getfield 47, 3) := by decide +kernel
theorem dX4_ofWay_68 : decode cX4_ofWay 68 = .ok (.getfield 119, 3) := by decide +kernel
theorem dX4_ofWay_71 : decode cX4_ofWay 71 = .ok (.iload_n 1, 1) := by decide +kernel
theorem dX4_ofWay_72 : decode cX4_ofWay 72 = .ok (.iaload, 1) := by decide +kernel
theorem dX4_ofWay_73 : decode cX4_ofWay 73 = .ok (.ireturn, 1) := by decide +kernel
theorem dX4_ofWay_74 : decode cX4_ofWay 74 = .ok (.bipush (-2), 2) := by decide +kernel
theorem dX4_ofWay_76 : decode cX4_ofWay 76 = .ok (.ireturn, 1) := by decide +kernel
set_option maxRecDepth 20000 in
theorem ggX4_telling_X4_isPerson : GoodIn wsX4_telling wsX4_isPerson := goodIn_r _ [6, 7, 8, 9, 10, 5, 11, 35, 36, 37, 38, 39, 40, 41, 42, 43, 44, 45, 46, 47, 48, 49, 50, 51, 52, 53, 54] (by decide +kernel) (by decide +kernel)
set_option maxRecDepth 20000 in
theorem gX4_telling_X4_isPerson : GoodIn wsX4_telling (wsV RX4 98 RX4 yX4_isPerson wsX4_isPerson) := goodIn_app (goodIn_of _ (by decide +kernel)) ggX4_telling_X4_isPerson
set_option maxRecDepth 20000 in
theorem ggX4_telling_X4_isThingAndDay : GoodIn wsX4_telling wsX4_isThingAndDay := goodIn_r _ [14, 15, 16, 5, 17, 9, 10, 11, 18, 19, 20] (by decide +kernel) (by decide +kernel)
set_option maxRecDepth 20000 in
theorem gX4_telling_X4_isThingAndDay : GoodIn wsX4_telling (va_wsS RX4 122 yX4_isThingAndDay wsX4_isThingAndDay) := goodIn_app (goodIn_of _ (by decide +kernel)) ggX4_telling_X4_isThingAndDay
set_option maxRecDepth 20000 in
theorem ggX4_telling_X0_isFull : GoodIn wsX4_telling wsX0_isFull := goodIn_r _ [25, 26, 27, 55, 56, 57, 58, 59] (by decide +kernel) (by decide +kernel)
set_option maxRecDepth 20000 in
theorem gX4_telling_X0_isFull : GoodIn wsX4_telling (wsV RX4 125 RX0 yX0_isFull wsX0_isFull) := goodIn_app (goodIn_of _ (by decide +kernel)) ggX4_telling_X0_isFull
set_option maxRecDepth 20000 in
theorem ggX4_telling_X0_add : GoodIn wsX4_telling wsX0_add := goodIn_r _ [31, 26, 32, 33, 34, 55, 56, 57, 58, 59] (by decide +kernel) (by decide +kernel)
set_option maxRecDepth 20000 in
theorem gX4_telling_X0_add : GoodIn wsX4_telling (wsV RX4 129 RX0 yX0_add wsX0_add) := goodIn_app (goodIn_of _ (by decide +kernel)) ggX4_telling_X0_add
theorem dX4_telling_0 : decode cX4_telling 0 = .ok (.aload_n 0, 1) := by decide +kernel
theorem dX4_telling_1 : decode cX4_telling 1 = .ok (.iload_n 1, 1) := by decide +kernel
theorem dX4_telling_2 : decode cX4_telling 2 = .ok (.invokevirtual 98, 3) := by decide +kernel
theorem dX4_telling_5 : decode cX4_telling 5 = .ok (.ifCond .ne 5, 3) := by decide +kernel
theorem dX4_telling_8 : decode cX4_telling 8 = .ok (.iconst (-1), 1) := by decide +kernel
theorem dX4_telling_9 : decode cX4_telling 9 = .ok (.ireturn, 1) := by decide +kernel
theorem dX4_telling_10 : decode cX4_telling 10 = .ok (.iload_n 2, 1) := by decide +kernel
theorem dX4_telling_11 : decode cX4_telling 11 = .ok (.iload_n 3, 1) := by decide +kernel
theorem dX4_telling_12 : decode cX4_telling 12 = .ok (.invokestatic 122, 3) := by decide +kernel
theorem dX4_telling_15 : decode cX4_telling 15 = .ok (.ifCond .ne 6, 3) := by decide +kernel
theorem dX4_telling_18 : decode cX4_telling 18 = .ok (.bipush (-2), 2) := by decide +kernel
theorem dX4_telling_20 : decode cX4_telling 20 = .ok (.ireturn, 1) := by decide +kernel
theorem dX4_telling_21 : decode cX4_telling 21 = .ok (.aload_n 0, 1) := by decide +kernel
theorem dX4_telling_22 : decode cX4_telling 22 = .ok (.getfield 22, 3) := by decide +kernel
theorem dX4_telling_25 : decode cX4_telling 25 = .ok (.invokevirtual 125, 3) := by decide +kernel
theorem dX4_telling_28 : decode cX4_telling 28 = .ok (.ifCond .eq 6, 3) := by decide +kernel
theorem dX4_telling_31 : decode cX4_telling 31 = .ok (.bipush (-4), 2) := by decide +kernel
theorem dX4_telling_33 : decode cX4_telling 33 = .ok (.ireturn, 1) := by decide +kernel
theorem dX4_telling_34 : decode cX4_telling 34 = .ok (.aload_n 0, 1) := by decide +kernel
theorem dX4_telling_35 : decode cX4_telling 35 = .ok (.getfield 22, 3) := by decide +kernel
theorem dX4_telling_38 : decode cX4_telling 38 = .ok (.iload_n 1, 1) := by decide +kernel
theorem dX4_telling_39 : decode cX4_telling 39 = .ok (.iload_n 2, 1) := by decide +kernel
theorem dX4_telling_40 : decode cX4_telling 40 = .ok (.iload_n 3, 1) := by decide +kernel
theorem dX4_telling_41 : decode cX4_telling 41 = .ok (.invokevirtual 129, 3) := by decide +kernel
theorem dX4_telling_44 : decode cX4_telling 44 = .ok (.ireturn, 1) := by decide +kernel
set_option maxRecDepth 20000 in
theorem ggX4_undo_X0_takeBack : GoodIn wsX4_undo wsX0_takeBack := goodIn_r _ [6, 7, 21, 22, 23, 24, 25] (by decide +kernel) (by decide +kernel)
set_option maxRecDepth 20000 in
theorem gX4_undo_X0_takeBack : GoodIn wsX4_undo (wsV RX4 132 RX0 yX0_takeBack wsX0_takeBack) := goodIn_app (goodIn_of _ (by decide +kernel)) ggX4_undo_X0_takeBack
theorem dX4_undo_0 : decode cX4_undo 0 = .ok (.aload_n 0, 1) := by decide +kernel
theorem dX4_undo_1 : decode cX4_undo 1 = .ok (.getfield 22, 3) := by decide +kernel
theorem dX4_undo_4 : decode cX4_undo 4 = .ok (.iload_n 1, 1) := by decide +kernel
theorem dX4_undo_5 : decode cX4_undo 5 = .ok (.invokevirtual 132, 3) := by decide +kernel
theorem dX4_undo_8 : decode cX4_undo 8 = .ok (.ireturn, 1) := by decide +kernel
set_option maxRecDepth 20000 in
theorem ggX4_law_X4_hasNoPass : GoodIn wsX4_law wsX4_hasNoPass := goodIn_r _ [6, 7, 8, 9, 10, 11, 12, 13, 14, 15, 16, 17, 18, 19, 20, 21, 22, 23, 24, 25, 26, 27, 28] (by decide +kernel) (by decide +kernel)
set_option maxRecDepth 20000 in
theorem gX4_law_X4_hasNoPass : GoodIn wsX4_law (wsV RX4 135 RX4 yX4_hasNoPass wsX4_hasNoPass) := goodIn_app (goodIn_of _ (by decide +kernel)) ggX4_law_X4_hasNoPass
theorem dX4_law_0 : decode cX4_law 0 = .ok (.iload_n 1, 1) := by decide +kernel
theorem dX4_law_1 : decode cX4_law 1 = .ok (.iconst 1, 1) := by decide +kernel
theorem dX4_law_2 : decode cX4_law 2 = .ok (.if_icmp .lt 8, 3) := by decide +kernel
theorem dX4_law_5 : decode cX4_law 5 = .ok (.iload_n 1, 1) := by decide +kernel
theorem dX4_law_6 : decode cX4_law 6 = .ok (.iconst 4, 1) := by decide +kernel
theorem dX4_law_7 : decode cX4_law 7 = .ok (.if_icmp .le 6, 3) := by decide +kernel
theorem dX4_law_10 : decode cX4_law 10 = .ok (.bipush (-2), 2) := by decide +kernel
theorem dX4_law_12 : decode cX4_law 12 = .ok (.ireturn, 1) := by decide +kernel
theorem dX4_law_13 : decode cX4_law 13 = .ok (.aload_n 0, 1) := by decide +kernel
theorem dX4_law_14 : decode cX4_law 14 = .ok (.invokevirtual 135, 3) := by decide +kernel
theorem dX4_law_17 : decode cX4_law 17 = .ok (.ifCond .eq 6, 3) := by decide +kernel
theorem dX4_law_20 : decode cX4_law 20 = .ok (.bipush (-3), 2) := by decide +kernel
theorem dX4_law_22 : decode cX4_law 22 = .ok (.ireturn, 1) := by decide +kernel
theorem dX4_law_23 : decode cX4_law 23 = .ok (.aload_n 0, 1) := by decide +kernel
theorem dX4_law_24 : decode cX4_law 24 = .ok (.getfield 54, 3) := by decide +kernel
theorem dX4_law_27 : decode cX4_law 27 = .ok (.istore_n 2, 1) := by decide +kernel
theorem dX4_law_28 : decode cX4_law 28 = .ok (.aload_n 0, 1) := by decide +kernel
theorem dX4_law_29 : decode cX4_law 29 = .ok (.iload_n 1, 1) := by decide +kernel
theorem dX4_law_30 : decode cX4_law 30 = .ok (.putfield 54, 3) := by decide +kernel
theorem dX4_law_33 : decode cX4_law 33 = .ok (.iload_n 2, 1) := by decide +kernel
theorem dX4_law_34 : decode cX4_law 34 = .ok (.ireturn, 1) := by decide +kernel
set_option maxRecDepth 20000 in
theorem ggX4_fog_X4_isDay : GoodIn wsX4_fog wsX4_isDay := goodIn_r _ [5, 6, 7, 4, 8] (by decide +kernel) (by decide +kernel)
set_option maxRecDepth 20000 in
theorem gX4_fog_X4_isDay : GoodIn wsX4_fog (va_wsS RX4 138 yX4_isDay wsX4_isDay) := goodIn_app (goodIn_of _ (by decide +kernel)) ggX4_fog_X4_isDay
set_option maxRecDepth 20000 in
theorem ggX4_fog_X4_hasNoPass : GoodIn wsX4_fog wsX4_hasNoPass := goodIn_r _ [12, 13, 14, 19, 20, 21, 22, 23, 24, 25, 26, 27, 28, 29, 30, 31, 32, 33, 34, 35, 36, 37, 38] (by decide +kernel) (by decide +kernel)
set_option maxRecDepth 20000 in
theorem gX4_fog_X4_hasNoPass : GoodIn wsX4_fog (wsV RX4 135 RX4 yX4_hasNoPass wsX4_hasNoPass) := goodIn_app (goodIn_of _ (by decide +kernel)) ggX4_fog_X4_hasNoPass
set_option maxRecDepth 20000 in
theorem ggX4_fog_X4_isFoggy : GoodIn wsX4_fog wsX4_isFoggy := goodIn_r _ [18, 1, 19, 20, 21, 22, 23, 24, 25, 26, 27, 28, 29, 30, 31] (by decide +kernel) (by decide +kernel)
set_option maxRecDepth 20000 in
theorem gX4_fog_X4_isFoggy : GoodIn wsX4_fog (wsV RX4 141 RX4 yX4_isFoggy wsX4_isFoggy) := goodIn_app (goodIn_of _ (by decide +kernel)) ggX4_fog_X4_isFoggy
theorem dX4_fog_0 : decode cX4_fog 0 = .ok (.iload_n 1, 1) := by decide +kernel
theorem dX4_fog_1 : decode cX4_fog 1 = .ok (.invokestatic 138, 3) := by decide +kernel
theorem dX4_fog_4 : decode cX4_fog 4 = .ok (.ifCond .ne 6, 3) := by decide +kernel
theorem dX4_fog_7 : decode cX4_fog 7 = .ok (.bipush (-2), 2) := by decide +kernel
theorem dX4_fog_9 : decode cX4_fog 9 = .ok (.ireturn, 1) := by decide +kernel
theorem dX4_fog_10 : decode cX4_fog 10 = .ok (.aload_n 0, 1) := by decide +kernel
theorem dX4_fog_11 : decode cX4_fog 11 = .ok (.invokevirtual 135, 3) := by decide +kernel
theorem dX4_fog_14 : decode cX4_fog 14 = .ok (.ifCond .eq 6, 3) := by decide +kernel
theorem dX4_fog_17 : decode cX4_fog 17 = .ok (.bipush (-3), 2) := by decide +kernel
theorem dX4_fog_19 : decode cX4_fog 19 = .ok (.ireturn, 1) := by decide +kernel
theorem dX4_fog_20 : decode cX4_fog 20 = .ok (.aload_n 0, 1) := by decide +kernel
theorem dX4_fog_21 : decode cX4_fog 21 = .ok (.iload_n 1, 1) := by decide +kernel
theorem dX4_fog_22 : decode cX4_fog 22 = .ok (.invokevirtual 141, 3) := by decide +kernel
theorem dX4_fog_25 : decode cX4_fog 25 = .ok (.iload_n 2, 1) := by decide +kernel
theorem dX4_fog_26 : decode cX4_fog 26 = .ok (.if_icmp .ne 5, 3) := by decide +kernel
theorem dX4_fog_29 : decode cX4_fog 29 = .ok (.iconst 0, 1) := by decide +kernel
theorem dX4_fog_30 : decode cX4_fog 30 = .ok (.ireturn, 1) := by decide +kernel
theorem dX4_fog_31 : decode cX4_fog 31 = .ok (.aload_n 0, 1) := by decide +kernel
theorem dX4_fog_32 : decode cX4_fog 32 = .ok (.dup, 1) := by decide +kernel
theorem dX4_fog_33 : decode cX4_fog 33 = .ok (.getfield 61, 3) := by decide +kernel
theorem dX4_fog_36 : decode cX4_fog 36 = .ok (.lconst 1, 1) := by decide +kernel
theorem dX4_fog_37 : decode cX4_fog 37 = .ok (.iload_n 1, 1) := by decide +kernel
theorem dX4_fog_38 : decode cX4_fog 38 = .ok (.lshl, 1) := by decide +kernel
theorem dX4_fog_39 : decode cX4_fog 39 = .ok (.lxor, 1) := by decide +kernel
theorem dX4_fog_40 : decode cX4_fog 40 = .ok (.putfield 61, 3) := by decide +kernel
theorem dX4_fog_43 : decode cX4_fog 43 = .ok (.iconst 1, 1) := by decide +kernel
theorem dX4_fog_44 : decode cX4_fog 44 = .ok (.ireturn, 1) := by decide +kernel
set_option maxRecDepth 20000 in
theorem ggX4_hush_X4_isPerson : GoodIn wsX4_hush wsX4_isPerson := goodIn_r _ [6, 7, 8, 9, 10, 5, 11, 15, 16, 17, 18, 19, 20, 21, 22, 23, 24, 25, 26, 27, 28, 29, 30, 31, 32, 33, 34] (by decide +kernel) (by decide +kernel)
set_option maxRecDepth 20000 in
theorem gX4_hush_X4_isPerson : GoodIn wsX4_hush (wsV RX4 98 RX4 yX4_isPerson wsX4_isPerson) := goodIn_app (goodIn_of _ (by decide +kernel)) ggX4_hush_X4_isPerson
set_option maxRecDepth 20000 in
theorem ggX4_hush_X4_holds : GoodIn wsX4_hush wsX4_holds := goodIn_r _ [14] (by decide +kernel) (by decide +kernel)
set_option maxRecDepth 20000 in
theorem gX4_hush_X4_holds : GoodIn wsX4_hush (va_wsS RX4 107 yX4_holds wsX4_holds) := goodIn_app (goodIn_of _ (by decide +kernel)) ggX4_hush_X4_holds
theorem dX4_hush_0 : decode cX4_hush 0 = .ok (.aload_n 0, 1) := by decide +kernel
theorem dX4_hush_1 : decode cX4_hush 1 = .ok (.iload_n 1, 1) := by decide +kernel
theorem dX4_hush_2 : decode cX4_hush 2 = .ok (.invokevirtual 98, 3) := by decide +kernel
theorem dX4_hush_5 : decode cX4_hush 5 = .ok (.ifCond .ne 5, 3) := by decide +kernel
theorem dX4_hush_8 : decode cX4_hush 8 = .ok (.iconst (-1), 1) := by decide +kernel
theorem dX4_hush_9 : decode cX4_hush 9 = .ok (.ireturn, 1) := by decide +kernel
theorem dX4_hush_10 : decode cX4_hush 10 = .ok (.aload_n 0, 1) := by decide +kernel
theorem dX4_hush_11 : decode cX4_hush 11 = .ok (.getfield 58, 3) := by decide +kernel
theorem dX4_hush_14 : decode cX4_hush 14 = .ok (.iload_n 1, 1) := by decide +kernel
theorem dX4_hush_15 : decode cX4_hush 15 = .ok (.invokestatic 107, 3) := by decide +kernel
theorem dX4_hush_18 : decode cX4_hush 18 = .ok (.iload_n 2, 1) := by decide +kernel
theorem dX4_hush_19 : decode cX4_hush 19 = .ok (.if_icmp .ne 5, 3) := by decide +kernel
theorem dX4_hush_22 : decode cX4_hush 22 = .ok (.iconst 0, 1) := by decide +kernel
theorem dX4_hush_23 : decode cX4_hush 23 = .ok (.ireturn, 1) := by decide +kernel
theorem dX4_hush_24 : decode cX4_hush 24 = .ok (.aload_n 0, 1) := by decide +kernel
theorem dX4_hush_25 : decode cX4_hush 25 = .ok (.dup, 1) := by decide +kernel
theorem dX4_hush_26 : decode cX4_hush 26 = .ok (.getfield 58, 3) := by decide +kernel
theorem dX4_hush_29 : decode cX4_hush 29 = .ok (.iconst 1, 1) := by decide +kernel
theorem dX4_hush_30 : decode cX4_hush 30 = .ok (.iload_n 1, 1) := by decide +kernel
theorem dX4_hush_31 : decode cX4_hush 31 = .ok (.ishl, 1) := by decide +kernel
theorem dX4_hush_32 : decode cX4_hush 32 = .ok (.ixor, 1) := by decide +kernel
theorem dX4_hush_33 : decode cX4_hush 33 = .ok (.putfield 58, 3) := by decide +kernel
theorem dX4_hush_36 : decode cX4_hush 36 = .ok (.iconst 1, 1) := by decide +kernel
theorem dX4_hush_37 : decode cX4_hush 37 = .ok (.ireturn, 1) := by decide +kernel
set_option maxRecDepth 20000 in
theorem ggX4_hears_X4_isPerson : GoodIn wsX4_hears wsX4_isPerson := goodIn_r _ [6, 7, 8, 9, 10, 5, 11, 82, 83, 84, 85, 86, 87, 88, 89, 90, 91, 92, 93, 94, 95, 96, 97, 98, 99, 100, 101] (by decide +kernel) (by decide +kernel)
set_option maxRecDepth 20000 in
theorem gX4_hears_X4_isPerson : GoodIn wsX4_hears (wsV RX4 98 RX4 yX4_isPerson wsX4_isPerson) := goodIn_app (goodIn_of _ (by decide +kernel)) ggX4_hears_X4_isPerson
set_option maxRecDepth 20000 in
theorem ggX4_hears_X4_isThing : GoodIn wsX4_hears wsX4_isThing := goodIn_r _ [14, 9, 10, 5, 11] (by decide +kernel) (by decide +kernel)
set_option maxRecDepth 20000 in
theorem gX4_hears_X4_isThing : GoodIn wsX4_hears (va_wsS RX4 144 yX4_isThing wsX4_isThing) := goodIn_app (goodIn_of _ (by decide +kernel)) ggX4_hears_X4_isThing
set_option maxRecDepth 20000 in
theorem ggX4_hears_X4_isBelow : GoodIn wsX4_hears wsX4_isBelow := goodIn_r _ [11] (by decide +kernel) (by decide +kernel)
set_option maxRecDepth 20000 in
theorem gX4_hears_X4_isBelow : GoodIn wsX4_hears (va_wsS RX4 76 yX4_isBelow wsX4_isBelow) := goodIn_app (goodIn_of _ (by decide +kernel)) ggX4_hears_X4_isBelow
set_option maxRecDepth 20000 in
theorem ggX4_hears_X4_talkAsItIs : GoodIn wsX4_hears wsX4_talkAsItIs := goodIn_r _ [18, 1, 7, 19, 20, 21, 22, 5, 23, 24, 25, 26, 27, 28, 29, 30, 31, 32, 33, 34, 35, 36, 37, 38, 39, 40, 41, 42, 43, 44, 45, 46, 47, 48, 49, 50, 51, 52, 53, 54, 55, 56, 57, 58, 59, 60, 61, 62, 63, 64, 65, 66, 67, 68, 69, 70, 71, 72, 73, 74, 75, 76, 77, 82, 83, 84, 85, 86, 87, 88, 89, 90, 91, 92, 93, 94, 102, 103, 104, 105, 106, 107, 95, 96, 97, 98, 99, 100, 101] (by decide +kernel) (by decide +kernel)
set_option maxRecDepth 20000 in
theorem gX4_hears_X4_talkAsItIs : GoodIn wsX4_hears (wsV RX4 147 RX4 yX4_talkAsItIs wsX4_talkAsItIs) := goodIn_app (goodIn_of _ (by decide +kernel)) ggX4_hears_X4_talkAsItIs
set_option maxRecDepth 20000 in
theorem ggX4_hears_X3_firstDay : GoodIn wsX4_hears wsX3_firstDay := goodIn_r _ [81, 34, 43, 44, 32, 45, 107] (by decide +kernel) (by decide +kernel)
set_option maxRecDepth 20000 in
theorem gX4_hears_X3_firstDay : GoodIn wsX4_hears (wsV RX4 150 RX3 yX3_firstDay wsX3_firstDay) := goodIn_app (goodIn_of _ (by decide +kernel)) ggX4_hears_X3_firstDay
theorem dX4_hears_0 : decode cX4_hears 0 = .ok (.aload_n 0, 1) := by decide +kernel
theorem dX4_hears_1 : decode cX4_hears 1 = .ok (.iload_n 1, 1) := by decide +kernel
theorem dX4_hears_2 : decode cX4_hears 2 = .ok (.invokevirtual 98, 3) := by decide +kernel
theorem dX4_hears_5 : decode cX4_hears 5 = .ok (.ifCond .ne 5, 3) := by decide +kernel
theorem dX4_hears_8 : decode cX4_hears 8 = .ok (.iconst (-1), 1) := by decide +kernel
theorem dX4_hears_9 : decode cX4_hears 9 = .ok (.ireturn, 1) := by decide +kernel
theorem dX4_hears_10 : decode cX4_hears 10 = .ok (.iload_n 2, 1) := by decide +kernel
theorem dX4_hears_11 : decode cX4_hears 11 = .ok (.invokestatic 144, 3) := by decide +kernel
theorem dX4_hears_14 : decode cX4_hears 14 = .ok (.ifCond .eq 12, 3) := by decide +kernel
theorem dX4_hears_17 : decode cX4_hears 17 = .ok (.iload_n 3, 1) := by decide +kernel
theorem dX4_hears_18 : decode cX4_hears 18 = .ok (.bipush 14, 2) := by decide +kernel
theorem dX4_hears_20 : decode cX4_hears 20 = .ok (.invokestatic 76, 3) := by decide +kernel
theorem dX4_hears_23 : decode cX4_hears 23 = .ok (.ifCond .ne 6, 3) := by decide +kernel
theorem dX4_hears_26 : decode cX4_hears 26 = .ok (.bipush (-2), 2) := by decide +kernel
theorem dX4_hears_28 : decode cX4_hears 28 = .ok (.ireturn, 1) := by decide +kernel
theorem dX4_hears_29 : decode cX4_hears 29 = .ok (.aload_n 0, 1) := by decide +kernel
theorem dX4_hears_30 : decode cX4_hears 30 = .ok (.invokevirtual 147, 3) := by decide +kernel
theorem dX4_hears_33 : decode cX4_hears 33 = .ok (.aload_n 0, 1) := by decide +kernel
theorem dX4_hears_34 : decode cX4_hears 34 = .ok (.getfield 36, 3) := by decide +kernel
theorem dX4_hears_37 : decode cX4_hears 37 = .ok (.iload_n 1, 1) := by decide +kernel
theorem dX4_hears_38 : decode cX4_hears 38 = .ok (.iload_n 2, 1) := by decide +kernel
theorem dX4_hears_39 : decode cX4_hears 39 = .ok (.iload_n 3, 1) := by decide +kernel
theorem dX4_hears_40 : decode cX4_hears 40 = .ok (.invokevirtual 150, 3) := by decide +kernel
theorem dX4_hears_43 : decode cX4_hears 43 = .ok (.ireturn, 1) := by decide +kernel
set_option maxRecDepth 20000 in
theorem ggX4_count_X4_isPerson : GoodIn wsX4_count wsX4_isPerson := goodIn_r _ [6, 7, 8, 9, 10, 5, 11, 95, 96, 97, 98, 99, 100, 101, 102, 103, 104, 105, 106, 107, 108, 109, 110, 111, 112, 113, 114] (by decide +kernel) (by decide +kernel)
set_option maxRecDepth 20000 in
theorem gX4_count_X4_isPerson : GoodIn wsX4_count (wsV RX4 98 RX4 yX4_isPerson wsX4_isPerson) := goodIn_app (goodIn_of _ (by decide +kernel)) ggX4_count_X4_isPerson
set_option maxRecDepth 20000 in
theorem ggX4_count_X4_isThingAndDay : GoodIn wsX4_count wsX4_isThingAndDay := goodIn_r _ [14, 15, 16, 5, 17, 9, 10, 11, 18, 19, 20] (by decide +kernel) (by decide +kernel)
set_option maxRecDepth 20000 in
theorem gX4_count_X4_isThingAndDay : GoodIn wsX4_count (va_wsS RX4 122 yX4_isThingAndDay wsX4_isThingAndDay) := goodIn_app (goodIn_of _ (by decide +kernel)) ggX4_count_X4_isThingAndDay
set_option maxRecDepth 20000 in
theorem ggX4_count_X4_talkAsItIs : GoodIn wsX4_count wsX4_talkAsItIs := goodIn_r _ [24, 1, 7, 25, 26, 27, 28, 5, 29, 30, 31, 32, 33, 34, 35, 36, 37, 38, 39, 40, 41, 42, 43, 44, 45, 46, 47, 48, 49, 50, 51, 52, 53, 54, 55, 56, 57, 58, 59, 60, 61, 62, 63, 64, 65, 66, 67, 68, 69, 70, 71, 72, 73, 74, 75, 76, 77, 78, 79, 80, 81, 82, 83, 95, 96, 97, 98, 99, 100, 101, 102, 103, 104, 105, 106, 107, 115, 116, 117, 118, 119, 120, 108, 109, 110, 111, 112, 113, 114] (by decide +kernel) (by decide +kernel)
set_option maxRecDepth 20000 in
theorem gX4_count_X4_talkAsItIs : GoodIn wsX4_count (wsV RX4 147 RX4 yX4_talkAsItIs wsX4_talkAsItIs) := goodIn_app (goodIn_of _ (by decide +kernel)) ggX4_count_X4_talkAsItIs
set_option maxRecDepth 20000 in
theorem ggX4_count_X3_originsBy : GoodIn wsX4_count wsX3_originsBy := goodIn_r _ [87, 40, 83, 88, 89, 90, 91, 92, 93, 94, 120] (by decide +kernel) (by decide +kernel)
set_option maxRecDepth 20000 in
theorem gX4_count_X3_originsBy : GoodIn wsX4_count (wsV RX4 153 RX3 yX3_originsBy wsX3_originsBy) := goodIn_app (goodIn_of _ (by decide +kernel)) ggX4_count_X3_originsBy
theorem dX4_count_0 : decode cX4_count 0 = .ok (.aload_n 0, 1) := by decide +kernel
theorem dX4_count_1 : decode cX4_count 1 = .ok (.iload_n 1, 1) := by decide +kernel
theorem dX4_count_2 : decode cX4_count 2 = .ok (.invokevirtual 98, 3) := by decide +kernel
theorem dX4_count_5 : decode cX4_count 5 = .ok (.ifCond .ne 5, 3) := by decide +kernel
theorem dX4_count_8 : decode cX4_count 8 = .ok (.iconst (-1), 1) := by decide +kernel
theorem dX4_count_9 : decode cX4_count 9 = .ok (.ireturn, 1) := by decide +kernel
theorem dX4_count_10 : decode cX4_count 10 = .ok (.iload_n 2, 1) := by decide +kernel
theorem dX4_count_11 : decode cX4_count 11 = .ok (.iload_n 3, 1) := by decide +kernel
theorem dX4_count_12 : decode cX4_count 12 = .ok (.invokestatic 122, 3) := by decide +kernel
theorem dX4_count_15 : decode cX4_count 15 = .ok (.ifCond .ne 6, 3) := by decide +kernel
theorem dX4_count_18 : decode cX4_count 18 = .ok (.bipush (-2), 2) := by decide +kernel
theorem dX4_count_20 : decode cX4_count 20 = .ok (.ireturn, 1) := by decide +kernel
theorem dX4_count_21 : decode cX4_count 21 = .ok (.aload_n 0, 1) := by decide +kernel
theorem dX4_count_22 : decode cX4_count 22 = .ok (.invokevirtual 147, 3) := by decide +kernel
theorem dX4_count_25 : decode cX4_count 25 = .ok (.aload_n 0, 1) := by decide +kernel
theorem dX4_count_26 : decode cX4_count 26 = .ok (.getfield 36, 3) := by decide +kernel
theorem dX4_count_29 : decode cX4_count 29 = .ok (.iload_n 1, 1) := by decide +kernel
theorem dX4_count_30 : decode cX4_count 30 = .ok (.iload_n 2, 1) := by decide +kernel
theorem dX4_count_31 : decode cX4_count 31 = .ok (.iload_n 3, 1) := by decide +kernel
theorem dX4_count_32 : decode cX4_count 32 = .ok (.invokevirtual 153, 3) := by decide +kernel
theorem dX4_count_35 : decode cX4_count 35 = .ok (.ireturn, 1) := by decide +kernel
set_option maxRecDepth 20000 in
theorem ggX4_forges_X4_isPerson : GoodIn wsX4_forges wsX4_isPerson := goodIn_r _ [6, 1, 7, 8, 9, 5, 10, 105, 106, 107, 108, 109, 110, 111, 112, 113, 114, 115, 116, 117, 118, 119, 120, 121, 122, 123, 124] (by decide +kernel) (by decide +kernel)
set_option maxRecDepth 20000 in
theorem gX4_forges_X4_isPerson : GoodIn wsX4_forges (wsV RX4 98 RX4 yX4_isPerson wsX4_isPerson) := goodIn_app (goodIn_of _ (by decide +kernel)) ggX4_forges_X4_isPerson
set_option maxRecDepth 20000 in
theorem ggX4_forges_X4_isThing : GoodIn wsX4_forges wsX4_isThing := goodIn_r _ [13, 8, 9, 5, 10] (by decide +kernel) (by decide +kernel)
set_option maxRecDepth 20000 in
theorem gX4_forges_X4_isThing : GoodIn wsX4_forges (va_wsS RX4 144 yX4_isThing wsX4_isThing) := goodIn_app (goodIn_of _ (by decide +kernel)) ggX4_forges_X4_isThing
set_option maxRecDepth 20000 in
theorem ggX4_forges_X1_isSmith : GoodIn wsX4_forges wsX1_isSmith := goodIn_r _ [18, 19, 20, 5, 21, 118, 119, 120, 121, 122, 123, 124] (by decide +kernel) (by decide +kernel)
set_option maxRecDepth 20000 in
theorem gX4_forges_X1_isSmith : GoodIn wsX4_forges (wsV RX4 104 RX1 yX1_isSmith wsX1_isSmith) := goodIn_app (goodIn_of _ (by decide +kernel)) ggX4_forges_X1_isSmith
set_option maxRecDepth 20000 in
theorem ggX4_forges_X4_talkAsItIs : GoodIn wsX4_forges wsX4_talkAsItIs := goodIn_r _ [25, 26, 1, 27, 28, 29, 30, 5, 31, 32, 33, 34, 35, 36, 37, 38, 39, 40, 41, 42, 43, 44, 45, 46, 47, 48, 49, 50, 51, 52, 53, 54, 55, 56, 57, 58, 59, 60, 61, 62, 63, 64, 65, 66, 67, 68, 69, 70, 20, 21, 71, 72, 73, 74, 75, 76, 77, 78, 79, 80, 81, 82, 83, 105, 106, 107, 108, 109, 110, 111, 112, 113, 114, 115, 116, 117, 125, 126, 127, 128, 129, 130, 118, 119, 120, 121, 122, 123, 124] (by decide +kernel) (by decide +kernel)
set_option maxRecDepth 20000 in
theorem gX4_forges_X4_talkAsItIs : GoodIn wsX4_forges (wsV RX4 147 RX4 yX4_talkAsItIs wsX4_talkAsItIs) := goodIn_app (goodIn_of _ (by decide +kernel)) ggX4_forges_X4_talkAsItIs
set_option maxRecDepth 20000 in
theorem ggX4_forges_X4_forgeDay : GoodIn wsX4_forges wsX4_forgeDay := goodIn_r _ [87, 26, 88, 89, 90, 91, 40, 92, 42, 83, 93, 94, 95, 96, 97, 98, 99, 100, 101, 102, 5, 103, 104, 105, 106, 107, 108, 109, 110, 111, 112, 113, 114, 115, 116, 117, 130] (by decide +kernel) (by decide +kernel)
set_option maxRecDepth 20000 in
theorem gX4_forges_X4_forgeDay : GoodIn wsX4_forges (wsV RX4 156 RX4 yX4_forgeDay wsX4_forgeDay) := goodIn_app (goodIn_of _ (by decide +kernel)) ggX4_forges_X4_forgeDay
theorem dX4_forges_0 : decode cX4_forges 0 = .ok (.aload_n 0, 1) := by decide +kernel
theorem dX4_forges_1 : decode cX4_forges 1 = .ok (.iload_n 1, 1) := by decide +kernel
theorem dX4_forges_2 : decode cX4_forges 2 = .ok (.invokevirtual 98, 3) := by decide +kernel
theorem dX4_forges_5 : decode cX4_forges 5 = .ok (.ifCond .ne 5, 3) := by decide +kernel
theorem dX4_forges_8 : decode cX4_forges 8 = .ok (.iconst (-1), 1) := by decide +kernel
theorem dX4_forges_9 : decode cX4_forges 9 = .ok (.ireturn, 1) := by decide +kernel
theorem dX4_forges_10 : decode cX4_forges 10 = .ok (.iload_n 2, 1) := by decide +kernel
theorem dX4_forges_11 : decode cX4_forges 11 = .ok (.invokestatic 144, 3) := by decide +kernel
theorem dX4_forges_14 : decode cX4_forges 14 = .ok (.ifCond .ne 6, 3) := by decide +kernel
theorem dX4_forges_17 : decode cX4_forges 17 = .ok (.bipush (-2), 2) := by decide +kernel
theorem dX4_forges_19 : decode cX4_forges 19 = .ok (.ireturn, 1) := by decide +kernel
theorem dX4_forges_20 : decode cX4_forges 20 = .ok (.aload_n 0, 1) := by decide +kernel
theorem dX4_forges_21 : decode cX4_forges 21 = .ok (.getfield 47, 3) := by decide +kernel
theorem dX4_forges_24 : decode cX4_forges 24 = .ok (.iload_n 1, 1) := by decide +kernel
theorem dX4_forges_25 : decode cX4_forges 25 = .ok (.invokevirtual 104, 3) := by decide +kernel
theorem dX4_forges_28 : decode cX4_forges 28 = .ok (.ifCond .ne 6, 3) := by decide +kernel
theorem dX4_forges_31 : decode cX4_forges 31 = .ok (.bipush (-3), 2) := by decide +kernel
theorem dX4_forges_33 : decode cX4_forges 33 = .ok (.ireturn, 1) := by decide +kernel
theorem dX4_forges_34 : decode cX4_forges 34 = .ok (.aload_n 0, 1) := by decide +kernel
theorem dX4_forges_35 : decode cX4_forges 35 = .ok (.invokevirtual 147, 3) := by decide +kernel
theorem dX4_forges_38 : decode cX4_forges 38 = .ok (.aload_n 0, 1) := by decide +kernel
theorem dX4_forges_39 : decode cX4_forges 39 = .ok (.iload_n 1, 1) := by decide +kernel
theorem dX4_forges_40 : decode cX4_forges 40 = .ok (.iload_n 2, 1) := by decide +kernel
theorem dX4_forges_41 : decode cX4_forges 41 = .ok (.invokevirtual 156, 3) := by decide +kernel
theorem dX4_forges_44 : decode cX4_forges 44 = .ok (.ireturn, 1) := by decide +kernel
set_option maxRecDepth 20000 in
theorem ggX4_works_X4_isDay : GoodIn wsX4_works wsX4_isDay := goodIn_r _ [4, 5, 6, 3, 7] (by decide +kernel) (by decide +kernel)
set_option maxRecDepth 20000 in
theorem gX4_works_X4_isDay : GoodIn wsX4_works (va_wsS RX4 138 yX4_isDay wsX4_isDay) := goodIn_app (goodIn_of _ (by decide +kernel)) ggX4_works_X4_isDay
set_option maxRecDepth 20000 in
theorem ggX4_works_X4_hasNoPass : GoodIn wsX4_works wsX4_hasNoPass := goodIn_r _ [11, 12, 13, 113, 114, 115, 116, 117, 118, 119, 120, 121, 122, 123, 124, 125, 126, 127, 128, 129, 130, 131, 132] (by decide +kernel) (by decide +kernel)
set_option maxRecDepth 20000 in
theorem gX4_works_X4_hasNoPass : GoodIn wsX4_works (wsV RX4 135 RX4 yX4_hasNoPass wsX4_hasNoPass) := goodIn_app (goodIn_of _ (by decide +kernel)) ggX4_works_X4_hasNoPass
set_option maxRecDepth 20000 in
theorem ggX4_works_X4_talkAsItIs : GoodIn wsX4_works wsX4_talkAsItIs := goodIn_r _ [17, 18, 12, 19, 20, 21, 22, 3, 23, 24, 25, 26, 27, 28, 29, 30, 31, 32, 33, 34, 35, 36, 37, 38, 39, 40, 41, 42, 43, 44, 45, 46, 47, 48, 49, 50, 51, 52, 53, 54, 55, 56, 57, 58, 59, 60, 61, 62, 63, 64, 65, 66, 67, 68, 69, 70, 71, 72, 73, 74, 75, 76, 77, 113, 114, 115, 116, 117, 118, 119, 120, 121, 122, 123, 124, 125, 133, 134, 135, 136, 137, 138, 126, 127, 128, 129, 130, 131, 132] (by decide +kernel) (by decide +kernel)
set_option maxRecDepth 20000 in
theorem gX4_works_X4_talkAsItIs : GoodIn wsX4_works (wsV RX4 147 RX4 yX4_talkAsItIs wsX4_talkAsItIs) := goodIn_app (goodIn_of _ (by decide +kernel)) ggX4_works_X4_talkAsItIs
set_option maxRecDepth 20000 in
theorem ggX4_works_X4_worksBy : GoodIn wsX4_works wsX4_worksBy := goodIn_r _ [81, 12, 13, 82, 83, 84, 85, 86, 87, 63, 3, 64, 88, 89, 90, 91, 92, 93, 94, 95, 18, 96, 97, 98, 99, 32, 100, 34, 77, 101, 102, 103, 104, 105, 106, 107, 108, 109, 110, 111, 112, 113, 114, 115, 116, 117, 118, 119, 120, 121, 122, 123, 124, 125, 126, 127, 128, 129, 130, 131, 132, 138] (by decide +kernel) (by decide +kernel)
set_option maxRecDepth 20000 in
theorem gX4_works_X4_worksBy : GoodIn wsX4_works (wsV RX4 160 RX4 yX4_worksBy wsX4_worksBy) := goodIn_app (goodIn_of _ (by decide +kernel)) ggX4_works_X4_worksBy
theorem dX4_works_0 : decode cX4_works 0 = .ok (.iload_n 1, 1) := by decide +kernel
theorem dX4_works_1 : decode cX4_works 1 = .ok (.invokestatic 138, 3) := by decide +kernel
theorem dX4_works_4 : decode cX4_works 4 = .ok (.ifCond .ne 6, 3) := by decide +kernel
theorem dX4_works_7 : decode cX4_works 7 = .ok (.bipush (-2), 2) := by decide +kernel
theorem dX4_works_9 : decode cX4_works 9 = .ok (.ireturn, 1) := by decide +kernel
theorem dX4_works_10 : decode cX4_works 10 = .ok (.aload_n 0, 1) := by decide +kernel
theorem dX4_works_11 : decode cX4_works 11 = .ok (.invokevirtual 135, 3) := by decide +kernel
theorem dX4_works_14 : decode cX4_works 14 = .ok (.ifCond .eq 6, 3) := by decide +kernel
theorem dX4_works_17 : decode cX4_works 17 = .ok (.bipush (-3), 2) := by decide +kernel
theorem dX4_works_19 : decode cX4_works 19 = .ok (.ireturn, 1) := by decide +kernel
theorem dX4_works_20 : decode cX4_works 20 = .ok (.aload_n 0, 1) := by decide +kernel
theorem dX4_works_21 : decode cX4_works 21 = .ok (.invokevirtual 147, 3) := by decide +kernel
theorem dX4_works_24 : decode cX4_works 24 = .ok (.aload_n 0, 1) := by decide +kernel
theorem dX4_works_25 : decode cX4_works 25 = .ok (.iload_n 1, 1) := by decide +kernel
theorem dX4_works_26 : decode cX4_works 26 = .ok (.invokevirtual 160, 3) := by decide +kernel
theorem dX4_works_29 : decode cX4_works 29 = .ok (.ireturn, 1) := by decide +kernel
set_option maxRecDepth 20000 in
theorem ggX4_path_X4_isPerson : GoodIn wsX4_path wsX4_isPerson := goodIn_r _ [7, 8, 9, 10, 11, 6, 12, 98, 99, 100, 101, 102, 103, 104, 105, 106, 107, 108, 109, 110, 111, 112, 113, 114, 115, 116, 117] (by decide +kernel) (by decide +kernel)
set_option maxRecDepth 20000 in
theorem gX4_path_X4_isPerson : GoodIn wsX4_path (wsV RX4 98 RX4 yX4_isPerson wsX4_isPerson) := goodIn_app (goodIn_of _ (by decide +kernel)) ggX4_path_X4_isPerson
set_option maxRecDepth 20000 in
theorem ggX4_path_X4_isThing : GoodIn wsX4_path wsX4_isThing := goodIn_r _ [15, 10, 11, 6, 12] (by decide +kernel) (by decide +kernel)
set_option maxRecDepth 20000 in
theorem gX4_path_X4_isThing : GoodIn wsX4_path (va_wsS RX4 144 yX4_isThing wsX4_isThing) := goodIn_app (goodIn_of _ (by decide +kernel)) ggX4_path_X4_isThing
set_option maxRecDepth 20000 in
theorem ggX4_path_X4_isBelow : GoodIn wsX4_path wsX4_isBelow := goodIn_r _ [12] (by decide +kernel) (by decide +kernel)
set_option maxRecDepth 20000 in
theorem gX4_path_X4_isBelow : GoodIn wsX4_path (va_wsS RX4 76 yX4_isBelow wsX4_isBelow) := goodIn_app (goodIn_of _ (by decide +kernel)) ggX4_path_X4_isBelow
set_option maxRecDepth 20000 in
theorem ggX4_path_X4_talkAsItIs : GoodIn wsX4_path wsX4_talkAsItIs := goodIn_r _ [19, 1, 8, 20, 21, 22, 23, 6, 24, 2, 25, 26, 27, 28, 29, 30, 31, 32, 33, 34, 35, 36, 37, 38, 39, 40, 41, 42, 43, 44, 45, 46, 47, 48, 49, 50, 51, 52, 53, 54, 55, 56, 57, 58, 59, 60, 61, 62, 63, 64, 65, 66, 67, 68, 69, 70, 71, 72, 73, 74, 75, 76, 77, 98, 99, 100, 101, 102, 103, 104, 105, 106, 107, 108, 109, 110, 118, 119, 120, 121, 122, 123, 111, 112, 113, 114, 115, 116, 117] (by decide +kernel) (by decide +kernel)
set_option maxRecDepth 20000 in
theorem gX4_path_X4_talkAsItIs : GoodIn wsX4_path (wsV RX4 147 RX4 yX4_talkAsItIs wsX4_talkAsItIs) := goodIn_app (goodIn_of _ (by decide +kernel)) ggX4_path_X4_talkAsItIs
set_option maxRecDepth 20000 in
theorem ggX4_path_X3_firstDay : GoodIn wsX4_path wsX3_firstDay := goodIn_r _ [81, 34, 43, 44, 32, 45, 123] (by decide +kernel) (by decide +kernel)
set_option maxRecDepth 20000 in
theorem gX4_path_X3_firstDay : GoodIn wsX4_path (wsV RX4 150 RX3 yX3_firstDay wsX3_firstDay) := goodIn_app (goodIn_of _ (by decide +kernel)) ggX4_path_X3_firstDay
set_option maxRecDepth 20000 in
theorem ggX4_path_X0_has : GoodIn wsX4_path wsX0_has := goodIn_r _ [86, 87, 88, 89, 11, 6, 12, 118, 119, 120, 121, 122] (by decide +kernel) (by decide +kernel)
set_option maxRecDepth 20000 in
theorem gX4_path_X0_has : GoodIn wsX4_path (wsV RX4 163 RX0 yX0_has wsX0_has) := goodIn_app (goodIn_of _ (by decide +kernel)) ggX4_path_X0_has
set_option maxRecDepth 20000 in
theorem ggX4_path_X3_rumour : GoodIn wsX4_path wsX3_rumour := goodIn_r _ [45] (by decide +kernel) (by decide +kernel)
set_option maxRecDepth 20000 in
theorem gX4_path_X3_rumour : GoodIn wsX4_path (va_wsS RX4 167 yX3_rumour wsX3_rumour) := goodIn_app (goodIn_of _ (by decide +kernel)) ggX4_path_X3_rumour
set_option maxRecDepth 20000 in
theorem ggX4_path_X4_wayOf : GoodIn wsX4_path wsX4_wayOf := goodIn_r _ [94, 8, 95, 96, 1, 20, 97, 58, 59, 32, 60, 51, 61, 62, 63, 6, 64, 65, 66, 67, 68, 34, 69, 70, 71, 72, 73, 74, 75, 76, 77, 98, 99, 100, 101, 102, 103, 104, 105, 106, 107, 108, 109, 110, 111, 112, 113, 114, 115, 116, 117, 123] (by decide +kernel) (by decide +kernel)
set_option maxRecDepth 20000 in
theorem gX4_path_X4_wayOf : GoodIn wsX4_path (wsV RX4 171 RX4 yX4_wayOf wsX4_wayOf) := goodIn_app (goodIn_of _ (by decide +kernel)) ggX4_path_X4_wayOf
theorem dX4_path_0 : decode cX4_path 0 = .ok (.aload_n 0, 1) := by decide +kernel
theorem dX4_path_1 : decode cX4_path 1 = .ok (.iload_n 1, 1) := by decide +kernel
theorem dX4_path_2 : decode cX4_path 2 = .ok (.invokevirtual 98, 3) := by decide +kernel
theorem dX4_path_5 : decode cX4_path 5 = .ok (.ifCond .ne 5, 3) := by decide +kernel
theorem dX4_path_8 : decode cX4_path 8 = .ok (.iconst (-1), 1) := by decide +kernel
theorem dX4_path_9 : decode cX4_path 9 = .ok (.ireturn, 1) := by decide +kernel
theorem dX4_path_10 : decode cX4_path 10 = .ok (.iload_n 2, 1) := by decide +kernel
theorem dX4_path_11 : decode cX4_path 11 = .ok (.invokestatic 144, 3) := by decide +kernel
theorem dX4_path_14 : decode cX4_path 14 = .ok (.ifCond .eq 12, 3) := by decide +kernel
theorem dX4_path_17 : decode cX4_path 17 = .ok (.iload_n 3, 1) := by decide +kernel
theorem dX4_path_18 : decode cX4_path 18 = .ok (.bipush 14, 2) := by decide +kernel
theorem dX4_path_20 : decode cX4_path 20 = .ok (.invokestatic 76, 3) := by decide +kernel
theorem dX4_path_23 : decode cX4_path 23 = .ok (.ifCond .ne 6, 3) := by decide +kernel
theorem dX4_path_26 : decode cX4_path 26 = .ok (.bipush (-2), 2) := by decide +kernel
theorem dX4_path_28 : decode cX4_path 28 = .ok (.ireturn, 1) := by decide +kernel
theorem dX4_path_29 : decode cX4_path 29 = .ok (.aload_n 0, 1) := by decide +kernel
theorem dX4_path_30 : decode cX4_path 30 = .ok (.invokevirtual 147, 3) := by decide +kernel
theorem dX4_path_33 : decode cX4_path 33 = .ok (.aload_n 0, 1) := by decide +kernel
theorem dX4_path_34 : decode cX4_path 34 = .ok (.getfield 36, 3) := by decide +kernel
theorem dX4_path_37 : decode cX4_path 37 = .ok (.iload_n 1, 1) := by decide +kernel
theorem dX4_path_38 : decode cX4_path 38 = .ok (.iload_n 2, 1) := by decide +kernel
theorem dX4_path_39 : decode cX4_path 39 = .ok (.iload_n 3, 1) := by decide +kernel
theorem dX4_path_40 : decode cX4_path 40 = .ok (.invokevirtual 150, 3) := by decide +kernel
theorem dX4_path_43 : decode cX4_path 43 = .ok (.istore 4, 2) := by decide +kernel
theorem dX4_path_45 : decode cX4_path 45 = .ok (.iload 4, 2) := by decide +kernel
theorem dX4_path_47 : decode cX4_path 47 = .ok (.bipush (-9), 2) := by decide +kernel
theorem dX4_path_49 : decode cX4_path 49 = .ok (.if_icmp .ne 6, 3) := by decide +kernel
theorem dX4_path_52 : decode cX4_path 52 = .ok (.bipush (-9), 2) := by decide +kernel
theorem dX4_path_54 : decode cX4_path 54 = .ok (.ireturn, 1) := by decide +kernel
theorem dX4_path_55 : decode cX4_path 55 = .ok (.aload_n 0, 1) := by decide +kernel
theorem dX4_path_56 : decode cX4_path 56 = .ok (.getfield 22, 3) := by decide +kernel
theorem dX4_path_59 : decode cX4_path 59 = .ok (.iload_n 3, 1) := by decide +kernel
theorem dX4_path_60 : decode cX4_path 60 = .ok (.iload_n 1, 1) := by decide +kernel
theorem dX4_path_61 : decode cX4_path 61 = .ok (.iload_n 2, 1) := by decide +kernel
theorem dX4_path_62 : decode cX4_path 62 = .ok (.invokevirtual 163, 3) := by decide +kernel
theorem dX4_path_65 : decode cX4_path 65 = .ok (.ifCond .eq 8, 3) := by decide +kernel
theorem dX4_path_68 : decode cX4_path 68 = .ok (.bipush 90, 2) := by decide +kernel
theorem dX4_path_70 : decode cX4_path 70 = .ok (.iload_n 3, 1) := by decide +kernel
theorem dX4_path_71 : decode cX4_path 71 = .ok (.iadd, 1) := by decide +kernel
theorem dX4_path_72 : decode cX4_path 72 = .ok (.ireturn, 1) := by decide +kernel
theorem dX4_path_73 : decode cX4_path 73 = .ok (.aload_n 0, 1) := by decide +kernel
theorem dX4_path_74 : decode cX4_path 74 = .ok (.iload_n 1, 1) := by decide +kernel
theorem dX4_path_75 : decode cX4_path 75 = .ok (.iload 4, 2) := by decide +kernel
theorem dX4_path_77 : decode cX4_path 77 = .ok (.iload_n 2, 1) := by decide +kernel
theorem dX4_path_78 : decode cX4_path 78 = .ok (.iload_n 3, 1) := by decide +kernel
theorem dX4_path_79 : decode cX4_path 79 = .ok (.invokestatic 167, 3) := by decide +kernel
theorem dX4_path_82 : decode cX4_path 82 = .ok (.invokevirtual 171, 3) := by decide +kernel
theorem dX4_path_85 : decode cX4_path 85 = .ok (.ireturn, 1) := by decide +kernel
set_option maxRecDepth 20000 in
theorem ggX4_fewest_X4_refusalOfSmith : GoodIn wsX4_fewest wsX4_refusalOfSmith := goodIn_r _ [5, 6, 7, 8, 9, 4, 10, 11, 12, 13, 14, 15, 16, 17, 18, 19, 20, 21, 22, 23, 24, 25, 26, 27, 28, 29, 30, 31, 135, 136, 137, 138, 139, 140, 141, 142, 143, 144, 145, 146, 147, 148, 149, 150, 151, 152, 153, 154] (by decide +kernel) (by decide +kernel)
set_option maxRecDepth 20000 in
theorem gX4_fewest_X4_refusalOfSmith : GoodIn wsX4_fewest (wsV RX4 175 RX4 yX4_refusalOfSmith wsX4_refusalOfSmith) := goodIn_app (goodIn_of _ (by decide +kernel)) ggX4_fewest_X4_refusalOfSmith
set_option maxRecDepth 20000 in
theorem ggX4_fewest_X4_leastSet : GoodIn wsX4_fewest wsX4_leastSet := goodIn_r _ [35, 6, 11, 36, 37, 38, 4, 39, 40, 41, 42, 43, 44, 45, 46, 47, 48, 49, 50, 51, 52, 53, 54, 55, 56, 30, 31, 57, 58, 59, 60, 61, 62, 63, 64, 65, 66, 67, 68, 69, 70, 71, 72, 73, 74, 75, 76, 77, 78, 79, 80, 81, 82, 83, 84, 85, 86, 87, 88, 89, 90, 91, 92, 93, 94, 95, 96, 97, 98, 99, 100, 101, 102, 103, 104, 105, 106, 107, 108, 109, 110, 111, 112, 113, 114, 115, 116, 117, 118, 119, 120, 121, 122, 123, 124, 125, 126, 127, 128, 129, 130, 131, 132, 133, 134, 135, 136, 137, 138, 139, 140, 141, 142, 143, 144, 145, 146, 147, 148, 149, 150, 151, 152, 153, 154, 155, 156, 157, 158, 159, 160] (by decide +kernel) (by decide +kernel)
set_option maxRecDepth 20000 in
theorem gX4_fewest_X4_leastSet : GoodIn wsX4_fewest (wsV RX4 178 RX4 yX4_leastSet wsX4_leastSet) := goodIn_app (goodIn_of _ (by decide +kernel)) ggX4_fewest_X4_leastSet
theorem dX4_fewest_0 : decode cX4_fewest 0 = .ok (.aload_n 0, 1) := by decide +kernel
theorem dX4_fewest_1 : decode cX4_fewest 1 = .ok (.iload_n 1, 1) := by decide +kernel
theorem dX4_fewest_2 : decode cX4_fewest 2 = .ok (.iload_n 2, 1) := by decide +kernel
theorem dX4_fewest_3 : decode cX4_fewest 3 = .ok (.iload_n 3, 1) := by decide +kernel
theorem dX4_fewest_4 : decode cX4_fewest 4 = .ok (.invokevirtual 175, 3) := by decide +kernel
theorem dX4_fewest_7 : decode cX4_fewest 7 = .ok (.istore 4, 2) := by decide +kernel
theorem dX4_fewest_9 : decode cX4_fewest 9 = .ok (.iload 4, 2) := by decide +kernel
theorem dX4_fewest_11 : decode cX4_fewest 11 = .ok (.ifCond .eq 8, 3) := by decide +kernel
theorem dX4_fewest_14 : decode cX4_fewest 14 = .ok (.iload 4, 2) := by decide +kernel
theorem dX4_fewest_16 : decode cX4_fewest 16 = .ok (.goto 11, 3) := by decide +kernel
theorem dX4_fewest_19 : decode cX4_fewest 19 = .ok (.aload_n 0, 1) := by decide +kernel
theorem dX4_fewest_20 : decode cX4_fewest 20 = .ok (.iconst 1, 1) := by decide +kernel
theorem dX4_fewest_21 : decode cX4_fewest 21 = .ok (.iload_n 1, 1) := by decide +kernel
theorem dX4_fewest_22 : decode cX4_fewest 22 = .ok (.iload_n 2, 1) := by decide +kernel
theorem dX4_fewest_23 : decode cX4_fewest 23 = .ok (.iload_n 3, 1) := by decide +kernel
theorem dX4_fewest_24 : decode cX4_fewest 24 = .ok (.invokevirtual 178, 3) := by decide +kernel
theorem dX4_fewest_27 : decode cX4_fewest 27 = .ok (.ireturn, 1) := by decide +kernel
set_option maxRecDepth 20000 in
theorem ggX4_hushed_X4_refusalOfSmith : GoodIn wsX4_hushed wsX4_refusalOfSmith := goodIn_r _ [5, 6, 7, 8, 9, 4, 10, 11, 12, 13, 14, 15, 16, 17, 18, 19, 20, 21, 22, 23, 24, 25, 26, 27, 28, 29, 30, 31, 135, 136, 137, 138, 139, 140, 141, 142, 143, 144, 145, 146, 147, 148, 149, 150, 151, 152, 153, 154] (by decide +kernel) (by decide +kernel)
set_option maxRecDepth 20000 in
theorem gX4_hushed_X4_refusalOfSmith : GoodIn wsX4_hushed (wsV RX4 175 RX4 yX4_refusalOfSmith wsX4_refusalOfSmith) := goodIn_app (goodIn_of _ (by decide +kernel)) ggX4_hushed_X4_refusalOfSmith
set_option maxRecDepth 20000 in
theorem ggX4_hushed_X4_leastSet : GoodIn wsX4_hushed wsX4_leastSet := goodIn_r _ [35, 6, 11, 36, 37, 38, 4, 39, 40, 41, 42, 43, 44, 45, 46, 47, 48, 49, 50, 51, 52, 53, 54, 55, 56, 30, 31, 57, 58, 59, 60, 61, 62, 63, 64, 65, 66, 67, 68, 69, 70, 71, 72, 73, 74, 75, 76, 77, 78, 79, 80, 81, 82, 83, 84, 85, 86, 87, 88, 89, 90, 91, 92, 93, 94, 95, 96, 97, 98, 99, 100, 101, 102, 103, 104, 105, 106, 107, 108, 109, 110, 111, 112, 113, 114, 115, 116, 117, 118, 119, 120, 121, 122, 123, 124, 125, 126, 127, 128, 129, 130, 131, 132, 133, 134, 135, 136, 137, 138, 139, 140, 141, 142, 143, 144, 145, 146, 147, 148, 149, 150, 151, 152, 153, 154, 155, 156, 157, 158, 159, 160] (by decide +kernel) (by decide +kernel)
set_option maxRecDepth 20000 in
theorem gX4_hushed_X4_leastSet : GoodIn wsX4_hushed (wsV RX4 178 RX4 yX4_leastSet wsX4_leastSet) := goodIn_app (goodIn_of _ (by decide +kernel)) ggX4_hushed_X4_leastSet
theorem dX4_hushed_0 : decode cX4_hushed 0 = .ok (.aload_n 0, 1) := by decide +kernel
theorem dX4_hushed_1 : decode cX4_hushed 1 = .ok (.iload_n 1, 1) := by decide +kernel
theorem dX4_hushed_2 : decode cX4_hushed 2 = .ok (.iload_n 2, 1) := by decide +kernel
theorem dX4_hushed_3 : decode cX4_hushed 3 = .ok (.iload_n 3, 1) := by decide +kernel
theorem dX4_hushed_4 : decode cX4_hushed 4 = .ok (.invokevirtual 175, 3) := by decide +kernel
theorem dX4_hushed_7 : decode cX4_hushed 7 = .ok (.istore 4, 2) := by decide +kernel
theorem dX4_hushed_9 : decode cX4_hushed 9 = .ok (.iload 4, 2) := by decide +kernel
theorem dX4_hushed_11 : decode cX4_hushed 11 = .ok (.ifCond .eq 8, 3) := by decide +kernel
theorem dX4_hushed_14 : decode cX4_hushed 14 = .ok (.iload 4, 2) := by decide +kernel
theorem dX4_hushed_16 : decode cX4_hushed 16 = .ok (.goto 11, 3) := by decide +kernel
theorem dX4_hushed_19 : decode cX4_hushed 19 = .ok (.aload_n 0, 1) := by decide +kernel
theorem dX4_hushed_20 : decode cX4_hushed 20 = .ok (.iconst 0, 1) := by decide +kernel
theorem dX4_hushed_21 : decode cX4_hushed 21 = .ok (.iload_n 1, 1) := by decide +kernel
theorem dX4_hushed_22 : decode cX4_hushed 22 = .ok (.iload_n 2, 1) := by decide +kernel
theorem dX4_hushed_23 : decode cX4_hushed 23 = .ok (.iload_n 3, 1) := by decide +kernel
theorem dX4_hushed_24 : decode cX4_hushed 24 = .ok (.invokevirtual 178, 3) := by decide +kernel
theorem dX4_hushed_27 : decode cX4_hushed 27 = .ok (.ireturn, 1) := by decide +kernel
set_option maxRecDepth 20000 in
theorem ggX4_worth_X4_isBelow : GoodIn wsX4_worth wsX4_isBelow := goodIn_r _ [9] (by decide +kernel) (by decide +kernel)
set_option maxRecDepth 20000 in
theorem gX4_worth_X4_isBelow : GoodIn wsX4_worth (va_wsS RX4 76 yX4_isBelow wsX4_isBelow) := goodIn_app (goodIn_of _ (by decide +kernel)) ggX4_worth_X4_isBelow
set_option maxRecDepth 20000 in
theorem ggX4_worth_X4_talkAsItIs : GoodIn wsX4_worth wsX4_talkAsItIs := goodIn_r _ [13, 3, 4, 5, 14, 15, 16, 8, 17, 1, 2, 18, 19, 20, 21, 22, 23, 24, 25, 26, 27, 28, 29, 30, 31, 32, 33, 34, 35, 36, 37, 38, 39, 40, 41, 42, 43, 44, 45, 46, 47, 48, 49, 50, 51, 52, 53, 54, 55, 56, 57, 58, 59, 60, 61, 62, 63, 64, 65, 66, 67, 68, 69, 106, 107, 108, 109, 110, 111, 112, 113, 114, 115, 116, 117, 118, 119, 120, 121, 122, 123, 124, 125, 126, 127, 128, 129, 130, 131] (by decide +kernel) (by decide +kernel)
set_option maxRecDepth 20000 in
theorem gX4_worth_X4_talkAsItIs : GoodIn wsX4_worth (wsV RX4 147 RX4 yX4_talkAsItIs wsX4_talkAsItIs) := goodIn_app (goodIn_of _ (by decide +kernel)) ggX4_worth_X4_talkAsItIs
set_option maxRecDepth 20000 in
theorem ggX4_worth_X4_worksBy : GoodIn wsX4_worth wsX4_worksBy := goodIn_r _ [73, 4, 74, 75, 76, 77, 78, 79, 80, 55, 8, 56, 81, 82, 83, 84, 85, 86, 87, 88, 3, 89, 90, 91, 92, 24, 93, 26, 69, 94, 95, 96, 97, 98, 99, 100, 101, 102, 103, 104, 105, 106, 107, 108, 109, 110, 111, 112, 113, 114, 115, 116, 117, 118, 125, 126, 127, 128, 129, 130, 131, 124] (by decide +kernel) (by decide +kernel)
set_option maxRecDepth 20000 in
theorem gX4_worth_X4_worksBy : GoodIn wsX4_worth (wsV RX4 160 RX4 yX4_worksBy wsX4_worksBy) := goodIn_app (goodIn_of _ (by decide +kernel)) ggX4_worth_X4_worksBy
set_option maxRecDepth 20000 in
theorem ggX4_worth_X4_startTalk : GoodIn wsX4_worth wsX4_startTalk := goodIn_r _ [17, 3, 1, 2, 18, 19, 20, 21, 22, 23, 24, 25, 26, 27, 28, 29, 30, 31, 32, 33, 34, 35, 36, 37, 106, 107, 108, 109, 110, 111, 112, 113, 114, 115, 116, 117, 118, 119, 120, 121, 122, 123, 124] (by decide +kernel) (by decide +kernel)
set_option maxRecDepth 20000 in
theorem gX4_worth_X4_startTalk : GoodIn wsX4_worth (wsV RX4 185 RX4 yX4_startTalk wsX4_startTalk) := goodIn_app (goodIn_of _ (by decide +kernel)) ggX4_worth_X4_startTalk
set_option maxRecDepth 20000 in
theorem ggX4_worth_X3_spread : GoodIn wsX4_worth wsX3_spread := goodIn_r _ [41, 42, 43, 26, 44, 45, 46, 47, 24, 48, 49, 50, 51, 52, 53, 54, 55, 8, 56, 57, 58, 59, 60, 61, 62, 63, 64, 65, 66, 67, 68, 69, 125, 126, 127, 128, 129, 130, 131, 124] (by decide +kernel) (by decide +kernel)
set_option maxRecDepth 20000 in
theorem gX4_worth_X3_spread : GoodIn wsX4_worth (wsV RX4 188 RX3 yX3_spread wsX3_spread) := goodIn_app (goodIn_of _ (by decide +kernel)) ggX4_worth_X3_spread
theorem dX4_worth_0 : decode cX4_worth 0 = .ok (.iload_n 1, 1) := by decide +kernel
theorem dX4_worth_1 : decode cX4_worth 1 = .ok (.aload_n 0, 1) := by decide +kernel
theorem dX4_worth_2 : decode cX4_worth 2 = .ok (.getfield 22, 3) := by decide +kernel
theorem dX4_worth_5 : decode cX4_worth 5 = .ok (.getfield 182, 3) := by decide +kernel
theorem dX4_worth_8 : decode cX4_worth 8 = .ok (.invokestatic 76, 3) := by decide +kernel
theorem dX4_worth_11 : decode cX4_worth 11 = .ok (.ifCond .ne 5, 3) := by decide +kernel
theorem dX4_worth_14 : decode cX4_worth 14 = .ok (.iconst (-1), 1) := by decide +kernel
theorem dX4_worth_15 : decode cX4_worth 15 = .ok (.ireturn, 1) := by decide +kernel
theorem dX4_worth_16 : decode cX4_worth 16 = .ok (.aload_n 0, 1) := by decide +kernel
theorem dX4_worth_17 : decode cX4_worth 17 = .ok (.invokevirtual 147, 3) := by decide +kernel
theorem dX4_worth_20 : decode cX4_worth 20 = .ok (.aload_n 0, 1) := by decide +kernel
theorem dX4_worth_21 : decode cX4_worth 21 = .ok (.bipush 59, 2) := by decide +kernel
theorem dX4_worth_23 : decode cX4_worth 23 = .ok (.invokevirtual 160, 3) := by decide +kernel
theorem dX4_worth_26 : decode cX4_worth 26 = .ok (.istore_n 2, 1) := by decide +kernel
theorem dX4_worth_27 : decode cX4_worth 27 = .ok (.aload_n 0, 1) := by decide +kernel
theorem dX4_worth_28 : decode cX4_worth 28 = .ok (.iload_n 1, 1) := by decide +kernel
theorem dX4_worth_29 : decode cX4_worth 29 = .ok (.invokevirtual 185, 3) := by decide +kernel
theorem dX4_worth_32 : decode cX4_worth 32 = .ok (.aload_n 0, 1) := by decide +kernel
theorem dX4_worth_33 : decode cX4_worth 33 = .ok (.getfield 36, 3) := by decide +kernel
theorem dX4_worth_36 : decode cX4_worth 36 = .ok (.aload_n 0, 1) := by decide +kernel
theorem dX4_worth_37 : decode cX4_worth 37 = .ok (.getfield 47, 3) := by decide +kernel
theorem dX4_worth_40 : decode cX4_worth 40 = .ok (.aload_n 0, 1) := by decide +kernel
theorem dX4_worth_41 : decode cX4_worth 41 = .ok (.getfield 58, 3) := by decide +kernel
theorem dX4_worth_44 : decode cX4_worth 44 = .ok (.iconst (-1), 1) := by decide +kernel
theorem dX4_worth_45 : decode cX4_worth 45 = .ok (.invokevirtual 188, 3) := by decide +kernel
theorem dX4_worth_48 : decode cX4_worth 48 = .ok (.iload_n 2, 1) := by decide +kernel
theorem dX4_worth_49 : decode cX4_worth 49 = .ok (.aload_n 0, 1) := by decide +kernel
theorem dX4_worth_50 : decode cX4_worth 50 = .ok (.bipush 59, 2) := by decide +kernel
theorem dX4_worth_52 : decode cX4_worth 52 = .ok (.invokevirtual 160, 3) := by decide +kernel
theorem dX4_worth_55 : decode cX4_worth 55 = .ok (.isub, 1) := by decide +kernel
theorem dX4_worth_56 : decode cX4_worth 56 = .ok (.bipush 100, 2) := by decide +kernel
theorem dX4_worth_58 : decode cX4_worth 58 = .ok (.iadd, 1) := by decide +kernel
theorem dX4_worth_59 : decode cX4_worth 59 = .ok (.ireturn, 1) := by decide +kernel
set_option maxRecDepth 20000 in
theorem ggX4_spare_X4_hasNoPass : GoodIn wsX4_spare wsX4_hasNoPass := goodIn_r _ [9, 1, 10, 109, 110, 111, 112, 113, 114, 115, 116, 117, 118, 119, 120, 121, 122, 123, 124, 125, 126, 127, 128] (by decide +kernel) (by decide +kernel)
set_option maxRecDepth 20000 in
theorem gX4_spare_X4_hasNoPass : GoodIn wsX4_spare (wsV RX4 135 RX4 yX4_hasNoPass wsX4_hasNoPass) := goodIn_app (goodIn_of _ (by decide +kernel)) ggX4_spare_X4_hasNoPass
set_option maxRecDepth 20000 in
theorem ggX4_spare_X4_talkAsItIs : GoodIn wsX4_spare wsX4_talkAsItIs := goodIn_r _ [14, 3, 1, 4, 15, 16, 17, 8, 18, 19, 20, 21, 22, 23, 24, 25, 26, 27, 28, 29, 30, 31, 32, 33, 34, 35, 36, 37, 38, 39, 40, 41, 42, 43, 44, 45, 46, 47, 48, 49, 50, 51, 52, 53, 54, 55, 56, 57, 58, 59, 60, 61, 62, 63, 64, 65, 66, 67, 68, 69, 70, 71, 72, 109, 110, 111, 112, 113, 114, 115, 116, 117, 118, 119, 120, 121, 129, 130, 131, 132, 133, 134, 122, 123, 124, 125, 126, 127, 128] (by decide +kernel) (by decide +kernel)
set_option maxRecDepth 20000 in
theorem gX4_spare_X4_talkAsItIs : GoodIn wsX4_spare (wsV RX4 147 RX4 yX4_talkAsItIs wsX4_talkAsItIs) := goodIn_app (goodIn_of _ (by decide +kernel)) ggX4_spare_X4_talkAsItIs
set_option maxRecDepth 20000 in
theorem ggX4_spare_X4_keepForgeDays : GoodIn wsX4_spare wsX4_keepForgeDays := goodIn_r _ [76, 1, 10, 77, 78, 79, 80, 8, 81, 3, 82, 83, 84, 85, 27, 86, 29, 72, 87, 88, 89, 90, 91, 92, 93, 94, 95, 96, 97, 98, 109, 110, 111, 112, 113, 114, 115, 116, 117, 118, 119, 120, 121, 122, 123, 124, 125, 126, 127, 128, 134] (by decide +kernel) (by decide +kernel)
set_option maxRecDepth 20000 in
theorem gX4_spare_X4_keepForgeDays : GoodIn wsX4_spare (wsV RX4 192 RX4 yX4_keepForgeDays wsX4_keepForgeDays) := goodIn_app (goodIn_of _ (by decide +kernel)) ggX4_spare_X4_keepForgeDays
set_option maxRecDepth 20000 in
theorem ggX4_spare_X4_startTalk : GoodIn wsX4_spare wsX4_startTalk := goodIn_r _ [18, 3, 19, 20, 21, 22, 23, 24, 25, 26, 27, 28, 29, 30, 31, 32, 33, 34, 35, 36, 37, 38, 39, 40, 109, 110, 111, 112, 113, 114, 115, 116, 117, 118, 119, 120, 121, 129, 130, 131, 132, 133, 134] (by decide +kernel) (by decide +kernel)
set_option maxRecDepth 20000 in
theorem gX4_spare_X4_startTalk : GoodIn wsX4_spare (wsV RX4 185 RX4 yX4_startTalk wsX4_startTalk) := goodIn_app (goodIn_of _ (by decide +kernel)) ggX4_spare_X4_startTalk
set_option maxRecDepth 20000 in
theorem ggX4_spare_X3_spread : GoodIn wsX4_spare wsX3_spread := goodIn_r _ [44, 45, 46, 29, 47, 48, 49, 50, 27, 51, 52, 53, 54, 55, 56, 57, 58, 8, 59, 60, 61, 62, 63, 64, 65, 66, 67, 68, 69, 70, 71, 72, 122, 123, 124, 125, 126, 127, 128, 134] (by decide +kernel) (by decide +kernel)
set_option maxRecDepth 20000 in
theorem gX4_spare_X3_spread : GoodIn wsX4_spare (wsV RX4 188 RX3 yX3_spread wsX3_spread) := goodIn_app (goodIn_of _ (by decide +kernel)) ggX4_spare_X3_spread
set_option maxRecDepth 20000 in
theorem ggX4_spare_X4_areForgeDaysKept : GoodIn wsX4_spare wsX4_areForgeDaysKept := goodIn_r _ [102, 1, 10, 77, 103, 104, 105, 106, 107, 108, 58, 8, 59, 78, 79, 80, 81, 3, 82, 83, 84, 85, 27, 86, 29, 72, 87, 88, 89, 90, 91, 92, 93, 94, 95, 96, 97, 98, 109, 110, 111, 112, 113, 114, 115, 116, 117, 118, 119, 120, 121, 122, 123, 124, 125, 126, 127, 128, 134] (by decide +kernel) (by decide +kernel)
set_option maxRecDepth 20000 in
theorem gX4_spare_X4_areForgeDaysKept : GoodIn wsX4_spare (wsV RX4 195 RX4 yX4_areForgeDaysKept wsX4_areForgeDaysKept) := goodIn_app (goodIn_of _ (by decide +kernel)) ggX4_spare_X4_areForgeDaysKept
theorem dX4_spare_0 : decode cX4_spare 0 = .ok (.aload_n 0, 1) := by decide +kernel
theorem dX4_spare_1 : decode cX4_spare 1 = .ok (.invokevirtual 135, 3) := by decide +kernel
theorem dX4_spare_4 : decode cX4_spare 4 = .ok (.ifCond .eq 6, 3) := by decide +kernel
theorem dX4_spare_7 : decode cX4_spare 7 = .ok (.bipush (-3), 2) := by decide +kernel
theorem dX4_spare_9 : decode cX4_spare 9 = .ok (.ireturn, 1) := by decide +kernel
theorem dX4_spare_10 : decode cX4_spare 10 = .ok (.aload_n 0, 1) := by decide +kernel
theorem dX4_spare_11 : decode cX4_spare 11 = .ok (.invokevirtual 147, 3) := by decide +kernel
theorem dX4_spare_14 : decode cX4_spare 14 = .ok (.aload_n 0, 1) := by decide +kernel
theorem dX4_spare_15 : decode cX4_spare 15 = .ok (.invokevirtual 192, 3) := by decide +kernel
theorem dX4_spare_18 : decode cX4_spare 18 = .ok (.iconst 0, 1) := by decide +kernel
theorem dX4_spare_19 : decode cX4_spare 19 = .ok (.istore_n 1, 1) := by decide +kernel
theorem dX4_spare_20 : decode cX4_spare 20 = .ok (.iconst 0, 1) := by decide +kernel
theorem dX4_spare_21 : decode cX4_spare 21 = .ok (.istore_n 2, 1) := by decide +kernel
theorem dX4_spare_22 : decode cX4_spare 22 = .ok (.iload_n 2, 1) := by decide +kernel
theorem dX4_spare_23 : decode cX4_spare 23 = .ok (.aload_n 0, 1) := by decide +kernel
theorem dX4_spare_24 : decode cX4_spare 24 = .ok (.getfield 47, 3) := by decide +kernel
theorem dX4_spare_27 : decode cX4_spare 27 = .ok (.getfield 110, 3) := by decide +kernel
theorem dX4_spare_30 : decode cX4_spare 30 = .ok (.if_icmp .ge 43, 3) := by decide +kernel
theorem dX4_spare_33 : decode cX4_spare 33 = .ok (.aload_n 0, 1) := by decide +kernel
theorem dX4_spare_34 : decode cX4_spare 34 = .ok (.iconst (-1), 1) := by decide +kernel
theorem dX4_spare_35 : decode cX4_spare 35 = .ok (.invokevirtual 185, 3) := by decide +kernel
theorem dX4_spare_38 : decode cX4_spare 38 = .ok (.aload_n 0, 1) := by decide +kernel
theorem dX4_spare_39 : decode cX4_spare 39 = .ok (.getfield 36, 3) := by decide +kernel
theorem dX4_spare_42 : decode cX4_spare 42 = .ok (.aload_n 0, 1) := by decide +kernel
