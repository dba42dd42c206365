theorem dX5_hushed_111 : decode cX5_hushed 111 = .ok (.ireturn, 1) := by decide +kernel
set_option maxRecDepth 20000 in
theorem ggX5_worth_X5_in : GoodIn wsX5_worth wsX5_in := goodIn_r _ [5] (by decide +kernel) (by decide +kernel)
set_option maxRecDepth 20000 in
theorem gX5_worth_X5_in : GoodIn wsX5_worth (va_wsS RX5 96 yX5_in wsX5_in) := goodIn_app (goodIn_of _ (by decide +kernel)) ggX5_worth_X5_in
set_option maxRecDepth 20000 in
theorem ggX5_worth_X5_go : GoodIn wsX5_worth wsX5_go := goodIn_r _ [9, 10, 11, 12, 4, 13, 1, 14, 15, 16, 17, 18, 19, 20, 21, 22, 23, 24, 25, 26, 27, 28, 29, 30, 31, 32, 33, 34, 35, 36, 37, 38, 39, 40, 41, 42, 43, 44, 45, 46, 47, 48, 49, 50, 51, 52, 53, 70, 71, 72, 73, 74, 75, 76, 77, 78, 79, 80, 81, 82, 83, 84, 85, 86, 87, 88, 89, 90, 91, 92, 93, 94, 95, 96, 97, 98, 99, 100, 101, 102, 103, 104] (by decide +kernel) (by decide +kernel)
set_option maxRecDepth 20000 in
theorem gX5_worth_X5_go : GoodIn wsX5_worth (wsV RX5 210 RX5 yX5_go wsX5_go) := goodIn_app (goodIn_of _ (by decide +kernel)) ggX5_worth_X5_go
set_option maxRecDepth 20000 in
theorem ggX5_worth_X5_worksBy : GoodIn wsX5_worth wsX5_worksBy := goodIn_r _ [57, 58, 59, 60, 61, 62, 4, 63, 64, 65, 66, 67, 68, 69, 21, 26, 27, 28, 70, 71, 72, 73, 74, 75, 76, 77, 78, 79, 80, 81, 82, 83, 84, 85, 86, 87, 88, 89, 90, 91, 92, 93, 94, 95, 96, 97, 98, 99, 100, 101, 102, 103, 104] (by decide +kernel) (by decide +kernel)
set_option maxRecDepth 20000 in
theorem gX5_worth_X5_worksBy : GoodIn wsX5_worth (wsV RX5 219 RX5 yX5_worksBy wsX5_worksBy) := goodIn_app (goodIn_of _ (by decide +kernel)) ggX5_worth_X5_worksBy
set_option maxRecDepth 20000 in
theorem ggX5_worth_X5_tellAll : GoodIn wsX5_worth wsX5_tellAll := goodIn_r _ [13, 1, 14, 15, 16, 17, 18, 19, 4, 20, 21, 22, 23, 24, 25, 26, 27, 28, 70, 71, 72, 73, 74, 75, 76, 77, 78, 79, 80, 81, 82, 83, 84, 85, 86, 87, 88, 89, 90, 91, 92, 93, 94, 95, 96, 97, 98, 99, 100, 101, 102, 103, 104] (by decide +kernel) (by decide +kernel)
set_option maxRecDepth 20000 in
theorem gX5_worth_X5_tellAll : GoodIn wsX5_worth (wsV RX5 201 RX5 yX5_tellAll wsX5_tellAll) := goodIn_app (goodIn_of _ (by decide +kernel)) ggX5_worth_X5_tellAll
set_option maxRecDepth 20000 in
theorem ggX5_worth_X5_spread : GoodIn wsX5_worth wsX5_spread := goodIn_r _ [32, 33, 34, 35, 36, 37, 4, 38, 39, 40, 41, 42, 21, 43, 44, 26, 27, 28, 45, 46, 47, 48, 49, 50, 51, 52, 53, 70, 71, 72, 73, 74, 75, 76, 77, 78, 79, 80, 81, 82, 83, 84, 85, 86, 87, 88, 89, 90, 91, 92, 93, 94, 95, 96, 97, 98, 99, 100, 101, 102, 103, 104] (by decide +kernel) (by decide +kernel)
set_option maxRecDepth 20000 in
theorem gX5_worth_X5_spread : GoodIn wsX5_worth (wsV RX5 205 RX5 yX5_spread wsX5_spread) := goodIn_app (goodIn_of _ (by decide +kernel)) ggX5_worth_X5_spread
theorem dX5_worth_0 : decode cX5_worth 0 = .ok (.iload_n 1, 1) := by decide +kernel
theorem dX5_worth_1 : decode cX5_worth 1 = .ok (.i2l, 1) := by decide +kernel
theorem dX5_worth_2 : decode cX5_worth 2 = .ok (.lconst 0, 1) := by decide +kernel
theorem dX5_worth_3 : decode cX5_worth 3 = .ok (.aload_n 0, 1) := by decide +kernel
theorem dX5_worth_4 : decode cX5_worth 4 = .ok (.getfield 161, 3) := by decide +kernel
theorem dX5_worth_7 : decode cX5_worth 7 = .ok (.i2l, 1) := by decide +kernel
theorem dX5_worth_8 : decode cX5_worth 8 = .ok (.lconst 1, 1) := by decide +kernel
theorem dX5_worth_9 : decode cX5_worth 9 = .ok (.lsub, 1) := by decide +kernel
theorem dX5_worth_10 : decode cX5_worth 10 = .ok (.invokestatic 96, 3) := by decide +kernel
theorem dX5_worth_13 : decode cX5_worth 13 = .ok (.ifCond .ne 5, 3) := by decide +kernel
theorem dX5_worth_16 : decode cX5_worth 16 = .ok (.iconst (-1), 1) := by decide +kernel
theorem dX5_worth_17 : decode cX5_worth 17 = .ok (.ireturn, 1) := by decide +kernel
theorem dX5_worth_18 : decode cX5_worth 18 = .ok (.aload_n 0, 1) := by decide +kernel
theorem dX5_worth_19 : decode cX5_worth 19 = .ok (.invokevirtual 210, 3) := by decide +kernel
theorem dX5_worth_22 : decode cX5_worth 22 = .ok (.aload_n 0, 1) := by decide +kernel
theorem dX5_worth_23 : decode cX5_worth 23 = .ok (.bipush 59, 2) := by decide +kernel
theorem dX5_worth_25 : decode cX5_worth 25 = .ok (.invokevirtual 219, 3) := by decide +kernel
theorem dX5_worth_28 : decode cX5_worth 28 = .ok (.istore_n 2, 1) := by decide +kernel
theorem dX5_worth_29 : decode cX5_worth 29 = .ok (.aload_n 0, 1) := by decide +kernel
theorem dX5_worth_30 : decode cX5_worth 30 = .ok (.iload_n 1, 1) := by decide +kernel
theorem dX5_worth_31 : decode cX5_worth 31 = .ok (.invokevirtual 201, 3) := by decide +kernel
theorem dX5_worth_34 : decode cX5_worth 34 = .ok (.aload_n 0, 1) := by decide +kernel
theorem dX5_worth_35 : decode cX5_worth 35 = .ok (.bipush (-9), 2) := by decide +kernel
theorem dX5_worth_37 : decode cX5_worth 37 = .ok (.invokevirtual 205, 3) := by decide +kernel
theorem dX5_worth_40 : decode cX5_worth 40 = .ok (.iload_n 2, 1) := by decide +kernel
theorem dX5_worth_41 : decode cX5_worth 41 = .ok (.aload_n 0, 1) := by decide +kernel
theorem dX5_worth_42 : decode cX5_worth 42 = .ok (.bipush 59, 2) := by decide +kernel
theorem dX5_worth_44 : decode cX5_worth 44 = .ok (.invokevirtual 219, 3) := by decide +kernel
theorem dX5_worth_47 : decode cX5_worth 47 = .ok (.isub, 1) := by decide +kernel
theorem dX5_worth_48 : decode cX5_worth 48 = .ok (.bipush 100, 2) := by decide +kernel
theorem dX5_worth_50 : decode cX5_worth 50 = .ok (.iadd, 1) := by decide +kernel
theorem dX5_worth_51 : decode cX5_worth 51 = .ok (.ireturn, 1) := by decide +kernel
set_option maxRecDepth 20000 in
theorem ggX5_spare_X5_go : GoodIn wsX5_spare wsX5_go := goodIn_r _ [9, 10, 11, 12, 8, 13, 14, 15, 16, 17, 18, 19, 20, 21, 22, 23, 24, 25, 26, 27, 28, 29, 30, 31, 32, 33, 3, 34, 35, 36, 37, 38, 39, 40, 41, 42, 43, 44, 45, 46, 47, 48, 49, 50, 51, 52, 53, 64, 65, 66, 67, 68, 69, 70, 71, 72, 73, 74, 75, 76, 77, 78, 79, 80, 81, 82, 83, 84, 85, 86, 87, 88, 89, 90, 91, 92, 93, 94, 95, 96, 97, 98] (by decide +kernel) (by decide +kernel)
set_option maxRecDepth 20000 in
theorem gX5_spare_X5_go : GoodIn wsX5_spare (wsV RX5 210 RX5 yX5_go wsX5_go) := goodIn_app (goodIn_of _ (by decide +kernel)) ggX5_spare_X5_go
set_option maxRecDepth 20000 in
theorem ggX5_spare_X5_forgedOn : GoodIn wsX5_spare wsX5_forgedOn := goodIn_r _ [57, 58, 59, 60, 61, 62, 8, 63, 22, 27, 28, 29, 64, 65, 66, 67, 68, 69, 70, 71, 72, 73, 74, 75, 76, 77, 78, 79, 80, 81, 82, 83, 84, 85, 86, 87, 88, 89, 90, 91, 92, 93, 94, 95, 96, 97, 98] (by decide +kernel) (by decide +kernel)
set_option maxRecDepth 20000 in
theorem gX5_spare_X5_forgedOn : GoodIn wsX5_spare (wsV RX5 216 RX5 yX5_forgedOn wsX5_forgedOn) := goodIn_app (goodIn_of _ (by decide +kernel)) ggX5_spare_X5_forgedOn
set_option maxRecDepth 20000 in
theorem ggX5_spare_X5_tellAll : GoodIn wsX5_spare wsX5_tellAll := goodIn_r _ [13, 14, 15, 16, 17, 18, 19, 20, 8, 21, 22, 23, 24, 25, 26, 27, 28, 29, 64, 65, 66, 67, 68, 69, 70, 71, 72, 73, 74, 75, 76, 77, 78, 79, 80, 81, 82, 83, 84, 85, 86, 87, 88, 89, 90, 91, 92, 93, 94, 95, 96, 97, 98] (by decide +kernel) (by decide +kernel)
set_option maxRecDepth 20000 in
theorem gX5_spare_X5_tellAll : GoodIn wsX5_spare (wsV RX5 201 RX5 yX5_tellAll wsX5_tellAll) := goodIn_app (goodIn_of _ (by decide +kernel)) ggX5_spare_X5_tellAll
set_option maxRecDepth 20000 in
theorem ggX5_spare_X5_spread : GoodIn wsX5_spare wsX5_spread := goodIn_r _ [33, 3, 34, 35, 36, 37, 8, 38, 39, 40, 41, 42, 22, 43, 44, 27, 28, 29, 45, 46, 47, 48, 49, 50, 51, 52, 53, 64, 65, 66, 67, 68, 69, 70, 71, 72, 73, 74, 75, 76, 77, 78, 79, 80, 81, 82, 83, 84, 85, 86, 87, 88, 89, 90, 91, 92, 93, 94, 95, 96, 97, 98] (by decide +kernel) (by decide +kernel)
set_option maxRecDepth 20000 in
theorem gX5_spare_X5_spread : GoodIn wsX5_spare (wsV RX5 205 RX5 yX5_spread wsX5_spread) := goodIn_app (goodIn_of _ (by decide +kernel)) ggX5_spare_X5_spread
theorem dX5_spare_0 : decode cX5_spare 0 = .ok (.aload_n 0, 1) := by decide +kernel
theorem dX5_spare_1 : decode cX5_spare 1 = .ok (.getfield 93, 3) := by decide +kernel
theorem dX5_spare_4 : decode cX5_spare 4 = .ok (.ifCond .ne 6, 3) := by decide +kernel
theorem dX5_spare_7 : decode cX5_spare 7 = .ok (.bipush (-3), 2) := by decide +kernel
theorem dX5_spare_9 : decode cX5_spare 9 = .ok (.ireturn, 1) := by decide +kernel
theorem dX5_spare_10 : decode cX5_spare 10 = .ok (.aload_n 0, 1) := by decide +kernel
theorem dX5_spare_11 : decode cX5_spare 11 = .ok (.invokevirtual 210, 3) := by decide +kernel
theorem dX5_spare_14 : decode cX5_spare 14 = .ok (.iconst 0, 1) := by decide +kernel
theorem dX5_spare_15 : decode cX5_spare 15 = .ok (.istore_n 1, 1) := by decide +kernel
theorem dX5_spare_16 : decode cX5_spare 16 = .ok (.iload_n 1, 1) := by decide +kernel
theorem dX5_spare_17 : decode cX5_spare 17 = .ok (.iconst 4, 1) := by decide +kernel
theorem dX5_spare_18 : decode cX5_spare 18 = .ok (.aload_n 0, 1) := by decide +kernel
theorem dX5_spare_19 : decode cX5_spare 19 = .ok (.getfield 93, 3) := by decide +kernel
theorem dX5_spare_22 : decode cX5_spare 22 = .ok (.imul, 1) := by decide +kernel
theorem dX5_spare_23 : decode cX5_spare 23 = .ok (.if_icmp .ge 25, 3) := by decide +kernel
theorem dX5_spare_26 : decode cX5_spare 26 = .ok (.aload_n 0, 1) := by decide +kernel
theorem dX5_spare_27 : decode cX5_spare 27 = .ok (.getfield 56, 3) := by decide +kernel
theorem dX5_spare_30 : decode cX5_spare 30 = .ok (.iload_n 1, 1) := by decide +kernel
theorem dX5_spare_31 : decode cX5_spare 31 = .ok (.aload_n 0, 1) := by decide +kernel
theorem dX5_spare_32 : decode cX5_spare 32 = .ok (.iload_n 1, 1) := by decide +kernel
theorem dX5_spare_33 : decode cX5_spare 33 = .ok (.iconst 4, 1) := by decide +kernel
theorem dX5_spare_34 : decode cX5_spare 34 = .ok (.idiv, 1) := by decide +kernel
theorem dX5_spare_35 : decode cX5_spare 35 = .ok (.iload_n 1, 1) := by decide +kernel
theorem dX5_spare_36 : decode cX5_spare 36 = .ok (.iconst 4, 1) := by decide +kernel
theorem dX5_spare_37 : decode cX5_spare 37 = .ok (.irem, 1) := by decide +kernel
theorem dX5_spare_38 : decode cX5_spare 38 = .ok (.invokevirtual 216, 3) := by decide +kernel
theorem dX5_spare_41 : decode cX5_spare 41 = .ok (.iastore, 1) := by decide +kernel
theorem dX5_spare_42 : decode cX5_spare 42 = .ok (.iinc 1 1, 3) := by decide +kernel
theorem dX5_spare_45 : decode cX5_spare 45 = .ok (.goto (-29), 3) := by decide +kernel
theorem dX5_spare_48 : decode cX5_spare 48 = .ok (.iconst 0, 1) := by decide +kernel
theorem dX5_spare_49 : decode cX5_spare 49 = .ok (.istore_n 1, 1) := by decide +kernel
theorem dX5_spare_50 : decode cX5_spare 50 = .ok (.iconst 0, 1) := by decide +kernel
theorem dX5_spare_51 : decode cX5_spare 51 = .ok (.istore_n 2, 1) := by decide +kernel
theorem dX5_spare_52 : decode cX5_spare 52 = .ok (.iload_n 2, 1) := by decide +kernel
theorem dX5_spare_53 : decode cX5_spare 53 = .ok (.aload_n 0, 1) := by decide +kernel
theorem dX5_spare_54 : decode cX5_spare 54 = .ok (.getfield 152, 3) := by decide +kernel
theorem dX5_spare_57 : decode cX5_spare 57 = .ok (.if_icmp .ge 100, 3) := by decide +kernel
theorem dX5_spare_60 : decode cX5_spare 60 = .ok (.aload_n 0, 1) := by decide +kernel
theorem dX5_spare_61 : decode cX5_spare 61 = .ok (.bipush (-9), 2) := by decide +kernel
theorem dX5_spare_63 : decode cX5_spare 63 = .ok (.invokevirtual 201, 3) := by decide +kernel
theorem dX5_spare_66 : decode cX5_spare 66 = .ok (.aload_n 0, 1) := by decide +kernel
theorem dX5_spare_67 : decode cX5_spare 67 = .ok (.iload_n 2, 1) := by decide +kernel
theorem dX5_spare_68 : decode cX5_spare 68 = .ok (.invokevirtual 205, 3) := by decide +kernel
theorem dX5_spare_71 : decode cX5_spare 71 = .ok (.iconst 1, 1) := by decide +kernel
theorem dX5_spare_72 : decode cX5_spare 72 = .ok (.istore_n 3, 1) := by decide +kernel
theorem dX5_spare_73 : decode cX5_spare 73 = .ok (.iconst 0, 1) := by decide +kernel
theorem dX5_spare_74 : decode cX5_spare 74 = .ok (.istore 4, 2) := by decide +kernel
theorem dX5_spare_76 : decode cX5_spare 76 = .ok (.iload 4, 2) := by decide +kernel
theorem dX5_spare_78 : decode cX5_spare 78 = .ok (.iconst 4, 1) := by decide +kernel
theorem dX5_spare_79 : decode cX5_spare 79 = .ok (.aload_n 0, 1) := by decide +kernel
theorem dX5_spare_80 : decode cX5_spare 80 = .ok (.getfield 93, 3) := by decide +kernel
theorem dX5_spare_83 : decode cX5_spare 83 = .ok (.imul, 1) := by decide +kernel
theorem dX5_spare_84 : decode cX5_spare 84 = .ok (.if_icmp .ge 53, 3) := by decide +kernel
theorem dX5_spare_87 : decode cX5_spare 87 = .ok (.iload_n 3, 1) := by decide +kernel
theorem dX5_spare_88 : decode cX5_spare 88 = .ok (.ifCond .eq 41, 3) := by decide +kernel
theorem dX5_spare_91 : decode cX5_spare 91 = .ok (.aload_n 0, 1) := by decide +kernel
theorem dX5_spare_92 : decode cX5_spare 92 = .ok (.getfield 13, 3) := by decide +kernel
theorem dX5_spare_95 : decode cX5_spare 95 = .ok (.iload 4, 2) := by decide +kernel
theorem dX5_spare_97 : decode cX5_spare 97 = .ok (.iconst 4, 1) := by decide +kernel
theorem dX5_spare_98 : decode cX5_spare 98 = .ok (.idiv, 1) := by decide +kernel
theorem dX5_spare_99 : decode cX5_spare 99 = .ok (.baload, 1) := by decide +kernel
theorem dX5_spare_100 : decode cX5_spare 100 = .ok (.ifCond .eq 25, 3) := by decide +kernel
theorem dX5_spare_103 : decode cX5_spare 103 = .ok (.aload_n 0, 1) := by decide +kernel
theorem dX5_spare_104 : decode cX5_spare 104 = .ok (.iload 4, 2) := by decide +kernel
theorem dX5_spare_106 : decode cX5_spare 106 = .ok (.iconst 4, 1) := by decide +kernel
theorem dX5_spare_107 : decode cX5_spare 107 = .ok (.idiv, 1) := by decide +kernel
theorem dX5_spare_108 : decode cX5_spare 108 = .ok (.iload 4, 2) := by decide +kernel
theorem dX5_spare_110 : decode cX5_spare 110 = .ok (.iconst 4, 1) := by decide +kernel
theorem dX5_spare_111 : decode cX5_spare 111 = .ok (.irem, 1) := by decide +kernel
theorem dX5_spare_112 : decode cX5_spare 112 = .ok (.invokevirtual 216, 3) := by decide +kernel
theorem dX5_spare_115 : decode cX5_spare 115 = .ok (.aload_n 0, 1) := by decide +kernel
theorem dX5_spare_116 : decode cX5_spare 116 = .ok (.getfield 56, 3) := by decide +kernel
theorem dX5_spare_119 : decode cX5_spare 119 = .ok (.iload 4, 2) := by decide +kernel
theorem dX5_spare_121 : decode cX5_spare 121 = .ok (.iaload, 1) := by decide +kernel
theorem dX5_spare_122 : decode cX5_spare 122 = .ok (.if_icmp .ne 7, 3) := by decide +kernel
theorem dX5_spare_125 : decode cX5_spare 125 = .ok (.iconst 1, 1) := by decide +kernel
theorem dX5_spare_126 : decode cX5_spare 126 = .ok (.goto 4, 3) := by decide +kernel
theorem dX5_spare_129 : decode cX5_spare 129 = .ok (.iconst 0, 1) := by decide +kernel
theorem dX5_spare_130 : decode cX5_spare 130 = .ok (.istore_n 3, 1) := by decide +kernel
theorem dX5_spare_131 : decode cX5_spare 131 = .ok (.iinc 4 1, 3) := by decide +kernel
theorem dX5_spare_134 : decode cX5_spare 134 = .ok (.goto (-58), 3) := by decide +kernel
theorem dX5_spare_137 : decode cX5_spare 137 = .ok (.iload_n 1, 1) := by decide +kernel
theorem dX5_spare_138 : decode cX5_spare 138 = .ok (.iload_n 3, 1) := by decide +kernel
theorem dX5_spare_139 : decode cX5_spare 139 = .ok (.ifCond .eq 9, 3) := by decide +kernel
theorem dX5_spare_142 : decode cX5_spare 142 = .ok (.iconst 1, 1) := by decide +kernel
theorem dX5_spare_143 : decode cX5_spare 143 = .ok (.iload_n 2, 1) := by decide +kernel
theorem dX5_spare_144 : decode cX5_spare 144 = .ok (.ishl, 1) := by decide +kernel
theorem dX5_spare_145 : decode cX5_spare 145 = .ok (.goto 4, 3) := by decide +kernel
theorem dX5_spare_148 : decode cX5_spare 148 = .ok (.iconst 0, 1) := by decide +kernel
theorem dX5_spare_149 : decode cX5_spare 149 = .ok (.ior, 1) := by decide +kernel
theorem dX5_spare_150 : decode cX5_spare 150 = .ok (.istore_n 1, 1) := by decide +kernel
theorem dX5_spare_151 : decode cX5_spare 151 = .ok (.iinc 2 1, 3) := by decide +kernel
theorem dX5_spare_154 : decode cX5_spare 154 = .ok (.goto (-102), 3) := by decide +kernel
theorem dX5_spare_157 : decode cX5_spare 157 = .ok (.iload_n 1, 1) := by decide +kernel
theorem dX5_spare_158 : decode cX5_spare 158 = .ok (.ireturn, 1) := by decide +kernel
set_option maxRecDepth 20000 in
theorem ggX5_reading_X5_refusedFor : GoodIn wsX5_reading wsX5_refusedFor := goodIn_r _ [10, 11, 12, 13, 14, 9, 15, 16, 17, 18, 19, 20, 21, 22, 23, 24, 25, 26, 27, 28, 29, 30, 31, 32, 33, 34, 35, 36, 37, 38, 39, 40, 41, 42, 43, 44, 45, 46, 47, 48, 49, 50, 51, 52, 53, 54, 55, 56, 57, 58, 59, 60, 61, 62] (by decide +kernel) (by decide +kernel)
set_option maxRecDepth 20000 in
theorem gX5_reading_X5_refusedFor : GoodIn wsX5_reading (wsV RX5 226 RX5 yX5_refusedFor wsX5_refusedFor) := goodIn_app (goodIn_of _ (by decide +kernel)) ggX5_reading_X5_refusedFor
theorem dX5_reading_0 : decode cX5_reading 0 = .ok (.aload_n 0, 1) := by decide +kernel
theorem dX5_reading_1 : decode cX5_reading 1 = .ok (.iload_n 1, 1) := by decide +kernel
theorem dX5_reading_2 : decode cX5_reading 2 = .ok (.iload_n 2, 1) := by decide +kernel
theorem dX5_reading_3 : decode cX5_reading 3 = .ok (.iload_n 3, 1) := by decide +kernel
theorem dX5_reading_4 : decode cX5_reading 4 = .ok (.invokevirtual 226, 3) := by decide +kernel
theorem dX5_reading_7 : decode cX5_reading 7 = .ok (.istore 5, 2) := by decide +kernel
theorem dX5_reading_9 : decode cX5_reading 9 = .ok (.iload 5, 2) := by decide +kernel
theorem dX5_reading_11 : decode cX5_reading 11 = .ok (.ifCond .ge 6, 3) := by decide +kernel
theorem dX5_reading_14 : decode cX5_reading 14 = .ok (.iload 5, 2) := by decide +kernel
theorem dX5_reading_16 : decode cX5_reading 16 = .ok (.ireturn, 1) := by decide +kernel
theorem dX5_reading_17 : decode cX5_reading 17 = .ok (.aload_n 0, 1) := by decide +kernel
theorem dX5_reading_18 : decode cX5_reading 18 = .ok (.getfield 164, 3) := by decide +kernel
theorem dX5_reading_21 : decode cX5_reading 21 = .ok (.bipush 6, 2) := by decide +kernel
theorem dX5_reading_23 : decode cX5_reading 23 = .ok (.if_icmp .ne 6, 3) := by decide +kernel
theorem dX5_reading_26 : decode cX5_reading 26 = .ok (.bipush (-4), 2) := by decide +kernel
theorem dX5_reading_28 : decode cX5_reading 28 = .ok (.ireturn, 1) := by decide +kernel
theorem dX5_reading_29 : decode cX5_reading 29 = .ok (.aload_n 0, 1) := by decide +kernel
theorem dX5_reading_30 : decode cX5_reading 30 = .ok (.getfield 59, 3) := by decide +kernel
theorem dX5_reading_33 : decode cX5_reading 33 = .ok (.aload_n 0, 1) := by decide +kernel
theorem dX5_reading_34 : decode cX5_reading 34 = .ok (.getfield 164, 3) := by decide +kernel
theorem dX5_reading_37 : decode cX5_reading 37 = .ok (.iload_n 1, 1) := by decide +kernel
theorem dX5_reading_38 : decode cX5_reading 38 = .ok (.iastore, 1) := by decide +kernel
theorem dX5_reading_39 : decode cX5_reading 39 = .ok (.aload_n 0, 1) := by decide +kernel
theorem dX5_reading_40 : decode cX5_reading 40 = .ok (.getfield 62, 3) := by decide +kernel
theorem dX5_reading_43 : decode cX5_reading 43 = .ok (.aload_n 0, 1) := by decide +kernel
theorem dX5_reading_44 : decode cX5_reading 44 = .ok (.getfield 164, 3) := by decide +kernel
theorem dX5_reading_47 : decode cX5_reading 47 = .ok (.iload_n 2, 1) := by decide +kernel
theorem dX5_reading_48 : decode cX5_reading 48 = .ok (.iastore, 1) := by decide +kernel
theorem dX5_reading_49 : decode cX5_reading 49 = .ok (.aload_n 0, 1) := by decide +kernel
theorem dX5_reading_50 : decode cX5_reading 50 = .ok (.getfield 65, 3) := by decide +kernel
theorem dX5_reading_53 : decode cX5_reading 53 = .ok (.aload_n 0, 1) := by decide +kernel
theorem dX5_reading_54 : decode cX5_reading 54 = .ok (.getfield 164, 3) := by decide +kernel
theorem dX5_reading_57 : decode cX5_reading 57 = .ok (.iload_n 3, 1) := by decide +kernel
theorem dX5_reading_58 : decode cX5_reading 58 = .ok (.iastore, 1) := by decide +kernel
theorem dX5_reading_59 : decode cX5_reading 59 = .ok (.aload_n 0, 1) := by decide +kernel
theorem dX5_reading_60 : decode cX5_reading 60 = .ok (.getfield 68, 3) := by decide +kernel
theorem dX5_reading_63 : decode cX5_reading 63 = .ok (.aload_n 0, 1) := by decide +kernel
theorem dX5_reading_64 : decode cX5_reading 64 = .ok (.getfield 164, 3) := by decide +kernel
theorem dX5_reading_67 : decode cX5_reading 67 = .ok (.iload 4, 2) := by decide +kernel
theorem dX5_reading_69 : decode cX5_reading 69 = .ok (.bastore, 1) := by decide +kernel
theorem dX5_reading_70 : decode cX5_reading 70 = .ok (.aload_n 0, 1) := by decide +kernel
theorem dX5_reading_71 : decode cX5_reading 71 = .ok (.dup, 1) := by decide +kernel
theorem dX5_reading_72 : decode cX5_reading 72 = .ok (.getfield 164, 3) := by decide +kernel
theorem dX5_reading_75 : decode cX5_reading 75 = .ok (.iconst 1, 1) := by decide +kernel
theorem dX5_reading_76 : decode cX5_reading 76 = .ok (.iadd, 1) := by decide +kernel
theorem dX5_reading_77 : decode cX5_reading 77 = .ok (.putfield 164, 3) := by decide +kernel
theorem dX5_reading_80 : decode cX5_reading 80 = .ok (.aload_n 0, 1) := by decide +kernel
theorem dX5_reading_81 : decode cX5_reading 81 = .ok (.getfield 164, 3) := by decide +kernel
theorem dX5_reading_84 : decode cX5_reading 84 = .ok (.iconst 1, 1) := by decide +kernel
theorem dX5_reading_85 : decode cX5_reading 85 = .ok (.isub, 1) := by decide +kernel
theorem dX5_reading_86 : decode cX5_reading 86 = .ok (.ireturn, 1) := by decide +kernel
set_option maxRecDepth 20000 in
theorem ggX5_back_X5_in : GoodIn wsX5_back wsX5_in := goodIn_r _ [5] (by decide +kernel) (by decide +kernel)
set_option maxRecDepth 20000 in
theorem gX5_back_X5_in : GoodIn wsX5_back (va_wsS RX5 96 yX5_in wsX5_in) := goodIn_app (goodIn_of _ (by decide +kernel)) ggX5_back_X5_in
theorem dX5_back_0 : decode cX5_back 0 = .ok (.iload_n 1, 1) := by decide +kernel
theorem dX5_back_1 : decode cX5_back 1 = .ok (.i2l, 1) := by decide +kernel
theorem dX5_back_2 : decode cX5_back 2 = .ok (.lconst 0, 1) := by decide +kernel
theorem dX5_back_3 : decode cX5_back 3 = .ok (.aload_n 0, 1) := by decide +kernel
theorem dX5_back_4 : decode cX5_back 4 = .ok (.getfield 164, 3) := by decide +kernel
theorem dX5_back_7 : decode cX5_back 7 = .ok (.i2l, 1) := by decide +kernel
theorem dX5_back_8 : decode cX5_back 8 = .ok (.invokestatic 96, 3) := by decide +kernel
theorem dX5_back_11 : decode cX5_back 11 = .ok (.ifCond .ne 6, 3) := by decide +kernel
theorem dX5_back_14 : decode cX5_back 14 = .ok (.bipush (-2), 2) := by decide +kernel
theorem dX5_back_16 : decode cX5_back 16 = .ok (.ireturn, 1) := by decide +kernel
theorem dX5_back_17 : decode cX5_back 17 = .ok (.aload_n 0, 1) := by decide +kernel
theorem dX5_back_18 : decode cX5_back 18 = .ok (.dup, 1) := by decide +kernel
theorem dX5_back_19 : decode cX5_back 19 = .ok (.getfield 164, 3) := by decide +kernel
theorem dX5_back_22 : decode cX5_back 22 = .ok (.iload_n 1, 1) := by decide +kernel
theorem dX5_back_23 : decode cX5_back 23 = .ok (.isub, 1) := by decide +kernel
theorem dX5_back_24 : decode cX5_back 24 = .ok (.putfield 164, 3) := by decide +kernel
theorem dX5_back_27 : decode cX5_back 27 = .ok (.aload_n 0, 1) := by decide +kernel
theorem dX5_back_28 : decode cX5_back 28 = .ok (.getfield 164, 3) := by decide +kernel
theorem dX5_back_31 : decode cX5_back 31 = .ok (.ireturn, 1) := by decide +kernel
set_option maxRecDepth 20000 in
theorem ggX5_areSo_X5_forgedOn : GoodIn wsX5_areSo wsX5_forgedOn := goodIn_r _ [10, 11, 12, 13, 14, 15, 9, 16, 17, 18, 19, 20, 21, 22, 23, 24, 25, 26, 27, 28, 29, 30, 31, 32, 33, 34, 35, 36, 37, 38, 39, 40, 41, 42, 43, 44, 45, 46, 47, 48, 49, 50, 51, 52, 53, 54, 55] (by decide +kernel) (by decide +kernel)
set_option maxRecDepth 20000 in
theorem gX5_areSo_X5_forgedOn : GoodIn wsX5_areSo (wsV RX5 216 RX5 yX5_forgedOn wsX5_forgedOn) := goodIn_app (goodIn_of _ (by decide +kernel)) ggX5_areSo_X5_forgedOn
theorem dX5_areSo_0 : decode cX5_areSo 0 = .ok (.iconst 1, 1) := by decide +kernel
theorem dX5_areSo_1 : decode cX5_areSo 1 = .ok (.istore_n 1, 1) := by decide +kernel
theorem dX5_areSo_2 : decode cX5_areSo 2 = .ok (.iconst 0, 1) := by decide +kernel
theorem dX5_areSo_3 : decode cX5_areSo 3 = .ok (.istore_n 2, 1) := by decide +kernel
theorem dX5_areSo_4 : decode cX5_areSo 4 = .ok (.iload_n 2, 1) := by decide +kernel
theorem dX5_areSo_5 : decode cX5_areSo 5 = .ok (.aload_n 0, 1) := by decide +kernel
theorem dX5_areSo_6 : decode cX5_areSo 6 = .ok (.getfield 164, 3) := by decide +kernel
theorem dX5_areSo_9 : decode cX5_areSo 9 = .ok (.if_icmp .ge 58, 3) := by decide +kernel
theorem dX5_areSo_12 : decode cX5_areSo 12 = .ok (.iload_n 1, 1) := by decide +kernel
theorem dX5_areSo_13 : decode cX5_areSo 13 = .ok (.ifCond .eq 46, 3) := by decide +kernel
theorem dX5_areSo_16 : decode cX5_areSo 16 = .ok (.aload_n 0, 1) := by decide +kernel
theorem dX5_areSo_17 : decode cX5_areSo 17 = .ok (.aload_n 0, 1) := by decide +kernel
theorem dX5_areSo_18 : decode cX5_areSo 18 = .ok (.getfield 59, 3) := by decide +kernel
theorem dX5_areSo_21 : decode cX5_areSo 21 = .ok (.iload_n 2, 1) := by decide +kernel
theorem dX5_areSo_22 : decode cX5_areSo 22 = .ok (.iaload, 1) := by decide +kernel
theorem dX5_areSo_23 : decode cX5_areSo 23 = .ok (.aload_n 0, 1) := by decide +kernel
theorem dX5_areSo_24 : decode cX5_areSo 24 = .ok (.getfield 62, 3) := by decide +kernel
theorem dX5_areSo_27 : decode cX5_areSo 27 = .ok (.iload_n 2, 1) := by decide +kernel
theorem dX5_areSo_28 : decode cX5_areSo 28 = .ok (.iaload, 1) := by decide +kernel
theorem dX5_areSo_29 : decode cX5_areSo 29 = .ok (.invokevirtual 216, 3) := by decide +kernel
theorem dX5_areSo_32 : decode cX5_areSo 32 = .ok (.aload_n 0, 1) := by decide +kernel
theorem dX5_areSo_33 : decode cX5_areSo 33 = .ok (.getfield 65, 3) := by decide +kernel
theorem dX5_areSo_36 : decode cX5_areSo 36 = .ok (.iload_n 2, 1) := by decide +kernel
theorem dX5_areSo_37 : decode cX5_areSo 37 = .ok (.iaload, 1) := by decide +kernel
theorem dX5_areSo_38 : decode cX5_areSo 38 = .ok (.if_icmp .gt 7, 3) := by decide +kernel
theorem dX5_areSo_41 : decode cX5_areSo 41 = .ok (.iconst 1, 1) := by decide +kernel
theorem dX5_areSo_42 : decode cX5_areSo 42 = .ok (.goto 4, 3) := by decide +kernel
theorem dX5_areSo_45 : decode cX5_areSo 45 = .ok (.iconst 0, 1) := by decide +kernel
theorem dX5_areSo_46 : decode cX5_areSo 46 = .ok (.aload_n 0, 1) := by decide +kernel
theorem dX5_areSo_47 : decode cX5_areSo 47 = .ok (.getfield 68, 3) := by decide +kernel
theorem dX5_areSo_50 : decode cX5_areSo 50 = .ok (.iload_n 2, 1) := by decide +kernel
theorem dX5_areSo_51 : decode cX5_areSo 51 = .ok (.baload, 1) := by decide +kernel
theorem dX5_areSo_52 : decode cX5_areSo 52 = .ok (.if_icmp .ne 7, 3) := by decide +kernel
theorem dX5_areSo_55 : decode cX5_areSo 55 = .ok (.iconst 1, 1) := by decide +kernel
theorem dX5_areSo_56 : decode cX5_areSo 56 = .ok (.goto 4, 3) := by decide +kernel
theorem dX5_areSo_59 : decode cX5_areSo 59 = .ok (.iconst 0, 1) := by decide +kernel
theorem dX5_areSo_60 : decode cX5_areSo 60 = .ok (.istore_n 1, 1) := by decide +kernel
theorem dX5_areSo_61 : decode cX5_areSo 61 = .ok (.iinc 2 1, 3) := by decide +kernel
theorem dX5_areSo_64 : decode cX5_areSo 64 = .ok (.goto (-60), 3) := by decide +kernel
theorem dX5_areSo_67 : decode cX5_areSo 67 = .ok (.iload_n 1, 1) := by decide +kernel
theorem dX5_areSo_68 : decode cX5_areSo 68 = .ok (.ireturn, 1) := by decide +kernel
set_option maxRecDepth 20000 in
theorem ggX5_told_X5_isThing : GoodIn wsX5_told wsX5_isThing := goodIn_r _ [5, 6, 7, 8, 4, 9] (by decide +kernel) (by decide +kernel)
set_option maxRecDepth 20000 in
theorem gX5_told_X5_isThing : GoodIn wsX5_told (va_wsS RX5 173 yX5_isThing wsX5_isThing) := goodIn_app (goodIn_of _ (by decide +kernel)) ggX5_told_X5_isThing
set_option maxRecDepth 20000 in
theorem ggX5_told_X5_isDay : GoodIn wsX5_told wsX5_isDay := goodIn_r _ [12, 13, 7, 8, 4, 9] (by decide +kernel) (by decide +kernel)
set_option maxRecDepth 20000 in
theorem gX5_told_X5_isDay : GoodIn wsX5_told (va_wsS RX5 176 yX5_isDay wsX5_isDay) := goodIn_app (goodIn_of _ (by decide +kernel)) ggX5_told_X5_isDay
set_option maxRecDepth 20000 in
theorem ggX5_told_X5_tellAll : GoodIn wsX5_told wsX5_tellAll := goodIn_r _ [17, 18, 19, 20, 21, 22, 23, 24, 4, 25, 26, 27, 28, 29, 30, 31, 32, 33, 78, 79, 80, 81, 82, 83, 84, 85, 86, 87, 88, 89, 90, 91, 92, 93, 94, 95, 96, 97, 98, 99, 100, 101, 102, 103, 104, 105, 106, 107, 108, 109, 110, 111, 112] (by decide +kernel) (by decide +kernel)
set_option maxRecDepth 20000 in
theorem gX5_told_X5_tellAll : GoodIn wsX5_told (wsV RX5 201 RX5 yX5_tellAll wsX5_tellAll) := goodIn_app (goodIn_of _ (by decide +kernel)) ggX5_told_X5_tellAll
set_option maxRecDepth 20000 in
theorem ggX5_told_X5_hear : GoodIn wsX5_told wsX5_hear := goodIn_r _ [30, 26, 31, 32, 4, 33, 78, 79, 80, 81, 82, 83, 84, 85, 86, 87, 88, 89, 90, 91, 92, 93, 94, 95, 96, 97, 98, 99, 100, 101, 102, 103, 104, 105, 106, 107, 108, 109, 110, 111, 112] (by decide +kernel) (by decide +kernel)
set_option maxRecDepth 20000 in
theorem gX5_told_X5_hear : GoodIn wsX5_told (wsV RX5 197 RX5 yX5_hear wsX5_hear) := goodIn_app (goodIn_of _ (by decide +kernel)) ggX5_told_X5_hear
set_option maxRecDepth 20000 in
theorem ggX5_told_X5_spread : GoodIn wsX5_told wsX5_spread := goodIn_r _ [37, 38, 39, 40, 41, 42, 4, 43, 44, 45, 46, 47, 26, 48, 49, 31, 32, 33, 50, 51, 52, 53, 54, 55, 56, 57, 58, 78, 79, 80, 81, 82, 83, 84, 85, 86, 87, 88, 89, 90, 91, 92, 93, 94, 95, 96, 97, 98, 99, 100, 101, 102, 103, 104, 105, 106, 107, 108, 109, 110, 111, 112] (by decide +kernel) (by decide +kernel)
set_option maxRecDepth 20000 in
theorem gX5_told_X5_spread : GoodIn wsX5_told (wsV RX5 205 RX5 yX5_spread wsX5_spread) := goodIn_app (goodIn_of _ (by decide +kernel)) ggX5_told_X5_spread
set_option maxRecDepth 20000 in
theorem ggX5_told_X5_areSo : GoodIn wsX5_told wsX5_areSo := goodIn_r _ [62, 63, 64, 65, 66, 67, 68, 69, 70, 4, 71, 72, 73, 74, 75, 76, 77, 26, 31, 32, 33, 78, 79, 80, 81, 82, 83, 84, 85, 86, 87, 88, 89, 90, 91, 92, 93, 94, 95, 96, 97, 98, 99, 100, 101, 102, 103, 104, 105, 106, 107, 108, 109, 110, 111, 112] (by decide +kernel) (by decide +kernel)
set_option maxRecDepth 20000 in
theorem gX5_told_X5_areSo : GoodIn wsX5_told (wsV RX5 236 RX5 yX5_areSo wsX5_areSo) := goodIn_app (goodIn_of _ (by decide +kernel)) ggX5_told_X5_areSo
theorem dX5_told_0 : decode cX5_told 0 = .ok (.iload_n 1, 1) := by decide +kernel
theorem dX5_told_1 : decode cX5_told 1 = .ok (.invokestatic 173, 3) := by decide +kernel
theorem dX5_told_4 : decode cX5_told 4 = .ok (.ifCond .eq 10, 3) := by decide +kernel
theorem dX5_told_7 : decode cX5_told 7 = .ok (.iload_n 2, 1) := by decide +kernel
theorem dX5_told_8 : decode cX5_told 8 = .ok (.invokestatic 176, 3) := by decide +kernel
theorem dX5_told_11 : decode cX5_told 11 = .ok (.ifCond .ne 6, 3) := by decide +kernel
theorem dX5_told_14 : decode cX5_told 14 = .ok (.bipush (-2), 2) := by decide +kernel
theorem dX5_told_16 : decode cX5_told 16 = .ok (.ireturn, 1) := by decide +kernel
theorem dX5_told_17 : decode cX5_told 17 = .ok (.aload_n 0, 1) := by decide +kernel
theorem dX5_told_18 : decode cX5_told 18 = .ok (.getfield 93, 3) := by decide +kernel
theorem dX5_told_21 : decode cX5_told 21 = .ok (.ifCond .ne 6, 3) := by decide +kernel
theorem dX5_told_24 : decode cX5_told 24 = .ok (.bipush (-3), 2) := by decide +kernel
theorem dX5_told_26 : decode cX5_told 26 = .ok (.ireturn, 1) := by decide +kernel
theorem dX5_told_27 : decode cX5_told 27 = .ok (.iconst 0, 1) := by decide +kernel
theorem dX5_told_28 : decode cX5_told 28 = .ok (.istore_n 3, 1) := by decide +kernel
theorem dX5_told_29 : decode cX5_told 29 = .ok (.iconst 0, 1) := by decide +kernel
theorem dX5_told_30 : decode cX5_told 30 = .ok (.istore 4, 2) := by decide +kernel
theorem dX5_told_32 : decode cX5_told 32 = .ok (.iload 4, 2) := by decide +kernel
theorem dX5_told_34 : decode cX5_told 34 = .ok (.aload_n 0, 1) := by decide +kernel
theorem dX5_told_35 : decode cX5_told 35 = .ok (.getfield 93, 3) := by decide +kernel
theorem dX5_told_38 : decode cX5_told 38 = .ok (.if_icmp .ge 49, 3) := by decide +kernel
theorem dX5_told_41 : decode cX5_told 41 = .ok (.aload_n 0, 1) := by decide +kernel
theorem dX5_told_42 : decode cX5_told 42 = .ok (.bipush (-9), 2) := by decide +kernel
theorem dX5_told_44 : decode cX5_told 44 = .ok (.invokevirtual 201, 3) := by decide +kernel
theorem dX5_told_47 : decode cX5_told 47 = .ok (.aload_n 0, 1) := by decide +kernel
theorem dX5_told_48 : decode cX5_told 48 = .ok (.iload 4, 2) := by decide +kernel
theorem dX5_told_50 : decode cX5_told 50 = .ok (.iload_n 1, 1) := by decide +kernel
theorem dX5_told_51 : decode cX5_told 51 = .ok (.bipush 14, 2) := by decide +kernel
theorem dX5_told_53 : decode cX5_told 53 = .ok (.iload_n 2, 1) := by decide +kernel
theorem dX5_told_54 : decode cX5_told 54 = .ok (.invokevirtual 197, 3) := by decide +kernel
theorem dX5_told_57 : decode cX5_told 57 = .ok (.aload_n 0, 1) := by decide +kernel
theorem dX5_told_58 : decode cX5_told 58 = .ok (.bipush (-9), 2) := by decide +kernel
theorem dX5_told_60 : decode cX5_told 60 = .ok (.invokevirtual 205, 3) := by decide +kernel
theorem dX5_told_63 : decode cX5_told 63 = .ok (.iload_n 3, 1) := by decide +kernel
theorem dX5_told_64 : decode cX5_told 64 = .ok (.aload_n 0, 1) := by decide +kernel
theorem dX5_told_65 : decode cX5_told 65 = .ok (.invokevirtual 236, 3) := by decide +kernel
theorem dX5_told_68 : decode cX5_told 68 = .ok (.ifCond .eq 10, 3) := by decide +kernel
theorem dX5_told_71 : decode cX5_told 71 = .ok (.iconst 1, 1) := by decide +kernel
theorem dX5_told_72 : decode cX5_told 72 = .ok (.iload 4, 2) := by decide +kernel
theorem dX5_told_74 : decode cX5_told 74 = .ok (.ishl, 1) := by decide +kernel
theorem dX5_told_75 : decode cX5_told 75 = .ok (.goto 4, 3) := by decide +kernel
theorem dX5_told_78 : decode cX5_told 78 = .ok (.iconst 0, 1) := by decide +kernel
theorem dX5_told_79 : decode cX5_told 79 = .ok (.ior, 1) := by decide +kernel
theorem dX5_told_80 : decode cX5_told 80 = .ok (.istore_n 3, 1) := by decide +kernel
theorem dX5_told_81 : decode cX5_told 81 = .ok (.iinc 4 1, 3) := by decide +kernel
theorem dX5_told_84 : decode cX5_told 84 = .ok (.goto (-52), 3) := by decide +kernel
theorem dX5_told_87 : decode cX5_told 87 = .ok (.iload_n 3, 1) := by decide +kernel
theorem dX5_told_88 : decode cX5_told 88 = .ok (.ireturn, 1) := by decide +kernel
set_option maxRecDepth 20000 in
theorem ggX5_mute_X5_go : GoodIn wsX5_mute wsX5_go := goodIn_r _ [7, 8, 9, 10, 6, 11, 12, 13, 14, 15, 16, 17, 18, 19, 20, 21, 22, 23, 24, 25, 26, 27, 28, 29, 30, 31, 32, 2, 33, 34, 35, 36, 37, 38, 39, 40, 41, 42, 43, 44, 45, 46, 47, 48, 49, 50, 51, 71, 72, 73, 74, 75, 76, 77, 78, 79, 80, 81, 82, 83, 84, 85, 86, 87, 88, 89, 90, 91, 92, 93, 94, 95, 96, 97, 98, 99, 100, 101, 102, 103, 104, 105] (by decide +kernel) (by decide +kernel)
set_option maxRecDepth 20000 in
theorem gX5_mute_X5_go : GoodIn wsX5_mute (wsV RX5 210 RX5 yX5_go wsX5_go) := goodIn_app (goodIn_of _ (by decide +kernel)) ggX5_mute_X5_go
set_option maxRecDepth 20000 in
theorem ggX5_mute_X5_areSo : GoodIn wsX5_mute wsX5_areSo := goodIn_r _ [55, 56, 57, 58, 59, 60, 61, 62, 63, 6, 64, 65, 66, 67, 68, 69, 70, 20, 25, 26, 27, 71, 72, 73, 74, 75, 76, 77, 78, 79, 80, 81, 82, 83, 84, 85, 86, 87, 88, 89, 90, 91, 92, 93, 94, 95, 96, 97, 98, 99, 100, 101, 102, 103, 104, 105] (by decide +kernel) (by decide +kernel)
set_option maxRecDepth 20000 in
theorem gX5_mute_X5_areSo : GoodIn wsX5_mute (wsV RX5 236 RX5 yX5_areSo wsX5_areSo) := goodIn_app (goodIn_of _ (by decide +kernel)) ggX5_mute_X5_areSo
theorem dX5_mute_0 : decode cX5_mute 0 = .ok (.aload_n 0, 1) := by decide +kernel
theorem dX5_mute_1 : decode cX5_mute 1 = .ok (.getfield 93, 3) := by decide +kernel
theorem dX5_mute_4 : decode cX5_mute 4 = .ok (.ifCond .ne 6, 3) := by decide +kernel
theorem dX5_mute_7 : decode cX5_mute 7 = .ok (.bipush (-3), 2) := by decide +kernel
theorem dX5_mute_9 : decode cX5_mute 9 = .ok (.ireturn, 1) := by decide +kernel
theorem dX5_mute_10 : decode cX5_mute 10 = .ok (.aload_n 0, 1) := by decide +kernel
theorem dX5_mute_11 : decode cX5_mute 11 = .ok (.getfield 155, 3) := by decide +kernel
theorem dX5_mute_14 : decode cX5_mute 14 = .ok (.istore_n 1, 1) := by decide +kernel
theorem dX5_mute_15 : decode cX5_mute 15 = .ok (.iconst 0, 1) := by decide +kernel
theorem dX5_mute_16 : decode cX5_mute 16 = .ok (.istore_n 2, 1) := by decide +kernel
theorem dX5_mute_17 : decode cX5_mute 17 = .ok (.iconst 0, 1) := by decide +kernel
theorem dX5_mute_18 : decode cX5_mute 18 = .ok (.istore_n 3, 1) := by decide +kernel
theorem dX5_mute_19 : decode cX5_mute 19 = .ok (.iload_n 3, 1) := by decide +kernel
theorem dX5_mute_20 : decode cX5_mute 20 = .ok (.aload_n 0, 1) := by decide +kernel
theorem dX5_mute_21 : decode cX5_mute 21 = .ok (.getfield 93, 3) := by decide +kernel
theorem dX5_mute_24 : decode cX5_mute 24 = .ok (.if_icmp .ge 39, 3) := by decide +kernel
theorem dX5_mute_27 : decode cX5_mute 27 = .ok (.aload_n 0, 1) := by decide +kernel
theorem dX5_mute_28 : decode cX5_mute 28 = .ok (.iload_n 1, 1) := by decide +kernel
theorem dX5_mute_29 : decode cX5_mute 29 = .ok (.iconst 1, 1) := by decide +kernel
theorem dX5_mute_30 : decode cX5_mute 30 = .ok (.iload_n 3, 1) := by decide +kernel
theorem dX5_mute_31 : decode cX5_mute 31 = .ok (.ishl, 1) := by decide +kernel
theorem dX5_mute_32 : decode cX5_mute 32 = .ok (.ior, 1) := by decide +kernel
theorem dX5_mute_33 : decode cX5_mute 33 = .ok (.putfield 155, 3) := by decide +kernel
theorem dX5_mute_36 : decode cX5_mute 36 = .ok (.aload_n 0, 1) := by decide +kernel
theorem dX5_mute_37 : decode cX5_mute 37 = .ok (.invokevirtual 210, 3) := by decide +kernel
theorem dX5_mute_40 : decode cX5_mute 40 = .ok (.iload_n 2, 1) := by decide +kernel
theorem dX5_mute_41 : decode cX5_mute 41 = .ok (.aload_n 0, 1) := by decide +kernel
theorem dX5_mute_42 : decode cX5_mute 42 = .ok (.invokevirtual 236, 3) := by decide +kernel
theorem dX5_mute_45 : decode cX5_mute 45 = .ok (.ifCond .eq 9, 3) := by decide +kernel
theorem dX5_mute_48 : decode cX5_mute 48 = .ok (.iconst 1, 1) := by decide +kernel
theorem dX5_mute_49 : decode cX5_mute 49 = .ok (.iload_n 3, 1) := by decide +kernel
theorem dX5_mute_50 : decode cX5_mute 50 = .ok (.ishl, 1) := by decide +kernel
theorem dX5_mute_51 : decode cX5_mute 51 = .ok (.goto 4, 3) := by decide +kernel
theorem dX5_mute_54 : decode cX5_mute 54 = .ok (.iconst 0, 1) := by decide +kernel
theorem dX5_mute_55 : decode cX5_mute 55 = .ok (.ior, 1) := by decide +kernel
theorem dX5_mute_56 : decode cX5_mute 56 = .ok (.istore_n 2, 1) := by decide +kernel
theorem dX5_mute_57 : decode cX5_mute 57 = .ok (.iinc 3 1, 3) := by decide +kernel
theorem dX5_mute_60 : decode cX5_mute 60 = .ok (.goto (-41), 3) := by decide +kernel
theorem dX5_mute_63 : decode cX5_mute 63 = .ok (.aload_n 0, 1) := by decide +kernel
theorem dX5_mute_64 : decode cX5_mute 64 = .ok (.iload_n 1, 1) := by decide +kernel
theorem dX5_mute_65 : decode cX5_mute 65 = .ok (.putfield 155, 3) := by decide +kernel
theorem dX5_mute_68 : decode cX5_mute 68 = .ok (.iload_n 2, 1) := by decide +kernel
theorem dX5_mute_69 : decode cX5_mute 69 = .ok (.ireturn, 1) := by decide +kernel
set_option maxRecDepth 20000 in
theorem ggX5_rows_X5_noSheet : GoodIn wsX5_rows wsX5_noSheet := goodIn_r _ [7, 8, 9, 10, 6, 11] (by decide +kernel) (by decide +kernel)
set_option maxRecDepth 20000 in
theorem gX5_rows_X5_noSheet : GoodIn wsX5_rows (va_wsS RX5 136 yX5_noSheet wsX5_noSheet) := goodIn_app (goodIn_of _ (by decide +kernel)) ggX5_rows_X5_noSheet
set_option maxRecDepth 20000 in
theorem ggX5_rows_X5_refused : GoodIn wsX5_rows wsX5_refused := goodIn_r _ [15, 16, 89, 90, 91, 92, 93, 94, 95, 96, 97, 98, 99, 100, 101, 102, 103, 104, 105, 106, 107, 108, 109, 110, 111, 112, 113, 114, 115, 116, 117, 118, 119, 120, 121, 122, 123] (by decide +kernel) (by decide +kernel)
set_option maxRecDepth 20000 in
theorem gX5_rows_X5_refused : GoodIn wsX5_rows (wsV RX5 140 RX5 yX5_refused wsX5_refused) := goodIn_app (goodIn_of _ (by decide +kernel)) ggX5_rows_X5_refused
set_option maxRecDepth 20000 in
theorem ggX5_rows_X5_in : GoodIn wsX5_rows wsX5_in := goodIn_r _ [11] (by decide +kernel) (by decide +kernel)
set_option maxRecDepth 20000 in
theorem gX5_rows_X5_in : GoodIn wsX5_rows (va_wsS RX5 96 yX5_in wsX5_in) := goodIn_app (goodIn_of _ (by decide +kernel)) ggX5_rows_X5_in
set_option maxRecDepth 20000 in
theorem ggX5_rows_X5_isThing : GoodIn wsX5_rows wsX5_isThing := goodIn_r _ [19, 8, 9, 10, 6, 11] (by decide +kernel) (by decide +kernel)
set_option maxRecDepth 20000 in
theorem gX5_rows_X5_isThing : GoodIn wsX5_rows (va_wsS RX5 173 yX5_isThing wsX5_isThing) := goodIn_app (goodIn_of _ (by decide +kernel)) ggX5_rows_X5_isThing
set_option maxRecDepth 20000 in
theorem ggX5_rows_X5_cellsBarred : GoodIn wsX5_rows wsX5_cellsBarred := goodIn_r _ [23, 24, 25, 26, 27, 28, 6, 29, 16, 30, 31, 32, 89, 90, 91, 92, 93, 94, 95, 96, 97, 98, 99, 100, 101, 102, 103, 104, 105, 106, 107, 108, 109, 110, 111, 112, 113, 114, 115, 116, 117, 118, 119, 120, 121, 122, 123] (by decide +kernel) (by decide +kernel)
set_option maxRecDepth 20000 in
theorem gX5_rows_X5_cellsBarred : GoodIn wsX5_rows (wsV RX5 145 RX5 yX5_cellsBarred wsX5_cellsBarred) := goodIn_app (goodIn_of _ (by decide +kernel)) ggX5_rows_X5_cellsBarred
set_option maxRecDepth 20000 in
theorem ggX5_rows_X5_begin : GoodIn wsX5_rows wsX5_begin := goodIn_r _ [36, 37, 89, 90, 91, 92, 93, 94, 95, 96, 97, 98, 99, 100, 101, 102, 103, 104, 105, 106, 107, 108, 109, 110, 111, 112, 113, 114, 115, 116, 117, 118, 119, 120, 121, 122, 123] (by decide +kernel) (by decide +kernel)
set_option maxRecDepth 20000 in
theorem gX5_rows_X5_begin : GoodIn wsX5_rows (wsV RX5 194 RX5 yX5_begin wsX5_begin) := goodIn_app (goodIn_of _ (by decide +kernel)) ggX5_rows_X5_begin
set_option maxRecDepth 20000 in
theorem ggX5_rows_X5_noPerson : GoodIn wsX5_rows wsX5_noPerson := goodIn_r _ [41, 2, 9, 10, 6, 11, 89, 90, 91, 92, 93, 94, 95, 96, 97, 98, 99, 100, 101, 102, 103, 104, 105, 106, 107, 108, 109, 110, 111, 112, 113, 114, 115, 116, 117, 118, 119, 120, 121, 122, 123] (by decide +kernel) (by decide +kernel)
set_option maxRecDepth 20000 in
theorem gX5_rows_X5_noPerson : GoodIn wsX5_rows (wsV RX5 167 RX5 yX5_noPerson wsX5_noPerson) := goodIn_app (goodIn_of _ (by decide +kernel)) ggX5_rows_X5_noPerson
set_option maxRecDepth 20000 in
theorem ggX5_rows_X5_hear : GoodIn wsX5_rows wsX5_hear := goodIn_r _ [45, 37, 46, 47, 6, 48, 89, 90, 91, 92, 93, 94, 95, 96, 97, 98, 99, 100, 101, 102, 103, 104, 105, 106, 107, 108, 109, 110, 111, 112, 113, 114, 115, 116, 117, 118, 119, 120, 121, 122, 123] (by decide +kernel) (by decide +kernel)
set_option maxRecDepth 20000 in
theorem gX5_rows_X5_hear : GoodIn wsX5_rows (wsV RX5 197 RX5 yX5_hear wsX5_hear) := goodIn_app (goodIn_of _ (by decide +kernel)) ggX5_rows_X5_hear
set_option maxRecDepth 20000 in
theorem ggX5_rows_X5_spread : GoodIn wsX5_rows wsX5_spread := goodIn_r _ [52, 53, 54, 55, 56, 57, 6, 58, 59, 60, 61, 62, 37, 63, 64, 46, 47, 48, 65, 66, 67, 68, 69, 70, 71, 72, 73, 89, 90, 91, 92, 93, 94, 95, 96, 97, 98, 99, 100, 101, 102, 103, 104, 105, 106, 107, 108, 109, 110, 111, 112, 113, 114, 115, 116, 117, 118, 119, 120, 121, 122, 123] (by decide +kernel) (by decide +kernel)
set_option maxRecDepth 20000 in
theorem gX5_rows_X5_spread : GoodIn wsX5_rows (wsV RX5 205 RX5 yX5_spread wsX5_spread) := goodIn_app (goodIn_of _ (by decide +kernel)) ggX5_rows_X5_spread
set_option maxRecDepth 20000 in
theorem ggX5_rows_X5_worksBy : GoodIn wsX5_rows wsX5_worksBy := goodIn_r _ [77, 2, 78, 79, 80, 81, 6, 82, 83, 84, 85, 86, 87, 88, 37, 46, 47, 48, 89, 90, 91, 92, 93, 94, 95, 96, 97, 98, 99, 100, 101, 102, 103, 104, 105, 106, 107, 108, 109, 110, 111, 112, 113, 114, 115, 116, 117, 118, 119, 120, 121, 122, 123] (by decide +kernel) (by decide +kernel)
set_option maxRecDepth 20000 in
theorem gX5_rows_X5_worksBy : GoodIn wsX5_rows (wsV RX5 219 RX5 yX5_worksBy wsX5_worksBy) := goodIn_app (goodIn_of _ (by decide +kernel)) ggX5_rows_X5_worksBy
theorem dX5_rows_0 : decode cX5_rows 0 = .ok (.iload_n 2, 1) := by decide +kernel
theorem dX5_rows_1 : decode cX5_rows 1 = .ok (.invokestatic 136, 3) := by decide +kernel
theorem dX5_rows_4 : decode cX5_rows 4 = .ok (.ifCond .eq 9, 3) := by decide +kernel
theorem dX5_rows_7 : decode cX5_rows 7 = .ok (.aload_n 0, 1) := by decide +kernel
theorem dX5_rows_8 : decode cX5_rows 8 = .ok (.iconst (-1), 1) := by decide +kernel
theorem dX5_rows_9 : decode cX5_rows 9 = .ok (.invokevirtual 140, 3) := by decide +kernel
theorem dX5_rows_12 : decode cX5_rows 12 = .ok (.ireturn, 1) := by decide +kernel
theorem dX5_rows_13 : decode cX5_rows 13 = .ok (.iload_n 3, 1) := by decide +kernel
theorem dX5_rows_14 : decode cX5_rows 14 = .ok (.i2l, 1) := by decide +kernel
theorem dX5_rows_15 : decode cX5_rows 15 = .ok (.lconst 0, 1) := by decide +kernel
theorem dX5_rows_16 : decode cX5_rows 16 = .ok (.ldc2_w 143, 3) := by decide +kernel
theorem dX5_rows_19 : decode cX5_rows 19 = .ok (.invokestatic 96, 3) := by decide +kernel
theorem dX5_rows_22 : decode cX5_rows 22 = .ok (.ifCond .eq 10, 3) := by decide +kernel
theorem dX5_rows_25 : decode cX5_rows 25 = .ok (.iload_n 1, 1) := by decide +kernel
theorem dX5_rows_26 : decode cX5_rows 26 = .ok (.invokestatic 173, 3) := by decide +kernel
theorem dX5_rows_29 : decode cX5_rows 29 = .ok (.ifCond .ne 10, 3) := by decide +kernel
theorem dX5_rows_32 : decode cX5_rows 32 = .ok (.aload_n 0, 1) := by decide +kernel
theorem dX5_rows_33 : decode cX5_rows 33 = .ok (.bipush (-2), 2) := by decide +kernel
theorem dX5_rows_35 : decode cX5_rows 35 = .ok (.invokevirtual 140, 3) := by decide +kernel
theorem dX5_rows_38 : decode cX5_rows 38 = .ok (.ireturn, 1) := by decide +kernel
theorem dX5_rows_39 : decode cX5_rows 39 = .ok (.aload_n 0, 1) := by decide +kernel
theorem dX5_rows_40 : decode cX5_rows 40 = .ok (.getfield 93, 3) := by decide +kernel
theorem dX5_rows_43 : decode cX5_rows 43 = .ok (.ifCond .ne 10, 3) := by decide +kernel
theorem dX5_rows_46 : decode cX5_rows 46 = .ok (.aload_n 0, 1) := by decide +kernel
theorem dX5_rows_47 : decode cX5_rows 47 = .ok (.bipush (-3), 2) := by decide +kernel
theorem dX5_rows_49 : decode cX5_rows 49 = .ok (.invokevirtual 140, 3) := by decide +kernel
theorem dX5_rows_52 : decode cX5_rows 52 = .ok (.ireturn, 1) := by decide +kernel
theorem dX5_rows_53 : decode cX5_rows 53 = .ok (.aload_n 0, 1) := by decide +kernel
theorem dX5_rows_54 : decode cX5_rows 54 = .ok (.iload_n 2, 1) := by decide +kernel
theorem dX5_rows_55 : decode cX5_rows 55 = .ok (.iload_n 3, 1) := by decide +kernel
theorem dX5_rows_56 : decode cX5_rows 56 = .ok (.iload 4, 2) := by decide +kernel
theorem dX5_rows_58 : decode cX5_rows 58 = .ok (.iload 5, 2) := by decide +kernel
theorem dX5_rows_60 : decode cX5_rows 60 = .ok (.i2l, 1) := by decide +kernel
theorem dX5_rows_61 : decode cX5_rows 61 = .ok (.invokevirtual 145, 3) := by decide +kernel
theorem dX5_rows_64 : decode cX5_rows 64 = .ok (.istore 6, 2) := by decide +kernel
theorem dX5_rows_66 : decode cX5_rows 66 = .ok (.iload 6, 2) := by decide +kernel
theorem dX5_rows_68 : decode cX5_rows 68 = .ok (.ifCond .ge 6, 3) := by decide +kernel
theorem dX5_rows_71 : decode cX5_rows 71 = .ok (.iload 6, 2) := by decide +kernel
theorem dX5_rows_73 : decode cX5_rows 73 = .ok (.ireturn, 1) := by decide +kernel
theorem dX5_rows_74 : decode cX5_rows 74 = .ok (.iload 5, 2) := by decide +kernel
theorem dX5_rows_76 : decode cX5_rows 76 = .ok (.bipush 8, 2) := by decide +kernel
theorem dX5_rows_78 : decode cX5_rows 78 = .ok (.if_icmp .le 10, 3) := by decide +kernel
theorem dX5_rows_81 : decode cX5_rows 81 = .ok (.aload_n 0, 1) := by decide +kernel
theorem dX5_rows_82 : decode cX5_rows 82 = .ok (.bipush (-2), 2) := by decide +kernel
theorem dX5_rows_84 : decode cX5_rows 84 = .ok (.invokevirtual 140, 3) := by decide +kernel
theorem dX5_rows_87 : decode cX5_rows 87 = .ok (.ireturn, 1) := by decide +kernel
theorem dX5_rows_88 : decode cX5_rows 88 = .ok (.aload_n 0, 1) := by decide +kernel
theorem dX5_rows_89 : decode cX5_rows 89 = .ok (.invokevirtual 194, 3) := by decide +kernel
theorem dX5_rows_92 : decode cX5_rows 92 = .ok (.iconst 0, 1) := by decide +kernel
theorem dX5_rows_93 : decode cX5_rows 93 = .ok (.istore 7, 2) := by decide +kernel
theorem dX5_rows_95 : decode cX5_rows 95 = .ok (.iload 7, 2) := by decide +kernel
theorem dX5_rows_97 : decode cX5_rows 97 = .ok (.iload 5, 2) := by decide +kernel
theorem dX5_rows_99 : decode cX5_rows 99 = .ok (.if_icmp .ge 52, 3) := by decide +kernel
theorem dX5_rows_102 : decode cX5_rows 102 = .ok (.aload_n 0, 1) := by decide +kernel
theorem dX5_rows_103 : decode cX5_rows 103 = .ok (.getfield 77, 3) := by decide +kernel
theorem dX5_rows_106 : decode cX5_rows 106 = .ok (.bipush 60, 2) := by decide +kernel
theorem dX5_rows_108 : decode cX5_rows 108 = .ok (.iload_n 2, 1) := by decide +kernel
theorem dX5_rows_109 : decode cX5_rows 109 = .ok (.imul, 1) := by decide +kernel
theorem dX5_rows_110 : decode cX5_rows 110 = .ok (.iload 4, 2) := by decide +kernel
theorem dX5_rows_112 : decode cX5_rows 112 = .ok (.iadd, 1) := by decide +kernel
theorem dX5_rows_113 : decode cX5_rows 113 = .ok (.iload 7, 2) := by decide +kernel
theorem dX5_rows_115 : decode cX5_rows 115 = .ok (.iadd, 1) := by decide +kernel
theorem dX5_rows_116 : decode cX5_rows 116 = .ok (.iaload, 1) := by decide +kernel
theorem dX5_rows_117 : decode cX5_rows 117 = .ok (.istore 8, 2) := by decide +kernel
theorem dX5_rows_119 : decode cX5_rows 119 = .ok (.aload_n 0, 1) := by decide +kernel
theorem dX5_rows_120 : decode cX5_rows 120 = .ok (.iload 8, 2) := by decide +kernel
theorem dX5_rows_122 : decode cX5_rows 122 = .ok (.invokevirtual 167, 3) := by decide +kernel
theorem dX5_rows_125 : decode cX5_rows 125 = .ok (.ifCond .eq 9, 3) := by decide +kernel
theorem dX5_rows_128 : decode cX5_rows 128 = .ok (.aload_n 0, 1) := by decide +kernel
theorem dX5_rows_129 : decode cX5_rows 129 = .ok (.iconst (-1), 1) := by decide +kernel
theorem dX5_rows_130 : decode cX5_rows 130 = .ok (.invokevirtual 140, 3) := by decide +kernel
theorem dX5_rows_133 : decode cX5_rows 133 = .ok (.ireturn, 1) := by decide +kernel
theorem dX5_rows_134 : decode cX5_rows 134 = .ok (.aload_n 0, 1) := by decide +kernel
theorem dX5_rows_135 : decode cX5_rows 135 = .ok (.iload 8, 2) := by decide +kernel
theorem dX5_rows_137 : decode cX5_rows 137 = .ok (.iload_n 1, 1) := by decide +kernel
theorem dX5_rows_138 : decode cX5_rows 138 = .ok (.iload 7, 2) := by decide +kernel
theorem dX5_rows_140 : decode cX5_rows 140 = .ok (.iload 7, 2) := by decide +kernel
theorem dX5_rows_142 : decode cX5_rows 142 = .ok (.invokevirtual 197, 3) := by decide +kernel
theorem dX5_rows_145 : decode cX5_rows 145 = .ok (.iinc 7 1, 3) := by decide +kernel
theorem dX5_rows_148 : decode cX5_rows 148 = .ok (.goto (-53), 3) := by decide +kernel
theorem dX5_rows_151 : decode cX5_rows 151 = .ok (.aload_n 0, 1) := by decide +kernel
theorem dX5_rows_152 : decode cX5_rows 152 = .ok (.bipush (-9), 2) := by decide +kernel
theorem dX5_rows_154 : decode cX5_rows 154 = .ok (.invokevirtual 205, 3) := by decide +kernel
theorem dX5_rows_157 : decode cX5_rows 157 = .ok (.aload_n 0, 1) := by decide +kernel
theorem dX5_rows_158 : decode cX5_rows 158 = .ok (.aload_n 0, 1) := by decide +kernel
theorem dX5_rows_159 : decode cX5_rows 159 = .ok (.bipush 59, 2) := by decide +kernel
theorem dX5_rows_161 : decode cX5_rows 161 = .ok (.invokevirtual 219, 3) := by decide +kernel
theorem dX5_rows_164 : decode cX5_rows 164 = .ok (.invokevirtual 140, 3) := by decide +kernel
theorem dX5_rows_167 : decode cX5_rows 167 = .ok (.ireturn, 1) := by decide +kernel
set_option maxRecDepth 20000 in
theorem ggX5_noSheet_X5_in : GoodIn wsX5_noSheet wsX5_in := goodIn_r _ [5] (by decide +kernel) (by decide +kernel)
set_option maxRecDepth 20000 in
theorem gX5_noSheet_X5_in : GoodIn wsX5_noSheet (va_wsS RX5 96 yX5_in wsX5_in) := goodIn_app (goodIn_of _ (by decide +kernel)) ggX5_noSheet_X5_in
theorem dX5_noSheet_0 : decode cX5_noSheet 0 = .ok (.iload_n 0, 1) := by decide +kernel
theorem dX5_noSheet_1 : decode cX5_noSheet 1 = .ok (.i2l, 1) := by decide +kernel
theorem dX5_noSheet_2 : decode cX5_noSheet 2 = .ok (.lconst 0, 1) := by decide +kernel
theorem dX5_noSheet_3 : decode cX5_noSheet 3 = .ok (.ldc2_w 100, 3) := by decide +kernel
theorem dX5_noSheet_6 : decode cX5_noSheet 6 = .ok (.invokestatic 96, 3) := by decide +kernel
theorem dX5_noSheet_9 : decode cX5_noSheet 9 = .ok (.ifCond .ne 7, 3) := by decide +kernel
theorem dX5_noSheet_12 : decode cX5_noSheet 12 = .ok (.iconst 1, 1) := by decide +kernel
theorem dX5_noSheet_13 : decode cX5_noSheet 13 = .ok (.goto 4, 3) := by decide +kernel
theorem dX5_noSheet_16 : decode cX5_noSheet 16 = .ok (.iconst 0, 1) := by decide +kernel
theorem dX5_noSheet_17 : decode cX5_noSheet 17 = .ok (.ireturn, 1) := by decide +kernel
set_option maxRecDepth 20000 in
theorem ggX5_sheet_X5_noSheet : GoodIn wsX5_sheet wsX5_noSheet := goodIn_r _ [8, 9, 10, 11, 7, 12] (by decide +kernel) (by decide +kernel)
set_option maxRecDepth 20000 in
theorem gX5_sheet_X5_noSheet : GoodIn wsX5_sheet (va_wsS RX5 136 yX5_noSheet wsX5_noSheet) := goodIn_app (goodIn_of _ (by decide +kernel)) ggX5_sheet_X5_noSheet
set_option maxRecDepth 20000 in
theorem ggX5_sheet_X5_refused : GoodIn wsX5_sheet wsX5_refused := goodIn_r _ [16, 17, 22, 23, 24, 25, 26, 27, 28, 29, 30, 31, 32, 33, 34, 35, 36, 37, 38, 39, 40, 41, 42, 43, 44, 45, 46, 47, 48, 49, 50, 51, 52, 53, 54, 55, 56] (by decide +kernel) (by decide +kernel)
set_option maxRecDepth 20000 in
theorem gX5_sheet_X5_refused : GoodIn wsX5_sheet (wsV RX5 140 RX5 yX5_refused wsX5_refused) := goodIn_app (goodIn_of _ (by decide +kernel)) ggX5_sheet_X5_refused
set_option maxRecDepth 20000 in
theorem ggX5_sheet_X5_in : GoodIn wsX5_sheet wsX5_in := goodIn_r _ [12] (by decide +kernel) (by decide +kernel)
set_option maxRecDepth 20000 in
theorem gX5_sheet_X5_in : GoodIn wsX5_sheet (va_wsS RX5 96 yX5_in wsX5_in) := goodIn_app (goodIn_of _ (by decide +kernel)) ggX5_sheet_X5_in
set_option maxRecDepth 20000 in
theorem ggX5_sheet_X5_failed : GoodIn wsX5_sheet wsX5_failed := goodIn_r _ [21, 17, 22, 23, 24, 25, 26, 27, 28, 29, 30, 31, 32, 33, 34, 35, 36, 37, 38, 39, 40, 41, 42, 43, 44, 45, 46, 47, 48, 49, 50, 51, 52, 53, 54, 55, 56] (by decide +kernel) (by decide +kernel)
set_option maxRecDepth 20000 in
theorem gX5_sheet_X5_failed : GoodIn wsX5_sheet (wsV RX5 128 RX5 yX5_failed wsX5_failed) := goodIn_app (goodIn_of _ (by decide +kernel)) ggX5_sheet_X5_failed
theorem dX5_sheet_0 : decode cX5_sheet 0 = .ok (.iload_n 1, 1) := by decide +kernel
theorem dX5_sheet_1 : decode cX5_sheet 1 = .ok (.invokestatic 136, 3) := by decide +kernel
theorem dX5_sheet_4 : decode cX5_sheet 4 = .ok (.ifCond .eq 9, 3) := by decide +kernel
theorem dX5_sheet_7 : decode cX5_sheet 7 = .ok (.aload_n 0, 1) := by decide +kernel
theorem dX5_sheet_8 : decode cX5_sheet 8 = .ok (.iconst (-1), 1) := by decide +kernel
theorem dX5_sheet_9 : decode cX5_sheet 9 = .ok (.invokevirtual 140, 3) := by decide +kernel
theorem dX5_sheet_12 : decode cX5_sheet 12 = .ok (.ireturn, 1) := by decide +kernel
theorem dX5_sheet_13 : decode cX5_sheet 13 = .ok (.iload_n 2, 1) := by decide +kernel
theorem dX5_sheet_14 : decode cX5_sheet 14 = .ok (.i2l, 1) := by decide +kernel
theorem dX5_sheet_15 : decode cX5_sheet 15 = .ok (.lconst 0, 1) := by decide +kernel
theorem dX5_sheet_16 : decode cX5_sheet 16 = .ok (.ldc2_w 143, 3) := by decide +kernel
theorem dX5_sheet_19 : decode cX5_sheet 19 = .ok (.invokestatic 96, 3) := by decide +kernel
theorem dX5_sheet_22 : decode cX5_sheet 22 = .ok (.ifCond .eq 9, 3) := by decide +kernel
theorem dX5_sheet_25 : decode cX5_sheet 25 = .ok (.iload_n 3, 1) := by decide +kernel
theorem dX5_sheet_26 : decode cX5_sheet 26 = .ok (.bipush 60, 2) := by decide +kernel
theorem dX5_sheet_28 : decode cX5_sheet 28 = .ok (.if_icmp .le 10, 3) := by decide +kernel
theorem dX5_sheet_31 : decode cX5_sheet 31 = .ok (.aload_n 0, 1) := by decide +kernel
theorem dX5_sheet_32 : decode cX5_sheet 32 = .ok (.bipush (-2), 2) := by decide +kernel
theorem dX5_sheet_34 : decode cX5_sheet 34 = .ok (.invokevirtual 140, 3) := by decide +kernel
theorem dX5_sheet_37 : decode cX5_sheet 37 = .ok (.ireturn, 1) := by decide +kernel
theorem dX5_sheet_38 : decode cX5_sheet 38 = .ok (.iload_n 3, 1) := by decide +kernel
theorem dX5_sheet_39 : decode cX5_sheet 39 = .ok (.ifCond .ge 9, 3) := by decide +kernel
theorem dX5_sheet_42 : decode cX5_sheet 42 = .ok (.aload_n 0, 1) := by decide +kernel
theorem dX5_sheet_43 : decode cX5_sheet 43 = .ok (.iconst 4, 1) := by decide +kernel
theorem dX5_sheet_44 : decode cX5_sheet 44 = .ok (.invokevirtual 128, 3) := by decide +kernel
theorem dX5_sheet_47 : decode cX5_sheet 47 = .ok (.ireturn, 1) := by decide +kernel
theorem dX5_sheet_48 : decode cX5_sheet 48 = .ok (.aload_n 0, 1) := by decide +kernel
theorem dX5_sheet_49 : decode cX5_sheet 49 = .ok (.getfield 71, 3) := by decide +kernel
theorem dX5_sheet_52 : decode cX5_sheet 52 = .ok (.iload_n 1, 1) := by decide +kernel
theorem dX5_sheet_53 : decode cX5_sheet 53 = .ok (.iload_n 3, 1) := by decide +kernel
theorem dX5_sheet_54 : decode cX5_sheet 54 = .ok (.iastore, 1) := by decide +kernel
theorem dX5_sheet_55 : decode cX5_sheet 55 = .ok (.aload_n 0, 1) := by decide +kernel
theorem dX5_sheet_56 : decode cX5_sheet 56 = .ok (.getfield 74, 3) := by decide +kernel
theorem dX5_sheet_59 : decode cX5_sheet 59 = .ok (.iload_n 1, 1) := by decide +kernel
theorem dX5_sheet_60 : decode cX5_sheet 60 = .ok (.iload_n 2, 1) := by decide +kernel
theorem dX5_sheet_61 : decode cX5_sheet 61 = .ok (.iastore, 1) := by decide +kernel
theorem dX5_sheet_62 : decode cX5_sheet 62 = .ok (.iconst 0, 1) := by decide +kernel
theorem dX5_sheet_63 : decode cX5_sheet 63 = .ok (.istore 4, 2) := by decide +kernel
theorem dX5_sheet_65 : decode cX5_sheet 65 = .ok (.iload 4, 2) := by decide +kernel
theorem dX5_sheet_67 : decode cX5_sheet 67 = .ok (.iload_n 3, 1) := by decide +kernel
theorem dX5_sheet_68 : decode cX5_sheet 68 = .ok (.if_icmp .ge 22, 3) := by decide +kernel
theorem dX5_sheet_71 : decode cX5_sheet 71 = .ok (.aload_n 0, 1) := by decide +kernel
theorem dX5_sheet_72 : decode cX5_sheet 72 = .ok (.getfield 77, 3) := by decide +kernel
theorem dX5_sheet_75 : decode cX5_sheet 75 = .ok (.bipush 60, 2) := by decide +kernel
theorem dX5_sheet_77 : decode cX5_sheet 77 = .ok (.iload_n 1, 1) := by decide +kernel
theorem dX5_sheet_78 : decode cX5_sheet 78 = .ok (.imul, 1) := by decide +kernel
theorem dX5_sheet_79 : decode cX5_sheet 79 = .ok (.iload 4, 2) := by decide +kernel
theorem dX5_sheet_81 : decode cX5_sheet 81 = .ok (.iadd, 1) := by decide +kernel
theorem dX5_sheet_82 : decode cX5_sheet 82 = .ok (.iconst 0, 1) := by decide +kernel
theorem dX5_sheet_83 : decode cX5_sheet 83 = .ok (.iastore, 1) := by decide +kernel
theorem dX5_sheet_84 : decode cX5_sheet 84 = .ok (.iinc 4 1, 3) := by decide +kernel
theorem dX5_sheet_87 : decode cX5_sheet 87 = .ok (.goto (-22), 3) := by decide +kernel
theorem dX5_sheet_90 : decode cX5_sheet 90 = .ok (.aload_n 0, 1) := by decide +kernel
theorem dX5_sheet_91 : decode cX5_sheet 91 = .ok (.iconst 1, 1) := by decide +kernel
theorem dX5_sheet_92 : decode cX5_sheet 92 = .ok (.invokevirtual 140, 3) := by decide +kernel
theorem dX5_sheet_95 : decode cX5_sheet 95 = .ok (.ireturn, 1) := by decide +kernel
set_option maxRecDepth 20000 in
theorem ggX5_lose_X5_noSheet : GoodIn wsX5_lose wsX5_noSheet := goodIn_r _ [5, 6, 7, 8, 4, 9] (by decide +kernel) (by decide +kernel)
set_option maxRecDepth 20000 in
theorem gX5_lose_X5_noSheet : GoodIn wsX5_lose (va_wsS RX5 136 yX5_noSheet wsX5_noSheet) := goodIn_app (goodIn_of _ (by decide +kernel)) ggX5_lose_X5_noSheet
theorem dX5_lose_0 : decode cX5_lose 0 = .ok (.iload_n 1, 1) := by decide +kernel
theorem dX5_lose_1 : decode cX5_lose 1 = .ok (.invokestatic 136, 3) := by decide +kernel
theorem dX5_lose_4 : decode cX5_lose 4 = .ok (.ifCond .eq 5, 3) := by decide +kernel
theorem dX5_lose_7 : decode cX5_lose 7 = .ok (.iconst (-1), 1) := by decide +kernel
theorem dX5_lose_8 : decode cX5_lose 8 = .ok (.ireturn, 1) := by decide +kernel
theorem dX5_lose_9 : decode cX5_lose 9 = .ok (.aload_n 0, 1) := by decide +kernel
theorem dX5_lose_10 : decode cX5_lose 10 = .ok (.getfield 71, 3) := by decide +kernel
theorem dX5_lose_13 : decode cX5_lose 13 = .ok (.iload_n 1, 1) := by decide +kernel
theorem dX5_lose_14 : decode cX5_lose 14 = .ok (.iaload, 1) := by decide +kernel
theorem dX5_lose_15 : decode cX5_lose 15 = .ok (.ifCond .ge 7, 3) := by decide +kernel
theorem dX5_lose_18 : decode cX5_lose 18 = .ok (.iconst 0, 1) := by decide +kernel
theorem dX5_lose_19 : decode cX5_lose 19 = .ok (.goto 4, 3) := by decide +kernel
theorem dX5_lose_22 : decode cX5_lose 22 = .ok (.iconst 1, 1) := by decide +kernel
theorem dX5_lose_23 : decode cX5_lose 23 = .ok (.istore_n 2, 1) := by decide +kernel
theorem dX5_lose_24 : decode cX5_lose 24 = .ok (.aload_n 0, 1) := by decide +kernel
theorem dX5_lose_25 : decode cX5_lose 25 = .ok (.getfield 71, 3) := by decide +kernel
theorem dX5_lose_28 : decode cX5_lose 28 = .ok (.iload_n 1, 1) := by decide +kernel
theorem dX5_lose_29 : decode cX5_lose 29 = .ok (.iconst (-1), 1) := by decide +kernel
theorem dX5_lose_30 : decode cX5_lose 30 = .ok (.iastore, 1) := by decide +kernel
theorem dX5_lose_31 : decode cX5_lose 31 = .ok (.iload_n 2, 1) := by decide +kernel
theorem dX5_lose_32 : decode cX5_lose 32 = .ok (.ireturn, 1) := by decide +kernel
set_option maxRecDepth 20000 in
theorem ggX5_noCell_X5_in : GoodIn wsX5_noCell wsX5_in := goodIn_r _ [5] (by decide +kernel) (by decide +kernel)
set_option maxRecDepth 20000 in
theorem gX5_noCell_X5_in : GoodIn wsX5_noCell (va_wsS RX5 96 yX5_in wsX5_in) := goodIn_app (goodIn_of _ (by decide +kernel)) ggX5_noCell_X5_in
theorem dX5_noCell_0 : decode cX5_noCell 0 = .ok (.aload_n 0, 1) := by decide +kernel
theorem dX5_noCell_1 : decode cX5_noCell 1 = .ok (.getfield 71, 3) := by decide +kernel
theorem dX5_noCell_4 : decode cX5_noCell 4 = .ok (.iload_n 1, 1) := by decide +kernel
theorem dX5_noCell_5 : decode cX5_noCell 5 = .ok (.iaload, 1) := by decide +kernel
theorem dX5_noCell_6 : decode cX5_noCell 6 = .ok (.ifCond .ge 7, 3) := by decide +kernel
theorem dX5_noCell_9 : decode cX5_noCell 9 = .ok (.iconst 1, 1) := by decide +kernel
theorem dX5_noCell_10 : decode cX5_noCell 10 = .ok (.goto 26, 3) := by decide +kernel
theorem dX5_noCell_13 : decode cX5_noCell 13 = .ok (.iload_n 2, 1) := by decide +kernel
theorem dX5_noCell_14 : decode cX5_noCell 14 = .ok (.i2l, 1) := by decide +kernel
theorem dX5_noCell_15 : decode cX5_noCell 15 = .ok (.lconst 0, 1) := by decide +kernel
theorem dX5_noCell_16 : decode cX5_noCell 16 = .ok (.aload_n 0, 1) := by decide +kernel
theorem dX5_noCell_17 : decode cX5_noCell 17 = .ok (.getfield 71, 3) := by decide +kernel
theorem dX5_noCell_20 : decode cX5_noCell 20 = .ok (.iload_n 1, 1) := by decide +kernel
theorem dX5_noCell_21 : decode cX5_noCell 21 = .ok (.iaload, 1) := by decide +kernel
theorem dX5_noCell_22 : decode cX5_noCell 22 = .ok (.i2l, 1) := by decide +kernel
theorem dX5_noCell_23 : decode cX5_noCell 23 = .ok (.lconst 1, 1) := by decide +kernel
theorem dX5_noCell_24 : decode cX5_noCell 24 = .ok (.lsub, 1) := by decide +kernel
theorem dX5_noCell_25 : decode cX5_noCell 25 = .ok (.invokestatic 96, 3) := by decide +kernel
theorem dX5_noCell_28 : decode cX5_noCell 28 = .ok (.ifCond .eq 7, 3) := by decide +kernel
theorem dX5_noCell_31 : decode cX5_noCell 31 = .ok (.iconst 0, 1) := by decide +kernel
theorem dX5_noCell_32 : decode cX5_noCell 32 = .ok (.goto 4, 3) := by decide +kernel
theorem dX5_noCell_35 : decode cX5_noCell 35 = .ok (.iconst 3, 1) := by decide +kernel
theorem dX5_noCell_36 : decode cX5_noCell 36 = .ok (.ireturn, 1) := by decide +kernel
set_option maxRecDepth 20000 in
theorem ggX5_put_X5_noSheet : GoodIn wsX5_put wsX5_noSheet := goodIn_r _ [6, 7, 8, 9, 5, 10] (by decide +kernel) (by decide +kernel)
set_option maxRecDepth 20000 in
theorem gX5_put_X5_noSheet : GoodIn wsX5_put (va_wsS RX5 136 yX5_noSheet wsX5_noSheet) := goodIn_app (goodIn_of _ (by decide +kernel)) ggX5_put_X5_noSheet
set_option maxRecDepth 20000 in
theorem ggX5_put_X5_refused : GoodIn wsX5_put wsX5_refused := goodIn_r _ [14, 15, 25, 26, 27, 28, 29, 30, 31, 32, 33, 34, 35, 36, 37, 38, 39, 40, 41, 42, 43, 44, 45, 46, 47, 48, 49, 50, 51, 52, 53, 54, 55, 56, 57, 58, 59] (by decide +kernel) (by decide +kernel)
set_option maxRecDepth 20000 in
theorem gX5_put_X5_refused : GoodIn wsX5_put (wsV RX5 140 RX5 yX5_refused wsX5_refused) := goodIn_app (goodIn_of _ (by decide +kernel)) ggX5_put_X5_refused
set_option maxRecDepth 20000 in
theorem ggX5_put_X5_noCell : GoodIn wsX5_put wsX5_noCell := goodIn_r _ [19, 20, 8, 9, 5, 10, 25, 26, 27, 28, 29, 30, 31, 32, 33, 34, 35, 36, 37, 38, 39, 40, 41, 42, 43, 44, 45, 46, 47, 48, 49, 50, 51, 52, 53, 54, 55, 56, 57, 58, 59] (by decide +kernel) (by decide +kernel)
set_option maxRecDepth 20000 in
theorem gX5_put_X5_noCell : GoodIn wsX5_put (wsV RX5 240 RX5 yX5_noCell wsX5_noCell) := goodIn_app (goodIn_of _ (by decide +kernel)) ggX5_put_X5_noCell
set_option maxRecDepth 20000 in
theorem ggX5_put_X5_failed : GoodIn wsX5_put wsX5_failed := goodIn_r _ [24, 15, 25, 26, 27, 28, 29, 30, 31, 32, 33, 34, 35, 36, 37, 38, 39, 40, 41, 42, 43, 44, 45, 46, 47, 48, 49, 50, 51, 52, 53, 54, 55, 56, 57, 58, 59] (by decide +kernel) (by decide +kernel)
set_option maxRecDepth 20000 in
theorem gX5_put_X5_failed : GoodIn wsX5_put (wsV RX5 128 RX5 yX5_failed wsX5_failed) := goodIn_app (goodIn_of _ (by decide +kernel)) ggX5_put_X5_failed
theorem dX5_put_0 : decode cX5_put 0 = .ok (.iload_n 1, 1) := by decide +kernel
theorem dX5_put_1 : decode cX5_put 1 = .ok (.invokestatic 136, 3) := by decide +kernel
theorem dX5_put_4 : decode cX5_put 4 = .ok (.ifCond .eq 9, 3) := by decide +kernel
theorem dX5_put_7 : decode cX5_put 7 = .ok (.aload_n 0, 1) := by decide +kernel
theorem dX5_put_8 : decode cX5_put 8 = .ok (.iconst (-1), 1) := by decide +kernel
theorem dX5_put_9 : decode cX5_put 9 = .ok (.invokevirtual 140, 3) := by decide +kernel
theorem dX5_put_12 : decode cX5_put 12 = .ok (.ireturn, 1) := by decide +kernel
theorem dX5_put_13 : decode cX5_put 13 = .ok (.aload_n 0, 1) := by decide +kernel
theorem dX5_put_14 : decode cX5_put 14 = .ok (.iload_n 1, 1) := by decide +kernel
theorem dX5_put_15 : decode cX5_put 15 = .ok (.iload_n 2, 1) := by decide +kernel
theorem dX5_put_16 : decode cX5_put 16 = .ok (.invokevirtual 240, 3) := by decide +kernel
theorem dX5_put_19 : decode cX5_put 19 = .ok (.ifCond .le 14, 3) := by decide +kernel
theorem dX5_put_22 : decode cX5_put 22 = .ok (.aload_n 0, 1) := by decide +kernel
theorem dX5_put_23 : decode cX5_put 23 = .ok (.aload_n 0, 1) := by decide +kernel
theorem dX5_put_24 : decode cX5_put 24 = .ok (.iload_n 1, 1) := by decide +kernel
theorem dX5_put_25 : decode cX5_put 25 = .ok (.iload_n 2, 1) := by decide +kernel
theorem dX5_put_26 : decode cX5_put 26 = .ok (.invokevirtual 240, 3) := by decide +kernel
theorem dX5_put_29 : decode cX5_put 29 = .ok (.invokevirtual 128, 3) := by decide +kernel
theorem dX5_put_32 : decode cX5_put 32 = .ok (.ireturn, 1) := by decide +kernel
theorem dX5_put_33 : decode cX5_put 33 = .ok (.aload_n 0, 1) := by decide +kernel
theorem dX5_put_34 : decode cX5_put 34 = .ok (.getfield 77, 3) := by decide +kernel
theorem dX5_put_37 : decode cX5_put 37 = .ok (.bipush 60, 2) := by decide +kernel
theorem dX5_put_39 : decode cX5_put 39 = .ok (.iload_n 1, 1) := by decide +kernel
theorem dX5_put_40 : decode cX5_put 40 = .ok (.imul, 1) := by decide +kernel
theorem dX5_put_41 : decode cX5_put 41 = .ok (.iload_n 2, 1) := by decide +kernel
theorem dX5_put_42 : decode cX5_put 42 = .ok (.iadd, 1) := by decide +kernel
theorem dX5_put_43 : decode cX5_put 43 = .ok (.aload_n 0, 1) := by decide +kernel
theorem dX5_put_44 : decode cX5_put 44 = .ok (.getfield 74, 3) := by decide +kernel
theorem dX5_put_47 : decode cX5_put 47 = .ok (.iload_n 1, 1) := by decide +kernel
theorem dX5_put_48 : decode cX5_put 48 = .ok (.iaload, 1) := by decide +kernel
theorem dX5_put_49 : decode cX5_put 49 = .ok (.ifCond .ne 8, 3) := by decide +kernel
theorem dX5_put_52 : decode cX5_put 52 = .ok (.iload_n 3, 1) := by decide +kernel
theorem dX5_put_53 : decode cX5_put 53 = .ok (.i2b, 1) := by decide +kernel
theorem dX5_put_54 : decode cX5_put 54 = .ok (.goto 19, 3) := by decide +kernel
theorem dX5_put_57 : decode cX5_put 57 = .ok (.aload_n 0, 1) := by decide +kernel
theorem dX5_put_58 : decode cX5_put 58 = .ok (.getfield 74, 3) := by decide +kernel
theorem dX5_put_61 : decode cX5_put 61 = .ok (.iload_n 1, 1) := by decide +kernel
theorem dX5_put_62 : decode cX5_put 62 = .ok (.iaload, 1) := by decide +kernel
theorem dX5_put_63 : decode cX5_put 63 = .ok (.iconst 1, 1) := by decide +kernel
theorem dX5_put_64 : decode cX5_put 64 = .ok (.if_icmp .ne 8, 3) := by decide +kernel
theorem dX5_put_67 : decode cX5_put 67 = .ok (.iload_n 3, 1) := by decide +kernel
theorem dX5_put_68 : decode cX5_put 68 = .ok (.i2s, 1) := by decide +kernel
theorem dX5_put_69 : decode cX5_put 69 = .ok (.goto 4, 3) := by decide +kernel
theorem dX5_put_72 : decode cX5_put 72 = .ok (.iload_n 3, 1) := by decide +kernel
theorem dX5_put_73 : decode cX5_put 73 = .ok (.iastore, 1) := by decide +kernel
theorem dX5_put_74 : decode cX5_put 74 = .ok (.aload_n 0, 1) := by decide +kernel
theorem dX5_put_75 : decode cX5_put 75 = .ok (.iconst 1, 1) := by decide +kernel
theorem dX5_put_76 : decode cX5_put 76 = .ok (.invokevirtual 140, 3) := by decide +kernel
theorem dX5_put_79 : decode cX5_put 79 = .ok (.ireturn, 1) := by decide +kernel
set_option maxRecDepth 20000 in
theorem ggX5_cell_X5_noSheet : GoodIn wsX5_cell wsX5_noSheet := goodIn_r _ [9, 10, 11, 12, 8, 13] (by decide +kernel) (by decide +kernel)
set_option maxRecDepth 20000 in
theorem gX5_cell_X5_noSheet : GoodIn wsX5_cell (va_wsS RX5 136 yX5_noSheet wsX5_noSheet) := goodIn_app (goodIn_of _ (by decide +kernel)) ggX5_cell_X5_noSheet
set_option maxRecDepth 20000 in
theorem ggX5_cell_X5_in : GoodIn wsX5_cell wsX5_in := goodIn_r _ [13] (by decide +kernel) (by decide +kernel)
set_option maxRecDepth 20000 in
theorem gX5_cell_X5_in : GoodIn wsX5_cell (va_wsS RX5 96 yX5_in wsX5_in) := goodIn_app (goodIn_of _ (by decide +kernel)) ggX5_cell_X5_in
set_option maxRecDepth 20000 in
theorem ggX5_cell_X5_lost : GoodIn wsX5_cell wsX5_lost := goodIn_r _ [16, 17] (by decide +kernel) (by decide +kernel)
set_option maxRecDepth 20000 in
theorem gX5_cell_X5_lost : GoodIn wsX5_cell (va_wsS RX5 89 yX5_lost wsX5_lost) := goodIn_app (goodIn_of _ (by decide +kernel)) ggX5_cell_X5_lost
set_option maxRecDepth 20000 in
theorem ggX5_cell_X5_failedLong : GoodIn wsX5_cell wsX5_failedLong := goodIn_r _ [21, 1, 14, 15, 8, 16, 17, 26, 27, 28, 29, 30, 31, 32, 33, 34, 35, 36, 37, 38, 39, 40, 41, 42, 43, 44, 45, 46, 47, 48, 49, 50, 51, 52, 53, 54, 55, 56, 57, 58, 59, 60] (by decide +kernel) (by decide +kernel)
set_option maxRecDepth 20000 in
theorem gX5_cell_X5_failedLong : GoodIn wsX5_cell (wsV RX5 243 RX5 yX5_failedLong wsX5_failedLong) := goodIn_app (goodIn_of _ (by decide +kernel)) ggX5_cell_X5_failedLong
set_option maxRecDepth 20000 in
theorem ggX5_cell_X5_noCell : GoodIn wsX5_cell wsX5_noCell := goodIn_r _ [25, 3, 11, 12, 8, 13, 26, 27, 28, 29, 30, 31, 32, 33, 34, 35, 36, 37, 38, 39, 40, 41, 42, 43, 44, 45, 46, 47, 48, 49, 50, 51, 52, 53, 54, 55, 56, 57, 58, 59, 60] (by decide +kernel) (by decide +kernel)
set_option maxRecDepth 20000 in
theorem gX5_cell_X5_noCell : GoodIn wsX5_cell (wsV RX5 240 RX5 yX5_noCell wsX5_noCell) := goodIn_app (goodIn_of _ (by decide +kernel)) ggX5_cell_X5_noCell
theorem dX5_cell_0 : decode cX5_cell 0 = .ok (.aload_n 0, 1) := by decide +kernel
theorem dX5_cell_1 : decode cX5_cell 1 = .ok (.iconst 0, 1) := by decide +kernel
theorem dX5_cell_2 : decode cX5_cell 2 = .ok (.putfield 85, 3) := by decide +kernel
theorem dX5_cell_5 : decode cX5_cell 5 = .ok (.iload_n 1, 1) := by decide +kernel
theorem dX5_cell_6 : decode cX5_cell 6 = .ok (.invokestatic 136, 3) := by decide +kernel
theorem dX5_cell_9 : decode cX5_cell 9 = .ok (.ifCond .ne 15, 3) := by decide +kernel
theorem dX5_cell_12 : decode cX5_cell 12 = .ok (.iload_n 3, 1) := by decide +kernel
theorem dX5_cell_13 : decode cX5_cell 13 = .ok (.i2l, 1) := by decide +kernel
theorem dX5_cell_14 : decode cX5_cell 14 = .ok (.lconst 0, 1) := by decide +kernel
theorem dX5_cell_15 : decode cX5_cell 15 = .ok (.ldc2_w 143, 3) := by decide +kernel
theorem dX5_cell_18 : decode cX5_cell 18 = .ok (.invokestatic 96, 3) := by decide +kernel
theorem dX5_cell_21 : decode cX5_cell 21 = .ok (.ifCond .ne 7, 3) := by decide +kernel
theorem dX5_cell_24 : decode cX5_cell 24 = .ok (.invokestatic 89, 3) := by decide +kernel
theorem dX5_cell_27 : decode cX5_cell 27 = .ok (.lreturn, 1) := by decide +kernel
theorem dX5_cell_28 : decode cX5_cell 28 = .ok (.aload_n 0, 1) := by decide +kernel
theorem dX5_cell_29 : decode cX5_cell 29 = .ok (.getfield 71, 3) := by decide +kernel
theorem dX5_cell_32 : decode cX5_cell 32 = .ok (.iload_n 1, 1) := by decide +kernel
theorem dX5_cell_33 : decode cX5_cell 33 = .ok (.iaload, 1) := by decide +kernel
theorem dX5_cell_34 : decode cX5_cell 34 = .ok (.ifCond .lt 19, 3) := by decide +kernel
theorem dX5_cell_37 : decode cX5_cell 37 = .ok (.aload_n 0, 1) := by decide +kernel
theorem dX5_cell_38 : decode cX5_cell 38 = .ok (.getfield 74, 3) := by decide +kernel
theorem dX5_cell_41 : decode cX5_cell 41 = .ok (.iload_n 1, 1) := by decide +kernel
theorem dX5_cell_42 : decode cX5_cell 42 = .ok (.iaload, 1) := by decide +kernel
theorem dX5_cell_43 : decode cX5_cell 43 = .ok (.iload_n 3, 1) := by decide +kernel
theorem dX5_cell_44 : decode cX5_cell 44 = .ok (.if_icmp .eq 9, 3) := by decide +kernel
theorem dX5_cell_47 : decode cX5_cell 47 = .ok (.aload_n 0, 1) := by decide +kernel
theorem dX5_cell_48 : decode cX5_cell 48 = .ok (.iconst 2, 1) := by decide +kernel
theorem dX5_cell_49 : decode cX5_cell 49 = .ok (.invokevirtual 243, 3) := by decide +kernel
theorem dX5_cell_52 : decode cX5_cell 52 = .ok (.lreturn, 1) := by decide +kernel
theorem dX5_cell_53 : decode cX5_cell 53 = .ok (.aload_n 0, 1) := by decide +kernel
theorem dX5_cell_54 : decode cX5_cell 54 = .ok (.iload_n 1, 1) := by decide +kernel
theorem dX5_cell_55 : decode cX5_cell 55 = .ok (.iload_n 2, 1) := by decide +kernel
theorem dX5_cell_56 : decode cX5_cell 56 = .ok (.invokevirtual 240, 3) := by decide +kernel
theorem dX5_cell_59 : decode cX5_cell 59 = .ok (.ifCond .le 16, 3) := by decide +kernel
theorem dX5_cell_62 : decode cX5_cell 62 = .ok (.aload_n 0, 1) := by decide +kernel
theorem dX5_cell_63 : decode cX5_cell 63 = .ok (.aload_n 0, 1) := by decide +kernel
theorem dX5_cell_64 : decode cX5_cell 64 = .ok (.iload_n 1, 1) := by decide +kernel
theorem dX5_cell_65 : decode cX5_cell 65 = .ok (.iload_n 2, 1) := by decide +kernel
theorem dX5_cell_66 : decode cX5_cell 66 = .ok (.invokevirtual 240, 3) := by decide +kernel
theorem dX5_cell_69 : decode cX5_cell 69 = .ok (.invokevirtual 243, 3) := by decide +kernel
theorem dX5_cell_72 : decode cX5_cell 72 = .ok (.goto 15, 3) := by decide +kernel
theorem dX5_cell_75 : decode cX5_cell 75 = .ok (.aload_n 0, 1) := by decide +kernel
theorem dX5_cell_76 : decode cX5_cell 76 = .ok (.getfield 77, 3) := by decide +kernel
theorem dX5_cell_79 : decode cX5_cell 79 = .ok (.bipush 60, 2) := by decide +kernel
theorem dX5_cell_81 : decode cX5_cell 81 = .ok (.iload_n 1, 1) := by decide +kernel
theorem dX5_cell_82 : decode cX5_cell 82 = .ok (.imul, 1) := by decide +kernel
theorem dX5_cell_83 : decode cX5_cell 83 = .ok (.iload_n 2, 1) := by decide +kernel
theorem dX5_cell_84 : decode cX5_cell 84 = .ok (.iadd, 1) := by decide +kernel
theorem dX5_cell_85 : decode cX5_cell 85 = .ok (.iaload, 1) := by decide +kernel
theorem dX5_cell_86 : decode cX5_cell 86 = .ok (.i2l, 1) := by decide +kernel
theorem dX5_cell_87 : decode cX5_cell 87 = .ok (.lreturn, 1) := by decide +kernel
theorem dX5_isBeyond_0 : decode cX5_isBeyond 0 = .ok (.iload_n 0, 1) := by decide +kernel
theorem dX5_isBeyond_1 : decode cX5_isBeyond 1 = .ok (.ifCond .lt 19, 3) := by decide +kernel
theorem dX5_isBeyond_4 : decode cX5_isBeyond 4 = .ok (.lload_n 1, 1) := by decide +kernel
theorem dX5_isBeyond_5 : decode cX5_isBeyond 5 = .ok (.lconst 0, 1) := by decide +kernel
theorem dX5_isBeyond_6 : decode cX5_isBeyond 6 = .ok (.lcmp, 1) := by decide +kernel
theorem dX5_isBeyond_7 : decode cX5_isBeyond 7 = .ok (.ifCond .lt 13, 3) := by decide +kernel
theorem dX5_isBeyond_10 : decode cX5_isBeyond 10 = .ok (.iload_n 0, 1) := by decide +kernel
theorem dX5_isBeyond_11 : decode cX5_isBeyond 11 = .ok (.i2l, 1) := by decide +kernel
theorem dX5_isBeyond_12 : decode cX5_isBeyond 12 = .ok (.lload_n 1, 1) := by decide +kernel
theorem dX5_isBeyond_13 : decode cX5_isBeyond 13 = .ok (.ladd, 1) := by decide +kernel
theorem dX5_isBeyond_14 : decode cX5_isBeyond 14 = .ok (.iload_n 3, 1) := by decide +kernel
theorem dX5_isBeyond_15 : decode cX5_isBeyond 15 = .ok (.i2l, 1) := by decide +kernel
theorem dX5_isBeyond_16 : decode cX5_isBeyond 16 = .ok (.lcmp, 1) := by decide +kernel
theorem dX5_isBeyond_17 : decode cX5_isBeyond 17 = .ok (.ifCond .le 7, 3) := by decide +kernel
theorem dX5_isBeyond_20 : decode cX5_isBeyond 20 = .ok (.iconst 1, 1) := by decide +kernel
theorem dX5_isBeyond_21 : decode cX5_isBeyond 21 = .ok (.goto 4, 3) := by decide +kernel
theorem dX5_isBeyond_24 : decode cX5_isBeyond 24 = .ok (.iconst 0, 1) := by decide +kernel
theorem dX5_isBeyond_25 : decode cX5_isBeyond 25 = .ok (.ireturn, 1) := by decide +kernel
set_option maxRecDepth 20000 in
theorem ggX5_copy_X5_noSheet : GoodIn wsX5_copy wsX5_noSheet := goodIn_r _ [8, 9, 10, 11, 7, 12] (by decide +kernel) (by decide +kernel)
set_option maxRecDepth 20000 in
theorem gX5_copy_X5_noSheet : GoodIn wsX5_copy (va_wsS RX5 136 yX5_noSheet wsX5_noSheet) := goodIn_app (goodIn_of _ (by decide +kernel)) ggX5_copy_X5_noSheet
set_option maxRecDepth 20000 in
theorem ggX5_copy_X5_refused : GoodIn wsX5_copy wsX5_refused := goodIn_r _ [16, 17, 25, 26, 27, 28, 29, 30, 31, 32, 33, 34, 35, 36, 37, 38, 39, 40, 41, 42, 43, 44, 45, 46, 47, 48, 49, 50, 51, 52, 53, 54, 55, 56, 57, 58, 59] (by decide +kernel) (by decide +kernel)
set_option maxRecDepth 20000 in
theorem gX5_copy_X5_refused : GoodIn wsX5_copy (wsV RX5 140 RX5 yX5_refused wsX5_refused) := goodIn_app (goodIn_of _ (by decide +kernel)) ggX5_copy_X5_refused
set_option maxRecDepth 20000 in
theorem ggX5_copy_X5_failed : GoodIn wsX5_copy wsX5_failed := goodIn_r _ [21, 17, 25, 26, 27, 28, 29, 30, 31, 32, 33, 34, 35, 36, 37, 38, 39, 40, 41, 42, 43, 44, 45, 46, 47, 48, 49, 50, 51, 52, 53, 54, 55, 56, 57, 58, 59] (by decide +kernel) (by decide +kernel)
set_option maxRecDepth 20000 in
theorem gX5_copy_X5_failed : GoodIn wsX5_copy (wsV RX5 128 RX5 yX5_failed wsX5_failed) := goodIn_app (goodIn_of _ (by decide +kernel)) ggX5_copy_X5_failed
set_option maxRecDepth 20000 in
theorem ggX5_copy_X5_isBeyond : GoodIn wsX5_copy wsX5_isBeyond := goodIn_r _ [24] (by decide +kernel) (by decide +kernel)
set_option maxRecDepth 20000 in
theorem gX5_copy_X5_isBeyond : GoodIn wsX5_copy (va_wsS RX5 132 yX5_isBeyond wsX5_isBeyond) := goodIn_app (goodIn_of _ (by decide +kernel)) ggX5_copy_X5_isBeyond
theorem dX5_copy_0 : decode cX5_copy 0 = .ok (.iload_n 1, 1) := by decide +kernel
theorem dX5_copy_1 : decode cX5_copy 1 = .ok (.invokestatic 136, 3) := by decide +kernel
theorem dX5_copy_4 : decode cX5_copy 4 = .ok (.ifCond .ne 10, 3) := by decide +kernel
theorem dX5_copy_7 : decode cX5_copy 7 = .ok (.iload_n 3, 1) := by decide +kernel
theorem dX5_copy_8 : decode cX5_copy 8 = .ok (.invokestatic 136, 3) := by decide +kernel
theorem dX5_copy_11 : decode cX5_copy 11 = .ok (.ifCond .eq 9, 3) := by decide +kernel
theorem dX5_copy_14 : decode cX5_copy 14 = .ok (.aload_n 0, 1) := by decide +kernel
theorem dX5_copy_15 : decode cX5_copy 15 = .ok (.iconst (-1), 1) := by decide +kernel
theorem dX5_copy_16 : decode cX5_copy 16 = .ok (.invokevirtual 140, 3) := by decide +kernel
theorem dX5_copy_19 : decode cX5_copy 19 = .ok (.ireturn, 1) := by decide +kernel
theorem dX5_copy_20 : decode cX5_copy 20 = .ok (.aload_n 0, 1) := by decide +kernel
theorem dX5_copy_21 : decode cX5_copy 21 = .ok (.getfield 71, 3) := by decide +kernel
theorem dX5_copy_24 : decode cX5_copy 24 = .ok (.iload_n 1, 1) := by decide +kernel
theorem dX5_copy_25 : decode cX5_copy 25 = .ok (.iaload, 1) := by decide +kernel
theorem dX5_copy_26 : decode cX5_copy 26 = .ok (.ifCond .lt 12, 3) := by decide +kernel
theorem dX5_copy_29 : decode cX5_copy 29 = .ok (.aload_n 0, 1) := by decide +kernel
theorem dX5_copy_30 : decode cX5_copy 30 = .ok (.getfield 71, 3) := by decide +kernel
theorem dX5_copy_33 : decode cX5_copy 33 = .ok (.iload_n 3, 1) := by decide +kernel
theorem dX5_copy_34 : decode cX5_copy 34 = .ok (.iaload, 1) := by decide +kernel
theorem dX5_copy_35 : decode cX5_copy 35 = .ok (.ifCond .ge 9, 3) := by decide +kernel
theorem dX5_copy_38 : decode cX5_copy 38 = .ok (.aload_n 0, 1) := by decide +kernel
theorem dX5_copy_39 : decode cX5_copy 39 = .ok (.iconst 1, 1) := by decide +kernel
theorem dX5_copy_40 : decode cX5_copy 40 = .ok (.invokevirtual 128, 3) := by decide +kernel
theorem dX5_copy_43 : decode cX5_copy 43 = .ok (.ireturn, 1) := by decide +kernel
theorem dX5_copy_44 : decode cX5_copy 44 = .ok (.aload_n 0, 1) := by decide +kernel
theorem dX5_copy_45 : decode cX5_copy 45 = .ok (.getfield 74, 3) := by decide +kernel
theorem dX5_copy_48 : decode cX5_copy 48 = .ok (.iload_n 1, 1) := by decide +kernel
theorem dX5_copy_49 : decode cX5_copy 49 = .ok (.iaload, 1) := by decide +kernel
theorem dX5_copy_50 : decode cX5_copy 50 = .ok (.aload_n 0, 1) := by decide +kernel
theorem dX5_copy_51 : decode cX5_copy 51 = .ok (.getfield 74, 3) := by decide +kernel
theorem dX5_copy_54 : decode cX5_copy 54 = .ok (.iload_n 3, 1) := by decide +kernel
theorem dX5_copy_55 : decode cX5_copy 55 = .ok (.iaload, 1) := by decide +kernel
theorem dX5_copy_56 : decode cX5_copy 56 = .ok (.if_icmp .eq 9, 3) := by decide +kernel
theorem dX5_copy_59 : decode cX5_copy 59 = .ok (.aload_n 0, 1) := by decide +kernel
theorem dX5_copy_60 : decode cX5_copy 60 = .ok (.iconst 2, 1) := by decide +kernel
theorem dX5_copy_61 : decode cX5_copy 61 = .ok (.invokevirtual 128, 3) := by decide +kernel
theorem dX5_copy_64 : decode cX5_copy 64 = .ok (.ireturn, 1) := by decide +kernel
theorem dX5_copy_65 : decode cX5_copy 65 = .ok (.iload_n 2, 1) := by decide +kernel
theorem dX5_copy_66 : decode cX5_copy 66 = .ok (.iload 5, 2) := by decide +kernel
theorem dX5_copy_68 : decode cX5_copy 68 = .ok (.i2l, 1) := by decide +kernel
theorem dX5_copy_69 : decode cX5_copy 69 = .ok (.aload_n 0, 1) := by decide +kernel
theorem dX5_copy_70 : decode cX5_copy 70 = .ok (.getfield 71, 3) := by decide +kernel
theorem dX5_copy_73 : decode cX5_copy 73 = .ok (.iload_n 1, 1) := by decide +kernel
theorem dX5_copy_74 : decode cX5_copy 74 = .ok (.iaload, 1) := by decide +kernel
theorem dX5_copy_75 : decode cX5_copy 75 = .ok (.invokestatic 132, 3) := by decide +kernel
theorem dX5_copy_78 : decode cX5_copy 78 = .ok (.ifCond .ne 20, 3) := by decide +kernel
theorem dX5_copy_81 : decode cX5_copy 81 = .ok (.iload 4, 2) := by decide +kernel
theorem dX5_copy_83 : decode cX5_copy 83 = .ok (.iload 5, 2) := by decide +kernel
theorem dX5_copy_85 : decode cX5_copy 85 = .ok (.i2l, 1) := by decide +kernel
theorem dX5_copy_86 : decode cX5_copy 86 = .ok (.aload_n 0, 1) := by decide +kernel
theorem dX5_copy_87 : decode cX5_copy 87 = .ok (.getfield 71, 3) := by decide +kernel
theorem dX5_copy_90 : decode cX5_copy 90 = .ok (.iload_n 3, 1) := by decide +kernel
theorem dX5_copy_91 : decode cX5_copy 91 = .ok (.iaload, 1) := by decide +kernel
theorem dX5_copy_92 : decode cX5_copy 92 = .ok (.invokestatic 132, 3) := by decide +kernel
theorem dX5_copy_95 : decode cX5_copy 95 = .ok (.ifCond .eq 9, 3) := by decide +kernel
theorem dX5_copy_98 : decode cX5_copy 98 = .ok (.aload_n 0, 1) := by decide +kernel
theorem dX5_copy_99 : decode cX5_copy 99 = .ok (.iconst 3, 1) := by decide +kernel
theorem dX5_copy_100 : decode cX5_copy 100 = .ok (.invokevirtual 128, 3) := by decide +kernel
theorem dX5_copy_103 : decode cX5_copy 103 = .ok (.ireturn, 1) := by decide +kernel
theorem dX5_copy_104 : decode cX5_copy 104 = .ok (.iconst 0, 1) := by decide +kernel
theorem dX5_copy_105 : decode cX5_copy 105 = .ok (.istore 6, 2) := by decide +kernel
theorem dX5_copy_107 : decode cX5_copy 107 = .ok (.iload 6, 2) := by decide +kernel
theorem dX5_copy_109 : decode cX5_copy 109 = .ok (.iload 5, 2) := by decide +kernel
theorem dX5_copy_111 : decode cX5_copy 111 = .ok (.if_icmp .ge 30, 3) := by decide +kernel
theorem dX5_copy_114 : decode cX5_copy 114 = .ok (.aload_n 0, 1) := by decide +kernel
theorem dX5_copy_115 : decode cX5_copy 115 = .ok (.getfield 80, 3) := by decide +kernel
theorem dX5_copy_118 : decode cX5_copy 118 = .ok (.iload 6, 2) := by decide +kernel
theorem dX5_copy_120 : decode cX5_copy 120 = .ok (.aload_n 0, 1) := by decide +kernel
theorem dX5_copy_121 : decode cX5_copy 121 = .ok (.getfield 77, 3) := by decide +kernel
theorem dX5_copy_124 : decode cX5_copy 124 = .ok (.bipush 60, 2) := by decide +kernel
theorem dX5_copy_126 : decode cX5_copy 126 = .ok (.iload_n 1, 1) := by decide +kernel
theorem dX5_copy_127 : decode cX5_copy 127 = .ok (.imul, 1) := by decide +kernel
theorem dX5_copy_128 : decode cX5_copy 128 = .ok (.iload_n 2, 1) := by decide +kernel
theorem dX5_copy_129 : decode cX5_copy 129 = .ok (.iadd, 1) := by decide +kernel
theorem dX5_copy_130 : decode cX5_copy 130 = .ok (.iload 6, 2) := by decide +kernel
theorem dX5_copy_132 : decode cX5_copy 132 = .ok (.iadd, 1) := by decide +kernel
theorem dX5_copy_133 : decode cX5_copy 133 = .ok (.iaload, 1) := by decide +kernel
theorem dX5_copy_134 : decode cX5_copy 134 = .ok (.iastore, 1) := by decide +kernel
theorem dX5_copy_135 : decode cX5_copy 135 = .ok (.iinc 6 1, 3) := by decide +kernel
theorem dX5_copy_138 : decode cX5_copy 138 = .ok (.goto (-31), 3) := by decide +kernel
theorem dX5_copy_141 : decode cX5_copy 141 = .ok (.iconst 0, 1) := by decide +kernel
theorem dX5_copy_142 : decode cX5_copy 142 = .ok (.istore 6, 2) := by decide +kernel
theorem dX5_copy_144 : decode cX5_copy 144 = .ok (.iload 6, 2) := by decide +kernel
theorem dX5_copy_146 : decode cX5_copy 146 = .ok (.iload 5, 2) := by decide +kernel
theorem dX5_copy_148 : decode cX5_copy 148 = .ok (.if_icmp .ge 31, 3) := by decide +kernel
theorem dX5_copy_151 : decode cX5_copy 151 = .ok (.aload_n 0, 1) := by decide +kernel
theorem dX5_copy_152 : decode cX5_copy 152 = .ok (.getfield 77, 3) := by decide +kernel
theorem dX5_copy_155 : decode cX5_copy 155 = .ok (.bipush 60, 2) := by decide +kernel
theorem dX5_copy_157 : decode cX5_copy 157 = .ok (.iload_n 3, 1) := by decide +kernel
theorem dX5_copy_158 : decode cX5_copy 158 = .ok (.imul, 1) := by decide +kernel
theorem dX5_copy_159 : decode cX5_copy 159 = .ok (.iload 4, 2) := by decide +kernel
theorem dX5_copy_161 : decode cX5_copy 161 = .ok (.iadd, 1) := by decide +kernel
theorem dX5_copy_162 : decode cX5_copy 162 = .ok (.iload 6, 2) := by decide +kernel
theorem dX5_copy_164 : decode cX5_copy 164 = .ok (.iadd, 1) := by decide +kernel
theorem dX5_copy_165 : decode cX5_copy 165 = .ok (.aload_n 0, 1) := by decide +kernel
theorem dX5_copy_166 : decode cX5_copy 166 = .ok (.getfield 80, 3) := by decide +kernel
theorem dX5_copy_169 : decode cX5_copy 169 = .ok (.iload 6, 2) := by decide +kernel
theorem dX5_copy_171 : decode cX5_copy 171 = .ok (.iaload, 1) := by decide +kernel
theorem dX5_copy_172 : decode cX5_copy 172 = .ok (.iastore, 1) := by decide +kernel
theorem dX5_copy_173 : decode cX5_copy 173 = .ok (.iinc 6 1, 3) := by decide +kernel
theorem dX5_copy_176 : decode cX5_copy 176 = .ok (.goto (-32), 3) := by decide +kernel
theorem dX5_copy_179 : decode cX5_copy 179 = .ok (.aload_n 0, 1) := by decide +kernel
theorem dX5_copy_180 : decode cX5_copy 180 = .ok (.iload 5, 2) := by decide +kernel
theorem dX5_copy_182 : decode cX5_copy 182 = .ok (.invokevirtual 140, 3) := by decide +kernel
theorem dX5_copy_185 : decode cX5_copy 185 = .ok (.ireturn, 1) := by decide +kernel
theorem dX5_traced_0 : decode cX5_traced 0 = .ok (.aload_n 0, 1) := by decide +kernel
theorem dX5_traced_1 : decode cX5_traced 1 = .ok (.bipush 31, 2) := by decide +kernel
theorem dX5_traced_3 : decode cX5_traced 3 = .ok (.aload_n 0, 1) := by decide +kernel
theorem dX5_traced_4 : decode cX5_traced 4 = .ok (.getfield 247, 3) := by decide +kernel
theorem dX5_traced_7 : decode cX5_traced 7 = .ok (.imul, 1) := by decide +kernel
theorem dX5_traced_8 : decode cX5_traced 8 = .ok (.iload_n 1, 1) := by decide +kernel
theorem dX5_traced_9 : decode cX5_traced 9 = .ok (.iadd, 1) := by decide +kernel
theorem dX5_traced_10 : decode cX5_traced 10 = .ok (.putfield 247, 3) := by decide +kernel
theorem dX5_traced_13 : decode cX5_traced 13 = .ok (.return_, 1) := by decide +kernel
set_option maxRecDepth 20000 in
theorem ggX5_tell_X5_noPerson : GoodIn wsX5_tell wsX5_noPerson := goodIn_r _ [6, 7, 8, 9, 5, 10, 16, 17, 18, 19, 20, 21, 22, 23, 24, 25, 26, 27, 28, 29, 30, 31, 32, 33, 34, 35, 36, 37, 38, 39, 40, 41, 42, 43, 44, 45, 46, 47, 48, 49, 50] (by decide +kernel) (by decide +kernel)
set_option maxRecDepth 20000 in
theorem gX5_tell_X5_noPerson : GoodIn wsX5_tell (wsV RX5 167 RX5 yX5_noPerson wsX5_noPerson) := goodIn_app (goodIn_of _ (by decide +kernel)) ggX5_tell_X5_noPerson
set_option maxRecDepth 20000 in
theorem ggX5_tell_X5_traced : GoodIn wsX5_tell wsX5_traced := goodIn_r _ [14, 15, 16, 17, 18, 19, 20, 21, 22, 23, 24, 25, 26, 27, 28, 29, 30, 31, 32, 33, 34, 35, 36, 37, 38, 39, 40, 41, 42, 43, 44, 45, 46, 47, 48, 49, 50] (by decide +kernel) (by decide +kernel)
set_option maxRecDepth 20000 in
theorem gX5_tell_X5_traced : GoodIn wsX5_tell (wsV RX5 250 RX5 yX5_traced wsX5_traced) := goodIn_app (goodIn_of _ (by decide +kernel)) ggX5_tell_X5_traced
theorem dX5_tell_0 : decode cX5_tell 0 = .ok (.aload_n 0, 1) := by decide +kernel
theorem dX5_tell_1 : decode cX5_tell 1 = .ok (.iload_n 1, 1) := by decide +kernel
theorem dX5_tell_2 : decode cX5_tell 2 = .ok (.invokevirtual 167, 3) := by decide +kernel
theorem dX5_tell_5 : decode cX5_tell 5 = .ok (.ifCond .eq 5, 3) := by decide +kernel
theorem dX5_tell_8 : decode cX5_tell 8 = .ok (.iconst (-1), 1) := by decide +kernel
theorem dX5_tell_9 : decode cX5_tell 9 = .ok (.ireturn, 1) := by decide +kernel
theorem dX5_tell_10 : decode cX5_tell 10 = .ok (.aload_n 0, 1) := by decide +kernel
theorem dX5_tell_11 : decode cX5_tell 11 = .ok (.getfield 7, 3) := by decide +kernel
theorem dX5_tell_14 : decode cX5_tell 14 = .ok (.iload_n 1, 1) := by decide +kernel
theorem dX5_tell_15 : decode cX5_tell 15 = .ok (.iaload, 1) := by decide +kernel
theorem dX5_tell_16 : decode cX5_tell 16 = .ok (.istore_n 2, 1) := by decide +kernel
theorem dX5_tell_17 : decode cX5_tell 17 = .ok (.iload_n 2, 1) := by decide +kernel
theorem dX5_tell_18 : decode cX5_tell 18 = .ok (.iconst 2, 1) := by decide +kernel
theorem dX5_tell_19 : decode cX5_tell 19 = .ok (.if_icmp .ne 8, 3) := by decide +kernel
theorem dX5_tell_22 : decode cX5_tell 22 = .ok (.aload_n 0, 1) := by decide +kernel
theorem dX5_tell_23 : decode cX5_tell 23 = .ok (.iconst 3, 1) := by decide +kernel
theorem dX5_tell_24 : decode cX5_tell 24 = .ok (.invokevirtual 250, 3) := by decide +kernel
theorem dX5_tell_27 : decode cX5_tell 27 = .ok (.iload_n 2, 1) := by decide +kernel
theorem dX5_tell_28 : decode cX5_tell 28 = .ok (.ifCond .le 8, 3) := by decide +kernel
theorem dX5_tell_31 : decode cX5_tell 31 = .ok (.aload_n 0, 1) := by decide +kernel
theorem dX5_tell_32 : decode cX5_tell 32 = .ok (.iconst 2, 1) := by decide +kernel
theorem dX5_tell_33 : decode cX5_tell 33 = .ok (.invokevirtual 250, 3) := by decide +kernel
theorem dX5_tell_36 : decode cX5_tell 36 = .ok (.aload_n 0, 1) := by decide +kernel
theorem dX5_tell_37 : decode cX5_tell 37 = .ok (.iconst 1, 1) := by decide +kernel
theorem dX5_tell_38 : decode cX5_tell 38 = .ok (.invokevirtual 250, 3) := by decide +kernel
theorem dX5_tell_41 : decode cX5_tell 41 = .ok (.iload_n 2, 1) := by decide +kernel
theorem dX5_tell_42 : decode cX5_tell 42 = .ok (.iconst 2, 1) := by decide +kernel
theorem dX5_tell_43 : decode cX5_tell 43 = .ok (.if_icmp .ne 8, 3) := by decide +kernel
theorem dX5_tell_46 : decode cX5_tell 46 = .ok (.aload_n 0, 1) := by decide +kernel
theorem dX5_tell_47 : decode cX5_tell 47 = .ok (.iconst 1, 1) := by decide +kernel
theorem dX5_tell_48 : decode cX5_tell 48 = .ok (.invokevirtual 250, 3) := by decide +kernel
theorem dX5_tell_51 : decode cX5_tell 51 = .ok (.iload_n 2, 1) := by decide +kernel
theorem dX5_tell_52 : decode cX5_tell 52 = .ok (.ifCond .ne 7, 3) := by decide +kernel
theorem dX5_tell_55 : decode cX5_tell 55 = .ok (.iload_n 1, 1) := by decide +kernel
theorem dX5_tell_56 : decode cX5_tell 56 = .ok (.goto 21, 3) := by decide +kernel
theorem dX5_tell_59 : decode cX5_tell 59 = .ok (.iload_n 2, 1) := by decide +kernel
theorem dX5_tell_60 : decode cX5_tell 60 = .ok (.iconst 1, 1) := by decide +kernel
theorem dX5_tell_61 : decode cX5_tell 61 = .ok (.if_icmp .ne 10, 3) := by decide +kernel
theorem dX5_tell_64 : decode cX5_tell 64 = .ok (.iload_n 1, 1) := by decide +kernel
theorem dX5_tell_65 : decode cX5_tell 65 = .ok (.bipush 100, 2) := by decide +kernel
theorem dX5_tell_67 : decode cX5_tell 67 = .ok (.iadd, 1) := by decide +kernel
theorem dX5_tell_68 : decode cX5_tell 68 = .ok (.goto 9, 3) := by decide +kernel
theorem dX5_tell_71 : decode cX5_tell 71 = .ok (.iconst 2, 1) := by decide +kernel
theorem dX5_tell_72 : decode cX5_tell 72 = .ok (.iload_n 1, 1) := by decide +kernel
theorem dX5_tell_73 : decode cX5_tell 73 = .ok (.imul, 1) := by decide +kernel
theorem dX5_tell_74 : decode cX5_tell 74 = .ok (.bipush 100, 2) := by decide +kernel
theorem dX5_tell_76 : decode cX5_tell 76 = .ok (.iadd, 1) := by decide +kernel
theorem dX5_tell_77 : decode cX5_tell 77 = .ok (.ireturn, 1) := by decide +kernel
set_option maxRecDepth 20000 in
theorem ggX5_greet_X5_noPerson : GoodIn wsX5_greet wsX5_noPerson := goodIn_r _ [6, 7, 8, 9, 5, 10, 16, 17, 18, 19, 20, 21, 22, 23, 24, 25, 26, 27, 28, 29, 30, 31, 32, 33, 34, 35, 36, 37, 38, 39, 40, 41, 42, 43, 44, 45, 46, 47, 48, 49, 50] (by decide +kernel) (by decide +kernel)
set_option maxRecDepth 20000 in
theorem gX5_greet_X5_noPerson : GoodIn wsX5_greet (wsV RX5 167 RX5 yX5_noPerson wsX5_noPerson) := goodIn_app (goodIn_of _ (by decide +kernel)) ggX5_greet_X5_noPerson
set_option maxRecDepth 20000 in
theorem ggX5_greet_X5_traced : GoodIn wsX5_greet wsX5_traced := goodIn_r _ [14, 15, 16, 17, 18, 19, 20, 21, 22, 23, 24, 25, 26, 27, 28, 29, 30, 31, 32, 33, 34, 35, 36, 37, 38, 39, 40, 41, 42, 43, 44, 45, 46, 47, 48, 49, 50] (by decide +kernel) (by decide +kernel)
set_option maxRecDepth 20000 in
theorem gX5_greet_X5_traced : GoodIn wsX5_greet (wsV RX5 250 RX5 yX5_traced wsX5_traced) := goodIn_app (goodIn_of _ (by decide +kernel)) ggX5_greet_X5_traced
theorem dX5_greet_0 : decode cX5_greet 0 = .ok (.aload_n 0, 1) := by decide +kernel
theorem dX5_greet_1 : decode cX5_greet 1 = .ok (.iload_n 1, 1) := by decide +kernel
theorem dX5_greet_2 : decode cX5_greet 2 = .ok (.invokevirtual 167, 3) := by decide +kernel
theorem dX5_greet_5 : decode cX5_greet 5 = .ok (.ifCond .eq 5, 3) := by decide +kernel
theorem dX5_greet_8 : decode cX5_greet 8 = .ok (.iconst (-1), 1) := by decide +kernel
theorem dX5_greet_9 : decode cX5_greet 9 = .ok (.ireturn, 1) := by decide +kernel
theorem dX5_greet_10 : decode cX5_greet 10 = .ok (.aload_n 0, 1) := by decide +kernel
theorem dX5_greet_11 : decode cX5_greet 11 = .ok (.aload_n 0, 1) := by decide +kernel
theorem dX5_greet_12 : decode cX5_greet 12 = .ok (.getfield 7, 3) := by decide +kernel
theorem dX5_greet_15 : decode cX5_greet 15 = .ok (.iload_n 1, 1) := by decide +kernel
theorem dX5_greet_16 : decode cX5_greet 16 = .ok (.iaload, 1) := by decide +kernel
theorem dX5_greet_17 : decode cX5_greet 17 = .ok (.iconst 2, 1) := by decide +kernel
theorem dX5_greet_18 : decode cX5_greet 18 = .ok (.if_icmp .ne 7, 3) := by decide +kernel
theorem dX5_greet_21 : decode cX5_greet 21 = .ok (.iconst 5, 1) := by decide +kernel
theorem dX5_greet_22 : decode cX5_greet 22 = .ok (.goto 4, 3) := by decide +kernel
theorem dX5_greet_25 : decode cX5_greet 25 = .ok (.iconst 4, 1) := by decide +kernel
theorem dX5_greet_26 : decode cX5_greet 26 = .ok (.invokevirtual 250, 3) := by decide +kernel
theorem dX5_greet_29 : decode cX5_greet 29 = .ok (.aload_n 0, 1) := by decide +kernel
theorem dX5_greet_30 : decode cX5_greet 30 = .ok (.getfield 7, 3) := by decide +kernel
theorem dX5_greet_33 : decode cX5_greet 33 = .ok (.iload_n 1, 1) := by decide +kernel
theorem dX5_greet_34 : decode cX5_greet 34 = .ok (.iaload, 1) := by decide +kernel
theorem dX5_greet_35 : decode cX5_greet 35 = .ok (.iconst 2, 1) := by decide +kernel
theorem dX5_greet_36 : decode cX5_greet 36 = .ok (.if_icmp .ne 8, 3) := by decide +kernel
theorem dX5_greet_39 : decode cX5_greet 39 = .ok (.bipush 50, 2) := by decide +kernel
theorem dX5_greet_41 : decode cX5_greet 41 = .ok (.goto 4, 3) := by decide +kernel
theorem dX5_greet_44 : decode cX5_greet 44 = .ok (.iload_n 1, 1) := by decide +kernel
theorem dX5_greet_45 : decode cX5_greet 45 = .ok (.ireturn, 1) := by decide +kernel
set_option maxRecDepth 20000 in
theorem ggX5_as_X5_noPerson : GoodIn wsX5_as wsX5_noPerson := goodIn_r _ [7, 8, 9, 10, 6, 11, 21, 22, 23, 24, 25, 26, 27, 28, 29, 30, 31, 32, 33, 34, 35, 36, 37, 38, 39, 40, 41, 42, 43, 44, 45, 46, 47, 48, 49, 50, 51, 52, 53, 54, 55] (by decide +kernel) (by decide +kernel)
set_option maxRecDepth 20000 in
theorem gX5_as_X5_noPerson : GoodIn wsX5_as (wsV RX5 167 RX5 yX5_noPerson wsX5_noPerson) := goodIn_app (goodIn_of _ (by decide +kernel)) ggX5_as_X5_noPerson
set_option maxRecDepth 20000 in
theorem ggX5_as_X5_refused : GoodIn wsX5_as wsX5_refused := goodIn_r _ [15, 16, 21, 22, 23, 24, 25, 26, 27, 28, 29, 30, 31, 32, 33, 34, 35, 36, 37, 38, 39, 40, 41, 42, 43, 44, 45, 46, 47, 48, 49, 50, 51, 52, 53, 54, 55] (by decide +kernel) (by decide +kernel)
set_option maxRecDepth 20000 in
theorem gX5_as_X5_refused : GoodIn wsX5_as (wsV RX5 140 RX5 yX5_refused wsX5_refused) := goodIn_app (goodIn_of _ (by decide +kernel)) ggX5_as_X5_refused
set_option maxRecDepth 20000 in
theorem ggX5_as_X5_in : GoodIn wsX5_as wsX5_in := goodIn_r _ [11] (by decide +kernel) (by decide +kernel)
set_option maxRecDepth 20000 in
theorem gX5_as_X5_in : GoodIn wsX5_as (va_wsS RX5 96 yX5_in wsX5_in) := goodIn_app (goodIn_of _ (by decide +kernel)) ggX5_as_X5_in
set_option maxRecDepth 20000 in
theorem ggX5_as_X5_failed : GoodIn wsX5_as wsX5_failed := goodIn_r _ [20, 16, 21, 22, 23, 24, 25, 26, 27, 28, 29, 30, 31, 32, 33, 34, 35, 36, 37, 38, 39, 40, 41, 42, 43, 44, 45, 46, 47, 48, 49, 50, 51, 52, 53, 54, 55] (by decide +kernel) (by decide +kernel)
set_option maxRecDepth 20000 in
theorem gX5_as_X5_failed : GoodIn wsX5_as (wsV RX5 128 RX5 yX5_failed wsX5_failed) := goodIn_app (goodIn_of _ (by decide +kernel)) ggX5_as_X5_failed
theorem dX5_as_0 : decode cX5_as 0 = .ok (.aload_n 0, 1) := by decide +kernel
theorem dX5_as_1 : decode cX5_as 1 = .ok (.iload_n 1, 1) := by decide +kernel
theorem dX5_as_2 : decode cX5_as 2 = .ok (.invokevirtual 167, 3) := by decide +kernel
theorem dX5_as_5 : decode cX5_as 5 = .ok (.ifCond .eq 9, 3) := by decide +kernel
theorem dX5_as_8 : decode cX5_as 8 = .ok (.aload_n 0, 1) := by decide +kernel
theorem dX5_as_9 : decode cX5_as 9 = .ok (.iconst (-1), 1) := by decide +kernel
theorem dX5_as_10 : decode cX5_as 10 = .ok (.invokevirtual 140, 3) := by decide +kernel
theorem dX5_as_13 : decode cX5_as 13 = .ok (.ireturn, 1) := by decide +kernel
theorem dX5_as_14 : decode cX5_as 14 = .ok (.iload_n 2, 1) := by decide +kernel
theorem dX5_as_15 : decode cX5_as 15 = .ok (.i2l, 1) := by decide +kernel
theorem dX5_as_16 : decode cX5_as 16 = .ok (.lconst 0, 1) := by decide +kernel
theorem dX5_as_17 : decode cX5_as 17 = .ok (.ldc2_w 143, 3) := by decide +kernel
theorem dX5_as_20 : decode cX5_as 20 = .ok (.invokestatic 96, 3) := by decide +kernel
theorem dX5_as_23 : decode cX5_as 23 = .ok (.ifCond .ne 10, 3) := by decide +kernel
theorem dX5_as_26 : decode cX5_as 26 = .ok (.aload_n 0, 1) := by decide +kernel
theorem dX5_as_27 : decode cX5_as 27 = .ok (.bipush (-2), 2) := by decide +kernel
theorem dX5_as_29 : decode cX5_as 29 = .ok (.invokevirtual 140, 3) := by decide +kernel
theorem dX5_as_32 : decode cX5_as 32 = .ok (.ireturn, 1) := by decide +kernel
theorem dX5_as_33 : decode cX5_as 33 = .ok (.aload_n 0, 1) := by decide +kernel
theorem dX5_as_34 : decode cX5_as 34 = .ok (.getfield 7, 3) := by decide +kernel
theorem dX5_as_37 : decode cX5_as 37 = .ok (.iload_n 1, 1) := by decide +kernel
theorem dX5_as_38 : decode cX5_as 38 = .ok (.iaload, 1) := by decide +kernel
theorem dX5_as_39 : decode cX5_as 39 = .ok (.iload_n 2, 1) := by decide +kernel
theorem dX5_as_40 : decode cX5_as 40 = .ok (.if_icmp .lt 11, 3) := by decide +kernel
theorem dX5_as_43 : decode cX5_as 43 = .ok (.aload_n 0, 1) := by decide +kernel
theorem dX5_as_44 : decode cX5_as 44 = .ok (.iconst 1, 1) := by decide +kernel
theorem dX5_as_45 : decode cX5_as 45 = .ok (.invokevirtual 140, 3) := by decide +kernel
theorem dX5_as_48 : decode cX5_as 48 = .ok (.goto 8, 3) := by decide +kernel
theorem dX5_as_51 : decode cX5_as 51 = .ok (.aload_n 0, 1) := by decide +kernel
theorem dX5_as_52 : decode cX5_as 52 = .ok (.iconst 2, 1) := by decide +kernel
theorem dX5_as_53 : decode cX5_as 53 = .ok (.invokevirtual 128, 3) := by decide +kernel
theorem dX5_as_56 : decode cX5_as 56 = .ok (.ireturn, 1) := by decide +kernel
theorem dX5_trace_0 : decode cX5_trace 0 = .ok (.aload_n 0, 1) := by decide +kernel
theorem dX5_trace_1 : decode cX5_trace 1 = .ok (.getfield 247, 3) := by decide +kernel
theorem dX5_trace_4 : decode cX5_trace 4 = .ok (.ireturn, 1) := by decide +kernel
theorem dX5_fault_0 : decode cX5_fault 0 = .ok (.aload_n 0, 1) := by decide +kernel
theorem dX5_fault_1 : decode cX5_fault 1 = .ok (.getfield 85, 3) := by decide +kernel
theorem dX5_fault_4 : decode cX5_fault 4 = .ok (.ireturn, 1) := by decide +kernel
theorem dX5_many_0 : decode cX5_many 0 = .ok (.iload_n 1, 1) := by decide +kernel
theorem dX5_many_1 : decode cX5_many 1 = .ok (.tableswitch 60 0 4 #[35, 40, 45, 50, 55], 35) := by decide +kernel
theorem dX5_many_36 : decode cX5_many 36 = .ok (.aload_n 0, 1) := by decide +kernel
theorem dX5_many_37 : decode cX5_many 37 = .ok (.getfield 93, 3) := by decide +kernel
theorem dX5_many_40 : decode cX5_many 40 = .ok (.ireturn, 1) := by decide +kernel
theorem dX5_many_41 : decode cX5_many 41 = .ok (.aload_n 0, 1) := by decide +kernel
theorem dX5_many_42 : decode cX5_many 42 = .ok (.getfield 152, 3) := by decide +kernel
theorem dX5_many_45 : decode cX5_many 45 = .ok (.ireturn, 1) := by decide +kernel
theorem dX5_many_46 : decode cX5_many 46 = .ok (.aload_n 0, 1) := by decide +kernel
theorem dX5_many_47 : decode cX5_many 47 = .ok (.getfield 161, 3) := by decide +kernel
theorem dX5_many_50 : decode cX5_many 50 = .ok (.ireturn, 1) := by decide +kernel
theorem dX5_many_51 : decode cX5_many 51 = .ok (.aload_n 0, 1) := by decide +kernel
theorem dX5_many_52 : decode cX5_many 52 = .ok (.getfield 164, 3) := by decide +kernel
theorem dX5_many_55 : decode cX5_many 55 = .ok (.ireturn, 1) := by decide +kernel
theorem dX5_many_56 : decode cX5_many 56 = .ok (.aload_n 0, 1) := by decide +kernel
theorem dX5_many_57 : decode cX5_many 57 = .ok (.getfield 158, 3) := by decide +kernel
theorem dX5_many_60 : decode cX5_many 60 = .ok (.ireturn, 1) := by decide +kernel
theorem dX5_many_61 : decode cX5_many 61 = .ok (.bipush (-2), 2) := by decide +kernel
theorem dX5_many_63 : decode cX5_many 63 = .ok (.ireturn, 1) := by decide +kernel
theorem dJ6_bitCount_0f7a4_0 : decode cJ6_bitCount_0f7a4 0 = .ok (.iload_n 0, 1) := by decide +kernel
theorem dJ6_bitCount_0f7a4_1 : decode cJ6_bitCount_0f7a4 1 = .ok (.iload_n 0, 1) := by decide +kernel
theorem dJ6_bitCount_0f7a4_2 : decode cJ6_bitCount_0f7a4 2 = .ok (.iconst 1, 1) := by decide +kernel
theorem dJ6_bitCount_0f7a4_3 : decode cJ6_bitCount_0f7a4 3 = .ok (.iushr, 1) := by decide +kernel
theorem dJ6_bitCount_0f7a4_4 : decode cJ6_bitCount_0f7a4 4 = .ok (.ldc_w 265, 3) := by decide +kernel
theorem dJ6_bitCount_0f7a4_7 : decode cJ6_bitCount_0f7a4 7 = .ok (.iand, 1) := by decide +kernel
theorem dJ6_bitCount_0f7a4_8 : decode cJ6_bitCount_0f7a4 8 = .ok (.isub, 1) := by decide +kernel
theorem dJ6_bitCount_0f7a4_9 : decode cJ6_bitCount_0f7a4 9 = .ok (.istore_n 0, 1) := by decide +kernel
theorem dJ6_bitCount_0f7a4_10 : decode cJ6_bitCount_0f7a4 10 = .ok (.iload_n 0, 1) := by decide +kernel
theorem dJ6_bitCount_0f7a4_11 : decode cJ6_bitCount_0f7a4 11 = .ok (.ldc_w 266, 3) := by decide +kernel
theorem dJ6_bitCount_0f7a4_14 : decode cJ6_bitCount_0f7a4 14 = .ok (.iand, 1) := by decide +kernel
theorem dJ6_bitCount_0f7a4_15 : decode cJ6_bitCount_0f7a4 15 = .ok (.iload_n 0, 1) := by decide +kernel
theorem dJ6_bitCount_0f7a4_16 : decode cJ6_bitCount_0f7a4 16 = .ok (.iconst 2, 1) := by decide +kernel
theorem dJ6_bitCount_0f7a4_17 : decode cJ6_bitCount_0f7a4 17 = .ok (.iushr, 1) := by decide +kernel
theorem dJ6_bitCount_0f7a4_18 : decode cJ6_bitCount_0f7a4 18 = .ok (.ldc_w 266, 3) := by decide +kernel
theorem dJ6_bitCount_0f7a4_21 : decode cJ6_bitCount_0f7a4 21 = .ok (.iand, 1) := by decide +kernel
theorem dJ6_bitCount_0f7a4_22 : decode cJ6_bitCount_0f7a4 22 = .ok (.iadd, 1) := by decide +kernel
theorem dJ6_bitCount_0f7a4_23 : decode cJ6_bitCount_0f7a4 23 = .ok (.istore_n 0, 1) := by decide +kernel
theorem dJ6_bitCount_0f7a4_24 : decode cJ6_bitCount_0f7a4 24 = .ok (.iload_n 0, 1) := by decide +kernel
theorem dJ6_bitCount_0f7a4_25 : decode cJ6_bitCount_0f7a4 25 = .ok (.iload_n 0, 1) := by decide +kernel
theorem dJ6_bitCount_0f7a4_26 : decode cJ6_bitCount_0f7a4 26 = .ok (.iconst 4, 1) := by decide +kernel
theorem dJ6_bitCount_0f7a4_27 : decode cJ6_bitCount_0f7a4 27 = .ok (.iushr, 1) := by decide +kernel
theorem dJ6_bitCount_0f7a4_28 : decode cJ6_bitCount_0f7a4 28 = .ok (.iadd, 1) := by decide +kernel
theorem dJ6_bitCount_0f7a4_29 : decode cJ6_bitCount_0f7a4 29 = .ok (.ldc_w 267, 3) := by decide +kernel
theorem dJ6_bitCount_0f7a4_32 : decode cJ6_bitCount_0f7a4 32 = .ok (.iand, 1) := by decide +kernel
theorem dJ6_bitCount_0f7a4_33 : decode cJ6_bitCount_0f7a4 33 = .ok (.istore_n 0, 1) := by decide +kernel
theorem dJ6_bitCount_0f7a4_34 : decode cJ6_bitCount_0f7a4 34 = .ok (.iload_n 0, 1) := by decide +kernel
theorem dJ6_bitCount_0f7a4_35 : decode cJ6_bitCount_0f7a4 35 = .ok (.iload_n 0, 1) := by decide +kernel
theorem dJ6_bitCount_0f7a4_36 : decode cJ6_bitCount_0f7a4 36 = .ok (.bipush 8, 2) := by decide +kernel
theorem dJ6_bitCount_0f7a4_38 : decode cJ6_bitCount_0f7a4 38 = .ok (.iushr, 1) := by decide +kernel
theorem dJ6_bitCount_0f7a4_39 : decode cJ6_bitCount_0f7a4 39 = .ok (.iadd, 1) := by decide +kernel
theorem dJ6_bitCount_0f7a4_40 : decode cJ6_bitCount_0f7a4 40 = .ok (.istore_n 0, 1) := by decide +kernel
theorem dJ6_bitCount_0f7a4_41 : decode cJ6_bitCount_0f7a4 41 = .ok (.iload_n 0, 1) := by decide +kernel
theorem dJ6_bitCount_0f7a4_42 : decode cJ6_bitCount_0f7a4 42 = .ok (.iload_n 0, 1) := by decide +kernel
theorem dJ6_bitCount_0f7a4_43 : decode cJ6_bitCount_0f7a4 43 = .ok (.bipush 16, 2) := by decide +kernel
theorem dJ6_bitCount_0f7a4_45 : decode cJ6_bitCount_0f7a4 45 = .ok (.iushr, 1) := by decide +kernel
theorem dJ6_bitCount_0f7a4_46 : decode cJ6_bitCount_0f7a4 46 = .ok (.iadd, 1) := by decide +kernel
theorem dJ6_bitCount_0f7a4_47 : decode cJ6_bitCount_0f7a4 47 = .ok (.istore_n 0, 1) := by decide +kernel
theorem dJ6_bitCount_0f7a4_48 : decode cJ6_bitCount_0f7a4 48 = .ok (.iload_n 0, 1) := by decide +kernel
theorem dJ6_bitCount_0f7a4_49 : decode cJ6_bitCount_0f7a4 49 = .ok (.bipush 63, 2) := by decide +kernel
theorem dJ6_bitCount_0f7a4_51 : decode cJ6_bitCount_0f7a4 51 = .ok (.iand, 1) := by decide +kernel
theorem dJ6_bitCount_0f7a4_52 : decode cJ6_bitCount_0f7a4 52 = .ok (.ireturn, 1) := by decide +kernel
theorem dJ13_bitCount_95d88_0 : decode cJ13_bitCount_95d88 0 = .ok (.lload_n 0, 1) := by decide +kernel
theorem dJ13_bitCount_95d88_1 : decode cJ13_bitCount_95d88 1 = .ok (.lload_n 0, 1) := by decide +kernel
theorem dJ13_bitCount_95d88_2 : decode cJ13_bitCount_95d88 2 = .ok (.iconst 1, 1) := by decide +kernel
theorem dJ13_bitCount_95d88_3 : decode cJ13_bitCount_95d88 3 = .ok (.lushr, 1) := by decide +kernel
theorem dJ13_bitCount_95d88_4 : decode cJ13_bitCount_95d88 4 = .ok (.ldc2_w 314, 3) := by decide +kernel
theorem dJ13_bitCount_95d88_7 : decode cJ13_bitCount_95d88 7 = .ok (.land, 1) := by decide +kernel
theorem dJ13_bitCount_95d88_8 : decode cJ13_bitCount_95d88 8 = .ok (.lsub, 1) := by decide +kernel
theorem dJ13_bitCount_95d88_9 : decode cJ13_bitCount_95d88 9 = .ok (.lstore_n 0, 1) := by decide +kernel
theorem dJ13_bitCount_95d88_10 : decode cJ13_bitCount_95d88 10 = .ok (.lload_n 0, 1) := by decide +kernel
theorem dJ13_bitCount_95d88_11 : decode cJ13_bitCount_95d88 11 = .ok (.ldc2_w 316, 3) := by decide +kernel
theorem dJ13_bitCount_95d88_14 : decode cJ13_bitCount_95d88 14 = .ok (.land, 1) := by decide +kernel
theorem dJ13_bitCount_95d88_15 : decode cJ13_bitCount_95d88 15 = .ok (.lload_n 0, 1) := by decide +kernel
theorem dJ13_bitCount_95d88_16 : decode cJ13_bitCount_95d88 16 = .ok (.iconst 2, 1) := by decide +kernel
theorem dJ13_bitCount_95d88_17 : decode cJ13_bitCount_95d88 17 = .ok (.lushr, 1) := by decide +kernel
theorem dJ13_bitCount_95d88_18 : decode cJ13_bitCount_95d88 18 = .ok (.ldc2_w 316, 3) := by decide +kernel
theorem dJ13_bitCount_95d88_21 : decode cJ13_bitCount_95d88 21 = .ok (.land, 1) := by decide +kernel
theorem dJ13_bitCount_95d88_22 : decode cJ13_bitCount_95d88 22 = .ok (.ladd, 1) := by decide +kernel
theorem dJ13_bitCount_95d88_23 : decode cJ13_bitCount_95d88 23 = .ok (.lstore_n 0, 1) := by decide +kernel
theorem dJ13_bitCount_95d88_24 : decode cJ13_bitCount_95d88 24 = .ok (.lload_n 0, 1) := by decide +kernel
theorem dJ13_bitCount_95d88_25 : decode cJ13_bitCount_95d88 25 = .ok (.lload_n 0, 1) := by decide +kernel
theorem dJ13_bitCount_95d88_26 : decode cJ13_bitCount_95d88 26 = .ok (.iconst 4, 1) := by decide +kernel
theorem dJ13_bitCount_95d88_27 : decode cJ13_bitCount_95d88 27 = .ok (.lushr, 1) := by decide +kernel
theorem dJ13_bitCount_95d88_28 : decode cJ13_bitCount_95d88 28 = .ok (.ladd, 1) := by decide +kernel
theorem dJ13_bitCount_95d88_29 : decode cJ13_bitCount_95d88 29 = .ok (.ldc2_w 318, 3) := by decide +kernel
theorem dJ13_bitCount_95d88_32 : decode cJ13_bitCount_95d88 32 = .ok (.land, 1) := by decide +kernel
theorem dJ13_bitCount_95d88_33 : decode cJ13_bitCount_95d88 33 = .ok (.lstore_n 0, 1) := by decide +kernel
theorem dJ13_bitCount_95d88_34 : decode cJ13_bitCount_95d88 34 = .ok (.lload_n 0, 1) := by decide +kernel
theorem dJ13_bitCount_95d88_35 : decode cJ13_bitCount_95d88 35 = .ok (.lload_n 0, 1) := by decide +kernel
theorem dJ13_bitCount_95d88_36 : decode cJ13_bitCount_95d88 36 = .ok (.bipush 8, 2) := by decide +kernel
theorem dJ13_bitCount_95d88_38 : decode cJ13_bitCount_95d88 38 = .ok (.lushr, 1) := by decide +kernel
theorem dJ13_bitCount_95d88_39 : decode cJ13_bitCount_95d88 39 = .ok (.ladd, 1) := by decide +kernel
theorem dJ13_bitCount_95d88_40 : decode cJ13_bitCount_95d88 40 = .ok (.lstore_n 0, 1) := by decide +kernel
theorem dJ13_bitCount_95d88_41 : decode cJ13_bitCount_95d88 41 = .ok (.lload_n 0, 1) := by decide +kernel
theorem dJ13_bitCount_95d88_42 : decode cJ13_bitCount_95d88 42 = .ok (.lload_n 0, 1) := by decide +kernel
theorem dJ13_bitCount_95d88_43 : decode cJ13_bitCount_95d88 43 = .ok (.bipush 16, 2) := by decide +kernel
theorem dJ13_bitCount_95d88_45 : decode cJ13_bitCount_95d88 45 = .ok (.lushr, 1) := by decide +kernel
theorem dJ13_bitCount_95d88_46 : decode cJ13_bitCount_95d88 46 = .ok (.ladd, 1) := by decide +kernel
theorem dJ13_bitCount_95d88_47 : decode cJ13_bitCount_95d88 47 = .ok (.lstore_n 0, 1) := by decide +kernel
theorem dJ13_bitCount_95d88_48 : decode cJ13_bitCount_95d88 48 = .ok (.lload_n 0, 1) := by decide +kernel
theorem dJ13_bitCount_95d88_49 : decode cJ13_bitCount_95d88 49 = .ok (.lload_n 0, 1) := by decide +kernel
theorem dJ13_bitCount_95d88_50 : decode cJ13_bitCount_95d88 50 = .ok (.bipush 32, 2) := by decide +kernel
theorem dJ13_bitCount_95d88_52 : decode cJ13_bitCount_95d88 52 = .ok (.lushr, 1) := by decide +kernel
theorem dJ13_bitCount_95d88_53 : decode cJ13_bitCount_95d88 53 = .ok (.ladd, 1) := by decide +kernel
theorem dJ13_bitCount_95d88_54 : decode cJ13_bitCount_95d88 54 = .ok (.lstore_n 0, 1) := by decide +kernel
theorem dJ13_bitCount_95d88_55 : decode cJ13_bitCount_95d88 55 = .ok (.lload_n 0, 1) := by decide +kernel
theorem dJ13_bitCount_95d88_56 : decode cJ13_bitCount_95d88 56 = .ok (.l2i, 1) := by decide +kernel
theorem dJ13_bitCount_95d88_57 : decode cJ13_bitCount_95d88 57 = .ok (.bipush 127, 2) := by decide +kernel
theorem dJ13_bitCount_95d88_59 : decode cJ13_bitCount_95d88 59 = .ok (.iand, 1) := by decide +kernel
theorem dJ13_bitCount_95d88_60 : decode cJ13_bitCount_95d88 60 = .ok (.ireturn, 1) := by decide +kernel
theorem dJ7_fill_d0a16_0 : decode cJ7_fill_d0a16 0 = .ok (.iconst 0, 1) := by decide +kernel
theorem dJ7_fill_d0a16_1 : decode cJ7_fill_d0a16 1 = .ok (.istore_n 3, 1) := by decide +kernel
theorem dJ7_fill_d0a16_2 : decode cJ7_fill_d0a16 2 = .ok (.aload_n 0, 1) := by decide +kernel
theorem dJ7_fill_d0a16_3 : decode cJ7_fill_d0a16 3 = .ok (.arraylength, 1) := by decide +kernel
theorem dJ7_fill_d0a16_4 : decode cJ7_fill_d0a16 4 = .ok (.istore 4, 2) := by decide +kernel
theorem dJ7_fill_d0a16_6 : decode cJ7_fill_d0a16 6 = .ok (.iload_n 3, 1) := by decide +kernel
theorem dJ7_fill_d0a16_7 : decode cJ7_fill_d0a16 7 = .ok (.iload 4, 2) := by decide +kernel
theorem dJ7_fill_d0a16_9 : decode cJ7_fill_d0a16 9 = .ok (.if_icmp .ge 13, 3) := by decide +kernel
theorem dJ7_fill_d0a16_12 : decode cJ7_fill_d0a16 12 = .ok (.aload_n 0, 1) := by decide +kernel
theorem dJ7_fill_d0a16_13 : decode cJ7_fill_d0a16 13 = .ok (.iload_n 3, 1) := by decide +kernel
theorem dJ7_fill_d0a16_14 : decode cJ7_fill_d0a16 14 = .ok (.lload_n 1, 1) := by decide +kernel
theorem dJ7_fill_d0a16_15 : decode cJ7_fill_d0a16 15 = .ok (.lastore, 1) := by decide +kernel
theorem dJ7_fill_d0a16_16 : decode cJ7_fill_d0a16 16 = .ok (.iinc 3 1, 3) := by decide +kernel
theorem dJ7_fill_d0a16_19 : decode cJ7_fill_d0a16 19 = .ok (.goto (-13), 3) := by decide +kernel
theorem dJ7_fill_d0a16_22 : decode cJ7_fill_d0a16 22 = .ok (.return_, 1) := by decide +kernel
theorem dJ7_fill_53178_0 : decode cJ7_fill_53178 0 = .ok (.iconst 0, 1) := by decide +kernel
theorem dJ7_fill_53178_1 : decode cJ7_fill_53178 1 = .ok (.istore_n 2, 1) := by decide +kernel
theorem dJ7_fill_53178_2 : decode cJ7_fill_53178 2 = .ok (.aload_n 0, 1) := by decide +kernel
theorem dJ7_fill_53178_3 : decode cJ7_fill_53178 3 = .ok (.arraylength, 1) := by decide +kernel
theorem dJ7_fill_53178_4 : decode cJ7_fill_53178 4 = .ok (.istore_n 3, 1) := by decide +kernel
theorem dJ7_fill_53178_5 : decode cJ7_fill_53178 5 = .ok (.iload_n 2, 1) := by decide +kernel
theorem dJ7_fill_53178_6 : decode cJ7_fill_53178 6 = .ok (.iload_n 3, 1) := by decide +kernel
theorem dJ7_fill_53178_7 : decode cJ7_fill_53178 7 = .ok (.if_icmp .ge 13, 3) := by decide +kernel
theorem dJ7_fill_53178_10 : decode cJ7_fill_53178 10 = .ok (.aload_n 0, 1) := by decide +kernel
theorem dJ7_fill_53178_11 : decode cJ7_fill_53178 11 = .ok (.iload_n 2, 1) := by decide +kernel
theorem dJ7_fill_53178_12 : decode cJ7_fill_53178 12 = .ok (.iload_n 1, 1) := by decide +kernel
theorem dJ7_fill_53178_13 : decode cJ7_fill_53178 13 = .ok (.iastore, 1) := by decide +kernel
theorem dJ7_fill_53178_14 : decode cJ7_fill_53178 14 = .ok (.iinc 2 1, 3) := by decide +kernel
theorem dJ7_fill_53178_17 : decode cJ7_fill_53178 17 = .ok (.goto (-12), 3) := by decide +kernel
theorem dJ7_fill_53178_20 : decode cJ7_fill_53178 20 = .ok (.return_, 1) := by decide +kernel
set_option maxRecDepth 20000 in
theorem ggL_law_X4_init : GoodIn wsL_law wsX4_init := goodIn_r _ [8, 9, 10, 11, 12, 13, 14, 15, 16, 17, 18, 19, 20, 21, 22, 23, 24, 25, 26, 27, 28, 29, 30, 31, 32, 33, 34, 35, 36, 37, 38, 39, 40, 41, 42, 43, 44, 45, 46, 47, 48, 49, 50, 51, 52, 53, 54, 55, 56, 57, 58, 59, 60, 61, 62, 63, 64, 65, 66, 67, 68, 794, 795, 796, 797, 798, 799, 800, 801, 802, 803, 804, 805, 806, 842, 843, 844, 845, 846, 847, 848, 849, 850, 851, 852, 853, 854, 855, 856, 857] (by decide +kernel) (by decide +kernel)
set_option maxRecDepth 20000 in
theorem gL_law_X4_init : GoodIn wsL_law (wsX4_init) := ggL_law_X4_init
set_option maxRecDepth 20000 in
theorem ggL_law_X5_init : GoodIn wsL_law wsX5_init := goodIn_r _ [71, 72, 10, 11, 25, 73, 19, 74, 75, 76, 77, 78, 79, 80, 81, 82, 83, 84, 85, 86, 87, 88, 89, 90, 91, 92, 93, 94, 95, 96, 807, 808, 809, 810, 811, 812, 813, 814, 815, 816, 817, 818, 819, 820, 821, 822, 823, 824, 825, 826, 827, 828, 829, 830, 831, 832, 833, 834, 835, 836, 837, 838, 839, 840, 841] (by decide +kernel) (by decide +kernel)
set_option maxRecDepth 20000 in
theorem gL_law_X5_init : GoodIn wsL_law (wsX5_init) := ggL_law_X5_init
set_option maxRecDepth 20000 in
theorem ggL_law_X4_pass : GoodIn wsL_law wsX4_pass := goodIn_r _ [100, 36, 13, 31, 30, 101, 102, 103, 2, 104, 105, 106, 107, 108, 109, 110, 38, 111, 112, 113, 114, 115, 67, 116, 117, 118, 119, 120, 121, 122, 123, 68, 124, 125, 126, 127, 128, 129, 130, 29, 131, 60, 61, 62, 132, 133, 134, 135, 136, 137, 138, 139, 56, 140, 141, 142, 143, 144, 145, 146, 147, 148, 149, 57, 58, 59, 150, 151, 152, 153, 17, 154, 18, 32, 34, 33, 794, 795, 796, 797, 798, 799, 800, 801, 802, 803, 804, 805, 806, 848, 849, 850, 851, 852, 853, 854, 855, 856, 857, 842, 843, 844, 845, 846] (by decide +kernel) (by decide +kernel)
set_option maxRecDepth 20000 in
theorem gL_law_X4_pass : GoodIn wsL_law (wsV RL 13 RX4 yX4_pass wsX4_pass) := goodIn_app (goodIn_of _ (by decide +kernel)) ggL_law_X4_pass
set_option maxRecDepth 20000 in
theorem ggL_law_X5_pass : GoodIn wsL_law wsX5_pass := goodIn_r _ [158, 159, 160, 161, 162, 163, 164, 73, 79, 74, 80, 75, 81, 76, 82, 77, 83, 78, 165, 166, 167, 168, 169, 170, 5, 171, 172, 173, 174, 175, 176, 177, 178, 179, 180, 181, 182, 183, 184, 93, 94, 185, 186, 187, 188, 189, 190, 191, 192, 193, 194, 195, 196, 197, 198, 199, 95, 200, 201, 202, 203, 204, 205, 206, 207, 208, 209, 210, 211, 807, 808, 809, 810, 811, 812, 813, 814, 815, 816, 817, 818, 819, 820, 821, 822, 823, 824, 825, 826, 827, 828, 829, 830, 831, 832, 833, 834, 835, 836, 837, 838, 839, 840, 841] (by decide +kernel) (by decide +kernel)
set_option maxRecDepth 20000 in
theorem gL_law_X5_pass : GoodIn wsL_law (wsV RL 17 RX5 yX5_pass wsX5_pass) := goodIn_app (goodIn_of _ (by decide +kernel)) ggL_law_X5_pass
set_option maxRecDepth 20000 in
theorem ggL_law_X4_ofPerson : GoodIn wsL_law wsX4_ofPerson := goodIn_r _ [215, 30, 216, 33, 217, 218, 219, 2, 220, 101, 105, 106, 107, 221, 222, 223, 29, 224, 61, 225, 226, 227, 794, 795, 796, 797, 798, 799, 800, 801, 802, 803, 804, 805, 806, 848, 849, 850, 851, 852, 853, 854] (by decide +kernel) (by decide +kernel)
set_option maxRecDepth 20000 in
theorem gL_law_X4_ofPerson : GoodIn wsL_law (wsV RL 18 RX4 yX4_ofPerson wsX4_ofPerson) := goodIn_app (goodIn_of _ (by decide +kernel)) ggL_law_X4_ofPerson
set_option maxRecDepth 20000 in
theorem ggL_law_X5_ofPerson : GoodIn wsL_law wsX5_ofPerson := goodIn_r _ [231, 73, 74, 165, 232, 233, 234, 5, 235, 162, 173, 174, 175, 236, 237, 238, 807, 808, 809, 810, 811, 812, 813, 814, 815, 816, 817, 818, 819, 820, 821, 822, 823, 824, 825, 826, 827, 828, 829, 830, 831, 832, 833, 834, 835, 836, 837, 838, 839, 840, 841] (by decide +kernel) (by decide +kernel)
set_option maxRecDepth 20000 in
theorem gL_law_X5_ofPerson : GoodIn wsL_law (wsV RL 22 RX5 yX5_ofPerson wsX5_ofPerson) := goodIn_app (goodIn_of _ (by decide +kernel)) ggL_law_X5_ofPerson
set_option maxRecDepth 20000 in
theorem ggL_law_X4_ofWay : GoodIn wsL_law wsX4_ofWay := goodIn_r _ [242, 30, 243, 244, 245, 246, 105, 106, 2, 107, 794, 795, 796, 797, 798, 799, 800, 801, 802, 803, 804, 805, 806, 848, 849, 850, 851, 852, 853, 854] (by decide +kernel) (by decide +kernel)
set_option maxRecDepth 20000 in
theorem gL_law_X4_ofWay : GoodIn wsL_law (wsV RL 23 RX4 yX4_ofWay wsX4_ofWay) := goodIn_app (goodIn_of _ (by decide +kernel)) ggL_law_X4_ofWay
set_option maxRecDepth 20000 in
theorem ggL_law_X5_ofWay : GoodIn wsL_law wsX5_ofWay := goodIn_r _ [250, 164, 75, 76, 77, 173, 174, 5, 175, 807, 808, 809, 810, 811, 812, 813, 814, 815, 816, 817, 818, 819, 820, 821, 822, 823, 824, 825, 826, 827, 828, 829, 830, 831, 832, 833, 834, 835, 836, 837, 838, 839, 840, 841] (by decide +kernel) (by decide +kernel)
set_option maxRecDepth 20000 in
theorem gL_law_X5_ofWay : GoodIn wsL_law (wsV RL 26 RX5 yX5_ofWay wsX5_ofWay) := goodIn_app (goodIn_of _ (by decide +kernel)) ggL_law_X5_ofWay
set_option maxRecDepth 20000 in
theorem ggL_law_X4_telling : GoodIn wsL_law wsX4_telling := goodIn_r _ [254, 17, 217, 218, 219, 2, 220, 30, 101, 105, 106, 107, 255, 256, 257, 258, 259, 260, 261, 262, 263, 264, 265, 266, 16, 267, 46, 47, 268, 269, 270, 271, 43, 44, 45, 794, 795, 796, 797, 798, 799, 800, 801, 802, 803, 804, 805, 806, 848, 849, 850, 851, 852, 853, 854, 842, 843, 844, 845, 846] (by decide +kernel) (by decide +kernel)
set_option maxRecDepth 20000 in
theorem gL_law_X4_telling : GoodIn wsL_law (wsV RL 27 RX4 yX4_telling wsX4_telling) := goodIn_app (goodIn_of _ (by decide +kernel)) ggL_law_X4_telling
set_option maxRecDepth 20000 in
theorem ggL_law_X5_telling : GoodIn wsL_law wsX5_telling := goodIn_r _ [275, 167, 84, 85, 86, 232, 233, 234, 5, 235, 162, 173, 174, 175, 276, 277, 278, 172, 279, 280, 281, 282, 807, 808, 809, 810, 811, 812, 813, 814, 815, 816, 817, 818, 819, 820, 821, 822, 823, 824, 825, 826, 827, 828, 829, 830, 831, 832, 833, 834, 835, 836, 837, 838, 839, 840, 841] (by decide +kernel) (by decide +kernel)
set_option maxRecDepth 20000 in
theorem gL_law_X5_telling : GoodIn wsL_law (wsV RL 31 RX5 yX5_telling wsX5_telling) := goodIn_app (goodIn_of _ (by decide +kernel)) ggL_law_X5_telling
set_option maxRecDepth 20000 in
theorem ggL_law_X4_undo : GoodIn wsL_law wsX4_undo := goodIn_r _ [286, 17, 287, 288, 289, 16, 290, 46, 794, 795, 796, 797, 798, 799, 800, 801, 802, 803, 804, 805, 806, 842, 843, 844, 845, 846] (by decide +kernel) (by decide +kernel)
set_option maxRecDepth 20000 in
theorem gL_law_X4_undo : GoodIn wsL_law (wsV RL 32 RX4 yX4_undo wsX4_undo) := goodIn_app (goodIn_of _ (by decide +kernel)) ggL_law_X4_undo
set_option maxRecDepth 20000 in
theorem ggL_law_X5_undo : GoodIn wsL_law wsX5_undo := goodIn_r _ [294, 167, 173, 174, 5, 175, 807, 808, 809, 810, 811, 812, 813, 814, 815, 816, 817, 818, 819, 820, 821, 822, 823, 824, 825, 826, 827, 828, 829, 830, 831, 832, 833, 834, 835, 836, 837, 838, 839, 840, 841] (by decide +kernel) (by decide +kernel)
set_option maxRecDepth 20000 in
theorem gL_law_X5_undo : GoodIn wsL_law (wsV RL 36 RX5 yX5_undo wsX5_undo) := goodIn_app (goodIn_of _ (by decide +kernel)) ggL_law_X5_undo
set_option maxRecDepth 20000 in
theorem ggL_law_X4_law : GoodIn wsL_law wsX4_law := goodIn_r _ [298, 32, 299, 300, 301, 2, 302, 30, 101, 794, 795, 796, 797, 798, 799, 800, 801, 802, 803, 804, 805, 806, 848, 849, 850, 851, 852, 853, 854] (by decide +kernel) (by decide +kernel)
set_option maxRecDepth 20000 in
theorem gL_law_X4_law : GoodIn wsL_law (wsV RL 37 RX4 yX4_law wsX4_law) := goodIn_app (goodIn_of _ (by decide +kernel)) ggL_law_X4_law
set_option maxRecDepth 20000 in
theorem ggL_law_X5_law : GoodIn wsL_law wsX5_law := goodIn_r _ [306, 307, 162, 166, 173, 174, 5, 175, 807, 808, 809, 810, 811, 812, 813, 814, 815, 816, 817, 818, 819, 820, 821, 822, 823, 824, 825, 826, 827, 828, 829, 830, 831, 832, 833, 834, 835, 836, 837, 838, 839, 840, 841] (by decide +kernel) (by decide +kernel)
set_option maxRecDepth 20000 in
theorem gL_law_X5_law : GoodIn wsL_law (wsV RL 40 RX5 yX5_law wsX5_law) := goodIn_app (goodIn_of _ (by decide +kernel)) ggL_law_X5_law
set_option maxRecDepth 20000 in
theorem ggL_law_X4_fog : GoodIn wsL_law wsX4_fog := goodIn_r _ [311, 34, 261, 262, 2, 263, 105, 106, 107, 299, 300, 301, 302, 30, 101, 312, 313, 314, 315, 794, 795, 796, 797, 798, 799, 800, 801, 802, 803, 804, 805, 806, 848, 849, 850, 851, 852, 853, 854] (by decide +kernel) (by decide +kernel)
set_option maxRecDepth 20000 in
theorem gL_law_X4_fog : GoodIn wsL_law (wsV RL 41 RX4 yX4_fog wsX4_fog) := goodIn_app (goodIn_of _ (by decide +kernel)) ggL_law_X4_fog
set_option maxRecDepth 20000 in
theorem ggL_law_X5_fog : GoodIn wsL_law wsX5_fog := goodIn_r _ [319, 162, 78, 279, 280, 5, 281, 282, 173, 174, 175, 807, 808, 809, 810, 811, 812, 813, 814, 815, 816, 817, 818, 819, 820, 821, 822, 823, 824, 825, 826, 827, 828, 829, 830, 831, 832, 833, 834, 835, 836, 837, 838, 839, 840, 841] (by decide +kernel) (by decide +kernel)
set_option maxRecDepth 20000 in
theorem gL_law_X5_fog : GoodIn wsL_law (wsV RL 45 RX5 yX5_fog wsX5_fog) := goodIn_app (goodIn_of _ (by decide +kernel)) ggL_law_X5_fog
set_option maxRecDepth 20000 in
theorem ggL_law_X4_hush : GoodIn wsL_law wsX4_hush := goodIn_r _ [323, 33, 217, 218, 219, 2, 220, 30, 101, 105, 106, 107, 227, 225, 226, 794, 795, 796, 797, 798, 799, 800, 801, 802, 803, 804, 805, 806, 848, 849, 850, 851, 852, 853, 854] (by decide +kernel) (by decide +kernel)
set_option maxRecDepth 20000 in
theorem gL_law_X4_hush : GoodIn wsL_law (wsV RL 46 RX4 yX4_hush wsX4_hush) := goodIn_app (goodIn_of _ (by decide +kernel)) ggL_law_X4_hush
set_option maxRecDepth 20000 in
theorem ggL_law_X5_hush : GoodIn wsL_law wsX5_hush := goodIn_r _ [327, 165, 232, 233, 234, 5, 235, 162, 173, 174, 175, 236, 237, 238, 807, 808, 809, 810, 811, 812, 813, 814, 815, 816, 817, 818, 819, 820, 821, 822, 823, 824, 825, 826, 827, 828, 829, 830, 831, 832, 833, 834, 835, 836, 837, 838, 839, 840, 841] (by decide +kernel) (by decide +kernel)
set_option maxRecDepth 20000 in
theorem gL_law_X5_hush : GoodIn wsL_law (wsV RL 49 RX5 yX5_hush wsX5_hush) := goodIn_app (goodIn_of _ (by decide +kernel)) ggL_law_X5_hush
set_option maxRecDepth 20000 in
theorem ggL_law_X4_hears : GoodIn wsL_law wsX4_hears := goodIn_r _ [331, 24, 217, 218, 219, 2, 220, 30, 101, 105, 106, 107, 258, 259, 260, 332, 333, 334, 335, 33, 336, 337, 338, 339, 17, 154, 340, 341, 342, 343, 344, 345, 23, 346, 52, 347, 348, 349, 350, 351, 352, 353, 354, 355, 356, 357, 358, 359, 360, 361, 362, 363, 364, 365, 366, 367, 368, 369, 370, 371, 372, 373, 374, 225, 226, 375, 376, 377, 378, 379, 380, 381, 382, 383, 384, 385, 386, 387, 388, 389, 390, 391, 794, 795, 796, 797, 798, 799, 800, 801, 802, 803, 804, 805, 806, 848, 849, 850, 851, 852, 853, 854, 842, 843, 844, 845, 846, 847] (by decide +kernel) (by decide +kernel)
set_option maxRecDepth 20000 in
theorem gL_law_X4_hears : GoodIn wsL_law (wsV RL 50 RX4 yX4_hears wsX4_hears) := goodIn_app (goodIn_of _ (by decide +kernel)) ggL_law_X4_hears
set_option maxRecDepth 20000 in
theorem ggL_law_X5_hears : GoodIn wsL_law wsX5_hears := goodIn_r _ [395, 396, 87, 232, 233, 234, 5, 235, 162, 173, 174, 175, 276, 277, 278, 172, 397, 398, 399, 400, 401, 402, 403, 404, 167, 84, 85, 86, 405, 406, 407, 408, 409, 410, 411, 412, 413, 414, 415, 416, 417, 418, 419, 164, 165, 75, 236, 237, 238, 420, 421, 422, 423, 77, 76, 424, 425, 426, 427, 73, 428, 429, 430, 431, 807, 808, 809, 810, 811, 812, 813, 814, 815, 816, 817, 818, 819, 820, 821, 822, 823, 824, 825, 826, 827, 828, 829, 830, 831, 832, 833, 834, 835, 836, 837, 838, 839, 840, 841] (by decide +kernel) (by decide +kernel)
set_option maxRecDepth 20000 in
theorem gL_law_X5_hears : GoodIn wsL_law (wsV RL 53 RX5 yX5_hears wsX5_hears) := goodIn_app (goodIn_of _ (by decide +kernel)) ggL_law_X5_hears
set_option maxRecDepth 20000 in
theorem ggL_law_X4_count : GoodIn wsL_law wsX4_count := goodIn_r _ [435, 24, 217, 218, 219, 2, 220, 30, 101, 105, 106, 107, 255, 256, 257, 258, 259, 260, 261, 262, 263, 332, 333, 334, 335, 33, 336, 337, 338, 339, 17, 154, 340, 341, 342, 343, 344, 345, 23, 346, 52, 347, 348, 349, 350, 351, 352, 353, 354, 355, 356, 357, 358, 359, 360, 361, 362, 363, 364, 365, 366, 367, 368, 369, 370, 371, 372, 373, 374, 225, 226, 375, 376, 377, 378, 379, 380, 381, 382, 383, 384, 385, 386, 387, 436, 437, 438, 439, 440, 441, 442, 443, 444, 445, 446, 794, 795, 796, 797, 798, 799, 800, 801, 802, 803, 804, 805, 806, 848, 849, 850, 851, 852, 853, 854, 842, 843, 844, 845, 846, 847] (by decide +kernel) (by decide +kernel)
set_option maxRecDepth 20000 in
theorem gL_law_X4_count : GoodIn wsL_law (wsV RL 54 RX4 yX4_count wsX4_count) := goodIn_app (goodIn_of _ (by decide +kernel)) ggL_law_X4_count
set_option maxRecDepth 20000 in
theorem ggL_law_X5_count : GoodIn wsL_law wsX5_count := goodIn_r _ [450, 232, 233, 234, 5, 235, 162, 173, 174, 175, 276, 277, 278, 172, 279, 280, 281, 282, 397, 398, 399, 400, 401, 402, 403, 404, 167, 84, 85, 86, 405, 406, 407, 408, 87, 409, 410, 411, 412, 413, 414, 415, 416, 417, 418, 419, 164, 165, 75, 236, 237, 238, 420, 421, 422, 423, 77, 76, 424, 425, 426, 427, 73, 428, 429, 430, 431, 451, 452, 453, 454, 807, 808, 809, 810, 811, 812, 813, 814, 815, 816, 817, 818, 819, 820, 821, 822, 823, 824, 825, 826, 827, 828, 829, 830, 831, 832, 833, 834, 835, 836, 837, 838, 839, 840, 841] (by decide +kernel) (by decide +kernel)
set_option maxRecDepth 20000 in
theorem gL_law_X5_count : GoodIn wsL_law (wsV RL 57 RX5 yX5_count wsX5_count) := goodIn_app (goodIn_of _ (by decide +kernel)) ggL_law_X5_count
set_option maxRecDepth 20000 in
theorem ggL_law_X4_forges : GoodIn wsL_law wsX4_forges := goodIn_r _ [458, 30, 217, 218, 219, 2, 220, 101, 105, 106, 107, 258, 259, 260, 221, 222, 223, 29, 224, 61, 225, 226, 332, 333, 334, 335, 24, 33, 336, 337, 338, 339, 17, 154, 340, 341, 342, 343, 344, 345, 23, 346, 52, 347, 348, 349, 350, 351, 352, 353, 354, 355, 356, 357, 358, 359, 360, 361, 362, 363, 364, 365, 366, 367, 368, 369, 370, 371, 372, 373, 374, 375, 376, 377, 378, 379, 380, 381, 382, 383, 384, 385, 386, 387, 459, 460, 461, 462, 32, 436, 437, 438, 439, 440, 441, 442, 443, 444, 445, 446, 312, 313, 314, 315, 34, 794, 795, 796, 797, 798, 799, 800, 801, 802, 803, 804, 805, 806, 848, 849, 850, 851, 852, 853, 854, 842, 843, 844, 845, 846, 847] (by decide +kernel) (by decide +kernel)
set_option maxRecDepth 20000 in
theorem gL_law_X4_forges : GoodIn wsL_law (wsV RL 58 RX4 yX4_forges wsX4_forges) := goodIn_app (goodIn_of _ (by decide +kernel)) ggL_law_X4_forges
set_option maxRecDepth 20000 in
theorem ggL_law_X5_forges : GoodIn wsL_law wsX5_forges := goodIn_r _ [466, 74, 232, 233, 234, 5, 235, 162, 173, 174, 175, 276, 277, 278, 172, 397, 398, 399, 400, 401, 402, 403, 404, 167, 84, 85, 86, 405, 406, 407, 408, 87, 409, 410, 411, 412, 413, 414, 415, 416, 417, 418, 419, 164, 165, 75, 236, 237, 238, 420, 421, 422, 423, 77, 76, 424, 425, 426, 427, 73, 428, 429, 430, 431, 467, 468, 469, 470, 78, 166, 451, 452, 453, 454, 807, 808, 809, 810, 811, 812, 813, 814, 815, 816, 817, 818, 819, 820, 821, 822, 823, 824, 825, 826, 827, 828, 829, 830, 831, 832, 833, 834, 835, 836, 837, 838, 839, 840, 841] (by decide +kernel) (by decide +kernel)
set_option maxRecDepth 20000 in
theorem gL_law_X5_forges : GoodIn wsL_law (wsV RL 61 RX5 yX5_forges wsX5_forges) := goodIn_app (goodIn_of _ (by decide +kernel)) ggL_law_X5_forges
set_option maxRecDepth 20000 in
theorem ggL_law_X4_works : GoodIn wsL_law wsX4_works := goodIn_r _ [474, 261, 262, 2, 263, 105, 106, 107, 299, 300, 301, 302, 30, 101, 332, 333, 334, 335, 24, 33, 336, 337, 338, 339, 17, 154, 340, 341, 342, 343, 344, 345, 23, 346, 52, 347, 348, 349, 350, 351, 352, 353, 354, 355, 356, 357, 358, 359, 360, 361, 362, 363, 364, 365, 366, 367, 368, 369, 370, 371, 372, 373, 374, 225, 226, 375, 376, 377, 378, 379, 380, 381, 382, 383, 384, 385, 386, 387, 475, 476, 477, 478, 221, 222, 223, 29, 224, 61, 479, 480, 481, 482, 459, 460, 461, 462, 32, 436, 437, 438, 439, 440, 441, 442, 443, 444, 445, 446, 312, 313, 314, 315, 34, 794, 795, 796, 797, 798, 799, 800, 801, 802, 803, 804, 805, 806, 848, 849, 850, 851, 852, 853, 854, 842, 843, 844, 845, 846, 847] (by decide +kernel) (by decide +kernel)
set_option maxRecDepth 20000 in
theorem gL_law_X4_works : GoodIn wsL_law (wsV RL 62 RX4 yX4_works wsX4_works) := goodIn_app (goodIn_of _ (by decide +kernel)) ggL_law_X4_works
set_option maxRecDepth 20000 in
theorem ggL_law_X5_works : GoodIn wsL_law wsX5_works := goodIn_r _ [486, 162, 279, 280, 5, 281, 282, 173, 174, 175, 397, 398, 399, 400, 401, 402, 403, 404, 167, 84, 85, 86, 405, 406, 407, 408, 87, 409, 410, 411, 412, 413, 414, 415, 416, 417, 418, 419, 164, 165, 75, 236, 237, 238, 420, 421, 422, 423, 77, 76, 424, 425, 426, 427, 73, 428, 429, 430, 431, 487, 488, 489, 490, 74, 467, 468, 469, 470, 78, 166, 451, 452, 453, 454, 807, 808, 809, 810, 811, 812, 813, 814, 815, 816, 817, 818, 819, 820, 821, 822, 823, 824, 825, 826, 827, 828, 829, 830, 831, 832, 833, 834, 835, 836, 837, 838, 839, 840, 841] (by decide +kernel) (by decide +kernel)
set_option maxRecDepth 20000 in
theorem gL_law_X5_works : GoodIn wsL_law (wsV RL 65 RX5 yX5_works wsX5_works) := goodIn_app (goodIn_of _ (by decide +kernel)) ggL_law_X5_works
set_option maxRecDepth 20000 in
theorem ggL_law_X4_path : GoodIn wsL_law wsX4_path := goodIn_r _ [494, 24, 17, 217, 218, 219, 2, 220, 30, 101, 105, 106, 107, 258, 259, 260, 332, 333, 334, 335, 33, 336, 337, 338, 339, 154, 340, 341, 342, 343, 344, 345, 23, 346, 52, 347, 348, 349, 350, 351, 352, 353, 354, 355, 356, 357, 358, 359, 360, 361, 362, 363, 364, 365, 366, 367, 368, 369, 370, 371, 372, 373, 374, 225, 226, 375, 376, 377, 378, 379, 380, 381, 382, 383, 384, 385, 386, 387, 388, 389, 390, 391, 495, 496, 497, 16, 498, 46, 43, 44, 499, 500, 501, 502, 503, 243, 245, 504, 794, 795, 796, 797, 798, 799, 800, 801, 802, 803, 804, 805, 806, 848, 849, 850, 851, 852, 853, 854, 842, 843, 844, 845, 846, 847] (by decide +kernel) (by decide +kernel)
set_option maxRecDepth 20000 in
theorem gL_law_X4_path : GoodIn wsL_law (wsV RL 66 RX4 yX4_path wsX4_path) := goodIn_app (goodIn_of _ (by decide +kernel)) ggL_law_X4_path
set_option maxRecDepth 20000 in
theorem ggL_law_X5_path : GoodIn wsL_law wsX5_path := goodIn_r _ [508, 396, 87, 167, 84, 85, 232, 233, 234, 5, 235, 162, 173, 174, 175, 276, 277, 278, 172, 397, 398, 399, 400, 401, 402, 403, 404, 86, 405, 406, 407, 408, 409, 410, 411, 412, 413, 414, 415, 416, 417, 418, 419, 164, 165, 75, 236, 237, 238, 420, 421, 422, 423, 77, 76, 424, 425, 426, 427, 73, 428, 429, 430, 431, 509, 510, 511, 512, 807, 808, 809, 810, 811, 812, 813, 814, 815, 816, 817, 818, 819, 820, 821, 822, 823, 824, 825, 826, 827, 828, 829, 830, 831, 832, 833, 834, 835, 836, 837, 838, 839, 840, 841] (by decide +kernel) (by decide +kernel)
set_option maxRecDepth 20000 in
theorem gL_law_X5_path : GoodIn wsL_law (wsV RL 69 RX5 yX5_path wsX5_path) := goodIn_app (goodIn_of _ (by decide +kernel)) ggL_law_X5_path
set_option maxRecDepth 20000 in
theorem ggL_law_X4_fewest : GoodIn wsL_law wsX4_fewest := goodIn_r _ [516, 517, 518, 519, 2, 520, 30, 217, 218, 219, 220, 101, 105, 106, 107, 255, 256, 257, 258, 259, 260, 261, 262, 263, 221, 222, 223, 29, 224, 61, 225, 226, 521, 522, 523, 524, 525, 526, 527, 528, 24, 33, 529, 530, 531, 532, 343, 344, 345, 23, 346, 52, 347, 348, 349, 350, 227, 351, 352, 353, 354, 355, 356, 357, 336, 337, 338, 339, 17, 154, 340, 341, 342, 358, 359, 360, 361, 362, 363, 364, 365, 366, 367, 368, 369, 370, 371, 372, 373, 374, 375, 376, 377, 378, 379, 380, 381, 382, 383, 384, 385, 386, 387, 479, 480, 481, 482, 459, 460, 461, 462, 32, 436, 437, 438, 439, 440, 441, 442, 443, 444, 445, 446, 312, 313, 314, 315, 34, 533, 534, 535, 536, 537, 538, 539, 794, 795, 796, 797, 798, 799, 800, 801, 802, 803, 804, 805, 806, 848, 849, 850, 851, 852, 853, 854, 847, 842, 843, 844, 845, 846] (by decide +kernel) (by decide +kernel)
set_option maxRecDepth 20000 in
theorem gL_law_X4_fewest : GoodIn wsL_law (wsV RL 70 RX4 yX4_fewest wsX4_fewest) := goodIn_app (goodIn_of _ (by decide +kernel)) ggL_law_X4_fewest
set_option maxRecDepth 20000 in
theorem ggL_law_X5_fewest : GoodIn wsL_law wsX5_fewest := goodIn_r _ [543, 162, 544, 545, 546, 5, 547, 74, 232, 233, 234, 235, 173, 174, 175, 276, 277, 278, 172, 279, 280, 281, 282, 548, 549, 550, 551, 552, 553, 554, 405, 406, 407, 408, 87, 236, 237, 238, 409, 410, 411, 412, 413, 414, 415, 416, 417, 418, 419, 164, 165, 75, 420, 421, 422, 423, 77, 76, 424, 425, 426, 427, 73, 428, 429, 430, 431, 467, 468, 469, 470, 78, 166, 451, 452, 453, 454, 807, 808, 809, 810, 811, 812, 813, 814, 815, 816, 817, 818, 819, 820, 821, 822, 823, 824, 825, 826, 827, 828, 829, 830, 831, 832, 833, 834, 835, 836, 837, 838, 839, 840, 841] (by decide +kernel) (by decide +kernel)
set_option maxRecDepth 20000 in
theorem gL_law_X5_fewest : GoodIn wsL_law (wsV RL 73 RX5 yX5_fewest wsX5_fewest) := goodIn_app (goodIn_of _ (by decide +kernel)) ggL_law_X5_fewest
set_option maxRecDepth 20000 in
theorem ggL_law_X4_hushed : GoodIn wsL_law wsX4_hushed := goodIn_r _ [558, 517, 518, 519, 2, 520, 30, 217, 218, 219, 220, 101, 105, 106, 107, 255, 256, 257, 258, 259, 260, 261, 262, 263, 221, 222, 223, 29, 224, 61, 225, 226, 521, 522, 523, 524, 525, 526, 527, 528, 24, 33, 529, 530, 531, 532, 343, 344, 345, 23, 346, 52, 347, 348, 349, 350, 227, 351, 352, 353, 354, 355, 356, 357, 336, 337, 338, 339, 17, 154, 340, 341, 342, 358, 359, 360, 361, 362, 363, 364, 365, 366, 367, 368, 369, 370, 371, 372, 373, 374, 375, 376, 377, 378, 379, 380, 381, 382, 383, 384, 385, 386, 387, 479, 480, 481, 482, 459, 460, 461, 462, 32, 436, 437, 438, 439, 440, 441, 442, 443, 444, 445, 446, 312, 313, 314, 315, 34, 533, 534, 535, 536, 537, 538, 539, 794, 795, 796, 797, 798, 799, 800, 801, 802, 803, 804, 805, 806, 848, 849, 850, 851, 852, 853, 854, 847, 842, 843, 844, 845, 846] (by decide +kernel) (by decide +kernel)
set_option maxRecDepth 20000 in
theorem gL_law_X4_hushed : GoodIn wsL_law (wsV RL 74 RX4 yX4_hushed wsX4_hushed) := goodIn_app (goodIn_of _ (by decide +kernel)) ggL_law_X4_hushed
set_option maxRecDepth 20000 in
theorem ggL_law_X5_hushed : GoodIn wsL_law wsX5_hushed := goodIn_r _ [562, 165, 544, 545, 546, 5, 547, 74, 232, 233, 234, 235, 162, 173, 174, 175, 276, 277, 278, 172, 279, 280, 281, 282, 548, 549, 550, 551, 552, 553, 554, 397, 398, 399, 400, 401, 402, 403, 404, 167, 84, 85, 86, 405, 406, 407, 408, 87, 409, 410, 411, 412, 413, 414, 415, 416, 417, 418, 419, 164, 75, 236, 237, 238, 420, 421, 422, 423, 77, 76, 424, 425, 426, 427, 73, 428, 429, 430, 431, 467, 468, 469, 470, 78, 166, 451, 452, 453, 454, 807, 808, 809, 810, 811, 812, 813, 814, 815, 816, 817, 818, 819, 820, 821, 822, 823, 824, 825, 826, 827, 828, 829, 830, 831, 832, 833, 834, 835, 836, 837, 838, 839, 840, 841] (by decide +kernel) (by decide +kernel)
set_option maxRecDepth 20000 in
theorem gL_law_X5_hushed : GoodIn wsL_law (wsV RL 77 RX5 yX5_hushed wsX5_hushed) := goodIn_app (goodIn_of _ (by decide +kernel)) ggL_law_X5_hushed
set_option maxRecDepth 20000 in
theorem ggL_law_X4_worth : GoodIn wsL_law wsX4_worth := goodIn_r _ [566, 17, 154, 24, 30, 33, 105, 106, 2, 107, 332, 333, 334, 335, 336, 337, 338, 339, 340, 341, 342, 343, 344, 345, 23, 346, 52, 347, 348, 349, 350, 351, 352, 353, 354, 355, 356, 357, 358, 359, 360, 361, 362, 363, 364, 365, 366, 367, 368, 369, 370, 371, 372, 373, 374, 225, 226, 375, 376, 377, 378, 379, 380, 381, 382, 383, 384, 385, 386, 387, 475, 476, 477, 478, 101, 221, 222, 223, 29, 224, 61, 479, 480, 481, 482, 459, 460, 461, 462, 32, 436, 437, 438, 439, 440, 441, 442, 443, 444, 445, 446, 312, 313, 314, 315, 34, 794, 795, 796, 797, 798, 799, 800, 801, 802, 803, 804, 805, 806, 842, 843, 844, 845, 846, 847, 848, 849, 850, 851, 852, 853, 854] (by decide +kernel) (by decide +kernel)
set_option maxRecDepth 20000 in
theorem gL_law_X4_worth : GoodIn wsL_law (wsV RL 78 RX4 yX4_worth wsX4_worth) := goodIn_app (goodIn_of _ (by decide +kernel)) ggL_law_X4_worth
set_option maxRecDepth 20000 in
theorem ggL_law_X5_worth : GoodIn wsL_law wsX5_worth := goodIn_r _ [570, 167, 173, 174, 5, 175, 397, 398, 399, 400, 401, 402, 403, 404, 84, 85, 86, 405, 406, 407, 408, 87, 409, 410, 411, 412, 413, 414, 415, 416, 417, 418, 419, 164, 165, 75, 236, 237, 238, 420, 421, 422, 423, 77, 76, 424, 425, 426, 427, 73, 428, 429, 430, 431, 487, 488, 489, 490, 162, 74, 467, 468, 469, 470, 78, 166, 451, 452, 453, 454, 807, 808, 809, 810, 811, 812, 813, 814, 815, 816, 817, 818, 819, 820, 821, 822, 823, 824, 825, 826, 827, 828, 829, 830, 831, 832, 833, 834, 835, 836, 837, 838, 839, 840, 841] (by decide +kernel) (by decide +kernel)
set_option maxRecDepth 20000 in
theorem gL_law_X5_worth : GoodIn wsL_law (wsV RL 81 RX5 yX5_worth wsX5_worth) := goodIn_app (goodIn_of _ (by decide +kernel)) ggL_law_X5_worth
set_option maxRecDepth 20000 in
theorem ggL_law_X4_spare : GoodIn wsL_law wsX4_spare := goodIn_r _ [574, 30, 243, 24, 33, 299, 300, 301, 2, 302, 101, 332, 333, 334, 335, 336, 337, 338, 339, 17, 154, 340, 341, 342, 343, 344, 345, 23, 346, 52, 347, 348, 349, 350, 351, 352, 353, 354, 355, 356, 357, 358, 359, 360, 361, 362, 363, 364, 365, 366, 367, 368, 369, 370, 371, 372, 373, 374, 225, 226, 375, 376, 377, 378, 379, 380, 381, 382, 383, 384, 385, 386, 387, 575, 576, 577, 578, 26, 459, 460, 461, 462, 32, 436, 437, 438, 439, 440, 441, 442, 443, 444, 445, 446, 312, 313, 314, 315, 34, 579, 580, 581, 582, 221, 222, 223, 29, 224, 61, 794, 795, 796, 797, 798, 799, 800, 801, 802, 803, 804, 805, 806, 848, 849, 850, 851, 852, 853, 854, 842, 843, 844, 845, 846, 847] (by decide +kernel) (by decide +kernel)
set_option maxRecDepth 20000 in
theorem gL_law_X4_spare : GoodIn wsL_law (wsV RL 82 RX4 yX4_spare wsX4_spare) := goodIn_app (goodIn_of _ (by decide +kernel)) ggL_law_X4_spare
set_option maxRecDepth 20000 in
theorem ggL_law_X5_spare : GoodIn wsL_law wsX5_spare := goodIn_r _ [586, 162, 88, 164, 74, 397, 398, 399, 5, 400, 401, 402, 403, 404, 167, 84, 85, 86, 405, 406, 407, 408, 87, 409, 410, 411, 412, 413, 414, 415, 416, 417, 418, 419, 165, 75, 236, 237, 238, 420, 421, 422, 423, 77, 76, 424, 425, 426, 427, 73, 428, 429, 430, 431, 467, 468, 469, 470, 78, 166, 451, 452, 453, 454, 807, 808, 809, 810, 811, 812, 813, 814, 815, 816, 817, 818, 819, 820, 821, 822, 823, 824, 825, 826, 827, 828, 829, 830, 831, 832, 833, 834, 835, 836, 837, 838, 839, 840, 841] (by decide +kernel) (by decide +kernel)
set_option maxRecDepth 20000 in
theorem gL_law_X5_spare : GoodIn wsL_law (wsV RL 86 RX5 yX5_spare wsX5_spare) := goodIn_app (goodIn_of _ (by decide +kernel)) ggL_law_X5_spare
set_option maxRecDepth 20000 in
theorem ggL_law_X4_reading : GoodIn wsL_law wsX4_reading := goodIn_r _ [590, 18, 20, 154, 517, 518, 519, 2, 520, 30, 217, 218, 219, 220, 101, 105, 106, 107, 255, 256, 257, 258, 259, 260, 261, 262, 263, 221, 222, 223, 29, 224, 61, 225, 226, 264, 265, 266, 16, 267, 46, 47, 268, 269, 270, 271, 43, 44, 45, 794, 795, 796, 797, 798, 799, 800, 801, 802, 803, 804, 805, 806, 842, 843, 844, 845, 846, 848, 849, 850, 851, 852, 853, 854] (by decide +kernel) (by decide +kernel)
set_option maxRecDepth 20000 in
theorem gL_law_X4_reading : GoodIn wsL_law (wsV RL 87 RX4 yX4_reading wsX4_reading) := goodIn_app (goodIn_of _ (by decide +kernel)) ggL_law_X4_reading
set_option maxRecDepth 20000 in
theorem ggL_law_X5_reading : GoodIn wsL_law wsX5_reading := goodIn_r _ [594, 168, 89, 90, 91, 92, 544, 545, 546, 5, 547, 74, 232, 233, 234, 235, 162, 173, 174, 175, 276, 277, 278, 172, 279, 280, 281, 282, 807, 808, 809, 810, 811, 812, 813, 814, 815, 816, 817, 818, 819, 820, 821, 822, 823, 824, 825, 826, 827, 828, 829, 830, 831, 832, 833, 834, 835, 836, 837, 838, 839, 840, 841] (by decide +kernel) (by decide +kernel)
set_option maxRecDepth 20000 in
theorem gL_law_X5_reading : GoodIn wsL_law (wsV RL 91 RX5 yX5_reading wsX5_reading) := goodIn_app (goodIn_of _ (by decide +kernel)) ggL_law_X5_reading
set_option maxRecDepth 20000 in
theorem ggL_law_X4_back : GoodIn wsL_law wsX4_back := goodIn_r _ [598, 18, 287, 288, 289, 16, 290, 46, 794, 795, 796, 797, 798, 799, 800, 801, 802, 803, 804, 805, 806, 842, 843, 844, 845, 846] (by decide +kernel) (by decide +kernel)
set_option maxRecDepth 20000 in
theorem gL_law_X4_back : GoodIn wsL_law (wsV RL 92 RX4 yX4_back wsX4_back) := goodIn_app (goodIn_of _ (by decide +kernel)) ggL_law_X4_back
set_option maxRecDepth 20000 in
theorem ggL_law_X5_back : GoodIn wsL_law wsX5_back := goodIn_r _ [602, 168, 173, 174, 5, 175, 807, 808, 809, 810, 811, 812, 813, 814, 815, 816, 817, 818, 819, 820, 821, 822, 823, 824, 825, 826, 827, 828, 829, 830, 831, 832, 833, 834, 835, 836, 837, 838, 839, 840, 841] (by decide +kernel) (by decide +kernel)
set_option maxRecDepth 20000 in
theorem gL_law_X5_back : GoodIn wsL_law (wsV RL 95 RX5 yX5_back wsX5_back) := goodIn_app (goodIn_of _ (by decide +kernel)) ggL_law_X5_back
set_option maxRecDepth 20000 in
theorem ggL_law_X4_told : GoodIn wsL_law wsX4_told := goodIn_r _ [606, 30, 101, 24, 33, 255, 256, 2, 257, 258, 259, 260, 105, 106, 107, 261, 262, 263, 299, 300, 301, 302, 336, 337, 338, 339, 17, 154, 340, 341, 342, 343, 344, 345, 23, 346, 52, 347, 348, 349, 350, 351, 352, 353, 354, 355, 356, 357, 358, 359, 360, 361, 362, 363, 364, 365, 366, 367, 368, 369, 370, 371, 372, 373, 374, 225, 226, 375, 376, 377, 378, 379, 380, 381, 382, 383, 384, 385, 386, 387, 607, 608, 609, 610, 18, 20, 479, 480, 481, 482, 459, 460, 461, 462, 32, 436, 437, 438, 439, 440, 441, 442, 443, 444, 445, 446, 312, 313, 314, 315, 34, 794, 795, 796, 797, 798, 799, 800, 801, 802, 803, 804, 805, 806, 848, 849, 850, 851, 852, 853, 854, 842, 843, 844, 845, 846, 847] (by decide +kernel) (by decide +kernel)
set_option maxRecDepth 20000 in
theorem gL_law_X4_told : GoodIn wsL_law (wsV RL 96 RX4 yX4_told wsX4_told) := goodIn_app (goodIn_of _ (by decide +kernel)) ggL_law_X4_told
set_option maxRecDepth 20000 in
theorem ggL_law_X5_told : GoodIn wsL_law wsX5_told := goodIn_r _ [614, 162, 276, 277, 5, 278, 172, 173, 174, 175, 279, 280, 281, 282, 401, 402, 403, 404, 167, 84, 85, 86, 405, 406, 407, 408, 87, 409, 410, 411, 412, 413, 414, 415, 416, 417, 418, 419, 164, 165, 75, 236, 237, 238, 420, 421, 422, 423, 77, 76, 424, 425, 426, 427, 73, 428, 429, 430, 431, 615, 616, 617, 618, 168, 89, 90, 91, 92, 467, 468, 469, 470, 78, 166, 451, 452, 453, 454, 807, 808, 809, 810, 811, 812, 813, 814, 815, 816, 817, 818, 819, 820, 821, 822, 823, 824, 825, 826, 827, 828, 829, 830, 831, 832, 833, 834, 835, 836, 837, 838, 839, 840, 841] (by decide +kernel) (by decide +kernel)
set_option maxRecDepth 20000 in
theorem gL_law_X5_told : GoodIn wsL_law (wsV RL 99 RX5 yX5_told wsX5_told) := goodIn_app (goodIn_of _ (by decide +kernel)) ggL_law_X5_told
set_option maxRecDepth 20000 in
theorem ggL_law_X4_mute : GoodIn wsL_law wsX4_mute := goodIn_r _ [622, 30, 101, 24, 33, 299, 300, 301, 2, 302, 336, 337, 338, 339, 17, 154, 340, 341, 342, 343, 344, 345, 23, 346, 52, 347, 348, 349, 350, 351, 352, 353, 354, 355, 356, 357, 358, 359, 360, 361, 362, 363, 364, 365, 366, 367, 368, 369, 370, 371, 372, 373, 374, 225, 226, 375, 376, 377, 378, 379, 380, 381, 382, 383, 384, 385, 386, 387, 607, 608, 609, 610, 18, 20, 479, 480, 481, 482, 459, 460, 461, 462, 32, 436, 437, 438, 439, 440, 441, 442, 443, 444, 445, 446, 312, 313, 314, 315, 34, 794, 795, 796, 797, 798, 799, 800, 801, 802, 803, 804, 805, 806, 848, 849, 850, 851, 852, 853, 854, 842, 843, 844, 845, 846, 847] (by decide +kernel) (by decide +kernel)
set_option maxRecDepth 20000 in
theorem gL_law_X4_mute : GoodIn wsL_law (wsV RL 100 RX4 yX4_mute wsX4_mute) := goodIn_app (goodIn_of _ (by decide +kernel)) ggL_law_X4_mute
set_option maxRecDepth 20000 in
theorem ggL_law_X5_mute : GoodIn wsL_law wsX5_mute := goodIn_r _ [626, 162, 165, 397, 398, 399, 5, 400, 401, 402, 403, 404, 167, 84, 85, 86, 405, 406, 407, 408, 87, 409, 410, 411, 412, 413, 414, 415, 416, 417, 418, 419, 164, 75, 236, 237, 238, 420, 421, 422, 423, 77, 76, 424, 425, 426, 427, 73, 428, 429, 430, 431, 615, 616, 617, 618, 168, 89, 90, 91, 92, 467, 468, 469, 470, 78, 166, 451, 452, 453, 454, 807, 808, 809, 810, 811, 812, 813, 814, 815, 816, 817, 818, 819, 820, 821, 822, 823, 824, 825, 826, 827, 828, 829, 830, 831, 832, 833, 834, 835, 836, 837, 838, 839, 840, 841] (by decide +kernel) (by decide +kernel)
set_option maxRecDepth 20000 in
theorem gL_law_X5_mute : GoodIn wsL_law (wsV RL 103 RX5 yX5_mute wsX5_mute) := goodIn_app (goodIn_of _ (by decide +kernel)) ggL_law_X5_mute
set_option maxRecDepth 20000 in
theorem ggL_law_X4_rows : GoodIn wsL_law wsX4_rows := goodIn_r _ [630, 36, 13, 102, 103, 2, 104, 105, 106, 107, 258, 259, 260, 299, 300, 301, 302, 30, 101, 108, 109, 110, 38, 111, 112, 113, 114, 115, 67, 116, 117, 118, 119, 120, 121, 122, 123, 68, 124, 125, 126, 127, 631, 632, 633, 634, 635, 24, 33, 217, 218, 219, 220, 343, 344, 345, 23, 346, 52, 347, 348, 349, 350, 351, 352, 353, 354, 355, 356, 357, 358, 359, 360, 361, 362, 363, 364, 365, 366, 367, 368, 369, 370, 371, 372, 373, 374, 225, 226, 375, 376, 377, 378, 379, 380, 381, 382, 383, 384, 385, 386, 387, 475, 476, 477, 478, 221, 222, 223, 29, 224, 61, 479, 480, 481, 482, 459, 460, 461, 462, 32, 436, 437, 438, 439, 440, 441, 442, 443, 444, 445, 446, 312, 313, 314, 315, 34, 794, 795, 796, 797, 798, 799, 800, 801, 802, 803, 804, 805, 806, 848, 849, 850, 851, 852, 853, 854, 855, 856, 857, 847] (by decide +kernel) (by decide +kernel)
set_option maxRecDepth 20000 in
theorem gL_law_X4_rows : GoodIn wsL_law (wsV RL 104 RX4 yX4_rows wsX4_rows) := goodIn_app (goodIn_of _ (by decide +kernel)) ggL_law_X4_rows
set_option maxRecDepth 20000 in
theorem ggL_law_X5_rows : GoodIn wsL_law wsX5_rows := goodIn_r _ [639, 159, 162, 95, 169, 170, 5, 171, 172, 173, 174, 175, 176, 177, 178, 179, 180, 276, 277, 278, 181, 182, 183, 184, 93, 94, 185, 186, 187, 188, 189, 190, 191, 405, 406, 407, 408, 87, 232, 233, 234, 235, 409, 410, 411, 412, 413, 414, 415, 416, 417, 418, 419, 164, 165, 75, 236, 237, 238, 420, 421, 422, 423, 77, 76, 424, 425, 426, 427, 73, 428, 429, 430, 431, 487, 488, 489, 490, 74, 467, 468, 469, 470, 78, 166, 451, 452, 453, 454, 807, 808, 809, 810, 811, 812, 813, 814, 815, 816, 817, 818, 819, 820, 821, 822, 823, 824, 825, 826, 827, 828, 829, 830, 831, 832, 833, 834, 835, 836, 837, 838, 839, 840, 841] (by decide +kernel) (by decide +kernel)
set_option maxRecDepth 20000 in
theorem gL_law_X5_rows : GoodIn wsL_law (wsV RL 108 RX5 yX5_rows wsX5_rows) := goodIn_app (goodIn_of _ (by decide +kernel)) ggL_law_X5_rows
set_option maxRecDepth 20000 in
theorem ggL_law_X4_sheet : GoodIn wsL_law wsX4_sheet := goodIn_r _ [643, 36, 13, 102, 103, 2, 104, 105, 106, 107, 124, 125, 126, 127, 644, 645, 646, 38, 647, 67, 68, 66, 648, 649, 349, 650, 794, 795, 796, 797, 798, 799, 800, 801, 802, 803, 804, 805, 806, 855, 856, 857] (by decide +kernel) (by decide +kernel)
set_option maxRecDepth 20000 in
theorem gL_law_X4_sheet : GoodIn wsL_law (wsV RL 109 RX4 yX4_sheet wsX4_sheet) := goodIn_app (goodIn_of _ (by decide +kernel)) ggL_law_X4_sheet
set_option maxRecDepth 20000 in
theorem ggL_law_X5_sheet : GoodIn wsL_law wsX5_sheet := goodIn_r _ [654, 159, 93, 94, 95, 169, 170, 5, 171, 172, 173, 174, 175, 176, 177, 178, 179, 180, 185, 186, 187, 188, 807, 808, 809, 810, 811, 812, 813, 814, 815, 816, 817, 818, 819, 820, 821, 822, 823, 824, 825, 826, 827, 828, 829, 830, 831, 832, 833, 834, 835, 836, 837, 838, 839, 840, 841] (by decide +kernel) (by decide +kernel)
set_option maxRecDepth 20000 in
theorem gL_law_X5_sheet : GoodIn wsL_law (wsV RL 112 RX5 yX5_sheet wsX5_sheet) := goodIn_app (goodIn_of _ (by decide +kernel)) ggL_law_X5_sheet
set_option maxRecDepth 20000 in
theorem ggL_law_X4_lose : GoodIn wsL_law wsX4_lose := goodIn_r _ [658, 13, 102, 103, 2, 104, 105, 106, 107, 659, 117, 118, 38, 119, 67, 660, 661, 662, 663, 68, 794, 795, 796, 797, 798, 799, 800, 801, 802, 803, 804, 805, 806, 855, 856, 857] (by decide +kernel) (by decide +kernel)
set_option maxRecDepth 20000 in
theorem gL_law_X4_lose : GoodIn wsL_law (wsV RL 113 RX4 yX4_lose wsX4_lose) := goodIn_app (goodIn_of _ (by decide +kernel)) ggL_law_X4_lose
set_option maxRecDepth 20000 in
theorem ggL_law_X5_lose : GoodIn wsL_law wsX5_lose := goodIn_r _ [667, 93, 169, 170, 5, 171, 172, 173, 174, 175, 807, 808, 809, 810, 811, 812, 813, 814, 815, 816, 817, 818, 819, 820, 821, 822, 823, 824, 825, 826, 827, 828, 829, 830, 831, 832, 833, 834, 835, 836, 837, 838, 839, 840, 841] (by decide +kernel) (by decide +kernel)
set_option maxRecDepth 20000 in
theorem gL_law_X5_lose : GoodIn wsL_law (wsV RL 116 RX5 yX5_lose wsX5_lose) := goodIn_app (goodIn_of _ (by decide +kernel)) ggL_law_X5_lose
set_option maxRecDepth 20000 in
theorem ggL_law_X4_put : GoodIn wsL_law wsX4_put := goodIn_r _ [671, 36, 13, 672, 102, 103, 2, 104, 105, 106, 107, 659, 117, 118, 38, 119, 67, 124, 125, 126, 127, 673, 674, 675, 676, 66, 794, 795, 796, 797, 798, 799, 800, 801, 802, 803, 804, 805, 806, 855, 856, 857] (by decide +kernel) (by decide +kernel)
set_option maxRecDepth 20000 in
theorem gL_law_X4_put : GoodIn wsL_law (wsV RL 117 RX4 yX4_put wsX4_put) := goodIn_app (goodIn_of _ (by decide +kernel)) ggL_law_X4_put
set_option maxRecDepth 20000 in
theorem ggL_law_X5_put : GoodIn wsL_law wsX5_put := goodIn_r _ [680, 95, 94, 169, 170, 5, 171, 172, 173, 174, 175, 176, 177, 178, 179, 180, 681, 682, 683, 684, 93, 185, 186, 187, 188, 807, 808, 809, 810, 811, 812, 813, 814, 815, 816, 817, 818, 819, 820, 821, 822, 823, 824, 825, 826, 827, 828, 829, 830, 831, 832, 833, 834, 835, 836, 837, 838, 839, 840, 841] (by decide +kernel) (by decide +kernel)
set_option maxRecDepth 20000 in
theorem gL_law_X5_put : GoodIn wsL_law (wsV RL 120 RX5 yX5_put wsX5_put) := goodIn_app (goodIn_of _ (by decide +kernel)) ggL_law_X5_put
set_option maxRecDepth 20000 in
theorem ggL_law_X4_cell : GoodIn wsL_law wsX4_cell := goodIn_r _ [688, 36, 689, 13, 672, 635, 102, 103, 2, 104, 105, 106, 107, 690, 113, 114, 38, 115, 67, 116, 117, 118, 119, 794, 795, 796, 797, 798, 799, 800, 801, 802, 803, 804, 805, 806, 855, 856, 857] (by decide +kernel) (by decide +kernel)
set_option maxRecDepth 20000 in
theorem gL_law_X4_cell : GoodIn wsL_law (wsV RL 121 RX4 yX4_cell wsX4_cell) := goodIn_app (goodIn_of _ (by decide +kernel)) ggL_law_X4_cell
set_option maxRecDepth 20000 in
theorem ggL_law_X5_cell : GoodIn wsL_law wsX5_cell := goodIn_r _ [694, 180, 159, 93, 94, 95, 169, 170, 5, 171, 172, 173, 174, 175, 695, 696, 697, 698, 699, 700, 701, 702, 681, 682, 683, 684, 807, 808, 809, 810, 811, 812, 813, 814, 815, 816, 817, 818, 819, 820, 821, 822, 823, 824, 825, 826, 827, 828, 829, 830, 831, 832, 833, 834, 835, 836, 837, 838, 839, 840, 841] (by decide +kernel) (by decide +kernel)
set_option maxRecDepth 20000 in
theorem gL_law_X5_cell : GoodIn wsL_law (wsV RL 125 RX5 yX5_cell wsX5_cell) := goodIn_app (goodIn_of _ (by decide +kernel)) ggL_law_X5_cell
set_option maxRecDepth 20000 in
theorem ggL_law_X4_copy : GoodIn wsL_law wsX4_copy := goodIn_r _ [706, 36, 13, 707, 635, 708, 709, 710, 711, 102, 103, 2, 104, 105, 106, 107, 659, 117, 118, 38, 119, 67, 124, 125, 126, 127, 712, 121, 122, 123, 68, 794, 795, 796, 797, 798, 799, 800, 801, 802, 803, 804, 805, 806, 855, 856, 857] (by decide +kernel) (by decide +kernel)
set_option maxRecDepth 20000 in
theorem gL_law_X4_copy : GoodIn wsL_law (wsV RL 126 RX4 yX4_copy wsX4_copy) := goodIn_app (goodIn_of _ (by decide +kernel)) ggL_law_X4_copy
set_option maxRecDepth 20000 in
theorem ggL_law_X5_copy : GoodIn wsL_law wsX5_copy := goodIn_r _ [716, 93, 94, 96, 95, 169, 170, 5, 171, 172, 173, 174, 175, 176, 177, 178, 179, 180, 185, 186, 187, 188, 189, 190, 191, 807, 808, 809, 810, 811, 812, 813, 814, 815, 816, 817, 818, 819, 820, 821, 822, 823, 824, 825, 826, 827, 828, 829, 830, 831, 832, 833, 834, 835, 836, 837, 838, 839, 840, 841] (by decide +kernel) (by decide +kernel)
set_option maxRecDepth 20000 in
theorem gL_law_X5_copy : GoodIn wsL_law (wsV RL 129 RX5 yX5_copy wsX5_copy) := goodIn_app (goodIn_of _ (by decide +kernel)) ggL_law_X5_copy
set_option maxRecDepth 20000 in
theorem ggL_law_X4_tell : GoodIn wsL_law wsX4_tell := goodIn_r _ [720, 30, 216, 217, 218, 219, 2, 220, 101, 105, 106, 107, 721, 722, 723, 724, 725, 726, 727, 728, 35, 729, 730, 731, 732, 733, 734, 735, 736, 794, 795, 796, 797, 798, 799, 800, 801, 802, 803, 804, 805, 806, 848, 849, 850, 851, 852, 853, 854] (by decide +kernel) (by decide +kernel)
set_option maxRecDepth 20000 in
theorem gL_law_X4_tell : GoodIn wsL_law (wsV RL 130 RX4 yX4_tell wsX4_tell) := goodIn_app (goodIn_of _ (by decide +kernel)) ggL_law_X4_tell
set_option maxRecDepth 20000 in
theorem ggL_law_X5_tell : GoodIn wsL_law wsX5_tell := goodIn_r _ [740, 73, 232, 233, 234, 5, 235, 162, 173, 174, 175, 741, 742, 743, 744, 745, 807, 808, 809, 810, 811, 812, 813, 814, 815, 816, 817, 818, 819, 820, 821, 822, 823, 824, 825, 826, 827, 828, 829, 830, 831, 832, 833, 834, 835, 836, 837, 838, 839, 840, 841] (by decide +kernel) (by decide +kernel)
set_option maxRecDepth 20000 in
theorem gL_law_X5_tell : GoodIn wsL_law (wsV RL 133 RX5 yX5_tell wsX5_tell) := goodIn_app (goodIn_of _ (by decide +kernel)) ggL_law_X5_tell
set_option maxRecDepth 20000 in
theorem ggL_law_X4_greet : GoodIn wsL_law wsX4_greet := goodIn_r _ [749, 30, 216, 217, 218, 219, 2, 220, 101, 105, 106, 107, 750, 751, 752, 753, 725, 726, 727, 728, 35, 754, 755, 756, 757, 794, 795, 796, 797, 798, 799, 800, 801, 802, 803, 804, 805, 806, 848, 849, 850, 851, 852, 853, 854] (by decide +kernel) (by decide +kernel)
set_option maxRecDepth 20000 in
theorem gL_law_X4_greet : GoodIn wsL_law (wsV RL 134 RX4 yX4_greet wsX4_greet) := goodIn_app (goodIn_of _ (by decide +kernel)) ggL_law_X4_greet
set_option maxRecDepth 20000 in
theorem ggL_law_X5_greet : GoodIn wsL_law wsX5_greet := goodIn_r _ [761, 73, 232, 233, 234, 5, 235, 162, 173, 174, 175, 741, 742, 743, 744, 745, 807, 808, 809, 810, 811, 812, 813, 814, 815, 816, 817, 818, 819, 820, 821, 822, 823, 824, 825, 826, 827, 828, 829, 830, 831, 832, 833, 834, 835, 836, 837, 838, 839, 840, 841] (by decide +kernel) (by decide +kernel)
set_option maxRecDepth 20000 in
theorem gL_law_X5_greet : GoodIn wsL_law (wsV RL 137 RX5 yX5_greet wsX5_greet) := goodIn_app (goodIn_of _ (by decide +kernel)) ggL_law_X5_greet
set_option maxRecDepth 20000 in
theorem ggL_law_X4_as : GoodIn wsL_law wsX4_as := goodIn_r _ [765, 36, 30, 216, 217, 218, 219, 2, 220, 101, 105, 106, 107, 124, 125, 126, 127, 794, 795, 796, 797, 798, 799, 800, 801, 802, 803, 804, 805, 806, 848, 849, 850, 851, 852, 853, 854] (by decide +kernel) (by decide +kernel)
set_option maxRecDepth 20000 in
theorem gL_law_X4_as : GoodIn wsL_law (wsV RL 138 RX4 yX4_as wsX4_as) := goodIn_app (goodIn_of _ (by decide +kernel)) ggL_law_X4_as
set_option maxRecDepth 20000 in
theorem ggL_law_X5_as : GoodIn wsL_law wsX5_as := goodIn_r _ [769, 159, 73, 232, 233, 234, 5, 235, 162, 173, 174, 175, 176, 177, 178, 179, 180, 185, 186, 187, 188, 807, 808, 809, 810, 811, 812, 813, 814, 815, 816, 817, 818, 819, 820, 821, 822, 823, 824, 825, 826, 827, 828, 829, 830, 831, 832, 833, 834, 835, 836, 837, 838, 839, 840, 841] (by decide +kernel) (by decide +kernel)
set_option maxRecDepth 20000 in
theorem gL_law_X5_as : GoodIn wsL_law (wsV RL 141 RX5 yX5_as wsX5_as) := goodIn_app (goodIn_of _ (by decide +kernel)) ggL_law_X5_as
set_option maxRecDepth 20000 in
theorem ggL_law_X4_trace : GoodIn wsL_law wsX4_trace := goodIn_r _ [773, 35, 794, 795, 796, 797, 798, 799, 800, 801, 802, 803, 804, 805, 806] (by decide +kernel) (by decide +kernel)
set_option maxRecDepth 20000 in
theorem gL_law_X4_trace : GoodIn wsL_law (wsV RL 142 RX4 yX4_trace wsX4_trace) := goodIn_app (goodIn_of _ (by decide +kernel)) ggL_law_X4_trace
set_option maxRecDepth 20000 in
theorem ggL_law_X5_trace : GoodIn wsL_law wsX5_trace := goodIn_r _ [777, 745, 807, 808, 809, 810, 811, 812, 813, 814, 815, 816, 817, 818, 819, 820, 821, 822, 823, 824, 825, 826, 827, 828, 829, 830, 831, 832, 833, 834, 835, 836, 837, 838, 839, 840, 841] (by decide +kernel) (by decide +kernel)
set_option maxRecDepth 20000 in
theorem gL_law_X5_trace : GoodIn wsL_law (wsV RL 145 RX5 yX5_trace wsX5_trace) := goodIn_app (goodIn_of _ (by decide +kernel)) ggL_law_X5_trace
set_option maxRecDepth 20000 in
theorem ggL_law_X4_fault : GoodIn wsL_law wsX4_fault := goodIn_r _ [781, 36, 794, 795, 796, 797, 798, 799, 800, 801, 802, 803, 804, 805, 806] (by decide +kernel) (by decide +kernel)
set_option maxRecDepth 20000 in
theorem gL_law_X4_fault : GoodIn wsL_law (wsV RL 146 RX4 yX4_fault wsX4_fault) := goodIn_app (goodIn_of _ (by decide +kernel)) ggL_law_X4_fault
set_option maxRecDepth 20000 in
theorem ggL_law_X5_fault : GoodIn wsL_law wsX5_fault := goodIn_r _ [785, 180, 807, 808, 809, 810, 811, 812, 813, 814, 815, 816, 817, 818, 819, 820, 821, 822, 823, 824, 825, 826, 827, 828, 829, 830, 831, 832, 833, 834, 835, 836, 837, 838, 839, 840, 841] (by decide +kernel) (by decide +kernel)
set_option maxRecDepth 20000 in
theorem gL_law_X5_fault : GoodIn wsL_law (wsV RL 149 RX5 yX5_fault wsX5_fault) := goodIn_app (goodIn_of _ (by decide +kernel)) ggL_law_X5_fault
set_option maxRecDepth 20000 in
theorem ggL_law_X4_many : GoodIn wsL_law wsX4_many := goodIn_r _ [789, 30, 101, 243, 17, 154, 18, 32, 794, 795, 796, 797, 798, 799, 800, 801, 802, 803, 804, 805, 806, 848, 849, 850, 851, 852, 853, 854, 842, 843, 844, 845, 846] (by decide +kernel) (by decide +kernel)
set_option maxRecDepth 20000 in
theorem gL_law_X4_many : GoodIn wsL_law (wsV RL 150 RX4 yX4_many wsX4_many) := goodIn_app (goodIn_of _ (by decide +kernel)) ggL_law_X4_many
set_option maxRecDepth 20000 in
theorem ggL_law_X5_many : GoodIn wsL_law wsX5_many := goodIn_r _ [793, 162, 164, 167, 168, 166, 807, 808, 809, 810, 811, 812, 813, 814, 815, 816, 817, 818, 819, 820, 821, 822, 823, 824, 825, 826, 827, 828, 829, 830, 831, 832, 833, 834, 835, 836, 837, 838, 839, 840, 841] (by decide +kernel) (by decide +kernel)
set_option maxRecDepth 20000 in
theorem gL_law_X5_many : GoodIn wsL_law (wsV RL 153 RX5 yX5_many wsX5_many) := goodIn_app (goodIn_of _ (by decide +kernel)) ggL_law_X5_many
