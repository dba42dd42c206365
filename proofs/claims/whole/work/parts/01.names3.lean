theorem dX5_codeAt_8 : decode cX5_codeAt 8 = .ok (.aload_n 0, 1) := by decide +kernel
theorem dX5_codeAt_9 : decode cX5_codeAt 9 = .ok (.getfield 77, 3) := by decide +kernel
theorem dX5_codeAt_12 : decode cX5_codeAt 12 = .ok (.iload_n 1, 1) := by decide +kernel
theorem dX5_codeAt_13 : decode cX5_codeAt 13 = .ok (.aload_n 0, 1) := by decide +kernel
theorem dX5_codeAt_14 : decode cX5_codeAt 14 = .ok (.getfield 104, 3) := by decide +kernel
theorem dX5_codeAt_17 : decode cX5_codeAt 17 = .ok (.iadd, 1) := by decide +kernel
theorem dX5_codeAt_18 : decode cX5_codeAt 18 = .ok (.iaload, 1) := by decide +kernel
theorem dX5_codeAt_19 : decode cX5_codeAt 19 = .ok (.goto 5, 3) := by decide +kernel
theorem dX5_codeAt_22 : decode cX5_codeAt 22 = .ok (.bipush (-9), 2) := by decide +kernel
theorem dX5_codeAt_24 : decode cX5_codeAt 24 = .ok (.ireturn, 1) := by decide +kernel
set_option maxRecDepth 20000 in
theorem ggX5_figure_X5_codeAt : GoodIn wsX5_figure wsX5_codeAt := goodIn_r _ [6, 1, 7, 11, 12, 13, 14, 15, 16, 17, 18, 19, 20, 21, 22, 23, 24, 25, 26, 27, 28, 29, 30, 31, 32, 33, 34, 35, 36, 37, 38, 39, 40, 41, 42, 43, 44, 45] (by decide +kernel) (by decide +kernel)
set_option maxRecDepth 20000 in
theorem gX5_figure_X5_codeAt : GoodIn wsX5_figure (wsV RX5 107 RX5 yX5_codeAt wsX5_codeAt) := goodIn_app (goodIn_of _ (by decide +kernel)) ggX5_figure_X5_codeAt
set_option maxRecDepth 20000 in
theorem ggX5_figure_X5_in : GoodIn wsX5_figure wsX5_in := goodIn_r _ [10] (by decide +kernel) (by decide +kernel)
set_option maxRecDepth 20000 in
theorem gX5_figure_X5_in : GoodIn wsX5_figure (va_wsS RX5 96 yX5_in wsX5_in) := goodIn_app (goodIn_of _ (by decide +kernel)) ggX5_figure_X5_in
theorem dX5_figure_0 : decode cX5_figure 0 = .ok (.aload_n 0, 1) := by decide +kernel
theorem dX5_figure_1 : decode cX5_figure 1 = .ok (.iload_n 1, 1) := by decide +kernel
theorem dX5_figure_2 : decode cX5_figure 2 = .ok (.iload_n 2, 1) := by decide +kernel
theorem dX5_figure_3 : decode cX5_figure 3 = .ok (.invokevirtual 107, 3) := by decide +kernel
theorem dX5_figure_6 : decode cX5_figure 6 = .ok (.bipush 48, 2) := by decide +kernel
theorem dX5_figure_8 : decode cX5_figure 8 = .ok (.isub, 1) := by decide +kernel
theorem dX5_figure_9 : decode cX5_figure 9 = .ok (.istore 5, 2) := by decide +kernel
theorem dX5_figure_11 : decode cX5_figure 11 = .ok (.iload 5, 2) := by decide +kernel
theorem dX5_figure_13 : decode cX5_figure 13 = .ok (.i2l, 1) := by decide +kernel
theorem dX5_figure_14 : decode cX5_figure 14 = .ok (.iload_n 3, 1) := by decide +kernel
theorem dX5_figure_15 : decode cX5_figure 15 = .ok (.i2l, 1) := by decide +kernel
theorem dX5_figure_16 : decode cX5_figure 16 = .ok (.iload 4, 2) := by decide +kernel
theorem dX5_figure_18 : decode cX5_figure 18 = .ok (.i2l, 1) := by decide +kernel
theorem dX5_figure_19 : decode cX5_figure 19 = .ok (.invokestatic 96, 3) := by decide +kernel
theorem dX5_figure_22 : decode cX5_figure 22 = .ok (.istore 6, 2) := by decide +kernel
theorem dX5_figure_24 : decode cX5_figure 24 = .ok (.aload_n 0, 1) := by decide +kernel
theorem dX5_figure_25 : decode cX5_figure 25 = .ok (.dup, 1) := by decide +kernel
theorem dX5_figure_26 : decode cX5_figure 26 = .ok (.getfield 104, 3) := by decide +kernel
theorem dX5_figure_29 : decode cX5_figure 29 = .ok (.iload 6, 2) := by decide +kernel
theorem dX5_figure_31 : decode cX5_figure 31 = .ok (.ifCond .eq 7, 3) := by decide +kernel
theorem dX5_figure_34 : decode cX5_figure 34 = .ok (.iconst 1, 1) := by decide +kernel
theorem dX5_figure_35 : decode cX5_figure 35 = .ok (.goto 4, 3) := by decide +kernel
theorem dX5_figure_38 : decode cX5_figure 38 = .ok (.iconst 0, 1) := by decide +kernel
theorem dX5_figure_39 : decode cX5_figure 39 = .ok (.iadd, 1) := by decide +kernel
theorem dX5_figure_40 : decode cX5_figure 40 = .ok (.putfield 104, 3) := by decide +kernel
theorem dX5_figure_43 : decode cX5_figure 43 = .ok (.iload 6, 2) := by decide +kernel
theorem dX5_figure_45 : decode cX5_figure 45 = .ok (.ifCond .eq 8, 3) := by decide +kernel
theorem dX5_figure_48 : decode cX5_figure 48 = .ok (.iload 5, 2) := by decide +kernel
theorem dX5_figure_50 : decode cX5_figure 50 = .ok (.goto 5, 3) := by decide +kernel
theorem dX5_figure_53 : decode cX5_figure 53 = .ok (.bipush (-9), 2) := by decide +kernel
theorem dX5_figure_55 : decode cX5_figure 55 = .ok (.ireturn, 1) := by decide +kernel
set_option maxRecDepth 20000 in
theorem ggX5_readsPerson_X5_codeAt : GoodIn wsX5_readsPerson wsX5_codeAt := goodIn_r _ [9, 2, 10, 18, 19, 20, 21, 22, 23, 24, 25, 26, 27, 28, 29, 30, 31, 32, 33, 34, 35, 36, 37, 38, 39, 40, 41, 42, 43, 44, 45, 46, 47, 48, 49, 50, 51, 52] (by decide +kernel) (by decide +kernel)
set_option maxRecDepth 20000 in
theorem gX5_readsPerson_X5_codeAt : GoodIn wsX5_readsPerson (wsV RX5 107 RX5 yX5_codeAt wsX5_codeAt) := goodIn_app (goodIn_of _ (by decide +kernel)) ggX5_readsPerson_X5_codeAt
set_option maxRecDepth 20000 in
theorem ggX5_readsPerson_X5_figure : GoodIn wsX5_readsPerson wsX5_figure := goodIn_r _ [14, 2, 5, 6, 7, 8, 9, 10, 15, 16, 17, 18, 19, 20, 21, 22, 23, 24, 25, 26, 27, 28, 29, 30, 31, 32, 33, 34, 35, 36, 37, 38, 39, 40, 41, 42, 43, 44, 45, 46, 47, 48, 49, 50, 51, 52] (by decide +kernel) (by decide +kernel)
set_option maxRecDepth 20000 in
theorem gX5_readsPerson_X5_figure : GoodIn wsX5_readsPerson (wsV RX5 114 RX5 yX5_figure wsX5_figure) := goodIn_app (goodIn_of _ (by decide +kernel)) ggX5_readsPerson_X5_figure
theorem dX5_readsPerson_0 : decode cX5_readsPerson 0 = .ok (.aload_n 0, 1) := by decide +kernel
theorem dX5_readsPerson_1 : decode cX5_readsPerson 1 = .ok (.iload_n 1, 1) := by decide +kernel
theorem dX5_readsPerson_2 : decode cX5_readsPerson 2 = .ok (.iload_n 2, 1) := by decide +kernel
theorem dX5_readsPerson_3 : decode cX5_readsPerson 3 = .ok (.invokevirtual 107, 3) := by decide +kernel
theorem dX5_readsPerson_6 : decode cX5_readsPerson 6 = .ok (.istore_n 3, 1) := by decide +kernel
theorem dX5_readsPerson_7 : decode cX5_readsPerson 7 = .ok (.aload_n 0, 1) := by decide +kernel
theorem dX5_readsPerson_8 : decode cX5_readsPerson 8 = .ok (.getfield 111, 3) := by decide +kernel
theorem dX5_readsPerson_11 : decode cX5_readsPerson 11 = .ok (.bipush 6, 2) := by decide +kernel
theorem dX5_readsPerson_13 : decode cX5_readsPerson 13 = .ok (.if_icmp .eq 21, 3) := by decide +kernel
theorem dX5_readsPerson_16 : decode cX5_readsPerson 16 = .ok (.iload_n 3, 1) := by decide +kernel
theorem dX5_readsPerson_17 : decode cX5_readsPerson 17 = .ok (.bipush 116, 2) := by decide +kernel
theorem dX5_readsPerson_19 : decode cX5_readsPerson 19 = .ok (.if_icmp .eq 17, 3) := by decide +kernel
theorem dX5_readsPerson_22 : decode cX5_readsPerson 22 = .ok (.iload_n 3, 1) := by decide +kernel
theorem dX5_readsPerson_23 : decode cX5_readsPerson 23 = .ok (.bipush 106, 2) := by decide +kernel
theorem dX5_readsPerson_25 : decode cX5_readsPerson 25 = .ok (.if_icmp .eq 11, 3) := by decide +kernel
theorem dX5_readsPerson_28 : decode cX5_readsPerson 28 = .ok (.iload_n 3, 1) := by decide +kernel
theorem dX5_readsPerson_29 : decode cX5_readsPerson 29 = .ok (.bipush 108, 2) := by decide +kernel
theorem dX5_readsPerson_31 : decode cX5_readsPerson 31 = .ok (.if_icmp .eq 5, 3) := by decide +kernel
theorem dX5_readsPerson_34 : decode cX5_readsPerson 34 = .ok (.iconst 0, 1) := by decide +kernel
theorem dX5_readsPerson_35 : decode cX5_readsPerson 35 = .ok (.ireturn, 1) := by decide +kernel
theorem dX5_readsPerson_36 : decode cX5_readsPerson 36 = .ok (.aload_n 0, 1) := by decide +kernel
theorem dX5_readsPerson_37 : decode cX5_readsPerson 37 = .ok (.dup, 1) := by decide +kernel
theorem dX5_readsPerson_38 : decode cX5_readsPerson 38 = .ok (.getfield 104, 3) := by decide +kernel
theorem dX5_readsPerson_41 : decode cX5_readsPerson 41 = .ok (.iconst 1, 1) := by decide +kernel
theorem dX5_readsPerson_42 : decode cX5_readsPerson 42 = .ok (.iadd, 1) := by decide +kernel
theorem dX5_readsPerson_43 : decode cX5_readsPerson 43 = .ok (.putfield 104, 3) := by decide +kernel
theorem dX5_readsPerson_46 : decode cX5_readsPerson 46 = .ok (.aload_n 0, 1) := by decide +kernel
theorem dX5_readsPerson_47 : decode cX5_readsPerson 47 = .ok (.iload_n 1, 1) := by decide +kernel
theorem dX5_readsPerson_48 : decode cX5_readsPerson 48 = .ok (.iload_n 2, 1) := by decide +kernel
theorem dX5_readsPerson_49 : decode cX5_readsPerson 49 = .ok (.iconst 0, 1) := by decide +kernel
theorem dX5_readsPerson_50 : decode cX5_readsPerson 50 = .ok (.iconst 1, 1) := by decide +kernel
theorem dX5_readsPerson_51 : decode cX5_readsPerson 51 = .ok (.invokevirtual 114, 3) := by decide +kernel
theorem dX5_readsPerson_54 : decode cX5_readsPerson 54 = .ok (.istore 4, 2) := by decide +kernel
theorem dX5_readsPerson_56 : decode cX5_readsPerson 56 = .ok (.iload 4, 2) := by decide +kernel
theorem dX5_readsPerson_58 : decode cX5_readsPerson 58 = .ok (.ifCond .ge 5, 3) := by decide +kernel
theorem dX5_readsPerson_61 : decode cX5_readsPerson 61 = .ok (.iconst 0, 1) := by decide +kernel
theorem dX5_readsPerson_62 : decode cX5_readsPerson 62 = .ok (.ireturn, 1) := by decide +kernel
theorem dX5_readsPerson_63 : decode cX5_readsPerson 63 = .ok (.aload_n 0, 1) := by decide +kernel
theorem dX5_readsPerson_64 : decode cX5_readsPerson 64 = .ok (.getfield 29, 3) := by decide +kernel
theorem dX5_readsPerson_67 : decode cX5_readsPerson 67 = .ok (.aload_n 0, 1) := by decide +kernel
theorem dX5_readsPerson_68 : decode cX5_readsPerson 68 = .ok (.getfield 111, 3) := by decide +kernel
theorem dX5_readsPerson_71 : decode cX5_readsPerson 71 = .ok (.iload_n 3, 1) := by decide +kernel
theorem dX5_readsPerson_72 : decode cX5_readsPerson 72 = .ok (.bipush 116, 2) := by decide +kernel
theorem dX5_readsPerson_74 : decode cX5_readsPerson 74 = .ok (.if_icmp .ne 7, 3) := by decide +kernel
theorem dX5_readsPerson_77 : decode cX5_readsPerson 77 = .ok (.iconst 0, 1) := by decide +kernel
theorem dX5_readsPerson_78 : decode cX5_readsPerson 78 = .ok (.goto 14, 3) := by decide +kernel
theorem dX5_readsPerson_81 : decode cX5_readsPerson 81 = .ok (.iload_n 3, 1) := by decide +kernel
theorem dX5_readsPerson_82 : decode cX5_readsPerson 82 = .ok (.bipush 106, 2) := by decide +kernel
theorem dX5_readsPerson_84 : decode cX5_readsPerson 84 = .ok (.if_icmp .ne 7, 3) := by decide +kernel
theorem dX5_readsPerson_87 : decode cX5_readsPerson 87 = .ok (.iconst 1, 1) := by decide +kernel
theorem dX5_readsPerson_88 : decode cX5_readsPerson 88 = .ok (.goto 4, 3) := by decide +kernel
theorem dX5_readsPerson_91 : decode cX5_readsPerson 91 = .ok (.iconst 2, 1) := by decide +kernel
theorem dX5_readsPerson_92 : decode cX5_readsPerson 92 = .ok (.iastore, 1) := by decide +kernel
theorem dX5_readsPerson_93 : decode cX5_readsPerson 93 = .ok (.aload_n 0, 1) := by decide +kernel
theorem dX5_readsPerson_94 : decode cX5_readsPerson 94 = .ok (.getfield 32, 3) := by decide +kernel
theorem dX5_readsPerson_97 : decode cX5_readsPerson 97 = .ok (.aload_n 0, 1) := by decide +kernel
theorem dX5_readsPerson_98 : decode cX5_readsPerson 98 = .ok (.getfield 111, 3) := by decide +kernel
theorem dX5_readsPerson_101 : decode cX5_readsPerson 101 = .ok (.iload 4, 2) := by decide +kernel
theorem dX5_readsPerson_103 : decode cX5_readsPerson 103 = .ok (.iconst 1, 1) := by decide +kernel
theorem dX5_readsPerson_104 : decode cX5_readsPerson 104 = .ok (.if_icmp .ne 7, 3) := by decide +kernel
theorem dX5_readsPerson_107 : decode cX5_readsPerson 107 = .ok (.iconst 1, 1) := by decide +kernel
theorem dX5_readsPerson_108 : decode cX5_readsPerson 108 = .ok (.goto 4, 3) := by decide +kernel
theorem dX5_readsPerson_111 : decode cX5_readsPerson 111 = .ok (.iconst 0, 1) := by decide +kernel
theorem dX5_readsPerson_112 : decode cX5_readsPerson 112 = .ok (.bastore, 1) := by decide +kernel
theorem dX5_readsPerson_113 : decode cX5_readsPerson 113 = .ok (.aload_n 0, 1) := by decide +kernel
theorem dX5_readsPerson_114 : decode cX5_readsPerson 114 = .ok (.dup, 1) := by decide +kernel
theorem dX5_readsPerson_115 : decode cX5_readsPerson 115 = .ok (.getfield 111, 3) := by decide +kernel
theorem dX5_readsPerson_118 : decode cX5_readsPerson 118 = .ok (.iconst 1, 1) := by decide +kernel
theorem dX5_readsPerson_119 : decode cX5_readsPerson 119 = .ok (.iadd, 1) := by decide +kernel
theorem dX5_readsPerson_120 : decode cX5_readsPerson 120 = .ok (.putfield 111, 3) := by decide +kernel
theorem dX5_readsPerson_123 : decode cX5_readsPerson 123 = .ok (.iconst 1, 1) := by decide +kernel
theorem dX5_readsPerson_124 : decode cX5_readsPerson 124 = .ok (.ireturn, 1) := by decide +kernel
set_option maxRecDepth 20000 in
theorem ggX5_readsWay_X5_codeAt : GoodIn wsX5_readsWay wsX5_codeAt := goodIn_r _ [11, 2, 12, 20, 21, 22, 23, 24, 25, 26, 27, 28, 29, 30, 31, 32, 33, 34, 35, 36, 37, 38, 39, 40, 41, 42, 43, 44, 45, 46, 47, 48, 49, 50, 51, 52, 53, 54] (by decide +kernel) (by decide +kernel)
set_option maxRecDepth 20000 in
theorem gX5_readsWay_X5_codeAt : GoodIn wsX5_readsWay (wsV RX5 107 RX5 yX5_codeAt wsX5_codeAt) := goodIn_app (goodIn_of _ (by decide +kernel)) ggX5_readsWay_X5_codeAt
set_option maxRecDepth 20000 in
theorem ggX5_readsWay_X5_figure : GoodIn wsX5_readsWay wsX5_figure := goodIn_r _ [16, 2, 7, 8, 9, 10, 11, 12, 17, 18, 19, 20, 21, 22, 23, 24, 25, 26, 27, 28, 29, 30, 31, 32, 33, 34, 35, 36, 37, 38, 39, 40, 41, 42, 43, 44, 45, 46, 47, 48, 49, 50, 51, 52, 53, 54] (by decide +kernel) (by decide +kernel)
set_option maxRecDepth 20000 in
theorem gX5_readsWay_X5_figure : GoodIn wsX5_readsWay (wsV RX5 114 RX5 yX5_figure wsX5_figure) := goodIn_app (goodIn_of _ (by decide +kernel)) ggX5_readsWay_X5_figure
theorem dX5_readsWay_0 : decode cX5_readsWay 0 = .ok (.aload_n 0, 1) := by decide +kernel
theorem dX5_readsWay_1 : decode cX5_readsWay 1 = .ok (.getfield 118, 3) := by decide +kernel
theorem dX5_readsWay_4 : decode cX5_readsWay 4 = .ok (.bipush 9, 2) := by decide +kernel
theorem dX5_readsWay_6 : decode cX5_readsWay 6 = .ok (.if_icmp .eq 14, 3) := by decide +kernel
theorem dX5_readsWay_9 : decode cX5_readsWay 9 = .ok (.aload_n 0, 1) := by decide +kernel
theorem dX5_readsWay_10 : decode cX5_readsWay 10 = .ok (.iload_n 1, 1) := by decide +kernel
theorem dX5_readsWay_11 : decode cX5_readsWay 11 = .ok (.iload_n 2, 1) := by decide +kernel
theorem dX5_readsWay_12 : decode cX5_readsWay 12 = .ok (.invokevirtual 107, 3) := by decide +kernel
theorem dX5_readsWay_15 : decode cX5_readsWay 15 = .ok (.bipush 59, 2) := by decide +kernel
theorem dX5_readsWay_17 : decode cX5_readsWay 17 = .ok (.if_icmp .eq 5, 3) := by decide +kernel
theorem dX5_readsWay_20 : decode cX5_readsWay 20 = .ok (.iconst 0, 1) := by decide +kernel
theorem dX5_readsWay_21 : decode cX5_readsWay 21 = .ok (.ireturn, 1) := by decide +kernel
theorem dX5_readsWay_22 : decode cX5_readsWay 22 = .ok (.aload_n 0, 1) := by decide +kernel
theorem dX5_readsWay_23 : decode cX5_readsWay 23 = .ok (.dup, 1) := by decide +kernel
theorem dX5_readsWay_24 : decode cX5_readsWay 24 = .ok (.getfield 104, 3) := by decide +kernel
theorem dX5_readsWay_27 : decode cX5_readsWay 27 = .ok (.iconst 1, 1) := by decide +kernel
theorem dX5_readsWay_28 : decode cX5_readsWay 28 = .ok (.iadd, 1) := by decide +kernel
theorem dX5_readsWay_29 : decode cX5_readsWay 29 = .ok (.putfield 104, 3) := by decide +kernel
theorem dX5_readsWay_32 : decode cX5_readsWay 32 = .ok (.aload_n 0, 1) := by decide +kernel
theorem dX5_readsWay_33 : decode cX5_readsWay 33 = .ok (.iload_n 1, 1) := by decide +kernel
theorem dX5_readsWay_34 : decode cX5_readsWay 34 = .ok (.iload_n 2, 1) := by decide +kernel
theorem dX5_readsWay_35 : decode cX5_readsWay 35 = .ok (.iconst 0, 1) := by decide +kernel
theorem dX5_readsWay_36 : decode cX5_readsWay 36 = .ok (.aload_n 0, 1) := by decide +kernel
theorem dX5_readsWay_37 : decode cX5_readsWay 37 = .ok (.getfield 111, 3) := by decide +kernel
theorem dX5_readsWay_40 : decode cX5_readsWay 40 = .ok (.iconst 1, 1) := by decide +kernel
theorem dX5_readsWay_41 : decode cX5_readsWay 41 = .ok (.isub, 1) := by decide +kernel
theorem dX5_readsWay_42 : decode cX5_readsWay 42 = .ok (.invokevirtual 114, 3) := by decide +kernel
theorem dX5_readsWay_45 : decode cX5_readsWay 45 = .ok (.istore_n 3, 1) := by decide +kernel
theorem dX5_readsWay_46 : decode cX5_readsWay 46 = .ok (.iload_n 3, 1) := by decide +kernel
theorem dX5_readsWay_47 : decode cX5_readsWay 47 = .ok (.ifCond .ge 8, 3) := by decide +kernel
theorem dX5_readsWay_50 : decode cX5_readsWay 50 = .ok (.bipush (-9), 2) := by decide +kernel
theorem dX5_readsWay_52 : decode cX5_readsWay 52 = .ok (.goto 16, 3) := by decide +kernel
theorem dX5_readsWay_55 : decode cX5_readsWay 55 = .ok (.aload_n 0, 1) := by decide +kernel
theorem dX5_readsWay_56 : decode cX5_readsWay 56 = .ok (.iload_n 1, 1) := by decide +kernel
theorem dX5_readsWay_57 : decode cX5_readsWay 57 = .ok (.iload_n 2, 1) := by decide +kernel
theorem dX5_readsWay_58 : decode cX5_readsWay 58 = .ok (.iconst 0, 1) := by decide +kernel
theorem dX5_readsWay_59 : decode cX5_readsWay 59 = .ok (.aload_n 0, 1) := by decide +kernel
theorem dX5_readsWay_60 : decode cX5_readsWay 60 = .ok (.getfield 111, 3) := by decide +kernel
theorem dX5_readsWay_63 : decode cX5_readsWay 63 = .ok (.iconst 1, 1) := by decide +kernel
theorem dX5_readsWay_64 : decode cX5_readsWay 64 = .ok (.isub, 1) := by decide +kernel
theorem dX5_readsWay_65 : decode cX5_readsWay 65 = .ok (.invokevirtual 114, 3) := by decide +kernel
theorem dX5_readsWay_68 : decode cX5_readsWay 68 = .ok (.istore 4, 2) := by decide +kernel
theorem dX5_readsWay_70 : decode cX5_readsWay 70 = .ok (.iload 4, 2) := by decide +kernel
theorem dX5_readsWay_72 : decode cX5_readsWay 72 = .ok (.ifCond .ge 8, 3) := by decide +kernel
theorem dX5_readsWay_75 : decode cX5_readsWay 75 = .ok (.bipush (-9), 2) := by decide +kernel
theorem dX5_readsWay_77 : decode cX5_readsWay 77 = .ok (.goto 12, 3) := by decide +kernel
theorem dX5_readsWay_80 : decode cX5_readsWay 80 = .ok (.aload_n 0, 1) := by decide +kernel
theorem dX5_readsWay_81 : decode cX5_readsWay 81 = .ok (.iload_n 1, 1) := by decide +kernel
theorem dX5_readsWay_82 : decode cX5_readsWay 82 = .ok (.iload_n 2, 1) := by decide +kernel
theorem dX5_readsWay_83 : decode cX5_readsWay 83 = .ok (.iconst 1, 1) := by decide +kernel
theorem dX5_readsWay_84 : decode cX5_readsWay 84 = .ok (.bipush 9, 2) := by decide +kernel
theorem dX5_readsWay_86 : decode cX5_readsWay 86 = .ok (.invokevirtual 114, 3) := by decide +kernel
theorem dX5_readsWay_89 : decode cX5_readsWay 89 = .ok (.istore 5, 2) := by decide +kernel
theorem dX5_readsWay_91 : decode cX5_readsWay 91 = .ok (.iload 5, 2) := by decide +kernel
theorem dX5_readsWay_93 : decode cX5_readsWay 93 = .ok (.ifCond .ge 5, 3) := by decide +kernel
theorem dX5_readsWay_96 : decode cX5_readsWay 96 = .ok (.iconst 0, 1) := by decide +kernel
theorem dX5_readsWay_97 : decode cX5_readsWay 97 = .ok (.ireturn, 1) := by decide +kernel
theorem dX5_readsWay_98 : decode cX5_readsWay 98 = .ok (.aload_n 0, 1) := by decide +kernel
theorem dX5_readsWay_99 : decode cX5_readsWay 99 = .ok (.getfield 35, 3) := by decide +kernel
theorem dX5_readsWay_102 : decode cX5_readsWay 102 = .ok (.aload_n 0, 1) := by decide +kernel
theorem dX5_readsWay_103 : decode cX5_readsWay 103 = .ok (.getfield 118, 3) := by decide +kernel
theorem dX5_readsWay_106 : decode cX5_readsWay 106 = .ok (.iload_n 3, 1) := by decide +kernel
theorem dX5_readsWay_107 : decode cX5_readsWay 107 = .ok (.iastore, 1) := by decide +kernel
theorem dX5_readsWay_108 : decode cX5_readsWay 108 = .ok (.aload_n 0, 1) := by decide +kernel
theorem dX5_readsWay_109 : decode cX5_readsWay 109 = .ok (.getfield 38, 3) := by decide +kernel
theorem dX5_readsWay_112 : decode cX5_readsWay 112 = .ok (.aload_n 0, 1) := by decide +kernel
theorem dX5_readsWay_113 : decode cX5_readsWay 113 = .ok (.getfield 118, 3) := by decide +kernel
theorem dX5_readsWay_116 : decode cX5_readsWay 116 = .ok (.iload 4, 2) := by decide +kernel
theorem dX5_readsWay_118 : decode cX5_readsWay 118 = .ok (.iastore, 1) := by decide +kernel
theorem dX5_readsWay_119 : decode cX5_readsWay 119 = .ok (.aload_n 0, 1) := by decide +kernel
theorem dX5_readsWay_120 : decode cX5_readsWay 120 = .ok (.getfield 41, 3) := by decide +kernel
theorem dX5_readsWay_123 : decode cX5_readsWay 123 = .ok (.aload_n 0, 1) := by decide +kernel
theorem dX5_readsWay_124 : decode cX5_readsWay 124 = .ok (.getfield 118, 3) := by decide +kernel
theorem dX5_readsWay_127 : decode cX5_readsWay 127 = .ok (.iload 5, 2) := by decide +kernel
theorem dX5_readsWay_129 : decode cX5_readsWay 129 = .ok (.iastore, 1) := by decide +kernel
theorem dX5_readsWay_130 : decode cX5_readsWay 130 = .ok (.aload_n 0, 1) := by decide +kernel
theorem dX5_readsWay_131 : decode cX5_readsWay 131 = .ok (.dup, 1) := by decide +kernel
theorem dX5_readsWay_132 : decode cX5_readsWay 132 = .ok (.getfield 118, 3) := by decide +kernel
theorem dX5_readsWay_135 : decode cX5_readsWay 135 = .ok (.iconst 1, 1) := by decide +kernel
theorem dX5_readsWay_136 : decode cX5_readsWay 136 = .ok (.iadd, 1) := by decide +kernel
theorem dX5_readsWay_137 : decode cX5_readsWay 137 = .ok (.putfield 118, 3) := by decide +kernel
theorem dX5_readsWay_140 : decode cX5_readsWay 140 = .ok (.iconst 1, 1) := by decide +kernel
theorem dX5_readsWay_141 : decode cX5_readsWay 141 = .ok (.ireturn, 1) := by decide +kernel
set_option maxRecDepth 20000 in
theorem ggX5_readsPass_X5_codeAt : GoodIn wsX5_readsPass wsX5_codeAt := goodIn_r _ [8, 1, 9, 30, 31, 32, 33, 34, 35, 36, 37, 38, 39, 40, 41, 42, 43, 44, 45, 46, 47, 48, 49, 50, 51, 52, 53, 54, 55, 56, 57, 58, 59, 60, 61, 62, 63, 64] (by decide +kernel) (by decide +kernel)
set_option maxRecDepth 20000 in
theorem gX5_readsPass_X5_codeAt : GoodIn wsX5_readsPass (wsV RX5 107 RX5 yX5_codeAt wsX5_codeAt) := goodIn_app (goodIn_of _ (by decide +kernel)) ggX5_readsPass_X5_codeAt
set_option maxRecDepth 20000 in
theorem ggX5_readsPass_X5_readsPerson : GoodIn wsX5_readsPass wsX5_readsPerson := goodIn_r _ [13, 2, 1, 14, 15, 4, 5, 6, 7, 8, 9, 16, 17, 18, 19, 20, 21, 22, 30, 31, 32, 33, 34, 35, 36, 37, 38, 39, 40, 41, 42, 43, 44, 45, 46, 47, 48, 49, 50, 51, 52, 53, 54, 55, 56, 57, 58, 59, 60, 61, 62, 63, 64] (by decide +kernel) (by decide +kernel)
set_option maxRecDepth 20000 in
theorem gX5_readsPass_X5_readsPerson : GoodIn wsX5_readsPass (wsV RX5 121 RX5 yX5_readsPerson wsX5_readsPerson) := goodIn_app (goodIn_of _ (by decide +kernel)) ggX5_readsPass_X5_readsPerson
set_option maxRecDepth 20000 in
theorem ggX5_readsPass_X5_readsWay : GoodIn wsX5_readsPass wsX5_readsWay := goodIn_r _ [26, 3, 1, 2, 27, 28, 29, 4, 5, 6, 7, 8, 9, 16, 17, 18, 19, 20, 21, 22, 30, 31, 32, 33, 34, 35, 36, 37, 38, 39, 40, 41, 42, 43, 44, 45, 46, 47, 48, 49, 50, 51, 52, 53, 54, 55, 56, 57, 58, 59, 60, 61, 62, 63, 64] (by decide +kernel) (by decide +kernel)
set_option maxRecDepth 20000 in
theorem gX5_readsPass_X5_readsWay : GoodIn wsX5_readsPass (wsV RX5 125 RX5 yX5_readsWay wsX5_readsWay) := goodIn_app (goodIn_of _ (by decide +kernel)) ggX5_readsPass_X5_readsWay
theorem dX5_readsPass_0 : decode cX5_readsPass 0 = .ok (.aload_n 0, 1) := by decide +kernel
theorem dX5_readsPass_1 : decode cX5_readsPass 1 = .ok (.iconst 0, 1) := by decide +kernel
theorem dX5_readsPass_2 : decode cX5_readsPass 2 = .ok (.putfield 104, 3) := by decide +kernel
theorem dX5_readsPass_5 : decode cX5_readsPass 5 = .ok (.aload_n 0, 1) := by decide +kernel
theorem dX5_readsPass_6 : decode cX5_readsPass 6 = .ok (.iconst 0, 1) := by decide +kernel
theorem dX5_readsPass_7 : decode cX5_readsPass 7 = .ok (.putfield 111, 3) := by decide +kernel
theorem dX5_readsPass_10 : decode cX5_readsPass 10 = .ok (.aload_n 0, 1) := by decide +kernel
theorem dX5_readsPass_11 : decode cX5_readsPass 11 = .ok (.iconst 0, 1) := by decide +kernel
theorem dX5_readsPass_12 : decode cX5_readsPass 12 = .ok (.putfield 118, 3) := by decide +kernel
theorem dX5_readsPass_15 : decode cX5_readsPass 15 = .ok (.aload_n 0, 1) := by decide +kernel
theorem dX5_readsPass_16 : decode cX5_readsPass 16 = .ok (.iload_n 1, 1) := by decide +kernel
theorem dX5_readsPass_17 : decode cX5_readsPass 17 = .ok (.iload_n 2, 1) := by decide +kernel
theorem dX5_readsPass_18 : decode cX5_readsPass 18 = .ok (.invokevirtual 107, 3) := by decide +kernel
theorem dX5_readsPass_21 : decode cX5_readsPass 21 = .ok (.bipush 105, 2) := by decide +kernel
theorem dX5_readsPass_23 : decode cX5_readsPass 23 = .ok (.if_icmp .ne 7, 3) := by decide +kernel
theorem dX5_readsPass_26 : decode cX5_readsPass 26 = .ok (.iconst 1, 1) := by decide +kernel
theorem dX5_readsPass_27 : decode cX5_readsPass 27 = .ok (.goto 4, 3) := by decide +kernel
theorem dX5_readsPass_30 : decode cX5_readsPass 30 = .ok (.iconst 0, 1) := by decide +kernel
theorem dX5_readsPass_31 : decode cX5_readsPass 31 = .ok (.istore_n 3, 1) := by decide +kernel
theorem dX5_readsPass_32 : decode cX5_readsPass 32 = .ok (.aload_n 0, 1) := by decide +kernel
theorem dX5_readsPass_33 : decode cX5_readsPass 33 = .ok (.dup, 1) := by decide +kernel
theorem dX5_readsPass_34 : decode cX5_readsPass 34 = .ok (.getfield 104, 3) := by decide +kernel
theorem dX5_readsPass_37 : decode cX5_readsPass 37 = .ok (.iload_n 3, 1) := by decide +kernel
theorem dX5_readsPass_38 : decode cX5_readsPass 38 = .ok (.ifCond .eq 7, 3) := by decide +kernel
theorem dX5_readsPass_41 : decode cX5_readsPass 41 = .ok (.iconst 1, 1) := by decide +kernel
theorem dX5_readsPass_42 : decode cX5_readsPass 42 = .ok (.goto 4, 3) := by decide +kernel
theorem dX5_readsPass_45 : decode cX5_readsPass 45 = .ok (.iconst 0, 1) := by decide +kernel
theorem dX5_readsPass_46 : decode cX5_readsPass 46 = .ok (.iadd, 1) := by decide +kernel
theorem dX5_readsPass_47 : decode cX5_readsPass 47 = .ok (.putfield 104, 3) := by decide +kernel
theorem dX5_readsPass_50 : decode cX5_readsPass 50 = .ok (.iload_n 3, 1) := by decide +kernel
theorem dX5_readsPass_51 : decode cX5_readsPass 51 = .ok (.ifCond .eq 40, 3) := by decide +kernel
theorem dX5_readsPass_54 : decode cX5_readsPass 54 = .ok (.aload_n 0, 1) := by decide +kernel
theorem dX5_readsPass_55 : decode cX5_readsPass 55 = .ok (.getfield 111, 3) := by decide +kernel
theorem dX5_readsPass_58 : decode cX5_readsPass 58 = .ok (.iconst 2, 1) := by decide +kernel
theorem dX5_readsPass_59 : decode cX5_readsPass 59 = .ok (.if_icmp .lt 22, 3) := by decide +kernel
theorem dX5_readsPass_62 : decode cX5_readsPass 62 = .ok (.aload_n 0, 1) := by decide +kernel
theorem dX5_readsPass_63 : decode cX5_readsPass 63 = .ok (.getfield 104, 3) := by decide +kernel
theorem dX5_readsPass_66 : decode cX5_readsPass 66 = .ok (.iload_n 2, 1) := by decide +kernel
theorem dX5_readsPass_67 : decode cX5_readsPass 67 = .ok (.if_icmp .ge 24, 3) := by decide +kernel
theorem dX5_readsPass_70 : decode cX5_readsPass 70 = .ok (.aload_n 0, 1) := by decide +kernel
theorem dX5_readsPass_71 : decode cX5_readsPass 71 = .ok (.iload_n 1, 1) := by decide +kernel
theorem dX5_readsPass_72 : decode cX5_readsPass 72 = .ok (.iload_n 2, 1) := by decide +kernel
theorem dX5_readsPass_73 : decode cX5_readsPass 73 = .ok (.invokevirtual 107, 3) := by decide +kernel
theorem dX5_readsPass_76 : decode cX5_readsPass 76 = .ok (.bipush 59, 2) := by decide +kernel
theorem dX5_readsPass_78 : decode cX5_readsPass 78 = .ok (.if_icmp .eq 13, 3) := by decide +kernel
theorem dX5_readsPass_81 : decode cX5_readsPass 81 = .ok (.aload_n 0, 1) := by decide +kernel
theorem dX5_readsPass_82 : decode cX5_readsPass 82 = .ok (.iload_n 1, 1) := by decide +kernel
theorem dX5_readsPass_83 : decode cX5_readsPass 83 = .ok (.iload_n 2, 1) := by decide +kernel
theorem dX5_readsPass_84 : decode cX5_readsPass 84 = .ok (.invokevirtual 121, 3) := by decide +kernel
theorem dX5_readsPass_87 : decode cX5_readsPass 87 = .ok (.istore_n 3, 1) := by decide +kernel
theorem dX5_readsPass_88 : decode cX5_readsPass 88 = .ok (.goto (-38), 3) := by decide +kernel
theorem dX5_readsPass_91 : decode cX5_readsPass 91 = .ok (.iload_n 3, 1) := by decide +kernel
theorem dX5_readsPass_92 : decode cX5_readsPass 92 = .ok (.ifCond .eq 21, 3) := by decide +kernel
theorem dX5_readsPass_95 : decode cX5_readsPass 95 = .ok (.aload_n 0, 1) := by decide +kernel
theorem dX5_readsPass_96 : decode cX5_readsPass 96 = .ok (.getfield 104, 3) := by decide +kernel
theorem dX5_readsPass_99 : decode cX5_readsPass 99 = .ok (.iload_n 2, 1) := by decide +kernel
theorem dX5_readsPass_100 : decode cX5_readsPass 100 = .ok (.if_icmp .ge 13, 3) := by decide +kernel
theorem dX5_readsPass_103 : decode cX5_readsPass 103 = .ok (.aload_n 0, 1) := by decide +kernel
theorem dX5_readsPass_104 : decode cX5_readsPass 104 = .ok (.iload_n 1, 1) := by decide +kernel
theorem dX5_readsPass_105 : decode cX5_readsPass 105 = .ok (.iload_n 2, 1) := by decide +kernel
theorem dX5_readsPass_106 : decode cX5_readsPass 106 = .ok (.invokevirtual 125, 3) := by decide +kernel
theorem dX5_readsPass_109 : decode cX5_readsPass 109 = .ok (.istore_n 3, 1) := by decide +kernel
theorem dX5_readsPass_110 : decode cX5_readsPass 110 = .ok (.goto (-19), 3) := by decide +kernel
theorem dX5_readsPass_113 : decode cX5_readsPass 113 = .ok (.iload_n 3, 1) := by decide +kernel
theorem dX5_readsPass_114 : decode cX5_readsPass 114 = .ok (.ireturn, 1) := by decide +kernel
set_option maxRecDepth 20000 in
theorem ggX5_cellsBarred_X5_failed : GoodIn wsX5_cellsBarred wsX5_failed := goodIn_r _ [7, 8, 12, 13, 14, 15, 16, 17, 18, 19, 20, 21, 22, 23, 24, 25, 26, 27, 28, 29, 30, 31, 32, 33, 34, 35, 36, 37, 38, 39, 40, 41, 42, 43, 44, 45, 46] (by decide +kernel) (by decide +kernel)
set_option maxRecDepth 20000 in
theorem gX5_cellsBarred_X5_failed : GoodIn wsX5_cellsBarred (wsV RX5 128 RX5 yX5_failed wsX5_failed) := goodIn_app (goodIn_of _ (by decide +kernel)) ggX5_cellsBarred_X5_failed
set_option maxRecDepth 20000 in
theorem ggX5_cellsBarred_X5_isBeyond : GoodIn wsX5_cellsBarred wsX5_isBeyond := goodIn_r _ [11] (by decide +kernel) (by decide +kernel)
set_option maxRecDepth 20000 in
theorem gX5_cellsBarred_X5_isBeyond : GoodIn wsX5_cellsBarred (va_wsS RX5 132 yX5_isBeyond wsX5_isBeyond) := goodIn_app (goodIn_of _ (by decide +kernel)) ggX5_cellsBarred_X5_isBeyond
theorem dX5_cellsBarred_0 : decode cX5_cellsBarred 0 = .ok (.aload_n 0, 1) := by decide +kernel
theorem dX5_cellsBarred_1 : decode cX5_cellsBarred 1 = .ok (.getfield 71, 3) := by decide +kernel
theorem dX5_cellsBarred_4 : decode cX5_cellsBarred 4 = .ok (.iload_n 1, 1) := by decide +kernel
theorem dX5_cellsBarred_5 : decode cX5_cellsBarred 5 = .ok (.iaload, 1) := by decide +kernel
theorem dX5_cellsBarred_6 : decode cX5_cellsBarred 6 = .ok (.ifCond .lt 19, 3) := by decide +kernel
theorem dX5_cellsBarred_9 : decode cX5_cellsBarred 9 = .ok (.aload_n 0, 1) := by decide +kernel
theorem dX5_cellsBarred_10 : decode cX5_cellsBarred 10 = .ok (.getfield 74, 3) := by decide +kernel
theorem dX5_cellsBarred_13 : decode cX5_cellsBarred 13 = .ok (.iload_n 1, 1) := by decide +kernel
theorem dX5_cellsBarred_14 : decode cX5_cellsBarred 14 = .ok (.iaload, 1) := by decide +kernel
theorem dX5_cellsBarred_15 : decode cX5_cellsBarred 15 = .ok (.iload_n 2, 1) := by decide +kernel
theorem dX5_cellsBarred_16 : decode cX5_cellsBarred 16 = .ok (.if_icmp .eq 9, 3) := by decide +kernel
theorem dX5_cellsBarred_19 : decode cX5_cellsBarred 19 = .ok (.aload_n 0, 1) := by decide +kernel
theorem dX5_cellsBarred_20 : decode cX5_cellsBarred 20 = .ok (.iconst 2, 1) := by decide +kernel
theorem dX5_cellsBarred_21 : decode cX5_cellsBarred 21 = .ok (.invokevirtual 128, 3) := by decide +kernel
theorem dX5_cellsBarred_24 : decode cX5_cellsBarred 24 = .ok (.ireturn, 1) := by decide +kernel
theorem dX5_cellsBarred_25 : decode cX5_cellsBarred 25 = .ok (.aload_n 0, 1) := by decide +kernel
theorem dX5_cellsBarred_26 : decode cX5_cellsBarred 26 = .ok (.getfield 71, 3) := by decide +kernel
theorem dX5_cellsBarred_29 : decode cX5_cellsBarred 29 = .ok (.iload_n 1, 1) := by decide +kernel
theorem dX5_cellsBarred_30 : decode cX5_cellsBarred 30 = .ok (.iaload, 1) := by decide +kernel
theorem dX5_cellsBarred_31 : decode cX5_cellsBarred 31 = .ok (.ifCond .ge 9, 3) := by decide +kernel
theorem dX5_cellsBarred_34 : decode cX5_cellsBarred 34 = .ok (.aload_n 0, 1) := by decide +kernel
theorem dX5_cellsBarred_35 : decode cX5_cellsBarred 35 = .ok (.iconst 1, 1) := by decide +kernel
theorem dX5_cellsBarred_36 : decode cX5_cellsBarred 36 = .ok (.invokevirtual 128, 3) := by decide +kernel
theorem dX5_cellsBarred_39 : decode cX5_cellsBarred 39 = .ok (.ireturn, 1) := by decide +kernel
theorem dX5_cellsBarred_40 : decode cX5_cellsBarred 40 = .ok (.lload 4, 2) := by decide +kernel
theorem dX5_cellsBarred_42 : decode cX5_cellsBarred 42 = .ok (.lconst 0, 1) := by decide +kernel
theorem dX5_cellsBarred_43 : decode cX5_cellsBarred 43 = .ok (.lcmp, 1) := by decide +kernel
theorem dX5_cellsBarred_44 : decode cX5_cellsBarred 44 = .ok (.ifCond .ge 9, 3) := by decide +kernel
theorem dX5_cellsBarred_47 : decode cX5_cellsBarred 47 = .ok (.aload_n 0, 1) := by decide +kernel
theorem dX5_cellsBarred_48 : decode cX5_cellsBarred 48 = .ok (.iconst 4, 1) := by decide +kernel
theorem dX5_cellsBarred_49 : decode cX5_cellsBarred 49 = .ok (.invokevirtual 128, 3) := by decide +kernel
theorem dX5_cellsBarred_52 : decode cX5_cellsBarred 52 = .ok (.ireturn, 1) := by decide +kernel
theorem dX5_cellsBarred_53 : decode cX5_cellsBarred 53 = .ok (.iload_n 3, 1) := by decide +kernel
theorem dX5_cellsBarred_54 : decode cX5_cellsBarred 54 = .ok (.lload 4, 2) := by decide +kernel
theorem dX5_cellsBarred_56 : decode cX5_cellsBarred 56 = .ok (.aload_n 0, 1) := by decide +kernel
theorem dX5_cellsBarred_57 : decode cX5_cellsBarred 57 = .ok (.getfield 71, 3) := by decide +kernel
theorem dX5_cellsBarred_60 : decode cX5_cellsBarred 60 = .ok (.iload_n 1, 1) := by decide +kernel
theorem dX5_cellsBarred_61 : decode cX5_cellsBarred 61 = .ok (.iaload, 1) := by decide +kernel
theorem dX5_cellsBarred_62 : decode cX5_cellsBarred 62 = .ok (.invokestatic 132, 3) := by decide +kernel
theorem dX5_cellsBarred_65 : decode cX5_cellsBarred 65 = .ok (.ifCond .eq 11, 3) := by decide +kernel
theorem dX5_cellsBarred_68 : decode cX5_cellsBarred 68 = .ok (.aload_n 0, 1) := by decide +kernel
theorem dX5_cellsBarred_69 : decode cX5_cellsBarred 69 = .ok (.iconst 3, 1) := by decide +kernel
theorem dX5_cellsBarred_70 : decode cX5_cellsBarred 70 = .ok (.invokevirtual 128, 3) := by decide +kernel
theorem dX5_cellsBarred_73 : decode cX5_cellsBarred 73 = .ok (.goto 4, 3) := by decide +kernel
theorem dX5_cellsBarred_76 : decode cX5_cellsBarred 76 = .ok (.iconst 0, 1) := by decide +kernel
theorem dX5_cellsBarred_77 : decode cX5_cellsBarred 77 = .ok (.ireturn, 1) := by decide +kernel
set_option maxRecDepth 20000 in
theorem ggX5_pass_X5_noSheet : GoodIn wsX5_pass wsX5_noSheet := goodIn_r _ [25, 26, 27, 28, 24, 29] (by decide +kernel) (by decide +kernel)
set_option maxRecDepth 20000 in
theorem gX5_pass_X5_noSheet : GoodIn wsX5_pass (va_wsS RX5 136 yX5_noSheet wsX5_noSheet) := goodIn_app (goodIn_of _ (by decide +kernel)) ggX5_pass_X5_noSheet
set_option maxRecDepth 20000 in
theorem ggX5_pass_X5_refused : GoodIn wsX5_pass wsX5_refused := goodIn_r _ [33, 34, 69, 70, 71, 72, 73, 74, 75, 76, 77, 78, 79, 80, 81, 82, 83, 84, 85, 86, 87, 88, 89, 90, 91, 92, 93, 94, 95, 96, 97, 98, 99, 100, 101, 102, 103] (by decide +kernel) (by decide +kernel)
set_option maxRecDepth 20000 in
theorem gX5_pass_X5_refused : GoodIn wsX5_pass (wsV RX5 140 RX5 yX5_refused wsX5_refused) := goodIn_app (goodIn_of _ (by decide +kernel)) ggX5_pass_X5_refused
set_option maxRecDepth 20000 in
theorem ggX5_pass_X5_in : GoodIn wsX5_pass wsX5_in := goodIn_r _ [29] (by decide +kernel) (by decide +kernel)
set_option maxRecDepth 20000 in
theorem gX5_pass_X5_in : GoodIn wsX5_pass (va_wsS RX5 96 yX5_in wsX5_in) := goodIn_app (goodIn_of _ (by decide +kernel)) ggX5_pass_X5_in
set_option maxRecDepth 20000 in
theorem ggX5_pass_X5_cellsBarred : GoodIn wsX5_pass wsX5_cellsBarred := goodIn_r _ [38, 39, 40, 41, 42, 43, 24, 44, 34, 45, 46, 47, 69, 70, 71, 72, 73, 74, 75, 76, 77, 78, 79, 80, 81, 82, 83, 84, 85, 86, 87, 88, 89, 90, 91, 92, 93, 94, 95, 96, 97, 98, 99, 100, 101, 102, 103] (by decide +kernel) (by decide +kernel)
set_option maxRecDepth 20000 in
theorem gX5_pass_X5_cellsBarred : GoodIn wsX5_pass (wsV RX5 145 RX5 yX5_cellsBarred wsX5_cellsBarred) := goodIn_app (goodIn_of _ (by decide +kernel)) ggX5_pass_X5_cellsBarred
set_option maxRecDepth 20000 in
theorem ggX5_pass_X5_readsPass : GoodIn wsX5_pass wsX5_readsPass := goodIn_r _ [51, 2, 3, 5, 52, 53, 54, 24, 55, 56, 57, 58, 59, 60, 8, 10, 61, 62, 63, 64, 27, 28, 29, 65, 66, 67, 68, 12, 14, 16, 69, 70, 71, 72, 73, 74, 75, 76, 77, 78, 79, 80, 81, 82, 83, 84, 85, 86, 87, 88, 89, 90, 91, 92, 93, 94, 95, 96, 97, 98, 99, 100, 101, 102, 103] (by decide +kernel) (by decide +kernel)
set_option maxRecDepth 20000 in
theorem gX5_pass_X5_readsPass : GoodIn wsX5_pass (wsV RX5 149 RX5 yX5_readsPass wsX5_readsPass) := goodIn_app (goodIn_of _ (by decide +kernel)) ggX5_pass_X5_readsPass
theorem dX5_pass_0 : decode cX5_pass 0 = .ok (.iload_n 1, 1) := by decide +kernel
theorem dX5_pass_1 : decode cX5_pass 1 = .ok (.invokestatic 136, 3) := by decide +kernel
theorem dX5_pass_4 : decode cX5_pass 4 = .ok (.ifCond .eq 9, 3) := by decide +kernel
theorem dX5_pass_7 : decode cX5_pass 7 = .ok (.aload_n 0, 1) := by decide +kernel
theorem dX5_pass_8 : decode cX5_pass 8 = .ok (.iconst (-1), 1) := by decide +kernel
theorem dX5_pass_9 : decode cX5_pass 9 = .ok (.invokevirtual 140, 3) := by decide +kernel
theorem dX5_pass_12 : decode cX5_pass 12 = .ok (.ireturn, 1) := by decide +kernel
theorem dX5_pass_13 : decode cX5_pass 13 = .ok (.iload_n 2, 1) := by decide +kernel
theorem dX5_pass_14 : decode cX5_pass 14 = .ok (.i2l, 1) := by decide +kernel
theorem dX5_pass_15 : decode cX5_pass 15 = .ok (.lconst 0, 1) := by decide +kernel
theorem dX5_pass_16 : decode cX5_pass 16 = .ok (.ldc2_w 143, 3) := by decide +kernel
theorem dX5_pass_19 : decode cX5_pass 19 = .ok (.invokestatic 96, 3) := by decide +kernel
theorem dX5_pass_22 : decode cX5_pass 22 = .ok (.ifCond .ne 10, 3) := by decide +kernel
theorem dX5_pass_25 : decode cX5_pass 25 = .ok (.aload_n 0, 1) := by decide +kernel
theorem dX5_pass_26 : decode cX5_pass 26 = .ok (.bipush (-2), 2) := by decide +kernel
theorem dX5_pass_28 : decode cX5_pass 28 = .ok (.invokevirtual 140, 3) := by decide +kernel
theorem dX5_pass_31 : decode cX5_pass 31 = .ok (.ireturn, 1) := by decide +kernel
theorem dX5_pass_32 : decode cX5_pass 32 = .ok (.aload_n 0, 1) := by decide +kernel
theorem dX5_pass_33 : decode cX5_pass 33 = .ok (.iload_n 1, 1) := by decide +kernel
theorem dX5_pass_34 : decode cX5_pass 34 = .ok (.iload_n 2, 1) := by decide +kernel
theorem dX5_pass_35 : decode cX5_pass 35 = .ok (.iload_n 3, 1) := by decide +kernel
theorem dX5_pass_36 : decode cX5_pass 36 = .ok (.iload 4, 2) := by decide +kernel
theorem dX5_pass_38 : decode cX5_pass 38 = .ok (.i2l, 1) := by decide +kernel
theorem dX5_pass_39 : decode cX5_pass 39 = .ok (.invokevirtual 145, 3) := by decide +kernel
theorem dX5_pass_42 : decode cX5_pass 42 = .ok (.istore 5, 2) := by decide +kernel
theorem dX5_pass_44 : decode cX5_pass 44 = .ok (.iload 5, 2) := by decide +kernel
theorem dX5_pass_46 : decode cX5_pass 46 = .ok (.ifCond .ge 6, 3) := by decide +kernel
theorem dX5_pass_49 : decode cX5_pass 49 = .ok (.iload 5, 2) := by decide +kernel
theorem dX5_pass_51 : decode cX5_pass 51 = .ok (.ireturn, 1) := by decide +kernel
theorem dX5_pass_52 : decode cX5_pass 52 = .ok (.aload_n 0, 1) := by decide +kernel
theorem dX5_pass_53 : decode cX5_pass 53 = .ok (.bipush 60, 2) := by decide +kernel
theorem dX5_pass_55 : decode cX5_pass 55 = .ok (.iload_n 1, 1) := by decide +kernel
theorem dX5_pass_56 : decode cX5_pass 56 = .ok (.imul, 1) := by decide +kernel
theorem dX5_pass_57 : decode cX5_pass 57 = .ok (.iload_n 3, 1) := by decide +kernel
theorem dX5_pass_58 : decode cX5_pass 58 = .ok (.iadd, 1) := by decide +kernel
theorem dX5_pass_59 : decode cX5_pass 59 = .ok (.iload 4, 2) := by decide +kernel
theorem dX5_pass_61 : decode cX5_pass 61 = .ok (.invokevirtual 149, 3) := by decide +kernel
theorem dX5_pass_64 : decode cX5_pass 64 = .ok (.ifCond .ne 15, 3) := by decide +kernel
theorem dX5_pass_67 : decode cX5_pass 67 = .ok (.aload_n 0, 1) := by decide +kernel
theorem dX5_pass_68 : decode cX5_pass 68 = .ok (.bipush (-100), 2) := by decide +kernel
theorem dX5_pass_70 : decode cX5_pass 70 = .ok (.aload_n 0, 1) := by decide +kernel
theorem dX5_pass_71 : decode cX5_pass 71 = .ok (.getfield 104, 3) := by decide +kernel
theorem dX5_pass_74 : decode cX5_pass 74 = .ok (.isub, 1) := by decide +kernel
theorem dX5_pass_75 : decode cX5_pass 75 = .ok (.invokevirtual 140, 3) := by decide +kernel
theorem dX5_pass_78 : decode cX5_pass 78 = .ok (.ireturn, 1) := by decide +kernel
theorem dX5_pass_79 : decode cX5_pass 79 = .ok (.aload_n 0, 1) := by decide +kernel
theorem dX5_pass_80 : decode cX5_pass 80 = .ok (.aload_n 0, 1) := by decide +kernel
theorem dX5_pass_81 : decode cX5_pass 81 = .ok (.getfield 111, 3) := by decide +kernel
theorem dX5_pass_84 : decode cX5_pass 84 = .ok (.putfield 93, 3) := by decide +kernel
theorem dX5_pass_87 : decode cX5_pass 87 = .ok (.aload_n 0, 1) := by decide +kernel
theorem dX5_pass_88 : decode cX5_pass 88 = .ok (.aload_n 0, 1) := by decide +kernel
theorem dX5_pass_89 : decode cX5_pass 89 = .ok (.getfield 118, 3) := by decide +kernel
theorem dX5_pass_92 : decode cX5_pass 92 = .ok (.putfield 152, 3) := by decide +kernel
theorem dX5_pass_95 : decode cX5_pass 95 = .ok (.iconst 0, 1) := by decide +kernel
theorem dX5_pass_96 : decode cX5_pass 96 = .ok (.istore 6, 2) := by decide +kernel
theorem dX5_pass_98 : decode cX5_pass 98 = .ok (.iload 6, 2) := by decide +kernel
theorem dX5_pass_100 : decode cX5_pass 100 = .ok (.aload_n 0, 1) := by decide +kernel
theorem dX5_pass_101 : decode cX5_pass 101 = .ok (.getfield 93, 3) := by decide +kernel
theorem dX5_pass_104 : decode cX5_pass 104 = .ok (.if_icmp .ge 37, 3) := by decide +kernel
theorem dX5_pass_107 : decode cX5_pass 107 = .ok (.aload_n 0, 1) := by decide +kernel
theorem dX5_pass_108 : decode cX5_pass 108 = .ok (.getfield 7, 3) := by decide +kernel
theorem dX5_pass_111 : decode cX5_pass 111 = .ok (.iload 6, 2) := by decide +kernel
theorem dX5_pass_113 : decode cX5_pass 113 = .ok (.aload_n 0, 1) := by decide +kernel
theorem dX5_pass_114 : decode cX5_pass 114 = .ok (.getfield 29, 3) := by decide +kernel
theorem dX5_pass_117 : decode cX5_pass 117 = .ok (.iload 6, 2) := by decide +kernel
theorem dX5_pass_119 : decode cX5_pass 119 = .ok (.iaload, 1) := by decide +kernel
theorem dX5_pass_120 : decode cX5_pass 120 = .ok (.iastore, 1) := by decide +kernel
theorem dX5_pass_121 : decode cX5_pass 121 = .ok (.aload_n 0, 1) := by decide +kernel
theorem dX5_pass_122 : decode cX5_pass 122 = .ok (.getfield 13, 3) := by decide +kernel
theorem dX5_pass_125 : decode cX5_pass 125 = .ok (.iload 6, 2) := by decide +kernel
theorem dX5_pass_127 : decode cX5_pass 127 = .ok (.aload_n 0, 1) := by decide +kernel
theorem dX5_pass_128 : decode cX5_pass 128 = .ok (.getfield 32, 3) := by decide +kernel
theorem dX5_pass_131 : decode cX5_pass 131 = .ok (.iload 6, 2) := by decide +kernel
theorem dX5_pass_133 : decode cX5_pass 133 = .ok (.baload, 1) := by decide +kernel
theorem dX5_pass_134 : decode cX5_pass 134 = .ok (.bastore, 1) := by decide +kernel
theorem dX5_pass_135 : decode cX5_pass 135 = .ok (.iinc 6 1, 3) := by decide +kernel
theorem dX5_pass_138 : decode cX5_pass 138 = .ok (.goto (-40), 3) := by decide +kernel
theorem dX5_pass_141 : decode cX5_pass 141 = .ok (.iconst 0, 1) := by decide +kernel
theorem dX5_pass_142 : decode cX5_pass 142 = .ok (.istore 6, 2) := by decide +kernel
theorem dX5_pass_144 : decode cX5_pass 144 = .ok (.iload 6, 2) := by decide +kernel
theorem dX5_pass_146 : decode cX5_pass 146 = .ok (.aload_n 0, 1) := by decide +kernel
theorem dX5_pass_147 : decode cX5_pass 147 = .ok (.getfield 152, 3) := by decide +kernel
theorem dX5_pass_150 : decode cX5_pass 150 = .ok (.if_icmp .ge 51, 3) := by decide +kernel
theorem dX5_pass_153 : decode cX5_pass 153 = .ok (.aload_n 0, 1) := by decide +kernel
theorem dX5_pass_154 : decode cX5_pass 154 = .ok (.getfield 17, 3) := by decide +kernel
theorem dX5_pass_157 : decode cX5_pass 157 = .ok (.iload 6, 2) := by decide +kernel
theorem dX5_pass_159 : decode cX5_pass 159 = .ok (.aload_n 0, 1) := by decide +kernel
theorem dX5_pass_160 : decode cX5_pass 160 = .ok (.getfield 35, 3) := by decide +kernel
theorem dX5_pass_163 : decode cX5_pass 163 = .ok (.iload 6, 2) := by decide +kernel
theorem dX5_pass_165 : decode cX5_pass 165 = .ok (.iaload, 1) := by decide +kernel
theorem dX5_pass_166 : decode cX5_pass 166 = .ok (.iastore, 1) := by decide +kernel
theorem dX5_pass_167 : decode cX5_pass 167 = .ok (.aload_n 0, 1) := by decide +kernel
theorem dX5_pass_168 : decode cX5_pass 168 = .ok (.getfield 20, 3) := by decide +kernel
theorem dX5_pass_171 : decode cX5_pass 171 = .ok (.iload 6, 2) := by decide +kernel
theorem dX5_pass_173 : decode cX5_pass 173 = .ok (.aload_n 0, 1) := by decide +kernel
theorem dX5_pass_174 : decode cX5_pass 174 = .ok (.getfield 38, 3) := by decide +kernel
theorem dX5_pass_177 : decode cX5_pass 177 = .ok (.iload 6, 2) := by decide +kernel
theorem dX5_pass_179 : decode cX5_pass 179 = .ok (.iaload, 1) := by decide +kernel
theorem dX5_pass_180 : decode cX5_pass 180 = .ok (.iastore, 1) := by decide +kernel
theorem dX5_pass_181 : decode cX5_pass 181 = .ok (.aload_n 0, 1) := by decide +kernel
theorem dX5_pass_182 : decode cX5_pass 182 = .ok (.getfield 23, 3) := by decide +kernel
theorem dX5_pass_185 : decode cX5_pass 185 = .ok (.iload 6, 2) := by decide +kernel
theorem dX5_pass_187 : decode cX5_pass 187 = .ok (.aload_n 0, 1) := by decide +kernel
theorem dX5_pass_188 : decode cX5_pass 188 = .ok (.getfield 41, 3) := by decide +kernel
theorem dX5_pass_191 : decode cX5_pass 191 = .ok (.iload 6, 2) := by decide +kernel
theorem dX5_pass_193 : decode cX5_pass 193 = .ok (.iaload, 1) := by decide +kernel
theorem dX5_pass_194 : decode cX5_pass 194 = .ok (.iastore, 1) := by decide +kernel
theorem dX5_pass_195 : decode cX5_pass 195 = .ok (.iinc 6 1, 3) := by decide +kernel
theorem dX5_pass_198 : decode cX5_pass 198 = .ok (.goto (-54), 3) := by decide +kernel
theorem dX5_pass_201 : decode cX5_pass 201 = .ok (.iconst 0, 1) := by decide +kernel
theorem dX5_pass_202 : decode cX5_pass 202 = .ok (.istore 6, 2) := by decide +kernel
theorem dX5_pass_204 : decode cX5_pass 204 = .ok (.iload 6, 2) := by decide +kernel
theorem dX5_pass_206 : decode cX5_pass 206 = .ok (.bipush 59, 2) := by decide +kernel
theorem dX5_pass_208 : decode cX5_pass 208 = .ok (.if_icmp .gt 17, 3) := by decide +kernel
theorem dX5_pass_211 : decode cX5_pass 211 = .ok (.aload_n 0, 1) := by decide +kernel
theorem dX5_pass_212 : decode cX5_pass 212 = .ok (.getfield 26, 3) := by decide +kernel
theorem dX5_pass_215 : decode cX5_pass 215 = .ok (.iload 6, 2) := by decide +kernel
theorem dX5_pass_217 : decode cX5_pass 217 = .ok (.iconst 0, 1) := by decide +kernel
theorem dX5_pass_218 : decode cX5_pass 218 = .ok (.bastore, 1) := by decide +kernel
theorem dX5_pass_219 : decode cX5_pass 219 = .ok (.iinc 6 1, 3) := by decide +kernel
theorem dX5_pass_222 : decode cX5_pass 222 = .ok (.goto (-18), 3) := by decide +kernel
theorem dX5_pass_225 : decode cX5_pass 225 = .ok (.aload_n 0, 1) := by decide +kernel
theorem dX5_pass_226 : decode cX5_pass 226 = .ok (.iconst 0, 1) := by decide +kernel
theorem dX5_pass_227 : decode cX5_pass 227 = .ok (.putfield 155, 3) := by decide +kernel
theorem dX5_pass_230 : decode cX5_pass 230 = .ok (.aload_n 0, 1) := by decide +kernel
theorem dX5_pass_231 : decode cX5_pass 231 = .ok (.iconst 3, 1) := by decide +kernel
theorem dX5_pass_232 : decode cX5_pass 232 = .ok (.putfield 158, 3) := by decide +kernel
theorem dX5_pass_235 : decode cX5_pass 235 = .ok (.aload_n 0, 1) := by decide +kernel
theorem dX5_pass_236 : decode cX5_pass 236 = .ok (.iconst 0, 1) := by decide +kernel
theorem dX5_pass_237 : decode cX5_pass 237 = .ok (.putfield 161, 3) := by decide +kernel
theorem dX5_pass_240 : decode cX5_pass 240 = .ok (.aload_n 0, 1) := by decide +kernel
theorem dX5_pass_241 : decode cX5_pass 241 = .ok (.iconst 0, 1) := by decide +kernel
theorem dX5_pass_242 : decode cX5_pass 242 = .ok (.putfield 164, 3) := by decide +kernel
theorem dX5_pass_245 : decode cX5_pass 245 = .ok (.aload_n 0, 1) := by decide +kernel
theorem dX5_pass_246 : decode cX5_pass 246 = .ok (.aload_n 0, 1) := by decide +kernel
theorem dX5_pass_247 : decode cX5_pass 247 = .ok (.getfield 93, 3) := by decide +kernel
theorem dX5_pass_250 : decode cX5_pass 250 = .ok (.invokevirtual 140, 3) := by decide +kernel
theorem dX5_pass_253 : decode cX5_pass 253 = .ok (.ireturn, 1) := by decide +kernel
set_option maxRecDepth 20000 in
theorem ggX5_ofPerson_X5_noPerson : GoodIn wsX5_ofPerson wsX5_noPerson := goodIn_r _ [8, 9, 10, 11, 7, 12, 16, 17, 18, 19, 20, 21, 22, 23, 24, 25, 26, 27, 28, 29, 30, 31, 32, 33, 34, 35, 36, 37, 38, 39, 40, 41, 42, 43, 44, 45, 46, 47, 48, 49, 50] (by decide +kernel) (by decide +kernel)
set_option maxRecDepth 20000 in
theorem gX5_ofPerson_X5_noPerson : GoodIn wsX5_ofPerson (wsV RX5 167 RX5 yX5_noPerson wsX5_noPerson) := goodIn_app (goodIn_of _ (by decide +kernel)) ggX5_ofPerson_X5_noPerson
set_option maxRecDepth 20000 in
theorem ggX5_ofPerson_X5_isIn : GoodIn wsX5_ofPerson wsX5_isIn := goodIn_r _ [15] (by decide +kernel) (by decide +kernel)
set_option maxRecDepth 20000 in
theorem gX5_ofPerson_X5_isIn : GoodIn wsX5_ofPerson (va_wsS RX5 170 yX5_isIn wsX5_isIn) := goodIn_app (goodIn_of _ (by decide +kernel)) ggX5_ofPerson_X5_isIn
theorem dX5_ofPerson_0 : decode cX5_ofPerson 0 = .ok (.aload_n 0, 1) := by decide +kernel
theorem dX5_ofPerson_1 : decode cX5_ofPerson 1 = .ok (.iload_n 1, 1) := by decide +kernel
theorem dX5_ofPerson_2 : decode cX5_ofPerson 2 = .ok (.invokevirtual 167, 3) := by decide +kernel
theorem dX5_ofPerson_5 : decode cX5_ofPerson 5 = .ok (.ifCond .eq 5, 3) := by decide +kernel
theorem dX5_ofPerson_8 : decode cX5_ofPerson 8 = .ok (.iconst (-1), 1) := by decide +kernel
theorem dX5_ofPerson_9 : decode cX5_ofPerson 9 = .ok (.ireturn, 1) := by decide +kernel
theorem dX5_ofPerson_10 : decode cX5_ofPerson 10 = .ok (.iload_n 2, 1) := by decide +kernel
theorem dX5_ofPerson_11 : decode cX5_ofPerson 11 = .ok (.ifCond .ne 12, 3) := by decide +kernel
theorem dX5_ofPerson_14 : decode cX5_ofPerson 14 = .ok (.aload_n 0, 1) := by decide +kernel
theorem dX5_ofPerson_15 : decode cX5_ofPerson 15 = .ok (.getfield 7, 3) := by decide +kernel
theorem dX5_ofPerson_18 : decode cX5_ofPerson 18 = .ok (.iload_n 1, 1) := by decide +kernel
theorem dX5_ofPerson_19 : decode cX5_ofPerson 19 = .ok (.iaload, 1) := by decide +kernel
theorem dX5_ofPerson_20 : decode cX5_ofPerson 20 = .ok (.goto 51, 3) := by decide +kernel
theorem dX5_ofPerson_23 : decode cX5_ofPerson 23 = .ok (.iload_n 2, 1) := by decide +kernel
theorem dX5_ofPerson_24 : decode cX5_ofPerson 24 = .ok (.iconst 1, 1) := by decide +kernel
theorem dX5_ofPerson_25 : decode cX5_ofPerson 25 = .ok (.if_icmp .ne 20, 3) := by decide +kernel
theorem dX5_ofPerson_28 : decode cX5_ofPerson 28 = .ok (.aload_n 0, 1) := by decide +kernel
theorem dX5_ofPerson_29 : decode cX5_ofPerson 29 = .ok (.getfield 13, 3) := by decide +kernel
theorem dX5_ofPerson_32 : decode cX5_ofPerson 32 = .ok (.iload_n 1, 1) := by decide +kernel
theorem dX5_ofPerson_33 : decode cX5_ofPerson 33 = .ok (.baload, 1) := by decide +kernel
theorem dX5_ofPerson_34 : decode cX5_ofPerson 34 = .ok (.ifCond .eq 7, 3) := by decide +kernel
theorem dX5_ofPerson_37 : decode cX5_ofPerson 37 = .ok (.iconst 1, 1) := by decide +kernel
theorem dX5_ofPerson_38 : decode cX5_ofPerson 38 = .ok (.goto 33, 3) := by decide +kernel
theorem dX5_ofPerson_41 : decode cX5_ofPerson 41 = .ok (.iconst 0, 1) := by decide +kernel
theorem dX5_ofPerson_42 : decode cX5_ofPerson 42 = .ok (.goto 29, 3) := by decide +kernel
theorem dX5_ofPerson_45 : decode cX5_ofPerson 45 = .ok (.iload_n 2, 1) := by decide +kernel
theorem dX5_ofPerson_46 : decode cX5_ofPerson 46 = .ok (.iconst 2, 1) := by decide +kernel
theorem dX5_ofPerson_47 : decode cX5_ofPerson 47 = .ok (.if_icmp .ne 22, 3) := by decide +kernel
theorem dX5_ofPerson_50 : decode cX5_ofPerson 50 = .ok (.aload_n 0, 1) := by decide +kernel
theorem dX5_ofPerson_51 : decode cX5_ofPerson 51 = .ok (.getfield 155, 3) := by decide +kernel
theorem dX5_ofPerson_54 : decode cX5_ofPerson 54 = .ok (.iload_n 1, 1) := by decide +kernel
theorem dX5_ofPerson_55 : decode cX5_ofPerson 55 = .ok (.invokestatic 170, 3) := by decide +kernel
theorem dX5_ofPerson_58 : decode cX5_ofPerson 58 = .ok (.ifCond .eq 7, 3) := by decide +kernel
theorem dX5_ofPerson_61 : decode cX5_ofPerson 61 = .ok (.iconst 1, 1) := by decide +kernel
theorem dX5_ofPerson_62 : decode cX5_ofPerson 62 = .ok (.goto 9, 3) := by decide +kernel
theorem dX5_ofPerson_65 : decode cX5_ofPerson 65 = .ok (.iconst 0, 1) := by decide +kernel
theorem dX5_ofPerson_66 : decode cX5_ofPerson 66 = .ok (.goto 5, 3) := by decide +kernel
theorem dX5_ofPerson_69 : decode cX5_ofPerson 69 = .ok (.bipush (-2), 2) := by decide +kernel
theorem dX5_ofPerson_71 : decode cX5_ofPerson 71 = .ok (.ireturn, 1) := by decide +kernel
set_option maxRecDepth 20000 in
theorem ggX5_ofWay_X5_in : GoodIn wsX5_ofWay wsX5_in := goodIn_r _ [8] (by decide +kernel) (by decide +kernel)
set_option maxRecDepth 20000 in
theorem gX5_ofWay_X5_in : GoodIn wsX5_ofWay (va_wsS RX5 96 yX5_in wsX5_in) := goodIn_app (goodIn_of _ (by decide +kernel)) ggX5_ofWay_X5_in
theorem dX5_ofWay_0 : decode cX5_ofWay 0 = .ok (.iload_n 1, 1) := by decide +kernel
theorem dX5_ofWay_1 : decode cX5_ofWay 1 = .ok (.i2l, 1) := by decide +kernel
theorem dX5_ofWay_2 : decode cX5_ofWay 2 = .ok (.lconst 0, 1) := by decide +kernel
theorem dX5_ofWay_3 : decode cX5_ofWay 3 = .ok (.aload_n 0, 1) := by decide +kernel
theorem dX5_ofWay_4 : decode cX5_ofWay 4 = .ok (.getfield 152, 3) := by decide +kernel
theorem dX5_ofWay_7 : decode cX5_ofWay 7 = .ok (.i2l, 1) := by decide +kernel
theorem dX5_ofWay_8 : decode cX5_ofWay 8 = .ok (.lconst 1, 1) := by decide +kernel
theorem dX5_ofWay_9 : decode cX5_ofWay 9 = .ok (.lsub, 1) := by decide +kernel
theorem dX5_ofWay_10 : decode cX5_ofWay 10 = .ok (.invokestatic 96, 3) := by decide +kernel
theorem dX5_ofWay_13 : decode cX5_ofWay 13 = .ok (.ifCond .ne 5, 3) := by decide +kernel
theorem dX5_ofWay_16 : decode cX5_ofWay 16 = .ok (.iconst (-1), 1) := by decide +kernel
theorem dX5_ofWay_17 : decode cX5_ofWay 17 = .ok (.ireturn, 1) := by decide +kernel
theorem dX5_ofWay_18 : decode cX5_ofWay 18 = .ok (.iload_n 2, 1) := by decide +kernel
theorem dX5_ofWay_19 : decode cX5_ofWay 19 = .ok (.ifCond .ne 12, 3) := by decide +kernel
theorem dX5_ofWay_22 : decode cX5_ofWay 22 = .ok (.aload_n 0, 1) := by decide +kernel
theorem dX5_ofWay_23 : decode cX5_ofWay 23 = .ok (.getfield 17, 3) := by decide +kernel
theorem dX5_ofWay_26 : decode cX5_ofWay 26 = .ok (.iload_n 1, 1) := by decide +kernel
theorem dX5_ofWay_27 : decode cX5_ofWay 27 = .ok (.iaload, 1) := by decide +kernel
theorem dX5_ofWay_28 : decode cX5_ofWay 28 = .ok (.goto 33, 3) := by decide +kernel
theorem dX5_ofWay_31 : decode cX5_ofWay 31 = .ok (.iload_n 2, 1) := by decide +kernel
theorem dX5_ofWay_32 : decode cX5_ofWay 32 = .ok (.iconst 1, 1) := by decide +kernel
theorem dX5_ofWay_33 : decode cX5_ofWay 33 = .ok (.if_icmp .ne 12, 3) := by decide +kernel
theorem dX5_ofWay_36 : decode cX5_ofWay 36 = .ok (.aload_n 0, 1) := by decide +kernel
theorem dX5_ofWay_37 : decode cX5_ofWay 37 = .ok (.getfield 20, 3) := by decide +kernel
theorem dX5_ofWay_40 : decode cX5_ofWay 40 = .ok (.iload_n 1, 1) := by decide +kernel
theorem dX5_ofWay_41 : decode cX5_ofWay 41 = .ok (.iaload, 1) := by decide +kernel
theorem dX5_ofWay_42 : decode cX5_ofWay 42 = .ok (.goto 19, 3) := by decide +kernel
theorem dX5_ofWay_45 : decode cX5_ofWay 45 = .ok (.iload_n 2, 1) := by decide +kernel
theorem dX5_ofWay_46 : decode cX5_ofWay 46 = .ok (.iconst 2, 1) := by decide +kernel
theorem dX5_ofWay_47 : decode cX5_ofWay 47 = .ok (.if_icmp .ne 12, 3) := by decide +kernel
theorem dX5_ofWay_50 : decode cX5_ofWay 50 = .ok (.aload_n 0, 1) := by decide +kernel
theorem dX5_ofWay_51 : decode cX5_ofWay 51 = .ok (.getfield 23, 3) := by decide +kernel
theorem dX5_ofWay_54 : decode cX5_ofWay 54 = .ok (.iload_n 1, 1) := by decide +kernel
theorem dX5_ofWay_55 : decode cX5_ofWay 55 = .ok (.iaload, 1) := by decide +kernel
theorem dX5_ofWay_56 : decode cX5_ofWay 56 = .ok (.goto 5, 3) := by decide +kernel
theorem dX5_ofWay_59 : decode cX5_ofWay 59 = .ok (.bipush (-2), 2) := by decide +kernel
theorem dX5_ofWay_61 : decode cX5_ofWay 61 = .ok (.ireturn, 1) := by decide +kernel
set_option maxRecDepth 20000 in
theorem ggX5_telling_X5_noPerson : GoodIn wsX5_telling wsX5_noPerson := goodIn_r _ [9, 10, 11, 12, 8, 13, 22, 23, 24, 25, 26, 27, 28, 29, 30, 31, 32, 33, 34, 35, 36, 37, 38, 39, 40, 41, 42, 43, 44, 45, 46, 47, 48, 49, 50, 51, 52, 53, 54, 55, 56] (by decide +kernel) (by decide +kernel)
set_option maxRecDepth 20000 in
theorem gX5_telling_X5_noPerson : GoodIn wsX5_telling (wsV RX5 167 RX5 yX5_noPerson wsX5_noPerson) := goodIn_app (goodIn_of _ (by decide +kernel)) ggX5_telling_X5_noPerson
set_option maxRecDepth 20000 in
theorem ggX5_telling_X5_isThing : GoodIn wsX5_telling wsX5_isThing := goodIn_r _ [16, 17, 11, 12, 8, 13] (by decide +kernel) (by decide +kernel)
set_option maxRecDepth 20000 in
theorem gX5_telling_X5_isThing : GoodIn wsX5_telling (va_wsS RX5 173 yX5_isThing wsX5_isThing) := goodIn_app (goodIn_of _ (by decide +kernel)) ggX5_telling_X5_isThing
set_option maxRecDepth 20000 in
theorem ggX5_telling_X5_isDay : GoodIn wsX5_telling wsX5_isDay := goodIn_r _ [20, 21, 11, 12, 8, 13] (by decide +kernel) (by decide +kernel)
set_option maxRecDepth 20000 in
theorem gX5_telling_X5_isDay : GoodIn wsX5_telling (va_wsS RX5 176 yX5_isDay wsX5_isDay) := goodIn_app (goodIn_of _ (by decide +kernel)) ggX5_telling_X5_isDay
theorem dX5_telling_0 : decode cX5_telling 0 = .ok (.aload_n 0, 1) := by decide +kernel
theorem dX5_telling_1 : decode cX5_telling 1 = .ok (.iload_n 1, 1) := by decide +kernel
theorem dX5_telling_2 : decode cX5_telling 2 = .ok (.invokevirtual 167, 3) := by decide +kernel
theorem dX5_telling_5 : decode cX5_telling 5 = .ok (.ifCond .eq 5, 3) := by decide +kernel
theorem dX5_telling_8 : decode cX5_telling 8 = .ok (.iconst (-1), 1) := by decide +kernel
theorem dX5_telling_9 : decode cX5_telling 9 = .ok (.ireturn, 1) := by decide +kernel
theorem dX5_telling_10 : decode cX5_telling 10 = .ok (.iload_n 2, 1) := by decide +kernel
theorem dX5_telling_11 : decode cX5_telling 11 = .ok (.invokestatic 173, 3) := by decide +kernel
theorem dX5_telling_14 : decode cX5_telling 14 = .ok (.ifCond .eq 10, 3) := by decide +kernel
theorem dX5_telling_17 : decode cX5_telling 17 = .ok (.iload_n 3, 1) := by decide +kernel
theorem dX5_telling_18 : decode cX5_telling 18 = .ok (.invokestatic 176, 3) := by decide +kernel
theorem dX5_telling_21 : decode cX5_telling 21 = .ok (.ifCond .ne 6, 3) := by decide +kernel
theorem dX5_telling_24 : decode cX5_telling 24 = .ok (.bipush (-2), 2) := by decide +kernel
theorem dX5_telling_26 : decode cX5_telling 26 = .ok (.ireturn, 1) := by decide +kernel
theorem dX5_telling_27 : decode cX5_telling 27 = .ok (.aload_n 0, 1) := by decide +kernel
theorem dX5_telling_28 : decode cX5_telling 28 = .ok (.getfield 161, 3) := by decide +kernel
theorem dX5_telling_31 : decode cX5_telling 31 = .ok (.bipush 8, 2) := by decide +kernel
theorem dX5_telling_33 : decode cX5_telling 33 = .ok (.if_icmp .ne 6, 3) := by decide +kernel
theorem dX5_telling_36 : decode cX5_telling 36 = .ok (.bipush (-4), 2) := by decide +kernel
theorem dX5_telling_38 : decode cX5_telling 38 = .ok (.ireturn, 1) := by decide +kernel
theorem dX5_telling_39 : decode cX5_telling 39 = .ok (.aload_n 0, 1) := by decide +kernel
theorem dX5_telling_40 : decode cX5_telling 40 = .ok (.getfield 44, 3) := by decide +kernel
theorem dX5_telling_43 : decode cX5_telling 43 = .ok (.aload_n 0, 1) := by decide +kernel
theorem dX5_telling_44 : decode cX5_telling 44 = .ok (.getfield 161, 3) := by decide +kernel
theorem dX5_telling_47 : decode cX5_telling 47 = .ok (.iload_n 1, 1) := by decide +kernel
theorem dX5_telling_48 : decode cX5_telling 48 = .ok (.iastore, 1) := by decide +kernel
theorem dX5_telling_49 : decode cX5_telling 49 = .ok (.aload_n 0, 1) := by decide +kernel
theorem dX5_telling_50 : decode cX5_telling 50 = .ok (.getfield 47, 3) := by decide +kernel
theorem dX5_telling_53 : decode cX5_telling 53 = .ok (.aload_n 0, 1) := by decide +kernel
theorem dX5_telling_54 : decode cX5_telling 54 = .ok (.getfield 161, 3) := by decide +kernel
theorem dX5_telling_57 : decode cX5_telling 57 = .ok (.iload_n 2, 1) := by decide +kernel
theorem dX5_telling_58 : decode cX5_telling 58 = .ok (.iastore, 1) := by decide +kernel
theorem dX5_telling_59 : decode cX5_telling 59 = .ok (.aload_n 0, 1) := by decide +kernel
theorem dX5_telling_60 : decode cX5_telling 60 = .ok (.getfield 50, 3) := by decide +kernel
theorem dX5_telling_63 : decode cX5_telling 63 = .ok (.aload_n 0, 1) := by decide +kernel
theorem dX5_telling_64 : decode cX5_telling 64 = .ok (.getfield 161, 3) := by decide +kernel
theorem dX5_telling_67 : decode cX5_telling 67 = .ok (.iload_n 3, 1) := by decide +kernel
theorem dX5_telling_68 : decode cX5_telling 68 = .ok (.iastore, 1) := by decide +kernel
theorem dX5_telling_69 : decode cX5_telling 69 = .ok (.aload_n 0, 1) := by decide +kernel
theorem dX5_telling_70 : decode cX5_telling 70 = .ok (.dup, 1) := by decide +kernel
theorem dX5_telling_71 : decode cX5_telling 71 = .ok (.getfield 161, 3) := by decide +kernel
theorem dX5_telling_74 : decode cX5_telling 74 = .ok (.iconst 1, 1) := by decide +kernel
theorem dX5_telling_75 : decode cX5_telling 75 = .ok (.iadd, 1) := by decide +kernel
theorem dX5_telling_76 : decode cX5_telling 76 = .ok (.putfield 161, 3) := by decide +kernel
theorem dX5_telling_79 : decode cX5_telling 79 = .ok (.aload_n 0, 1) := by decide +kernel
theorem dX5_telling_80 : decode cX5_telling 80 = .ok (.getfield 161, 3) := by decide +kernel
theorem dX5_telling_83 : decode cX5_telling 83 = .ok (.iconst 1, 1) := by decide +kernel
theorem dX5_telling_84 : decode cX5_telling 84 = .ok (.isub, 1) := by decide +kernel
theorem dX5_telling_85 : decode cX5_telling 85 = .ok (.ireturn, 1) := by decide +kernel
set_option maxRecDepth 20000 in
theorem ggX5_undo_X5_in : GoodIn wsX5_undo wsX5_in := goodIn_r _ [5] (by decide +kernel) (by decide +kernel)
set_option maxRecDepth 20000 in
theorem gX5_undo_X5_in : GoodIn wsX5_undo (va_wsS RX5 96 yX5_in wsX5_in) := goodIn_app (goodIn_of _ (by decide +kernel)) ggX5_undo_X5_in
theorem dX5_undo_0 : decode cX5_undo 0 = .ok (.iload_n 1, 1) := by decide +kernel
theorem dX5_undo_1 : decode cX5_undo 1 = .ok (.i2l, 1) := by decide +kernel
theorem dX5_undo_2 : decode cX5_undo 2 = .ok (.lconst 0, 1) := by decide +kernel
theorem dX5_undo_3 : decode cX5_undo 3 = .ok (.aload_n 0, 1) := by decide +kernel
theorem dX5_undo_4 : decode cX5_undo 4 = .ok (.getfield 161, 3) := by decide +kernel
theorem dX5_undo_7 : decode cX5_undo 7 = .ok (.i2l, 1) := by decide +kernel
theorem dX5_undo_8 : decode cX5_undo 8 = .ok (.invokestatic 96, 3) := by decide +kernel
theorem dX5_undo_11 : decode cX5_undo 11 = .ok (.ifCond .ne 6, 3) := by decide +kernel
theorem dX5_undo_14 : decode cX5_undo 14 = .ok (.bipush (-2), 2) := by decide +kernel
theorem dX5_undo_16 : decode cX5_undo 16 = .ok (.ireturn, 1) := by decide +kernel
theorem dX5_undo_17 : decode cX5_undo 17 = .ok (.aload_n 0, 1) := by decide +kernel
theorem dX5_undo_18 : decode cX5_undo 18 = .ok (.dup, 1) := by decide +kernel
theorem dX5_undo_19 : decode cX5_undo 19 = .ok (.getfield 161, 3) := by decide +kernel
theorem dX5_undo_22 : decode cX5_undo 22 = .ok (.iload_n 1, 1) := by decide +kernel
theorem dX5_undo_23 : decode cX5_undo 23 = .ok (.isub, 1) := by decide +kernel
theorem dX5_undo_24 : decode cX5_undo 24 = .ok (.putfield 161, 3) := by decide +kernel
theorem dX5_undo_27 : decode cX5_undo 27 = .ok (.aload_n 0, 1) := by decide +kernel
theorem dX5_undo_28 : decode cX5_undo 28 = .ok (.getfield 161, 3) := by decide +kernel
theorem dX5_undo_31 : decode cX5_undo 31 = .ok (.ireturn, 1) := by decide +kernel
set_option maxRecDepth 20000 in
theorem ggX5_law_X5_in : GoodIn wsX5_law wsX5_in := goodIn_r _ [7] (by decide +kernel) (by decide +kernel)
set_option maxRecDepth 20000 in
theorem gX5_law_X5_in : GoodIn wsX5_law (va_wsS RX5 96 yX5_in wsX5_in) := goodIn_app (goodIn_of _ (by decide +kernel)) ggX5_law_X5_in
theorem dX5_law_0 : decode cX5_law 0 = .ok (.iload_n 1, 1) := by decide +kernel
theorem dX5_law_1 : decode cX5_law 1 = .ok (.i2l, 1) := by decide +kernel
theorem dX5_law_2 : decode cX5_law 2 = .ok (.lconst 1, 1) := by decide +kernel
theorem dX5_law_3 : decode cX5_law 3 = .ok (.ldc2_w 179, 3) := by decide +kernel
theorem dX5_law_6 : decode cX5_law 6 = .ok (.invokestatic 96, 3) := by decide +kernel
theorem dX5_law_9 : decode cX5_law 9 = .ok (.ifCond .ne 6, 3) := by decide +kernel
theorem dX5_law_12 : decode cX5_law 12 = .ok (.bipush (-2), 2) := by decide +kernel
theorem dX5_law_14 : decode cX5_law 14 = .ok (.ireturn, 1) := by decide +kernel
theorem dX5_law_15 : decode cX5_law 15 = .ok (.aload_n 0, 1) := by decide +kernel
theorem dX5_law_16 : decode cX5_law 16 = .ok (.getfield 93, 3) := by decide +kernel
theorem dX5_law_19 : decode cX5_law 19 = .ok (.ifCond .ne 6, 3) := by decide +kernel
theorem dX5_law_22 : decode cX5_law 22 = .ok (.bipush (-3), 2) := by decide +kernel
theorem dX5_law_24 : decode cX5_law 24 = .ok (.ireturn, 1) := by decide +kernel
theorem dX5_law_25 : decode cX5_law 25 = .ok (.aload_n 0, 1) := by decide +kernel
theorem dX5_law_26 : decode cX5_law 26 = .ok (.getfield 158, 3) := by decide +kernel
theorem dX5_law_29 : decode cX5_law 29 = .ok (.istore_n 2, 1) := by decide +kernel
theorem dX5_law_30 : decode cX5_law 30 = .ok (.aload_n 0, 1) := by decide +kernel
theorem dX5_law_31 : decode cX5_law 31 = .ok (.iload_n 1, 1) := by decide +kernel
theorem dX5_law_32 : decode cX5_law 32 = .ok (.putfield 158, 3) := by decide +kernel
theorem dX5_law_35 : decode cX5_law 35 = .ok (.iload_n 2, 1) := by decide +kernel
theorem dX5_law_36 : decode cX5_law 36 = .ok (.ireturn, 1) := by decide +kernel
set_option maxRecDepth 20000 in
theorem ggX5_fog_X5_isDay : GoodIn wsX5_fog wsX5_isDay := goodIn_r _ [6, 7, 8, 9, 5, 10] (by decide +kernel) (by decide +kernel)
set_option maxRecDepth 20000 in
theorem gX5_fog_X5_isDay : GoodIn wsX5_fog (va_wsS RX5 176 yX5_isDay wsX5_isDay) := goodIn_app (goodIn_of _ (by decide +kernel)) ggX5_fog_X5_isDay
theorem dX5_fog_0 : decode cX5_fog 0 = .ok (.iload_n 1, 1) := by decide +kernel
theorem dX5_fog_1 : decode cX5_fog 1 = .ok (.invokestatic 176, 3) := by decide +kernel
theorem dX5_fog_4 : decode cX5_fog 4 = .ok (.ifCond .ne 6, 3) := by decide +kernel
theorem dX5_fog_7 : decode cX5_fog 7 = .ok (.bipush (-2), 2) := by decide +kernel
theorem dX5_fog_9 : decode cX5_fog 9 = .ok (.ireturn, 1) := by decide +kernel
theorem dX5_fog_10 : decode cX5_fog 10 = .ok (.aload_n 0, 1) := by decide +kernel
theorem dX5_fog_11 : decode cX5_fog 11 = .ok (.getfield 93, 3) := by decide +kernel
theorem dX5_fog_14 : decode cX5_fog 14 = .ok (.ifCond .ne 6, 3) := by decide +kernel
theorem dX5_fog_17 : decode cX5_fog 17 = .ok (.bipush (-3), 2) := by decide +kernel
theorem dX5_fog_19 : decode cX5_fog 19 = .ok (.ireturn, 1) := by decide +kernel
theorem dX5_fog_20 : decode cX5_fog 20 = .ok (.aload_n 0, 1) := by decide +kernel
theorem dX5_fog_21 : decode cX5_fog 21 = .ok (.getfield 26, 3) := by decide +kernel
theorem dX5_fog_24 : decode cX5_fog 24 = .ok (.iload_n 1, 1) := by decide +kernel
theorem dX5_fog_25 : decode cX5_fog 25 = .ok (.baload, 1) := by decide +kernel
theorem dX5_fog_26 : decode cX5_fog 26 = .ok (.istore_n 3, 1) := by decide +kernel
theorem dX5_fog_27 : decode cX5_fog 27 = .ok (.aload_n 0, 1) := by decide +kernel
theorem dX5_fog_28 : decode cX5_fog 28 = .ok (.getfield 26, 3) := by decide +kernel
theorem dX5_fog_31 : decode cX5_fog 31 = .ok (.iload_n 1, 1) := by decide +kernel
theorem dX5_fog_32 : decode cX5_fog 32 = .ok (.iload_n 2, 1) := by decide +kernel
theorem dX5_fog_33 : decode cX5_fog 33 = .ok (.bastore, 1) := by decide +kernel
theorem dX5_fog_34 : decode cX5_fog 34 = .ok (.iload_n 3, 1) := by decide +kernel
theorem dX5_fog_35 : decode cX5_fog 35 = .ok (.iload_n 2, 1) := by decide +kernel
theorem dX5_fog_36 : decode cX5_fog 36 = .ok (.if_icmp .ne 7, 3) := by decide +kernel
theorem dX5_fog_39 : decode cX5_fog 39 = .ok (.iconst 0, 1) := by decide +kernel
theorem dX5_fog_40 : decode cX5_fog 40 = .ok (.goto 4, 3) := by decide +kernel
theorem dX5_fog_43 : decode cX5_fog 43 = .ok (.iconst 1, 1) := by decide +kernel
theorem dX5_fog_44 : decode cX5_fog 44 = .ok (.ireturn, 1) := by decide +kernel
set_option maxRecDepth 20000 in
theorem ggX5_hush_X5_noPerson : GoodIn wsX5_hush wsX5_noPerson := goodIn_r _ [6, 7, 8, 9, 5, 10, 14, 15, 16, 17, 18, 19, 20, 21, 22, 23, 24, 25, 26, 27, 28, 29, 30, 31, 32, 33, 34, 35, 36, 37, 38, 39, 40, 41, 42, 43, 44, 45, 46, 47, 48] (by decide +kernel) (by decide +kernel)
set_option maxRecDepth 20000 in
theorem gX5_hush_X5_noPerson : GoodIn wsX5_hush (wsV RX5 167 RX5 yX5_noPerson wsX5_noPerson) := goodIn_app (goodIn_of _ (by decide +kernel)) ggX5_hush_X5_noPerson
set_option maxRecDepth 20000 in
theorem ggX5_hush_X5_isIn : GoodIn wsX5_hush wsX5_isIn := goodIn_r _ [13] (by decide +kernel) (by decide +kernel)
set_option maxRecDepth 20000 in
theorem gX5_hush_X5_isIn : GoodIn wsX5_hush (va_wsS RX5 170 yX5_isIn wsX5_isIn) := goodIn_app (goodIn_of _ (by decide +kernel)) ggX5_hush_X5_isIn
theorem dX5_hush_0 : decode cX5_hush 0 = .ok (.aload_n 0, 1) := by decide +kernel
theorem dX5_hush_1 : decode cX5_hush 1 = .ok (.iload_n 1, 1) := by decide +kernel
theorem dX5_hush_2 : decode cX5_hush 2 = .ok (.invokevirtual 167, 3) := by decide +kernel
theorem dX5_hush_5 : decode cX5_hush 5 = .ok (.ifCond .eq 5, 3) := by decide +kernel
theorem dX5_hush_8 : decode cX5_hush 8 = .ok (.iconst (-1), 1) := by decide +kernel
theorem dX5_hush_9 : decode cX5_hush 9 = .ok (.ireturn, 1) := by decide +kernel
theorem dX5_hush_10 : decode cX5_hush 10 = .ok (.aload_n 0, 1) := by decide +kernel
theorem dX5_hush_11 : decode cX5_hush 11 = .ok (.getfield 155, 3) := by decide +kernel
theorem dX5_hush_14 : decode cX5_hush 14 = .ok (.iload_n 1, 1) := by decide +kernel
theorem dX5_hush_15 : decode cX5_hush 15 = .ok (.invokestatic 170, 3) := by decide +kernel
theorem dX5_hush_18 : decode cX5_hush 18 = .ok (.istore_n 3, 1) := by decide +kernel
theorem dX5_hush_19 : decode cX5_hush 19 = .ok (.aload_n 0, 1) := by decide +kernel
theorem dX5_hush_20 : decode cX5_hush 20 = .ok (.iload_n 2, 1) := by decide +kernel
theorem dX5_hush_21 : decode cX5_hush 21 = .ok (.ifCond .eq 14, 3) := by decide +kernel
theorem dX5_hush_24 : decode cX5_hush 24 = .ok (.aload_n 0, 1) := by decide +kernel
theorem dX5_hush_25 : decode cX5_hush 25 = .ok (.getfield 155, 3) := by decide +kernel
theorem dX5_hush_28 : decode cX5_hush 28 = .ok (.iconst 1, 1) := by decide +kernel
theorem dX5_hush_29 : decode cX5_hush 29 = .ok (.iload_n 1, 1) := by decide +kernel
theorem dX5_hush_30 : decode cX5_hush 30 = .ok (.ishl, 1) := by decide +kernel
theorem dX5_hush_31 : decode cX5_hush 31 = .ok (.ior, 1) := by decide +kernel
theorem dX5_hush_32 : decode cX5_hush 32 = .ok (.goto 13, 3) := by decide +kernel
theorem dX5_hush_35 : decode cX5_hush 35 = .ok (.aload_n 0, 1) := by decide +kernel
theorem dX5_hush_36 : decode cX5_hush 36 = .ok (.getfield 155, 3) := by decide +kernel
theorem dX5_hush_39 : decode cX5_hush 39 = .ok (.iconst 1, 1) := by decide +kernel
theorem dX5_hush_40 : decode cX5_hush 40 = .ok (.iload_n 1, 1) := by decide +kernel
theorem dX5_hush_41 : decode cX5_hush 41 = .ok (.ishl, 1) := by decide +kernel
theorem dX5_hush_42 : decode cX5_hush 42 = .ok (.iconst (-1), 1) := by decide +kernel
theorem dX5_hush_43 : decode cX5_hush 43 = .ok (.ixor, 1) := by decide +kernel
theorem dX5_hush_44 : decode cX5_hush 44 = .ok (.iand, 1) := by decide +kernel
theorem dX5_hush_45 : decode cX5_hush 45 = .ok (.putfield 155, 3) := by decide +kernel
theorem dX5_hush_48 : decode cX5_hush 48 = .ok (.iload_n 3, 1) := by decide +kernel
theorem dX5_hush_49 : decode cX5_hush 49 = .ok (.iload_n 2, 1) := by decide +kernel
theorem dX5_hush_50 : decode cX5_hush 50 = .ok (.if_icmp .ne 7, 3) := by decide +kernel
theorem dX5_hush_53 : decode cX5_hush 53 = .ok (.iconst 0, 1) := by decide +kernel
theorem dX5_hush_54 : decode cX5_hush 54 = .ok (.goto 4, 3) := by decide +kernel
theorem dX5_hush_57 : decode cX5_hush 57 = .ok (.iconst 1, 1) := by decide +kernel
theorem dX5_hush_58 : decode cX5_hush 58 = .ok (.ireturn, 1) := by decide +kernel
theorem dX5_placeOf_0 : decode cX5_placeOf 0 = .ok (.bipush 15, 2) := by decide +kernel
theorem dX5_placeOf_2 : decode cX5_placeOf 2 = .ok (.iconst 4, 1) := by decide +kernel
theorem dX5_placeOf_3 : decode cX5_placeOf 3 = .ok (.iload_n 0, 1) := by decide +kernel
theorem dX5_placeOf_4 : decode cX5_placeOf 4 = .ok (.imul, 1) := by decide +kernel
theorem dX5_placeOf_5 : decode cX5_placeOf 5 = .ok (.iload_n 1, 1) := by decide +kernel
theorem dX5_placeOf_6 : decode cX5_placeOf 6 = .ok (.iadd, 1) := by decide +kernel
theorem dX5_placeOf_7 : decode cX5_placeOf 7 = .ok (.imul, 1) := by decide +kernel
theorem dX5_placeOf_8 : decode cX5_placeOf 8 = .ok (.iload_n 2, 1) := by decide +kernel
theorem dX5_placeOf_9 : decode cX5_placeOf 9 = .ok (.iadd, 1) := by decide +kernel
theorem dX5_placeOf_10 : decode cX5_placeOf 10 = .ok (.ireturn, 1) := by decide +kernel
theorem dX5_begin_0 : decode cX5_begin 0 = .ok (.iconst 0, 1) := by decide +kernel
theorem dX5_begin_1 : decode cX5_begin 1 = .ok (.istore_n 1, 1) := by decide +kernel
theorem dX5_begin_2 : decode cX5_begin 2 = .ok (.iload_n 1, 1) := by decide +kernel
theorem dX5_begin_3 : decode cX5_begin 3 = .ok (.sipush 360, 3) := by decide +kernel
theorem dX5_begin_6 : decode cX5_begin 6 = .ok (.if_icmp .ge 18, 3) := by decide +kernel
theorem dX5_begin_9 : decode cX5_begin 9 = .ok (.aload_n 0, 1) := by decide +kernel
theorem dX5_begin_10 : decode cX5_begin 10 = .ok (.getfield 53, 3) := by decide +kernel
theorem dX5_begin_13 : decode cX5_begin 13 = .ok (.iload_n 1, 1) := by decide +kernel
theorem dX5_begin_14 : decode cX5_begin 14 = .ok (.sipush 999, 3) := by decide +kernel
theorem dX5_begin_17 : decode cX5_begin 17 = .ok (.iastore, 1) := by decide +kernel
theorem dX5_begin_18 : decode cX5_begin 18 = .ok (.iinc 1 1, 3) := by decide +kernel
theorem dX5_begin_21 : decode cX5_begin 21 = .ok (.goto (-19), 3) := by decide +kernel
theorem dX5_begin_24 : decode cX5_begin 24 = .ok (.return_, 1) := by decide +kernel
set_option maxRecDepth 20000 in
theorem ggX5_hear_X5_placeOf : GoodIn wsX5_hear wsX5_placeOf := goodIn_r _ [5] (by decide +kernel) (by decide +kernel)
set_option maxRecDepth 20000 in
theorem gX5_hear_X5_placeOf : GoodIn wsX5_hear (va_wsS RX5 181 yX5_placeOf wsX5_placeOf) := goodIn_app (goodIn_of _ (by decide +kernel)) ggX5_hear_X5_placeOf
theorem dX5_hear_0 : decode cX5_hear 0 = .ok (.iload_n 1, 1) := by decide +kernel
theorem dX5_hear_1 : decode cX5_hear 1 = .ok (.iload_n 2, 1) := by decide +kernel
theorem dX5_hear_2 : decode cX5_hear 2 = .ok (.iload_n 3, 1) := by decide +kernel
theorem dX5_hear_3 : decode cX5_hear 3 = .ok (.invokestatic 181, 3) := by decide +kernel
theorem dX5_hear_6 : decode cX5_hear 6 = .ok (.istore 5, 2) := by decide +kernel
theorem dX5_hear_8 : decode cX5_hear 8 = .ok (.aload_n 0, 1) := by decide +kernel
theorem dX5_hear_9 : decode cX5_hear 9 = .ok (.getfield 53, 3) := by decide +kernel
theorem dX5_hear_12 : decode cX5_hear 12 = .ok (.iload 5, 2) := by decide +kernel
theorem dX5_hear_14 : decode cX5_hear 14 = .ok (.iload 4, 2) := by decide +kernel
theorem dX5_hear_16 : decode cX5_hear 16 = .ok (.bipush 59, 2) := by decide +kernel
theorem dX5_hear_18 : decode cX5_hear 18 = .ok (.if_icmp .gt 20, 3) := by decide +kernel
theorem dX5_hear_21 : decode cX5_hear 21 = .ok (.iload 4, 2) := by decide +kernel
theorem dX5_hear_23 : decode cX5_hear 23 = .ok (.aload_n 0, 1) := by decide +kernel
theorem dX5_hear_24 : decode cX5_hear 24 = .ok (.getfield 53, 3) := by decide +kernel
theorem dX5_hear_27 : decode cX5_hear 27 = .ok (.iload 5, 2) := by decide +kernel
theorem dX5_hear_29 : decode cX5_hear 29 = .ok (.iaload, 1) := by decide +kernel
theorem dX5_hear_30 : decode cX5_hear 30 = .ok (.if_icmp .ge 8, 3) := by decide +kernel
theorem dX5_hear_33 : decode cX5_hear 33 = .ok (.iload 4, 2) := by decide +kernel
theorem dX5_hear_35 : decode cX5_hear 35 = .ok (.goto 10, 3) := by decide +kernel
theorem dX5_hear_38 : decode cX5_hear 38 = .ok (.aload_n 0, 1) := by decide +kernel
theorem dX5_hear_39 : decode cX5_hear 39 = .ok (.getfield 53, 3) := by decide +kernel
theorem dX5_hear_42 : decode cX5_hear 42 = .ok (.iload 5, 2) := by decide +kernel
theorem dX5_hear_44 : decode cX5_hear 44 = .ok (.iaload, 1) := by decide +kernel
theorem dX5_hear_45 : decode cX5_hear 45 = .ok (.iastore, 1) := by decide +kernel
theorem dX5_hear_46 : decode cX5_hear 46 = .ok (.return_, 1) := by decide +kernel
theorem dX5_thingBy_0 : decode cX5_thingBy 0 = .ok (.aload_n 0, 1) := by decide +kernel
theorem dX5_thingBy_1 : decode cX5_thingBy 1 = .ok (.getfield 7, 3) := by decide +kernel
theorem dX5_thingBy_4 : decode cX5_thingBy 4 = .ok (.iload_n 1, 1) := by decide +kernel
theorem dX5_thingBy_5 : decode cX5_thingBy 5 = .ok (.iaload, 1) := by decide +kernel
theorem dX5_thingBy_6 : decode cX5_thingBy 6 = .ok (.ifCond .ne 7, 3) := by decide +kernel
theorem dX5_thingBy_9 : decode cX5_thingBy 9 = .ok (.iload_n 2, 1) := by decide +kernel
theorem dX5_thingBy_10 : decode cX5_thingBy 10 = .ok (.goto 8, 3) := by decide +kernel
theorem dX5_thingBy_13 : decode cX5_thingBy 13 = .ok (.iload_n 2, 1) := by decide +kernel
theorem dX5_thingBy_14 : decode cX5_thingBy 14 = .ok (.iconst 1, 1) := by decide +kernel
theorem dX5_thingBy_15 : decode cX5_thingBy 15 = .ok (.iadd, 1) := by decide +kernel
theorem dX5_thingBy_16 : decode cX5_thingBy 16 = .ok (.iconst 4, 1) := by decide +kernel
theorem dX5_thingBy_17 : decode cX5_thingBy 17 = .ok (.irem, 1) := by decide +kernel
theorem dX5_thingBy_18 : decode cX5_thingBy 18 = .ok (.ireturn, 1) := by decide +kernel
theorem dX5_originBy_0 : decode cX5_originBy 0 = .ok (.aload_n 0, 1) := by decide +kernel
theorem dX5_originBy_1 : decode cX5_originBy 1 = .ok (.getfield 7, 3) := by decide +kernel
theorem dX5_originBy_4 : decode cX5_originBy 4 = .ok (.iload_n 1, 1) := by decide +kernel
theorem dX5_originBy_5 : decode cX5_originBy 5 = .ok (.iaload, 1) := by decide +kernel
theorem dX5_originBy_6 : decode cX5_originBy 6 = .ok (.iconst 2, 1) := by decide +kernel
theorem dX5_originBy_7 : decode cX5_originBy 7 = .ok (.if_icmp .ne 10, 3) := by decide +kernel
theorem dX5_originBy_10 : decode cX5_originBy 10 = .ok (.bipush 8, 2) := by decide +kernel
theorem dX5_originBy_12 : decode cX5_originBy 12 = .ok (.iload_n 1, 1) := by decide +kernel
theorem dX5_originBy_13 : decode cX5_originBy 13 = .ok (.iadd, 1) := by decide +kernel
theorem dX5_originBy_14 : decode cX5_originBy 14 = .ok (.goto 4, 3) := by decide +kernel
theorem dX5_originBy_17 : decode cX5_originBy 17 = .ok (.iload_n 2, 1) := by decide +kernel
theorem dX5_originBy_18 : decode cX5_originBy 18 = .ok (.ireturn, 1) := by decide +kernel
set_option maxRecDepth 20000 in
theorem ggX5_goes_X5_placeOf : GoodIn wsX5_goes wsX5_placeOf := goodIn_r _ [8] (by decide +kernel) (by decide +kernel)
set_option maxRecDepth 20000 in
theorem gX5_goes_X5_placeOf : GoodIn wsX5_goes (va_wsS RX5 181 yX5_placeOf wsX5_placeOf) := goodIn_app (goodIn_of _ (by decide +kernel)) ggX5_goes_X5_placeOf
set_option maxRecDepth 20000 in
theorem ggX5_goes_X5_thingBy : GoodIn wsX5_goes wsX5_thingBy := goodIn_r _ [12, 13, 18, 19, 20, 21, 22, 23, 24, 25, 26, 27, 28, 29, 30, 31, 32, 33, 34, 35, 36, 37, 38, 39, 40, 41, 42, 43, 44, 45, 46, 47, 48, 49, 50, 51, 52] (by decide +kernel) (by decide +kernel)
set_option maxRecDepth 20000 in
theorem gX5_goes_X5_thingBy : GoodIn wsX5_goes (wsV RX5 185 RX5 yX5_thingBy wsX5_thingBy) := goodIn_app (goodIn_of _ (by decide +kernel)) ggX5_goes_X5_thingBy
set_option maxRecDepth 20000 in
theorem ggX5_goes_X5_originBy : GoodIn wsX5_goes wsX5_originBy := goodIn_r _ [17, 13, 18, 19, 20, 21, 22, 23, 24, 25, 26, 27, 28, 29, 30, 31, 32, 33, 34, 35, 36, 37, 38, 39, 40, 41, 42, 43, 44, 45, 46, 47, 48, 49, 50, 51, 52] (by decide +kernel) (by decide +kernel)
set_option maxRecDepth 20000 in
theorem gX5_goes_X5_originBy : GoodIn wsX5_goes (wsV RX5 188 RX5 yX5_originBy wsX5_originBy) := goodIn_app (goodIn_of _ (by decide +kernel)) ggX5_goes_X5_originBy
theorem dX5_goes_0 : decode cX5_goes 0 = .ok (.iconst 0, 1) := by decide +kernel
theorem dX5_goes_1 : decode cX5_goes 1 = .ok (.istore_n 2, 1) := by decide +kernel
theorem dX5_goes_2 : decode cX5_goes 2 = .ok (.aload_n 0, 1) := by decide +kernel
theorem dX5_goes_3 : decode cX5_goes 3 = .ok (.getfield 17, 3) := by decide +kernel
theorem dX5_goes_6 : decode cX5_goes 6 = .ok (.iload_n 1, 1) := by decide +kernel
theorem dX5_goes_7 : decode cX5_goes 7 = .ok (.iaload, 1) := by decide +kernel
theorem dX5_goes_8 : decode cX5_goes 8 = .ok (.istore_n 3, 1) := by decide +kernel
theorem dX5_goes_9 : decode cX5_goes 9 = .ok (.iconst 0, 1) := by decide +kernel
theorem dX5_goes_10 : decode cX5_goes 10 = .ok (.istore 4, 2) := by decide +kernel
theorem dX5_goes_12 : decode cX5_goes 12 = .ok (.iload 4, 2) := by decide +kernel
theorem dX5_goes_14 : decode cX5_goes 14 = .ok (.bipush 60, 2) := by decide +kernel
theorem dX5_goes_16 : decode cX5_goes 16 = .ok (.if_icmp .ge 100, 3) := by decide +kernel
theorem dX5_goes_19 : decode cX5_goes 19 = .ok (.iload 4, 2) := by decide +kernel
theorem dX5_goes_21 : decode cX5_goes 21 = .ok (.bipush 15, 2) := by decide +kernel
theorem dX5_goes_23 : decode cX5_goes 23 = .ok (.idiv, 1) := by decide +kernel
theorem dX5_goes_24 : decode cX5_goes 24 = .ok (.istore 5, 2) := by decide +kernel
theorem dX5_goes_26 : decode cX5_goes 26 = .ok (.iload 4, 2) := by decide +kernel
theorem dX5_goes_28 : decode cX5_goes 28 = .ok (.bipush 15, 2) := by decide +kernel
theorem dX5_goes_30 : decode cX5_goes 30 = .ok (.irem, 1) := by decide +kernel
theorem dX5_goes_31 : decode cX5_goes 31 = .ok (.istore 6, 2) := by decide +kernel
theorem dX5_goes_33 : decode cX5_goes 33 = .ok (.aload_n 0, 1) := by decide +kernel
theorem dX5_goes_34 : decode cX5_goes 34 = .ok (.getfield 53, 3) := by decide +kernel
theorem dX5_goes_37 : decode cX5_goes 37 = .ok (.iload_n 3, 1) := by decide +kernel
theorem dX5_goes_38 : decode cX5_goes 38 = .ok (.iload 5, 2) := by decide +kernel
theorem dX5_goes_40 : decode cX5_goes 40 = .ok (.iload 6, 2) := by decide +kernel
theorem dX5_goes_42 : decode cX5_goes 42 = .ok (.invokestatic 181, 3) := by decide +kernel
theorem dX5_goes_45 : decode cX5_goes 45 = .ok (.iaload, 1) := by decide +kernel
theorem dX5_goes_46 : decode cX5_goes 46 = .ok (.aload_n 0, 1) := by decide +kernel
theorem dX5_goes_47 : decode cX5_goes 47 = .ok (.getfield 23, 3) := by decide +kernel
theorem dX5_goes_50 : decode cX5_goes 50 = .ok (.iload_n 1, 1) := by decide +kernel
theorem dX5_goes_51 : decode cX5_goes 51 = .ok (.iaload, 1) := by decide +kernel
theorem dX5_goes_52 : decode cX5_goes 52 = .ok (.iadd, 1) := by decide +kernel
theorem dX5_goes_53 : decode cX5_goes 53 = .ok (.istore 7, 2) := by decide +kernel
theorem dX5_goes_55 : decode cX5_goes 55 = .ok (.aload_n 0, 1) := by decide +kernel
theorem dX5_goes_56 : decode cX5_goes 56 = .ok (.getfield 20, 3) := by decide +kernel
theorem dX5_goes_59 : decode cX5_goes 59 = .ok (.iload_n 1, 1) := by decide +kernel
theorem dX5_goes_60 : decode cX5_goes 60 = .ok (.iaload, 1) := by decide +kernel
theorem dX5_goes_61 : decode cX5_goes 61 = .ok (.aload_n 0, 1) := by decide +kernel
theorem dX5_goes_62 : decode cX5_goes 62 = .ok (.iload_n 3, 1) := by decide +kernel
theorem dX5_goes_63 : decode cX5_goes 63 = .ok (.iload 5, 2) := by decide +kernel
theorem dX5_goes_65 : decode cX5_goes 65 = .ok (.invokevirtual 185, 3) := by decide +kernel
theorem dX5_goes_68 : decode cX5_goes 68 = .ok (.aload_n 0, 1) := by decide +kernel
theorem dX5_goes_69 : decode cX5_goes 69 = .ok (.iload_n 3, 1) := by decide +kernel
theorem dX5_goes_70 : decode cX5_goes 70 = .ok (.iload 6, 2) := by decide +kernel
theorem dX5_goes_72 : decode cX5_goes 72 = .ok (.invokevirtual 188, 3) := by decide +kernel
theorem dX5_goes_75 : decode cX5_goes 75 = .ok (.invokestatic 181, 3) := by decide +kernel
theorem dX5_goes_78 : decode cX5_goes 78 = .ok (.istore 8, 2) := by decide +kernel
theorem dX5_goes_80 : decode cX5_goes 80 = .ok (.iload 7, 2) := by decide +kernel
theorem dX5_goes_82 : decode cX5_goes 82 = .ok (.bipush 59, 2) := by decide +kernel
theorem dX5_goes_84 : decode cX5_goes 84 = .ok (.if_icmp .gt 26, 3) := by decide +kernel
theorem dX5_goes_87 : decode cX5_goes 87 = .ok (.iload 7, 2) := by decide +kernel
theorem dX5_goes_89 : decode cX5_goes 89 = .ok (.aload_n 0, 1) := by decide +kernel
theorem dX5_goes_90 : decode cX5_goes 90 = .ok (.getfield 53, 3) := by decide +kernel
theorem dX5_goes_93 : decode cX5_goes 93 = .ok (.iload 8, 2) := by decide +kernel
theorem dX5_goes_95 : decode cX5_goes 95 = .ok (.iaload, 1) := by decide +kernel
theorem dX5_goes_96 : decode cX5_goes 96 = .ok (.if_icmp .ge 14, 3) := by decide +kernel
theorem dX5_goes_99 : decode cX5_goes 99 = .ok (.aload_n 0, 1) := by decide +kernel
theorem dX5_goes_100 : decode cX5_goes 100 = .ok (.getfield 53, 3) := by decide +kernel
theorem dX5_goes_103 : decode cX5_goes 103 = .ok (.iload 8, 2) := by decide +kernel
theorem dX5_goes_105 : decode cX5_goes 105 = .ok (.iload 7, 2) := by decide +kernel
theorem dX5_goes_107 : decode cX5_goes 107 = .ok (.iastore, 1) := by decide +kernel
theorem dX5_goes_108 : decode cX5_goes 108 = .ok (.iconst 1, 1) := by decide +kernel
theorem dX5_goes_109 : decode cX5_goes 109 = .ok (.istore_n 2, 1) := by decide +kernel
theorem dX5_goes_110 : decode cX5_goes 110 = .ok (.iinc 4 1, 3) := by decide +kernel
theorem dX5_goes_113 : decode cX5_goes 113 = .ok (.goto (-101), 3) := by decide +kernel
theorem dX5_goes_116 : decode cX5_goes 116 = .ok (.iload_n 2, 1) := by decide +kernel
theorem dX5_goes_117 : decode cX5_goes 117 = .ok (.ireturn, 1) := by decide +kernel
set_option maxRecDepth 20000 in
theorem ggX5_spread_X5_isIn : GoodIn wsX5_spread wsX5_isIn := goodIn_r _ [7] (by decide +kernel) (by decide +kernel)
set_option maxRecDepth 20000 in
theorem gX5_spread_X5_isIn : GoodIn wsX5_spread (va_wsS RX5 170 yX5_isIn wsX5_isIn) := goodIn_app (goodIn_of _ (by decide +kernel)) ggX5_spread_X5_isIn
set_option maxRecDepth 20000 in
theorem ggX5_spread_X5_goes : GoodIn wsX5_spread wsX5_goes := goodIn_r _ [11, 3, 12, 13, 14, 15, 16, 6, 17, 18, 19, 20, 21, 22, 23, 24, 25, 26, 27, 28, 29, 30, 31, 32, 33, 34, 35, 36, 37, 38, 39, 40, 41, 42, 43, 44, 45, 46, 47, 48, 49, 50, 51, 52, 53, 54, 55, 56, 57, 58, 59, 60, 61] (by decide +kernel) (by decide +kernel)
set_option maxRecDepth 20000 in
theorem gX5_spread_X5_goes : GoodIn wsX5_spread (wsV RX5 191 RX5 yX5_goes wsX5_goes) := goodIn_app (goodIn_of _ (by decide +kernel)) ggX5_spread_X5_goes
theorem dX5_spread_0 : decode cX5_spread 0 = .ok (.iconst 1, 1) := by decide +kernel
theorem dX5_spread_1 : decode cX5_spread 1 = .ok (.istore_n 2, 1) := by decide +kernel
theorem dX5_spread_2 : decode cX5_spread 2 = .ok (.iload_n 2, 1) := by decide +kernel
theorem dX5_spread_3 : decode cX5_spread 3 = .ok (.ifCond .eq 63, 3) := by decide +kernel
theorem dX5_spread_6 : decode cX5_spread 6 = .ok (.iconst 0, 1) := by decide +kernel
theorem dX5_spread_7 : decode cX5_spread 7 = .ok (.istore_n 2, 1) := by decide +kernel
theorem dX5_spread_8 : decode cX5_spread 8 = .ok (.iconst 0, 1) := by decide +kernel
theorem dX5_spread_9 : decode cX5_spread 9 = .ok (.istore_n 3, 1) := by decide +kernel
theorem dX5_spread_10 : decode cX5_spread 10 = .ok (.iload_n 3, 1) := by decide +kernel
theorem dX5_spread_11 : decode cX5_spread 11 = .ok (.aload_n 0, 1) := by decide +kernel
theorem dX5_spread_12 : decode cX5_spread 12 = .ok (.getfield 152, 3) := by decide +kernel
theorem dX5_spread_15 : decode cX5_spread 15 = .ok (.if_icmp .ge 48, 3) := by decide +kernel
theorem dX5_spread_18 : decode cX5_spread 18 = .ok (.iload_n 3, 1) := by decide +kernel
theorem dX5_spread_19 : decode cX5_spread 19 = .ok (.iload_n 1, 1) := by decide +kernel
theorem dX5_spread_20 : decode cX5_spread 20 = .ok (.if_icmp .eq 37, 3) := by decide +kernel
theorem dX5_spread_23 : decode cX5_spread 23 = .ok (.aload_n 0, 1) := by decide +kernel
theorem dX5_spread_24 : decode cX5_spread 24 = .ok (.getfield 155, 3) := by decide +kernel
theorem dX5_spread_27 : decode cX5_spread 27 = .ok (.aload_n 0, 1) := by decide +kernel
theorem dX5_spread_28 : decode cX5_spread 28 = .ok (.getfield 17, 3) := by decide +kernel
theorem dX5_spread_31 : decode cX5_spread 31 = .ok (.iload_n 3, 1) := by decide +kernel
theorem dX5_spread_32 : decode cX5_spread 32 = .ok (.iaload, 1) := by decide +kernel
theorem dX5_spread_33 : decode cX5_spread 33 = .ok (.invokestatic 170, 3) := by decide +kernel
theorem dX5_spread_36 : decode cX5_spread 36 = .ok (.ifCond .ne 21, 3) := by decide +kernel
theorem dX5_spread_39 : decode cX5_spread 39 = .ok (.aload_n 0, 1) := by decide +kernel
theorem dX5_spread_40 : decode cX5_spread 40 = .ok (.iload_n 3, 1) := by decide +kernel
theorem dX5_spread_41 : decode cX5_spread 41 = .ok (.invokevirtual 191, 3) := by decide +kernel
theorem dX5_spread_44 : decode cX5_spread 44 = .ok (.ifCond .ne 7, 3) := by decide +kernel
theorem dX5_spread_47 : decode cX5_spread 47 = .ok (.iload_n 2, 1) := by decide +kernel
theorem dX5_spread_48 : decode cX5_spread 48 = .ok (.ifCond .eq 7, 3) := by decide +kernel
theorem dX5_spread_51 : decode cX5_spread 51 = .ok (.iconst 1, 1) := by decide +kernel
theorem dX5_spread_52 : decode cX5_spread 52 = .ok (.goto 4, 3) := by decide +kernel
theorem dX5_spread_55 : decode cX5_spread 55 = .ok (.iconst 0, 1) := by decide +kernel
theorem dX5_spread_56 : decode cX5_spread 56 = .ok (.istore_n 2, 1) := by decide +kernel
theorem dX5_spread_57 : decode cX5_spread 57 = .ok (.iinc 3 1, 3) := by decide +kernel
theorem dX5_spread_60 : decode cX5_spread 60 = .ok (.goto (-50), 3) := by decide +kernel
theorem dX5_spread_63 : decode cX5_spread 63 = .ok (.goto (-61), 3) := by decide +kernel
theorem dX5_spread_66 : decode cX5_spread 66 = .ok (.return_, 1) := by decide +kernel
set_option maxRecDepth 20000 in
theorem ggX5_tellAll_X5_begin : GoodIn wsX5_tellAll wsX5_begin := goodIn_r _ [9, 10, 18, 19, 20, 21, 22, 23, 24, 25, 26, 27, 28, 29, 30, 31, 32, 33, 34, 35, 36, 37, 38, 39, 40, 41, 42, 43, 44, 45, 46, 47, 48, 49, 50, 51, 52] (by decide +kernel) (by decide +kernel)
set_option maxRecDepth 20000 in
theorem gX5_tellAll_X5_begin : GoodIn wsX5_tellAll (wsV RX5 194 RX5 yX5_begin wsX5_begin) := goodIn_app (goodIn_of _ (by decide +kernel)) ggX5_tellAll_X5_begin
set_option maxRecDepth 20000 in
theorem ggX5_tellAll_X5_hear : GoodIn wsX5_tellAll wsX5_hear := goodIn_r _ [14, 10, 15, 16, 8, 17, 18, 19, 20, 21, 22, 23, 24, 25, 26, 27, 28, 29, 30, 31, 32, 33, 34, 35, 36, 37, 38, 39, 40, 41, 42, 43, 44, 45, 46, 47, 48, 49, 50, 51, 52] (by decide +kernel) (by decide +kernel)
set_option maxRecDepth 20000 in
theorem gX5_tellAll_X5_hear : GoodIn wsX5_tellAll (wsV RX5 197 RX5 yX5_hear wsX5_hear) := goodIn_app (goodIn_of _ (by decide +kernel)) ggX5_tellAll_X5_hear
theorem dX5_tellAll_0 : decode cX5_tellAll 0 = .ok (.aload_n 0, 1) := by decide +kernel
theorem dX5_tellAll_1 : decode cX5_tellAll 1 = .ok (.invokevirtual 194, 3) := by decide +kernel
theorem dX5_tellAll_4 : decode cX5_tellAll 4 = .ok (.iconst 0, 1) := by decide +kernel
theorem dX5_tellAll_5 : decode cX5_tellAll 5 = .ok (.istore_n 2, 1) := by decide +kernel
theorem dX5_tellAll_6 : decode cX5_tellAll 6 = .ok (.iload_n 2, 1) := by decide +kernel
theorem dX5_tellAll_7 : decode cX5_tellAll 7 = .ok (.aload_n 0, 1) := by decide +kernel
theorem dX5_tellAll_8 : decode cX5_tellAll 8 = .ok (.getfield 161, 3) := by decide +kernel
theorem dX5_tellAll_11 : decode cX5_tellAll 11 = .ok (.if_icmp .ge 37, 3) := by decide +kernel
theorem dX5_tellAll_14 : decode cX5_tellAll 14 = .ok (.iload_n 2, 1) := by decide +kernel
theorem dX5_tellAll_15 : decode cX5_tellAll 15 = .ok (.iload_n 1, 1) := by decide +kernel
theorem dX5_tellAll_16 : decode cX5_tellAll 16 = .ok (.if_icmp .eq 26, 3) := by decide +kernel
theorem dX5_tellAll_19 : decode cX5_tellAll 19 = .ok (.aload_n 0, 1) := by decide +kernel
theorem dX5_tellAll_20 : decode cX5_tellAll 20 = .ok (.aload_n 0, 1) := by decide +kernel
theorem dX5_tellAll_21 : decode cX5_tellAll 21 = .ok (.getfield 44, 3) := by decide +kernel
theorem dX5_tellAll_24 : decode cX5_tellAll 24 = .ok (.iload_n 2, 1) := by decide +kernel
theorem dX5_tellAll_25 : decode cX5_tellAll 25 = .ok (.iaload, 1) := by decide +kernel
theorem dX5_tellAll_26 : decode cX5_tellAll 26 = .ok (.aload_n 0, 1) := by decide +kernel
theorem dX5_tellAll_27 : decode cX5_tellAll 27 = .ok (.getfield 47, 3) := by decide +kernel
theorem dX5_tellAll_30 : decode cX5_tellAll 30 = .ok (.iload_n 2, 1) := by decide +kernel
theorem dX5_tellAll_31 : decode cX5_tellAll 31 = .ok (.iaload, 1) := by decide +kernel
theorem dX5_tellAll_32 : decode cX5_tellAll 32 = .ok (.iload_n 2, 1) := by decide +kernel
theorem dX5_tellAll_33 : decode cX5_tellAll 33 = .ok (.aload_n 0, 1) := by decide +kernel
theorem dX5_tellAll_34 : decode cX5_tellAll 34 = .ok (.getfield 50, 3) := by decide +kernel
theorem dX5_tellAll_37 : decode cX5_tellAll 37 = .ok (.iload_n 2, 1) := by decide +kernel
theorem dX5_tellAll_38 : decode cX5_tellAll 38 = .ok (.iaload, 1) := by decide +kernel
theorem dX5_tellAll_39 : decode cX5_tellAll 39 = .ok (.invokevirtual 197, 3) := by decide +kernel
theorem dX5_tellAll_42 : decode cX5_tellAll 42 = .ok (.iinc 2 1, 3) := by decide +kernel
theorem dX5_tellAll_45 : decode cX5_tellAll 45 = .ok (.goto (-39), 3) := by decide +kernel
theorem dX5_tellAll_48 : decode cX5_tellAll 48 = .ok (.return_, 1) := by decide +kernel
set_option maxRecDepth 20000 in
theorem ggX5_go_X5_tellAll : GoodIn wsX5_go wsX5_tellAll := goodIn_r _ [5, 6, 7, 8, 9, 10, 11, 12, 4, 13, 14, 15, 16, 17, 18, 19, 20, 21, 47, 48, 49, 50, 51, 52, 53, 54, 55, 56, 57, 58, 59, 60, 61, 62, 63, 64, 65, 66, 67, 68, 69, 70, 71, 72, 73, 74, 75, 76, 77, 78, 79, 80, 81] (by decide +kernel) (by decide +kernel)
set_option maxRecDepth 20000 in
theorem gX5_go_X5_tellAll : GoodIn wsX5_go (wsV RX5 201 RX5 yX5_tellAll wsX5_tellAll) := goodIn_app (goodIn_of _ (by decide +kernel)) ggX5_go_X5_tellAll
set_option maxRecDepth 20000 in
theorem ggX5_go_X5_spread : GoodIn wsX5_go wsX5_spread := goodIn_r _ [25, 26, 27, 28, 29, 30, 4, 31, 32, 33, 34, 35, 14, 36, 37, 19, 20, 21, 38, 39, 40, 41, 42, 43, 44, 45, 46, 47, 48, 49, 50, 51, 52, 53, 54, 55, 56, 57, 58, 59, 60, 61, 62, 63, 64, 65, 66, 67, 68, 69, 70, 71, 72, 73, 74, 75, 76, 77, 78, 79, 80, 81] (by decide +kernel) (by decide +kernel)
set_option maxRecDepth 20000 in
theorem gX5_go_X5_spread : GoodIn wsX5_go (wsV RX5 205 RX5 yX5_spread wsX5_spread) := goodIn_app (goodIn_of _ (by decide +kernel)) ggX5_go_X5_spread
theorem dX5_go_0 : decode cX5_go 0 = .ok (.aload_n 0, 1) := by decide +kernel
theorem dX5_go_1 : decode cX5_go 1 = .ok (.bipush (-9), 2) := by decide +kernel
theorem dX5_go_3 : decode cX5_go 3 = .ok (.invokevirtual 201, 3) := by decide +kernel
theorem dX5_go_6 : decode cX5_go 6 = .ok (.aload_n 0, 1) := by decide +kernel
theorem dX5_go_7 : decode cX5_go 7 = .ok (.bipush (-9), 2) := by decide +kernel
theorem dX5_go_9 : decode cX5_go 9 = .ok (.invokevirtual 205, 3) := by decide +kernel
theorem dX5_go_12 : decode cX5_go 12 = .ok (.return_, 1) := by decide +kernel
set_option maxRecDepth 20000 in
theorem ggX5_hears_X5_noPerson : GoodIn wsX5_hears wsX5_noPerson := goodIn_r _ [7, 8, 9, 10, 6, 11, 64, 65, 66, 67, 68, 69, 70, 71, 72, 73, 74, 75, 76, 77, 78, 79, 80, 81, 82, 83, 84, 85, 86, 87, 88, 89, 90, 91, 92, 93, 94, 95, 96, 97, 98] (by decide +kernel) (by decide +kernel)
set_option maxRecDepth 20000 in
theorem gX5_hears_X5_noPerson : GoodIn wsX5_hears (wsV RX5 167 RX5 yX5_noPerson wsX5_noPerson) := goodIn_app (goodIn_of _ (by decide +kernel)) ggX5_hears_X5_noPerson
set_option maxRecDepth 20000 in
theorem ggX5_hears_X5_isThing : GoodIn wsX5_hears wsX5_isThing := goodIn_r _ [14, 15, 9, 10, 6, 11] (by decide +kernel) (by decide +kernel)
set_option maxRecDepth 20000 in
theorem gX5_hears_X5_isThing : GoodIn wsX5_hears (va_wsS RX5 173 yX5_isThing wsX5_isThing) := goodIn_app (goodIn_of _ (by decide +kernel)) ggX5_hears_X5_isThing
set_option maxRecDepth 20000 in
theorem ggX5_hears_X5_in : GoodIn wsX5_hears wsX5_in := goodIn_r _ [11] (by decide +kernel) (by decide +kernel)
set_option maxRecDepth 20000 in
theorem gX5_hears_X5_in : GoodIn wsX5_hears (va_wsS RX5 96 yX5_in wsX5_in) := goodIn_app (goodIn_of _ (by decide +kernel)) ggX5_hears_X5_in
set_option maxRecDepth 20000 in
theorem ggX5_hears_X5_go : GoodIn wsX5_hears wsX5_go := goodIn_r _ [19, 20, 21, 22, 6, 23, 24, 25, 26, 27, 28, 29, 30, 31, 2, 32, 33, 34, 35, 36, 37, 38, 39, 40, 41, 42, 43, 44, 45, 46, 47, 48, 49, 50, 51, 52, 53, 54, 55, 56, 57, 58, 59, 60, 61, 62, 63, 64, 65, 66, 67, 68, 69, 70, 71, 72, 73, 74, 75, 76, 77, 78, 79, 80, 81, 82, 83, 84, 85, 86, 87, 88, 89, 90, 91, 92, 93, 94, 95, 96, 97, 98] (by decide +kernel) (by decide +kernel)
set_option maxRecDepth 20000 in
theorem gX5_hears_X5_go : GoodIn wsX5_hears (wsV RX5 210 RX5 yX5_go wsX5_go) := goodIn_app (goodIn_of _ (by decide +kernel)) ggX5_hears_X5_go
set_option maxRecDepth 20000 in
theorem ggX5_hears_X5_placeOf : GoodIn wsX5_hears wsX5_placeOf := goodIn_r _ [38] (by decide +kernel) (by decide +kernel)
set_option maxRecDepth 20000 in
theorem gX5_hears_X5_placeOf : GoodIn wsX5_hears (va_wsS RX5 181 yX5_placeOf wsX5_placeOf) := goodIn_app (goodIn_of _ (by decide +kernel)) ggX5_hears_X5_placeOf
theorem dX5_hears_0 : decode cX5_hears 0 = .ok (.aload_n 0, 1) := by decide +kernel
theorem dX5_hears_1 : decode cX5_hears 1 = .ok (.iload_n 1, 1) := by decide +kernel
theorem dX5_hears_2 : decode cX5_hears 2 = .ok (.invokevirtual 167, 3) := by decide +kernel
theorem dX5_hears_5 : decode cX5_hears 5 = .ok (.ifCond .eq 5, 3) := by decide +kernel
theorem dX5_hears_8 : decode cX5_hears 8 = .ok (.iconst (-1), 1) := by decide +kernel
theorem dX5_hears_9 : decode cX5_hears 9 = .ok (.ireturn, 1) := by decide +kernel
theorem dX5_hears_10 : decode cX5_hears 10 = .ok (.iload_n 2, 1) := by decide +kernel
theorem dX5_hears_11 : decode cX5_hears 11 = .ok (.invokestatic 173, 3) := by decide +kernel
theorem dX5_hears_14 : decode cX5_hears 14 = .ok (.ifCond .eq 15, 3) := by decide +kernel
theorem dX5_hears_17 : decode cX5_hears 17 = .ok (.iload_n 3, 1) := by decide +kernel
theorem dX5_hears_18 : decode cX5_hears 18 = .ok (.i2l, 1) := by decide +kernel
theorem dX5_hears_19 : decode cX5_hears 19 = .ok (.lconst 0, 1) := by decide +kernel
theorem dX5_hears_20 : decode cX5_hears 20 = .ok (.ldc2_w 208, 3) := by decide +kernel
theorem dX5_hears_23 : decode cX5_hears 23 = .ok (.invokestatic 96, 3) := by decide +kernel
theorem dX5_hears_26 : decode cX5_hears 26 = .ok (.ifCond .ne 6, 3) := by decide +kernel
theorem dX5_hears_29 : decode cX5_hears 29 = .ok (.bipush (-2), 2) := by decide +kernel
theorem dX5_hears_31 : decode cX5_hears 31 = .ok (.ireturn, 1) := by decide +kernel
theorem dX5_hears_32 : decode cX5_hears 32 = .ok (.aload_n 0, 1) := by decide +kernel
theorem dX5_hears_33 : decode cX5_hears 33 = .ok (.invokevirtual 210, 3) := by decide +kernel
theorem dX5_hears_36 : decode cX5_hears 36 = .ok (.aload_n 0, 1) := by decide +kernel
theorem dX5_hears_37 : decode cX5_hears 37 = .ok (.getfield 53, 3) := by decide +kernel
theorem dX5_hears_40 : decode cX5_hears 40 = .ok (.iload_n 1, 1) := by decide +kernel
theorem dX5_hears_41 : decode cX5_hears 41 = .ok (.iload_n 2, 1) := by decide +kernel
theorem dX5_hears_42 : decode cX5_hears 42 = .ok (.iload_n 3, 1) := by decide +kernel
theorem dX5_hears_43 : decode cX5_hears 43 = .ok (.invokestatic 181, 3) := by decide +kernel
theorem dX5_hears_46 : decode cX5_hears 46 = .ok (.iaload, 1) := by decide +kernel
theorem dX5_hears_47 : decode cX5_hears 47 = .ok (.istore 4, 2) := by decide +kernel
theorem dX5_hears_49 : decode cX5_hears 49 = .ok (.iload 4, 2) := by decide +kernel
theorem dX5_hears_51 : decode cX5_hears 51 = .ok (.sipush 999, 3) := by decide +kernel
theorem dX5_hears_54 : decode cX5_hears 54 = .ok (.if_icmp .ne 8, 3) := by decide +kernel
theorem dX5_hears_57 : decode cX5_hears 57 = .ok (.bipush (-9), 2) := by decide +kernel
theorem dX5_hears_59 : decode cX5_hears 59 = .ok (.goto 5, 3) := by decide +kernel
theorem dX5_hears_62 : decode cX5_hears 62 = .ok (.iload 4, 2) := by decide +kernel
theorem dX5_hears_64 : decode cX5_hears 64 = .ok (.ireturn, 1) := by decide +kernel
set_option maxRecDepth 20000 in
theorem ggX5_countOf_X5_placeOf : GoodIn wsX5_countOf wsX5_placeOf := goodIn_r _ [5] (by decide +kernel) (by decide +kernel)
set_option maxRecDepth 20000 in
theorem gX5_countOf_X5_placeOf : GoodIn wsX5_countOf (va_wsS RX5 181 yX5_placeOf wsX5_placeOf) := goodIn_app (goodIn_of _ (by decide +kernel)) ggX5_countOf_X5_placeOf
theorem dX5_countOf_0 : decode cX5_countOf 0 = .ok (.iconst 0, 1) := by decide +kernel
theorem dX5_countOf_1 : decode cX5_countOf 1 = .ok (.istore 4, 2) := by decide +kernel
theorem dX5_countOf_3 : decode cX5_countOf 3 = .ok (.iconst 0, 1) := by decide +kernel
theorem dX5_countOf_4 : decode cX5_countOf 4 = .ok (.istore 5, 2) := by decide +kernel
theorem dX5_countOf_6 : decode cX5_countOf 6 = .ok (.iload 5, 2) := by decide +kernel
theorem dX5_countOf_8 : decode cX5_countOf 8 = .ok (.bipush 15, 2) := by decide +kernel
theorem dX5_countOf_10 : decode cX5_countOf 10 = .ok (.if_icmp .ge 35, 3) := by decide +kernel
theorem dX5_countOf_13 : decode cX5_countOf 13 = .ok (.iload 4, 2) := by decide +kernel
theorem dX5_countOf_15 : decode cX5_countOf 15 = .ok (.aload_n 0, 1) := by decide +kernel
theorem dX5_countOf_16 : decode cX5_countOf 16 = .ok (.getfield 53, 3) := by decide +kernel
theorem dX5_countOf_19 : decode cX5_countOf 19 = .ok (.iload_n 1, 1) := by decide +kernel
theorem dX5_countOf_20 : decode cX5_countOf 20 = .ok (.iload_n 2, 1) := by decide +kernel
theorem dX5_countOf_21 : decode cX5_countOf 21 = .ok (.iload 5, 2) := by decide +kernel
theorem dX5_countOf_23 : decode cX5_countOf 23 = .ok (.invokestatic 181, 3) := by decide +kernel
theorem dX5_countOf_26 : decode cX5_countOf 26 = .ok (.iaload, 1) := by decide +kernel
theorem dX5_countOf_27 : decode cX5_countOf 27 = .ok (.iload_n 3, 1) := by decide +kernel
theorem dX5_countOf_28 : decode cX5_countOf 28 = .ok (.if_icmp .gt 7, 3) := by decide +kernel
theorem dX5_countOf_31 : decode cX5_countOf 31 = .ok (.iconst 1, 1) := by decide +kernel
theorem dX5_countOf_32 : decode cX5_countOf 32 = .ok (.goto 4, 3) := by decide +kernel
theorem dX5_countOf_35 : decode cX5_countOf 35 = .ok (.iconst 0, 1) := by decide +kernel
theorem dX5_countOf_36 : decode cX5_countOf 36 = .ok (.iadd, 1) := by decide +kernel
theorem dX5_countOf_37 : decode cX5_countOf 37 = .ok (.istore 4, 2) := by decide +kernel
theorem dX5_countOf_39 : decode cX5_countOf 39 = .ok (.iinc 5 1, 3) := by decide +kernel
theorem dX5_countOf_42 : decode cX5_countOf 42 = .ok (.goto (-36), 3) := by decide +kernel
theorem dX5_countOf_45 : decode cX5_countOf 45 = .ok (.iload 4, 2) := by decide +kernel
theorem dX5_countOf_47 : decode cX5_countOf 47 = .ok (.ireturn, 1) := by decide +kernel
set_option maxRecDepth 20000 in
theorem ggX5_count_X5_noPerson : GoodIn wsX5_count wsX5_noPerson := goodIn_r _ [5, 6, 7, 8, 4, 9, 71, 72, 73, 74, 75, 76, 77, 78, 79, 80, 81, 82, 83, 84, 85, 86, 87, 88, 89, 90, 91, 92, 93, 94, 95, 96, 97, 98, 99, 100, 101, 102, 103, 104, 105] (by decide +kernel) (by decide +kernel)
set_option maxRecDepth 20000 in
theorem gX5_count_X5_noPerson : GoodIn wsX5_count (wsV RX5 167 RX5 yX5_noPerson wsX5_noPerson) := goodIn_app (goodIn_of _ (by decide +kernel)) ggX5_count_X5_noPerson
set_option maxRecDepth 20000 in
theorem ggX5_count_X5_isThing : GoodIn wsX5_count wsX5_isThing := goodIn_r _ [12, 13, 7, 8, 4, 9] (by decide +kernel) (by decide +kernel)
set_option maxRecDepth 20000 in
theorem gX5_count_X5_isThing : GoodIn wsX5_count (va_wsS RX5 173 yX5_isThing wsX5_isThing) := goodIn_app (goodIn_of _ (by decide +kernel)) ggX5_count_X5_isThing
set_option maxRecDepth 20000 in
theorem ggX5_count_X5_isDay : GoodIn wsX5_count wsX5_isDay := goodIn_r _ [16, 17, 7, 8, 4, 9] (by decide +kernel) (by decide +kernel)
set_option maxRecDepth 20000 in
theorem gX5_count_X5_isDay : GoodIn wsX5_count (va_wsS RX5 176 yX5_isDay wsX5_isDay) := goodIn_app (goodIn_of _ (by decide +kernel)) ggX5_count_X5_isDay
set_option maxRecDepth 20000 in
theorem ggX5_count_X5_go : GoodIn wsX5_count wsX5_go := goodIn_r _ [21, 22, 23, 24, 4, 25, 26, 27, 28, 29, 30, 31, 32, 33, 34, 35, 36, 37, 38, 39, 40, 41, 42, 43, 44, 45, 46, 47, 48, 49, 50, 51, 52, 53, 54, 55, 56, 57, 58, 59, 60, 61, 62, 63, 64, 65, 66, 71, 72, 73, 74, 75, 76, 77, 78, 79, 80, 81, 82, 83, 84, 85, 86, 87, 88, 89, 90, 91, 92, 93, 94, 95, 96, 97, 98, 99, 100, 101, 102, 103, 104, 105] (by decide +kernel) (by decide +kernel)
set_option maxRecDepth 20000 in
theorem gX5_count_X5_go : GoodIn wsX5_count (wsV RX5 210 RX5 yX5_go wsX5_go) := goodIn_app (goodIn_of _ (by decide +kernel)) ggX5_count_X5_go
set_option maxRecDepth 20000 in
theorem ggX5_count_X5_countOf : GoodIn wsX5_count wsX5_countOf := goodIn_r _ [70, 34, 39, 40, 4, 41, 71, 72, 73, 74, 75, 76, 77, 78, 79, 80, 81, 82, 83, 84, 85, 86, 87, 88, 89, 90, 91, 92, 93, 94, 95, 96, 97, 98, 99, 100, 101, 102, 103, 104, 105] (by decide +kernel) (by decide +kernel)
set_option maxRecDepth 20000 in
theorem gX5_count_X5_countOf : GoodIn wsX5_count (wsV RX5 213 RX5 yX5_countOf wsX5_countOf) := goodIn_app (goodIn_of _ (by decide +kernel)) ggX5_count_X5_countOf
theorem dX5_count_0 : decode cX5_count 0 = .ok (.aload_n 0, 1) := by decide +kernel
theorem dX5_count_1 : decode cX5_count 1 = .ok (.iload_n 1, 1) := by decide +kernel
theorem dX5_count_2 : decode cX5_count 2 = .ok (.invokevirtual 167, 3) := by decide +kernel
theorem dX5_count_5 : decode cX5_count 5 = .ok (.ifCond .eq 5, 3) := by decide +kernel
theorem dX5_count_8 : decode cX5_count 8 = .ok (.iconst (-1), 1) := by decide +kernel
theorem dX5_count_9 : decode cX5_count 9 = .ok (.ireturn, 1) := by decide +kernel
theorem dX5_count_10 : decode cX5_count 10 = .ok (.iload_n 2, 1) := by decide +kernel
theorem dX5_count_11 : decode cX5_count 11 = .ok (.invokestatic 173, 3) := by decide +kernel
theorem dX5_count_14 : decode cX5_count 14 = .ok (.ifCond .eq 10, 3) := by decide +kernel
theorem dX5_count_17 : decode cX5_count 17 = .ok (.iload_n 3, 1) := by decide +kernel
theorem dX5_count_18 : decode cX5_count 18 = .ok (.invokestatic 176, 3) := by decide +kernel
theorem dX5_count_21 : decode cX5_count 21 = .ok (.ifCond .ne 6, 3) := by decide +kernel
theorem dX5_count_24 : decode cX5_count 24 = .ok (.bipush (-2), 2) := by decide +kernel
theorem dX5_count_26 : decode cX5_count 26 = .ok (.ireturn, 1) := by decide +kernel
theorem dX5_count_27 : decode cX5_count 27 = .ok (.aload_n 0, 1) := by decide +kernel
theorem dX5_count_28 : decode cX5_count 28 = .ok (.invokevirtual 210, 3) := by decide +kernel
theorem dX5_count_31 : decode cX5_count 31 = .ok (.aload_n 0, 1) := by decide +kernel
theorem dX5_count_32 : decode cX5_count 32 = .ok (.iload_n 1, 1) := by decide +kernel
theorem dX5_count_33 : decode cX5_count 33 = .ok (.iload_n 2, 1) := by decide +kernel
theorem dX5_count_34 : decode cX5_count 34 = .ok (.iload_n 3, 1) := by decide +kernel
theorem dX5_count_35 : decode cX5_count 35 = .ok (.invokevirtual 213, 3) := by decide +kernel
theorem dX5_count_38 : decode cX5_count 38 = .ok (.ireturn, 1) := by decide +kernel
set_option maxRecDepth 20000 in
theorem ggX5_forgedOn_X5_countOf : GoodIn wsX5_forgedOn wsX5_countOf := goodIn_r _ [7, 8, 9, 10, 6, 11, 12, 13, 14, 15, 16, 17, 18, 19, 20, 21, 22, 23, 24, 25, 26, 27, 28, 29, 30, 31, 32, 33, 34, 35, 36, 37, 38, 39, 40, 41, 42, 43, 44, 45, 46] (by decide +kernel) (by decide +kernel)
set_option maxRecDepth 20000 in
theorem gX5_forgedOn_X5_countOf : GoodIn wsX5_forgedOn (wsV RX5 213 RX5 yX5_countOf wsX5_countOf) := goodIn_app (goodIn_of _ (by decide +kernel)) ggX5_forgedOn_X5_countOf
theorem dX5_forgedOn_0 : decode cX5_forgedOn 0 = .ok (.iconst 0, 1) := by decide +kernel
theorem dX5_forgedOn_1 : decode cX5_forgedOn 1 = .ok (.istore_n 3, 1) := by decide +kernel
theorem dX5_forgedOn_2 : decode cX5_forgedOn 2 = .ok (.iload_n 3, 1) := by decide +kernel
theorem dX5_forgedOn_3 : decode cX5_forgedOn 3 = .ok (.bipush 59, 2) := by decide +kernel
theorem dX5_forgedOn_5 : decode cX5_forgedOn 5 = .ok (.if_icmp .gt 34, 3) := by decide +kernel
theorem dX5_forgedOn_8 : decode cX5_forgedOn 8 = .ok (.aload_n 0, 1) := by decide +kernel
theorem dX5_forgedOn_9 : decode cX5_forgedOn 9 = .ok (.getfield 26, 3) := by decide +kernel
theorem dX5_forgedOn_12 : decode cX5_forgedOn 12 = .ok (.iload_n 3, 1) := by decide +kernel
theorem dX5_forgedOn_13 : decode cX5_forgedOn 13 = .ok (.baload, 1) := by decide +kernel
theorem dX5_forgedOn_14 : decode cX5_forgedOn 14 = .ok (.ifCond .ne 19, 3) := by decide +kernel
theorem dX5_forgedOn_17 : decode cX5_forgedOn 17 = .ok (.aload_n 0, 1) := by decide +kernel
theorem dX5_forgedOn_18 : decode cX5_forgedOn 18 = .ok (.iload_n 1, 1) := by decide +kernel
theorem dX5_forgedOn_19 : decode cX5_forgedOn 19 = .ok (.iload_n 2, 1) := by decide +kernel
theorem dX5_forgedOn_20 : decode cX5_forgedOn 20 = .ok (.iload_n 3, 1) := by decide +kernel
theorem dX5_forgedOn_21 : decode cX5_forgedOn 21 = .ok (.invokevirtual 213, 3) := by decide +kernel
theorem dX5_forgedOn_24 : decode cX5_forgedOn 24 = .ok (.aload_n 0, 1) := by decide +kernel
theorem dX5_forgedOn_25 : decode cX5_forgedOn 25 = .ok (.getfield 158, 3) := by decide +kernel
theorem dX5_forgedOn_28 : decode cX5_forgedOn 28 = .ok (.if_icmp .lt 5, 3) := by decide +kernel
theorem dX5_forgedOn_31 : decode cX5_forgedOn 31 = .ok (.iload_n 3, 1) := by decide +kernel
theorem dX5_forgedOn_32 : decode cX5_forgedOn 32 = .ok (.ireturn, 1) := by decide +kernel
theorem dX5_forgedOn_33 : decode cX5_forgedOn 33 = .ok (.iinc 3 1, 3) := by decide +kernel
theorem dX5_forgedOn_36 : decode cX5_forgedOn 36 = .ok (.goto (-34), 3) := by decide +kernel
theorem dX5_forgedOn_39 : decode cX5_forgedOn 39 = .ok (.sipush 999, 3) := by decide +kernel
theorem dX5_forgedOn_42 : decode cX5_forgedOn 42 = .ok (.ireturn, 1) := by decide +kernel
set_option maxRecDepth 20000 in
theorem ggX5_forges_X5_noPerson : GoodIn wsX5_forges wsX5_noPerson := goodIn_r _ [6, 7, 8, 9, 5, 10, 74, 75, 76, 77, 78, 79, 80, 81, 82, 83, 84, 85, 86, 87, 88, 89, 90, 91, 92, 93, 94, 95, 96, 97, 98, 99, 100, 101, 102, 103, 104, 105, 106, 107, 108] (by decide +kernel) (by decide +kernel)
set_option maxRecDepth 20000 in
theorem gX5_forges_X5_noPerson : GoodIn wsX5_forges (wsV RX5 167 RX5 yX5_noPerson wsX5_noPerson) := goodIn_app (goodIn_of _ (by decide +kernel)) ggX5_forges_X5_noPerson
set_option maxRecDepth 20000 in
theorem ggX5_forges_X5_isThing : GoodIn wsX5_forges wsX5_isThing := goodIn_r _ [13, 14, 8, 9, 5, 10] (by decide +kernel) (by decide +kernel)
set_option maxRecDepth 20000 in
theorem gX5_forges_X5_isThing : GoodIn wsX5_forges (va_wsS RX5 173 yX5_isThing wsX5_isThing) := goodIn_app (goodIn_of _ (by decide +kernel)) ggX5_forges_X5_isThing
set_option maxRecDepth 20000 in
theorem ggX5_forges_X5_go : GoodIn wsX5_forges wsX5_go := goodIn_r _ [18, 19, 20, 21, 5, 22, 23, 24, 25, 26, 27, 28, 29, 30, 31, 32, 33, 34, 35, 36, 37, 38, 39, 40, 41, 42, 43, 44, 45, 46, 47, 48, 49, 50, 51, 52, 53, 54, 55, 56, 57, 58, 59, 60, 61, 62, 63, 74, 75, 76, 77, 78, 79, 80, 81, 82, 83, 84, 85, 86, 87, 88, 89, 90, 91, 92, 93, 94, 95, 96, 97, 98, 99, 100, 101, 102, 103, 104, 105, 106, 107, 108] (by decide +kernel) (by decide +kernel)
set_option maxRecDepth 20000 in
theorem gX5_forges_X5_go : GoodIn wsX5_forges (wsV RX5 210 RX5 yX5_go wsX5_go) := goodIn_app (goodIn_of _ (by decide +kernel)) ggX5_forges_X5_go
set_option maxRecDepth 20000 in
theorem ggX5_forges_X5_forgedOn : GoodIn wsX5_forges wsX5_forgedOn := goodIn_r _ [67, 68, 69, 70, 71, 72, 5, 73, 31, 36, 37, 38, 74, 75, 76, 77, 78, 79, 80, 81, 82, 83, 84, 85, 86, 87, 88, 89, 90, 91, 92, 93, 94, 95, 96, 97, 98, 99, 100, 101, 102, 103, 104, 105, 106, 107, 108] (by decide +kernel) (by decide +kernel)
set_option maxRecDepth 20000 in
theorem gX5_forges_X5_forgedOn : GoodIn wsX5_forges (wsV RX5 216 RX5 yX5_forgedOn wsX5_forgedOn) := goodIn_app (goodIn_of _ (by decide +kernel)) ggX5_forges_X5_forgedOn
theorem dX5_forges_0 : decode cX5_forges 0 = .ok (.aload_n 0, 1) := by decide +kernel
theorem dX5_forges_1 : decode cX5_forges 1 = .ok (.iload_n 1, 1) := by decide +kernel
theorem dX5_forges_2 : decode cX5_forges 2 = .ok (.invokevirtual 167, 3) := by decide +kernel
theorem dX5_forges_5 : decode cX5_forges 5 = .ok (.ifCond .eq 5, 3) := by decide +kernel
theorem dX5_forges_8 : decode cX5_forges 8 = .ok (.iconst (-1), 1) := by decide +kernel
theorem dX5_forges_9 : decode cX5_forges 9 = .ok (.ireturn, 1) := by decide +kernel
theorem dX5_forges_10 : decode cX5_forges 10 = .ok (.iload_n 2, 1) := by decide +kernel
theorem dX5_forges_11 : decode cX5_forges 11 = .ok (.invokestatic 173, 3) := by decide +kernel
theorem dX5_forges_14 : decode cX5_forges 14 = .ok (.ifCond .ne 6, 3) := by decide +kernel
theorem dX5_forges_17 : decode cX5_forges 17 = .ok (.bipush (-2), 2) := by decide +kernel
theorem dX5_forges_19 : decode cX5_forges 19 = .ok (.ireturn, 1) := by decide +kernel
theorem dX5_forges_20 : decode cX5_forges 20 = .ok (.aload_n 0, 1) := by decide +kernel
theorem dX5_forges_21 : decode cX5_forges 21 = .ok (.getfield 13, 3) := by decide +kernel
theorem dX5_forges_24 : decode cX5_forges 24 = .ok (.iload_n 1, 1) := by decide +kernel
theorem dX5_forges_25 : decode cX5_forges 25 = .ok (.baload, 1) := by decide +kernel
theorem dX5_forges_26 : decode cX5_forges 26 = .ok (.ifCond .ne 6, 3) := by decide +kernel
theorem dX5_forges_29 : decode cX5_forges 29 = .ok (.bipush (-3), 2) := by decide +kernel
theorem dX5_forges_31 : decode cX5_forges 31 = .ok (.ireturn, 1) := by decide +kernel
theorem dX5_forges_32 : decode cX5_forges 32 = .ok (.aload_n 0, 1) := by decide +kernel
theorem dX5_forges_33 : decode cX5_forges 33 = .ok (.invokevirtual 210, 3) := by decide +kernel
theorem dX5_forges_36 : decode cX5_forges 36 = .ok (.aload_n 0, 1) := by decide +kernel
theorem dX5_forges_37 : decode cX5_forges 37 = .ok (.iload_n 1, 1) := by decide +kernel
theorem dX5_forges_38 : decode cX5_forges 38 = .ok (.iload_n 2, 1) := by decide +kernel
theorem dX5_forges_39 : decode cX5_forges 39 = .ok (.invokevirtual 216, 3) := by decide +kernel
theorem dX5_forges_42 : decode cX5_forges 42 = .ok (.istore_n 3, 1) := by decide +kernel
theorem dX5_forges_43 : decode cX5_forges 43 = .ok (.iload_n 3, 1) := by decide +kernel
theorem dX5_forges_44 : decode cX5_forges 44 = .ok (.sipush 999, 3) := by decide +kernel
theorem dX5_forges_47 : decode cX5_forges 47 = .ok (.if_icmp .ne 8, 3) := by decide +kernel
theorem dX5_forges_50 : decode cX5_forges 50 = .ok (.bipush (-9), 2) := by decide +kernel
theorem dX5_forges_52 : decode cX5_forges 52 = .ok (.goto 4, 3) := by decide +kernel
theorem dX5_forges_55 : decode cX5_forges 55 = .ok (.iload_n 3, 1) := by decide +kernel
theorem dX5_forges_56 : decode cX5_forges 56 = .ok (.ireturn, 1) := by decide +kernel
set_option maxRecDepth 20000 in
theorem ggX5_worksBy_X5_forgedOn : GoodIn wsX5_worksBy wsX5_forgedOn := goodIn_r _ [7, 8, 9, 10, 11, 12, 6, 13, 14, 15, 16, 17, 18, 19, 20, 21, 22, 23, 24, 25, 26, 27, 28, 29, 30, 31, 32, 33, 34, 35, 36, 37, 38, 39, 40, 41, 42, 43, 44, 45, 46, 47, 48, 49, 50, 51, 52] (by decide +kernel) (by decide +kernel)
set_option maxRecDepth 20000 in
theorem gX5_worksBy_X5_forgedOn : GoodIn wsX5_worksBy (wsV RX5 216 RX5 yX5_forgedOn wsX5_forgedOn) := goodIn_app (goodIn_of _ (by decide +kernel)) ggX5_worksBy_X5_forgedOn
theorem dX5_worksBy_0 : decode cX5_worksBy 0 = .ok (.iconst 0, 1) := by decide +kernel
theorem dX5_worksBy_1 : decode cX5_worksBy 1 = .ok (.istore_n 2, 1) := by decide +kernel
theorem dX5_worksBy_2 : decode cX5_worksBy 2 = .ok (.iconst 0, 1) := by decide +kernel
theorem dX5_worksBy_3 : decode cX5_worksBy 3 = .ok (.istore_n 3, 1) := by decide +kernel
theorem dX5_worksBy_4 : decode cX5_worksBy 4 = .ok (.iload_n 3, 1) := by decide +kernel
theorem dX5_worksBy_5 : decode cX5_worksBy 5 = .ok (.aload_n 0, 1) := by decide +kernel
theorem dX5_worksBy_6 : decode cX5_worksBy 6 = .ok (.getfield 93, 3) := by decide +kernel
theorem dX5_worksBy_9 : decode cX5_worksBy 9 = .ok (.if_icmp .ge 52, 3) := by decide +kernel
theorem dX5_worksBy_12 : decode cX5_worksBy 12 = .ok (.iconst 0, 1) := by decide +kernel
theorem dX5_worksBy_13 : decode cX5_worksBy 13 = .ok (.istore 4, 2) := by decide +kernel
theorem dX5_worksBy_15 : decode cX5_worksBy 15 = .ok (.iload 4, 2) := by decide +kernel
theorem dX5_worksBy_17 : decode cX5_worksBy 17 = .ok (.iconst 4, 1) := by decide +kernel
theorem dX5_worksBy_18 : decode cX5_worksBy 18 = .ok (.if_icmp .ge 37, 3) := by decide +kernel
theorem dX5_worksBy_21 : decode cX5_worksBy 21 = .ok (.aload_n 0, 1) := by decide +kernel
theorem dX5_worksBy_22 : decode cX5_worksBy 22 = .ok (.getfield 13, 3) := by decide +kernel
theorem dX5_worksBy_25 : decode cX5_worksBy 25 = .ok (.iload_n 3, 1) := by decide +kernel
theorem dX5_worksBy_26 : decode cX5_worksBy 26 = .ok (.baload, 1) := by decide +kernel
theorem dX5_worksBy_27 : decode cX5_worksBy 27 = .ok (.ifCond .eq 28, 3) := by decide +kernel
theorem dX5_worksBy_30 : decode cX5_worksBy 30 = .ok (.iload_n 2, 1) := by decide +kernel
theorem dX5_worksBy_31 : decode cX5_worksBy 31 = .ok (.aload_n 0, 1) := by decide +kernel
theorem dX5_worksBy_32 : decode cX5_worksBy 32 = .ok (.iload_n 3, 1) := by decide +kernel
theorem dX5_worksBy_33 : decode cX5_worksBy 33 = .ok (.iload 4, 2) := by decide +kernel
theorem dX5_worksBy_35 : decode cX5_worksBy 35 = .ok (.invokevirtual 216, 3) := by decide +kernel
theorem dX5_worksBy_38 : decode cX5_worksBy 38 = .ok (.iload_n 1, 1) := by decide +kernel
theorem dX5_worksBy_39 : decode cX5_worksBy 39 = .ok (.if_icmp .gt 7, 3) := by decide +kernel
theorem dX5_worksBy_42 : decode cX5_worksBy 42 = .ok (.iconst 1, 1) := by decide +kernel
theorem dX5_worksBy_43 : decode cX5_worksBy 43 = .ok (.goto 4, 3) := by decide +kernel
theorem dX5_worksBy_46 : decode cX5_worksBy 46 = .ok (.iconst 0, 1) := by decide +kernel
theorem dX5_worksBy_47 : decode cX5_worksBy 47 = .ok (.iadd, 1) := by decide +kernel
theorem dX5_worksBy_48 : decode cX5_worksBy 48 = .ok (.istore_n 2, 1) := by decide +kernel
theorem dX5_worksBy_49 : decode cX5_worksBy 49 = .ok (.iinc 4 1, 3) := by decide +kernel
theorem dX5_worksBy_52 : decode cX5_worksBy 52 = .ok (.goto (-37), 3) := by decide +kernel
theorem dX5_worksBy_55 : decode cX5_worksBy 55 = .ok (.iinc 3 1, 3) := by decide +kernel
theorem dX5_worksBy_58 : decode cX5_worksBy 58 = .ok (.goto (-54), 3) := by decide +kernel
theorem dX5_worksBy_61 : decode cX5_worksBy 61 = .ok (.iload_n 2, 1) := by decide +kernel
theorem dX5_worksBy_62 : decode cX5_worksBy 62 = .ok (.ireturn, 1) := by decide +kernel
set_option maxRecDepth 20000 in
theorem ggX5_works_X5_isDay : GoodIn wsX5_works wsX5_isDay := goodIn_r _ [5, 6, 7, 8, 4, 9] (by decide +kernel) (by decide +kernel)
set_option maxRecDepth 20000 in
theorem gX5_works_X5_isDay : GoodIn wsX5_works (va_wsS RX5 176 yX5_isDay wsX5_isDay) := goodIn_app (goodIn_of _ (by decide +kernel)) ggX5_works_X5_isDay
set_option maxRecDepth 20000 in
theorem ggX5_works_X5_go : GoodIn wsX5_works wsX5_go := goodIn_r _ [13, 14, 15, 16, 4, 17, 18, 19, 20, 21, 22, 23, 24, 25, 26, 27, 28, 29, 30, 31, 32, 33, 34, 35, 36, 37, 38, 39, 40, 41, 42, 43, 44, 45, 46, 47, 48, 49, 50, 51, 52, 53, 54, 55, 56, 57, 58, 74, 75, 76, 77, 78, 79, 80, 81, 82, 83, 84, 85, 86, 87, 88, 89, 90, 91, 92, 93, 94, 95, 96, 97, 98, 99, 100, 101, 102, 103, 104, 105, 106, 107, 108] (by decide +kernel) (by decide +kernel)
set_option maxRecDepth 20000 in
theorem gX5_works_X5_go : GoodIn wsX5_works (wsV RX5 210 RX5 yX5_go wsX5_go) := goodIn_app (goodIn_of _ (by decide +kernel)) ggX5_works_X5_go
set_option maxRecDepth 20000 in
theorem ggX5_works_X5_worksBy : GoodIn wsX5_works wsX5_worksBy := goodIn_r _ [62, 1, 63, 64, 65, 66, 4, 67, 68, 69, 70, 71, 72, 73, 26, 31, 32, 33, 74, 75, 76, 77, 78, 79, 80, 81, 82, 83, 84, 85, 86, 87, 88, 89, 90, 91, 92, 93, 94, 95, 96, 97, 98, 99, 100, 101, 102, 103, 104, 105, 106, 107, 108] (by decide +kernel) (by decide +kernel)
set_option maxRecDepth 20000 in
theorem gX5_works_X5_worksBy : GoodIn wsX5_works (wsV RX5 219 RX5 yX5_worksBy wsX5_worksBy) := goodIn_app (goodIn_of _ (by decide +kernel)) ggX5_works_X5_worksBy
theorem dX5_works_0 : decode cX5_works 0 = .ok (.iload_n 1, 1) := by decide +kernel
theorem dX5_works_1 : decode cX5_works 1 = .ok (.invokestatic 176, 3) := by decide +kernel
theorem dX5_works_4 : decode cX5_works 4 = .ok (.ifCond .ne 6, 3) := by decide +kernel
theorem dX5_works_7 : decode cX5_works 7 = .ok (.bipush (-2), 2) := by decide +kernel
theorem dX5_works_9 : decode cX5_works 9 = .ok (.ireturn, 1) := by decide +kernel
theorem dX5_works_10 : decode cX5_works 10 = .ok (.aload_n 0, 1) := by decide +kernel
theorem dX5_works_11 : decode cX5_works 11 = .ok (.getfield 93, 3) := by decide +kernel
theorem dX5_works_14 : decode cX5_works 14 = .ok (.ifCond .ne 6, 3) := by decide +kernel
theorem dX5_works_17 : decode cX5_works 17 = .ok (.bipush (-3), 2) := by decide +kernel
theorem dX5_works_19 : decode cX5_works 19 = .ok (.ireturn, 1) := by decide +kernel
theorem dX5_works_20 : decode cX5_works 20 = .ok (.aload_n 0, 1) := by decide +kernel
theorem dX5_works_21 : decode cX5_works 21 = .ok (.invokevirtual 210, 3) := by decide +kernel
theorem dX5_works_24 : decode cX5_works 24 = .ok (.aload_n 0, 1) := by decide +kernel
theorem dX5_works_25 : decode cX5_works 25 = .ok (.iload_n 1, 1) := by decide +kernel
theorem dX5_works_26 : decode cX5_works 26 = .ok (.invokevirtual 219, 3) := by decide +kernel
theorem dX5_works_29 : decode cX5_works 29 = .ok (.ireturn, 1) := by decide +kernel
set_option maxRecDepth 20000 in
theorem ggX5_comesBy_X5_placeOf : GoodIn wsX5_comesBy wsX5_placeOf := goodIn_r _ [9] (by decide +kernel) (by decide +kernel)
set_option maxRecDepth 20000 in
theorem gX5_comesBy_X5_placeOf : GoodIn wsX5_comesBy (va_wsS RX5 181 yX5_placeOf wsX5_placeOf) := goodIn_app (goodIn_of _ (by decide +kernel)) ggX5_comesBy_X5_placeOf
set_option maxRecDepth 20000 in
theorem ggX5_comesBy_X5_thingBy : GoodIn wsX5_comesBy wsX5_thingBy := goodIn_r _ [13, 14, 22, 23, 24, 25, 26, 27, 28, 29, 30, 31, 32, 33, 34, 35, 36, 37, 38, 39, 40, 41, 42, 43, 44, 45, 46, 47, 48, 49, 50, 51, 52, 53, 54, 55, 56] (by decide +kernel) (by decide +kernel)
set_option maxRecDepth 20000 in
theorem gX5_comesBy_X5_thingBy : GoodIn wsX5_comesBy (wsV RX5 185 RX5 yX5_thingBy wsX5_thingBy) := goodIn_app (goodIn_of _ (by decide +kernel)) ggX5_comesBy_X5_thingBy
set_option maxRecDepth 20000 in
theorem ggX5_comesBy_X5_originBy : GoodIn wsX5_comesBy wsX5_originBy := goodIn_r _ [18, 14, 22, 23, 24, 25, 26, 27, 28, 29, 30, 31, 32, 33, 34, 35, 36, 37, 38, 39, 40, 41, 42, 43, 44, 45, 46, 47, 48, 49, 50, 51, 52, 53, 54, 55, 56] (by decide +kernel) (by decide +kernel)
set_option maxRecDepth 20000 in
theorem gX5_comesBy_X5_originBy : GoodIn wsX5_comesBy (wsV RX5 188 RX5 yX5_originBy wsX5_originBy) := goodIn_app (goodIn_of _ (by decide +kernel)) ggX5_comesBy_X5_originBy
set_option maxRecDepth 20000 in
theorem ggX5_comesBy_X5_isIn : GoodIn wsX5_comesBy wsX5_isIn := goodIn_r _ [21] (by decide +kernel) (by decide +kernel)
set_option maxRecDepth 20000 in
theorem gX5_comesBy_X5_isIn : GoodIn wsX5_comesBy (va_wsS RX5 170 yX5_isIn wsX5_isIn) := goodIn_app (goodIn_of _ (by decide +kernel)) ggX5_comesBy_X5_isIn
theorem dX5_comesBy_0 : decode cX5_comesBy 0 = .ok (.aload_n 0, 1) := by decide +kernel
theorem dX5_comesBy_1 : decode cX5_comesBy 1 = .ok (.getfield 17, 3) := by decide +kernel
theorem dX5_comesBy_4 : decode cX5_comesBy 4 = .ok (.iload_n 1, 1) := by decide +kernel
theorem dX5_comesBy_5 : decode cX5_comesBy 5 = .ok (.iaload, 1) := by decide +kernel
theorem dX5_comesBy_6 : decode cX5_comesBy 6 = .ok (.istore 5, 2) := by decide +kernel
theorem dX5_comesBy_8 : decode cX5_comesBy 8 = .ok (.aload_n 0, 1) := by decide +kernel
theorem dX5_comesBy_9 : decode cX5_comesBy 9 = .ok (.getfield 53, 3) := by decide +kernel
theorem dX5_comesBy_12 : decode cX5_comesBy 12 = .ok (.iload_n 2, 1) := by decide +kernel
theorem dX5_comesBy_13 : decode cX5_comesBy 13 = .ok (.iload_n 3, 1) := by decide +kernel
theorem dX5_comesBy_14 : decode cX5_comesBy 14 = .ok (.iload 4, 2) := by decide +kernel
theorem dX5_comesBy_16 : decode cX5_comesBy 16 = .ok (.invokestatic 181, 3) := by decide +kernel
theorem dX5_comesBy_19 : decode cX5_comesBy 19 = .ok (.iaload, 1) := by decide +kernel
theorem dX5_comesBy_20 : decode cX5_comesBy 20 = .ok (.istore 6, 2) := by decide +kernel
theorem dX5_comesBy_22 : decode cX5_comesBy 22 = .ok (.iconst 0, 1) := by decide +kernel
theorem dX5_comesBy_23 : decode cX5_comesBy 23 = .ok (.istore 7, 2) := by decide +kernel
theorem dX5_comesBy_25 : decode cX5_comesBy 25 = .ok (.iconst 0, 1) := by decide +kernel
theorem dX5_comesBy_26 : decode cX5_comesBy 26 = .ok (.istore 8, 2) := by decide +kernel
theorem dX5_comesBy_28 : decode cX5_comesBy 28 = .ok (.iload 8, 2) := by decide +kernel
theorem dX5_comesBy_30 : decode cX5_comesBy 30 = .ok (.bipush 60, 2) := by decide +kernel
theorem dX5_comesBy_32 : decode cX5_comesBy 32 = .ok (.if_icmp .ge 96, 3) := by decide +kernel
theorem dX5_comesBy_35 : decode cX5_comesBy 35 = .ok (.aload_n 0, 1) := by decide +kernel
theorem dX5_comesBy_36 : decode cX5_comesBy 36 = .ok (.iload 5, 2) := by decide +kernel
theorem dX5_comesBy_38 : decode cX5_comesBy 38 = .ok (.iload 8, 2) := by decide +kernel
theorem dX5_comesBy_40 : decode cX5_comesBy 40 = .ok (.bipush 15, 2) := by decide +kernel
theorem dX5_comesBy_42 : decode cX5_comesBy 42 = .ok (.idiv, 1) := by decide +kernel
theorem dX5_comesBy_43 : decode cX5_comesBy 43 = .ok (.invokevirtual 185, 3) := by decide +kernel
theorem dX5_comesBy_46 : decode cX5_comesBy 46 = .ok (.iload_n 3, 1) := by decide +kernel
theorem dX5_comesBy_47 : decode cX5_comesBy 47 = .ok (.if_icmp .ne 23, 3) := by decide +kernel
theorem dX5_comesBy_50 : decode cX5_comesBy 50 = .ok (.aload_n 0, 1) := by decide +kernel
theorem dX5_comesBy_51 : decode cX5_comesBy 51 = .ok (.iload 5, 2) := by decide +kernel
theorem dX5_comesBy_53 : decode cX5_comesBy 53 = .ok (.iload 8, 2) := by decide +kernel
theorem dX5_comesBy_55 : decode cX5_comesBy 55 = .ok (.bipush 15, 2) := by decide +kernel
theorem dX5_comesBy_57 : decode cX5_comesBy 57 = .ok (.irem, 1) := by decide +kernel
theorem dX5_comesBy_58 : decode cX5_comesBy 58 = .ok (.invokevirtual 188, 3) := by decide +kernel
theorem dX5_comesBy_61 : decode cX5_comesBy 61 = .ok (.iload 4, 2) := by decide +kernel
theorem dX5_comesBy_63 : decode cX5_comesBy 63 = .ok (.if_icmp .ne 7, 3) := by decide +kernel
theorem dX5_comesBy_66 : decode cX5_comesBy 66 = .ok (.iconst 1, 1) := by decide +kernel
theorem dX5_comesBy_67 : decode cX5_comesBy 67 = .ok (.goto 4, 3) := by decide +kernel
theorem dX5_comesBy_70 : decode cX5_comesBy 70 = .ok (.iconst 0, 1) := by decide +kernel
theorem dX5_comesBy_71 : decode cX5_comesBy 71 = .ok (.istore 9, 2) := by decide +kernel
theorem dX5_comesBy_73 : decode cX5_comesBy 73 = .ok (.iload 7, 2) := by decide +kernel
theorem dX5_comesBy_75 : decode cX5_comesBy 75 = .ok (.ifCond .ne 40, 3) := by decide +kernel
theorem dX5_comesBy_78 : decode cX5_comesBy 78 = .ok (.iload 9, 2) := by decide +kernel
theorem dX5_comesBy_80 : decode cX5_comesBy 80 = .ok (.ifCond .eq 39, 3) := by decide +kernel
theorem dX5_comesBy_83 : decode cX5_comesBy 83 = .ok (.aload_n 0, 1) := by decide +kernel
theorem dX5_comesBy_84 : decode cX5_comesBy 84 = .ok (.getfield 53, 3) := by decide +kernel
theorem dX5_comesBy_87 : decode cX5_comesBy 87 = .ok (.iload 5, 2) := by decide +kernel
theorem dX5_comesBy_89 : decode cX5_comesBy 89 = .ok (.iload 8, 2) := by decide +kernel
theorem dX5_comesBy_91 : decode cX5_comesBy 91 = .ok (.bipush 15, 2) := by decide +kernel
theorem dX5_comesBy_93 : decode cX5_comesBy 93 = .ok (.idiv, 1) := by decide +kernel
theorem dX5_comesBy_94 : decode cX5_comesBy 94 = .ok (.iload 8, 2) := by decide +kernel
theorem dX5_comesBy_96 : decode cX5_comesBy 96 = .ok (.bipush 15, 2) := by decide +kernel
theorem dX5_comesBy_98 : decode cX5_comesBy 98 = .ok (.irem, 1) := by decide +kernel
theorem dX5_comesBy_99 : decode cX5_comesBy 99 = .ok (.invokestatic 181, 3) := by decide +kernel
theorem dX5_comesBy_102 : decode cX5_comesBy 102 = .ok (.iaload, 1) := by decide +kernel
theorem dX5_comesBy_103 : decode cX5_comesBy 103 = .ok (.aload_n 0, 1) := by decide +kernel
theorem dX5_comesBy_104 : decode cX5_comesBy 104 = .ok (.getfield 23, 3) := by decide +kernel
theorem dX5_comesBy_107 : decode cX5_comesBy 107 = .ok (.iload_n 1, 1) := by decide +kernel
theorem dX5_comesBy_108 : decode cX5_comesBy 108 = .ok (.iaload, 1) := by decide +kernel
theorem dX5_comesBy_109 : decode cX5_comesBy 109 = .ok (.iadd, 1) := by decide +kernel
theorem dX5_comesBy_110 : decode cX5_comesBy 110 = .ok (.iload 6, 2) := by decide +kernel
theorem dX5_comesBy_112 : decode cX5_comesBy 112 = .ok (.if_icmp .ne 7, 3) := by decide +kernel
theorem dX5_comesBy_115 : decode cX5_comesBy 115 = .ok (.iconst 1, 1) := by decide +kernel
theorem dX5_comesBy_116 : decode cX5_comesBy 116 = .ok (.goto 4, 3) := by decide +kernel
theorem dX5_comesBy_119 : decode cX5_comesBy 119 = .ok (.iconst 0, 1) := by decide +kernel
theorem dX5_comesBy_120 : decode cX5_comesBy 120 = .ok (.istore 7, 2) := by decide +kernel
theorem dX5_comesBy_122 : decode cX5_comesBy 122 = .ok (.iinc 8 1, 3) := by decide +kernel
theorem dX5_comesBy_125 : decode cX5_comesBy 125 = .ok (.goto (-97), 3) := by decide +kernel
theorem dX5_comesBy_128 : decode cX5_comesBy 128 = .ok (.iload 7, 2) := by decide +kernel
theorem dX5_comesBy_130 : decode cX5_comesBy 130 = .ok (.ifCond .eq 29, 3) := by decide +kernel
theorem dX5_comesBy_133 : decode cX5_comesBy 133 = .ok (.aload_n 0, 1) := by decide +kernel
theorem dX5_comesBy_134 : decode cX5_comesBy 134 = .ok (.getfield 20, 3) := by decide +kernel
theorem dX5_comesBy_137 : decode cX5_comesBy 137 = .ok (.iload_n 1, 1) := by decide +kernel
theorem dX5_comesBy_138 : decode cX5_comesBy 138 = .ok (.iaload, 1) := by decide +kernel
theorem dX5_comesBy_139 : decode cX5_comesBy 139 = .ok (.iload_n 2, 1) := by decide +kernel
theorem dX5_comesBy_140 : decode cX5_comesBy 140 = .ok (.if_icmp .ne 19, 3) := by decide +kernel
theorem dX5_comesBy_143 : decode cX5_comesBy 143 = .ok (.aload_n 0, 1) := by decide +kernel
theorem dX5_comesBy_144 : decode cX5_comesBy 144 = .ok (.getfield 155, 3) := by decide +kernel
theorem dX5_comesBy_147 : decode cX5_comesBy 147 = .ok (.iload 5, 2) := by decide +kernel
theorem dX5_comesBy_149 : decode cX5_comesBy 149 = .ok (.invokestatic 170, 3) := by decide +kernel
theorem dX5_comesBy_152 : decode cX5_comesBy 152 = .ok (.ifCond .ne 7, 3) := by decide +kernel
theorem dX5_comesBy_155 : decode cX5_comesBy 155 = .ok (.iconst 1, 1) := by decide +kernel
theorem dX5_comesBy_156 : decode cX5_comesBy 156 = .ok (.goto 4, 3) := by decide +kernel
theorem dX5_comesBy_159 : decode cX5_comesBy 159 = .ok (.iconst 0, 1) := by decide +kernel
theorem dX5_comesBy_160 : decode cX5_comesBy 160 = .ok (.ireturn, 1) := by decide +kernel
set_option maxRecDepth 20000 in
theorem ggX5_path_X5_noPerson : GoodIn wsX5_path wsX5_noPerson := goodIn_r _ [10, 11, 12, 13, 9, 14, 68, 69, 70, 71, 72, 73, 74, 75, 76, 77, 78, 79, 80, 81, 82, 83, 84, 85, 86, 87, 88, 89, 90, 91, 92, 93, 94, 95, 96, 97, 98, 99, 100, 101, 102] (by decide +kernel) (by decide +kernel)
set_option maxRecDepth 20000 in
theorem gX5_path_X5_noPerson : GoodIn wsX5_path (wsV RX5 167 RX5 yX5_noPerson wsX5_noPerson) := goodIn_app (goodIn_of _ (by decide +kernel)) ggX5_path_X5_noPerson
set_option maxRecDepth 20000 in
theorem ggX5_path_X5_isThing : GoodIn wsX5_path wsX5_isThing := goodIn_r _ [17, 18, 12, 13, 9, 14] (by decide +kernel) (by decide +kernel)
set_option maxRecDepth 20000 in
theorem gX5_path_X5_isThing : GoodIn wsX5_path (va_wsS RX5 173 yX5_isThing wsX5_isThing) := goodIn_app (goodIn_of _ (by decide +kernel)) ggX5_path_X5_isThing
set_option maxRecDepth 20000 in
theorem ggX5_path_X5_in : GoodIn wsX5_path wsX5_in := goodIn_r _ [14] (by decide +kernel) (by decide +kernel)
set_option maxRecDepth 20000 in
theorem gX5_path_X5_in : GoodIn wsX5_path (va_wsS RX5 96 yX5_in wsX5_in) := goodIn_app (goodIn_of _ (by decide +kernel)) ggX5_path_X5_in
set_option maxRecDepth 20000 in
theorem ggX5_path_X5_go : GoodIn wsX5_path wsX5_go := goodIn_r _ [22, 23, 24, 25, 9, 26, 3, 4, 5, 27, 28, 29, 30, 31, 2, 32, 33, 34, 35, 36, 37, 38, 39, 40, 41, 42, 43, 44, 45, 46, 47, 48, 49, 50, 51, 52, 53, 54, 55, 56, 57, 58, 59, 60, 61, 62, 63, 68, 69, 70, 71, 72, 73, 74, 75, 76, 77, 78, 79, 80, 81, 82, 83, 84, 85, 86, 87, 88, 89, 90, 91, 92, 93, 94, 95, 96, 97, 98, 99, 100, 101, 102] (by decide +kernel) (by decide +kernel)
set_option maxRecDepth 20000 in
theorem gX5_path_X5_go : GoodIn wsX5_path (wsV RX5 210 RX5 yX5_go wsX5_go) := goodIn_app (goodIn_of _ (by decide +kernel)) ggX5_path_X5_go
set_option maxRecDepth 20000 in
theorem ggX5_path_X5_placeOf : GoodIn wsX5_path wsX5_placeOf := goodIn_r _ [38] (by decide +kernel) (by decide +kernel)
set_option maxRecDepth 20000 in
theorem gX5_path_X5_placeOf : GoodIn wsX5_path (va_wsS RX5 181 yX5_placeOf wsX5_placeOf) := goodIn_app (goodIn_of _ (by decide +kernel)) ggX5_path_X5_placeOf
set_option maxRecDepth 20000 in
theorem ggX5_path_X5_comesBy : GoodIn wsX5_path wsX5_comesBy := goodIn_r _ [67, 45, 2, 53, 54, 44, 36, 37, 9, 38, 55, 56, 57, 58, 59, 60, 61, 62, 63, 46, 47, 48, 68, 69, 70, 71, 72, 73, 74, 75, 76, 77, 78, 79, 80, 81, 82, 83, 84, 85, 86, 87, 88, 89, 90, 91, 92, 93, 94, 95, 96, 97, 98, 99, 100, 101, 102] (by decide +kernel) (by decide +kernel)
set_option maxRecDepth 20000 in
theorem gX5_path_X5_comesBy : GoodIn wsX5_path (wsV RX5 222 RX5 yX5_comesBy wsX5_comesBy) := goodIn_app (goodIn_of _ (by decide +kernel)) ggX5_path_X5_comesBy
theorem dX5_path_0 : decode cX5_path 0 = .ok (.aload_n 0, 1) := by decide +kernel
theorem dX5_path_1 : decode cX5_path 1 = .ok (.iload_n 1, 1) := by decide +kernel
theorem dX5_path_2 : decode cX5_path 2 = .ok (.invokevirtual 167, 3) := by decide +kernel
theorem dX5_path_5 : decode cX5_path 5 = .ok (.ifCond .eq 5, 3) := by decide +kernel
theorem dX5_path_8 : decode cX5_path 8 = .ok (.iconst (-1), 1) := by decide +kernel
theorem dX5_path_9 : decode cX5_path 9 = .ok (.ireturn, 1) := by decide +kernel
theorem dX5_path_10 : decode cX5_path 10 = .ok (.iload_n 2, 1) := by decide +kernel
theorem dX5_path_11 : decode cX5_path 11 = .ok (.invokestatic 173, 3) := by decide +kernel
theorem dX5_path_14 : decode cX5_path 14 = .ok (.ifCond .eq 15, 3) := by decide +kernel
theorem dX5_path_17 : decode cX5_path 17 = .ok (.iload_n 3, 1) := by decide +kernel
theorem dX5_path_18 : decode cX5_path 18 = .ok (.i2l, 1) := by decide +kernel
theorem dX5_path_19 : decode cX5_path 19 = .ok (.lconst 0, 1) := by decide +kernel
theorem dX5_path_20 : decode cX5_path 20 = .ok (.ldc2_w 208, 3) := by decide +kernel
theorem dX5_path_23 : decode cX5_path 23 = .ok (.invokestatic 96, 3) := by decide +kernel
theorem dX5_path_26 : decode cX5_path 26 = .ok (.ifCond .ne 6, 3) := by decide +kernel
theorem dX5_path_29 : decode cX5_path 29 = .ok (.bipush (-2), 2) := by decide +kernel
theorem dX5_path_31 : decode cX5_path 31 = .ok (.ireturn, 1) := by decide +kernel
theorem dX5_path_32 : decode cX5_path 32 = .ok (.aload_n 0, 1) := by decide +kernel
theorem dX5_path_33 : decode cX5_path 33 = .ok (.invokevirtual 210, 3) := by decide +kernel
theorem dX5_path_36 : decode cX5_path 36 = .ok (.aload_n 0, 1) := by decide +kernel
theorem dX5_path_37 : decode cX5_path 37 = .ok (.getfield 53, 3) := by decide +kernel
theorem dX5_path_40 : decode cX5_path 40 = .ok (.iload_n 1, 1) := by decide +kernel
theorem dX5_path_41 : decode cX5_path 41 = .ok (.iload_n 2, 1) := by decide +kernel
theorem dX5_path_42 : decode cX5_path 42 = .ok (.iload_n 3, 1) := by decide +kernel
theorem dX5_path_43 : decode cX5_path 43 = .ok (.invokestatic 181, 3) := by decide +kernel
theorem dX5_path_46 : decode cX5_path 46 = .ok (.iaload, 1) := by decide +kernel
theorem dX5_path_47 : decode cX5_path 47 = .ok (.sipush 999, 3) := by decide +kernel
theorem dX5_path_50 : decode cX5_path 50 = .ok (.if_icmp .ne 6, 3) := by decide +kernel
theorem dX5_path_53 : decode cX5_path 53 = .ok (.bipush (-9), 2) := by decide +kernel
theorem dX5_path_55 : decode cX5_path 55 = .ok (.ireturn, 1) := by decide +kernel
theorem dX5_path_56 : decode cX5_path 56 = .ok (.iload_n 3, 1) := by decide +kernel
theorem dX5_path_57 : decode cX5_path 57 = .ok (.aload_n 0, 1) := by decide +kernel
theorem dX5_path_58 : decode cX5_path 58 = .ok (.getfield 161, 3) := by decide +kernel
theorem dX5_path_61 : decode cX5_path 61 = .ok (.if_icmp .ge 28, 3) := by decide +kernel
theorem dX5_path_64 : decode cX5_path 64 = .ok (.aload_n 0, 1) := by decide +kernel
theorem dX5_path_65 : decode cX5_path 65 = .ok (.getfield 44, 3) := by decide +kernel
theorem dX5_path_68 : decode cX5_path 68 = .ok (.iload_n 3, 1) := by decide +kernel
theorem dX5_path_69 : decode cX5_path 69 = .ok (.iaload, 1) := by decide +kernel
theorem dX5_path_70 : decode cX5_path 70 = .ok (.iload_n 1, 1) := by decide +kernel
theorem dX5_path_71 : decode cX5_path 71 = .ok (.if_icmp .ne 18, 3) := by decide +kernel
theorem dX5_path_74 : decode cX5_path 74 = .ok (.aload_n 0, 1) := by decide +kernel
theorem dX5_path_75 : decode cX5_path 75 = .ok (.getfield 47, 3) := by decide +kernel
theorem dX5_path_78 : decode cX5_path 78 = .ok (.iload_n 3, 1) := by decide +kernel
theorem dX5_path_79 : decode cX5_path 79 = .ok (.iaload, 1) := by decide +kernel
theorem dX5_path_80 : decode cX5_path 80 = .ok (.iload_n 2, 1) := by decide +kernel
theorem dX5_path_81 : decode cX5_path 81 = .ok (.if_icmp .ne 8, 3) := by decide +kernel
theorem dX5_path_84 : decode cX5_path 84 = .ok (.bipush 90, 2) := by decide +kernel
theorem dX5_path_86 : decode cX5_path 86 = .ok (.iload_n 3, 1) := by decide +kernel
theorem dX5_path_87 : decode cX5_path 87 = .ok (.iadd, 1) := by decide +kernel
theorem dX5_path_88 : decode cX5_path 88 = .ok (.ireturn, 1) := by decide +kernel
theorem dX5_path_89 : decode cX5_path 89 = .ok (.iconst 0, 1) := by decide +kernel
theorem dX5_path_90 : decode cX5_path 90 = .ok (.istore 4, 2) := by decide +kernel
theorem dX5_path_92 : decode cX5_path 92 = .ok (.aload_n 0, 1) := by decide +kernel
theorem dX5_path_93 : decode cX5_path 93 = .ok (.iload 4, 2) := by decide +kernel
theorem dX5_path_95 : decode cX5_path 95 = .ok (.iload_n 1, 1) := by decide +kernel
theorem dX5_path_96 : decode cX5_path 96 = .ok (.iload_n 2, 1) := by decide +kernel
theorem dX5_path_97 : decode cX5_path 97 = .ok (.iload_n 3, 1) := by decide +kernel
theorem dX5_path_98 : decode cX5_path 98 = .ok (.invokevirtual 222, 3) := by decide +kernel
theorem dX5_path_101 : decode cX5_path 101 = .ok (.ifCond .ne 9, 3) := by decide +kernel
theorem dX5_path_104 : decode cX5_path 104 = .ok (.iinc 4 1, 3) := by decide +kernel
theorem dX5_path_107 : decode cX5_path 107 = .ok (.goto (-15), 3) := by decide +kernel
theorem dX5_path_110 : decode cX5_path 110 = .ok (.iload 4, 2) := by decide +kernel
theorem dX5_path_112 : decode cX5_path 112 = .ok (.ireturn, 1) := by decide +kernel
set_option maxRecDepth 20000 in
theorem ggX5_refusedFor_X5_noPerson : GoodIn wsX5_refusedFor wsX5_noPerson := goodIn_r _ [6, 7, 8, 9, 5, 10, 19, 20, 21, 22, 23, 24, 25, 26, 27, 28, 29, 30, 31, 32, 33, 34, 35, 36, 37, 38, 39, 40, 41, 42, 43, 44, 45, 46, 47, 48, 49, 50, 51, 52, 53] (by decide +kernel) (by decide +kernel)
set_option maxRecDepth 20000 in
theorem gX5_refusedFor_X5_noPerson : GoodIn wsX5_refusedFor (wsV RX5 167 RX5 yX5_noPerson wsX5_noPerson) := goodIn_app (goodIn_of _ (by decide +kernel)) ggX5_refusedFor_X5_noPerson
set_option maxRecDepth 20000 in
theorem ggX5_refusedFor_X5_isThing : GoodIn wsX5_refusedFor wsX5_isThing := goodIn_r _ [13, 14, 8, 9, 5, 10] (by decide +kernel) (by decide +kernel)
set_option maxRecDepth 20000 in
theorem gX5_refusedFor_X5_isThing : GoodIn wsX5_refusedFor (va_wsS RX5 173 yX5_isThing wsX5_isThing) := goodIn_app (goodIn_of _ (by decide +kernel)) ggX5_refusedFor_X5_isThing
set_option maxRecDepth 20000 in
theorem ggX5_refusedFor_X5_isDay : GoodIn wsX5_refusedFor wsX5_isDay := goodIn_r _ [17, 18, 8, 9, 5, 10] (by decide +kernel) (by decide +kernel)
set_option maxRecDepth 20000 in
theorem gX5_refusedFor_X5_isDay : GoodIn wsX5_refusedFor (va_wsS RX5 176 yX5_isDay wsX5_isDay) := goodIn_app (goodIn_of _ (by decide +kernel)) ggX5_refusedFor_X5_isDay
theorem dX5_refusedFor_0 : decode cX5_refusedFor 0 = .ok (.aload_n 0, 1) := by decide +kernel
theorem dX5_refusedFor_1 : decode cX5_refusedFor 1 = .ok (.iload_n 1, 1) := by decide +kernel
theorem dX5_refusedFor_2 : decode cX5_refusedFor 2 = .ok (.invokevirtual 167, 3) := by decide +kernel
theorem dX5_refusedFor_5 : decode cX5_refusedFor 5 = .ok (.ifCond .eq 5, 3) := by decide +kernel
theorem dX5_refusedFor_8 : decode cX5_refusedFor 8 = .ok (.iconst (-1), 1) := by decide +kernel
theorem dX5_refusedFor_9 : decode cX5_refusedFor 9 = .ok (.ireturn, 1) := by decide +kernel
theorem dX5_refusedFor_10 : decode cX5_refusedFor 10 = .ok (.iload_n 2, 1) := by decide +kernel
theorem dX5_refusedFor_11 : decode cX5_refusedFor 11 = .ok (.invokestatic 173, 3) := by decide +kernel
theorem dX5_refusedFor_14 : decode cX5_refusedFor 14 = .ok (.ifCond .eq 10, 3) := by decide +kernel
theorem dX5_refusedFor_17 : decode cX5_refusedFor 17 = .ok (.iload_n 3, 1) := by decide +kernel
theorem dX5_refusedFor_18 : decode cX5_refusedFor 18 = .ok (.invokestatic 176, 3) := by decide +kernel
theorem dX5_refusedFor_21 : decode cX5_refusedFor 21 = .ok (.ifCond .ne 6, 3) := by decide +kernel
theorem dX5_refusedFor_24 : decode cX5_refusedFor 24 = .ok (.bipush (-2), 2) := by decide +kernel
theorem dX5_refusedFor_26 : decode cX5_refusedFor 26 = .ok (.ireturn, 1) := by decide +kernel
theorem dX5_refusedFor_27 : decode cX5_refusedFor 27 = .ok (.aload_n 0, 1) := by decide +kernel
theorem dX5_refusedFor_28 : decode cX5_refusedFor 28 = .ok (.getfield 13, 3) := by decide +kernel
theorem dX5_refusedFor_31 : decode cX5_refusedFor 31 = .ok (.iload_n 1, 1) := by decide +kernel
theorem dX5_refusedFor_32 : decode cX5_refusedFor 32 = .ok (.baload, 1) := by decide +kernel
theorem dX5_refusedFor_33 : decode cX5_refusedFor 33 = .ok (.ifCond .eq 7, 3) := by decide +kernel
theorem dX5_refusedFor_36 : decode cX5_refusedFor 36 = .ok (.iconst 0, 1) := by decide +kernel
theorem dX5_refusedFor_37 : decode cX5_refusedFor 37 = .ok (.goto 5, 3) := by decide +kernel
theorem dX5_refusedFor_40 : decode cX5_refusedFor 40 = .ok (.bipush (-3), 2) := by decide +kernel
theorem dX5_refusedFor_42 : decode cX5_refusedFor 42 = .ok (.ireturn, 1) := by decide +kernel
set_option maxRecDepth 20000 in
theorem ggX5_fewest_X5_refusedFor : GoodIn wsX5_fewest wsX5_refusedFor := goodIn_r _ [6, 7, 8, 9, 10, 5, 11, 1, 12, 13, 14, 15, 16, 17, 18, 19, 20, 21, 22, 77, 78, 79, 80, 81, 82, 83, 84, 85, 86, 87, 88, 89, 90, 91, 92, 93, 94, 95, 96, 97, 98, 99, 100, 101, 102, 103, 104, 105, 106, 107, 108, 109, 110, 111] (by decide +kernel) (by decide +kernel)
set_option maxRecDepth 20000 in
theorem gX5_fewest_X5_refusedFor : GoodIn wsX5_fewest (wsV RX5 226 RX5 yX5_refusedFor wsX5_refusedFor) := goodIn_app (goodIn_of _ (by decide +kernel)) ggX5_fewest_X5_refusedFor
set_option maxRecDepth 20000 in
theorem ggX5_fewest_X5_all : GoodIn wsX5_fewest wsX5_all := goodIn_r _ [26, 1, 77, 78, 79, 80, 81, 82, 83, 84, 85, 86, 87, 88, 89, 90, 91, 92, 93, 94, 95, 96, 97, 98, 99, 100, 101, 102, 103, 104, 105, 106, 107, 108, 109, 110, 111] (by decide +kernel) (by decide +kernel)
set_option maxRecDepth 20000 in
theorem gX5_fewest_X5_all : GoodIn wsX5_fewest (wsV RX5 229 RX5 yX5_all wsX5_all) := goodIn_app (goodIn_of _ (by decide +kernel)) ggX5_fewest_X5_all
set_option maxRecDepth 20000 in
theorem ggX5_fewest_X5_bits : GoodIn wsX5_fewest wsX5_bits := goodIn_r _ [29] (by decide +kernel) (by decide +kernel)
set_option maxRecDepth 20000 in
theorem gX5_fewest_X5_bits : GoodIn wsX5_fewest (va_wsS RX5 233 yX5_bits wsX5_bits) := goodIn_app (goodIn_of _ (by decide +kernel)) ggX5_fewest_X5_bits
set_option maxRecDepth 20000 in
theorem ggX5_fewest_X5_begin : GoodIn wsX5_fewest wsX5_begin := goodIn_r _ [33, 34, 77, 78, 79, 80, 81, 82, 83, 84, 85, 86, 87, 88, 89, 90, 91, 92, 93, 94, 95, 96, 97, 98, 99, 100, 101, 102, 103, 104, 105, 106, 107, 108, 109, 110, 111] (by decide +kernel) (by decide +kernel)
set_option maxRecDepth 20000 in
theorem gX5_fewest_X5_begin : GoodIn wsX5_fewest (wsV RX5 194 RX5 yX5_begin wsX5_begin) := goodIn_app (goodIn_of _ (by decide +kernel)) ggX5_fewest_X5_begin
set_option maxRecDepth 20000 in
theorem ggX5_fewest_X5_isIn : GoodIn wsX5_fewest wsX5_isIn := goodIn_r _ [37] (by decide +kernel) (by decide +kernel)
set_option maxRecDepth 20000 in
theorem gX5_fewest_X5_isIn : GoodIn wsX5_fewest (va_wsS RX5 170 yX5_isIn wsX5_isIn) := goodIn_app (goodIn_of _ (by decide +kernel)) ggX5_fewest_X5_isIn
set_option maxRecDepth 20000 in
theorem ggX5_fewest_X5_hear : GoodIn wsX5_fewest wsX5_hear := goodIn_r _ [41, 34, 42, 43, 5, 44, 77, 78, 79, 80, 81, 82, 83, 84, 85, 86, 87, 88, 89, 90, 91, 92, 93, 94, 95, 96, 97, 98, 99, 100, 101, 102, 103, 104, 105, 106, 107, 108, 109, 110, 111] (by decide +kernel) (by decide +kernel)
set_option maxRecDepth 20000 in
theorem gX5_fewest_X5_hear : GoodIn wsX5_fewest (wsV RX5 197 RX5 yX5_hear wsX5_hear) := goodIn_app (goodIn_of _ (by decide +kernel)) ggX5_fewest_X5_hear
set_option maxRecDepth 20000 in
theorem ggX5_fewest_X5_spread : GoodIn wsX5_fewest wsX5_spread := goodIn_r _ [48, 49, 50, 51, 35, 36, 5, 37, 52, 53, 54, 55, 34, 56, 57, 42, 43, 44, 58, 59, 60, 61, 62, 63, 64, 65, 66, 77, 78, 79, 80, 81, 82, 83, 84, 85, 86, 87, 88, 89, 90, 91, 92, 93, 94, 95, 96, 97, 98, 99, 100, 101, 102, 103, 104, 105, 106, 107, 108, 109, 110, 111] (by decide +kernel) (by decide +kernel)
set_option maxRecDepth 20000 in
theorem gX5_fewest_X5_spread : GoodIn wsX5_fewest (wsV RX5 205 RX5 yX5_spread wsX5_spread) := goodIn_app (goodIn_of _ (by decide +kernel)) ggX5_fewest_X5_spread
set_option maxRecDepth 20000 in
theorem ggX5_fewest_X5_forgedOn : GoodIn wsX5_fewest wsX5_forgedOn := goodIn_r _ [70, 71, 72, 73, 74, 75, 5, 76, 34, 42, 43, 44, 77, 78, 79, 80, 81, 82, 83, 84, 85, 86, 87, 88, 89, 90, 91, 92, 93, 94, 95, 96, 97, 98, 99, 100, 101, 102, 103, 104, 105, 106, 107, 108, 109, 110, 111] (by decide +kernel) (by decide +kernel)
set_option maxRecDepth 20000 in
theorem gX5_fewest_X5_forgedOn : GoodIn wsX5_fewest (wsV RX5 216 RX5 yX5_forgedOn wsX5_forgedOn) := goodIn_app (goodIn_of _ (by decide +kernel)) ggX5_fewest_X5_forgedOn
theorem dX5_fewest_0 : decode cX5_fewest 0 = .ok (.aload_n 0, 1) := by decide +kernel
theorem dX5_fewest_1 : decode cX5_fewest 1 = .ok (.iload_n 1, 1) := by decide +kernel
theorem dX5_fewest_2 : decode cX5_fewest 2 = .ok (.iload_n 2, 1) := by decide +kernel
theorem dX5_fewest_3 : decode cX5_fewest 3 = .ok (.iload_n 3, 1) := by decide +kernel
theorem dX5_fewest_4 : decode cX5_fewest 4 = .ok (.invokevirtual 226, 3) := by decide +kernel
theorem dX5_fewest_7 : decode cX5_fewest 7 = .ok (.istore 4, 2) := by decide +kernel
theorem dX5_fewest_9 : decode cX5_fewest 9 = .ok (.iload 4, 2) := by decide +kernel
theorem dX5_fewest_11 : decode cX5_fewest 11 = .ok (.ifCond .ge 6, 3) := by decide +kernel
theorem dX5_fewest_14 : decode cX5_fewest 14 = .ok (.iload 4, 2) := by decide +kernel
theorem dX5_fewest_16 : decode cX5_fewest 16 = .ok (.ireturn, 1) := by decide +kernel
theorem dX5_fewest_17 : decode cX5_fewest 17 = .ok (.bipush (-9), 2) := by decide +kernel
theorem dX5_fewest_19 : decode cX5_fewest 19 = .ok (.istore 5, 2) := by decide +kernel
theorem dX5_fewest_21 : decode cX5_fewest 21 = .ok (.iconst 0, 1) := by decide +kernel
theorem dX5_fewest_22 : decode cX5_fewest 22 = .ok (.istore 6, 2) := by decide +kernel
theorem dX5_fewest_24 : decode cX5_fewest 24 = .ok (.iload 6, 2) := by decide +kernel
theorem dX5_fewest_26 : decode cX5_fewest 26 = .ok (.aload_n 0, 1) := by decide +kernel
theorem dX5_fewest_27 : decode cX5_fewest 27 = .ok (.invokevirtual 229, 3) := by decide +kernel
theorem dX5_fewest_30 : decode cX5_fewest 30 = .ok (.if_icmp .gt 100, 3) := by decide +kernel
theorem dX5_fewest_33 : decode cX5_fewest 33 = .ok (.iload 5, 2) := by decide +kernel
theorem dX5_fewest_35 : decode cX5_fewest 35 = .ok (.ifCond .lt 16, 3) := by decide +kernel
theorem dX5_fewest_38 : decode cX5_fewest 38 = .ok (.iload 6, 2) := by decide +kernel
theorem dX5_fewest_40 : decode cX5_fewest 40 = .ok (.invokestatic 233, 3) := by decide +kernel
theorem dX5_fewest_43 : decode cX5_fewest 43 = .ok (.iload 5, 2) := by decide +kernel
theorem dX5_fewest_45 : decode cX5_fewest 45 = .ok (.invokestatic 233, 3) := by decide +kernel
theorem dX5_fewest_48 : decode cX5_fewest 48 = .ok (.if_icmp .ge 76, 3) := by decide +kernel
theorem dX5_fewest_51 : decode cX5_fewest 51 = .ok (.aload_n 0, 1) := by decide +kernel
theorem dX5_fewest_52 : decode cX5_fewest 52 = .ok (.invokevirtual 194, 3) := by decide +kernel
theorem dX5_fewest_55 : decode cX5_fewest 55 = .ok (.iconst 0, 1) := by decide +kernel
theorem dX5_fewest_56 : decode cX5_fewest 56 = .ok (.istore 7, 2) := by decide +kernel
theorem dX5_fewest_58 : decode cX5_fewest 58 = .ok (.iconst 0, 1) := by decide +kernel
theorem dX5_fewest_59 : decode cX5_fewest 59 = .ok (.istore 8, 2) := by decide +kernel
theorem dX5_fewest_61 : decode cX5_fewest 61 = .ok (.iload 8, 2) := by decide +kernel
theorem dX5_fewest_63 : decode cX5_fewest 63 = .ok (.aload_n 0, 1) := by decide +kernel
theorem dX5_fewest_64 : decode cX5_fewest 64 = .ok (.getfield 93, 3) := by decide +kernel
theorem dX5_fewest_67 : decode cX5_fewest 67 = .ok (.if_icmp .ge 32, 3) := by decide +kernel
theorem dX5_fewest_70 : decode cX5_fewest 70 = .ok (.iload 6, 2) := by decide +kernel
theorem dX5_fewest_72 : decode cX5_fewest 72 = .ok (.iload 8, 2) := by decide +kernel
theorem dX5_fewest_74 : decode cX5_fewest 74 = .ok (.invokestatic 170, 3) := by decide +kernel
theorem dX5_fewest_77 : decode cX5_fewest 77 = .ok (.ifCond .eq 16, 3) := by decide +kernel
theorem dX5_fewest_80 : decode cX5_fewest 80 = .ok (.aload_n 0, 1) := by decide +kernel
theorem dX5_fewest_81 : decode cX5_fewest 81 = .ok (.iload 8, 2) := by decide +kernel
theorem dX5_fewest_83 : decode cX5_fewest 83 = .ok (.iload_n 2, 1) := by decide +kernel
theorem dX5_fewest_84 : decode cX5_fewest 84 = .ok (.iload 7, 2) := by decide +kernel
theorem dX5_fewest_86 : decode cX5_fewest 86 = .ok (.iconst 0, 1) := by decide +kernel
theorem dX5_fewest_87 : decode cX5_fewest 87 = .ok (.invokevirtual 197, 3) := by decide +kernel
theorem dX5_fewest_90 : decode cX5_fewest 90 = .ok (.iinc 7 1, 3) := by decide +kernel
theorem dX5_fewest_93 : decode cX5_fewest 93 = .ok (.iinc 8 1, 3) := by decide +kernel
theorem dX5_fewest_96 : decode cX5_fewest 96 = .ok (.goto (-35), 3) := by decide +kernel
theorem dX5_fewest_99 : decode cX5_fewest 99 = .ok (.aload_n 0, 1) := by decide +kernel
theorem dX5_fewest_100 : decode cX5_fewest 100 = .ok (.bipush (-9), 2) := by decide +kernel
theorem dX5_fewest_102 : decode cX5_fewest 102 = .ok (.invokevirtual 205, 3) := by decide +kernel
theorem dX5_fewest_105 : decode cX5_fewest 105 = .ok (.aload_n 0, 1) := by decide +kernel
theorem dX5_fewest_106 : decode cX5_fewest 106 = .ok (.iload_n 1, 1) := by decide +kernel
theorem dX5_fewest_107 : decode cX5_fewest 107 = .ok (.iload_n 2, 1) := by decide +kernel
theorem dX5_fewest_108 : decode cX5_fewest 108 = .ok (.invokevirtual 216, 3) := by decide +kernel
theorem dX5_fewest_111 : decode cX5_fewest 111 = .ok (.iload_n 3, 1) := by decide +kernel
theorem dX5_fewest_112 : decode cX5_fewest 112 = .ok (.if_icmp .gt 8, 3) := by decide +kernel
theorem dX5_fewest_115 : decode cX5_fewest 115 = .ok (.iload 6, 2) := by decide +kernel
theorem dX5_fewest_117 : decode cX5_fewest 117 = .ok (.goto 5, 3) := by decide +kernel
theorem dX5_fewest_120 : decode cX5_fewest 120 = .ok (.iload 5, 2) := by decide +kernel
theorem dX5_fewest_122 : decode cX5_fewest 122 = .ok (.istore 5, 2) := by decide +kernel
theorem dX5_fewest_124 : decode cX5_fewest 124 = .ok (.iinc 6 1, 3) := by decide +kernel
theorem dX5_fewest_127 : decode cX5_fewest 127 = .ok (.goto (-103), 3) := by decide +kernel
theorem dX5_fewest_130 : decode cX5_fewest 130 = .ok (.iload 5, 2) := by decide +kernel
theorem dX5_fewest_132 : decode cX5_fewest 132 = .ok (.ireturn, 1) := by decide +kernel
set_option maxRecDepth 20000 in
theorem ggX5_hushed_X5_refusedFor : GoodIn wsX5_hushed wsX5_refusedFor := goodIn_r _ [6, 7, 8, 9, 10, 5, 11, 12, 13, 14, 15, 16, 17, 18, 19, 20, 21, 22, 23, 89, 90, 91, 92, 93, 94, 95, 96, 97, 98, 99, 100, 101, 102, 103, 104, 105, 106, 107, 108, 109, 110, 111, 112, 113, 114, 115, 116, 117, 118, 119, 120, 121, 122, 123] (by decide +kernel) (by decide +kernel)
set_option maxRecDepth 20000 in
theorem gX5_hushed_X5_refusedFor : GoodIn wsX5_hushed (wsV RX5 226 RX5 yX5_refusedFor wsX5_refusedFor) := goodIn_app (goodIn_of _ (by decide +kernel)) ggX5_hushed_X5_refusedFor
set_option maxRecDepth 20000 in
theorem ggX5_hushed_X5_all : GoodIn wsX5_hushed wsX5_all := goodIn_r _ [27, 12, 89, 90, 91, 92, 93, 94, 95, 96, 97, 98, 99, 100, 101, 102, 103, 104, 105, 106, 107, 108, 109, 110, 111, 112, 113, 114, 115, 116, 117, 118, 119, 120, 121, 122, 123] (by decide +kernel) (by decide +kernel)
set_option maxRecDepth 20000 in
theorem gX5_hushed_X5_all : GoodIn wsX5_hushed (wsV RX5 229 RX5 yX5_all wsX5_all) := goodIn_app (goodIn_of _ (by decide +kernel)) ggX5_hushed_X5_all
set_option maxRecDepth 20000 in
theorem ggX5_hushed_X5_bits : GoodIn wsX5_hushed wsX5_bits := goodIn_r _ [30] (by decide +kernel) (by decide +kernel)
set_option maxRecDepth 20000 in
theorem gX5_hushed_X5_bits : GoodIn wsX5_hushed (va_wsS RX5 233 yX5_bits wsX5_bits) := goodIn_app (goodIn_of _ (by decide +kernel)) ggX5_hushed_X5_bits
set_option maxRecDepth 20000 in
theorem ggX5_hushed_X5_go : GoodIn wsX5_hushed wsX5_go := goodIn_r _ [34, 35, 36, 37, 5, 38, 39, 40, 41, 42, 43, 44, 45, 46, 47, 48, 49, 50, 51, 52, 53, 54, 55, 56, 57, 58, 59, 1, 60, 61, 62, 63, 64, 65, 66, 67, 68, 69, 70, 71, 72, 73, 74, 75, 76, 77, 78, 89, 90, 91, 92, 93, 94, 95, 96, 97, 98, 99, 100, 101, 102, 103, 104, 105, 106, 107, 108, 109, 110, 111, 112, 113, 114, 115, 116, 117, 118, 119, 120, 121, 122, 123] (by decide +kernel) (by decide +kernel)
set_option maxRecDepth 20000 in
theorem gX5_hushed_X5_go : GoodIn wsX5_hushed (wsV RX5 210 RX5 yX5_go wsX5_go) := goodIn_app (goodIn_of _ (by decide +kernel)) ggX5_hushed_X5_go
set_option maxRecDepth 20000 in
theorem ggX5_hushed_X5_forgedOn : GoodIn wsX5_hushed wsX5_forgedOn := goodIn_r _ [82, 83, 84, 85, 86, 87, 5, 88, 47, 52, 53, 54, 89, 90, 91, 92, 93, 94, 95, 96, 97, 98, 99, 100, 101, 102, 103, 104, 105, 106, 107, 108, 109, 110, 111, 112, 113, 114, 115, 116, 117, 118, 119, 120, 121, 122, 123] (by decide +kernel) (by decide +kernel)
set_option maxRecDepth 20000 in
theorem gX5_hushed_X5_forgedOn : GoodIn wsX5_hushed (wsV RX5 216 RX5 yX5_forgedOn wsX5_forgedOn) := goodIn_app (goodIn_of _ (by decide +kernel)) ggX5_hushed_X5_forgedOn
theorem dX5_hushed_0 : decode cX5_hushed 0 = .ok (.aload_n 0, 1) := by decide +kernel
theorem dX5_hushed_1 : decode cX5_hushed 1 = .ok (.iload_n 1, 1) := by decide +kernel
theorem dX5_hushed_2 : decode cX5_hushed 2 = .ok (.iload_n 2, 1) := by decide +kernel
theorem dX5_hushed_3 : decode cX5_hushed 3 = .ok (.iload_n 3, 1) := by decide +kernel
theorem dX5_hushed_4 : decode cX5_hushed 4 = .ok (.invokevirtual 226, 3) := by decide +kernel
theorem dX5_hushed_7 : decode cX5_hushed 7 = .ok (.istore 4, 2) := by decide +kernel
theorem dX5_hushed_9 : decode cX5_hushed 9 = .ok (.iload 4, 2) := by decide +kernel
theorem dX5_hushed_11 : decode cX5_hushed 11 = .ok (.ifCond .ge 6, 3) := by decide +kernel
theorem dX5_hushed_14 : decode cX5_hushed 14 = .ok (.iload 4, 2) := by decide +kernel
theorem dX5_hushed_16 : decode cX5_hushed 16 = .ok (.ireturn, 1) := by decide +kernel
theorem dX5_hushed_17 : decode cX5_hushed 17 = .ok (.aload_n 0, 1) := by decide +kernel
theorem dX5_hushed_18 : decode cX5_hushed 18 = .ok (.getfield 155, 3) := by decide +kernel
theorem dX5_hushed_21 : decode cX5_hushed 21 = .ok (.istore 5, 2) := by decide +kernel
theorem dX5_hushed_23 : decode cX5_hushed 23 = .ok (.bipush (-9), 2) := by decide +kernel
theorem dX5_hushed_25 : decode cX5_hushed 25 = .ok (.istore 6, 2) := by decide +kernel
theorem dX5_hushed_27 : decode cX5_hushed 27 = .ok (.iconst 0, 1) := by decide +kernel
theorem dX5_hushed_28 : decode cX5_hushed 28 = .ok (.istore 7, 2) := by decide +kernel
theorem dX5_hushed_30 : decode cX5_hushed 30 = .ok (.iload 7, 2) := by decide +kernel
theorem dX5_hushed_32 : decode cX5_hushed 32 = .ok (.aload_n 0, 1) := by decide +kernel
theorem dX5_hushed_33 : decode cX5_hushed 33 = .ok (.invokevirtual 229, 3) := by decide +kernel
theorem dX5_hushed_36 : decode cX5_hushed 36 = .ok (.if_icmp .gt 67, 3) := by decide +kernel
theorem dX5_hushed_39 : decode cX5_hushed 39 = .ok (.iload 7, 2) := by decide +kernel
theorem dX5_hushed_41 : decode cX5_hushed 41 = .ok (.iload 5, 2) := by decide +kernel
theorem dX5_hushed_43 : decode cX5_hushed 43 = .ok (.iand, 1) := by decide +kernel
theorem dX5_hushed_44 : decode cX5_hushed 44 = .ok (.ifCond .ne 53, 3) := by decide +kernel
theorem dX5_hushed_47 : decode cX5_hushed 47 = .ok (.iload 6, 2) := by decide +kernel
theorem dX5_hushed_49 : decode cX5_hushed 49 = .ok (.ifCond .lt 16, 3) := by decide +kernel
theorem dX5_hushed_52 : decode cX5_hushed 52 = .ok (.iload 7, 2) := by decide +kernel
theorem dX5_hushed_54 : decode cX5_hushed 54 = .ok (.invokestatic 233, 3) := by decide +kernel
theorem dX5_hushed_57 : decode cX5_hushed 57 = .ok (.iload 6, 2) := by decide +kernel
theorem dX5_hushed_59 : decode cX5_hushed 59 = .ok (.invokestatic 233, 3) := by decide +kernel
theorem dX5_hushed_62 : decode cX5_hushed 62 = .ok (.if_icmp .ge 35, 3) := by decide +kernel
theorem dX5_hushed_65 : decode cX5_hushed 65 = .ok (.aload_n 0, 1) := by decide +kernel
theorem dX5_hushed_66 : decode cX5_hushed 66 = .ok (.iload 5, 2) := by decide +kernel
theorem dX5_hushed_68 : decode cX5_hushed 68 = .ok (.iload 7, 2) := by decide +kernel
theorem dX5_hushed_70 : decode cX5_hushed 70 = .ok (.ior, 1) := by decide +kernel
theorem dX5_hushed_71 : decode cX5_hushed 71 = .ok (.putfield 155, 3) := by decide +kernel
theorem dX5_hushed_74 : decode cX5_hushed 74 = .ok (.aload_n 0, 1) := by decide +kernel
theorem dX5_hushed_75 : decode cX5_hushed 75 = .ok (.invokevirtual 210, 3) := by decide +kernel
theorem dX5_hushed_78 : decode cX5_hushed 78 = .ok (.aload_n 0, 1) := by decide +kernel
theorem dX5_hushed_79 : decode cX5_hushed 79 = .ok (.iload_n 1, 1) := by decide +kernel
theorem dX5_hushed_80 : decode cX5_hushed 80 = .ok (.iload_n 2, 1) := by decide +kernel
theorem dX5_hushed_81 : decode cX5_hushed 81 = .ok (.invokevirtual 216, 3) := by decide +kernel
theorem dX5_hushed_84 : decode cX5_hushed 84 = .ok (.iload_n 3, 1) := by decide +kernel
theorem dX5_hushed_85 : decode cX5_hushed 85 = .ok (.if_icmp .gt 8, 3) := by decide +kernel
theorem dX5_hushed_88 : decode cX5_hushed 88 = .ok (.iload 6, 2) := by decide +kernel
theorem dX5_hushed_90 : decode cX5_hushed 90 = .ok (.goto 5, 3) := by decide +kernel
theorem dX5_hushed_93 : decode cX5_hushed 93 = .ok (.iload 7, 2) := by decide +kernel
theorem dX5_hushed_95 : decode cX5_hushed 95 = .ok (.istore 6, 2) := by decide +kernel
theorem dX5_hushed_97 : decode cX5_hushed 97 = .ok (.iinc 7 1, 3) := by decide +kernel
theorem dX5_hushed_100 : decode cX5_hushed 100 = .ok (.goto (-70), 3) := by decide +kernel
theorem dX5_hushed_103 : decode cX5_hushed 103 = .ok (.aload_n 0, 1) := by decide +kernel
theorem dX5_hushed_104 : decode cX5_hushed 104 = .ok (.iload 5, 2) := by decide +kernel
theorem dX5_hushed_106 : decode cX5_hushed 106 = .ok (.putfield 155, 3) := by decide +kernel
theorem dX5_hushed_109 : decode cX5_hushed 109 = .ok (.iload 6, 2) := by decide +kernel
