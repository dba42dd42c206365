theorem dX4_spare_43 : decode cX4_spare 43 = .ok (.getfield 47, 3) := by decide +kernel
theorem dX4_spare_46 : decode cX4_spare 46 = .ok (.aload_n 0, 1) := by decide +kernel
theorem dX4_spare_47 : decode cX4_spare 47 = .ok (.getfield 58, 3) := by decide +kernel
theorem dX4_spare_50 : decode cX4_spare 50 = .ok (.iload_n 2, 1) := by decide +kernel
theorem dX4_spare_51 : decode cX4_spare 51 = .ok (.invokevirtual 188, 3) := by decide +kernel
theorem dX4_spare_54 : decode cX4_spare 54 = .ok (.aload_n 0, 1) := by decide +kernel
theorem dX4_spare_55 : decode cX4_spare 55 = .ok (.invokevirtual 195, 3) := by decide +kernel
theorem dX4_spare_58 : decode cX4_spare 58 = .ok (.ifCond .eq 9, 3) := by decide +kernel
theorem dX4_spare_61 : decode cX4_spare 61 = .ok (.iload_n 1, 1) := by decide +kernel
theorem dX4_spare_62 : decode cX4_spare 62 = .ok (.iconst 1, 1) := by decide +kernel
theorem dX4_spare_63 : decode cX4_spare 63 = .ok (.iload_n 2, 1) := by decide +kernel
theorem dX4_spare_64 : decode cX4_spare 64 = .ok (.ishl, 1) := by decide +kernel
theorem dX4_spare_65 : decode cX4_spare 65 = .ok (.ior, 1) := by decide +kernel
theorem dX4_spare_66 : decode cX4_spare 66 = .ok (.istore_n 1, 1) := by decide +kernel
theorem dX4_spare_67 : decode cX4_spare 67 = .ok (.iinc 2 1, 3) := by decide +kernel
theorem dX4_spare_70 : decode cX4_spare 70 = .ok (.goto (-48), 3) := by decide +kernel
theorem dX4_spare_73 : decode cX4_spare 73 = .ok (.iload_n 1, 1) := by decide +kernel
theorem dX4_spare_74 : decode cX4_spare 74 = .ok (.ireturn, 1) := by decide +kernel
set_option maxRecDepth 20000 in
theorem ggX4_reading_X4_refusalOfSmith : GoodIn wsX4_reading wsX4_refusalOfSmith := goodIn_r _ [8, 9, 10, 11, 12, 7, 13, 14, 15, 16, 17, 18, 19, 20, 21, 22, 23, 24, 25, 26, 27, 28, 29, 30, 31, 32, 33, 34, 49, 50, 51, 52, 53, 54, 55, 56, 57, 58, 59, 60, 61, 67, 68, 69, 70, 71, 72, 73] (by decide +kernel) (by decide +kernel)
set_option maxRecDepth 20000 in
theorem gX4_reading_X4_refusalOfSmith : GoodIn wsX4_reading (wsV RX4 175 RX4 yX4_refusalOfSmith wsX4_refusalOfSmith) := goodIn_app (goodIn_of _ (by decide +kernel)) ggX4_reading_X4_refusalOfSmith
set_option maxRecDepth 20000 in
theorem ggX4_reading_X0_isFull : GoodIn wsX4_reading wsX0_isFull := goodIn_r _ [39, 40, 41, 62, 63, 64, 65, 66] (by decide +kernel) (by decide +kernel)
set_option maxRecDepth 20000 in
theorem gX4_reading_X0_isFull : GoodIn wsX4_reading (wsV RX4 125 RX0 yX0_isFull wsX0_isFull) := goodIn_app (goodIn_of _ (by decide +kernel)) ggX4_reading_X0_isFull
set_option maxRecDepth 20000 in
theorem ggX4_reading_X0_add : GoodIn wsX4_reading wsX0_add := goodIn_r _ [45, 40, 46, 47, 48, 62, 63, 64, 65, 66] (by decide +kernel) (by decide +kernel)
set_option maxRecDepth 20000 in
theorem gX4_reading_X0_add : GoodIn wsX4_reading (wsV RX4 129 RX0 yX0_add wsX0_add) := goodIn_app (goodIn_of _ (by decide +kernel)) ggX4_reading_X0_add
theorem dX4_reading_0 : decode cX4_reading 0 = .ok (.aload_n 0, 1) := by decide +kernel
theorem dX4_reading_1 : decode cX4_reading 1 = .ok (.iload_n 1, 1) := by decide +kernel
theorem dX4_reading_2 : decode cX4_reading 2 = .ok (.iload_n 2, 1) := by decide +kernel
theorem dX4_reading_3 : decode cX4_reading 3 = .ok (.iload_n 3, 1) := by decide +kernel
theorem dX4_reading_4 : decode cX4_reading 4 = .ok (.invokevirtual 175, 3) := by decide +kernel
theorem dX4_reading_7 : decode cX4_reading 7 = .ok (.istore 5, 2) := by decide +kernel
theorem dX4_reading_9 : decode cX4_reading 9 = .ok (.iload 5, 2) := by decide +kernel
theorem dX4_reading_11 : decode cX4_reading 11 = .ok (.ifCond .eq 6, 3) := by decide +kernel
theorem dX4_reading_14 : decode cX4_reading 14 = .ok (.iload 5, 2) := by decide +kernel
theorem dX4_reading_16 : decode cX4_reading 16 = .ok (.ireturn, 1) := by decide +kernel
theorem dX4_reading_17 : decode cX4_reading 17 = .ok (.aload_n 0, 1) := by decide +kernel
theorem dX4_reading_18 : decode cX4_reading 18 = .ok (.getfield 26, 3) := by decide +kernel
theorem dX4_reading_21 : decode cX4_reading 21 = .ok (.invokevirtual 125, 3) := by decide +kernel
theorem dX4_reading_24 : decode cX4_reading 24 = .ok (.ifCond .eq 6, 3) := by decide +kernel
theorem dX4_reading_27 : decode cX4_reading 27 = .ok (.bipush (-4), 2) := by decide +kernel
theorem dX4_reading_29 : decode cX4_reading 29 = .ok (.ireturn, 1) := by decide +kernel
theorem dX4_reading_30 : decode cX4_reading 30 = .ok (.aload_n 0, 1) := by decide +kernel
theorem dX4_reading_31 : decode cX4_reading 31 = .ok (.getfield 29, 3) := by decide +kernel
theorem dX4_reading_34 : decode cX4_reading 34 = .ok (.aload_n 0, 1) := by decide +kernel
theorem dX4_reading_35 : decode cX4_reading 35 = .ok (.getfield 26, 3) := by decide +kernel
theorem dX4_reading_38 : decode cX4_reading 38 = .ok (.getfield 182, 3) := by decide +kernel
theorem dX4_reading_41 : decode cX4_reading 41 = .ok (.iload 4, 2) := by decide +kernel
theorem dX4_reading_43 : decode cX4_reading 43 = .ok (.bastore, 1) := by decide +kernel
theorem dX4_reading_44 : decode cX4_reading 44 = .ok (.aload_n 0, 1) := by decide +kernel
theorem dX4_reading_45 : decode cX4_reading 45 = .ok (.getfield 26, 3) := by decide +kernel
theorem dX4_reading_48 : decode cX4_reading 48 = .ok (.iload_n 1, 1) := by decide +kernel
theorem dX4_reading_49 : decode cX4_reading 49 = .ok (.iload_n 2, 1) := by decide +kernel
theorem dX4_reading_50 : decode cX4_reading 50 = .ok (.iload_n 3, 1) := by decide +kernel
theorem dX4_reading_51 : decode cX4_reading 51 = .ok (.invokevirtual 129, 3) := by decide +kernel
theorem dX4_reading_54 : decode cX4_reading 54 = .ok (.ireturn, 1) := by decide +kernel
set_option maxRecDepth 20000 in
theorem ggX4_back_X0_takeBack : GoodIn wsX4_back wsX0_takeBack := goodIn_r _ [6, 7, 21, 22, 23, 24, 25] (by decide +kernel) (by decide +kernel)
set_option maxRecDepth 20000 in
theorem gX4_back_X0_takeBack : GoodIn wsX4_back (wsV RX4 132 RX0 yX0_takeBack wsX0_takeBack) := goodIn_app (goodIn_of _ (by decide +kernel)) ggX4_back_X0_takeBack
theorem dX4_back_0 : decode cX4_back 0 = .ok (.aload_n 0, 1) := by decide +kernel
theorem dX4_back_1 : decode cX4_back 1 = .ok (.getfield 26, 3) := by decide +kernel
theorem dX4_back_4 : decode cX4_back 4 = .ok (.iload_n 1, 1) := by decide +kernel
theorem dX4_back_5 : decode cX4_back 5 = .ok (.invokevirtual 132, 3) := by decide +kernel
theorem dX4_back_8 : decode cX4_back 8 = .ok (.ireturn, 1) := by decide +kernel
set_option maxRecDepth 20000 in
theorem ggX4_told_X4_isThingAndDay : GoodIn wsX4_told wsX4_isThingAndDay := goodIn_r _ [8, 9, 10, 7, 11, 12, 13, 14, 15, 16, 17] (by decide +kernel) (by decide +kernel)
set_option maxRecDepth 20000 in
theorem gX4_told_X4_isThingAndDay : GoodIn wsX4_told (va_wsS RX4 122 yX4_isThingAndDay wsX4_isThingAndDay) := goodIn_app (goodIn_of _ (by decide +kernel)) ggX4_told_X4_isThingAndDay
set_option maxRecDepth 20000 in
theorem ggX4_told_X4_hasNoPass : GoodIn wsX4_told wsX4_hasNoPass := goodIn_r _ [21, 1, 2, 111, 112, 113, 114, 115, 116, 117, 118, 119, 120, 121, 122, 123, 124, 125, 126, 127, 128, 129, 130] (by decide +kernel) (by decide +kernel)
set_option maxRecDepth 20000 in
theorem gX4_told_X4_hasNoPass : GoodIn wsX4_told (wsV RX4 135 RX4 yX4_hasNoPass wsX4_hasNoPass) := goodIn_app (goodIn_of _ (by decide +kernel)) ggX4_told_X4_hasNoPass
set_option maxRecDepth 20000 in
theorem ggX4_told_X4_startTalk : GoodIn wsX4_told wsX4_startTalk := goodIn_r _ [25, 3, 26, 27, 28, 29, 30, 31, 32, 33, 34, 35, 36, 37, 38, 39, 40, 41, 42, 43, 44, 45, 46, 47, 111, 112, 113, 114, 115, 116, 117, 118, 119, 120, 121, 122, 123, 131, 132, 133, 134, 135, 136] (by decide +kernel) (by decide +kernel)
set_option maxRecDepth 20000 in
theorem gX4_told_X4_startTalk : GoodIn wsX4_told (wsV RX4 185 RX4 yX4_startTalk wsX4_startTalk) := goodIn_app (goodIn_of _ (by decide +kernel)) ggX4_told_X4_startTalk
set_option maxRecDepth 20000 in
theorem ggX4_told_X3_plant : GoodIn wsX4_told wsX3_plant := goodIn_r _ [44, 36, 45, 46, 34, 47, 136] (by decide +kernel) (by decide +kernel)
set_option maxRecDepth 20000 in
theorem gX4_told_X3_plant : GoodIn wsX4_told (wsV RX4 198 RX3 yX3_plant wsX3_plant) := goodIn_app (goodIn_of _ (by decide +kernel)) ggX4_told_X3_plant
set_option maxRecDepth 20000 in
theorem ggX4_told_X3_spread : GoodIn wsX4_told wsX3_spread := goodIn_r _ [51, 52, 53, 36, 54, 55, 56, 57, 34, 58, 59, 60, 61, 62, 63, 64, 65, 7, 66, 67, 68, 69, 70, 71, 72, 73, 74, 75, 76, 77, 78, 79, 124, 125, 126, 127, 128, 129, 130, 136] (by decide +kernel) (by decide +kernel)
set_option maxRecDepth 20000 in
theorem gX4_told_X3_spread : GoodIn wsX4_told (wsV RX4 188 RX3 yX3_spread wsX3_spread) := goodIn_app (goodIn_of _ (by decide +kernel)) ggX4_told_X3_spread
set_option maxRecDepth 20000 in
theorem ggX4_told_X4_areReadingsSo : GoodIn wsX4_told wsX4_areReadingsSo := goodIn_r _ [83, 84, 27, 28, 29, 30, 85, 86, 87, 88, 7, 89, 90, 91, 92, 93, 3, 94, 95, 96, 97, 34, 98, 36, 79, 99, 100, 101, 102, 103, 104, 105, 106, 107, 108, 109, 110, 111, 112, 113, 114, 115, 116, 117, 118, 119, 120, 121, 122, 123, 131, 132, 133, 134, 135, 136] (by decide +kernel) (by decide +kernel)
set_option maxRecDepth 20000 in
theorem gX4_told_X4_areReadingsSo : GoodIn wsX4_told (wsV RX4 202 RX4 yX4_areReadingsSo wsX4_areReadingsSo) := goodIn_app (goodIn_of _ (by decide +kernel)) ggX4_told_X4_areReadingsSo
theorem dX4_told_0 : decode cX4_told 0 = .ok (.iload_n 1, 1) := by decide +kernel
theorem dX4_told_1 : decode cX4_told 1 = .ok (.iload_n 2, 1) := by decide +kernel
theorem dX4_told_2 : decode cX4_told 2 = .ok (.invokestatic 122, 3) := by decide +kernel
theorem dX4_told_5 : decode cX4_told 5 = .ok (.ifCond .ne 6, 3) := by decide +kernel
theorem dX4_told_8 : decode cX4_told 8 = .ok (.bipush (-2), 2) := by decide +kernel
theorem dX4_told_10 : decode cX4_told 10 = .ok (.ireturn, 1) := by decide +kernel
theorem dX4_told_11 : decode cX4_told 11 = .ok (.aload_n 0, 1) := by decide +kernel
theorem dX4_told_12 : decode cX4_told 12 = .ok (.invokevirtual 135, 3) := by decide +kernel
theorem dX4_told_15 : decode cX4_told 15 = .ok (.ifCond .eq 6, 3) := by decide +kernel
theorem dX4_told_18 : decode cX4_told 18 = .ok (.bipush (-3), 2) := by decide +kernel
theorem dX4_told_20 : decode cX4_told 20 = .ok (.ireturn, 1) := by decide +kernel
theorem dX4_told_21 : decode cX4_told 21 = .ok (.iconst 0, 1) := by decide +kernel
theorem dX4_told_22 : decode cX4_told 22 = .ok (.istore_n 3, 1) := by decide +kernel
theorem dX4_told_23 : decode cX4_told 23 = .ok (.iconst 0, 1) := by decide +kernel
theorem dX4_told_24 : decode cX4_told 24 = .ok (.istore 4, 2) := by decide +kernel
theorem dX4_told_26 : decode cX4_told 26 = .ok (.iload 4, 2) := by decide +kernel
theorem dX4_told_28 : decode cX4_told 28 = .ok (.aload_n 0, 1) := by decide +kernel
theorem dX4_told_29 : decode cX4_told 29 = .ok (.getfield 47, 3) := by decide +kernel
theorem dX4_told_32 : decode cX4_told 32 = .ok (.getfield 95, 3) := by decide +kernel
theorem dX4_told_35 : decode cX4_told 35 = .ok (.if_icmp .ge 57, 3) := by decide +kernel
theorem dX4_told_38 : decode cX4_told 38 = .ok (.aload_n 0, 1) := by decide +kernel
theorem dX4_told_39 : decode cX4_told 39 = .ok (.iconst (-1), 1) := by decide +kernel
theorem dX4_told_40 : decode cX4_told 40 = .ok (.invokevirtual 185, 3) := by decide +kernel
theorem dX4_told_43 : decode cX4_told 43 = .ok (.aload_n 0, 1) := by decide +kernel
theorem dX4_told_44 : decode cX4_told 44 = .ok (.getfield 36, 3) := by decide +kernel
theorem dX4_told_47 : decode cX4_told 47 = .ok (.iload 4, 2) := by decide +kernel
theorem dX4_told_49 : decode cX4_told 49 = .ok (.iload_n 1, 1) := by decide +kernel
theorem dX4_told_50 : decode cX4_told 50 = .ok (.bipush 14, 2) := by decide +kernel
theorem dX4_told_52 : decode cX4_told 52 = .ok (.iload_n 2, 1) := by decide +kernel
theorem dX4_told_53 : decode cX4_told 53 = .ok (.invokevirtual 198, 3) := by decide +kernel
theorem dX4_told_56 : decode cX4_told 56 = .ok (.aload_n 0, 1) := by decide +kernel
theorem dX4_told_57 : decode cX4_told 57 = .ok (.getfield 36, 3) := by decide +kernel
theorem dX4_told_60 : decode cX4_told 60 = .ok (.aload_n 0, 1) := by decide +kernel
theorem dX4_told_61 : decode cX4_told 61 = .ok (.getfield 47, 3) := by decide +kernel
theorem dX4_told_64 : decode cX4_told 64 = .ok (.aload_n 0, 1) := by decide +kernel
theorem dX4_told_65 : decode cX4_told 65 = .ok (.getfield 58, 3) := by decide +kernel
theorem dX4_told_68 : decode cX4_told 68 = .ok (.iconst (-1), 1) := by decide +kernel
theorem dX4_told_69 : decode cX4_told 69 = .ok (.invokevirtual 188, 3) := by decide +kernel
theorem dX4_told_72 : decode cX4_told 72 = .ok (.aload_n 0, 1) := by decide +kernel
theorem dX4_told_73 : decode cX4_told 73 = .ok (.invokevirtual 202, 3) := by decide +kernel
theorem dX4_told_76 : decode cX4_told 76 = .ok (.ifCond .eq 10, 3) := by decide +kernel
theorem dX4_told_79 : decode cX4_told 79 = .ok (.iload_n 3, 1) := by decide +kernel
theorem dX4_told_80 : decode cX4_told 80 = .ok (.iconst 1, 1) := by decide +kernel
theorem dX4_told_81 : decode cX4_told 81 = .ok (.iload 4, 2) := by decide +kernel
theorem dX4_told_83 : decode cX4_told 83 = .ok (.ishl, 1) := by decide +kernel
theorem dX4_told_84 : decode cX4_told 84 = .ok (.ior, 1) := by decide +kernel
theorem dX4_told_85 : decode cX4_told 85 = .ok (.istore_n 3, 1) := by decide +kernel
theorem dX4_told_86 : decode cX4_told 86 = .ok (.iinc 4 1, 3) := by decide +kernel
theorem dX4_told_89 : decode cX4_told 89 = .ok (.goto (-63), 3) := by decide +kernel
theorem dX4_told_92 : decode cX4_told 92 = .ok (.iload_n 3, 1) := by decide +kernel
theorem dX4_told_93 : decode cX4_told 93 = .ok (.ireturn, 1) := by decide +kernel
set_option maxRecDepth 20000 in
theorem ggX4_mute_X4_hasNoPass : GoodIn wsX4_mute wsX4_hasNoPass := goodIn_r _ [9, 1, 2, 99, 100, 101, 102, 103, 104, 105, 106, 107, 108, 109, 110, 111, 112, 113, 114, 115, 116, 117, 118] (by decide +kernel) (by decide +kernel)
set_option maxRecDepth 20000 in
theorem gX4_mute_X4_hasNoPass : GoodIn wsX4_mute (wsV RX4 135 RX4 yX4_hasNoPass wsX4_hasNoPass) := goodIn_app (goodIn_of _ (by decide +kernel)) ggX4_mute_X4_hasNoPass
set_option maxRecDepth 20000 in
theorem ggX4_mute_X4_startTalk : GoodIn wsX4_mute wsX4_startTalk := goodIn_r _ [13, 3, 14, 15, 16, 17, 18, 19, 20, 21, 22, 23, 24, 25, 26, 27, 28, 29, 30, 31, 32, 33, 34, 35, 99, 100, 101, 102, 103, 104, 105, 106, 107, 108, 109, 110, 111, 119, 120, 121, 122, 123, 124] (by decide +kernel) (by decide +kernel)
set_option maxRecDepth 20000 in
theorem gX4_mute_X4_startTalk : GoodIn wsX4_mute (wsV RX4 185 RX4 yX4_startTalk wsX4_startTalk) := goodIn_app (goodIn_of _ (by decide +kernel)) ggX4_mute_X4_startTalk
set_option maxRecDepth 20000 in
theorem ggX4_mute_X3_spread : GoodIn wsX4_mute wsX3_spread := goodIn_r _ [39, 40, 41, 24, 42, 43, 44, 45, 22, 46, 47, 48, 49, 50, 51, 52, 53, 8, 54, 55, 56, 57, 58, 59, 60, 61, 62, 63, 64, 65, 66, 67, 112, 113, 114, 115, 116, 117, 118, 124] (by decide +kernel) (by decide +kernel)
set_option maxRecDepth 20000 in
theorem gX4_mute_X3_spread : GoodIn wsX4_mute (wsV RX4 188 RX3 yX3_spread wsX3_spread) := goodIn_app (goodIn_of _ (by decide +kernel)) ggX4_mute_X3_spread
set_option maxRecDepth 20000 in
theorem ggX4_mute_X4_areReadingsSo : GoodIn wsX4_mute wsX4_areReadingsSo := goodIn_r _ [71, 72, 15, 16, 17, 18, 73, 74, 75, 76, 8, 77, 78, 79, 80, 81, 3, 82, 83, 84, 85, 22, 86, 24, 67, 87, 88, 89, 90, 91, 92, 93, 94, 95, 96, 97, 98, 99, 100, 101, 102, 103, 104, 105, 106, 107, 108, 109, 110, 111, 119, 120, 121, 122, 123, 124] (by decide +kernel) (by decide +kernel)
set_option maxRecDepth 20000 in
theorem gX4_mute_X4_areReadingsSo : GoodIn wsX4_mute (wsV RX4 202 RX4 yX4_areReadingsSo wsX4_areReadingsSo) := goodIn_app (goodIn_of _ (by decide +kernel)) ggX4_mute_X4_areReadingsSo
theorem dX4_mute_0 : decode cX4_mute 0 = .ok (.aload_n 0, 1) := by decide +kernel
theorem dX4_mute_1 : decode cX4_mute 1 = .ok (.invokevirtual 135, 3) := by decide +kernel
theorem dX4_mute_4 : decode cX4_mute 4 = .ok (.ifCond .eq 6, 3) := by decide +kernel
theorem dX4_mute_7 : decode cX4_mute 7 = .ok (.bipush (-3), 2) := by decide +kernel
theorem dX4_mute_9 : decode cX4_mute 9 = .ok (.ireturn, 1) := by decide +kernel
theorem dX4_mute_10 : decode cX4_mute 10 = .ok (.iconst 0, 1) := by decide +kernel
theorem dX4_mute_11 : decode cX4_mute 11 = .ok (.istore_n 1, 1) := by decide +kernel
theorem dX4_mute_12 : decode cX4_mute 12 = .ok (.iconst 0, 1) := by decide +kernel
theorem dX4_mute_13 : decode cX4_mute 13 = .ok (.istore_n 2, 1) := by decide +kernel
theorem dX4_mute_14 : decode cX4_mute 14 = .ok (.iload_n 2, 1) := by decide +kernel
theorem dX4_mute_15 : decode cX4_mute 15 = .ok (.aload_n 0, 1) := by decide +kernel
theorem dX4_mute_16 : decode cX4_mute 16 = .ok (.getfield 47, 3) := by decide +kernel
theorem dX4_mute_19 : decode cX4_mute 19 = .ok (.getfield 95, 3) := by decide +kernel
theorem dX4_mute_22 : decode cX4_mute 22 = .ok (.if_icmp .ge 47, 3) := by decide +kernel
theorem dX4_mute_25 : decode cX4_mute 25 = .ok (.aload_n 0, 1) := by decide +kernel
theorem dX4_mute_26 : decode cX4_mute 26 = .ok (.iconst (-1), 1) := by decide +kernel
theorem dX4_mute_27 : decode cX4_mute 27 = .ok (.invokevirtual 185, 3) := by decide +kernel
theorem dX4_mute_30 : decode cX4_mute 30 = .ok (.aload_n 0, 1) := by decide +kernel
theorem dX4_mute_31 : decode cX4_mute 31 = .ok (.getfield 36, 3) := by decide +kernel
theorem dX4_mute_34 : decode cX4_mute 34 = .ok (.aload_n 0, 1) := by decide +kernel
theorem dX4_mute_35 : decode cX4_mute 35 = .ok (.getfield 47, 3) := by decide +kernel
theorem dX4_mute_38 : decode cX4_mute 38 = .ok (.aload_n 0, 1) := by decide +kernel
theorem dX4_mute_39 : decode cX4_mute 39 = .ok (.getfield 58, 3) := by decide +kernel
theorem dX4_mute_42 : decode cX4_mute 42 = .ok (.iconst 1, 1) := by decide +kernel
theorem dX4_mute_43 : decode cX4_mute 43 = .ok (.iload_n 2, 1) := by decide +kernel
theorem dX4_mute_44 : decode cX4_mute 44 = .ok (.ishl, 1) := by decide +kernel
theorem dX4_mute_45 : decode cX4_mute 45 = .ok (.ior, 1) := by decide +kernel
theorem dX4_mute_46 : decode cX4_mute 46 = .ok (.iconst (-1), 1) := by decide +kernel
theorem dX4_mute_47 : decode cX4_mute 47 = .ok (.invokevirtual 188, 3) := by decide +kernel
theorem dX4_mute_50 : decode cX4_mute 50 = .ok (.aload_n 0, 1) := by decide +kernel
theorem dX4_mute_51 : decode cX4_mute 51 = .ok (.invokevirtual 202, 3) := by decide +kernel
theorem dX4_mute_54 : decode cX4_mute 54 = .ok (.ifCond .eq 9, 3) := by decide +kernel
theorem dX4_mute_57 : decode cX4_mute 57 = .ok (.iload_n 1, 1) := by decide +kernel
theorem dX4_mute_58 : decode cX4_mute 58 = .ok (.iconst 1, 1) := by decide +kernel
theorem dX4_mute_59 : decode cX4_mute 59 = .ok (.iload_n 2, 1) := by decide +kernel
theorem dX4_mute_60 : decode cX4_mute 60 = .ok (.ishl, 1) := by decide +kernel
theorem dX4_mute_61 : decode cX4_mute 61 = .ok (.ior, 1) := by decide +kernel
theorem dX4_mute_62 : decode cX4_mute 62 = .ok (.istore_n 1, 1) := by decide +kernel
theorem dX4_mute_63 : decode cX4_mute 63 = .ok (.iinc 2 1, 3) := by decide +kernel
theorem dX4_mute_66 : decode cX4_mute 66 = .ok (.goto (-52), 3) := by decide +kernel
theorem dX4_mute_69 : decode cX4_mute 69 = .ok (.iload_n 1, 1) := by decide +kernel
theorem dX4_mute_70 : decode cX4_mute 70 = .ok (.ireturn, 1) := by decide +kernel
set_option maxRecDepth 20000 in
theorem ggX4_rows_X4_isSheet : GoodIn wsX4_rows wsX4_isSheet := goodIn_r _ [6, 7, 8, 5, 9] (by decide +kernel) (by decide +kernel)
set_option maxRecDepth 20000 in
theorem gX4_rows_X4_isSheet : GoodIn wsX4_rows (va_wsS RX4 72 yX4_isSheet wsX4_isSheet) := goodIn_app (goodIn_of _ (by decide +kernel)) ggX4_rows_X4_isSheet
set_option maxRecDepth 20000 in
theorem ggX4_rows_X4_isBelow : GoodIn wsX4_rows wsX4_isBelow := goodIn_r _ [9] (by decide +kernel) (by decide +kernel)
set_option maxRecDepth 20000 in
theorem gX4_rows_X4_isBelow : GoodIn wsX4_rows (va_wsS RX4 76 yX4_isBelow wsX4_isBelow) := goodIn_app (goodIn_of _ (by decide +kernel)) ggX4_rows_X4_isBelow
set_option maxRecDepth 20000 in
theorem ggX4_rows_X4_isThing : GoodIn wsX4_rows wsX4_isThing := goodIn_r _ [12, 7, 8, 5, 9] (by decide +kernel) (by decide +kernel)
set_option maxRecDepth 20000 in
theorem gX4_rows_X4_isThing : GoodIn wsX4_rows (va_wsS RX4 144 yX4_isThing wsX4_isThing) := goodIn_app (goodIn_of _ (by decide +kernel)) ggX4_rows_X4_isThing
set_option maxRecDepth 20000 in
theorem ggX4_rows_X4_hasNoPass : GoodIn wsX4_rows wsX4_hasNoPass := goodIn_r _ [16, 17, 18, 137, 138, 139, 140, 141, 142, 143, 144, 145, 146, 147, 148, 149, 150, 151, 152, 153, 154, 155, 156] (by decide +kernel) (by decide +kernel)
set_option maxRecDepth 20000 in
theorem gX4_rows_X4_hasNoPass : GoodIn wsX4_rows (wsV RX4 135 RX4 yX4_hasNoPass wsX4_hasNoPass) := goodIn_app (goodIn_of _ (by decide +kernel)) ggX4_rows_X4_hasNoPass
set_option maxRecDepth 20000 in
theorem ggX4_rows_X2_faultOfCells : GoodIn wsX4_rows wsX2_faultOfCells := goodIn_r _ [23, 24, 25, 26, 22, 27, 28, 29, 30, 31, 32, 33, 34, 35, 36, 37, 157, 158, 159] (by decide +kernel) (by decide +kernel)
set_option maxRecDepth 20000 in
theorem gX4_rows_X2_faultOfCells : GoodIn wsX4_rows (wsV RX4 80 RX2 yX2_faultOfCells wsX2_faultOfCells) := goodIn_app (goodIn_of _ (by decide +kernel)) ggX4_rows_X2_faultOfCells
set_option maxRecDepth 20000 in
theorem ggX4_rows_X4_meet : GoodIn wsX4_rows wsX4_meet := goodIn_r _ [41, 1, 137, 138, 139, 140, 141, 142, 143, 144, 145, 146, 147, 148, 149] (by decide +kernel) (by decide +kernel)
set_option maxRecDepth 20000 in
theorem gX4_rows_X4_meet : GoodIn wsX4_rows (wsV RX4 84 RX4 yX4_meet wsX4_meet) := goodIn_app (goodIn_of _ (by decide +kernel)) ggX4_rows_X4_meet
set_option maxRecDepth 20000 in
theorem ggX4_rows_X4_worksOfRow : GoodIn wsX4_rows wsX4_worksOfRow := goodIn_r _ [45, 46, 47, 17, 48, 49, 50, 51, 5, 52, 18, 7, 8, 9, 53, 54, 55, 56, 57, 58, 59, 60, 61, 62, 63, 64, 65, 66, 67, 68, 69, 70, 71, 72, 73, 74, 75, 76, 77, 78, 79, 80, 81, 82, 83, 84, 85, 86, 87, 88, 89, 90, 91, 92, 93, 94, 95, 96, 97, 98, 99, 100, 101, 102, 103, 104, 105, 106, 107, 108, 109, 110, 111, 112, 113, 114, 115, 116, 117, 118, 119, 120, 121, 122, 123, 124, 125, 126, 127, 128, 129, 130, 131, 132, 133, 134, 135, 136, 157, 158, 159, 137, 138, 139, 140, 141, 142, 143, 144, 145, 146, 147, 148, 149, 150, 151, 152, 153, 154, 155, 156, 160] (by decide +kernel) (by decide +kernel)
set_option maxRecDepth 20000 in
theorem gX4_rows_X4_worksOfRow : GoodIn wsX4_rows (wsV RX4 205 RX4 yX4_worksOfRow wsX4_worksOfRow) := goodIn_app (goodIn_of _ (by decide +kernel)) ggX4_rows_X4_worksOfRow
theorem dX4_rows_0 : decode cX4_rows 0 = .ok (.aload_n 0, 1) := by decide +kernel
theorem dX4_rows_1 : decode cX4_rows 1 = .ok (.iconst 0, 1) := by decide +kernel
theorem dX4_rows_2 : decode cX4_rows 2 = .ok (.putfield 68, 3) := by decide +kernel
theorem dX4_rows_5 : decode cX4_rows 5 = .ok (.iload_n 2, 1) := by decide +kernel
theorem dX4_rows_6 : decode cX4_rows 6 = .ok (.invokestatic 72, 3) := by decide +kernel
theorem dX4_rows_9 : decode cX4_rows 9 = .ok (.ifCond .ne 5, 3) := by decide +kernel
theorem dX4_rows_12 : decode cX4_rows 12 = .ok (.iconst (-1), 1) := by decide +kernel
theorem dX4_rows_13 : decode cX4_rows 13 = .ok (.ireturn, 1) := by decide +kernel
theorem dX4_rows_14 : decode cX4_rows 14 = .ok (.iload_n 3, 1) := by decide +kernel
theorem dX4_rows_15 : decode cX4_rows 15 = .ok (.iconst 3, 1) := by decide +kernel
theorem dX4_rows_16 : decode cX4_rows 16 = .ok (.invokestatic 76, 3) := by decide +kernel
theorem dX4_rows_19 : decode cX4_rows 19 = .ok (.ifCond .eq 10, 3) := by decide +kernel
theorem dX4_rows_22 : decode cX4_rows 22 = .ok (.iload_n 1, 1) := by decide +kernel
theorem dX4_rows_23 : decode cX4_rows 23 = .ok (.invokestatic 144, 3) := by decide +kernel
theorem dX4_rows_26 : decode cX4_rows 26 = .ok (.ifCond .ne 6, 3) := by decide +kernel
theorem dX4_rows_29 : decode cX4_rows 29 = .ok (.bipush (-2), 2) := by decide +kernel
theorem dX4_rows_31 : decode cX4_rows 31 = .ok (.ireturn, 1) := by decide +kernel
theorem dX4_rows_32 : decode cX4_rows 32 = .ok (.aload_n 0, 1) := by decide +kernel
theorem dX4_rows_33 : decode cX4_rows 33 = .ok (.invokevirtual 135, 3) := by decide +kernel
theorem dX4_rows_36 : decode cX4_rows 36 = .ok (.ifCond .eq 6, 3) := by decide +kernel
theorem dX4_rows_39 : decode cX4_rows 39 = .ok (.bipush (-3), 2) := by decide +kernel
theorem dX4_rows_41 : decode cX4_rows 41 = .ok (.ireturn, 1) := by decide +kernel
theorem dX4_rows_42 : decode cX4_rows 42 = .ok (.aload_n 0, 1) := by decide +kernel
theorem dX4_rows_43 : decode cX4_rows 43 = .ok (.getfield 13, 3) := by decide +kernel
theorem dX4_rows_46 : decode cX4_rows 46 = .ok (.iload_n 2, 1) := by decide +kernel
theorem dX4_rows_47 : decode cX4_rows 47 = .ok (.aaload, 1) := by decide +kernel
theorem dX4_rows_48 : decode cX4_rows 48 = .ok (.iload_n 3, 1) := by decide +kernel
theorem dX4_rows_49 : decode cX4_rows 49 = .ok (.iload 4, 2) := by decide +kernel
theorem dX4_rows_51 : decode cX4_rows 51 = .ok (.iload 5, 2) := by decide +kernel
theorem dX4_rows_53 : decode cX4_rows 53 = .ok (.invokevirtual 80, 3) := by decide +kernel
theorem dX4_rows_56 : decode cX4_rows 56 = .ok (.istore 6, 2) := by decide +kernel
theorem dX4_rows_58 : decode cX4_rows 58 = .ok (.iload 6, 2) := by decide +kernel
theorem dX4_rows_60 : decode cX4_rows 60 = .ok (.ifCond .eq 10, 3) := by decide +kernel
theorem dX4_rows_63 : decode cX4_rows 63 = .ok (.aload_n 0, 1) := by decide +kernel
theorem dX4_rows_64 : decode cX4_rows 64 = .ok (.iload 6, 2) := by decide +kernel
theorem dX4_rows_66 : decode cX4_rows 66 = .ok (.invokevirtual 84, 3) := by decide +kernel
theorem dX4_rows_69 : decode cX4_rows 69 = .ok (.ireturn, 1) := by decide +kernel
theorem dX4_rows_70 : decode cX4_rows 70 = .ok (.iload 5, 2) := by decide +kernel
theorem dX4_rows_72 : decode cX4_rows 72 = .ok (.bipush 8, 2) := by decide +kernel
theorem dX4_rows_74 : decode cX4_rows 74 = .ok (.if_icmp .le 6, 3) := by decide +kernel
theorem dX4_rows_77 : decode cX4_rows 77 = .ok (.bipush (-2), 2) := by decide +kernel
theorem dX4_rows_79 : decode cX4_rows 79 = .ok (.ireturn, 1) := by decide +kernel
theorem dX4_rows_80 : decode cX4_rows 80 = .ok (.aload_n 0, 1) := by decide +kernel
theorem dX4_rows_81 : decode cX4_rows 81 = .ok (.iload_n 1, 1) := by decide +kernel
theorem dX4_rows_82 : decode cX4_rows 82 = .ok (.aload_n 0, 1) := by decide +kernel
theorem dX4_rows_83 : decode cX4_rows 83 = .ok (.getfield 13, 3) := by decide +kernel
theorem dX4_rows_86 : decode cX4_rows 86 = .ok (.iload_n 2, 1) := by decide +kernel
theorem dX4_rows_87 : decode cX4_rows 87 = .ok (.aaload, 1) := by decide +kernel
theorem dX4_rows_88 : decode cX4_rows 88 = .ok (.iload 4, 2) := by decide +kernel
theorem dX4_rows_90 : decode cX4_rows 90 = .ok (.iload 5, 2) := by decide +kernel
theorem dX4_rows_92 : decode cX4_rows 92 = .ok (.invokevirtual 205, 3) := by decide +kernel
theorem dX4_rows_95 : decode cX4_rows 95 = .ok (.ireturn, 1) := by decide +kernel
set_option maxRecDepth 20000 in
theorem ggX4_sheet_X4_isSheet : GoodIn wsX4_sheet wsX4_isSheet := goodIn_r _ [6, 7, 8, 5, 9] (by decide +kernel) (by decide +kernel)
set_option maxRecDepth 20000 in
theorem gX4_sheet_X4_isSheet : GoodIn wsX4_sheet (va_wsS RX4 72 yX4_isSheet wsX4_isSheet) := goodIn_app (goodIn_of _ (by decide +kernel)) ggX4_sheet_X4_isSheet
set_option maxRecDepth 20000 in
theorem ggX4_sheet_X4_isBelow : GoodIn wsX4_sheet wsX4_isBelow := goodIn_r _ [9] (by decide +kernel) (by decide +kernel)
set_option maxRecDepth 20000 in
theorem gX4_sheet_X4_isBelow : GoodIn wsX4_sheet (va_wsS RX4 76 yX4_isBelow wsX4_isBelow) := goodIn_app (goodIn_of _ (by decide +kernel)) ggX4_sheet_X4_isBelow
set_option maxRecDepth 20000 in
theorem ggX4_sheet_X4_meet : GoodIn wsX4_sheet wsX4_meet := goodIn_r _ [13, 1, 26, 27, 28, 29, 30, 31, 32, 33, 34, 35, 36, 37, 38] (by decide +kernel) (by decide +kernel)
set_option maxRecDepth 20000 in
theorem gX4_sheet_X4_meet : GoodIn wsX4_sheet (wsV RX4 84 RX4 yX4_meet wsX4_meet) := goodIn_app (goodIn_of _ (by decide +kernel)) ggX4_sheet_X4_meet
set_option maxRecDepth 20000 in
theorem ggX4_sheet_X2_renew : GoodIn wsX4_sheet wsX2_renew := goodIn_r _ [18, 19, 20, 21, 22, 23, 24, 25, 39, 40, 41] (by decide +kernel) (by decide +kernel)
set_option maxRecDepth 20000 in
theorem gX4_sheet_X2_renew : GoodIn wsX4_sheet (wsV RX4 209 RX2 yX2_renew wsX2_renew) := goodIn_app (goodIn_of _ (by decide +kernel)) ggX4_sheet_X2_renew
theorem dX4_sheet_0 : decode cX4_sheet 0 = .ok (.aload_n 0, 1) := by decide +kernel
theorem dX4_sheet_1 : decode cX4_sheet 1 = .ok (.iconst 0, 1) := by decide +kernel
theorem dX4_sheet_2 : decode cX4_sheet 2 = .ok (.putfield 68, 3) := by decide +kernel
theorem dX4_sheet_5 : decode cX4_sheet 5 = .ok (.iload_n 1, 1) := by decide +kernel
theorem dX4_sheet_6 : decode cX4_sheet 6 = .ok (.invokestatic 72, 3) := by decide +kernel
theorem dX4_sheet_9 : decode cX4_sheet 9 = .ok (.ifCond .ne 5, 3) := by decide +kernel
theorem dX4_sheet_12 : decode cX4_sheet 12 = .ok (.iconst (-1), 1) := by decide +kernel
theorem dX4_sheet_13 : decode cX4_sheet 13 = .ok (.ireturn, 1) := by decide +kernel
theorem dX4_sheet_14 : decode cX4_sheet 14 = .ok (.iload_n 2, 1) := by decide +kernel
theorem dX4_sheet_15 : decode cX4_sheet 15 = .ok (.iconst 3, 1) := by decide +kernel
theorem dX4_sheet_16 : decode cX4_sheet 16 = .ok (.invokestatic 76, 3) := by decide +kernel
theorem dX4_sheet_19 : decode cX4_sheet 19 = .ok (.ifCond .eq 9, 3) := by decide +kernel
theorem dX4_sheet_22 : decode cX4_sheet 22 = .ok (.iload_n 3, 1) := by decide +kernel
theorem dX4_sheet_23 : decode cX4_sheet 23 = .ok (.bipush 60, 2) := by decide +kernel
theorem dX4_sheet_25 : decode cX4_sheet 25 = .ok (.if_icmp .le 6, 3) := by decide +kernel
theorem dX4_sheet_28 : decode cX4_sheet 28 = .ok (.bipush (-2), 2) := by decide +kernel
theorem dX4_sheet_30 : decode cX4_sheet 30 = .ok (.ireturn, 1) := by decide +kernel
theorem dX4_sheet_31 : decode cX4_sheet 31 = .ok (.iload_n 3, 1) := by decide +kernel
theorem dX4_sheet_32 : decode cX4_sheet 32 = .ok (.ifCond .ge 9, 3) := by decide +kernel
theorem dX4_sheet_35 : decode cX4_sheet 35 = .ok (.aload_n 0, 1) := by decide +kernel
theorem dX4_sheet_36 : decode cX4_sheet 36 = .ok (.iconst 4, 1) := by decide +kernel
theorem dX4_sheet_37 : decode cX4_sheet 37 = .ok (.invokevirtual 84, 3) := by decide +kernel
theorem dX4_sheet_40 : decode cX4_sheet 40 = .ok (.ireturn, 1) := by decide +kernel
theorem dX4_sheet_41 : decode cX4_sheet 41 = .ok (.aload_n 0, 1) := by decide +kernel
theorem dX4_sheet_42 : decode cX4_sheet 42 = .ok (.getfield 13, 3) := by decide +kernel
theorem dX4_sheet_45 : decode cX4_sheet 45 = .ok (.iload_n 1, 1) := by decide +kernel
theorem dX4_sheet_46 : decode cX4_sheet 46 = .ok (.aaload, 1) := by decide +kernel
theorem dX4_sheet_47 : decode cX4_sheet 47 = .ok (.iload_n 2, 1) := by decide +kernel
theorem dX4_sheet_48 : decode cX4_sheet 48 = .ok (.iload_n 3, 1) := by decide +kernel
theorem dX4_sheet_49 : decode cX4_sheet 49 = .ok (.invokevirtual 209, 3) := by decide +kernel
theorem dX4_sheet_52 : decode cX4_sheet 52 = .ok (.iconst 1, 1) := by decide +kernel
theorem dX4_sheet_53 : decode cX4_sheet 53 = .ok (.ireturn, 1) := by decide +kernel
set_option maxRecDepth 20000 in
theorem ggX4_lose_X4_isSheet : GoodIn wsX4_lose wsX4_isSheet := goodIn_r _ [5, 6, 7, 4, 8] (by decide +kernel) (by decide +kernel)
set_option maxRecDepth 20000 in
theorem gX4_lose_X4_isSheet : GoodIn wsX4_lose (va_wsS RX4 72 yX4_isSheet wsX4_isSheet) := goodIn_app (goodIn_of _ (by decide +kernel)) ggX4_lose_X4_isSheet
set_option maxRecDepth 20000 in
theorem ggX4_lose_X2_hasNothing : GoodIn wsX4_lose wsX2_hasNothing := goodIn_r _ [13, 14, 33, 34, 35] (by decide +kernel) (by decide +kernel)
set_option maxRecDepth 20000 in
theorem gX4_lose_X2_hasNothing : GoodIn wsX4_lose (wsV RX4 213 RX2 yX2_hasNothing wsX2_hasNothing) := goodIn_app (goodIn_of _ (by decide +kernel)) ggX4_lose_X2_hasNothing
set_option maxRecDepth 20000 in
theorem ggX4_lose_X2_empty : GoodIn wsX4_lose wsX2_empty := goodIn_r _ [18, 14, 19, 33, 34, 35] (by decide +kernel) (by decide +kernel)
set_option maxRecDepth 20000 in
theorem gX4_lose_X2_empty : GoodIn wsX4_lose (wsV RX4 216 RX2 yX2_empty wsX2_empty) := goodIn_app (goodIn_of _ (by decide +kernel)) ggX4_lose_X2_empty
theorem dX4_lose_0 : decode cX4_lose 0 = .ok (.iload_n 1, 1) := by decide +kernel
theorem dX4_lose_1 : decode cX4_lose 1 = .ok (.invokestatic 72, 3) := by decide +kernel
theorem dX4_lose_4 : decode cX4_lose 4 = .ok (.ifCond .ne 5, 3) := by decide +kernel
theorem dX4_lose_7 : decode cX4_lose 7 = .ok (.iconst (-1), 1) := by decide +kernel
theorem dX4_lose_8 : decode cX4_lose 8 = .ok (.ireturn, 1) := by decide +kernel
theorem dX4_lose_9 : decode cX4_lose 9 = .ok (.aload_n 0, 1) := by decide +kernel
theorem dX4_lose_10 : decode cX4_lose 10 = .ok (.getfield 13, 3) := by decide +kernel
theorem dX4_lose_13 : decode cX4_lose 13 = .ok (.iload_n 1, 1) := by decide +kernel
theorem dX4_lose_14 : decode cX4_lose 14 = .ok (.aaload, 1) := by decide +kernel
theorem dX4_lose_15 : decode cX4_lose 15 = .ok (.invokevirtual 213, 3) := by decide +kernel
theorem dX4_lose_18 : decode cX4_lose 18 = .ok (.ifCond .eq 5, 3) := by decide +kernel
theorem dX4_lose_21 : decode cX4_lose 21 = .ok (.iconst 0, 1) := by decide +kernel
theorem dX4_lose_22 : decode cX4_lose 22 = .ok (.ireturn, 1) := by decide +kernel
theorem dX4_lose_23 : decode cX4_lose 23 = .ok (.aload_n 0, 1) := by decide +kernel
theorem dX4_lose_24 : decode cX4_lose 24 = .ok (.getfield 13, 3) := by decide +kernel
theorem dX4_lose_27 : decode cX4_lose 27 = .ok (.iload_n 1, 1) := by decide +kernel
theorem dX4_lose_28 : decode cX4_lose 28 = .ok (.aaload, 1) := by decide +kernel
theorem dX4_lose_29 : decode cX4_lose 29 = .ok (.invokevirtual 216, 3) := by decide +kernel
theorem dX4_lose_32 : decode cX4_lose 32 = .ok (.iconst 1, 1) := by decide +kernel
theorem dX4_lose_33 : decode cX4_lose 33 = .ok (.ireturn, 1) := by decide +kernel
set_option maxRecDepth 20000 in
theorem ggX4_put_X4_isSheet : GoodIn wsX4_put wsX4_isSheet := goodIn_r _ [7, 8, 9, 6, 10] (by decide +kernel) (by decide +kernel)
set_option maxRecDepth 20000 in
theorem gX4_put_X4_isSheet : GoodIn wsX4_put (va_wsS RX4 72 yX4_isSheet wsX4_isSheet) := goodIn_app (goodIn_of _ (by decide +kernel)) ggX4_put_X4_isSheet
set_option maxRecDepth 20000 in
theorem ggX4_put_X2_hasNothing : GoodIn wsX4_put wsX2_hasNothing := goodIn_r _ [15, 16, 39, 40, 41] (by decide +kernel) (by decide +kernel)
set_option maxRecDepth 20000 in
theorem gX4_put_X2_hasNothing : GoodIn wsX4_put (wsV RX4 213 RX2 yX2_hasNothing wsX2_hasNothing) := goodIn_app (goodIn_of _ (by decide +kernel)) ggX4_put_X2_hasNothing
set_option maxRecDepth 20000 in
theorem ggX4_put_X4_meet : GoodIn wsX4_put wsX4_meet := goodIn_r _ [20, 1, 26, 27, 28, 29, 30, 31, 32, 33, 34, 35, 36, 37, 38] (by decide +kernel) (by decide +kernel)
set_option maxRecDepth 20000 in
theorem gX4_put_X4_meet : GoodIn wsX4_put (wsV RX4 84 RX4 yX4_meet wsX4_meet) := goodIn_app (goodIn_of _ (by decide +kernel)) ggX4_put_X4_meet
set_option maxRecDepth 20000 in
theorem ggX4_put_X4_isBelow : GoodIn wsX4_put wsX4_isBelow := goodIn_r _ [10] (by decide +kernel) (by decide +kernel)
set_option maxRecDepth 20000 in
theorem gX4_put_X4_isBelow : GoodIn wsX4_put (va_wsS RX4 76 yX4_isBelow wsX4_isBelow) := goodIn_app (goodIn_of _ (by decide +kernel)) ggX4_put_X4_isBelow
set_option maxRecDepth 20000 in
theorem ggX4_put_X2_write : GoodIn wsX4_put wsX2_write := goodIn_r _ [24, 25, 16, 39, 40, 41] (by decide +kernel) (by decide +kernel)
set_option maxRecDepth 20000 in
theorem gX4_put_X2_write : GoodIn wsX4_put (wsV RX4 222 RX2 yX2_write wsX2_write) := goodIn_app (goodIn_of _ (by decide +kernel)) ggX4_put_X2_write
theorem dX4_put_0 : decode cX4_put 0 = .ok (.aload_n 0, 1) := by decide +kernel
theorem dX4_put_1 : decode cX4_put 1 = .ok (.iconst 0, 1) := by decide +kernel
theorem dX4_put_2 : decode cX4_put 2 = .ok (.putfield 68, 3) := by decide +kernel
theorem dX4_put_5 : decode cX4_put 5 = .ok (.iload_n 1, 1) := by decide +kernel
theorem dX4_put_6 : decode cX4_put 6 = .ok (.invokestatic 72, 3) := by decide +kernel
theorem dX4_put_9 : decode cX4_put 9 = .ok (.ifCond .ne 5, 3) := by decide +kernel
theorem dX4_put_12 : decode cX4_put 12 = .ok (.iconst (-1), 1) := by decide +kernel
theorem dX4_put_13 : decode cX4_put 13 = .ok (.ireturn, 1) := by decide +kernel
theorem dX4_put_14 : decode cX4_put 14 = .ok (.aload_n 0, 1) := by decide +kernel
theorem dX4_put_15 : decode cX4_put 15 = .ok (.getfield 13, 3) := by decide +kernel
theorem dX4_put_18 : decode cX4_put 18 = .ok (.iload_n 1, 1) := by decide +kernel
theorem dX4_put_19 : decode cX4_put 19 = .ok (.aaload, 1) := by decide +kernel
theorem dX4_put_20 : decode cX4_put 20 = .ok (.invokevirtual 213, 3) := by decide +kernel
theorem dX4_put_23 : decode cX4_put 23 = .ok (.ifCond .eq 9, 3) := by decide +kernel
theorem dX4_put_26 : decode cX4_put 26 = .ok (.aload_n 0, 1) := by decide +kernel
theorem dX4_put_27 : decode cX4_put 27 = .ok (.iconst 1, 1) := by decide +kernel
theorem dX4_put_28 : decode cX4_put 28 = .ok (.invokevirtual 84, 3) := by decide +kernel
theorem dX4_put_31 : decode cX4_put 31 = .ok (.ireturn, 1) := by decide +kernel
theorem dX4_put_32 : decode cX4_put 32 = .ok (.iload_n 2, 1) := by decide +kernel
theorem dX4_put_33 : decode cX4_put 33 = .ok (.aload_n 0, 1) := by decide +kernel
theorem dX4_put_34 : decode cX4_put 34 = .ok (.getfield 13, 3) := by decide +kernel
theorem dX4_put_37 : decode cX4_put 37 = .ok (.iload_n 1, 1) := by decide +kernel
theorem dX4_put_38 : decode cX4_put 38 = .ok (.aaload, 1) := by decide +kernel
theorem dX4_put_39 : decode cX4_put 39 = .ok (.getfield 219, 3) := by decide +kernel
theorem dX4_put_42 : decode cX4_put 42 = .ok (.invokestatic 76, 3) := by decide +kernel
theorem dX4_put_45 : decode cX4_put 45 = .ok (.ifCond .ne 9, 3) := by decide +kernel
theorem dX4_put_48 : decode cX4_put 48 = .ok (.aload_n 0, 1) := by decide +kernel
theorem dX4_put_49 : decode cX4_put 49 = .ok (.iconst 3, 1) := by decide +kernel
theorem dX4_put_50 : decode cX4_put 50 = .ok (.invokevirtual 84, 3) := by decide +kernel
theorem dX4_put_53 : decode cX4_put 53 = .ok (.ireturn, 1) := by decide +kernel
theorem dX4_put_54 : decode cX4_put 54 = .ok (.aload_n 0, 1) := by decide +kernel
theorem dX4_put_55 : decode cX4_put 55 = .ok (.getfield 13, 3) := by decide +kernel
theorem dX4_put_58 : decode cX4_put 58 = .ok (.iload_n 1, 1) := by decide +kernel
theorem dX4_put_59 : decode cX4_put 59 = .ok (.aaload, 1) := by decide +kernel
theorem dX4_put_60 : decode cX4_put 60 = .ok (.iload_n 2, 1) := by decide +kernel
theorem dX4_put_61 : decode cX4_put 61 = .ok (.iload_n 3, 1) := by decide +kernel
theorem dX4_put_62 : decode cX4_put 62 = .ok (.invokevirtual 222, 3) := by decide +kernel
theorem dX4_put_65 : decode cX4_put 65 = .ok (.iconst 1, 1) := by decide +kernel
theorem dX4_put_66 : decode cX4_put 66 = .ok (.ireturn, 1) := by decide +kernel
set_option maxRecDepth 20000 in
theorem ggX4_cell_X4_isSheet : GoodIn wsX4_cell wsX4_isSheet := goodIn_r _ [9, 10, 11, 8, 12] (by decide +kernel) (by decide +kernel)
set_option maxRecDepth 20000 in
theorem gX4_cell_X4_isSheet : GoodIn wsX4_cell (va_wsS RX4 72 yX4_isSheet wsX4_isSheet) := goodIn_app (goodIn_of _ (by decide +kernel)) ggX4_cell_X4_isSheet
set_option maxRecDepth 20000 in
theorem ggX4_cell_X4_isBelow : GoodIn wsX4_cell wsX4_isBelow := goodIn_r _ [12] (by decide +kernel) (by decide +kernel)
set_option maxRecDepth 20000 in
theorem gX4_cell_X4_isBelow : GoodIn wsX4_cell (va_wsS RX4 76 yX4_isBelow wsX4_isBelow) := goodIn_app (goodIn_of _ (by decide +kernel)) ggX4_cell_X4_isBelow
set_option maxRecDepth 20000 in
theorem ggX4_cell_X2_faultOfRow : GoodIn wsX4_cell wsX2_faultOfRow := goodIn_r _ [17, 18, 19, 20, 21, 16, 22, 36, 37, 38] (by decide +kernel) (by decide +kernel)
set_option maxRecDepth 20000 in
theorem gX4_cell_X2_faultOfRow : GoodIn wsX4_cell (wsV RX4 227 RX2 yX2_faultOfRow wsX2_faultOfRow) := goodIn_app (goodIn_of _ (by decide +kernel)) ggX4_cell_X2_faultOfRow
theorem dX4_cell_0 : decode cX4_cell 0 = .ok (.aload_n 0, 1) := by decide +kernel
theorem dX4_cell_1 : decode cX4_cell 1 = .ok (.iconst 0, 1) := by decide +kernel
theorem dX4_cell_2 : decode cX4_cell 2 = .ok (.putfield 68, 3) := by decide +kernel
theorem dX4_cell_5 : decode cX4_cell 5 = .ok (.iload_n 1, 1) := by decide +kernel
theorem dX4_cell_6 : decode cX4_cell 6 = .ok (.invokestatic 72, 3) := by decide +kernel
theorem dX4_cell_9 : decode cX4_cell 9 = .ok (.ifCond .eq 11, 3) := by decide +kernel
theorem dX4_cell_12 : decode cX4_cell 12 = .ok (.iload_n 3, 1) := by decide +kernel
theorem dX4_cell_13 : decode cX4_cell 13 = .ok (.iconst 3, 1) := by decide +kernel
theorem dX4_cell_14 : decode cX4_cell 14 = .ok (.invokestatic 76, 3) := by decide +kernel
theorem dX4_cell_17 : decode cX4_cell 17 = .ok (.ifCond .ne 7, 3) := by decide +kernel
theorem dX4_cell_20 : decode cX4_cell 20 = .ok (.ldc2_w 225, 3) := by decide +kernel
theorem dX4_cell_23 : decode cX4_cell 23 = .ok (.lreturn, 1) := by decide +kernel
theorem dX4_cell_24 : decode cX4_cell 24 = .ok (.aload_n 0, 1) := by decide +kernel
theorem dX4_cell_25 : decode cX4_cell 25 = .ok (.getfield 13, 3) := by decide +kernel
theorem dX4_cell_28 : decode cX4_cell 28 = .ok (.iload_n 1, 1) := by decide +kernel
theorem dX4_cell_29 : decode cX4_cell 29 = .ok (.aaload, 1) := by decide +kernel
theorem dX4_cell_30 : decode cX4_cell 30 = .ok (.astore 4, 2) := by decide +kernel
theorem dX4_cell_32 : decode cX4_cell 32 = .ok (.aload_n 0, 1) := by decide +kernel
theorem dX4_cell_33 : decode cX4_cell 33 = .ok (.aload 4, 2) := by decide +kernel
theorem dX4_cell_35 : decode cX4_cell 35 = .ok (.iload_n 3, 1) := by decide +kernel
theorem dX4_cell_36 : decode cX4_cell 36 = .ok (.invokevirtual 227, 3) := by decide +kernel
theorem dX4_cell_39 : decode cX4_cell 39 = .ok (.putfield 68, 3) := by decide +kernel
theorem dX4_cell_42 : decode cX4_cell 42 = .ok (.aload_n 0, 1) := by decide +kernel
theorem dX4_cell_43 : decode cX4_cell 43 = .ok (.getfield 68, 3) := by decide +kernel
theorem dX4_cell_46 : decode cX4_cell 46 = .ok (.ifCond .ne 20, 3) := by decide +kernel
theorem dX4_cell_49 : decode cX4_cell 49 = .ok (.iload_n 2, 1) := by decide +kernel
theorem dX4_cell_50 : decode cX4_cell 50 = .ok (.aload 4, 2) := by decide +kernel
theorem dX4_cell_52 : decode cX4_cell 52 = .ok (.getfield 219, 3) := by decide +kernel
theorem dX4_cell_55 : decode cX4_cell 55 = .ok (.invokestatic 76, 3) := by decide +kernel
theorem dX4_cell_58 : decode cX4_cell 58 = .ok (.ifCond .ne 8, 3) := by decide +kernel
theorem dX4_cell_61 : decode cX4_cell 61 = .ok (.aload_n 0, 1) := by decide +kernel
theorem dX4_cell_62 : decode cX4_cell 62 = .ok (.iconst 3, 1) := by decide +kernel
theorem dX4_cell_63 : decode cX4_cell 63 = .ok (.putfield 68, 3) := by decide +kernel
theorem dX4_cell_66 : decode cX4_cell 66 = .ok (.aload_n 0, 1) := by decide +kernel
theorem dX4_cell_67 : decode cX4_cell 67 = .ok (.getfield 68, 3) := by decide +kernel
theorem dX4_cell_70 : decode cX4_cell 70 = .ok (.ifCond .eq 9, 3) := by decide +kernel
theorem dX4_cell_73 : decode cX4_cell 73 = .ok (.ldc2_w 225, 3) := by decide +kernel
theorem dX4_cell_76 : decode cX4_cell 76 = .ok (.goto 11, 3) := by decide +kernel
theorem dX4_cell_79 : decode cX4_cell 79 = .ok (.aload 4, 2) := by decide +kernel
theorem dX4_cell_81 : decode cX4_cell 81 = .ok (.getfield 230, 3) := by decide +kernel
theorem dX4_cell_84 : decode cX4_cell 84 = .ok (.iload_n 2, 1) := by decide +kernel
theorem dX4_cell_85 : decode cX4_cell 85 = .ok (.iaload, 1) := by decide +kernel
theorem dX4_cell_86 : decode cX4_cell 86 = .ok (.i2l, 1) := by decide +kernel
theorem dX4_cell_87 : decode cX4_cell 87 = .ok (.lreturn, 1) := by decide +kernel
set_option maxRecDepth 20000 in
theorem ggX4_copy_X4_isSheet : GoodIn wsX4_copy wsX4_isSheet := goodIn_r _ [12, 13, 14, 11, 15] (by decide +kernel) (by decide +kernel)
set_option maxRecDepth 20000 in
theorem gX4_copy_X4_isSheet : GoodIn wsX4_copy (va_wsS RX4 72 yX4_isSheet wsX4_isSheet) := goodIn_app (goodIn_of _ (by decide +kernel)) ggX4_copy_X4_isSheet
set_option maxRecDepth 20000 in
theorem ggX4_copy_X2_hasNothing : GoodIn wsX4_copy wsX2_hasNothing := goodIn_r _ [20, 21, 44, 45, 46] (by decide +kernel) (by decide +kernel)
set_option maxRecDepth 20000 in
theorem gX4_copy_X2_hasNothing : GoodIn wsX4_copy (wsV RX4 213 RX2 yX2_hasNothing wsX2_hasNothing) := goodIn_app (goodIn_of _ (by decide +kernel)) ggX4_copy_X2_hasNothing
set_option maxRecDepth 20000 in
theorem ggX4_copy_X4_meet : GoodIn wsX4_copy wsX4_meet := goodIn_r _ [25, 1, 31, 32, 33, 34, 35, 36, 37, 38, 39, 40, 41, 42, 43] (by decide +kernel) (by decide +kernel)
set_option maxRecDepth 20000 in
theorem gX4_copy_X4_meet : GoodIn wsX4_copy (wsV RX4 84 RX4 yX4_meet wsX4_meet) := goodIn_app (goodIn_of _ (by decide +kernel)) ggX4_copy_X4_meet
set_option maxRecDepth 20000 in
theorem ggX4_copy_X2_hasCells : GoodIn wsX4_copy wsX2_hasCells := goodIn_r _ [29, 30, 44, 45, 46] (by decide +kernel) (by decide +kernel)
set_option maxRecDepth 20000 in
theorem gX4_copy_X2_hasCells : GoodIn wsX4_copy (wsV RX4 236 RX2 yX2_hasCells wsX2_hasCells) := goodIn_app (goodIn_of _ (by decide +kernel)) ggX4_copy_X2_hasCells
theorem dX4_copy_0 : decode cX4_copy 0 = .ok (.aload_n 0, 1) := by decide +kernel
theorem dX4_copy_1 : decode cX4_copy 1 = .ok (.iconst 0, 1) := by decide +kernel
theorem dX4_copy_2 : decode cX4_copy 2 = .ok (.putfield 68, 3) := by decide +kernel
theorem dX4_copy_5 : decode cX4_copy 5 = .ok (.iload_n 1, 1) := by decide +kernel
theorem dX4_copy_6 : decode cX4_copy 6 = .ok (.invokestatic 72, 3) := by decide +kernel
theorem dX4_copy_9 : decode cX4_copy 9 = .ok (.ifCond .eq 10, 3) := by decide +kernel
theorem dX4_copy_12 : decode cX4_copy 12 = .ok (.iload_n 3, 1) := by decide +kernel
theorem dX4_copy_13 : decode cX4_copy 13 = .ok (.invokestatic 72, 3) := by decide +kernel
theorem dX4_copy_16 : decode cX4_copy 16 = .ok (.ifCond .ne 5, 3) := by decide +kernel
theorem dX4_copy_19 : decode cX4_copy 19 = .ok (.iconst (-1), 1) := by decide +kernel
theorem dX4_copy_20 : decode cX4_copy 20 = .ok (.ireturn, 1) := by decide +kernel
theorem dX4_copy_21 : decode cX4_copy 21 = .ok (.aload_n 0, 1) := by decide +kernel
theorem dX4_copy_22 : decode cX4_copy 22 = .ok (.getfield 13, 3) := by decide +kernel
theorem dX4_copy_25 : decode cX4_copy 25 = .ok (.iload_n 1, 1) := by decide +kernel
theorem dX4_copy_26 : decode cX4_copy 26 = .ok (.aaload, 1) := by decide +kernel
theorem dX4_copy_27 : decode cX4_copy 27 = .ok (.astore 6, 2) := by decide +kernel
theorem dX4_copy_29 : decode cX4_copy 29 = .ok (.aload_n 0, 1) := by decide +kernel
theorem dX4_copy_30 : decode cX4_copy 30 = .ok (.getfield 13, 3) := by decide +kernel
theorem dX4_copy_33 : decode cX4_copy 33 = .ok (.iload_n 3, 1) := by decide +kernel
theorem dX4_copy_34 : decode cX4_copy 34 = .ok (.aaload, 1) := by decide +kernel
theorem dX4_copy_35 : decode cX4_copy 35 = .ok (.astore 7, 2) := by decide +kernel
theorem dX4_copy_37 : decode cX4_copy 37 = .ok (.aload 6, 2) := by decide +kernel
theorem dX4_copy_39 : decode cX4_copy 39 = .ok (.invokevirtual 213, 3) := by decide +kernel
theorem dX4_copy_42 : decode cX4_copy 42 = .ok (.ifCond .ne 11, 3) := by decide +kernel
theorem dX4_copy_45 : decode cX4_copy 45 = .ok (.aload 7, 2) := by decide +kernel
theorem dX4_copy_47 : decode cX4_copy 47 = .ok (.invokevirtual 213, 3) := by decide +kernel
theorem dX4_copy_50 : decode cX4_copy 50 = .ok (.ifCond .eq 9, 3) := by decide +kernel
theorem dX4_copy_53 : decode cX4_copy 53 = .ok (.aload_n 0, 1) := by decide +kernel
theorem dX4_copy_54 : decode cX4_copy 54 = .ok (.iconst 1, 1) := by decide +kernel
theorem dX4_copy_55 : decode cX4_copy 55 = .ok (.invokevirtual 84, 3) := by decide +kernel
theorem dX4_copy_58 : decode cX4_copy 58 = .ok (.ireturn, 1) := by decide +kernel
theorem dX4_copy_59 : decode cX4_copy 59 = .ok (.aload 6, 2) := by decide +kernel
theorem dX4_copy_61 : decode cX4_copy 61 = .ok (.getfield 233, 3) := by decide +kernel
theorem dX4_copy_64 : decode cX4_copy 64 = .ok (.aload 7, 2) := by decide +kernel
theorem dX4_copy_66 : decode cX4_copy 66 = .ok (.getfield 233, 3) := by decide +kernel
theorem dX4_copy_69 : decode cX4_copy 69 = .ok (.if_icmp .eq 9, 3) := by decide +kernel
theorem dX4_copy_72 : decode cX4_copy 72 = .ok (.aload_n 0, 1) := by decide +kernel
theorem dX4_copy_73 : decode cX4_copy 73 = .ok (.iconst 2, 1) := by decide +kernel
theorem dX4_copy_74 : decode cX4_copy 74 = .ok (.invokevirtual 84, 3) := by decide +kernel
theorem dX4_copy_77 : decode cX4_copy 77 = .ok (.ireturn, 1) := by decide +kernel
theorem dX4_copy_78 : decode cX4_copy 78 = .ok (.iload 5, 2) := by decide +kernel
theorem dX4_copy_80 : decode cX4_copy 80 = .ok (.ifCond .lt 26, 3) := by decide +kernel
theorem dX4_copy_83 : decode cX4_copy 83 = .ok (.aload 6, 2) := by decide +kernel
theorem dX4_copy_85 : decode cX4_copy 85 = .ok (.iload_n 2, 1) := by decide +kernel
theorem dX4_copy_86 : decode cX4_copy 86 = .ok (.iload 5, 2) := by decide +kernel
theorem dX4_copy_88 : decode cX4_copy 88 = .ok (.invokevirtual 236, 3) := by decide +kernel
theorem dX4_copy_91 : decode cX4_copy 91 = .ok (.ifCond .eq 15, 3) := by decide +kernel
theorem dX4_copy_94 : decode cX4_copy 94 = .ok (.aload 7, 2) := by decide +kernel
theorem dX4_copy_96 : decode cX4_copy 96 = .ok (.iload 4, 2) := by decide +kernel
theorem dX4_copy_98 : decode cX4_copy 98 = .ok (.iload 5, 2) := by decide +kernel
theorem dX4_copy_100 : decode cX4_copy 100 = .ok (.invokevirtual 236, 3) := by decide +kernel
theorem dX4_copy_103 : decode cX4_copy 103 = .ok (.ifCond .ne 9, 3) := by decide +kernel
theorem dX4_copy_106 : decode cX4_copy 106 = .ok (.aload_n 0, 1) := by decide +kernel
theorem dX4_copy_107 : decode cX4_copy 107 = .ok (.iconst 3, 1) := by decide +kernel
theorem dX4_copy_108 : decode cX4_copy 108 = .ok (.invokevirtual 84, 3) := by decide +kernel
theorem dX4_copy_111 : decode cX4_copy 111 = .ok (.ireturn, 1) := by decide +kernel
theorem dX4_copy_112 : decode cX4_copy 112 = .ok (.aload 6, 2) := by decide +kernel
theorem dX4_copy_114 : decode cX4_copy 114 = .ok (.getfield 230, 3) := by decide +kernel
theorem dX4_copy_117 : decode cX4_copy 117 = .ok (.iload_n 2, 1) := by decide +kernel
theorem dX4_copy_118 : decode cX4_copy 118 = .ok (.aload 7, 2) := by decide +kernel
theorem dX4_copy_120 : decode cX4_copy 120 = .ok (.getfield 230, 3) := by decide +kernel
theorem dX4_copy_123 : decode cX4_copy 123 = .ok (.iload 4, 2) := by decide +kernel
theorem dX4_copy_125 : decode cX4_copy 125 = .ok (.iload 5, 2) := by decide +kernel
theorem dX4_copy_127 : decode cX4_copy 127 = .ok (.invokestatic 239, 3) := by decide +kernel
theorem dX4_copy_130 : decode cX4_copy 130 = .ok (.iload 5, 2) := by decide +kernel
theorem dX4_copy_132 : decode cX4_copy 132 = .ok (.ireturn, 1) := by decide +kernel
set_option maxRecDepth 20000 in
theorem ggX4_tell_X4_isPerson : GoodIn wsX4_tell wsX4_isPerson := goodIn_r _ [7, 1, 8, 9, 10, 6, 11, 29, 30, 31, 32, 33, 34, 35, 36, 37, 38, 39, 40, 41, 42, 43, 44, 45, 46, 47, 48] (by decide +kernel) (by decide +kernel)
set_option maxRecDepth 20000 in
theorem gX4_tell_X4_isPerson : GoodIn wsX4_tell (wsV RX4 98 RX4 yX4_isPerson wsX4_isPerson) := goodIn_app (goodIn_of _ (by decide +kernel)) ggX4_tell_X4_isPerson
set_option maxRecDepth 20000 in
theorem ggX4_tell_X4_liarsBody : GoodIn wsX4_tell wsX4_liarsBody := goodIn_r _ [15, 16, 17, 18, 6, 19, 20, 21, 22, 23, 24, 25, 26, 27, 28, 29, 30, 31, 32, 33, 34, 35, 36, 37, 38, 39, 40, 41] (by decide +kernel) (by decide +kernel)
set_option maxRecDepth 20000 in
theorem gX4_tell_X4_liarsBody : GoodIn wsX4_tell (wsV RX4 245 RX4 yX4_liarsBody wsX4_liarsBody) := goodIn_app (goodIn_of _ (by decide +kernel)) ggX4_tell_X4_liarsBody
set_option maxRecDepth 20000 in
theorem ggX4_tell_X4_jokersBody : GoodIn wsX4_tell wsX4_jokersBody := goodIn_r _ [24, 16, 17, 18, 6, 19, 20, 25, 26, 27, 28, 29, 30, 31, 32, 33, 34, 35, 36, 37, 38, 39, 40, 41] (by decide +kernel) (by decide +kernel)
set_option maxRecDepth 20000 in
theorem gX4_tell_X4_jokersBody : GoodIn wsX4_tell (wsV RX4 248 RX4 yX4_jokersBody wsX4_jokersBody) := goodIn_app (goodIn_of _ (by decide +kernel)) ggX4_tell_X4_jokersBody
set_option maxRecDepth 20000 in
theorem ggX4_tell_X4_tellersBody : GoodIn wsX4_tell wsX4_tellersBody := goodIn_r _ [28, 16, 17, 18, 6, 19, 20, 29, 30, 31, 32, 33, 34, 35, 36, 37, 38, 39, 40, 41] (by decide +kernel) (by decide +kernel)
set_option maxRecDepth 20000 in
theorem gX4_tell_X4_tellersBody : GoodIn wsX4_tell (wsV RX4 251 RX4 yX4_tellersBody wsX4_tellersBody) := goodIn_app (goodIn_of _ (by decide +kernel)) ggX4_tell_X4_tellersBody
theorem dX4_tell_0 : decode cX4_tell 0 = .ok (.aload_n 0, 1) := by decide +kernel
theorem dX4_tell_1 : decode cX4_tell 1 = .ok (.iload_n 1, 1) := by decide +kernel
theorem dX4_tell_2 : decode cX4_tell 2 = .ok (.invokevirtual 98, 3) := by decide +kernel
theorem dX4_tell_5 : decode cX4_tell 5 = .ok (.ifCond .ne 5, 3) := by decide +kernel
theorem dX4_tell_8 : decode cX4_tell 8 = .ok (.iconst (-1), 1) := by decide +kernel
theorem dX4_tell_9 : decode cX4_tell 9 = .ok (.ireturn, 1) := by decide +kernel
theorem dX4_tell_10 : decode cX4_tell 10 = .ok (.aload_n 0, 1) := by decide +kernel
theorem dX4_tell_11 : decode cX4_tell 11 = .ok (.getfield 47, 3) := by decide +kernel
theorem dX4_tell_14 : decode cX4_tell 14 = .ok (.getfield 101, 3) := by decide +kernel
theorem dX4_tell_17 : decode cX4_tell 17 = .ok (.iload_n 1, 1) := by decide +kernel
theorem dX4_tell_18 : decode cX4_tell 18 = .ok (.iaload, 1) := by decide +kernel
theorem dX4_tell_19 : decode cX4_tell 19 = .ok (.lookupswitch 37 #[(1, 31), (2, 25)], 25) := by decide +kernel
theorem dX4_tell_44 : decode cX4_tell 44 = .ok (.aload_n 0, 1) := by decide +kernel
theorem dX4_tell_45 : decode cX4_tell 45 = .ok (.iload_n 1, 1) := by decide +kernel
theorem dX4_tell_46 : decode cX4_tell 46 = .ok (.invokevirtual 245, 3) := by decide +kernel
theorem dX4_tell_49 : decode cX4_tell 49 = .ok (.ireturn, 1) := by decide +kernel
theorem dX4_tell_50 : decode cX4_tell 50 = .ok (.aload_n 0, 1) := by decide +kernel
theorem dX4_tell_51 : decode cX4_tell 51 = .ok (.iload_n 1, 1) := by decide +kernel
theorem dX4_tell_52 : decode cX4_tell 52 = .ok (.invokevirtual 248, 3) := by decide +kernel
theorem dX4_tell_55 : decode cX4_tell 55 = .ok (.ireturn, 1) := by decide +kernel
theorem dX4_tell_56 : decode cX4_tell 56 = .ok (.aload_n 0, 1) := by decide +kernel
theorem dX4_tell_57 : decode cX4_tell 57 = .ok (.iload_n 1, 1) := by decide +kernel
theorem dX4_tell_58 : decode cX4_tell 58 = .ok (.invokevirtual 251, 3) := by decide +kernel
theorem dX4_tell_61 : decode cX4_tell 61 = .ok (.ireturn, 1) := by decide +kernel
set_option maxRecDepth 20000 in
theorem ggX4_greet_X4_isPerson : GoodIn wsX4_greet wsX4_isPerson := goodIn_r _ [7, 1, 8, 9, 10, 6, 11, 25, 26, 27, 28, 29, 30, 31, 32, 33, 34, 35, 36, 37, 38, 39, 40, 41, 42, 43, 44] (by decide +kernel) (by decide +kernel)
set_option maxRecDepth 20000 in
theorem gX4_greet_X4_isPerson : GoodIn wsX4_greet (wsV RX4 98 RX4 yX4_isPerson wsX4_isPerson) := goodIn_app (goodIn_of _ (by decide +kernel)) ggX4_greet_X4_isPerson
set_option maxRecDepth 20000 in
theorem ggX4_greet_X4_liarsGreeting : GoodIn wsX4_greet wsX4_liarsGreeting := goodIn_r _ [15, 16, 17, 18, 6, 19, 20, 25, 26, 27, 28, 29, 30, 31, 32, 33, 34, 35, 36, 37] (by decide +kernel) (by decide +kernel)
set_option maxRecDepth 20000 in
theorem gX4_greet_X4_liarsGreeting : GoodIn wsX4_greet (wsV RX4 254 RX4 yX4_liarsGreeting wsX4_liarsGreeting) := goodIn_app (goodIn_of _ (by decide +kernel)) ggX4_greet_X4_liarsGreeting
set_option maxRecDepth 20000 in
theorem ggX4_greet_X4_lentGreeting : GoodIn wsX4_greet wsX4_lentGreeting := goodIn_r _ [24, 16, 17, 18, 6, 19, 20, 25, 26, 27, 28, 29, 30, 31, 32, 33, 34, 35, 36, 37] (by decide +kernel) (by decide +kernel)
set_option maxRecDepth 20000 in
theorem gX4_greet_X4_lentGreeting : GoodIn wsX4_greet (wsV RX4 258 RX4 yX4_lentGreeting wsX4_lentGreeting) := goodIn_app (goodIn_of _ (by decide +kernel)) ggX4_greet_X4_lentGreeting
theorem dX4_greet_0 : decode cX4_greet 0 = .ok (.aload_n 0, 1) := by decide +kernel
theorem dX4_greet_1 : decode cX4_greet 1 = .ok (.iload_n 1, 1) := by decide +kernel
theorem dX4_greet_2 : decode cX4_greet 2 = .ok (.invokevirtual 98, 3) := by decide +kernel
theorem dX4_greet_5 : decode cX4_greet 5 = .ok (.ifCond .ne 5, 3) := by decide +kernel
theorem dX4_greet_8 : decode cX4_greet 8 = .ok (.iconst (-1), 1) := by decide +kernel
theorem dX4_greet_9 : decode cX4_greet 9 = .ok (.ireturn, 1) := by decide +kernel
theorem dX4_greet_10 : decode cX4_greet 10 = .ok (.aload_n 0, 1) := by decide +kernel
theorem dX4_greet_11 : decode cX4_greet 11 = .ok (.getfield 47, 3) := by decide +kernel
theorem dX4_greet_14 : decode cX4_greet 14 = .ok (.getfield 101, 3) := by decide +kernel
theorem dX4_greet_17 : decode cX4_greet 17 = .ok (.iload_n 1, 1) := by decide +kernel
theorem dX4_greet_18 : decode cX4_greet 18 = .ok (.iaload, 1) := by decide +kernel
theorem dX4_greet_19 : decode cX4_greet 19 = .ok (.iconst 2, 1) := by decide +kernel
theorem dX4_greet_20 : decode cX4_greet 20 = .ok (.if_icmp .ne 10, 3) := by decide +kernel
theorem dX4_greet_23 : decode cX4_greet 23 = .ok (.aload_n 0, 1) := by decide +kernel
theorem dX4_greet_24 : decode cX4_greet 24 = .ok (.invokevirtual 254, 3) := by decide +kernel
theorem dX4_greet_27 : decode cX4_greet 27 = .ok (.goto 8, 3) := by decide +kernel
theorem dX4_greet_30 : decode cX4_greet 30 = .ok (.aload_n 0, 1) := by decide +kernel
theorem dX4_greet_31 : decode cX4_greet 31 = .ok (.iload_n 1, 1) := by decide +kernel
theorem dX4_greet_32 : decode cX4_greet 32 = .ok (.invokevirtual 258, 3) := by decide +kernel
theorem dX4_greet_35 : decode cX4_greet 35 = .ok (.ireturn, 1) := by decide +kernel
set_option maxRecDepth 20000 in
theorem ggX4_as_X4_isPerson : GoodIn wsX4_as wsX4_isPerson := goodIn_r _ [8, 2, 9, 10, 11, 7, 12, 17, 18, 19, 20, 21, 22, 23, 24, 25, 26, 27, 28, 29, 30, 31, 32, 33, 34, 35, 36] (by decide +kernel) (by decide +kernel)
set_option maxRecDepth 20000 in
theorem gX4_as_X4_isPerson : GoodIn wsX4_as (wsV RX4 98 RX4 yX4_isPerson wsX4_isPerson) := goodIn_app (goodIn_of _ (by decide +kernel)) ggX4_as_X4_isPerson
set_option maxRecDepth 20000 in
theorem ggX4_as_X4_isBelow : GoodIn wsX4_as wsX4_isBelow := goodIn_r _ [12] (by decide +kernel) (by decide +kernel)
set_option maxRecDepth 20000 in
theorem gX4_as_X4_isBelow : GoodIn wsX4_as (va_wsS RX4 76 yX4_isBelow wsX4_isBelow) := goodIn_app (goodIn_of _ (by decide +kernel)) ggX4_as_X4_isBelow
set_option maxRecDepth 20000 in
theorem ggX4_as_X4_meet : GoodIn wsX4_as wsX4_meet := goodIn_r _ [16, 1, 17, 18, 19, 20, 21, 22, 23, 24, 25, 26, 27, 28, 29] (by decide +kernel) (by decide +kernel)
set_option maxRecDepth 20000 in
theorem gX4_as_X4_meet : GoodIn wsX4_as (wsV RX4 84 RX4 yX4_meet wsX4_meet) := goodIn_app (goodIn_of _ (by decide +kernel)) ggX4_as_X4_meet
theorem dX4_as_0 : decode cX4_as 0 = .ok (.aload_n 0, 1) := by decide +kernel
theorem dX4_as_1 : decode cX4_as 1 = .ok (.iconst 0, 1) := by decide +kernel
theorem dX4_as_2 : decode cX4_as 2 = .ok (.putfield 68, 3) := by decide +kernel
theorem dX4_as_5 : decode cX4_as 5 = .ok (.aload_n 0, 1) := by decide +kernel
theorem dX4_as_6 : decode cX4_as 6 = .ok (.iload_n 1, 1) := by decide +kernel
theorem dX4_as_7 : decode cX4_as 7 = .ok (.invokevirtual 98, 3) := by decide +kernel
theorem dX4_as_10 : decode cX4_as 10 = .ok (.ifCond .ne 5, 3) := by decide +kernel
theorem dX4_as_13 : decode cX4_as 13 = .ok (.iconst (-1), 1) := by decide +kernel
theorem dX4_as_14 : decode cX4_as 14 = .ok (.ireturn, 1) := by decide +kernel
theorem dX4_as_15 : decode cX4_as 15 = .ok (.iload_n 2, 1) := by decide +kernel
theorem dX4_as_16 : decode cX4_as 16 = .ok (.iconst 3, 1) := by decide +kernel
theorem dX4_as_17 : decode cX4_as 17 = .ok (.invokestatic 76, 3) := by decide +kernel
theorem dX4_as_20 : decode cX4_as 20 = .ok (.ifCond .ne 6, 3) := by decide +kernel
theorem dX4_as_23 : decode cX4_as 23 = .ok (.bipush (-2), 2) := by decide +kernel
theorem dX4_as_25 : decode cX4_as 25 = .ok (.ireturn, 1) := by decide +kernel
theorem dX4_as_26 : decode cX4_as 26 = .ok (.aload_n 0, 1) := by decide +kernel
theorem dX4_as_27 : decode cX4_as 27 = .ok (.getfield 47, 3) := by decide +kernel
theorem dX4_as_30 : decode cX4_as 30 = .ok (.getfield 101, 3) := by decide +kernel
theorem dX4_as_33 : decode cX4_as 33 = .ok (.iload_n 1, 1) := by decide +kernel
theorem dX4_as_34 : decode cX4_as 34 = .ok (.iaload, 1) := by decide +kernel
theorem dX4_as_35 : decode cX4_as 35 = .ok (.iload_n 2, 1) := by decide +kernel
theorem dX4_as_36 : decode cX4_as 36 = .ok (.if_icmp .lt 7, 3) := by decide +kernel
theorem dX4_as_39 : decode cX4_as 39 = .ok (.iconst 1, 1) := by decide +kernel
theorem dX4_as_40 : decode cX4_as 40 = .ok (.goto 8, 3) := by decide +kernel
theorem dX4_as_43 : decode cX4_as 43 = .ok (.aload_n 0, 1) := by decide +kernel
theorem dX4_as_44 : decode cX4_as 44 = .ok (.iconst 2, 1) := by decide +kernel
theorem dX4_as_45 : decode cX4_as 45 = .ok (.invokevirtual 84, 3) := by decide +kernel
theorem dX4_as_48 : decode cX4_as 48 = .ok (.ireturn, 1) := by decide +kernel
theorem dX4_trace_0 : decode cX4_trace 0 = .ok (.aload_n 0, 1) := by decide +kernel
theorem dX4_trace_1 : decode cX4_trace 1 = .ok (.getfield 65, 3) := by decide +kernel
theorem dX4_trace_4 : decode cX4_trace 4 = .ok (.ireturn, 1) := by decide +kernel
theorem dX4_fault_0 : decode cX4_fault 0 = .ok (.aload_n 0, 1) := by decide +kernel
theorem dX4_fault_1 : decode cX4_fault 1 = .ok (.getfield 68, 3) := by decide +kernel
theorem dX4_fault_4 : decode cX4_fault 4 = .ok (.ireturn, 1) := by decide +kernel
theorem dX4_many_0 : decode cX4_many 0 = .ok (.iload_n 1, 1) := by decide +kernel
theorem dX4_many_1 : decode cX4_many 1 = .ok (.tableswitch 72 0 4 #[35, 43, 51, 59, 67], 35) := by decide +kernel
theorem dX4_many_36 : decode cX4_many 36 = .ok (.aload_n 0, 1) := by decide +kernel
theorem dX4_many_37 : decode cX4_many 37 = .ok (.getfield 47, 3) := by decide +kernel
theorem dX4_many_40 : decode cX4_many 40 = .ok (.getfield 95, 3) := by decide +kernel
theorem dX4_many_43 : decode cX4_many 43 = .ok (.ireturn, 1) := by decide +kernel
theorem dX4_many_44 : decode cX4_many 44 = .ok (.aload_n 0, 1) := by decide +kernel
theorem dX4_many_45 : decode cX4_many 45 = .ok (.getfield 47, 3) := by decide +kernel
theorem dX4_many_48 : decode cX4_many 48 = .ok (.getfield 110, 3) := by decide +kernel
theorem dX4_many_51 : decode cX4_many 51 = .ok (.ireturn, 1) := by decide +kernel
theorem dX4_many_52 : decode cX4_many 52 = .ok (.aload_n 0, 1) := by decide +kernel
theorem dX4_many_53 : decode cX4_many 53 = .ok (.getfield 22, 3) := by decide +kernel
theorem dX4_many_56 : decode cX4_many 56 = .ok (.getfield 182, 3) := by decide +kernel
theorem dX4_many_59 : decode cX4_many 59 = .ok (.ireturn, 1) := by decide +kernel
theorem dX4_many_60 : decode cX4_many 60 = .ok (.aload_n 0, 1) := by decide +kernel
theorem dX4_many_61 : decode cX4_many 61 = .ok (.getfield 26, 3) := by decide +kernel
theorem dX4_many_64 : decode cX4_many 64 = .ok (.getfield 182, 3) := by decide +kernel
theorem dX4_many_67 : decode cX4_many 67 = .ok (.ireturn, 1) := by decide +kernel
theorem dX4_many_68 : decode cX4_many 68 = .ok (.aload_n 0, 1) := by decide +kernel
theorem dX4_many_69 : decode cX4_many 69 = .ok (.getfield 54, 3) := by decide +kernel
theorem dX4_many_72 : decode cX4_many 72 = .ok (.ireturn, 1) := by decide +kernel
theorem dX4_many_73 : decode cX4_many 73 = .ok (.bipush (-2), 2) := by decide +kernel
theorem dX4_many_75 : decode cX4_many 75 = .ok (.ireturn, 1) := by decide +kernel
theorem dX4_isBelow_0 : decode cX4_isBelow 0 = .ok (.iload_n 0, 1) := by decide +kernel
theorem dX4_isBelow_1 : decode cX4_isBelow 1 = .ok (.ifCond .lt 12, 3) := by decide +kernel
theorem dX4_isBelow_4 : decode cX4_isBelow 4 = .ok (.iload_n 0, 1) := by decide +kernel
theorem dX4_isBelow_5 : decode cX4_isBelow 5 = .ok (.iload_n 1, 1) := by decide +kernel
theorem dX4_isBelow_6 : decode cX4_isBelow 6 = .ok (.if_icmp .ge 7, 3) := by decide +kernel
theorem dX4_isBelow_9 : decode cX4_isBelow 9 = .ok (.iconst 1, 1) := by decide +kernel
theorem dX4_isBelow_10 : decode cX4_isBelow 10 = .ok (.goto 4, 3) := by decide +kernel
theorem dX4_isBelow_13 : decode cX4_isBelow 13 = .ok (.iconst 0, 1) := by decide +kernel
theorem dX4_isBelow_14 : decode cX4_isBelow 14 = .ok (.ireturn, 1) := by decide +kernel
set_option maxRecDepth 20000 in
theorem ggX4_isSheet_X4_isBelow : GoodIn wsX4_isSheet wsX4_isBelow := goodIn_r _ [4] (by decide +kernel) (by decide +kernel)
set_option maxRecDepth 20000 in
theorem gX4_isSheet_X4_isBelow : GoodIn wsX4_isSheet (va_wsS RX4 76 yX4_isBelow wsX4_isBelow) := goodIn_app (goodIn_of _ (by decide +kernel)) ggX4_isSheet_X4_isBelow
theorem dX4_isSheet_0 : decode cX4_isSheet 0 = .ok (.iload_n 0, 1) := by decide +kernel
theorem dX4_isSheet_1 : decode cX4_isSheet 1 = .ok (.iconst 4, 1) := by decide +kernel
theorem dX4_isSheet_2 : decode cX4_isSheet 2 = .ok (.invokestatic 76, 3) := by decide +kernel
theorem dX4_isSheet_5 : decode cX4_isSheet 5 = .ok (.ireturn, 1) := by decide +kernel
set_option maxRecDepth 20000 in
theorem ggX4_isThing_X4_isBelow : GoodIn wsX4_isThing wsX4_isBelow := goodIn_r _ [4] (by decide +kernel) (by decide +kernel)
set_option maxRecDepth 20000 in
theorem gX4_isThing_X4_isBelow : GoodIn wsX4_isThing (va_wsS RX4 76 yX4_isBelow wsX4_isBelow) := goodIn_app (goodIn_of _ (by decide +kernel)) ggX4_isThing_X4_isBelow
theorem dX4_isThing_0 : decode cX4_isThing 0 = .ok (.iload_n 0, 1) := by decide +kernel
theorem dX4_isThing_1 : decode cX4_isThing 1 = .ok (.iconst 4, 1) := by decide +kernel
theorem dX4_isThing_2 : decode cX4_isThing 2 = .ok (.invokestatic 76, 3) := by decide +kernel
theorem dX4_isThing_5 : decode cX4_isThing 5 = .ok (.ireturn, 1) := by decide +kernel
set_option maxRecDepth 20000 in
theorem ggX4_isDay_X4_isBelow : GoodIn wsX4_isDay wsX4_isBelow := goodIn_r _ [4] (by decide +kernel) (by decide +kernel)
set_option maxRecDepth 20000 in
theorem gX4_isDay_X4_isBelow : GoodIn wsX4_isDay (va_wsS RX4 76 yX4_isBelow wsX4_isBelow) := goodIn_app (goodIn_of _ (by decide +kernel)) ggX4_isDay_X4_isBelow
theorem dX4_isDay_0 : decode cX4_isDay 0 = .ok (.iload_n 0, 1) := by decide +kernel
theorem dX4_isDay_1 : decode cX4_isDay 1 = .ok (.bipush 60, 2) := by decide +kernel
theorem dX4_isDay_3 : decode cX4_isDay 3 = .ok (.invokestatic 76, 3) := by decide +kernel
theorem dX4_isDay_6 : decode cX4_isDay 6 = .ok (.ireturn, 1) := by decide +kernel
set_option maxRecDepth 20000 in
theorem ggX4_isThingAndDay_X4_isThing : GoodIn wsX4_isThingAndDay wsX4_isThing := goodIn_r _ [4, 5, 6, 3, 7] (by decide +kernel) (by decide +kernel)
set_option maxRecDepth 20000 in
theorem gX4_isThingAndDay_X4_isThing : GoodIn wsX4_isThingAndDay (va_wsS RX4 144 yX4_isThing wsX4_isThing) := goodIn_app (goodIn_of _ (by decide +kernel)) ggX4_isThingAndDay_X4_isThing
set_option maxRecDepth 20000 in
theorem ggX4_isThingAndDay_X4_isDay : GoodIn wsX4_isThingAndDay wsX4_isDay := goodIn_r _ [10, 5, 6, 3, 7] (by decide +kernel) (by decide +kernel)
set_option maxRecDepth 20000 in
theorem gX4_isThingAndDay_X4_isDay : GoodIn wsX4_isThingAndDay (va_wsS RX4 138 yX4_isDay wsX4_isDay) := goodIn_app (goodIn_of _ (by decide +kernel)) ggX4_isThingAndDay_X4_isDay
theorem dX4_isThingAndDay_0 : decode cX4_isThingAndDay 0 = .ok (.iload_n 0, 1) := by decide +kernel
theorem dX4_isThingAndDay_1 : decode cX4_isThingAndDay 1 = .ok (.invokestatic 144, 3) := by decide +kernel
theorem dX4_isThingAndDay_4 : decode cX4_isThingAndDay 4 = .ok (.ifCond .eq 14, 3) := by decide +kernel
theorem dX4_isThingAndDay_7 : decode cX4_isThingAndDay 7 = .ok (.iload_n 1, 1) := by decide +kernel
theorem dX4_isThingAndDay_8 : decode cX4_isThingAndDay 8 = .ok (.invokestatic 138, 3) := by decide +kernel
theorem dX4_isThingAndDay_11 : decode cX4_isThingAndDay 11 = .ok (.ifCond .eq 7, 3) := by decide +kernel
theorem dX4_isThingAndDay_14 : decode cX4_isThingAndDay 14 = .ok (.iconst 1, 1) := by decide +kernel
theorem dX4_isThingAndDay_15 : decode cX4_isThingAndDay 15 = .ok (.goto 4, 3) := by decide +kernel
theorem dX4_isThingAndDay_18 : decode cX4_isThingAndDay 18 = .ok (.iconst 0, 1) := by decide +kernel
theorem dX4_isThingAndDay_19 : decode cX4_isThingAndDay 19 = .ok (.ireturn, 1) := by decide +kernel
theorem dX4_holds_0 : decode cX4_holds 0 = .ok (.iload_n 0, 1) := by decide +kernel
theorem dX4_holds_1 : decode cX4_holds 1 = .ok (.iload_n 1, 1) := by decide +kernel
theorem dX4_holds_2 : decode cX4_holds 2 = .ok (.ishr, 1) := by decide +kernel
theorem dX4_holds_3 : decode cX4_holds 3 = .ok (.iconst 1, 1) := by decide +kernel
theorem dX4_holds_4 : decode cX4_holds 4 = .ok (.iand, 1) := by decide +kernel
theorem dX4_holds_5 : decode cX4_holds 5 = .ok (.ifCond .eq 7, 3) := by decide +kernel
theorem dX4_holds_8 : decode cX4_holds 8 = .ok (.iconst 1, 1) := by decide +kernel
theorem dX4_holds_9 : decode cX4_holds 9 = .ok (.goto 4, 3) := by decide +kernel
theorem dX4_holds_12 : decode cX4_holds 12 = .ok (.iconst 0, 1) := by decide +kernel
theorem dX4_holds_13 : decode cX4_holds 13 = .ok (.ireturn, 1) := by decide +kernel
set_option maxRecDepth 20000 in
theorem ggX4_isPerson_X4_isBelow : GoodIn wsX4_isPerson wsX4_isBelow := goodIn_r _ [6] (by decide +kernel) (by decide +kernel)
set_option maxRecDepth 20000 in
theorem gX4_isPerson_X4_isBelow : GoodIn wsX4_isPerson (va_wsS RX4 76 yX4_isBelow wsX4_isBelow) := goodIn_app (goodIn_of _ (by decide +kernel)) ggX4_isPerson_X4_isBelow
theorem dX4_isPerson_0 : decode cX4_isPerson 0 = .ok (.iload_n 1, 1) := by decide +kernel
theorem dX4_isPerson_1 : decode cX4_isPerson 1 = .ok (.aload_n 0, 1) := by decide +kernel
theorem dX4_isPerson_2 : decode cX4_isPerson 2 = .ok (.getfield 47, 3) := by decide +kernel
theorem dX4_isPerson_5 : decode cX4_isPerson 5 = .ok (.getfield 95, 3) := by decide +kernel
theorem dX4_isPerson_8 : decode cX4_isPerson 8 = .ok (.invokestatic 76, 3) := by decide +kernel
theorem dX4_isPerson_11 : decode cX4_isPerson 11 = .ok (.ireturn, 1) := by decide +kernel
theorem dX4_isFoggy_0 : decode cX4_isFoggy 0 = .ok (.aload_n 0, 1) := by decide +kernel
theorem dX4_isFoggy_1 : decode cX4_isFoggy 1 = .ok (.getfield 61, 3) := by decide +kernel
theorem dX4_isFoggy_4 : decode cX4_isFoggy 4 = .ok (.iload_n 1, 1) := by decide +kernel
theorem dX4_isFoggy_5 : decode cX4_isFoggy 5 = .ok (.lshr, 1) := by decide +kernel
theorem dX4_isFoggy_6 : decode cX4_isFoggy 6 = .ok (.lconst 1, 1) := by decide +kernel
theorem dX4_isFoggy_7 : decode cX4_isFoggy 7 = .ok (.land, 1) := by decide +kernel
theorem dX4_isFoggy_8 : decode cX4_isFoggy 8 = .ok (.lconst 0, 1) := by decide +kernel
theorem dX4_isFoggy_9 : decode cX4_isFoggy 9 = .ok (.lcmp, 1) := by decide +kernel
theorem dX4_isFoggy_10 : decode cX4_isFoggy 10 = .ok (.ifCond .eq 7, 3) := by decide +kernel
theorem dX4_isFoggy_13 : decode cX4_isFoggy 13 = .ok (.iconst 1, 1) := by decide +kernel
theorem dX4_isFoggy_14 : decode cX4_isFoggy 14 = .ok (.goto 4, 3) := by decide +kernel
theorem dX4_isFoggy_17 : decode cX4_isFoggy 17 = .ok (.iconst 0, 1) := by decide +kernel
theorem dX4_isFoggy_18 : decode cX4_isFoggy 18 = .ok (.ireturn, 1) := by decide +kernel
theorem dX4_hasNoPass_0 : decode cX4_hasNoPass 0 = .ok (.aload_n 0, 1) := by decide +kernel
theorem dX4_hasNoPass_1 : decode cX4_hasNoPass 1 = .ok (.getfield 47, 3) := by decide +kernel
theorem dX4_hasNoPass_4 : decode cX4_hasNoPass 4 = .ok (.getfield 95, 3) := by decide +kernel
theorem dX4_hasNoPass_7 : decode cX4_hasNoPass 7 = .ok (.ifCond .ne 7, 3) := by decide +kernel
theorem dX4_hasNoPass_10 : decode cX4_hasNoPass 10 = .ok (.iconst 1, 1) := by decide +kernel
theorem dX4_hasNoPass_11 : decode cX4_hasNoPass 11 = .ok (.goto 4, 3) := by decide +kernel
theorem dX4_hasNoPass_14 : decode cX4_hasNoPass 14 = .ok (.iconst 0, 1) := by decide +kernel
theorem dX4_hasNoPass_15 : decode cX4_hasNoPass 15 = .ok (.ireturn, 1) := by decide +kernel
set_option maxRecDepth 20000 in
theorem ggX4_refusalOfSmith_X4_isPerson : GoodIn wsX4_refusalOfSmith wsX4_isPerson := goodIn_r _ [6, 1, 7, 8, 9, 5, 10, 28, 29, 30, 31, 32, 33, 34, 35, 36, 37, 38, 39, 40, 41, 42, 43, 44, 45, 46, 47] (by decide +kernel) (by decide +kernel)
set_option maxRecDepth 20000 in
theorem gX4_refusalOfSmith_X4_isPerson : GoodIn wsX4_refusalOfSmith (wsV RX4 98 RX4 yX4_isPerson wsX4_isPerson) := goodIn_app (goodIn_of _ (by decide +kernel)) ggX4_refusalOfSmith_X4_isPerson
set_option maxRecDepth 20000 in
theorem ggX4_refusalOfSmith_X4_isThingAndDay : GoodIn wsX4_refusalOfSmith wsX4_isThingAndDay := goodIn_r _ [13, 14, 15, 5, 16, 8, 9, 10, 17, 18, 19] (by decide +kernel) (by decide +kernel)
set_option maxRecDepth 20000 in
theorem gX4_refusalOfSmith_X4_isThingAndDay : GoodIn wsX4_refusalOfSmith (va_wsS RX4 122 yX4_isThingAndDay wsX4_isThingAndDay) := goodIn_app (goodIn_of _ (by decide +kernel)) ggX4_refusalOfSmith_X4_isThingAndDay
set_option maxRecDepth 20000 in
theorem ggX4_refusalOfSmith_X1_isSmith : GoodIn wsX4_refusalOfSmith wsX1_isSmith := goodIn_r _ [24, 25, 26, 5, 27, 41, 42, 43, 44, 45, 46, 47] (by decide +kernel) (by decide +kernel)
set_option maxRecDepth 20000 in
theorem gX4_refusalOfSmith_X1_isSmith : GoodIn wsX4_refusalOfSmith (wsV RX4 104 RX1 yX1_isSmith wsX1_isSmith) := goodIn_app (goodIn_of _ (by decide +kernel)) ggX4_refusalOfSmith_X1_isSmith
theorem dX4_refusalOfSmith_0 : decode cX4_refusalOfSmith 0 = .ok (.aload_n 0, 1) := by decide +kernel
theorem dX4_refusalOfSmith_1 : decode cX4_refusalOfSmith 1 = .ok (.iload_n 1, 1) := by decide +kernel
theorem dX4_refusalOfSmith_2 : decode cX4_refusalOfSmith 2 = .ok (.invokevirtual 98, 3) := by decide +kernel
theorem dX4_refusalOfSmith_5 : decode cX4_refusalOfSmith 5 = .ok (.ifCond .ne 5, 3) := by decide +kernel
theorem dX4_refusalOfSmith_8 : decode cX4_refusalOfSmith 8 = .ok (.iconst (-1), 1) := by decide +kernel
theorem dX4_refusalOfSmith_9 : decode cX4_refusalOfSmith 9 = .ok (.ireturn, 1) := by decide +kernel
theorem dX4_refusalOfSmith_10 : decode cX4_refusalOfSmith 10 = .ok (.iload_n 2, 1) := by decide +kernel
theorem dX4_refusalOfSmith_11 : decode cX4_refusalOfSmith 11 = .ok (.iload_n 3, 1) := by decide +kernel
theorem dX4_refusalOfSmith_12 : decode cX4_refusalOfSmith 12 = .ok (.invokestatic 122, 3) := by decide +kernel
theorem dX4_refusalOfSmith_15 : decode cX4_refusalOfSmith 15 = .ok (.ifCond .ne 6, 3) := by decide +kernel
theorem dX4_refusalOfSmith_18 : decode cX4_refusalOfSmith 18 = .ok (.bipush (-2), 2) := by decide +kernel
theorem dX4_refusalOfSmith_20 : decode cX4_refusalOfSmith 20 = .ok (.ireturn, 1) := by decide +kernel
theorem dX4_refusalOfSmith_21 : decode cX4_refusalOfSmith 21 = .ok (.aload_n 0, 1) := by decide +kernel
theorem dX4_refusalOfSmith_22 : decode cX4_refusalOfSmith 22 = .ok (.getfield 47, 3) := by decide +kernel
theorem dX4_refusalOfSmith_25 : decode cX4_refusalOfSmith 25 = .ok (.iload_n 1, 1) := by decide +kernel
theorem dX4_refusalOfSmith_26 : decode cX4_refusalOfSmith 26 = .ok (.invokevirtual 104, 3) := by decide +kernel
theorem dX4_refusalOfSmith_29 : decode cX4_refusalOfSmith 29 = .ok (.ifCond .eq 7, 3) := by decide +kernel
theorem dX4_refusalOfSmith_32 : decode cX4_refusalOfSmith 32 = .ok (.iconst 0, 1) := by decide +kernel
theorem dX4_refusalOfSmith_33 : decode cX4_refusalOfSmith 33 = .ok (.goto 5, 3) := by decide +kernel
theorem dX4_refusalOfSmith_36 : decode cX4_refusalOfSmith 36 = .ok (.bipush (-3), 2) := by decide +kernel
theorem dX4_refusalOfSmith_38 : decode cX4_refusalOfSmith 38 = .ok (.ireturn, 1) := by decide +kernel
theorem dX4_meet_0 : decode cX4_meet 0 = .ok (.aload_n 0, 1) := by decide +kernel
theorem dX4_meet_1 : decode cX4_meet 1 = .ok (.iload_n 1, 1) := by decide +kernel
theorem dX4_meet_2 : decode cX4_meet 2 = .ok (.putfield 68, 3) := by decide +kernel
theorem dX4_meet_5 : decode cX4_meet 5 = .ok (.bipush (-10), 2) := by decide +kernel
theorem dX4_meet_7 : decode cX4_meet 7 = .ok (.iload_n 1, 1) := by decide +kernel
theorem dX4_meet_8 : decode cX4_meet 8 = .ok (.isub, 1) := by decide +kernel
theorem dX4_meet_9 : decode cX4_meet 9 = .ok (.ireturn, 1) := by decide +kernel
theorem dX4_takeDraft_0 : decode cX4_takeDraft 0 = .ok (.aload_n 0, 1) := by decide +kernel
theorem dX4_takeDraft_1 : decode cX4_takeDraft 1 = .ok (.getfield 47, 3) := by decide +kernel
theorem dX4_takeDraft_4 : decode cX4_takeDraft 4 = .ok (.astore_n 1, 1) := by decide +kernel
theorem dX4_takeDraft_5 : decode cX4_takeDraft 5 = .ok (.aload_n 0, 1) := by decide +kernel
theorem dX4_takeDraft_6 : decode cX4_takeDraft 6 = .ok (.aload_n 0, 1) := by decide +kernel
theorem dX4_takeDraft_7 : decode cX4_takeDraft 7 = .ok (.getfield 51, 3) := by decide +kernel
theorem dX4_takeDraft_10 : decode cX4_takeDraft 10 = .ok (.putfield 47, 3) := by decide +kernel
theorem dX4_takeDraft_13 : decode cX4_takeDraft 13 = .ok (.aload_n 0, 1) := by decide +kernel
theorem dX4_takeDraft_14 : decode cX4_takeDraft 14 = .ok (.aload_n 1, 1) := by decide +kernel
theorem dX4_takeDraft_15 : decode cX4_takeDraft 15 = .ok (.putfield 51, 3) := by decide +kernel
theorem dX4_takeDraft_18 : decode cX4_takeDraft 18 = .ok (.aload_n 0, 1) := by decide +kernel
theorem dX4_takeDraft_19 : decode cX4_takeDraft 19 = .ok (.getfield 22, 3) := by decide +kernel
theorem dX4_takeDraft_22 : decode cX4_takeDraft 22 = .ok (.iconst 0, 1) := by decide +kernel
theorem dX4_takeDraft_23 : decode cX4_takeDraft 23 = .ok (.putfield 182, 3) := by decide +kernel
theorem dX4_takeDraft_26 : decode cX4_takeDraft 26 = .ok (.aload_n 0, 1) := by decide +kernel
theorem dX4_takeDraft_27 : decode cX4_takeDraft 27 = .ok (.getfield 26, 3) := by decide +kernel
theorem dX4_takeDraft_30 : decode cX4_takeDraft 30 = .ok (.iconst 0, 1) := by decide +kernel
theorem dX4_takeDraft_31 : decode cX4_takeDraft 31 = .ok (.putfield 182, 3) := by decide +kernel
theorem dX4_takeDraft_34 : decode cX4_takeDraft 34 = .ok (.aload_n 0, 1) := by decide +kernel
theorem dX4_takeDraft_35 : decode cX4_takeDraft 35 = .ok (.iconst 3, 1) := by decide +kernel
theorem dX4_takeDraft_36 : decode cX4_takeDraft 36 = .ok (.putfield 54, 3) := by decide +kernel
theorem dX4_takeDraft_39 : decode cX4_takeDraft 39 = .ok (.aload_n 0, 1) := by decide +kernel
theorem dX4_takeDraft_40 : decode cX4_takeDraft 40 = .ok (.lconst 0, 1) := by decide +kernel
theorem dX4_takeDraft_41 : decode cX4_takeDraft 41 = .ok (.putfield 61, 3) := by decide +kernel
theorem dX4_takeDraft_44 : decode cX4_takeDraft 44 = .ok (.aload_n 0, 1) := by decide +kernel
theorem dX4_takeDraft_45 : decode cX4_takeDraft 45 = .ok (.iconst 0, 1) := by decide +kernel
theorem dX4_takeDraft_46 : decode cX4_takeDraft 46 = .ok (.putfield 58, 3) := by decide +kernel
theorem dX4_takeDraft_49 : decode cX4_takeDraft 49 = .ok (.return_, 1) := by decide +kernel
set_option maxRecDepth 20000 in
theorem ggX4_startTalk_X3_clear : GoodIn wsX4_startTalk wsX3_clear := goodIn_r _ [11, 12, 13, 14, 15, 16, 42] (by decide +kernel) (by decide +kernel)
set_option maxRecDepth 20000 in
theorem gX4_startTalk_X3_clear : GoodIn wsX4_startTalk (wsV RX4 261 RX3 yX3_clear wsX3_clear) := goodIn_app (goodIn_of _ (by decide +kernel)) ggX4_startTalk_X3_clear
set_option maxRecDepth 20000 in
theorem ggX4_startTalk_X3_plant : GoodIn wsX4_startTalk wsX3_plant := goodIn_r _ [20, 12, 21, 22, 10, 23, 42] (by decide +kernel) (by decide +kernel)
set_option maxRecDepth 20000 in
theorem gX4_startTalk_X3_plant : GoodIn wsX4_startTalk (wsV RX4 198 RX3 yX3_plant wsX3_plant) := goodIn_app (goodIn_of _ (by decide +kernel)) ggX4_startTalk_X3_plant
theorem dX4_startTalk_0 : decode cX4_startTalk 0 = .ok (.aload_n 0, 1) := by decide +kernel
theorem dX4_startTalk_1 : decode cX4_startTalk 1 = .ok (.getfield 36, 3) := by decide +kernel
theorem dX4_startTalk_4 : decode cX4_startTalk 4 = .ok (.invokevirtual 261, 3) := by decide +kernel
theorem dX4_startTalk_7 : decode cX4_startTalk 7 = .ok (.iconst 0, 1) := by decide +kernel
theorem dX4_startTalk_8 : decode cX4_startTalk 8 = .ok (.istore_n 2, 1) := by decide +kernel
theorem dX4_startTalk_9 : decode cX4_startTalk 9 = .ok (.iload_n 2, 1) := by decide +kernel
theorem dX4_startTalk_10 : decode cX4_startTalk 10 = .ok (.aload_n 0, 1) := by decide +kernel
theorem dX4_startTalk_11 : decode cX4_startTalk 11 = .ok (.getfield 22, 3) := by decide +kernel
theorem dX4_startTalk_14 : decode cX4_startTalk 14 = .ok (.getfield 182, 3) := by decide +kernel
theorem dX4_startTalk_17 : decode cX4_startTalk 17 = .ok (.if_icmp .ge 49, 3) := by decide +kernel
theorem dX4_startTalk_20 : decode cX4_startTalk 20 = .ok (.iload_n 2, 1) := by decide +kernel
theorem dX4_startTalk_21 : decode cX4_startTalk 21 = .ok (.iload_n 1, 1) := by decide +kernel
theorem dX4_startTalk_22 : decode cX4_startTalk 22 = .ok (.if_icmp .eq 38, 3) := by decide +kernel
theorem dX4_startTalk_25 : decode cX4_startTalk 25 = .ok (.aload_n 0, 1) := by decide +kernel
theorem dX4_startTalk_26 : decode cX4_startTalk 26 = .ok (.getfield 36, 3) := by decide +kernel
theorem dX4_startTalk_29 : decode cX4_startTalk 29 = .ok (.aload_n 0, 1) := by decide +kernel
theorem dX4_startTalk_30 : decode cX4_startTalk 30 = .ok (.getfield 22, 3) := by decide +kernel
theorem dX4_startTalk_33 : decode cX4_startTalk 33 = .ok (.getfield 264, 3) := by decide +kernel
theorem dX4_startTalk_36 : decode cX4_startTalk 36 = .ok (.iload_n 2, 1) := by decide +kernel
theorem dX4_startTalk_37 : decode cX4_startTalk 37 = .ok (.iaload, 1) := by decide +kernel
theorem dX4_startTalk_38 : decode cX4_startTalk 38 = .ok (.aload_n 0, 1) := by decide +kernel
theorem dX4_startTalk_39 : decode cX4_startTalk 39 = .ok (.getfield 22, 3) := by decide +kernel
theorem dX4_startTalk_42 : decode cX4_startTalk 42 = .ok (.getfield 267, 3) := by decide +kernel
theorem dX4_startTalk_45 : decode cX4_startTalk 45 = .ok (.iload_n 2, 1) := by decide +kernel
theorem dX4_startTalk_46 : decode cX4_startTalk 46 = .ok (.iaload, 1) := by decide +kernel
theorem dX4_startTalk_47 : decode cX4_startTalk 47 = .ok (.iload_n 2, 1) := by decide +kernel
theorem dX4_startTalk_48 : decode cX4_startTalk 48 = .ok (.aload_n 0, 1) := by decide +kernel
theorem dX4_startTalk_49 : decode cX4_startTalk 49 = .ok (.getfield 22, 3) := by decide +kernel
theorem dX4_startTalk_52 : decode cX4_startTalk 52 = .ok (.getfield 270, 3) := by decide +kernel
theorem dX4_startTalk_55 : decode cX4_startTalk 55 = .ok (.iload_n 2, 1) := by decide +kernel
theorem dX4_startTalk_56 : decode cX4_startTalk 56 = .ok (.iaload, 1) := by decide +kernel
theorem dX4_startTalk_57 : decode cX4_startTalk 57 = .ok (.invokevirtual 198, 3) := by decide +kernel
theorem dX4_startTalk_60 : decode cX4_startTalk 60 = .ok (.iinc 2 1, 3) := by decide +kernel
theorem dX4_startTalk_63 : decode cX4_startTalk 63 = .ok (.goto (-54), 3) := by decide +kernel
theorem dX4_startTalk_66 : decode cX4_startTalk 66 = .ok (.return_, 1) := by decide +kernel
set_option maxRecDepth 20000 in
theorem ggX4_talkAsItIs_X4_startTalk : GoodIn wsX4_talkAsItIs wsX4_startTalk := goodIn_r _ [8, 1, 9, 10, 11, 12, 13, 14, 15, 16, 17, 18, 19, 20, 21, 22, 23, 24, 25, 26, 27, 28, 29, 30, 63, 64, 65, 66, 67, 68, 69, 70, 71, 72, 73, 74, 75, 76, 77, 78, 79, 80, 81] (by decide +kernel) (by decide +kernel)
set_option maxRecDepth 20000 in
theorem gX4_talkAsItIs_X4_startTalk : GoodIn wsX4_talkAsItIs (wsV RX4 185 RX4 yX4_startTalk wsX4_startTalk) := goodIn_app (goodIn_of _ (by decide +kernel)) ggX4_talkAsItIs_X4_startTalk
set_option maxRecDepth 20000 in
theorem ggX4_talkAsItIs_X3_spread : GoodIn wsX4_talkAsItIs wsX3_spread := goodIn_r _ [34, 35, 36, 19, 37, 38, 39, 40, 17, 41, 42, 43, 44, 45, 46, 47, 48, 7, 49, 50, 51, 52, 53, 54, 55, 56, 57, 58, 59, 60, 61, 62, 82, 83, 84, 85, 86, 87, 88, 81] (by decide +kernel) (by decide +kernel)
set_option maxRecDepth 20000 in
theorem gX4_talkAsItIs_X3_spread : GoodIn wsX4_talkAsItIs (wsV RX4 188 RX3 yX3_spread wsX3_spread) := goodIn_app (goodIn_of _ (by decide +kernel)) ggX4_talkAsItIs_X3_spread
theorem dX4_talkAsItIs_0 : decode cX4_talkAsItIs 0 = .ok (.aload_n 0, 1) := by decide +kernel
theorem dX4_talkAsItIs_1 : decode cX4_talkAsItIs 1 = .ok (.iconst (-1), 1) := by decide +kernel
theorem dX4_talkAsItIs_2 : decode cX4_talkAsItIs 2 = .ok (.invokevirtual 185, 3) := by decide +kernel
theorem dX4_talkAsItIs_5 : decode cX4_talkAsItIs 5 = .ok (.aload_n 0, 1) := by decide +kernel
theorem dX4_talkAsItIs_6 : decode cX4_talkAsItIs 6 = .ok (.getfield 36, 3) := by decide +kernel
theorem dX4_talkAsItIs_9 : decode cX4_talkAsItIs 9 = .ok (.aload_n 0, 1) := by decide +kernel
theorem dX4_talkAsItIs_10 : decode cX4_talkAsItIs 10 = .ok (.getfield 47, 3) := by decide +kernel
theorem dX4_talkAsItIs_13 : decode cX4_talkAsItIs 13 = .ok (.aload_n 0, 1) := by decide +kernel
theorem dX4_talkAsItIs_14 : decode cX4_talkAsItIs 14 = .ok (.getfield 58, 3) := by decide +kernel
theorem dX4_talkAsItIs_17 : decode cX4_talkAsItIs 17 = .ok (.iconst (-1), 1) := by decide +kernel
theorem dX4_talkAsItIs_18 : decode cX4_talkAsItIs 18 = .ok (.invokevirtual 188, 3) := by decide +kernel
theorem dX4_talkAsItIs_21 : decode cX4_talkAsItIs 21 = .ok (.return_, 1) := by decide +kernel
set_option maxRecDepth 20000 in
theorem ggX4_forgeDay_X3_originsBy : GoodIn wsX4_forgeDay wsX3_originsBy := goodIn_r _ [7, 8, 9, 10, 11, 12, 13, 14, 15, 16, 36] (by decide +kernel) (by decide +kernel)
set_option maxRecDepth 20000 in
theorem gX4_forgeDay_X3_originsBy : GoodIn wsX4_forgeDay (wsV RX4 153 RX3 yX3_originsBy wsX3_originsBy) := goodIn_app (goodIn_of _ (by decide +kernel)) ggX4_forgeDay_X3_originsBy
set_option maxRecDepth 20000 in
theorem ggX4_forgeDay_X4_isFoggy : GoodIn wsX4_forgeDay wsX4_isFoggy := goodIn_r _ [21, 22, 23, 24, 25, 26, 27, 28, 29, 30, 31, 32, 33, 34, 35] (by decide +kernel) (by decide +kernel)
set_option maxRecDepth 20000 in
theorem gX4_forgeDay_X4_isFoggy : GoodIn wsX4_forgeDay (wsV RX4 141 RX4 yX4_isFoggy wsX4_isFoggy) := goodIn_app (goodIn_of _ (by decide +kernel)) ggX4_forgeDay_X4_isFoggy
theorem dX4_forgeDay_0 : decode cX4_forgeDay 0 = .ok (.aload_n 0, 1) := by decide +kernel
theorem dX4_forgeDay_1 : decode cX4_forgeDay 1 = .ok (.getfield 36, 3) := by decide +kernel
theorem dX4_forgeDay_4 : decode cX4_forgeDay 4 = .ok (.iload_n 1, 1) := by decide +kernel
theorem dX4_forgeDay_5 : decode cX4_forgeDay 5 = .ok (.iload_n 2, 1) := by decide +kernel
theorem dX4_forgeDay_6 : decode cX4_forgeDay 6 = .ok (.bipush 59, 2) := by decide +kernel
theorem dX4_forgeDay_8 : decode cX4_forgeDay 8 = .ok (.invokevirtual 153, 3) := by decide +kernel
theorem dX4_forgeDay_11 : decode cX4_forgeDay 11 = .ok (.aload_n 0, 1) := by decide +kernel
theorem dX4_forgeDay_12 : decode cX4_forgeDay 12 = .ok (.getfield 54, 3) := by decide +kernel
theorem dX4_forgeDay_15 : decode cX4_forgeDay 15 = .ok (.if_icmp .ge 6, 3) := by decide +kernel
theorem dX4_forgeDay_18 : decode cX4_forgeDay 18 = .ok (.bipush (-9), 2) := by decide +kernel
theorem dX4_forgeDay_20 : decode cX4_forgeDay 20 = .ok (.ireturn, 1) := by decide +kernel
theorem dX4_forgeDay_21 : decode cX4_forgeDay 21 = .ok (.iconst 0, 1) := by decide +kernel
theorem dX4_forgeDay_22 : decode cX4_forgeDay 22 = .ok (.istore_n 3, 1) := by decide +kernel
theorem dX4_forgeDay_23 : decode cX4_forgeDay 23 = .ok (.iload_n 3, 1) := by decide +kernel
theorem dX4_forgeDay_24 : decode cX4_forgeDay 24 = .ok (.bipush 60, 2) := by decide +kernel
theorem dX4_forgeDay_26 : decode cX4_forgeDay 26 = .ok (.if_icmp .ge 36, 3) := by decide +kernel
theorem dX4_forgeDay_29 : decode cX4_forgeDay 29 = .ok (.aload_n 0, 1) := by decide +kernel
theorem dX4_forgeDay_30 : decode cX4_forgeDay 30 = .ok (.iload_n 3, 1) := by decide +kernel
theorem dX4_forgeDay_31 : decode cX4_forgeDay 31 = .ok (.invokevirtual 141, 3) := by decide +kernel
theorem dX4_forgeDay_34 : decode cX4_forgeDay 34 = .ok (.ifCond .ne 22, 3) := by decide +kernel
theorem dX4_forgeDay_37 : decode cX4_forgeDay 37 = .ok (.aload_n 0, 1) := by decide +kernel
theorem dX4_forgeDay_38 : decode cX4_forgeDay 38 = .ok (.getfield 36, 3) := by decide +kernel
theorem dX4_forgeDay_41 : decode cX4_forgeDay 41 = .ok (.iload_n 1, 1) := by decide +kernel
theorem dX4_forgeDay_42 : decode cX4_forgeDay 42 = .ok (.iload_n 2, 1) := by decide +kernel
theorem dX4_forgeDay_43 : decode cX4_forgeDay 43 = .ok (.iload_n 3, 1) := by decide +kernel
theorem dX4_forgeDay_44 : decode cX4_forgeDay 44 = .ok (.invokevirtual 153, 3) := by decide +kernel
theorem dX4_forgeDay_47 : decode cX4_forgeDay 47 = .ok (.aload_n 0, 1) := by decide +kernel
theorem dX4_forgeDay_48 : decode cX4_forgeDay 48 = .ok (.getfield 54, 3) := by decide +kernel
theorem dX4_forgeDay_51 : decode cX4_forgeDay 51 = .ok (.if_icmp .lt 5, 3) := by decide +kernel
theorem dX4_forgeDay_54 : decode cX4_forgeDay 54 = .ok (.iload_n 3, 1) := by decide +kernel
theorem dX4_forgeDay_55 : decode cX4_forgeDay 55 = .ok (.ireturn, 1) := by decide +kernel
theorem dX4_forgeDay_56 : decode cX4_forgeDay 56 = .ok (.iinc 3 1, 3) := by decide +kernel
theorem dX4_forgeDay_59 : decode cX4_forgeDay 59 = .ok (.goto (-36), 3) := by decide +kernel
theorem dX4_forgeDay_62 : decode cX4_forgeDay 62 = .ok (.bipush (-9), 2) := by decide +kernel
theorem dX4_forgeDay_64 : decode cX4_forgeDay 64 = .ok (.ireturn, 1) := by decide +kernel
set_option maxRecDepth 20000 in
theorem ggX4_hasForged_X4_forgeDay : GoodIn wsX4_hasForged wsX4_forgeDay := goodIn_r _ [5, 6, 7, 8, 9, 10, 11, 12, 13, 14, 15, 16, 17, 18, 19, 20, 21, 22, 23, 24, 4, 25, 26, 27, 28, 29, 30, 31, 32, 33, 34, 35, 36, 37, 38, 39, 40] (by decide +kernel) (by decide +kernel)
set_option maxRecDepth 20000 in
theorem gX4_hasForged_X4_forgeDay : GoodIn wsX4_hasForged (wsV RX4 156 RX4 yX4_forgeDay wsX4_forgeDay) := goodIn_app (goodIn_of _ (by decide +kernel)) ggX4_hasForged_X4_forgeDay
theorem dX4_hasForged_0 : decode cX4_hasForged 0 = .ok (.aload_n 0, 1) := by decide +kernel
theorem dX4_hasForged_1 : decode cX4_hasForged 1 = .ok (.iload_n 1, 1) := by decide +kernel
theorem dX4_hasForged_2 : decode cX4_hasForged 2 = .ok (.iload_n 2, 1) := by decide +kernel
theorem dX4_hasForged_3 : decode cX4_hasForged 3 = .ok (.invokevirtual 156, 3) := by decide +kernel
theorem dX4_hasForged_6 : decode cX4_hasForged 6 = .ok (.istore 4, 2) := by decide +kernel
theorem dX4_hasForged_8 : decode cX4_hasForged 8 = .ok (.iload 4, 2) := by decide +kernel
theorem dX4_hasForged_10 : decode cX4_hasForged 10 = .ok (.bipush (-9), 2) := by decide +kernel
theorem dX4_hasForged_12 : decode cX4_hasForged 12 = .ok (.if_icmp .eq 13, 3) := by decide +kernel
theorem dX4_hasForged_15 : decode cX4_hasForged 15 = .ok (.iload 4, 2) := by decide +kernel
theorem dX4_hasForged_17 : decode cX4_hasForged 17 = .ok (.iload_n 3, 1) := by decide +kernel
theorem dX4_hasForged_18 : decode cX4_hasForged 18 = .ok (.if_icmp .gt 7, 3) := by decide +kernel
theorem dX4_hasForged_21 : decode cX4_hasForged 21 = .ok (.iconst 1, 1) := by decide +kernel
theorem dX4_hasForged_22 : decode cX4_hasForged 22 = .ok (.goto 4, 3) := by decide +kernel
theorem dX4_hasForged_25 : decode cX4_hasForged 25 = .ok (.iconst 0, 1) := by decide +kernel
theorem dX4_hasForged_26 : decode cX4_hasForged 26 = .ok (.ireturn, 1) := by decide +kernel
set_option maxRecDepth 20000 in
theorem ggX4_worksBy_X1_isSmith : GoodIn wsX4_worksBy wsX1_isSmith := goodIn_r _ [7, 8, 9, 10, 11, 54, 55, 56, 57, 58, 59, 60] (by decide +kernel) (by decide +kernel)
set_option maxRecDepth 20000 in
theorem gX4_worksBy_X1_isSmith : GoodIn wsX4_worksBy (wsV RX4 104 RX1 yX1_isSmith wsX1_isSmith) := goodIn_app (goodIn_of _ (by decide +kernel)) ggX4_worksBy_X1_isSmith
set_option maxRecDepth 20000 in
theorem ggX4_worksBy_X4_hasForged : GoodIn wsX4_worksBy wsX4_hasForged := goodIn_r _ [15, 16, 17, 18, 10, 19, 20, 21, 22, 23, 24, 25, 26, 27, 28, 29, 30, 31, 32, 33, 34, 35, 36, 37, 38, 39, 40, 41, 42, 43, 44, 45, 46, 47, 48, 49, 50, 51, 52, 53, 61] (by decide +kernel) (by decide +kernel)
set_option maxRecDepth 20000 in
theorem gX4_worksBy_X4_hasForged : GoodIn wsX4_worksBy (wsV RX4 273 RX4 yX4_hasForged wsX4_hasForged) := goodIn_app (goodIn_of _ (by decide +kernel)) ggX4_worksBy_X4_hasForged
theorem dX4_worksBy_0 : decode cX4_worksBy 0 = .ok (.iconst 0, 1) := by decide +kernel
theorem dX4_worksBy_1 : decode cX4_worksBy 1 = .ok (.istore_n 2, 1) := by decide +kernel
theorem dX4_worksBy_2 : decode cX4_worksBy 2 = .ok (.iconst 0, 1) := by decide +kernel
theorem dX4_worksBy_3 : decode cX4_worksBy 3 = .ok (.istore_n 3, 1) := by decide +kernel
theorem dX4_worksBy_4 : decode cX4_worksBy 4 = .ok (.iload_n 3, 1) := by decide +kernel
theorem dX4_worksBy_5 : decode cX4_worksBy 5 = .ok (.aload_n 0, 1) := by decide +kernel
theorem dX4_worksBy_6 : decode cX4_worksBy 6 = .ok (.getfield 47, 3) := by decide +kernel
theorem dX4_worksBy_9 : decode cX4_worksBy 9 = .ok (.getfield 95, 3) := by decide +kernel
theorem dX4_worksBy_12 : decode cX4_worksBy 12 = .ok (.if_icmp .ge 49, 3) := by decide +kernel
theorem dX4_worksBy_15 : decode cX4_worksBy 15 = .ok (.iconst 0, 1) := by decide +kernel
theorem dX4_worksBy_16 : decode cX4_worksBy 16 = .ok (.istore 4, 2) := by decide +kernel
theorem dX4_worksBy_18 : decode cX4_worksBy 18 = .ok (.aload_n 0, 1) := by decide +kernel
theorem dX4_worksBy_19 : decode cX4_worksBy 19 = .ok (.getfield 47, 3) := by decide +kernel
theorem dX4_worksBy_22 : decode cX4_worksBy 22 = .ok (.iload_n 3, 1) := by decide +kernel
theorem dX4_worksBy_23 : decode cX4_worksBy 23 = .ok (.invokevirtual 104, 3) := by decide +kernel
theorem dX4_worksBy_26 : decode cX4_worksBy 26 = .ok (.ifCond .eq 29, 3) := by decide +kernel
theorem dX4_worksBy_29 : decode cX4_worksBy 29 = .ok (.iload 4, 2) := by decide +kernel
theorem dX4_worksBy_31 : decode cX4_worksBy 31 = .ok (.iconst 4, 1) := by decide +kernel
theorem dX4_worksBy_32 : decode cX4_worksBy 32 = .ok (.if_icmp .ge 23, 3) := by decide +kernel
theorem dX4_worksBy_35 : decode cX4_worksBy 35 = .ok (.aload_n 0, 1) := by decide +kernel
theorem dX4_worksBy_36 : decode cX4_worksBy 36 = .ok (.iload_n 3, 1) := by decide +kernel
theorem dX4_worksBy_37 : decode cX4_worksBy 37 = .ok (.iload 4, 2) := by decide +kernel
theorem dX4_worksBy_39 : decode cX4_worksBy 39 = .ok (.iload_n 1, 1) := by decide +kernel
theorem dX4_worksBy_40 : decode cX4_worksBy 40 = .ok (.invokevirtual 273, 3) := by decide +kernel
theorem dX4_worksBy_43 : decode cX4_worksBy 43 = .ok (.ifCond .eq 6, 3) := by decide +kernel
theorem dX4_worksBy_46 : decode cX4_worksBy 46 = .ok (.iinc 2 1, 3) := by decide +kernel
theorem dX4_worksBy_49 : decode cX4_worksBy 49 = .ok (.iinc 4 1, 3) := by decide +kernel
theorem dX4_worksBy_52 : decode cX4_worksBy 52 = .ok (.goto (-34), 3) := by decide +kernel
theorem dX4_worksBy_55 : decode cX4_worksBy 55 = .ok (.iinc 3 1, 3) := by decide +kernel
theorem dX4_worksBy_58 : decode cX4_worksBy 58 = .ok (.goto (-54), 3) := by decide +kernel
theorem dX4_worksBy_61 : decode cX4_worksBy 61 = .ok (.iload_n 2, 1) := by decide +kernel
theorem dX4_worksBy_62 : decode cX4_worksBy 62 = .ok (.ireturn, 1) := by decide +kernel
set_option maxRecDepth 20000 in
theorem ggX4_wayOf_X3_broughtBy : GoodIn wsX4_wayOf wsX3_broughtBy := goodIn_r _ [10, 11, 12, 13, 14, 15, 16, 17, 18, 19, 9, 20, 21, 22, 23, 24, 25, 26, 27, 28, 29, 30, 44, 45, 46, 47, 48, 49, 50, 51] (by decide +kernel) (by decide +kernel)
set_option maxRecDepth 20000 in
theorem gX4_wayOf_X3_broughtBy : GoodIn wsX4_wayOf (wsV RX4 276 RX3 yX3_broughtBy wsX3_broughtBy) := goodIn_app (goodIn_of _ (by decide +kernel)) ggX4_wayOf_X3_broughtBy
theorem dX4_wayOf_0 : decode cX4_wayOf 0 = .ok (.iconst 0, 1) := by decide +kernel
theorem dX4_wayOf_1 : decode cX4_wayOf 1 = .ok (.istore 5, 2) := by decide +kernel
theorem dX4_wayOf_3 : decode cX4_wayOf 3 = .ok (.iload 5, 2) := by decide +kernel
theorem dX4_wayOf_5 : decode cX4_wayOf 5 = .ok (.aload_n 0, 1) := by decide +kernel
theorem dX4_wayOf_6 : decode cX4_wayOf 6 = .ok (.getfield 47, 3) := by decide +kernel
theorem dX4_wayOf_9 : decode cX4_wayOf 9 = .ok (.getfield 110, 3) := by decide +kernel
theorem dX4_wayOf_12 : decode cX4_wayOf 12 = .ok (.if_icmp .ge 51, 3) := by decide +kernel
theorem dX4_wayOf_15 : decode cX4_wayOf 15 = .ok (.aload_n 0, 1) := by decide +kernel
theorem dX4_wayOf_16 : decode cX4_wayOf 16 = .ok (.getfield 47, 3) := by decide +kernel
theorem dX4_wayOf_19 : decode cX4_wayOf 19 = .ok (.getfield 116, 3) := by decide +kernel
theorem dX4_wayOf_22 : decode cX4_wayOf 22 = .ok (.iload 5, 2) := by decide +kernel
theorem dX4_wayOf_24 : decode cX4_wayOf 24 = .ok (.iaload, 1) := by decide +kernel
theorem dX4_wayOf_25 : decode cX4_wayOf 25 = .ok (.iload_n 1, 1) := by decide +kernel
theorem dX4_wayOf_26 : decode cX4_wayOf 26 = .ok (.if_icmp .ne 31, 3) := by decide +kernel
theorem dX4_wayOf_29 : decode cX4_wayOf 29 = .ok (.aload_n 0, 1) := by decide +kernel
theorem dX4_wayOf_30 : decode cX4_wayOf 30 = .ok (.getfield 36, 3) := by decide +kernel
theorem dX4_wayOf_33 : decode cX4_wayOf 33 = .ok (.aload_n 0, 1) := by decide +kernel
theorem dX4_wayOf_34 : decode cX4_wayOf 34 = .ok (.getfield 47, 3) := by decide +kernel
theorem dX4_wayOf_37 : decode cX4_wayOf 37 = .ok (.aload_n 0, 1) := by decide +kernel
theorem dX4_wayOf_38 : decode cX4_wayOf 38 = .ok (.getfield 58, 3) := by decide +kernel
theorem dX4_wayOf_41 : decode cX4_wayOf 41 = .ok (.iload 5, 2) := by decide +kernel
theorem dX4_wayOf_43 : decode cX4_wayOf 43 = .ok (.iload_n 2, 1) := by decide +kernel
theorem dX4_wayOf_44 : decode cX4_wayOf 44 = .ok (.invokevirtual 276, 3) := by decide +kernel
theorem dX4_wayOf_47 : decode cX4_wayOf 47 = .ok (.lload_n 3, 1) := by decide +kernel
theorem dX4_wayOf_48 : decode cX4_wayOf 48 = .ok (.land, 1) := by decide +kernel
theorem dX4_wayOf_49 : decode cX4_wayOf 49 = .ok (.lconst 0, 1) := by decide +kernel
theorem dX4_wayOf_50 : decode cX4_wayOf 50 = .ok (.lcmp, 1) := by decide +kernel
theorem dX4_wayOf_51 : decode cX4_wayOf 51 = .ok (.ifCond .eq 6, 3) := by decide +kernel
theorem dX4_wayOf_54 : decode cX4_wayOf 54 = .ok (.iload 5, 2) := by decide +kernel
theorem dX4_wayOf_56 : decode cX4_wayOf 56 = .ok (.ireturn, 1) := by decide +kernel
theorem dX4_wayOf_57 : decode cX4_wayOf 57 = .ok (.iinc 5 1, 3) := by decide +kernel
theorem dX4_wayOf_60 : decode cX4_wayOf 60 = .ok (.goto (-57), 3) := by decide +kernel
theorem dX4_wayOf_63 : decode cX4_wayOf 63 = .ok (.bipush (-9), 2) := by decide +kernel
theorem dX4_wayOf_65 : decode cX4_wayOf 65 = .ok (.ireturn, 1) := by decide +kernel
set_option maxRecDepth 20000 in
theorem ggX4_worksOfRow_X4_isPerson : GoodIn wsX4_worksOfRow wsX4_isPerson := goodIn_r _ [9, 3, 10, 11, 12, 8, 13, 101, 102, 103, 104, 105, 106, 107, 108, 109, 110, 111, 112, 113, 114, 115, 116, 117, 118, 119, 120] (by decide +kernel) (by decide +kernel)
set_option maxRecDepth 20000 in
theorem gX4_worksOfRow_X4_isPerson : GoodIn wsX4_worksOfRow (wsV RX4 98 RX4 yX4_isPerson wsX4_isPerson) := goodIn_app (goodIn_of _ (by decide +kernel)) ggX4_worksOfRow_X4_isPerson
set_option maxRecDepth 20000 in
theorem ggX4_worksOfRow_X3_clear : GoodIn wsX4_worksOfRow wsX3_clear := goodIn_r _ [18, 19, 20, 21, 22, 23, 121] (by decide +kernel) (by decide +kernel)
set_option maxRecDepth 20000 in
theorem gX4_worksOfRow_X3_clear : GoodIn wsX4_worksOfRow (wsV RX4 261 RX3 yX3_clear wsX3_clear) := goodIn_app (goodIn_of _ (by decide +kernel)) ggX4_worksOfRow_X3_clear
set_option maxRecDepth 20000 in
theorem ggX4_worksOfRow_X3_plant : GoodIn wsX4_worksOfRow wsX3_plant := goodIn_r _ [27, 19, 28, 29, 17, 30, 121] (by decide +kernel) (by decide +kernel)
set_option maxRecDepth 20000 in
theorem gX4_worksOfRow_X3_plant : GoodIn wsX4_worksOfRow (wsV RX4 198 RX3 yX3_plant wsX3_plant) := goodIn_app (goodIn_of _ (by decide +kernel)) ggX4_worksOfRow_X3_plant
set_option maxRecDepth 20000 in
theorem ggX4_worksOfRow_X3_spread : GoodIn wsX4_worksOfRow wsX3_spread := goodIn_r _ [34, 35, 36, 19, 37, 38, 39, 40, 17, 41, 42, 43, 44, 45, 46, 47, 48, 8, 49, 50, 51, 52, 53, 54, 55, 56, 57, 58, 59, 60, 61, 62, 114, 115, 116, 117, 118, 119, 120, 121] (by decide +kernel) (by decide +kernel)
set_option maxRecDepth 20000 in
theorem gX4_worksOfRow_X3_spread : GoodIn wsX4_worksOfRow (wsV RX4 188 RX3 yX3_spread wsX3_spread) := goodIn_app (goodIn_of _ (by decide +kernel)) ggX4_worksOfRow_X3_spread
set_option maxRecDepth 20000 in
theorem ggX4_worksOfRow_X4_worksBy : GoodIn wsX4_worksOfRow wsX4_worksBy := goodIn_r _ [66, 3, 10, 67, 68, 69, 70, 71, 72, 48, 8, 49, 73, 74, 75, 76, 77, 78, 79, 80, 2, 81, 82, 83, 84, 17, 85, 19, 62, 86, 87, 88, 89, 90, 91, 92, 93, 94, 95, 96, 97, 101, 102, 103, 104, 105, 106, 107, 108, 109, 110, 111, 112, 113, 114, 115, 116, 117, 118, 119, 120, 121] (by decide +kernel) (by decide +kernel)
set_option maxRecDepth 20000 in
theorem gX4_worksOfRow_X4_worksBy : GoodIn wsX4_worksOfRow (wsV RX4 160 RX4 yX4_worksBy wsX4_worksBy) := goodIn_app (goodIn_of _ (by decide +kernel)) ggX4_worksOfRow_X4_worksBy
theorem dX4_worksOfRow_0 : decode cX4_worksOfRow 0 = .ok (.iconst 0, 1) := by decide +kernel
theorem dX4_worksOfRow_1 : decode cX4_worksOfRow 1 = .ok (.istore 5, 2) := by decide +kernel
theorem dX4_worksOfRow_3 : decode cX4_worksOfRow 3 = .ok (.iload 5, 2) := by decide +kernel
theorem dX4_worksOfRow_5 : decode cX4_worksOfRow 5 = .ok (.iload 4, 2) := by decide +kernel
theorem dX4_worksOfRow_7 : decode cX4_worksOfRow 7 = .ok (.if_icmp .ge 27, 3) := by decide +kernel
theorem dX4_worksOfRow_10 : decode cX4_worksOfRow 10 = .ok (.aload_n 0, 1) := by decide +kernel
theorem dX4_worksOfRow_11 : decode cX4_worksOfRow 11 = .ok (.aload_n 2, 1) := by decide +kernel
theorem dX4_worksOfRow_12 : decode cX4_worksOfRow 12 = .ok (.getfield 230, 3) := by decide +kernel
theorem dX4_worksOfRow_15 : decode cX4_worksOfRow 15 = .ok (.iload_n 3, 1) := by decide +kernel
theorem dX4_worksOfRow_16 : decode cX4_worksOfRow 16 = .ok (.iload 5, 2) := by decide +kernel
theorem dX4_worksOfRow_18 : decode cX4_worksOfRow 18 = .ok (.iadd, 1) := by decide +kernel
theorem dX4_worksOfRow_19 : decode cX4_worksOfRow 19 = .ok (.iaload, 1) := by decide +kernel
theorem dX4_worksOfRow_20 : decode cX4_worksOfRow 20 = .ok (.invokevirtual 98, 3) := by decide +kernel
theorem dX4_worksOfRow_23 : decode cX4_worksOfRow 23 = .ok (.ifCond .ne 5, 3) := by decide +kernel
theorem dX4_worksOfRow_26 : decode cX4_worksOfRow 26 = .ok (.iconst (-1), 1) := by decide +kernel
theorem dX4_worksOfRow_27 : decode cX4_worksOfRow 27 = .ok (.ireturn, 1) := by decide +kernel
theorem dX4_worksOfRow_28 : decode cX4_worksOfRow 28 = .ok (.iinc 5 1, 3) := by decide +kernel
theorem dX4_worksOfRow_31 : decode cX4_worksOfRow 31 = .ok (.goto (-28), 3) := by decide +kernel
theorem dX4_worksOfRow_34 : decode cX4_worksOfRow 34 = .ok (.aload_n 0, 1) := by decide +kernel
theorem dX4_worksOfRow_35 : decode cX4_worksOfRow 35 = .ok (.getfield 36, 3) := by decide +kernel
theorem dX4_worksOfRow_38 : decode cX4_worksOfRow 38 = .ok (.invokevirtual 261, 3) := by decide +kernel
theorem dX4_worksOfRow_41 : decode cX4_worksOfRow 41 = .ok (.iconst 0, 1) := by decide +kernel
theorem dX4_worksOfRow_42 : decode cX4_worksOfRow 42 = .ok (.istore 5, 2) := by decide +kernel
theorem dX4_worksOfRow_44 : decode cX4_worksOfRow 44 = .ok (.iload 5, 2) := by decide +kernel
theorem dX4_worksOfRow_46 : decode cX4_worksOfRow 46 = .ok (.iload 4, 2) := by decide +kernel
theorem dX4_worksOfRow_48 : decode cX4_worksOfRow 48 = .ok (.if_icmp .ge 30, 3) := by decide +kernel
theorem dX4_worksOfRow_51 : decode cX4_worksOfRow 51 = .ok (.aload_n 0, 1) := by decide +kernel
theorem dX4_worksOfRow_52 : decode cX4_worksOfRow 52 = .ok (.getfield 36, 3) := by decide +kernel
theorem dX4_worksOfRow_55 : decode cX4_worksOfRow 55 = .ok (.aload_n 2, 1) := by decide +kernel
theorem dX4_worksOfRow_56 : decode cX4_worksOfRow 56 = .ok (.getfield 230, 3) := by decide +kernel
theorem dX4_worksOfRow_59 : decode cX4_worksOfRow 59 = .ok (.iload_n 3, 1) := by decide +kernel
theorem dX4_worksOfRow_60 : decode cX4_worksOfRow 60 = .ok (.iload 5, 2) := by decide +kernel
theorem dX4_worksOfRow_62 : decode cX4_worksOfRow 62 = .ok (.iadd, 1) := by decide +kernel
theorem dX4_worksOfRow_63 : decode cX4_worksOfRow 63 = .ok (.iaload, 1) := by decide +kernel
theorem dX4_worksOfRow_64 : decode cX4_worksOfRow 64 = .ok (.iload_n 1, 1) := by decide +kernel
theorem dX4_worksOfRow_65 : decode cX4_worksOfRow 65 = .ok (.iload 5, 2) := by decide +kernel
theorem dX4_worksOfRow_67 : decode cX4_worksOfRow 67 = .ok (.iload 5, 2) := by decide +kernel
theorem dX4_worksOfRow_69 : decode cX4_worksOfRow 69 = .ok (.invokevirtual 198, 3) := by decide +kernel
theorem dX4_worksOfRow_72 : decode cX4_worksOfRow 72 = .ok (.iinc 5 1, 3) := by decide +kernel
theorem dX4_worksOfRow_75 : decode cX4_worksOfRow 75 = .ok (.goto (-31), 3) := by decide +kernel
theorem dX4_worksOfRow_78 : decode cX4_worksOfRow 78 = .ok (.aload_n 0, 1) := by decide +kernel
theorem dX4_worksOfRow_79 : decode cX4_worksOfRow 79 = .ok (.getfield 36, 3) := by decide +kernel
theorem dX4_worksOfRow_82 : decode cX4_worksOfRow 82 = .ok (.aload_n 0, 1) := by decide +kernel
theorem dX4_worksOfRow_83 : decode cX4_worksOfRow 83 = .ok (.getfield 47, 3) := by decide +kernel
theorem dX4_worksOfRow_86 : decode cX4_worksOfRow 86 = .ok (.aload_n 0, 1) := by decide +kernel
theorem dX4_worksOfRow_87 : decode cX4_worksOfRow 87 = .ok (.getfield 58, 3) := by decide +kernel
theorem dX4_worksOfRow_90 : decode cX4_worksOfRow 90 = .ok (.iconst (-1), 1) := by decide +kernel
theorem dX4_worksOfRow_91 : decode cX4_worksOfRow 91 = .ok (.invokevirtual 188, 3) := by decide +kernel
theorem dX4_worksOfRow_94 : decode cX4_worksOfRow 94 = .ok (.aload_n 0, 1) := by decide +kernel
theorem dX4_worksOfRow_95 : decode cX4_worksOfRow 95 = .ok (.bipush 59, 2) := by decide +kernel
theorem dX4_worksOfRow_97 : decode cX4_worksOfRow 97 = .ok (.invokevirtual 160, 3) := by decide +kernel
theorem dX4_worksOfRow_100 : decode cX4_worksOfRow 100 = .ok (.ireturn, 1) := by decide +kernel
set_option maxRecDepth 20000 in
theorem ggX4_leastSet_X4_isReached : GoodIn wsX4_leastSet wsX4_isReached := goodIn_r _ [7, 8, 1, 9, 10, 11, 12, 6, 13, 2, 14, 15, 16, 17, 18, 19, 20, 21, 22, 23, 24, 25, 26, 27, 28, 29, 30, 31, 32, 33, 34, 35, 36, 37, 38, 39, 40, 41, 42, 43, 44, 45, 46, 47, 48, 49, 50, 51, 52, 53, 54, 55, 56, 57, 58, 59, 60, 61, 62, 63, 64, 65, 66, 67, 68, 69, 70, 71, 72, 73, 74, 75, 76, 77, 78, 79, 80, 81, 82, 83, 84, 85, 86, 87, 88, 89, 90, 91, 92, 93, 94, 95, 96, 97, 105, 106, 107, 108, 109, 110, 111, 112, 113, 114, 115, 116, 117, 118, 119, 120, 121, 122, 123, 124, 125, 126, 127, 128, 129, 130] (by decide +kernel) (by decide +kernel)
set_option maxRecDepth 20000 in
theorem gX4_leastSet_X4_isReached : GoodIn wsX4_leastSet (wsV RX4 280 RX4 yX4_isReached wsX4_isReached) := goodIn_app (goodIn_of _ (by decide +kernel)) ggX4_leastSet_X4_isReached
set_option maxRecDepth 20000 in
theorem ggX4_leastSet_J6_bitCount_0f7a4 : GoodIn wsX4_leastSet wsJ6_bitCount_0f7a4 := goodIn_r _ [101, 102, 103, 104] (by decide +kernel) (by decide +kernel)
set_option maxRecDepth 20000 in
theorem gX4_leastSet_J6_bitCount_0f7a4 : GoodIn wsX4_leastSet (va_wsS RX4 284 yJ6_bitCount_0f7a4 wsJ6_bitCount_0f7a4) := goodIn_app (goodIn_of _ (by decide +kernel)) ggX4_leastSet_J6_bitCount_0f7a4
theorem dX4_leastSet_0 : decode cX4_leastSet 0 = .ok (.iconst 1, 1) := by decide +kernel
theorem dX4_leastSet_1 : decode cX4_leastSet 1 = .ok (.aload_n 0, 1) := by decide +kernel
theorem dX4_leastSet_2 : decode cX4_leastSet 2 = .ok (.getfield 47, 3) := by decide +kernel
theorem dX4_leastSet_5 : decode cX4_leastSet 5 = .ok (.getfield 95, 3) := by decide +kernel
theorem dX4_leastSet_8 : decode cX4_leastSet 8 = .ok (.ishl, 1) := by decide +kernel
theorem dX4_leastSet_9 : decode cX4_leastSet 9 = .ok (.iconst 1, 1) := by decide +kernel
theorem dX4_leastSet_10 : decode cX4_leastSet 10 = .ok (.isub, 1) := by decide +kernel
theorem dX4_leastSet_11 : decode cX4_leastSet 11 = .ok (.istore 5, 2) := by decide +kernel
theorem dX4_leastSet_13 : decode cX4_leastSet 13 = .ok (.aload_n 0, 1) := by decide +kernel
theorem dX4_leastSet_14 : decode cX4_leastSet 14 = .ok (.iload_n 1, 1) := by decide +kernel
theorem dX4_leastSet_15 : decode cX4_leastSet 15 = .ok (.iload 5, 2) := by decide +kernel
theorem dX4_leastSet_17 : decode cX4_leastSet 17 = .ok (.iload_n 2, 1) := by decide +kernel
theorem dX4_leastSet_18 : decode cX4_leastSet 18 = .ok (.iload_n 3, 1) := by decide +kernel
theorem dX4_leastSet_19 : decode cX4_leastSet 19 = .ok (.iload 4, 2) := by decide +kernel
theorem dX4_leastSet_21 : decode cX4_leastSet 21 = .ok (.invokevirtual 280, 3) := by decide +kernel
theorem dX4_leastSet_24 : decode cX4_leastSet 24 = .ok (.ifCond .ne 6, 3) := by decide +kernel
theorem dX4_leastSet_27 : decode cX4_leastSet 27 = .ok (.bipush (-9), 2) := by decide +kernel
theorem dX4_leastSet_29 : decode cX4_leastSet 29 = .ok (.ireturn, 1) := by decide +kernel
theorem dX4_leastSet_30 : decode cX4_leastSet 30 = .ok (.iconst 0, 1) := by decide +kernel
theorem dX4_leastSet_31 : decode cX4_leastSet 31 = .ok (.istore 6, 2) := by decide +kernel
theorem dX4_leastSet_33 : decode cX4_leastSet 33 = .ok (.iload 6, 2) := by decide +kernel
theorem dX4_leastSet_35 : decode cX4_leastSet 35 = .ok (.aload_n 0, 1) := by decide +kernel
theorem dX4_leastSet_36 : decode cX4_leastSet 36 = .ok (.getfield 47, 3) := by decide +kernel
theorem dX4_leastSet_39 : decode cX4_leastSet 39 = .ok (.getfield 95, 3) := by decide +kernel
theorem dX4_leastSet_42 : decode cX4_leastSet 42 = .ok (.if_icmp .ge 52, 3) := by decide +kernel
theorem dX4_leastSet_45 : decode cX4_leastSet 45 = .ok (.iconst 0, 1) := by decide +kernel
theorem dX4_leastSet_46 : decode cX4_leastSet 46 = .ok (.istore 7, 2) := by decide +kernel
theorem dX4_leastSet_48 : decode cX4_leastSet 48 = .ok (.iload 7, 2) := by decide +kernel
theorem dX4_leastSet_50 : decode cX4_leastSet 50 = .ok (.iload 5, 2) := by decide +kernel
theorem dX4_leastSet_52 : decode cX4_leastSet 52 = .ok (.if_icmp .ge 36, 3) := by decide +kernel
theorem dX4_leastSet_55 : decode cX4_leastSet 55 = .ok (.iload 7, 2) := by decide +kernel
theorem dX4_leastSet_57 : decode cX4_leastSet 57 = .ok (.invokestatic 284, 3) := by decide +kernel
theorem dX4_leastSet_60 : decode cX4_leastSet 60 = .ok (.iload 6, 2) := by decide +kernel
theorem dX4_leastSet_62 : decode cX4_leastSet 62 = .ok (.if_icmp .ne 20, 3) := by decide +kernel
theorem dX4_leastSet_65 : decode cX4_leastSet 65 = .ok (.aload_n 0, 1) := by decide +kernel
theorem dX4_leastSet_66 : decode cX4_leastSet 66 = .ok (.iload_n 1, 1) := by decide +kernel
theorem dX4_leastSet_67 : decode cX4_leastSet 67 = .ok (.iload 7, 2) := by decide +kernel
theorem dX4_leastSet_69 : decode cX4_leastSet 69 = .ok (.iload_n 2, 1) := by decide +kernel
theorem dX4_leastSet_70 : decode cX4_leastSet 70 = .ok (.iload_n 3, 1) := by decide +kernel
theorem dX4_leastSet_71 : decode cX4_leastSet 71 = .ok (.iload 4, 2) := by decide +kernel
theorem dX4_leastSet_73 : decode cX4_leastSet 73 = .ok (.invokevirtual 280, 3) := by decide +kernel
theorem dX4_leastSet_76 : decode cX4_leastSet 76 = .ok (.ifCond .eq 6, 3) := by decide +kernel
theorem dX4_leastSet_79 : decode cX4_leastSet 79 = .ok (.iload 7, 2) := by decide +kernel
theorem dX4_leastSet_81 : decode cX4_leastSet 81 = .ok (.ireturn, 1) := by decide +kernel
theorem dX4_leastSet_82 : decode cX4_leastSet 82 = .ok (.iinc 7 1, 3) := by decide +kernel
theorem dX4_leastSet_85 : decode cX4_leastSet 85 = .ok (.goto (-37), 3) := by decide +kernel
theorem dX4_leastSet_88 : decode cX4_leastSet 88 = .ok (.iinc 6 1, 3) := by decide +kernel
theorem dX4_leastSet_91 : decode cX4_leastSet 91 = .ok (.goto (-58), 3) := by decide +kernel
theorem dX4_leastSet_94 : decode cX4_leastSet 94 = .ok (.iload 5, 2) := by decide +kernel
theorem dX4_leastSet_96 : decode cX4_leastSet 96 = .ok (.ireturn, 1) := by decide +kernel
set_option maxRecDepth 20000 in
theorem ggX4_isReached_X4_startTelling : GoodIn wsX4_isReached wsX4_startTelling := goodIn_r _ [8, 1, 2, 9, 10, 11, 12, 13, 14, 15, 16, 17, 18, 19, 20, 21, 7, 22, 23, 24, 25, 26, 27, 28, 29, 94, 95, 96, 97, 98, 99, 100, 101, 102, 103, 104, 105, 106, 107, 108, 109, 110, 111, 112, 113, 114] (by decide +kernel) (by decide +kernel)
set_option maxRecDepth 20000 in
theorem gX4_isReached_X4_startTelling : GoodIn wsX4_isReached (wsV RX4 289 RX4 yX4_startTelling wsX4_startTelling) := goodIn_app (goodIn_of _ (by decide +kernel)) ggX4_isReached_X4_startTelling
set_option maxRecDepth 20000 in
theorem ggX4_isReached_X4_startTalk : GoodIn wsX4_isReached wsX4_startTalk := goodIn_r _ [33, 1, 34, 35, 36, 37, 38, 10, 11, 12, 13, 14, 15, 16, 17, 18, 19, 23, 24, 25, 26, 27, 28, 29, 94, 95, 96, 97, 98, 99, 100, 101, 102, 103, 104, 105, 106, 115, 116, 117, 118, 119, 114] (by decide +kernel) (by decide +kernel)
set_option maxRecDepth 20000 in
theorem gX4_isReached_X4_startTalk : GoodIn wsX4_isReached (wsV RX4 185 RX4 yX4_startTalk wsX4_startTalk) := goodIn_app (goodIn_of _ (by decide +kernel)) ggX4_isReached_X4_startTalk
set_option maxRecDepth 20000 in
theorem ggX4_isReached_X3_spread : GoodIn wsX4_isReached wsX3_spread := goodIn_r _ [42, 43, 44, 15, 45, 46, 47, 48, 13, 49, 50, 51, 52, 53, 54, 55, 21, 7, 22, 56, 57, 58, 59, 60, 61, 62, 63, 64, 65, 66, 67, 68, 107, 108, 109, 110, 111, 112, 113, 114] (by decide +kernel) (by decide +kernel)
set_option maxRecDepth 20000 in
theorem gX4_isReached_X3_spread : GoodIn wsX4_isReached (wsV RX4 188 RX3 yX3_spread wsX3_spread) := goodIn_app (goodIn_of _ (by decide +kernel)) ggX4_isReached_X3_spread
set_option maxRecDepth 20000 in
theorem ggX4_isReached_X4_hasForged : GoodIn wsX4_isReached wsX4_hasForged := goodIn_r _ [72, 73, 74, 75, 7, 76, 1, 77, 78, 79, 80, 13, 81, 15, 68, 82, 83, 84, 85, 86, 87, 88, 89, 90, 91, 92, 93, 94, 95, 96, 97, 98, 99, 100, 101, 102, 103, 104, 105, 106, 114] (by decide +kernel) (by decide +kernel)
set_option maxRecDepth 20000 in
theorem gX4_isReached_X4_hasForged : GoodIn wsX4_isReached (wsV RX4 273 RX4 yX4_hasForged wsX4_hasForged) := goodIn_app (goodIn_of _ (by decide +kernel)) ggX4_isReached_X4_hasForged
theorem dX4_isReached_0 : decode cX4_isReached 0 = .ok (.iload_n 1, 1) := by decide +kernel
theorem dX4_isReached_1 : decode cX4_isReached 1 = .ok (.ifCond .eq 13, 3) := by decide +kernel
theorem dX4_isReached_4 : decode cX4_isReached 4 = .ok (.aload_n 0, 1) := by decide +kernel
theorem dX4_isReached_5 : decode cX4_isReached 5 = .ok (.iload_n 2, 1) := by decide +kernel
theorem dX4_isReached_6 : decode cX4_isReached 6 = .ok (.iload 4, 2) := by decide +kernel
theorem dX4_isReached_8 : decode cX4_isReached 8 = .ok (.invokevirtual 289, 3) := by decide +kernel
theorem dX4_isReached_11 : decode cX4_isReached 11 = .ok (.goto 8, 3) := by decide +kernel
theorem dX4_isReached_14 : decode cX4_isReached 14 = .ok (.aload_n 0, 1) := by decide +kernel
theorem dX4_isReached_15 : decode cX4_isReached 15 = .ok (.iconst (-1), 1) := by decide +kernel
theorem dX4_isReached_16 : decode cX4_isReached 16 = .ok (.invokevirtual 185, 3) := by decide +kernel
theorem dX4_isReached_19 : decode cX4_isReached 19 = .ok (.aload_n 0, 1) := by decide +kernel
theorem dX4_isReached_20 : decode cX4_isReached 20 = .ok (.getfield 36, 3) := by decide +kernel
theorem dX4_isReached_23 : decode cX4_isReached 23 = .ok (.aload_n 0, 1) := by decide +kernel
theorem dX4_isReached_24 : decode cX4_isReached 24 = .ok (.getfield 47, 3) := by decide +kernel
theorem dX4_isReached_27 : decode cX4_isReached 27 = .ok (.iload_n 1, 1) := by decide +kernel
theorem dX4_isReached_28 : decode cX4_isReached 28 = .ok (.ifCond .eq 10, 3) := by decide +kernel
theorem dX4_isReached_31 : decode cX4_isReached 31 = .ok (.aload_n 0, 1) := by decide +kernel
theorem dX4_isReached_32 : decode cX4_isReached 32 = .ok (.getfield 58, 3) := by decide +kernel
theorem dX4_isReached_35 : decode cX4_isReached 35 = .ok (.goto 9, 3) := by decide +kernel
theorem dX4_isReached_38 : decode cX4_isReached 38 = .ok (.aload_n 0, 1) := by decide +kernel
theorem dX4_isReached_39 : decode cX4_isReached 39 = .ok (.getfield 58, 3) := by decide +kernel
theorem dX4_isReached_42 : decode cX4_isReached 42 = .ok (.iload_n 2, 1) := by decide +kernel
theorem dX4_isReached_43 : decode cX4_isReached 43 = .ok (.ior, 1) := by decide +kernel
theorem dX4_isReached_44 : decode cX4_isReached 44 = .ok (.iconst (-1), 1) := by decide +kernel
theorem dX4_isReached_45 : decode cX4_isReached 45 = .ok (.invokevirtual 188, 3) := by decide +kernel
theorem dX4_isReached_48 : decode cX4_isReached 48 = .ok (.aload_n 0, 1) := by decide +kernel
theorem dX4_isReached_49 : decode cX4_isReached 49 = .ok (.iload_n 3, 1) := by decide +kernel
theorem dX4_isReached_50 : decode cX4_isReached 50 = .ok (.iload 4, 2) := by decide +kernel
theorem dX4_isReached_52 : decode cX4_isReached 52 = .ok (.iload 5, 2) := by decide +kernel
theorem dX4_isReached_54 : decode cX4_isReached 54 = .ok (.invokevirtual 273, 3) := by decide +kernel
theorem dX4_isReached_57 : decode cX4_isReached 57 = .ok (.iload_n 1, 1) := by decide +kernel
theorem dX4_isReached_58 : decode cX4_isReached 58 = .ok (.if_icmp .ne 7, 3) := by decide +kernel
theorem dX4_isReached_61 : decode cX4_isReached 61 = .ok (.iconst 1, 1) := by decide +kernel
theorem dX4_isReached_62 : decode cX4_isReached 62 = .ok (.goto 4, 3) := by decide +kernel
theorem dX4_isReached_65 : decode cX4_isReached 65 = .ok (.iconst 0, 1) := by decide +kernel
theorem dX4_isReached_66 : decode cX4_isReached 66 = .ok (.ireturn, 1) := by decide +kernel
set_option maxRecDepth 20000 in
theorem ggX4_startTelling_X3_clear : GoodIn wsX4_startTelling wsX3_clear := goodIn_r _ [8, 9, 10, 11, 12, 13, 45] (by decide +kernel) (by decide +kernel)
set_option maxRecDepth 20000 in
theorem gX4_startTelling_X3_clear : GoodIn wsX4_startTelling (wsV RX4 261 RX3 yX3_clear wsX3_clear) := goodIn_app (goodIn_of _ (by decide +kernel)) ggX4_startTelling_X3_clear
set_option maxRecDepth 20000 in
theorem ggX4_startTelling_X4_holds : GoodIn wsX4_startTelling wsX4_holds := goodIn_r _ [17] (by decide +kernel) (by decide +kernel)
set_option maxRecDepth 20000 in
theorem gX4_startTelling_X4_holds : GoodIn wsX4_startTelling (va_wsS RX4 107 yX4_holds wsX4_holds) := goodIn_app (goodIn_of _ (by decide +kernel)) ggX4_startTelling_X4_holds
set_option maxRecDepth 20000 in
theorem ggX4_startTelling_X3_plant : GoodIn wsX4_startTelling wsX3_plant := goodIn_r _ [21, 9, 22, 23, 7, 24, 45] (by decide +kernel) (by decide +kernel)
set_option maxRecDepth 20000 in
theorem gX4_startTelling_X3_plant : GoodIn wsX4_startTelling (wsV RX4 198 RX3 yX3_plant wsX3_plant) := goodIn_app (goodIn_of _ (by decide +kernel)) ggX4_startTelling_X3_plant
theorem dX4_startTelling_0 : decode cX4_startTelling 0 = .ok (.aload_n 0, 1) := by decide +kernel
theorem dX4_startTelling_1 : decode cX4_startTelling 1 = .ok (.getfield 36, 3) := by decide +kernel
theorem dX4_startTelling_4 : decode cX4_startTelling 4 = .ok (.invokevirtual 261, 3) := by decide +kernel
theorem dX4_startTelling_7 : decode cX4_startTelling 7 = .ok (.iconst 0, 1) := by decide +kernel
theorem dX4_startTelling_8 : decode cX4_startTelling 8 = .ok (.istore_n 3, 1) := by decide +kernel
theorem dX4_startTelling_9 : decode cX4_startTelling 9 = .ok (.iload_n 3, 1) := by decide +kernel
theorem dX4_startTelling_10 : decode cX4_startTelling 10 = .ok (.aload_n 0, 1) := by decide +kernel
theorem dX4_startTelling_11 : decode cX4_startTelling 11 = .ok (.getfield 47, 3) := by decide +kernel
theorem dX4_startTelling_14 : decode cX4_startTelling 14 = .ok (.getfield 95, 3) := by decide +kernel
theorem dX4_startTelling_17 : decode cX4_startTelling 17 = .ok (.if_icmp .ge 28, 3) := by decide +kernel
theorem dX4_startTelling_20 : decode cX4_startTelling 20 = .ok (.iload_n 1, 1) := by decide +kernel
theorem dX4_startTelling_21 : decode cX4_startTelling 21 = .ok (.iload_n 3, 1) := by decide +kernel
theorem dX4_startTelling_22 : decode cX4_startTelling 22 = .ok (.invokestatic 107, 3) := by decide +kernel
theorem dX4_startTelling_25 : decode cX4_startTelling 25 = .ok (.ifCond .eq 14, 3) := by decide +kernel
theorem dX4_startTelling_28 : decode cX4_startTelling 28 = .ok (.aload_n 0, 1) := by decide +kernel
theorem dX4_startTelling_29 : decode cX4_startTelling 29 = .ok (.getfield 36, 3) := by decide +kernel
theorem dX4_startTelling_32 : decode cX4_startTelling 32 = .ok (.iload_n 3, 1) := by decide +kernel
theorem dX4_startTelling_33 : decode cX4_startTelling 33 = .ok (.iload_n 2, 1) := by decide +kernel
theorem dX4_startTelling_34 : decode cX4_startTelling 34 = .ok (.iload_n 3, 1) := by decide +kernel
theorem dX4_startTelling_35 : decode cX4_startTelling 35 = .ok (.iconst 0, 1) := by decide +kernel
theorem dX4_startTelling_36 : decode cX4_startTelling 36 = .ok (.invokevirtual 198, 3) := by decide +kernel
theorem dX4_startTelling_39 : decode cX4_startTelling 39 = .ok (.iinc 3 1, 3) := by decide +kernel
theorem dX4_startTelling_42 : decode cX4_startTelling 42 = .ok (.goto (-33), 3) := by decide +kernel
theorem dX4_startTelling_45 : decode cX4_startTelling 45 = .ok (.return_, 1) := by decide +kernel
set_option maxRecDepth 20000 in
theorem ggX4_keepForgeDays_X4_forgeDay : GoodIn wsX4_keepForgeDays wsX4_forgeDay := goodIn_r _ [8, 9, 10, 11, 12, 13, 14, 15, 16, 17, 18, 19, 20, 21, 22, 23, 24, 25, 26, 27, 7, 28, 29, 30, 31, 32, 33, 34, 35, 36, 37, 38, 39, 40, 41, 42, 50] (by decide +kernel) (by decide +kernel)
set_option maxRecDepth 20000 in
theorem gX4_keepForgeDays_X4_forgeDay : GoodIn wsX4_keepForgeDays (wsV RX4 156 RX4 yX4_forgeDay wsX4_forgeDay) := goodIn_app (goodIn_of _ (by decide +kernel)) ggX4_keepForgeDays_X4_forgeDay
theorem dX4_keepForgeDays_0 : decode cX4_keepForgeDays 0 = .ok (.iconst 0, 1) := by decide +kernel
theorem dX4_keepForgeDays_1 : decode cX4_keepForgeDays 1 = .ok (.istore_n 1, 1) := by decide +kernel
theorem dX4_keepForgeDays_2 : decode cX4_keepForgeDays 2 = .ok (.iload_n 1, 1) := by decide +kernel
theorem dX4_keepForgeDays_3 : decode cX4_keepForgeDays 3 = .ok (.aload_n 0, 1) := by decide +kernel
theorem dX4_keepForgeDays_4 : decode cX4_keepForgeDays 4 = .ok (.getfield 47, 3) := by decide +kernel
theorem dX4_keepForgeDays_7 : decode cX4_keepForgeDays 7 = .ok (.getfield 95, 3) := by decide +kernel
theorem dX4_keepForgeDays_10 : decode cX4_keepForgeDays 10 = .ok (.if_icmp .ge 38, 3) := by decide +kernel
theorem dX4_keepForgeDays_13 : decode cX4_keepForgeDays 13 = .ok (.iconst 0, 1) := by decide +kernel
theorem dX4_keepForgeDays_14 : decode cX4_keepForgeDays 14 = .ok (.istore_n 2, 1) := by decide +kernel
theorem dX4_keepForgeDays_15 : decode cX4_keepForgeDays 15 = .ok (.iload_n 2, 1) := by decide +kernel
theorem dX4_keepForgeDays_16 : decode cX4_keepForgeDays 16 = .ok (.iconst 4, 1) := by decide +kernel
theorem dX4_keepForgeDays_17 : decode cX4_keepForgeDays 17 = .ok (.if_icmp .ge 25, 3) := by decide +kernel
theorem dX4_keepForgeDays_20 : decode cX4_keepForgeDays 20 = .ok (.aload_n 0, 1) := by decide +kernel
theorem dX4_keepForgeDays_21 : decode cX4_keepForgeDays 21 = .ok (.getfield 40, 3) := by decide +kernel
theorem dX4_keepForgeDays_24 : decode cX4_keepForgeDays 24 = .ok (.iload_n 1, 1) := by decide +kernel
theorem dX4_keepForgeDays_25 : decode cX4_keepForgeDays 25 = .ok (.iconst 4, 1) := by decide +kernel
theorem dX4_keepForgeDays_26 : decode cX4_keepForgeDays 26 = .ok (.imul, 1) := by decide +kernel
theorem dX4_keepForgeDays_27 : decode cX4_keepForgeDays 27 = .ok (.iload_n 2, 1) := by decide +kernel
theorem dX4_keepForgeDays_28 : decode cX4_keepForgeDays 28 = .ok (.iadd, 1) := by decide +kernel
theorem dX4_keepForgeDays_29 : decode cX4_keepForgeDays 29 = .ok (.aload_n 0, 1) := by decide +kernel
theorem dX4_keepForgeDays_30 : decode cX4_keepForgeDays 30 = .ok (.iload_n 1, 1) := by decide +kernel
theorem dX4_keepForgeDays_31 : decode cX4_keepForgeDays 31 = .ok (.iload_n 2, 1) := by decide +kernel
theorem dX4_keepForgeDays_32 : decode cX4_keepForgeDays 32 = .ok (.invokevirtual 156, 3) := by decide +kernel
theorem dX4_keepForgeDays_35 : decode cX4_keepForgeDays 35 = .ok (.iastore, 1) := by decide +kernel
theorem dX4_keepForgeDays_36 : decode cX4_keepForgeDays 36 = .ok (.iinc 2 1, 3) := by decide +kernel
theorem dX4_keepForgeDays_39 : decode cX4_keepForgeDays 39 = .ok (.goto (-24), 3) := by decide +kernel
theorem dX4_keepForgeDays_42 : decode cX4_keepForgeDays 42 = .ok (.iinc 1 1, 3) := by decide +kernel
theorem dX4_keepForgeDays_45 : decode cX4_keepForgeDays 45 = .ok (.goto (-43), 3) := by decide +kernel
theorem dX4_keepForgeDays_48 : decode cX4_keepForgeDays 48 = .ok (.return_, 1) := by decide +kernel
set_option maxRecDepth 20000 in
theorem ggX4_areForgeDaysKept_X1_isSmith : GoodIn wsX4_areForgeDaysKept wsX1_isSmith := goodIn_r _ [8, 9, 10, 11, 12, 51, 52, 53, 54, 55, 56, 57] (by decide +kernel) (by decide +kernel)
set_option maxRecDepth 20000 in
theorem gX4_areForgeDaysKept_X1_isSmith : GoodIn wsX4_areForgeDaysKept (wsV RX4 104 RX1 yX1_isSmith wsX1_isSmith) := goodIn_app (goodIn_of _ (by decide +kernel)) ggX4_areForgeDaysKept_X1_isSmith
set_option maxRecDepth 20000 in
theorem ggX4_areForgeDaysKept_X4_forgeDay : GoodIn wsX4_areForgeDaysKept wsX4_forgeDay := goodIn_r _ [16, 17, 18, 19, 20, 21, 22, 23, 24, 25, 26, 27, 28, 29, 30, 31, 32, 33, 34, 35, 11, 36, 37, 38, 39, 40, 41, 42, 43, 44, 45, 46, 47, 48, 49, 50, 58] (by decide +kernel) (by decide +kernel)
set_option maxRecDepth 20000 in
theorem gX4_areForgeDaysKept_X4_forgeDay : GoodIn wsX4_areForgeDaysKept (wsV RX4 156 RX4 yX4_forgeDay wsX4_forgeDay) := goodIn_app (goodIn_of _ (by decide +kernel)) ggX4_areForgeDaysKept_X4_forgeDay
theorem dX4_areForgeDaysKept_0 : decode cX4_areForgeDaysKept 0 = .ok (.iconst 0, 1) := by decide +kernel
theorem dX4_areForgeDaysKept_1 : decode cX4_areForgeDaysKept 1 = .ok (.istore_n 1, 1) := by decide +kernel
theorem dX4_areForgeDaysKept_2 : decode cX4_areForgeDaysKept 2 = .ok (.iload_n 1, 1) := by decide +kernel
theorem dX4_areForgeDaysKept_3 : decode cX4_areForgeDaysKept 3 = .ok (.aload_n 0, 1) := by decide +kernel
theorem dX4_areForgeDaysKept_4 : decode cX4_areForgeDaysKept 4 = .ok (.getfield 47, 3) := by decide +kernel
theorem dX4_areForgeDaysKept_7 : decode cX4_areForgeDaysKept 7 = .ok (.getfield 95, 3) := by decide +kernel
theorem dX4_areForgeDaysKept_10 : decode cX4_areForgeDaysKept 10 = .ok (.if_icmp .ge 54, 3) := by decide +kernel
theorem dX4_areForgeDaysKept_13 : decode cX4_areForgeDaysKept 13 = .ok (.iconst 0, 1) := by decide +kernel
theorem dX4_areForgeDaysKept_14 : decode cX4_areForgeDaysKept 14 = .ok (.istore_n 2, 1) := by decide +kernel
theorem dX4_areForgeDaysKept_15 : decode cX4_areForgeDaysKept 15 = .ok (.aload_n 0, 1) := by decide +kernel
theorem dX4_areForgeDaysKept_16 : decode cX4_areForgeDaysKept 16 = .ok (.getfield 47, 3) := by decide +kernel
theorem dX4_areForgeDaysKept_19 : decode cX4_areForgeDaysKept 19 = .ok (.iload_n 1, 1) := by decide +kernel
theorem dX4_areForgeDaysKept_20 : decode cX4_areForgeDaysKept 20 = .ok (.invokevirtual 104, 3) := by decide +kernel
theorem dX4_areForgeDaysKept_23 : decode cX4_areForgeDaysKept 23 = .ok (.ifCond .eq 35, 3) := by decide +kernel
theorem dX4_areForgeDaysKept_26 : decode cX4_areForgeDaysKept 26 = .ok (.iload_n 2, 1) := by decide +kernel
theorem dX4_areForgeDaysKept_27 : decode cX4_areForgeDaysKept 27 = .ok (.iconst 4, 1) := by decide +kernel
theorem dX4_areForgeDaysKept_28 : decode cX4_areForgeDaysKept 28 = .ok (.if_icmp .ge 30, 3) := by decide +kernel
theorem dX4_areForgeDaysKept_31 : decode cX4_areForgeDaysKept 31 = .ok (.aload_n 0, 1) := by decide +kernel
theorem dX4_areForgeDaysKept_32 : decode cX4_areForgeDaysKept 32 = .ok (.getfield 40, 3) := by decide +kernel
theorem dX4_areForgeDaysKept_35 : decode cX4_areForgeDaysKept 35 = .ok (.iload_n 1, 1) := by decide +kernel
theorem dX4_areForgeDaysKept_36 : decode cX4_areForgeDaysKept 36 = .ok (.iconst 4, 1) := by decide +kernel
theorem dX4_areForgeDaysKept_37 : decode cX4_areForgeDaysKept 37 = .ok (.imul, 1) := by decide +kernel
theorem dX4_areForgeDaysKept_38 : decode cX4_areForgeDaysKept 38 = .ok (.iload_n 2, 1) := by decide +kernel
theorem dX4_areForgeDaysKept_39 : decode cX4_areForgeDaysKept 39 = .ok (.iadd, 1) := by decide +kernel
theorem dX4_areForgeDaysKept_40 : decode cX4_areForgeDaysKept 40 = .ok (.iaload, 1) := by decide +kernel
theorem dX4_areForgeDaysKept_41 : decode cX4_areForgeDaysKept 41 = .ok (.aload_n 0, 1) := by decide +kernel
theorem dX4_areForgeDaysKept_42 : decode cX4_areForgeDaysKept 42 = .ok (.iload_n 1, 1) := by decide +kernel
theorem dX4_areForgeDaysKept_43 : decode cX4_areForgeDaysKept 43 = .ok (.iload_n 2, 1) := by decide +kernel
theorem dX4_areForgeDaysKept_44 : decode cX4_areForgeDaysKept 44 = .ok (.invokevirtual 156, 3) := by decide +kernel
theorem dX4_areForgeDaysKept_47 : decode cX4_areForgeDaysKept 47 = .ok (.if_icmp .eq 5, 3) := by decide +kernel
theorem dX4_areForgeDaysKept_50 : decode cX4_areForgeDaysKept 50 = .ok (.iconst 0, 1) := by decide +kernel
theorem dX4_areForgeDaysKept_51 : decode cX4_areForgeDaysKept 51 = .ok (.ireturn, 1) := by decide +kernel
theorem dX4_areForgeDaysKept_52 : decode cX4_areForgeDaysKept 52 = .ok (.iinc 2 1, 3) := by decide +kernel
theorem dX4_areForgeDaysKept_55 : decode cX4_areForgeDaysKept 55 = .ok (.goto (-40), 3) := by decide +kernel
theorem dX4_areForgeDaysKept_58 : decode cX4_areForgeDaysKept 58 = .ok (.iinc 1 1, 3) := by decide +kernel
theorem dX4_areForgeDaysKept_61 : decode cX4_areForgeDaysKept 61 = .ok (.goto (-59), 3) := by decide +kernel
theorem dX4_areForgeDaysKept_64 : decode cX4_areForgeDaysKept 64 = .ok (.iconst 1, 1) := by decide +kernel
theorem dX4_areForgeDaysKept_65 : decode cX4_areForgeDaysKept 65 = .ok (.ireturn, 1) := by decide +kernel
set_option maxRecDepth 20000 in
theorem ggX4_areReadingsSo_X4_hasForged : GoodIn wsX4_areReadingsSo wsX4_hasForged := goodIn_r _ [11, 12, 13, 14, 10, 15, 16, 17, 18, 19, 20, 21, 22, 23, 24, 25, 26, 27, 28, 29, 30, 31, 32, 33, 34, 35, 36, 37, 38, 39, 40, 41, 42, 43, 44, 45, 46, 47, 48, 49, 55] (by decide +kernel) (by decide +kernel)
set_option maxRecDepth 20000 in
theorem gX4_areReadingsSo_X4_hasForged : GoodIn wsX4_areReadingsSo (wsV RX4 273 RX4 yX4_hasForged wsX4_hasForged) := goodIn_app (goodIn_of _ (by decide +kernel)) ggX4_areReadingsSo_X4_hasForged
theorem dX4_areReadingsSo_0 : decode cX4_areReadingsSo 0 = .ok (.iconst 0, 1) := by decide +kernel
theorem dX4_areReadingsSo_1 : decode cX4_areReadingsSo 1 = .ok (.istore_n 1, 1) := by decide +kernel
theorem dX4_areReadingsSo_2 : decode cX4_areReadingsSo 2 = .ok (.iload_n 1, 1) := by decide +kernel
theorem dX4_areReadingsSo_3 : decode cX4_areReadingsSo 3 = .ok (.aload_n 0, 1) := by decide +kernel
theorem dX4_areReadingsSo_4 : decode cX4_areReadingsSo 4 = .ok (.getfield 26, 3) := by decide +kernel
theorem dX4_areReadingsSo_7 : decode cX4_areReadingsSo 7 = .ok (.getfield 182, 3) := by decide +kernel
theorem dX4_areReadingsSo_10 : decode cX4_areReadingsSo 10 = .ok (.if_icmp .ge 51, 3) := by decide +kernel
theorem dX4_areReadingsSo_13 : decode cX4_areReadingsSo 13 = .ok (.aload_n 0, 1) := by decide +kernel
theorem dX4_areReadingsSo_14 : decode cX4_areReadingsSo 14 = .ok (.aload_n 0, 1) := by decide +kernel
theorem dX4_areReadingsSo_15 : decode cX4_areReadingsSo 15 = .ok (.getfield 26, 3) := by decide +kernel
theorem dX4_areReadingsSo_18 : decode cX4_areReadingsSo 18 = .ok (.getfield 264, 3) := by decide +kernel
theorem dX4_areReadingsSo_21 : decode cX4_areReadingsSo 21 = .ok (.iload_n 1, 1) := by decide +kernel
theorem dX4_areReadingsSo_22 : decode cX4_areReadingsSo 22 = .ok (.iaload, 1) := by decide +kernel
theorem dX4_areReadingsSo_23 : decode cX4_areReadingsSo 23 = .ok (.aload_n 0, 1) := by decide +kernel
theorem dX4_areReadingsSo_24 : decode cX4_areReadingsSo 24 = .ok (.getfield 26, 3) := by decide +kernel
theorem dX4_areReadingsSo_27 : decode cX4_areReadingsSo 27 = .ok (.getfield 267, 3) := by decide +kernel
theorem dX4_areReadingsSo_30 : decode cX4_areReadingsSo 30 = .ok (.iload_n 1, 1) := by decide +kernel
theorem dX4_areReadingsSo_31 : decode cX4_areReadingsSo 31 = .ok (.iaload, 1) := by decide +kernel
theorem dX4_areReadingsSo_32 : decode cX4_areReadingsSo 32 = .ok (.aload_n 0, 1) := by decide +kernel
theorem dX4_areReadingsSo_33 : decode cX4_areReadingsSo 33 = .ok (.getfield 26, 3) := by decide +kernel
theorem dX4_areReadingsSo_36 : decode cX4_areReadingsSo 36 = .ok (.getfield 270, 3) := by decide +kernel
theorem dX4_areReadingsSo_39 : decode cX4_areReadingsSo 39 = .ok (.iload_n 1, 1) := by decide +kernel
theorem dX4_areReadingsSo_40 : decode cX4_areReadingsSo 40 = .ok (.iaload, 1) := by decide +kernel
theorem dX4_areReadingsSo_41 : decode cX4_areReadingsSo 41 = .ok (.invokevirtual 273, 3) := by decide +kernel
theorem dX4_areReadingsSo_44 : decode cX4_areReadingsSo 44 = .ok (.aload_n 0, 1) := by decide +kernel
theorem dX4_areReadingsSo_45 : decode cX4_areReadingsSo 45 = .ok (.getfield 29, 3) := by decide +kernel
theorem dX4_areReadingsSo_48 : decode cX4_areReadingsSo 48 = .ok (.iload_n 1, 1) := by decide +kernel
theorem dX4_areReadingsSo_49 : decode cX4_areReadingsSo 49 = .ok (.baload, 1) := by decide +kernel
theorem dX4_areReadingsSo_50 : decode cX4_areReadingsSo 50 = .ok (.if_icmp .eq 5, 3) := by decide +kernel
theorem dX4_areReadingsSo_53 : decode cX4_areReadingsSo 53 = .ok (.iconst 0, 1) := by decide +kernel
theorem dX4_areReadingsSo_54 : decode cX4_areReadingsSo 54 = .ok (.ireturn, 1) := by decide +kernel
theorem dX4_areReadingsSo_55 : decode cX4_areReadingsSo 55 = .ok (.iinc 1 1, 3) := by decide +kernel
theorem dX4_areReadingsSo_58 : decode cX4_areReadingsSo 58 = .ok (.goto (-56), 3) := by decide +kernel
theorem dX4_areReadingsSo_61 : decode cX4_areReadingsSo 61 = .ok (.iconst 1, 1) := by decide +kernel
theorem dX4_areReadingsSo_62 : decode cX4_areReadingsSo 62 = .ok (.ireturn, 1) := by decide +kernel
theorem dX4_leave_0 : decode cX4_leave 0 = .ok (.aload_n 0, 1) := by decide +kernel
theorem dX4_leave_1 : decode cX4_leave 1 = .ok (.bipush 31, 2) := by decide +kernel
theorem dX4_leave_3 : decode cX4_leave 3 = .ok (.aload_n 0, 1) := by decide +kernel
theorem dX4_leave_4 : decode cX4_leave 4 = .ok (.getfield 65, 3) := by decide +kernel
theorem dX4_leave_7 : decode cX4_leave 7 = .ok (.imul, 1) := by decide +kernel
theorem dX4_leave_8 : decode cX4_leave 8 = .ok (.iload_n 1, 1) := by decide +kernel
theorem dX4_leave_9 : decode cX4_leave 9 = .ok (.iadd, 1) := by decide +kernel
theorem dX4_leave_10 : decode cX4_leave 10 = .ok (.putfield 65, 3) := by decide +kernel
theorem dX4_leave_13 : decode cX4_leave 13 = .ok (.return_, 1) := by decide +kernel
set_option maxRecDepth 20000 in
theorem ggX4_tellersBody_X4_leave : GoodIn wsX4_tellersBody wsX4_leave := goodIn_r _ [5, 6, 7, 8, 9, 10, 11, 12, 13, 14, 15, 16, 17, 18, 19] (by decide +kernel) (by decide +kernel)
set_option maxRecDepth 20000 in
theorem gX4_tellersBody_X4_leave : GoodIn wsX4_tellersBody (wsV RX4 292 RX4 yX4_leave wsX4_leave) := goodIn_app (goodIn_of _ (by decide +kernel)) ggX4_tellersBody_X4_leave
theorem dX4_tellersBody_0 : decode cX4_tellersBody 0 = .ok (.aload_n 0, 1) := by decide +kernel
theorem dX4_tellersBody_1 : decode cX4_tellersBody 1 = .ok (.iconst 1, 1) := by decide +kernel
theorem dX4_tellersBody_2 : decode cX4_tellersBody 2 = .ok (.invokevirtual 292, 3) := by decide +kernel
theorem dX4_tellersBody_5 : decode cX4_tellersBody 5 = .ok (.iload_n 1, 1) := by decide +kernel
theorem dX4_tellersBody_6 : decode cX4_tellersBody 6 = .ok (.ireturn, 1) := by decide +kernel
set_option maxRecDepth 20000 in
theorem ggX4_jokersBody_X4_leave : GoodIn wsX4_jokersBody wsX4_leave := goodIn_r _ [5, 6, 11, 12, 13, 14, 15, 16, 17, 18, 19, 20, 21, 22, 23] (by decide +kernel) (by decide +kernel)
set_option maxRecDepth 20000 in
theorem gX4_jokersBody_X4_leave : GoodIn wsX4_jokersBody (wsV RX4 292 RX4 yX4_leave wsX4_leave) := goodIn_app (goodIn_of _ (by decide +kernel)) ggX4_jokersBody_X4_leave
set_option maxRecDepth 20000 in
theorem ggX4_jokersBody_X4_tellersBody : GoodIn wsX4_jokersBody wsX4_tellersBody := goodIn_r _ [10, 1, 2, 3, 4, 5, 6, 11, 12, 13, 14, 15, 16, 17, 18, 19, 20, 21, 22, 23] (by decide +kernel) (by decide +kernel)
set_option maxRecDepth 20000 in
theorem gX4_jokersBody_X4_tellersBody : GoodIn wsX4_jokersBody (wsV RX4 251 RX4 yX4_tellersBody wsX4_tellersBody) := goodIn_app (goodIn_of _ (by decide +kernel)) ggX4_jokersBody_X4_tellersBody
theorem dX4_jokersBody_0 : decode cX4_jokersBody 0 = .ok (.aload_n 0, 1) := by decide +kernel
theorem dX4_jokersBody_1 : decode cX4_jokersBody 1 = .ok (.iconst 2, 1) := by decide +kernel
theorem dX4_jokersBody_2 : decode cX4_jokersBody 2 = .ok (.invokevirtual 292, 3) := by decide +kernel
theorem dX4_jokersBody_5 : decode cX4_jokersBody 5 = .ok (.aload_n 0, 1) := by decide +kernel
theorem dX4_jokersBody_6 : decode cX4_jokersBody 6 = .ok (.iload_n 1, 1) := by decide +kernel
theorem dX4_jokersBody_7 : decode cX4_jokersBody 7 = .ok (.invokevirtual 251, 3) := by decide +kernel
theorem dX4_jokersBody_10 : decode cX4_jokersBody 10 = .ok (.bipush 100, 2) := by decide +kernel
theorem dX4_jokersBody_12 : decode cX4_jokersBody 12 = .ok (.iadd, 1) := by decide +kernel
theorem dX4_jokersBody_13 : decode cX4_jokersBody 13 = .ok (.ireturn, 1) := by decide +kernel
set_option maxRecDepth 20000 in
theorem ggX4_liarsBody_X4_leave : GoodIn wsX4_liarsBody wsX4_leave := goodIn_r _ [5, 6, 15, 16, 17, 18, 19, 20, 21, 22, 23, 24, 25, 26, 27] (by decide +kernel) (by decide +kernel)
set_option maxRecDepth 20000 in
theorem gX4_liarsBody_X4_leave : GoodIn wsX4_liarsBody (wsV RX4 292 RX4 yX4_leave wsX4_leave) := goodIn_app (goodIn_of _ (by decide +kernel)) ggX4_liarsBody_X4_leave
set_option maxRecDepth 20000 in
theorem ggX4_liarsBody_X4_jokersBody : GoodIn wsX4_liarsBody wsX4_jokersBody := goodIn_r _ [10, 1, 2, 3, 4, 5, 6, 11, 12, 13, 14, 15, 16, 17, 18, 19, 20, 21, 22, 23, 24, 25, 26, 27] (by decide +kernel) (by decide +kernel)
set_option maxRecDepth 20000 in
theorem gX4_liarsBody_X4_jokersBody : GoodIn wsX4_liarsBody (wsV RX4 248 RX4 yX4_jokersBody wsX4_jokersBody) := goodIn_app (goodIn_of _ (by decide +kernel)) ggX4_liarsBody_X4_jokersBody
set_option maxRecDepth 20000 in
theorem ggX4_liarsBody_X4_tellersBody : GoodIn wsX4_liarsBody wsX4_tellersBody := goodIn_r _ [14, 1, 2, 3, 4, 5, 6, 15, 16, 17, 18, 19, 20, 21, 22, 23, 24, 25, 26, 27] (by decide +kernel) (by decide +kernel)
set_option maxRecDepth 20000 in
theorem gX4_liarsBody_X4_tellersBody : GoodIn wsX4_liarsBody (wsV RX4 251 RX4 yX4_tellersBody wsX4_tellersBody) := goodIn_app (goodIn_of _ (by decide +kernel)) ggX4_liarsBody_X4_tellersBody
theorem dX4_liarsBody_0 : decode cX4_liarsBody 0 = .ok (.aload_n 0, 1) := by decide +kernel
theorem dX4_liarsBody_1 : decode cX4_liarsBody 1 = .ok (.iconst 3, 1) := by decide +kernel
theorem dX4_liarsBody_2 : decode cX4_liarsBody 2 = .ok (.invokevirtual 292, 3) := by decide +kernel
theorem dX4_liarsBody_5 : decode cX4_liarsBody 5 = .ok (.aload_n 0, 1) := by decide +kernel
theorem dX4_liarsBody_6 : decode cX4_liarsBody 6 = .ok (.iload_n 1, 1) := by decide +kernel
theorem dX4_liarsBody_7 : decode cX4_liarsBody 7 = .ok (.invokevirtual 248, 3) := by decide +kernel
theorem dX4_liarsBody_10 : decode cX4_liarsBody 10 = .ok (.aload_n 0, 1) := by decide +kernel
theorem dX4_liarsBody_11 : decode cX4_liarsBody 11 = .ok (.iload_n 1, 1) := by decide +kernel
theorem dX4_liarsBody_12 : decode cX4_liarsBody 12 = .ok (.invokevirtual 251, 3) := by decide +kernel
theorem dX4_liarsBody_15 : decode cX4_liarsBody 15 = .ok (.iadd, 1) := by decide +kernel
theorem dX4_liarsBody_16 : decode cX4_liarsBody 16 = .ok (.ireturn, 1) := by decide +kernel
set_option maxRecDepth 20000 in
theorem ggX4_lentGreeting_X4_leave : GoodIn wsX4_lentGreeting wsX4_leave := goodIn_r _ [5, 6, 7, 8, 9, 10, 11, 12, 13, 14, 15, 16, 17, 18, 19] (by decide +kernel) (by decide +kernel)
set_option maxRecDepth 20000 in
theorem gX4_lentGreeting_X4_leave : GoodIn wsX4_lentGreeting (wsV RX4 292 RX4 yX4_leave wsX4_leave) := goodIn_app (goodIn_of _ (by decide +kernel)) ggX4_lentGreeting_X4_leave
theorem dX4_lentGreeting_0 : decode cX4_lentGreeting 0 = .ok (.aload_n 0, 1) := by decide +kernel
theorem dX4_lentGreeting_1 : decode cX4_lentGreeting 1 = .ok (.iconst 4, 1) := by decide +kernel
theorem dX4_lentGreeting_2 : decode cX4_lentGreeting 2 = .ok (.invokevirtual 292, 3) := by decide +kernel
theorem dX4_lentGreeting_5 : decode cX4_lentGreeting 5 = .ok (.iload_n 1, 1) := by decide +kernel
theorem dX4_lentGreeting_6 : decode cX4_lentGreeting 6 = .ok (.ireturn, 1) := by decide +kernel
set_option maxRecDepth 20000 in
theorem ggX4_liarsGreeting_X4_leave : GoodIn wsX4_liarsGreeting wsX4_leave := goodIn_r _ [5, 6, 7, 8, 9, 10, 11, 12, 13, 14, 15, 16, 17, 18, 19] (by decide +kernel) (by decide +kernel)
set_option maxRecDepth 20000 in
theorem gX4_liarsGreeting_X4_leave : GoodIn wsX4_liarsGreeting (wsV RX4 292 RX4 yX4_leave wsX4_leave) := goodIn_app (goodIn_of _ (by decide +kernel)) ggX4_liarsGreeting_X4_leave
theorem dX4_liarsGreeting_0 : decode cX4_liarsGreeting 0 = .ok (.aload_n 0, 1) := by decide +kernel
theorem dX4_liarsGreeting_1 : decode cX4_liarsGreeting 1 = .ok (.iconst 5, 1) := by decide +kernel
theorem dX4_liarsGreeting_2 : decode cX4_liarsGreeting 2 = .ok (.invokevirtual 292, 3) := by decide +kernel
theorem dX4_liarsGreeting_5 : decode cX4_liarsGreeting 5 = .ok (.bipush 50, 2) := by decide +kernel
theorem dX4_liarsGreeting_7 : decode cX4_liarsGreeting 7 = .ok (.ireturn, 1) := by decide +kernel
theorem dX5_init_0 : decode cX5_init 0 = .ok (.aload_n 0, 1) := by decide +kernel
theorem dX5_init_1 : decode cX5_init 1 = .ok (.invokespecial 1, 3) := by decide +kernel
theorem dX5_init_4 : decode cX5_init 4 = .ok (.aload_n 0, 1) := by decide +kernel
theorem dX5_init_5 : decode cX5_init 5 = .ok (.bipush 6, 2) := by decide +kernel
theorem dX5_init_7 : decode cX5_init 7 = .ok (.newarray .int, 2) := by decide +kernel
theorem dX5_init_9 : decode cX5_init 9 = .ok (.putfield 7, 3) := by decide +kernel
theorem dX5_init_12 : decode cX5_init 12 = .ok (.aload_n 0, 1) := by decide +kernel
theorem dX5_init_13 : decode cX5_init 13 = .ok (.bipush 6, 2) := by decide +kernel
theorem dX5_init_15 : decode cX5_init 15 = .ok (.newarray .boolean, 2) := by decide +kernel
theorem dX5_init_17 : decode cX5_init 17 = .ok (.putfield 13, 3) := by decide +kernel
theorem dX5_init_20 : decode cX5_init 20 = .ok (.aload_n 0, 1) := by decide +kernel
theorem dX5_init_21 : decode cX5_init 21 = .ok (.bipush 9, 2) := by decide +kernel
theorem dX5_init_23 : decode cX5_init 23 = .ok (.newarray .int, 2) := by decide +kernel
theorem dX5_init_25 : decode cX5_init 25 = .ok (.putfield 17, 3) := by decide +kernel
theorem dX5_init_28 : decode cX5_init 28 = .ok (.aload_n 0, 1) := by decide +kernel
theorem dX5_init_29 : decode cX5_init 29 = .ok (.bipush 9, 2) := by decide +kernel
theorem dX5_init_31 : decode cX5_init 31 = .ok (.newarray .int, 2) := by decide +kernel
theorem dX5_init_33 : decode cX5_init 33 = .ok (.putfield 20, 3) := by decide +kernel
theorem dX5_init_36 : decode cX5_init 36 = .ok (.aload_n 0, 1) := by decide +kernel
theorem dX5_init_37 : decode cX5_init 37 = .ok (.bipush 9, 2) := by decide +kernel
theorem dX5_init_39 : decode cX5_init 39 = .ok (.newarray .int, 2) := by decide +kernel
theorem dX5_init_41 : decode cX5_init 41 = .ok (.putfield 23, 3) := by decide +kernel
theorem dX5_init_44 : decode cX5_init 44 = .ok (.aload_n 0, 1) := by decide +kernel
theorem dX5_init_45 : decode cX5_init 45 = .ok (.bipush 60, 2) := by decide +kernel
theorem dX5_init_47 : decode cX5_init 47 = .ok (.newarray .boolean, 2) := by decide +kernel
theorem dX5_init_49 : decode cX5_init 49 = .ok (.putfield 26, 3) := by decide +kernel
theorem dX5_init_52 : decode cX5_init 52 = .ok (.aload_n 0, 1) := by decide +kernel
theorem dX5_init_53 : decode cX5_init 53 = .ok (.bipush 6, 2) := by decide +kernel
theorem dX5_init_55 : decode cX5_init 55 = .ok (.newarray .int, 2) := by decide +kernel
theorem dX5_init_57 : decode cX5_init 57 = .ok (.putfield 29, 3) := by decide +kernel
theorem dX5_init_60 : decode cX5_init 60 = .ok (.aload_n 0, 1) := by decide +kernel
theorem dX5_init_61 : decode cX5_init 61 = .ok (.bipush 6, 2) := by decide +kernel
theorem dX5_init_63 : decode cX5_init 63 = .ok (.newarray .boolean, 2) := by decide +kernel
theorem dX5_init_65 : decode cX5_init 65 = .ok (.putfield 32, 3) := by decide +kernel
theorem dX5_init_68 : decode cX5_init 68 = .ok (.aload_n 0, 1) := by decide +kernel
theorem dX5_init_69 : decode cX5_init 69 = .ok (.bipush 9, 2) := by decide +kernel
theorem dX5_init_71 : decode cX5_init 71 = .ok (.newarray .int, 2) := by decide +kernel
theorem dX5_init_73 : decode cX5_init 73 = .ok (.putfield 35, 3) := by decide +kernel
theorem dX5_init_76 : decode cX5_init 76 = .ok (.aload_n 0, 1) := by decide +kernel
theorem dX5_init_77 : decode cX5_init 77 = .ok (.bipush 9, 2) := by decide +kernel
theorem dX5_init_79 : decode cX5_init 79 = .ok (.newarray .int, 2) := by decide +kernel
theorem dX5_init_81 : decode cX5_init 81 = .ok (.putfield 38, 3) := by decide +kernel
theorem dX5_init_84 : decode cX5_init 84 = .ok (.aload_n 0, 1) := by decide +kernel
theorem dX5_init_85 : decode cX5_init 85 = .ok (.bipush 9, 2) := by decide +kernel
theorem dX5_init_87 : decode cX5_init 87 = .ok (.newarray .int, 2) := by decide +kernel
theorem dX5_init_89 : decode cX5_init 89 = .ok (.putfield 41, 3) := by decide +kernel
theorem dX5_init_92 : decode cX5_init 92 = .ok (.aload_n 0, 1) := by decide +kernel
theorem dX5_init_93 : decode cX5_init 93 = .ok (.bipush 8, 2) := by decide +kernel
theorem dX5_init_95 : decode cX5_init 95 = .ok (.newarray .int, 2) := by decide +kernel
theorem dX5_init_97 : decode cX5_init 97 = .ok (.putfield 44, 3) := by decide +kernel
theorem dX5_init_100 : decode cX5_init 100 = .ok (.aload_n 0, 1) := by decide +kernel
theorem dX5_init_101 : decode cX5_init 101 = .ok (.bipush 8, 2) := by decide +kernel
theorem dX5_init_103 : decode cX5_init 103 = .ok (.newarray .int, 2) := by decide +kernel
theorem dX5_init_105 : decode cX5_init 105 = .ok (.putfield 47, 3) := by decide +kernel
theorem dX5_init_108 : decode cX5_init 108 = .ok (.aload_n 0, 1) := by decide +kernel
theorem dX5_init_109 : decode cX5_init 109 = .ok (.bipush 8, 2) := by decide +kernel
theorem dX5_init_111 : decode cX5_init 111 = .ok (.newarray .int, 2) := by decide +kernel
theorem dX5_init_113 : decode cX5_init 113 = .ok (.putfield 50, 3) := by decide +kernel
theorem dX5_init_116 : decode cX5_init 116 = .ok (.aload_n 0, 1) := by decide +kernel
theorem dX5_init_117 : decode cX5_init 117 = .ok (.sipush 360, 3) := by decide +kernel
theorem dX5_init_120 : decode cX5_init 120 = .ok (.newarray .int, 2) := by decide +kernel
theorem dX5_init_122 : decode cX5_init 122 = .ok (.putfield 53, 3) := by decide +kernel
theorem dX5_init_125 : decode cX5_init 125 = .ok (.aload_n 0, 1) := by decide +kernel
theorem dX5_init_126 : decode cX5_init 126 = .ok (.bipush 24, 2) := by decide +kernel
theorem dX5_init_128 : decode cX5_init 128 = .ok (.newarray .int, 2) := by decide +kernel
theorem dX5_init_130 : decode cX5_init 130 = .ok (.putfield 56, 3) := by decide +kernel
theorem dX5_init_133 : decode cX5_init 133 = .ok (.aload_n 0, 1) := by decide +kernel
theorem dX5_init_134 : decode cX5_init 134 = .ok (.bipush 6, 2) := by decide +kernel
theorem dX5_init_136 : decode cX5_init 136 = .ok (.newarray .int, 2) := by decide +kernel
theorem dX5_init_138 : decode cX5_init 138 = .ok (.putfield 59, 3) := by decide +kernel
theorem dX5_init_141 : decode cX5_init 141 = .ok (.aload_n 0, 1) := by decide +kernel
theorem dX5_init_142 : decode cX5_init 142 = .ok (.bipush 6, 2) := by decide +kernel
theorem dX5_init_144 : decode cX5_init 144 = .ok (.newarray .int, 2) := by decide +kernel
theorem dX5_init_146 : decode cX5_init 146 = .ok (.putfield 62, 3) := by decide +kernel
theorem dX5_init_149 : decode cX5_init 149 = .ok (.aload_n 0, 1) := by decide +kernel
theorem dX5_init_150 : decode cX5_init 150 = .ok (.bipush 6, 2) := by decide +kernel
theorem dX5_init_152 : decode cX5_init 152 = .ok (.newarray .int, 2) := by decide +kernel
theorem dX5_init_154 : decode cX5_init 154 = .ok (.putfield 65, 3) := by decide +kernel
theorem dX5_init_157 : decode cX5_init 157 = .ok (.aload_n 0, 1) := by decide +kernel
theorem dX5_init_158 : decode cX5_init 158 = .ok (.bipush 6, 2) := by decide +kernel
theorem dX5_init_160 : decode cX5_init 160 = .ok (.newarray .boolean, 2) := by decide +kernel
theorem dX5_init_162 : decode cX5_init 162 = .ok (.putfield 68, 3) := by decide +kernel
theorem dX5_init_165 : decode cX5_init 165 = .ok (.aload_n 0, 1) := by decide +kernel
theorem dX5_init_166 : decode cX5_init 166 = .ok (.iconst 4, 1) := by decide +kernel
theorem dX5_init_167 : decode cX5_init 167 = .ok (.newarray .int, 2) := by decide +kernel
theorem dX5_init_169 : decode cX5_init 169 = .ok (.putfield 71, 3) := by decide +kernel
theorem dX5_init_172 : decode cX5_init 172 = .ok (.aload_n 0, 1) := by decide +kernel
theorem dX5_init_173 : decode cX5_init 173 = .ok (.iconst 4, 1) := by decide +kernel
theorem dX5_init_174 : decode cX5_init 174 = .ok (.newarray .int, 2) := by decide +kernel
theorem dX5_init_176 : decode cX5_init 176 = .ok (.putfield 74, 3) := by decide +kernel
theorem dX5_init_179 : decode cX5_init 179 = .ok (.aload_n 0, 1) := by decide +kernel
theorem dX5_init_180 : decode cX5_init 180 = .ok (.sipush 240, 3) := by decide +kernel
theorem dX5_init_183 : decode cX5_init 183 = .ok (.newarray .int, 2) := by decide +kernel
theorem dX5_init_185 : decode cX5_init 185 = .ok (.putfield 77, 3) := by decide +kernel
theorem dX5_init_188 : decode cX5_init 188 = .ok (.aload_n 0, 1) := by decide +kernel
theorem dX5_init_189 : decode cX5_init 189 = .ok (.bipush 60, 2) := by decide +kernel
theorem dX5_init_191 : decode cX5_init 191 = .ok (.newarray .int, 2) := by decide +kernel
theorem dX5_init_193 : decode cX5_init 193 = .ok (.putfield 80, 3) := by decide +kernel
theorem dX5_init_196 : decode cX5_init 196 = .ok (.iconst 0, 1) := by decide +kernel
theorem dX5_init_197 : decode cX5_init 197 = .ok (.istore_n 1, 1) := by decide +kernel
theorem dX5_init_198 : decode cX5_init 198 = .ok (.iload_n 1, 1) := by decide +kernel
theorem dX5_init_199 : decode cX5_init 199 = .ok (.iconst 4, 1) := by decide +kernel
theorem dX5_init_200 : decode cX5_init 200 = .ok (.if_icmp .ge 16, 3) := by decide +kernel
theorem dX5_init_203 : decode cX5_init 203 = .ok (.aload_n 0, 1) := by decide +kernel
theorem dX5_init_204 : decode cX5_init 204 = .ok (.getfield 71, 3) := by decide +kernel
theorem dX5_init_207 : decode cX5_init 207 = .ok (.iload_n 1, 1) := by decide +kernel
theorem dX5_init_208 : decode cX5_init 208 = .ok (.iconst (-1), 1) := by decide +kernel
theorem dX5_init_209 : decode cX5_init 209 = .ok (.iastore, 1) := by decide +kernel
theorem dX5_init_210 : decode cX5_init 210 = .ok (.iinc 1 1, 3) := by decide +kernel
theorem dX5_init_213 : decode cX5_init 213 = .ok (.goto (-15), 3) := by decide +kernel
theorem dX5_init_216 : decode cX5_init 216 = .ok (.return_, 1) := by decide +kernel
theorem dX5_in_0 : decode cX5_in 0 = .ok (.lload_n 0, 1) := by decide +kernel
theorem dX5_in_1 : decode cX5_in 1 = .ok (.lload_n 2, 1) := by decide +kernel
theorem dX5_in_2 : decode cX5_in 2 = .ok (.lcmp, 1) := by decide +kernel
theorem dX5_in_3 : decode cX5_in 3 = .ok (.ifCond .lt 14, 3) := by decide +kernel
theorem dX5_in_6 : decode cX5_in 6 = .ok (.lload_n 0, 1) := by decide +kernel
theorem dX5_in_7 : decode cX5_in 7 = .ok (.lload 4, 2) := by decide +kernel
theorem dX5_in_9 : decode cX5_in 9 = .ok (.lcmp, 1) := by decide +kernel
theorem dX5_in_10 : decode cX5_in 10 = .ok (.ifCond .gt 7, 3) := by decide +kernel
theorem dX5_in_13 : decode cX5_in 13 = .ok (.iconst 1, 1) := by decide +kernel
theorem dX5_in_14 : decode cX5_in 14 = .ok (.goto 4, 3) := by decide +kernel
theorem dX5_in_17 : decode cX5_in 17 = .ok (.iconst 0, 1) := by decide +kernel
theorem dX5_in_18 : decode cX5_in 18 = .ok (.ireturn, 1) := by decide +kernel
theorem dX5_lost_0 : decode cX5_lost 0 = .ok (.ldc2_w 83, 3) := by decide +kernel
theorem dX5_lost_3 : decode cX5_lost 3 = .ok (.lreturn, 1) := by decide +kernel
theorem dX5_isIn_0 : decode cX5_isIn 0 = .ok (.iload_n 0, 1) := by decide +kernel
theorem dX5_isIn_1 : decode cX5_isIn 1 = .ok (.iload_n 1, 1) := by decide +kernel
theorem dX5_isIn_2 : decode cX5_isIn 2 = .ok (.ishr, 1) := by decide +kernel
theorem dX5_isIn_3 : decode cX5_isIn 3 = .ok (.iconst 1, 1) := by decide +kernel
theorem dX5_isIn_4 : decode cX5_isIn 4 = .ok (.iand, 1) := by decide +kernel
theorem dX5_isIn_5 : decode cX5_isIn 5 = .ok (.iconst 1, 1) := by decide +kernel
theorem dX5_isIn_6 : decode cX5_isIn 6 = .ok (.if_icmp .ne 7, 3) := by decide +kernel
theorem dX5_isIn_9 : decode cX5_isIn 9 = .ok (.iconst 1, 1) := by decide +kernel
theorem dX5_isIn_10 : decode cX5_isIn 10 = .ok (.goto 4, 3) := by decide +kernel
theorem dX5_isIn_13 : decode cX5_isIn 13 = .ok (.iconst 0, 1) := by decide +kernel
theorem dX5_isIn_14 : decode cX5_isIn 14 = .ok (.ireturn, 1) := by decide +kernel
theorem dX5_bits_0 : decode cX5_bits 0 = .ok (.iconst 0, 1) := by decide +kernel
theorem dX5_bits_1 : decode cX5_bits 1 = .ok (.istore_n 1, 1) := by decide +kernel
theorem dX5_bits_2 : decode cX5_bits 2 = .ok (.iload_n 0, 1) := by decide +kernel
theorem dX5_bits_3 : decode cX5_bits 3 = .ok (.istore_n 2, 1) := by decide +kernel
theorem dX5_bits_4 : decode cX5_bits 4 = .ok (.iload_n 2, 1) := by decide +kernel
theorem dX5_bits_5 : decode cX5_bits 5 = .ok (.ifCond .le 16, 3) := by decide +kernel
theorem dX5_bits_8 : decode cX5_bits 8 = .ok (.iload_n 1, 1) := by decide +kernel
theorem dX5_bits_9 : decode cX5_bits 9 = .ok (.iload_n 2, 1) := by decide +kernel
theorem dX5_bits_10 : decode cX5_bits 10 = .ok (.iconst 1, 1) := by decide +kernel
theorem dX5_bits_11 : decode cX5_bits 11 = .ok (.iand, 1) := by decide +kernel
theorem dX5_bits_12 : decode cX5_bits 12 = .ok (.iadd, 1) := by decide +kernel
theorem dX5_bits_13 : decode cX5_bits 13 = .ok (.istore_n 1, 1) := by decide +kernel
theorem dX5_bits_14 : decode cX5_bits 14 = .ok (.iload_n 2, 1) := by decide +kernel
theorem dX5_bits_15 : decode cX5_bits 15 = .ok (.iconst 1, 1) := by decide +kernel
theorem dX5_bits_16 : decode cX5_bits 16 = .ok (.ishr, 1) := by decide +kernel
theorem dX5_bits_17 : decode cX5_bits 17 = .ok (.istore_n 2, 1) := by decide +kernel
theorem dX5_bits_18 : decode cX5_bits 18 = .ok (.goto (-14), 3) := by decide +kernel
theorem dX5_bits_21 : decode cX5_bits 21 = .ok (.iload_n 1, 1) := by decide +kernel
theorem dX5_bits_22 : decode cX5_bits 22 = .ok (.ireturn, 1) := by decide +kernel
theorem dX5_refused_0 : decode cX5_refused 0 = .ok (.aload_n 0, 1) := by decide +kernel
theorem dX5_refused_1 : decode cX5_refused 1 = .ok (.iconst 0, 1) := by decide +kernel
theorem dX5_refused_2 : decode cX5_refused 2 = .ok (.putfield 85, 3) := by decide +kernel
theorem dX5_refused_5 : decode cX5_refused 5 = .ok (.iload_n 1, 1) := by decide +kernel
theorem dX5_refused_6 : decode cX5_refused 6 = .ok (.ireturn, 1) := by decide +kernel
theorem dX5_failed_0 : decode cX5_failed 0 = .ok (.aload_n 0, 1) := by decide +kernel
theorem dX5_failed_1 : decode cX5_failed 1 = .ok (.iload_n 1, 1) := by decide +kernel
theorem dX5_failed_2 : decode cX5_failed 2 = .ok (.putfield 85, 3) := by decide +kernel
theorem dX5_failed_5 : decode cX5_failed 5 = .ok (.bipush (-10), 2) := by decide +kernel
theorem dX5_failed_7 : decode cX5_failed 7 = .ok (.iload_n 1, 1) := by decide +kernel
theorem dX5_failed_8 : decode cX5_failed 8 = .ok (.isub, 1) := by decide +kernel
theorem dX5_failed_9 : decode cX5_failed 9 = .ok (.ireturn, 1) := by decide +kernel
set_option maxRecDepth 20000 in
theorem ggX5_failedLong_X5_lost : GoodIn wsX5_failedLong wsX5_lost := goodIn_r _ [5, 6] (by decide +kernel) (by decide +kernel)
set_option maxRecDepth 20000 in
theorem gX5_failedLong_X5_lost : GoodIn wsX5_failedLong (va_wsS RX5 89 yX5_lost wsX5_lost) := goodIn_app (goodIn_of _ (by decide +kernel)) ggX5_failedLong_X5_lost
theorem dX5_failedLong_0 : decode cX5_failedLong 0 = .ok (.aload_n 0, 1) := by decide +kernel
theorem dX5_failedLong_1 : decode cX5_failedLong 1 = .ok (.iload_n 1, 1) := by decide +kernel
theorem dX5_failedLong_2 : decode cX5_failedLong 2 = .ok (.putfield 85, 3) := by decide +kernel
theorem dX5_failedLong_5 : decode cX5_failedLong 5 = .ok (.invokestatic 89, 3) := by decide +kernel
theorem dX5_failedLong_8 : decode cX5_failedLong 8 = .ok (.lreturn, 1) := by decide +kernel
set_option maxRecDepth 20000 in
theorem ggX5_noPerson_X5_in : GoodIn wsX5_noPerson wsX5_in := goodIn_r _ [5] (by decide +kernel) (by decide +kernel)
set_option maxRecDepth 20000 in
theorem gX5_noPerson_X5_in : GoodIn wsX5_noPerson (va_wsS RX5 96 yX5_in wsX5_in) := goodIn_app (goodIn_of _ (by decide +kernel)) ggX5_noPerson_X5_in
theorem dX5_noPerson_0 : decode cX5_noPerson 0 = .ok (.iload_n 1, 1) := by decide +kernel
theorem dX5_noPerson_1 : decode cX5_noPerson 1 = .ok (.i2l, 1) := by decide +kernel
theorem dX5_noPerson_2 : decode cX5_noPerson 2 = .ok (.lconst 0, 1) := by decide +kernel
theorem dX5_noPerson_3 : decode cX5_noPerson 3 = .ok (.aload_n 0, 1) := by decide +kernel
theorem dX5_noPerson_4 : decode cX5_noPerson 4 = .ok (.getfield 93, 3) := by decide +kernel
theorem dX5_noPerson_7 : decode cX5_noPerson 7 = .ok (.i2l, 1) := by decide +kernel
theorem dX5_noPerson_8 : decode cX5_noPerson 8 = .ok (.lconst 1, 1) := by decide +kernel
theorem dX5_noPerson_9 : decode cX5_noPerson 9 = .ok (.lsub, 1) := by decide +kernel
theorem dX5_noPerson_10 : decode cX5_noPerson 10 = .ok (.invokestatic 96, 3) := by decide +kernel
theorem dX5_noPerson_13 : decode cX5_noPerson 13 = .ok (.ifCond .ne 7, 3) := by decide +kernel
theorem dX5_noPerson_16 : decode cX5_noPerson 16 = .ok (.iconst 1, 1) := by decide +kernel
theorem dX5_noPerson_17 : decode cX5_noPerson 17 = .ok (.goto 4, 3) := by decide +kernel
theorem dX5_noPerson_20 : decode cX5_noPerson 20 = .ok (.iconst 0, 1) := by decide +kernel
theorem dX5_noPerson_21 : decode cX5_noPerson 21 = .ok (.ireturn, 1) := by decide +kernel
set_option maxRecDepth 20000 in
theorem ggX5_isThing_X5_in : GoodIn wsX5_isThing wsX5_in := goodIn_r _ [5] (by decide +kernel) (by decide +kernel)
set_option maxRecDepth 20000 in
theorem gX5_isThing_X5_in : GoodIn wsX5_isThing (va_wsS RX5 96 yX5_in wsX5_in) := goodIn_app (goodIn_of _ (by decide +kernel)) ggX5_isThing_X5_in
theorem dX5_isThing_0 : decode cX5_isThing 0 = .ok (.iload_n 0, 1) := by decide +kernel
theorem dX5_isThing_1 : decode cX5_isThing 1 = .ok (.i2l, 1) := by decide +kernel
theorem dX5_isThing_2 : decode cX5_isThing 2 = .ok (.lconst 0, 1) := by decide +kernel
theorem dX5_isThing_3 : decode cX5_isThing 3 = .ok (.ldc2_w 100, 3) := by decide +kernel
theorem dX5_isThing_6 : decode cX5_isThing 6 = .ok (.invokestatic 96, 3) := by decide +kernel
theorem dX5_isThing_9 : decode cX5_isThing 9 = .ok (.ireturn, 1) := by decide +kernel
set_option maxRecDepth 20000 in
theorem ggX5_isDay_X5_in : GoodIn wsX5_isDay wsX5_in := goodIn_r _ [5] (by decide +kernel) (by decide +kernel)
set_option maxRecDepth 20000 in
theorem gX5_isDay_X5_in : GoodIn wsX5_isDay (va_wsS RX5 96 yX5_in wsX5_in) := goodIn_app (goodIn_of _ (by decide +kernel)) ggX5_isDay_X5_in
theorem dX5_isDay_0 : decode cX5_isDay 0 = .ok (.iload_n 0, 1) := by decide +kernel
theorem dX5_isDay_1 : decode cX5_isDay 1 = .ok (.i2l, 1) := by decide +kernel
theorem dX5_isDay_2 : decode cX5_isDay 2 = .ok (.lconst 0, 1) := by decide +kernel
theorem dX5_isDay_3 : decode cX5_isDay 3 = .ok (.ldc2_w 102, 3) := by decide +kernel
theorem dX5_isDay_6 : decode cX5_isDay 6 = .ok (.invokestatic 96, 3) := by decide +kernel
theorem dX5_isDay_9 : decode cX5_isDay 9 = .ok (.ireturn, 1) := by decide +kernel
theorem dX5_all_0 : decode cX5_all 0 = .ok (.iconst 1, 1) := by decide +kernel
theorem dX5_all_1 : decode cX5_all 1 = .ok (.aload_n 0, 1) := by decide +kernel
theorem dX5_all_2 : decode cX5_all 2 = .ok (.getfield 93, 3) := by decide +kernel
theorem dX5_all_5 : decode cX5_all 5 = .ok (.ishl, 1) := by decide +kernel
theorem dX5_all_6 : decode cX5_all 6 = .ok (.iconst 1, 1) := by decide +kernel
theorem dX5_all_7 : decode cX5_all 7 = .ok (.isub, 1) := by decide +kernel
theorem dX5_all_8 : decode cX5_all 8 = .ok (.ireturn, 1) := by decide +kernel
theorem dX5_codeAt_0 : decode cX5_codeAt 0 = .ok (.aload_n 0, 1) := by decide +kernel
theorem dX5_codeAt_1 : decode cX5_codeAt 1 = .ok (.getfield 104, 3) := by decide +kernel
theorem dX5_codeAt_4 : decode cX5_codeAt 4 = .ok (.iload_n 2, 1) := by decide +kernel
theorem dX5_codeAt_5 : decode cX5_codeAt 5 = .ok (.if_icmp .ge 17, 3) := by decide +kernel
