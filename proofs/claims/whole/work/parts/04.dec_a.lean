theorem dX0_init_0 : decode cX0_init 0 = .ok (.aload_n 0, 1) := by decide +kernel
theorem dX0_init_1 : decode cX0_init 1 = .ok (.invokespecial 3, 3) := by decide +kernel
theorem dX0_init_4 : decode cX0_init 4 = .ok (.return_, 1) := by decide +kernel
set_option maxRecDepth 20000 in
theorem ggX0_play_X0_playOne : GoodIn wsX0_play wsX0_playOne := goodIn_r _ [10, 2, 11, 12, 13, 14, 15, 16, 17, 18, 19, 20, 9, 21, 22, 3, 23, 24, 25, 26, 27, 28, 29, 30, 31, 32, 33, 34, 35, 36, 37, 38, 39, 40, 41, 42, 43, 44, 45, 46, 47, 59, 60, 61, 62, 63, 64] (by decide +kernel) (by decide +kernel)
set_option maxRecDepth 20000 in
theorem gX0_play_X0_playOne : GoodIn wsX0_play (wsV RX0 27 RX0 yX0_playOne wsX0_playOne) := goodIn_app (goodIn_of _ (by decide +kernel)) ggX0_play_X0_playOne
theorem dX0_play_0 : decode cX0_play 0 = .ok (.aload_n 0, 1) := by decide +kernel
theorem dX0_play_1 : decode cX0_play 1 = .ok (.iconst 0, 1) := by decide +kernel
theorem dX0_play_2 : decode cX0_play 2 = .ok (.putfield 9, 3) := by decide +kernel
theorem dX0_play_5 : decode cX0_play 5 = .ok (.aload_n 0, 1) := by decide +kernel
theorem dX0_play_6 : decode cX0_play 6 = .ok (.iconst 0, 1) := by decide +kernel
theorem dX0_play_7 : decode cX0_play 7 = .ok (.putfield 15, 3) := by decide +kernel
theorem dX0_play_10 : decode cX0_play 10 = .ok (.aload_n 0, 1) := by decide +kernel
theorem dX0_play_11 : decode cX0_play 11 = .ok (.iload_n 2, 1) := by decide +kernel
theorem dX0_play_12 : decode cX0_play 12 = .ok (.i2l, 1) := by decide +kernel
theorem dX0_play_13 : decode cX0_play 13 = .ok (.putfield 18, 3) := by decide +kernel
theorem dX0_play_16 : decode cX0_play 16 = .ok (.iconst 0, 1) := by decide +kernel
theorem dX0_play_17 : decode cX0_play 17 = .ok (.istore 5, 2) := by decide +kernel
theorem dX0_play_19 : decode cX0_play 19 = .ok (.iload 5, 2) := by decide +kernel
theorem dX0_play_21 : decode cX0_play 21 = .ok (.iload_n 1, 1) := by decide +kernel
theorem dX0_play_22 : decode cX0_play 22 = .ok (.if_icmp .ge 49, 3) := by decide +kernel
theorem dX0_play_25 : decode cX0_play 25 = .ok (.aload_n 0, 1) := by decide +kernel
theorem dX0_play_26 : decode cX0_play 26 = .ok (.aload_n 3, 1) := by decide +kernel
theorem dX0_play_27 : decode cX0_play 27 = .ok (.aload 4, 2) := by decide +kernel
theorem dX0_play_29 : decode cX0_play 29 = .ok (.getfield 22, 3) := by decide +kernel
theorem dX0_play_32 : decode cX0_play 32 = .ok (.invokevirtual 27, 3) := by decide +kernel
theorem dX0_play_35 : decode cX0_play 35 = .ok (.istore 6, 2) := by decide +kernel
theorem dX0_play_37 : decode cX0_play 37 = .ok (.iconst 1, 1) := by decide +kernel
theorem dX0_play_38 : decode cX0_play 38 = .ok (.iload 6, 2) := by decide +kernel
theorem dX0_play_40 : decode cX0_play 40 = .ok (.iconst 1, 1) := by decide +kernel
theorem dX0_play_41 : decode cX0_play 41 = .ok (.iand, 1) := by decide +kernel
theorem dX0_play_42 : decode cX0_play 42 = .ok (.isub, 1) := by decide +kernel
theorem dX0_play_43 : decode cX0_play 43 = .ok (.istore 7, 2) := by decide +kernel
theorem dX0_play_45 : decode cX0_play 45 = .ok (.iload 7, 2) := by decide +kernel
theorem dX0_play_47 : decode cX0_play 47 = .ok (.aload 4, 2) := by decide +kernel
theorem dX0_play_49 : decode cX0_play 49 = .ok (.getfield 31, 3) := by decide +kernel
theorem dX0_play_52 : decode cX0_play 52 = .ok (.if_icmp .ne 13, 3) := by decide +kernel
theorem dX0_play_55 : decode cX0_play 55 = .ok (.aload_n 0, 1) := by decide +kernel
theorem dX0_play_56 : decode cX0_play 56 = .ok (.dup, 1) := by decide +kernel
theorem dX0_play_57 : decode cX0_play 57 = .ok (.getfield 9, 3) := by decide +kernel
theorem dX0_play_60 : decode cX0_play 60 = .ok (.iconst 1, 1) := by decide +kernel
theorem dX0_play_61 : decode cX0_play 61 = .ok (.iadd, 1) := by decide +kernel
theorem dX0_play_62 : decode cX0_play 62 = .ok (.putfield 9, 3) := by decide +kernel
theorem dX0_play_65 : decode cX0_play 65 = .ok (.iinc 5 1, 3) := by decide +kernel
theorem dX0_play_68 : decode cX0_play 68 = .ok (.goto (-49), 3) := by decide +kernel
theorem dX0_play_71 : decode cX0_play 71 = .ok (.return_, 1) := by decide +kernel
set_option maxRecDepth 20000 in
theorem ggX0_playOne_X6_howMany : GoodIn wsX0_playOne wsX6_howMany := goodIn_r _ [6, 7, 8, 41, 42, 43, 44, 45, 46] (by decide +kernel) (by decide +kernel)
set_option maxRecDepth 20000 in
theorem gX0_playOne_X6_howMany : GoodIn wsX0_playOne (wsV RX0 34 RX6 yX6_howMany wsX6_howMany) := goodIn_app (goodIn_of _ (by decide +kernel)) ggX0_playOne_X6_howMany
set_option maxRecDepth 20000 in
theorem ggX0_playOne_X0_draw : GoodIn wsX0_playOne wsX0_draw := goodIn_r _ [13, 14, 15, 16, 17, 18, 38, 39, 40] (by decide +kernel) (by decide +kernel)
set_option maxRecDepth 20000 in
theorem gX0_playOne_X0_draw : GoodIn wsX0_playOne (wsV RX0 40 RX0 yX0_draw wsX0_draw) := goodIn_app (goodIn_of _ (by decide +kernel)) ggX0_playOne_X0_draw
set_option maxRecDepth 20000 in
theorem ggX0_playOne_X6_fallenByNumber : GoodIn wsX0_playOne wsX6_fallenByNumber := goodIn_r _ [22, 7, 8, 23, 24, 25, 5, 26, 27, 28, 29, 30, 41, 42, 43, 44, 45, 46] (by decide +kernel) (by decide +kernel)
set_option maxRecDepth 20000 in
theorem gX0_playOne_X6_fallenByNumber : GoodIn wsX0_playOne (wsV RX0 43 RX6 yX6_fallenByNumber wsX6_fallenByNumber) := goodIn_app (goodIn_of _ (by decide +kernel)) ggX0_playOne_X6_fallenByNumber
set_option maxRecDepth 20000 in
theorem ggX0_playOne_J6_bitCount_0f7a4 : GoodIn wsX0_playOne wsJ6_bitCount_0f7a4 := goodIn_r _ [34, 35, 36, 37] (by decide +kernel) (by decide +kernel)
set_option maxRecDepth 20000 in
theorem gX0_playOne_J6_bitCount_0f7a4 : GoodIn wsX0_playOne (va_wsS RX0 47 yJ6_bitCount_0f7a4 wsJ6_bitCount_0f7a4) := goodIn_app (goodIn_of _ (by decide +kernel)) ggX0_playOne_J6_bitCount_0f7a4
theorem dX0_playOne_0 : decode cX0_playOne 0 = .ok (.iload_n 2, 1) := by decide +kernel
theorem dX0_playOne_1 : decode cX0_playOne 1 = .ok (.istore_n 3, 1) := by decide +kernel
theorem dX0_playOne_2 : decode cX0_playOne 2 = .ok (.iconst 0, 1) := by decide +kernel
theorem dX0_playOne_3 : decode cX0_playOne 3 = .ok (.istore 4, 2) := by decide +kernel
theorem dX0_playOne_5 : decode cX0_playOne 5 = .ok (.aload_n 1, 1) := by decide +kernel
theorem dX0_playOne_6 : decode cX0_playOne 6 = .ok (.iload_n 3, 1) := by decide +kernel
theorem dX0_playOne_7 : decode cX0_playOne 7 = .ok (.invokevirtual 34, 3) := by decide +kernel
theorem dX0_playOne_10 : decode cX0_playOne 10 = .ok (.istore 5, 2) := by decide +kernel
theorem dX0_playOne_12 : decode cX0_playOne 12 = .ok (.iload 5, 2) := by decide +kernel
theorem dX0_playOne_14 : decode cX0_playOne 14 = .ok (.ifCond .le 57, 3) := by decide +kernel
theorem dX0_playOne_17 : decode cX0_playOne 17 = .ok (.iload 4, 2) := by decide +kernel
theorem dX0_playOne_19 : decode cX0_playOne 19 = .ok (.bipush 9, 2) := by decide +kernel
theorem dX0_playOne_21 : decode cX0_playOne 21 = .ok (.if_icmp .ge 50, 3) := by decide +kernel
theorem dX0_playOne_24 : decode cX0_playOne 24 = .ok (.aload_n 1, 1) := by decide +kernel
theorem dX0_playOne_25 : decode cX0_playOne 25 = .ok (.aload_n 0, 1) := by decide +kernel
theorem dX0_playOne_26 : decode cX0_playOne 26 = .ok (.iload 5, 2) := by decide +kernel
theorem dX0_playOne_28 : decode cX0_playOne 28 = .ok (.invokevirtual 40, 3) := by decide +kernel
theorem dX0_playOne_31 : decode cX0_playOne 31 = .ok (.iload_n 3, 1) := by decide +kernel
theorem dX0_playOne_32 : decode cX0_playOne 32 = .ok (.invokevirtual 43, 3) := by decide +kernel
theorem dX0_playOne_35 : decode cX0_playOne 35 = .ok (.istore 6, 2) := by decide +kernel
theorem dX0_playOne_37 : decode cX0_playOne 37 = .ok (.iload_n 3, 1) := by decide +kernel
theorem dX0_playOne_38 : decode cX0_playOne 38 = .ok (.iload 6, 2) := by decide +kernel
theorem dX0_playOne_40 : decode cX0_playOne 40 = .ok (.iconst (-1), 1) := by decide +kernel
theorem dX0_playOne_41 : decode cX0_playOne 41 = .ok (.ixor, 1) := by decide +kernel
theorem dX0_playOne_42 : decode cX0_playOne 42 = .ok (.iand, 1) := by decide +kernel
theorem dX0_playOne_43 : decode cX0_playOne 43 = .ok (.istore_n 3, 1) := by decide +kernel
theorem dX0_playOne_44 : decode cX0_playOne 44 = .ok (.aload_n 0, 1) := by decide +kernel
theorem dX0_playOne_45 : decode cX0_playOne 45 = .ok (.dup, 1) := by decide +kernel
theorem dX0_playOne_46 : decode cX0_playOne 46 = .ok (.getfield 15, 3) := by decide +kernel
theorem dX0_playOne_49 : decode cX0_playOne 49 = .ok (.iload 6, 2) := by decide +kernel
theorem dX0_playOne_51 : decode cX0_playOne 51 = .ok (.invokestatic 47, 3) := by decide +kernel
theorem dX0_playOne_54 : decode cX0_playOne 54 = .ok (.iadd, 1) := by decide +kernel
theorem dX0_playOne_55 : decode cX0_playOne 55 = .ok (.putfield 15, 3) := by decide +kernel
theorem dX0_playOne_58 : decode cX0_playOne 58 = .ok (.iinc 4 1, 3) := by decide +kernel
theorem dX0_playOne_61 : decode cX0_playOne 61 = .ok (.aload_n 1, 1) := by decide +kernel
theorem dX0_playOne_62 : decode cX0_playOne 62 = .ok (.iload_n 3, 1) := by decide +kernel
theorem dX0_playOne_63 : decode cX0_playOne 63 = .ok (.invokevirtual 34, 3) := by decide +kernel
theorem dX0_playOne_66 : decode cX0_playOne 66 = .ok (.istore 5, 2) := by decide +kernel
theorem dX0_playOne_68 : decode cX0_playOne 68 = .ok (.goto (-56), 3) := by decide +kernel
theorem dX0_playOne_71 : decode cX0_playOne 71 = .ok (.iload 4, 2) := by decide +kernel
theorem dX0_playOne_73 : decode cX0_playOne 73 = .ok (.ireturn, 1) := by decide +kernel
theorem dX0_draw_0 : decode cX0_draw 0 = .ok (.aload_n 0, 1) := by decide +kernel
theorem dX0_draw_1 : decode cX0_draw 1 = .ok (.ldc2_w 52, 3) := by decide +kernel
theorem dX0_draw_4 : decode cX0_draw 4 = .ok (.aload_n 0, 1) := by decide +kernel
theorem dX0_draw_5 : decode cX0_draw 5 = .ok (.getfield 18, 3) := by decide +kernel
theorem dX0_draw_8 : decode cX0_draw 8 = .ok (.lmul, 1) := by decide +kernel
theorem dX0_draw_9 : decode cX0_draw 9 = .ok (.ldc2_w 54, 3) := by decide +kernel
theorem dX0_draw_12 : decode cX0_draw 12 = .ok (.ladd, 1) := by decide +kernel
theorem dX0_draw_13 : decode cX0_draw 13 = .ok (.ldc2_w 56, 3) := by decide +kernel
theorem dX0_draw_16 : decode cX0_draw 16 = .ok (.lrem, 1) := by decide +kernel
theorem dX0_draw_17 : decode cX0_draw 17 = .ok (.putfield 18, 3) := by decide +kernel
theorem dX0_draw_20 : decode cX0_draw 20 = .ok (.iload_n 1, 1) := by decide +kernel
theorem dX0_draw_21 : decode cX0_draw 21 = .ok (.ifCond .le 18, 3) := by decide +kernel
theorem dX0_draw_24 : decode cX0_draw 24 = .ok (.aload_n 0, 1) := by decide +kernel
theorem dX0_draw_25 : decode cX0_draw 25 = .ok (.getfield 18, 3) := by decide +kernel
theorem dX0_draw_28 : decode cX0_draw 28 = .ok (.ldc2_w 58, 3) := by decide +kernel
theorem dX0_draw_31 : decode cX0_draw 31 = .ok (.ldiv, 1) := by decide +kernel
theorem dX0_draw_32 : decode cX0_draw 32 = .ok (.iload_n 1, 1) := by decide +kernel
theorem dX0_draw_33 : decode cX0_draw 33 = .ok (.i2l, 1) := by decide +kernel
theorem dX0_draw_34 : decode cX0_draw 34 = .ok (.lrem, 1) := by decide +kernel
theorem dX0_draw_35 : decode cX0_draw 35 = .ok (.l2i, 1) := by decide +kernel
theorem dX0_draw_36 : decode cX0_draw 36 = .ok (.goto 4, 3) := by decide +kernel
theorem dX0_draw_39 : decode cX0_draw 39 = .ok (.iconst 0, 1) := by decide +kernel
theorem dX0_draw_40 : decode cX0_draw 40 = .ok (.ireturn, 1) := by decide +kernel
set_option maxRecDepth 20000 in
theorem ggX1_init_X5_init : GoodIn wsX1_init wsX5_init := goodIn_r _ [14, 15, 2, 3, 4, 16, 17, 18, 30, 31, 32, 33] (by decide +kernel) (by decide +kernel)
set_option maxRecDepth 20000 in
theorem gX1_init_X5_init_n26 : GoodIn wsX1_init (wsX5_init) := ggX1_init_X5_init
theorem dX1_init_0 : decode cX1_init 0 = .ok (.aload_n 0, 1) := by decide +kernel
theorem dX1_init_1 : decode cX1_init 1 = .ok (.invokespecial 3, 3) := by decide +kernel
theorem dX1_init_4 : decode cX1_init 4 = .ok (.aload_n 0, 1) := by decide +kernel
theorem dX1_init_5 : decode cX1_init 5 = .ok (.bipush 9, 2) := by decide +kernel
theorem dX1_init_7 : decode cX1_init 7 = .ok (.newarray .int, 2) := by decide +kernel
theorem dX1_init_9 : decode cX1_init 9 = .ok (.putfield 9, 3) := by decide +kernel
theorem dX1_init_12 : decode cX1_init 12 = .ok (.aload_n 0, 1) := by decide +kernel
theorem dX1_init_13 : decode cX1_init 13 = .ok (.bipush 9, 2) := by decide +kernel
theorem dX1_init_15 : decode cX1_init 15 = .ok (.newarray .int, 2) := by decide +kernel
theorem dX1_init_17 : decode cX1_init 17 = .ok (.putfield 15, 3) := by decide +kernel
theorem dX1_init_20 : decode cX1_init 20 = .ok (.aload_n 0, 1) := by decide +kernel
theorem dX1_init_21 : decode cX1_init 21 = .ok (.iconst 3, 1) := by decide +kernel
theorem dX1_init_22 : decode cX1_init 22 = .ok (.newarray .int, 2) := by decide +kernel
theorem dX1_init_24 : decode cX1_init 24 = .ok (.putfield 18, 3) := by decide +kernel
theorem dX1_init_27 : decode cX1_init 27 = .ok (.aload_n 0, 1) := by decide +kernel
theorem dX1_init_28 : decode cX1_init 28 = .ok (.iconst 3, 1) := by decide +kernel
theorem dX1_init_29 : decode cX1_init 29 = .ok (.newarray .int, 2) := by decide +kernel
theorem dX1_init_31 : decode cX1_init 31 = .ok (.putfield 21, 3) := by decide +kernel
theorem dX1_init_34 : decode cX1_init 34 = .ok (.aload_n 0, 1) := by decide +kernel
theorem dX1_init_35 : decode cX1_init 35 = .ok (.new 24, 3) := by decide +kernel
theorem dX1_init_38 : decode cX1_init 38 = .ok (.dup, 1) := by decide +kernel
theorem dX1_init_39 : decode cX1_init 39 = .ok (.invokespecial 26, 3) := by decide +kernel
theorem dX1_init_42 : decode cX1_init 42 = .ok (.putfield 27, 3) := by decide +kernel
theorem dX1_init_45 : decode cX1_init 45 = .ok (.return_, 1) := by decide +kernel
set_option maxRecDepth 20000 in
theorem ggX1_copyFrom_X5_copyFrom : GoodIn wsX1_copyFrom wsX5_copyFrom := goodIn_r _ [20, 21, 22, 23, 5, 6, 7, 24, 25, 37, 38, 39, 40] (by decide +kernel) (by decide +kernel)
set_option maxRecDepth 20000 in
theorem gX1_copyFrom_X5_copyFrom : GoodIn wsX1_copyFrom (wsV RX1 56 RX5 yX5_copyFrom wsX5_copyFrom) := goodIn_app (goodIn_of _ (by decide +kernel)) ggX1_copyFrom_X5_copyFrom
theorem dX1_copyFrom_0 : decode cX1_copyFrom 0 = .ok (.aload_n 0, 1) := by decide +kernel
theorem dX1_copyFrom_1 : decode cX1_copyFrom 1 = .ok (.aload_n 1, 1) := by decide +kernel
theorem dX1_copyFrom_2 : decode cX1_copyFrom 2 = .ok (.getfield 31, 3) := by decide +kernel
theorem dX1_copyFrom_5 : decode cX1_copyFrom 5 = .ok (.putfield 31, 3) := by decide +kernel
theorem dX1_copyFrom_8 : decode cX1_copyFrom 8 = .ok (.aload_n 0, 1) := by decide +kernel
theorem dX1_copyFrom_9 : decode cX1_copyFrom 9 = .ok (.aload_n 1, 1) := by decide +kernel
theorem dX1_copyFrom_10 : decode cX1_copyFrom 10 = .ok (.getfield 35, 3) := by decide +kernel
theorem dX1_copyFrom_13 : decode cX1_copyFrom 13 = .ok (.putfield 35, 3) := by decide +kernel
theorem dX1_copyFrom_16 : decode cX1_copyFrom 16 = .ok (.aload_n 1, 1) := by decide +kernel
theorem dX1_copyFrom_17 : decode cX1_copyFrom 17 = .ok (.getfield 9, 3) := by decide +kernel
theorem dX1_copyFrom_20 : decode cX1_copyFrom 20 = .ok (.iconst 0, 1) := by decide +kernel
theorem dX1_copyFrom_21 : decode cX1_copyFrom 21 = .ok (.aload_n 0, 1) := by decide +kernel
theorem dX1_copyFrom_22 : decode cX1_copyFrom 22 = .ok (.getfield 9, 3) := by decide +kernel
theorem dX1_copyFrom_25 : decode cX1_copyFrom 25 = .ok (.iconst 0, 1) := by decide +kernel
theorem dX1_copyFrom_26 : decode cX1_copyFrom 26 = .ok (.bipush 9, 2) := by decide +kernel
theorem dX1_copyFrom_28 : decode cX1_copyFrom 28 = .ok (.invokestatic 38, 3) := by decide +kernel
theorem dX1_copyFrom_31 : decode cX1_copyFrom 31 = .ok (.aload_n 1, 1) := by decide +kernel
theorem dX1_copyFrom_32 : decode cX1_copyFrom 32 = .ok (.getfield 15, 3) := by decide +kernel
theorem dX1_copyFrom_35 : decode cX1_copyFrom 35 = .ok (.iconst 0, 1) := by decide +kernel
theorem dX1_copyFrom_36 : decode cX1_copyFrom 36 = .ok (.aload_n 0, 1) := by decide +kernel
theorem dX1_copyFrom_37 : decode cX1_copyFrom 37 = .ok (.getfield 15, 3) := by decide +kernel
theorem dX1_copyFrom_40 : decode cX1_copyFrom 40 = .ok (.iconst 0, 1) := by decide +kernel
theorem dX1_copyFrom_41 : decode cX1_copyFrom 41 = .ok (.bipush 9, 2) := by decide +kernel
theorem dX1_copyFrom_43 : decode cX1_copyFrom 43 = .ok (.invokestatic 38, 3) := by decide +kernel
theorem dX1_copyFrom_46 : decode cX1_copyFrom 46 = .ok (.aload_n 1, 1) := by decide +kernel
theorem dX1_copyFrom_47 : decode cX1_copyFrom 47 = .ok (.getfield 18, 3) := by decide +kernel
theorem dX1_copyFrom_50 : decode cX1_copyFrom 50 = .ok (.iconst 0, 1) := by decide +kernel
theorem dX1_copyFrom_51 : decode cX1_copyFrom 51 = .ok (.aload_n 0, 1) := by decide +kernel
theorem dX1_copyFrom_52 : decode cX1_copyFrom 52 = .ok (.getfield 18, 3) := by decide +kernel
theorem dX1_copyFrom_55 : decode cX1_copyFrom 55 = .ok (.iconst 0, 1) := by decide +kernel
theorem dX1_copyFrom_56 : decode cX1_copyFrom 56 = .ok (.iconst 3, 1) := by decide +kernel
theorem dX1_copyFrom_57 : decode cX1_copyFrom 57 = .ok (.invokestatic 38, 3) := by decide +kernel
theorem dX1_copyFrom_60 : decode cX1_copyFrom 60 = .ok (.aload_n 1, 1) := by decide +kernel
theorem dX1_copyFrom_61 : decode cX1_copyFrom 61 = .ok (.getfield 21, 3) := by decide +kernel
theorem dX1_copyFrom_64 : decode cX1_copyFrom 64 = .ok (.iconst 0, 1) := by decide +kernel
theorem dX1_copyFrom_65 : decode cX1_copyFrom 65 = .ok (.aload_n 0, 1) := by decide +kernel
theorem dX1_copyFrom_66 : decode cX1_copyFrom 66 = .ok (.getfield 21, 3) := by decide +kernel
theorem dX1_copyFrom_69 : decode cX1_copyFrom 69 = .ok (.iconst 0, 1) := by decide +kernel
theorem dX1_copyFrom_70 : decode cX1_copyFrom 70 = .ok (.iconst 3, 1) := by decide +kernel
theorem dX1_copyFrom_71 : decode cX1_copyFrom 71 = .ok (.invokestatic 38, 3) := by decide +kernel
theorem dX1_copyFrom_74 : decode cX1_copyFrom 74 = .ok (.aload_n 0, 1) := by decide +kernel
theorem dX1_copyFrom_75 : decode cX1_copyFrom 75 = .ok (.aload_n 1, 1) := by decide +kernel
theorem dX1_copyFrom_76 : decode cX1_copyFrom 76 = .ok (.getfield 44, 3) := by decide +kernel
theorem dX1_copyFrom_79 : decode cX1_copyFrom 79 = .ok (.putfield 44, 3) := by decide +kernel
theorem dX1_copyFrom_82 : decode cX1_copyFrom 82 = .ok (.aload_n 0, 1) := by decide +kernel
theorem dX1_copyFrom_83 : decode cX1_copyFrom 83 = .ok (.aload_n 1, 1) := by decide +kernel
theorem dX1_copyFrom_84 : decode cX1_copyFrom 84 = .ok (.getfield 47, 3) := by decide +kernel
theorem dX1_copyFrom_87 : decode cX1_copyFrom 87 = .ok (.putfield 47, 3) := by decide +kernel
theorem dX1_copyFrom_90 : decode cX1_copyFrom 90 = .ok (.aload_n 0, 1) := by decide +kernel
theorem dX1_copyFrom_91 : decode cX1_copyFrom 91 = .ok (.aload_n 1, 1) := by decide +kernel
theorem dX1_copyFrom_92 : decode cX1_copyFrom 92 = .ok (.getfield 50, 3) := by decide +kernel
theorem dX1_copyFrom_95 : decode cX1_copyFrom 95 = .ok (.putfield 50, 3) := by decide +kernel
theorem dX1_copyFrom_98 : decode cX1_copyFrom 98 = .ok (.aload_n 0, 1) := by decide +kernel
theorem dX1_copyFrom_99 : decode cX1_copyFrom 99 = .ok (.aload_n 1, 1) := by decide +kernel
theorem dX1_copyFrom_100 : decode cX1_copyFrom 100 = .ok (.getfield 53, 3) := by decide +kernel
theorem dX1_copyFrom_103 : decode cX1_copyFrom 103 = .ok (.putfield 53, 3) := by decide +kernel
theorem dX1_copyFrom_106 : decode cX1_copyFrom 106 = .ok (.aload_n 0, 1) := by decide +kernel
theorem dX1_copyFrom_107 : decode cX1_copyFrom 107 = .ok (.getfield 27, 3) := by decide +kernel
theorem dX1_copyFrom_110 : decode cX1_copyFrom 110 = .ok (.aload_n 1, 1) := by decide +kernel
theorem dX1_copyFrom_111 : decode cX1_copyFrom 111 = .ok (.getfield 27, 3) := by decide +kernel
theorem dX1_copyFrom_114 : decode cX1_copyFrom 114 = .ok (.invokevirtual 56, 3) := by decide +kernel
theorem dX1_copyFrom_117 : decode cX1_copyFrom 117 = .ok (.return_, 1) := by decide +kernel
theorem dX1_setAllUp_0 : decode cX1_setAllUp 0 = .ok (.aload_n 0, 1) := by decide +kernel
theorem dX1_setAllUp_1 : decode cX1_setAllUp 1 = .ok (.iconst 1, 1) := by decide +kernel
theorem dX1_setAllUp_2 : decode cX1_setAllUp 2 = .ok (.aload_n 0, 1) := by decide +kernel
theorem dX1_setAllUp_3 : decode cX1_setAllUp 3 = .ok (.getfield 31, 3) := by decide +kernel
theorem dX1_setAllUp_6 : decode cX1_setAllUp 6 = .ok (.ishl, 1) := by decide +kernel
theorem dX1_setAllUp_7 : decode cX1_setAllUp 7 = .ok (.iconst 1, 1) := by decide +kernel
theorem dX1_setAllUp_8 : decode cX1_setAllUp 8 = .ok (.isub, 1) := by decide +kernel
theorem dX1_setAllUp_9 : decode cX1_setAllUp 9 = .ok (.putfield 50, 3) := by decide +kernel
theorem dX1_setAllUp_12 : decode cX1_setAllUp 12 = .ok (.return_, 1) := by decide +kernel
theorem dX1_hasPin_0 : decode cX1_hasPin 0 = .ok (.iload_n 1, 1) := by decide +kernel
theorem dX1_hasPin_1 : decode cX1_hasPin 1 = .ok (.ifCond .lt 15, 3) := by decide +kernel
theorem dX1_hasPin_4 : decode cX1_hasPin 4 = .ok (.iload_n 1, 1) := by decide +kernel
theorem dX1_hasPin_5 : decode cX1_hasPin 5 = .ok (.aload_n 0, 1) := by decide +kernel
theorem dX1_hasPin_6 : decode cX1_hasPin 6 = .ok (.getfield 31, 3) := by decide +kernel
theorem dX1_hasPin_9 : decode cX1_hasPin 9 = .ok (.if_icmp .ge 7, 3) := by decide +kernel
theorem dX1_hasPin_12 : decode cX1_hasPin 12 = .ok (.iconst 1, 1) := by decide +kernel
theorem dX1_hasPin_13 : decode cX1_hasPin 13 = .ok (.goto 4, 3) := by decide +kernel
theorem dX1_hasPin_16 : decode cX1_hasPin 16 = .ok (.iconst 0, 1) := by decide +kernel
theorem dX1_hasPin_17 : decode cX1_hasPin 17 = .ok (.ireturn, 1) := by decide +kernel
theorem dX1_hasLane_0 : decode cX1_hasLane 0 = .ok (.iload_n 1, 1) := by decide +kernel
theorem dX1_hasLane_1 : decode cX1_hasLane 1 = .ok (.ifCond .lt 15, 3) := by decide +kernel
theorem dX1_hasLane_4 : decode cX1_hasLane 4 = .ok (.iload_n 1, 1) := by decide +kernel
theorem dX1_hasLane_5 : decode cX1_hasLane 5 = .ok (.aload_n 0, 1) := by decide +kernel
theorem dX1_hasLane_6 : decode cX1_hasLane 6 = .ok (.getfield 35, 3) := by decide +kernel
theorem dX1_hasLane_9 : decode cX1_hasLane 9 = .ok (.if_icmp .ge 7, 3) := by decide +kernel
theorem dX1_hasLane_12 : decode cX1_hasLane 12 = .ok (.iconst 1, 1) := by decide +kernel
theorem dX1_hasLane_13 : decode cX1_hasLane 13 = .ok (.goto 4, 3) := by decide +kernel
theorem dX1_hasLane_16 : decode cX1_hasLane 16 = .ok (.iconst 0, 1) := by decide +kernel
theorem dX1_hasLane_17 : decode cX1_hasLane 17 = .ok (.ireturn, 1) := by decide +kernel
set_option maxRecDepth 20000 in
theorem ggX1_standingIn_X7_bits : GoodIn wsX1_standingIn wsX7_bits := goodIn_r _ [6] (by decide +kernel) (by decide +kernel)
set_option maxRecDepth 20000 in
theorem gX1_standingIn_X7_bits_n60 : GoodIn wsX1_standingIn (wsX7_bits) := ggX1_standingIn_X7_bits
theorem dX1_standingIn_0 : decode cX1_standingIn 0 = .ok (.aload_n 0, 1) := by decide +kernel
theorem dX1_standingIn_1 : decode cX1_standingIn 1 = .ok (.getfield 50, 3) := by decide +kernel
theorem dX1_standingIn_4 : decode cX1_standingIn 4 = .ok (.aload_n 0, 1) := by decide +kernel
theorem dX1_standingIn_5 : decode cX1_standingIn 5 = .ok (.getfield 18, 3) := by decide +kernel
theorem dX1_standingIn_8 : decode cX1_standingIn 8 = .ok (.iload_n 1, 1) := by decide +kernel
theorem dX1_standingIn_9 : decode cX1_standingIn 9 = .ok (.iaload, 1) := by decide +kernel
theorem dX1_standingIn_10 : decode cX1_standingIn 10 = .ok (.aload_n 0, 1) := by decide +kernel
theorem dX1_standingIn_11 : decode cX1_standingIn 11 = .ok (.getfield 21, 3) := by decide +kernel
theorem dX1_standingIn_14 : decode cX1_standingIn 14 = .ok (.iload_n 1, 1) := by decide +kernel
theorem dX1_standingIn_15 : decode cX1_standingIn 15 = .ok (.iaload, 1) := by decide +kernel
theorem dX1_standingIn_16 : decode cX1_standingIn 16 = .ok (.invokestatic 60, 3) := by decide +kernel
theorem dX1_standingIn_19 : decode cX1_standingIn 19 = .ok (.iand, 1) := by decide +kernel
theorem dX1_standingIn_20 : decode cX1_standingIn 20 = .ok (.ireturn, 1) := by decide +kernel
theorem dX1_addLane_0 : decode cX1_addLane 0 = .ok (.aload_n 0, 1) := by decide +kernel
theorem dX1_addLane_1 : decode cX1_addLane 1 = .ok (.getfield 35, 3) := by decide +kernel
theorem dX1_addLane_4 : decode cX1_addLane 4 = .ok (.iconst 3, 1) := by decide +kernel
theorem dX1_addLane_5 : decode cX1_addLane 5 = .ok (.if_icmp .ge 12, 3) := by decide +kernel
theorem dX1_addLane_8 : decode cX1_addLane 8 = .ok (.aload_n 0, 1) := by decide +kernel
theorem dX1_addLane_9 : decode cX1_addLane 9 = .ok (.getfield 31, 3) := by decide +kernel
theorem dX1_addLane_12 : decode cX1_addLane 12 = .ok (.bipush 9, 2) := by decide +kernel
theorem dX1_addLane_14 : decode cX1_addLane 14 = .ok (.if_icmp .lt 5, 3) := by decide +kernel
theorem dX1_addLane_17 : decode cX1_addLane 17 = .ok (.iconst 0, 1) := by decide +kernel
theorem dX1_addLane_18 : decode cX1_addLane 18 = .ok (.ireturn, 1) := by decide +kernel
theorem dX1_addLane_19 : decode cX1_addLane 19 = .ok (.aload_n 0, 1) := by decide +kernel
theorem dX1_addLane_20 : decode cX1_addLane 20 = .ok (.getfield 18, 3) := by decide +kernel
theorem dX1_addLane_23 : decode cX1_addLane 23 = .ok (.aload_n 0, 1) := by decide +kernel
theorem dX1_addLane_24 : decode cX1_addLane 24 = .ok (.getfield 35, 3) := by decide +kernel
theorem dX1_addLane_27 : decode cX1_addLane 27 = .ok (.aload_n 0, 1) := by decide +kernel
theorem dX1_addLane_28 : decode cX1_addLane 28 = .ok (.getfield 31, 3) := by decide +kernel
theorem dX1_addLane_31 : decode cX1_addLane 31 = .ok (.iastore, 1) := by decide +kernel
theorem dX1_addLane_32 : decode cX1_addLane 32 = .ok (.aload_n 0, 1) := by decide +kernel
theorem dX1_addLane_33 : decode cX1_addLane 33 = .ok (.getfield 21, 3) := by decide +kernel
theorem dX1_addLane_36 : decode cX1_addLane 36 = .ok (.aload_n 0, 1) := by decide +kernel
theorem dX1_addLane_37 : decode cX1_addLane 37 = .ok (.getfield 35, 3) := by decide +kernel
theorem dX1_addLane_40 : decode cX1_addLane 40 = .ok (.iconst 0, 1) := by decide +kernel
theorem dX1_addLane_41 : decode cX1_addLane 41 = .ok (.iastore, 1) := by decide +kernel
theorem dX1_addLane_42 : decode cX1_addLane 42 = .ok (.aload_n 0, 1) := by decide +kernel
theorem dX1_addLane_43 : decode cX1_addLane 43 = .ok (.dup, 1) := by decide +kernel
theorem dX1_addLane_44 : decode cX1_addLane 44 = .ok (.getfield 35, 3) := by decide +kernel
theorem dX1_addLane_47 : decode cX1_addLane 47 = .ok (.iconst 1, 1) := by decide +kernel
theorem dX1_addLane_48 : decode cX1_addLane 48 = .ok (.iadd, 1) := by decide +kernel
theorem dX1_addLane_49 : decode cX1_addLane 49 = .ok (.putfield 35, 3) := by decide +kernel
theorem dX1_addLane_52 : decode cX1_addLane 52 = .ok (.iconst 1, 1) := by decide +kernel
theorem dX1_addLane_53 : decode cX1_addLane 53 = .ok (.ireturn, 1) := by decide +kernel
set_option maxRecDepth 20000 in
theorem ggX1_addPin_X1_hasLane : GoodIn wsX1_addPin wsX1_hasLane := goodIn_r _ [10, 1, 11, 12, 13, 14, 15, 16, 17, 18, 19, 20, 21] (by decide +kernel) (by decide +kernel)
set_option maxRecDepth 20000 in
theorem gX1_addPin_X1_hasLane : GoodIn wsX1_addPin (wsV RX1 64 RX1 yX1_hasLane wsX1_hasLane) := goodIn_app (goodIn_of _ (by decide +kernel)) ggX1_addPin_X1_hasLane
theorem dX1_addPin_0 : decode cX1_addPin 0 = .ok (.aload_n 0, 1) := by decide +kernel
theorem dX1_addPin_1 : decode cX1_addPin 1 = .ok (.getfield 35, 3) := by decide +kernel
theorem dX1_addPin_4 : decode cX1_addPin 4 = .ok (.iconst 1, 1) := by decide +kernel
theorem dX1_addPin_5 : decode cX1_addPin 5 = .ok (.isub, 1) := by decide +kernel
theorem dX1_addPin_6 : decode cX1_addPin 6 = .ok (.istore_n 2, 1) := by decide +kernel
theorem dX1_addPin_7 : decode cX1_addPin 7 = .ok (.aload_n 0, 1) := by decide +kernel
theorem dX1_addPin_8 : decode cX1_addPin 8 = .ok (.iload_n 2, 1) := by decide +kernel
theorem dX1_addPin_9 : decode cX1_addPin 9 = .ok (.invokevirtual 64, 3) := by decide +kernel
theorem dX1_addPin_12 : decode cX1_addPin 12 = .ok (.ifCond .eq 23, 3) := by decide +kernel
theorem dX1_addPin_15 : decode cX1_addPin 15 = .ok (.aload_n 0, 1) := by decide +kernel
theorem dX1_addPin_16 : decode cX1_addPin 16 = .ok (.getfield 21, 3) := by decide +kernel
theorem dX1_addPin_19 : decode cX1_addPin 19 = .ok (.iload_n 2, 1) := by decide +kernel
theorem dX1_addPin_20 : decode cX1_addPin 20 = .ok (.iaload, 1) := by decide +kernel
theorem dX1_addPin_21 : decode cX1_addPin 21 = .ok (.bipush 6, 2) := by decide +kernel
theorem dX1_addPin_23 : decode cX1_addPin 23 = .ok (.if_icmp .ge 12, 3) := by decide +kernel
theorem dX1_addPin_26 : decode cX1_addPin 26 = .ok (.aload_n 0, 1) := by decide +kernel
theorem dX1_addPin_27 : decode cX1_addPin 27 = .ok (.getfield 31, 3) := by decide +kernel
theorem dX1_addPin_30 : decode cX1_addPin 30 = .ok (.bipush 9, 2) := by decide +kernel
theorem dX1_addPin_32 : decode cX1_addPin 32 = .ok (.if_icmp .lt 5, 3) := by decide +kernel
theorem dX1_addPin_35 : decode cX1_addPin 35 = .ok (.iconst 0, 1) := by decide +kernel
theorem dX1_addPin_36 : decode cX1_addPin 36 = .ok (.ireturn, 1) := by decide +kernel
theorem dX1_addPin_37 : decode cX1_addPin 37 = .ok (.aload_n 0, 1) := by decide +kernel
theorem dX1_addPin_38 : decode cX1_addPin 38 = .ok (.getfield 9, 3) := by decide +kernel
theorem dX1_addPin_41 : decode cX1_addPin 41 = .ok (.aload_n 0, 1) := by decide +kernel
theorem dX1_addPin_42 : decode cX1_addPin 42 = .ok (.getfield 31, 3) := by decide +kernel
theorem dX1_addPin_45 : decode cX1_addPin 45 = .ok (.iload_n 1, 1) := by decide +kernel
theorem dX1_addPin_46 : decode cX1_addPin 46 = .ok (.iastore, 1) := by decide +kernel
theorem dX1_addPin_47 : decode cX1_addPin 47 = .ok (.aload_n 0, 1) := by decide +kernel
theorem dX1_addPin_48 : decode cX1_addPin 48 = .ok (.getfield 15, 3) := by decide +kernel
theorem dX1_addPin_51 : decode cX1_addPin 51 = .ok (.aload_n 0, 1) := by decide +kernel
theorem dX1_addPin_52 : decode cX1_addPin 52 = .ok (.getfield 31, 3) := by decide +kernel
theorem dX1_addPin_55 : decode cX1_addPin 55 = .ok (.iload_n 2, 1) := by decide +kernel
theorem dX1_addPin_56 : decode cX1_addPin 56 = .ok (.iastore, 1) := by decide +kernel
theorem dX1_addPin_57 : decode cX1_addPin 57 = .ok (.aload_n 0, 1) := by decide +kernel
theorem dX1_addPin_58 : decode cX1_addPin 58 = .ok (.getfield 21, 3) := by decide +kernel
theorem dX1_addPin_61 : decode cX1_addPin 61 = .ok (.iload_n 2, 1) := by decide +kernel
theorem dX1_addPin_62 : decode cX1_addPin 62 = .ok (.dup2, 1) := by decide +kernel
theorem dX1_addPin_63 : decode cX1_addPin 63 = .ok (.iaload, 1) := by decide +kernel
theorem dX1_addPin_64 : decode cX1_addPin 64 = .ok (.iconst 1, 1) := by decide +kernel
theorem dX1_addPin_65 : decode cX1_addPin 65 = .ok (.iadd, 1) := by decide +kernel
theorem dX1_addPin_66 : decode cX1_addPin 66 = .ok (.iastore, 1) := by decide +kernel
theorem dX1_addPin_67 : decode cX1_addPin 67 = .ok (.aload_n 0, 1) := by decide +kernel
theorem dX1_addPin_68 : decode cX1_addPin 68 = .ok (.dup, 1) := by decide +kernel
theorem dX1_addPin_69 : decode cX1_addPin 69 = .ok (.getfield 31, 3) := by decide +kernel
theorem dX1_addPin_72 : decode cX1_addPin 72 = .ok (.iconst 1, 1) := by decide +kernel
theorem dX1_addPin_73 : decode cX1_addPin 73 = .ok (.iadd, 1) := by decide +kernel
theorem dX1_addPin_74 : decode cX1_addPin 74 = .ok (.putfield 31, 3) := by decide +kernel
theorem dX1_addPin_77 : decode cX1_addPin 77 = .ok (.iconst 1, 1) := by decide +kernel
theorem dX1_addPin_78 : decode cX1_addPin 78 = .ok (.ireturn, 1) := by decide +kernel
set_option maxRecDepth 20000 in
theorem ggX1_lastLaneHasPins_X1_hasLane : GoodIn wsX1_lastLaneHasPins wsX1_hasLane := goodIn_r _ [7, 1, 8, 9, 10, 11, 12, 13, 14, 15, 16, 17, 18] (by decide +kernel) (by decide +kernel)
set_option maxRecDepth 20000 in
theorem gX1_lastLaneHasPins_X1_hasLane : GoodIn wsX1_lastLaneHasPins (wsV RX1 64 RX1 yX1_hasLane wsX1_hasLane) := goodIn_app (goodIn_of _ (by decide +kernel)) ggX1_lastLaneHasPins_X1_hasLane
theorem dX1_lastLaneHasPins_0 : decode cX1_lastLaneHasPins 0 = .ok (.aload_n 0, 1) := by decide +kernel
theorem dX1_lastLaneHasPins_1 : decode cX1_lastLaneHasPins 1 = .ok (.aload_n 0, 1) := by decide +kernel
theorem dX1_lastLaneHasPins_2 : decode cX1_lastLaneHasPins 2 = .ok (.getfield 35, 3) := by decide +kernel
theorem dX1_lastLaneHasPins_5 : decode cX1_lastLaneHasPins 5 = .ok (.iconst 1, 1) := by decide +kernel
theorem dX1_lastLaneHasPins_6 : decode cX1_lastLaneHasPins 6 = .ok (.isub, 1) := by decide +kernel
theorem dX1_lastLaneHasPins_7 : decode cX1_lastLaneHasPins 7 = .ok (.invokevirtual 64, 3) := by decide +kernel
theorem dX1_lastLaneHasPins_10 : decode cX1_lastLaneHasPins 10 = .ok (.ifCond .eq 21, 3) := by decide +kernel
theorem dX1_lastLaneHasPins_13 : decode cX1_lastLaneHasPins 13 = .ok (.aload_n 0, 1) := by decide +kernel
theorem dX1_lastLaneHasPins_14 : decode cX1_lastLaneHasPins 14 = .ok (.getfield 21, 3) := by decide +kernel
theorem dX1_lastLaneHasPins_17 : decode cX1_lastLaneHasPins 17 = .ok (.aload_n 0, 1) := by decide +kernel
theorem dX1_lastLaneHasPins_18 : decode cX1_lastLaneHasPins 18 = .ok (.getfield 35, 3) := by decide +kernel
theorem dX1_lastLaneHasPins_21 : decode cX1_lastLaneHasPins 21 = .ok (.iconst 1, 1) := by decide +kernel
theorem dX1_lastLaneHasPins_22 : decode cX1_lastLaneHasPins 22 = .ok (.isub, 1) := by decide +kernel
theorem dX1_lastLaneHasPins_23 : decode cX1_lastLaneHasPins 23 = .ok (.iaload, 1) := by decide +kernel
theorem dX1_lastLaneHasPins_24 : decode cX1_lastLaneHasPins 24 = .ok (.ifCond .le 7, 3) := by decide +kernel
theorem dX1_lastLaneHasPins_27 : decode cX1_lastLaneHasPins 27 = .ok (.iconst 1, 1) := by decide +kernel
theorem dX1_lastLaneHasPins_28 : decode cX1_lastLaneHasPins 28 = .ok (.goto 4, 3) := by decide +kernel
theorem dX1_lastLaneHasPins_31 : decode cX1_lastLaneHasPins 31 = .ok (.iconst 0, 1) := by decide +kernel
theorem dX1_lastLaneHasPins_32 : decode cX1_lastLaneHasPins 32 = .ok (.ireturn, 1) := by decide +kernel
set_option maxRecDepth 20000 in
theorem ggX1_canBeTaken_X1_hasPin : GoodIn wsX1_canBeTaken wsX1_hasPin := goodIn_r _ [7, 8, 9, 10, 11, 12, 13, 14, 15, 16, 17, 18, 19] (by decide +kernel) (by decide +kernel)
set_option maxRecDepth 20000 in
theorem gX1_canBeTaken_X1_hasPin : GoodIn wsX1_canBeTaken (wsV RX1 68 RX1 yX1_hasPin wsX1_hasPin) := goodIn_app (goodIn_of _ (by decide +kernel)) ggX1_canBeTaken_X1_hasPin
theorem dX1_canBeTaken_0 : decode cX1_canBeTaken 0 = .ok (.iload_n 1, 1) := by decide +kernel
theorem dX1_canBeTaken_1 : decode cX1_canBeTaken 1 = .ok (.iload_n 2, 1) := by decide +kernel
theorem dX1_canBeTaken_2 : decode cX1_canBeTaken 2 = .ok (.iadd, 1) := by decide +kernel
theorem dX1_canBeTaken_3 : decode cX1_canBeTaken 3 = .ok (.iconst 1, 1) := by decide +kernel
theorem dX1_canBeTaken_4 : decode cX1_canBeTaken 4 = .ok (.isub, 1) := by decide +kernel
theorem dX1_canBeTaken_5 : decode cX1_canBeTaken 5 = .ok (.istore_n 3, 1) := by decide +kernel
theorem dX1_canBeTaken_6 : decode cX1_canBeTaken 6 = .ok (.aload_n 0, 1) := by decide +kernel
theorem dX1_canBeTaken_7 : decode cX1_canBeTaken 7 = .ok (.iload_n 1, 1) := by decide +kernel
theorem dX1_canBeTaken_8 : decode cX1_canBeTaken 8 = .ok (.invokevirtual 68, 3) := by decide +kernel
theorem dX1_canBeTaken_11 : decode cX1_canBeTaken 11 = .ok (.ifCond .eq 26, 3) := by decide +kernel
theorem dX1_canBeTaken_14 : decode cX1_canBeTaken 14 = .ok (.aload_n 0, 1) := by decide +kernel
theorem dX1_canBeTaken_15 : decode cX1_canBeTaken 15 = .ok (.iload_n 3, 1) := by decide +kernel
theorem dX1_canBeTaken_16 : decode cX1_canBeTaken 16 = .ok (.invokevirtual 68, 3) := by decide +kernel
theorem dX1_canBeTaken_19 : decode cX1_canBeTaken 19 = .ok (.ifCond .eq 18, 3) := by decide +kernel
theorem dX1_canBeTaken_22 : decode cX1_canBeTaken 22 = .ok (.aload_n 0, 1) := by decide +kernel
theorem dX1_canBeTaken_23 : decode cX1_canBeTaken 23 = .ok (.getfield 15, 3) := by decide +kernel
theorem dX1_canBeTaken_26 : decode cX1_canBeTaken 26 = .ok (.iload_n 1, 1) := by decide +kernel
theorem dX1_canBeTaken_27 : decode cX1_canBeTaken 27 = .ok (.iaload, 1) := by decide +kernel
theorem dX1_canBeTaken_28 : decode cX1_canBeTaken 28 = .ok (.aload_n 0, 1) := by decide +kernel
theorem dX1_canBeTaken_29 : decode cX1_canBeTaken 29 = .ok (.getfield 15, 3) := by decide +kernel
theorem dX1_canBeTaken_32 : decode cX1_canBeTaken 32 = .ok (.iload_n 3, 1) := by decide +kernel
theorem dX1_canBeTaken_33 : decode cX1_canBeTaken 33 = .ok (.iaload, 1) := by decide +kernel
theorem dX1_canBeTaken_34 : decode cX1_canBeTaken 34 = .ok (.if_icmp .eq 5, 3) := by decide +kernel
theorem dX1_canBeTaken_37 : decode cX1_canBeTaken 37 = .ok (.iconst 0, 1) := by decide +kernel
theorem dX1_canBeTaken_38 : decode cX1_canBeTaken 38 = .ok (.ireturn, 1) := by decide +kernel
theorem dX1_canBeTaken_39 : decode cX1_canBeTaken 39 = .ok (.iload_n 1, 1) := by decide +kernel
theorem dX1_canBeTaken_40 : decode cX1_canBeTaken 40 = .ok (.istore 4, 2) := by decide +kernel
theorem dX1_canBeTaken_42 : decode cX1_canBeTaken 42 = .ok (.iload 4, 2) := by decide +kernel
theorem dX1_canBeTaken_44 : decode cX1_canBeTaken 44 = .ok (.iload_n 3, 1) := by decide +kernel
theorem dX1_canBeTaken_45 : decode cX1_canBeTaken 45 = .ok (.if_icmp .gt 38, 3) := by decide +kernel
theorem dX1_canBeTaken_48 : decode cX1_canBeTaken 48 = .ok (.aload_n 0, 1) := by decide +kernel
theorem dX1_canBeTaken_49 : decode cX1_canBeTaken 49 = .ok (.getfield 9, 3) := by decide +kernel
theorem dX1_canBeTaken_52 : decode cX1_canBeTaken 52 = .ok (.iload 4, 2) := by decide +kernel
theorem dX1_canBeTaken_54 : decode cX1_canBeTaken 54 = .ok (.iaload, 1) := by decide +kernel
theorem dX1_canBeTaken_55 : decode cX1_canBeTaken 55 = .ok (.iconst 3, 1) := by decide +kernel
theorem dX1_canBeTaken_56 : decode cX1_canBeTaken 56 = .ok (.if_icmp .eq 19, 3) := by decide +kernel
theorem dX1_canBeTaken_59 : decode cX1_canBeTaken 59 = .ok (.aload_n 0, 1) := by decide +kernel
theorem dX1_canBeTaken_60 : decode cX1_canBeTaken 60 = .ok (.getfield 9, 3) := by decide +kernel
theorem dX1_canBeTaken_63 : decode cX1_canBeTaken 63 = .ok (.iload 4, 2) := by decide +kernel
theorem dX1_canBeTaken_65 : decode cX1_canBeTaken 65 = .ok (.iaload, 1) := by decide +kernel
theorem dX1_canBeTaken_66 : decode cX1_canBeTaken 66 = .ok (.iconst 2, 1) := by decide +kernel
theorem dX1_canBeTaken_67 : decode cX1_canBeTaken 67 = .ok (.if_icmp .ne 10, 3) := by decide +kernel
theorem dX1_canBeTaken_70 : decode cX1_canBeTaken 70 = .ok (.iload_n 2, 1) := by decide +kernel
theorem dX1_canBeTaken_71 : decode cX1_canBeTaken 71 = .ok (.iconst 1, 1) := by decide +kernel
theorem dX1_canBeTaken_72 : decode cX1_canBeTaken 72 = .ok (.if_icmp .le 5, 3) := by decide +kernel
theorem dX1_canBeTaken_75 : decode cX1_canBeTaken 75 = .ok (.iconst 0, 1) := by decide +kernel
theorem dX1_canBeTaken_76 : decode cX1_canBeTaken 76 = .ok (.ireturn, 1) := by decide +kernel
theorem dX1_canBeTaken_77 : decode cX1_canBeTaken 77 = .ok (.iinc 4 1, 3) := by decide +kernel
theorem dX1_canBeTaken_80 : decode cX1_canBeTaken 80 = .ok (.goto (-38), 3) := by decide +kernel
theorem dX1_canBeTaken_83 : decode cX1_canBeTaken 83 = .ok (.iconst 1, 1) := by decide +kernel
theorem dX1_canBeTaken_84 : decode cX1_canBeTaken 84 = .ok (.ireturn, 1) := by decide +kernel
set_option maxRecDepth 20000 in
theorem ggX1_takesAlong_X1_hasPin : GoodIn wsX1_takesAlong wsX1_hasPin := goodIn_r _ [7, 8, 12, 13, 14, 15, 16, 17, 18, 19, 20, 21, 22] (by decide +kernel) (by decide +kernel)
set_option maxRecDepth 20000 in
theorem gX1_takesAlong_X1_hasPin : GoodIn wsX1_takesAlong (wsV RX1 68 RX1 yX1_hasPin wsX1_hasPin) := goodIn_app (goodIn_of _ (by decide +kernel)) ggX1_takesAlong_X1_hasPin
set_option maxRecDepth 20000 in
theorem ggX1_takesAlong_X7_isAlso : GoodIn wsX1_takesAlong wsX7_isAlso := goodIn_r _ [11] (by decide +kernel) (by decide +kernel)
set_option maxRecDepth 20000 in
theorem gX1_takesAlong_X7_isAlso_n71 : GoodIn wsX1_takesAlong (wsX7_isAlso) := ggX1_takesAlong_X7_isAlso
theorem dX1_takesAlong_0 : decode cX1_takesAlong 0 = .ok (.aload_n 0, 1) := by decide +kernel
theorem dX1_takesAlong_1 : decode cX1_takesAlong 1 = .ok (.iload_n 1, 1) := by decide +kernel
theorem dX1_takesAlong_2 : decode cX1_takesAlong 2 = .ok (.invokevirtual 68, 3) := by decide +kernel
theorem dX1_takesAlong_5 : decode cX1_takesAlong 5 = .ok (.ifCond .eq 26, 3) := by decide +kernel
theorem dX1_takesAlong_8 : decode cX1_takesAlong 8 = .ok (.aload_n 0, 1) := by decide +kernel
theorem dX1_takesAlong_9 : decode cX1_takesAlong 9 = .ok (.iload_n 2, 1) := by decide +kernel
theorem dX1_takesAlong_10 : decode cX1_takesAlong 10 = .ok (.invokevirtual 68, 3) := by decide +kernel
theorem dX1_takesAlong_13 : decode cX1_takesAlong 13 = .ok (.ifCond .eq 18, 3) := by decide +kernel
theorem dX1_takesAlong_16 : decode cX1_takesAlong 16 = .ok (.aload_n 0, 1) := by decide +kernel
theorem dX1_takesAlong_17 : decode cX1_takesAlong 17 = .ok (.getfield 15, 3) := by decide +kernel
theorem dX1_takesAlong_20 : decode cX1_takesAlong 20 = .ok (.iload_n 1, 1) := by decide +kernel
theorem dX1_takesAlong_21 : decode cX1_takesAlong 21 = .ok (.iaload, 1) := by decide +kernel
theorem dX1_takesAlong_22 : decode cX1_takesAlong 22 = .ok (.aload_n 0, 1) := by decide +kernel
theorem dX1_takesAlong_23 : decode cX1_takesAlong 23 = .ok (.getfield 15, 3) := by decide +kernel
theorem dX1_takesAlong_26 : decode cX1_takesAlong 26 = .ok (.iload_n 2, 1) := by decide +kernel
theorem dX1_takesAlong_27 : decode cX1_takesAlong 27 = .ok (.iaload, 1) := by decide +kernel
theorem dX1_takesAlong_28 : decode cX1_takesAlong 28 = .ok (.if_icmp .eq 5, 3) := by decide +kernel
theorem dX1_takesAlong_31 : decode cX1_takesAlong 31 = .ok (.iconst 0, 1) := by decide +kernel
theorem dX1_takesAlong_32 : decode cX1_takesAlong 32 = .ok (.ireturn, 1) := by decide +kernel
theorem dX1_takesAlong_33 : decode cX1_takesAlong 33 = .ok (.aload_n 0, 1) := by decide +kernel
theorem dX1_takesAlong_34 : decode cX1_takesAlong 34 = .ok (.getfield 9, 3) := by decide +kernel
theorem dX1_takesAlong_37 : decode cX1_takesAlong 37 = .ok (.iload_n 1, 1) := by decide +kernel
theorem dX1_takesAlong_38 : decode cX1_takesAlong 38 = .ok (.iaload, 1) := by decide +kernel
theorem dX1_takesAlong_39 : decode cX1_takesAlong 39 = .ok (.iload_n 2, 1) := by decide +kernel
theorem dX1_takesAlong_40 : decode cX1_takesAlong 40 = .ok (.iload_n 1, 1) := by decide +kernel
theorem dX1_takesAlong_41 : decode cX1_takesAlong 41 = .ok (.if_icmp .le 7, 3) := by decide +kernel
theorem dX1_takesAlong_44 : decode cX1_takesAlong 44 = .ok (.iconst 1, 1) := by decide +kernel
theorem dX1_takesAlong_45 : decode cX1_takesAlong 45 = .ok (.goto 4, 3) := by decide +kernel
theorem dX1_takesAlong_48 : decode cX1_takesAlong 48 = .ok (.iconst 4, 1) := by decide +kernel
theorem dX1_takesAlong_49 : decode cX1_takesAlong 49 = .ok (.invokestatic 71, 3) := by decide +kernel
theorem dX1_takesAlong_52 : decode cX1_takesAlong 52 = .ok (.istore_n 3, 1) := by decide +kernel
theorem dX1_takesAlong_53 : decode cX1_takesAlong 53 = .ok (.iload_n 3, 1) := by decide +kernel
theorem dX1_takesAlong_54 : decode cX1_takesAlong 54 = .ok (.ifCond .eq 27, 3) := by decide +kernel
theorem dX1_takesAlong_57 : decode cX1_takesAlong 57 = .ok (.aload_n 0, 1) := by decide +kernel
theorem dX1_takesAlong_58 : decode cX1_takesAlong 58 = .ok (.getfield 9, 3) := by decide +kernel
theorem dX1_takesAlong_61 : decode cX1_takesAlong 61 = .ok (.iload_n 2, 1) := by decide +kernel
theorem dX1_takesAlong_62 : decode cX1_takesAlong 62 = .ok (.iaload, 1) := by decide +kernel
theorem dX1_takesAlong_63 : decode cX1_takesAlong 63 = .ok (.iconst 2, 1) := by decide +kernel
theorem dX1_takesAlong_64 : decode cX1_takesAlong 64 = .ok (.if_icmp .eq 17, 3) := by decide +kernel
theorem dX1_takesAlong_67 : decode cX1_takesAlong 67 = .ok (.aload_n 0, 1) := by decide +kernel
theorem dX1_takesAlong_68 : decode cX1_takesAlong 68 = .ok (.getfield 9, 3) := by decide +kernel
theorem dX1_takesAlong_71 : decode cX1_takesAlong 71 = .ok (.iload_n 2, 1) := by decide +kernel
theorem dX1_takesAlong_72 : decode cX1_takesAlong 72 = .ok (.iaload, 1) := by decide +kernel
theorem dX1_takesAlong_73 : decode cX1_takesAlong 73 = .ok (.iconst 3, 1) := by decide +kernel
theorem dX1_takesAlong_74 : decode cX1_takesAlong 74 = .ok (.if_icmp .eq 7, 3) := by decide +kernel
theorem dX1_takesAlong_77 : decode cX1_takesAlong 77 = .ok (.iconst 1, 1) := by decide +kernel
theorem dX1_takesAlong_78 : decode cX1_takesAlong 78 = .ok (.goto 4, 3) := by decide +kernel
theorem dX1_takesAlong_81 : decode cX1_takesAlong 81 = .ok (.iconst 0, 1) := by decide +kernel
theorem dX1_takesAlong_82 : decode cX1_takesAlong 82 = .ok (.ireturn, 1) := by decide +kernel
theorem dX2_init_0 : decode cX2_init 0 = .ok (.aload_n 0, 1) := by decide +kernel
theorem dX2_init_1 : decode cX2_init 1 = .ok (.invokespecial 3, 3) := by decide +kernel
theorem dX2_init_4 : decode cX2_init 4 = .ok (.aload_n 0, 1) := by decide +kernel
theorem dX2_init_5 : decode cX2_init 5 = .ok (.sipush 512, 3) := by decide +kernel
theorem dX2_init_8 : decode cX2_init 8 = .ok (.newarray .int, 2) := by decide +kernel
theorem dX2_init_10 : decode cX2_init 10 = .ok (.putfield 11, 3) := by decide +kernel
theorem dX2_init_13 : decode cX2_init 13 = .ok (.aload_n 0, 1) := by decide +kernel
theorem dX2_init_14 : decode cX2_init 14 = .ok (.sipush 512, 3) := by decide +kernel
theorem dX2_init_17 : decode cX2_init 17 = .ok (.newarray .int, 2) := by decide +kernel
theorem dX2_init_19 : decode cX2_init 19 = .ok (.putfield 15, 3) := by decide +kernel
theorem dX2_init_22 : decode cX2_init 22 = .ok (.aload_n 0, 1) := by decide +kernel
theorem dX2_init_23 : decode cX2_init 23 = .ok (.sipush 512, 3) := by decide +kernel
theorem dX2_init_26 : decode cX2_init 26 = .ok (.newarray .int, 2) := by decide +kernel
theorem dX2_init_28 : decode cX2_init 28 = .ok (.putfield 18, 3) := by decide +kernel
theorem dX2_init_31 : decode cX2_init 31 = .ok (.aload_n 0, 1) := by decide +kernel
theorem dX2_init_32 : decode cX2_init 32 = .ok (.sipush 512, 3) := by decide +kernel
theorem dX2_init_35 : decode cX2_init 35 = .ok (.newarray .int, 2) := by decide +kernel
theorem dX2_init_37 : decode cX2_init 37 = .ok (.putfield 21, 3) := by decide +kernel
theorem dX2_init_40 : decode cX2_init 40 = .ok (.aload_n 0, 1) := by decide +kernel
theorem dX2_init_41 : decode cX2_init 41 = .ok (.sipush 512, 3) := by decide +kernel
theorem dX2_init_44 : decode cX2_init 44 = .ok (.newarray .int, 2) := by decide +kernel
theorem dX2_init_46 : decode cX2_init 46 = .ok (.putfield 24, 3) := by decide +kernel
theorem dX2_init_49 : decode cX2_init 49 = .ok (.return_, 1) := by decide +kernel
set_option maxRecDepth 20000 in
theorem ggX2_fill_X2_weigh : GoodIn wsX2_fill wsX2_weigh := goodIn_r _ [9, 10, 11, 12, 13, 1, 2, 3, 4, 14, 15, 16, 17, 18, 19, 20, 21, 22, 23, 24, 25, 26, 27, 28, 29, 30, 31, 32, 33, 34, 35, 36, 37, 38, 39, 40, 41, 42, 43, 44] (by decide +kernel) (by decide +kernel)
set_option maxRecDepth 20000 in
theorem gX2_fill_X2_weigh : GoodIn wsX2_fill (wsV RX2 33 RX2 yX2_weigh wsX2_weigh) := goodIn_app (goodIn_of _ (by decide +kernel)) ggX2_fill_X2_weigh
theorem dX2_fill_0 : decode cX2_fill 0 = .ok (.iconst 1, 1) := by decide +kernel
theorem dX2_fill_1 : decode cX2_fill 1 = .ok (.iload_n 2, 1) := by decide +kernel
theorem dX2_fill_2 : decode cX2_fill 2 = .ok (.ishl, 1) := by decide +kernel
theorem dX2_fill_3 : decode cX2_fill 3 = .ok (.sipush 512, 3) := by decide +kernel
theorem dX2_fill_6 : decode cX2_fill 6 = .ok (.invokestatic 27, 3) := by decide +kernel
theorem dX2_fill_9 : decode cX2_fill 9 = .ok (.istore 4, 2) := by decide +kernel
theorem dX2_fill_11 : decode cX2_fill 11 = .ok (.iconst 0, 1) := by decide +kernel
theorem dX2_fill_12 : decode cX2_fill 12 = .ok (.istore 5, 2) := by decide +kernel
theorem dX2_fill_14 : decode cX2_fill 14 = .ok (.iload 5, 2) := by decide +kernel
theorem dX2_fill_16 : decode cX2_fill 16 = .ok (.iload 4, 2) := by decide +kernel
theorem dX2_fill_18 : decode cX2_fill 18 = .ok (.if_icmp .ge 17, 3) := by decide +kernel
theorem dX2_fill_21 : decode cX2_fill 21 = .ok (.aload_n 0, 1) := by decide +kernel
theorem dX2_fill_22 : decode cX2_fill 22 = .ok (.aload_n 1, 1) := by decide +kernel
theorem dX2_fill_23 : decode cX2_fill 23 = .ok (.iload 5, 2) := by decide +kernel
theorem dX2_fill_25 : decode cX2_fill 25 = .ok (.iload_n 3, 1) := by decide +kernel
theorem dX2_fill_26 : decode cX2_fill 26 = .ok (.invokevirtual 33, 3) := by decide +kernel
theorem dX2_fill_29 : decode cX2_fill 29 = .ok (.iinc 5 1, 3) := by decide +kernel
theorem dX2_fill_32 : decode cX2_fill 32 = .ok (.goto (-18), 3) := by decide +kernel
theorem dX2_fill_35 : decode cX2_fill 35 = .ok (.return_, 1) := by decide +kernel
set_option maxRecDepth 20000 in
theorem ggX2_weigh_X6_fallen : GoodIn wsX2_weigh wsX6_fallen := goodIn_r _ [19, 20, 21, 22, 23, 24, 25, 29, 30, 31, 32, 33, 34] (by decide +kernel) (by decide +kernel)
set_option maxRecDepth 20000 in
theorem gX2_weigh_X6_fallen : GoodIn wsX2_weigh (wsV RX2 43 RX6 yX6_fallen wsX6_fallen) := goodIn_app (goodIn_of _ (by decide +kernel)) ggX2_weigh_X6_fallen
set_option maxRecDepth 20000 in
theorem ggX2_weigh_X7_leastNotIn : GoodIn wsX2_weigh wsX7_leastNotIn := goodIn_r _ [28] (by decide +kernel) (by decide +kernel)
set_option maxRecDepth 20000 in
theorem gX2_weigh_X7_leastNotIn_n50 : GoodIn wsX2_weigh (wsX7_leastNotIn) := ggX2_weigh_X7_leastNotIn
theorem dX2_weigh_0 : decode cX2_weigh 0 = .ok (.iconst 0, 1) := by decide +kernel
theorem dX2_weigh_1 : decode cX2_weigh 1 = .ok (.istore 4, 2) := by decide +kernel
theorem dX2_weigh_3 : decode cX2_weigh 3 = .ok (.lconst 0, 1) := by decide +kernel
theorem dX2_weigh_4 : decode cX2_weigh 4 = .ok (.lstore 5, 2) := by decide +kernel
theorem dX2_weigh_6 : decode cX2_weigh 6 = .ok (.iconst 0, 1) := by decide +kernel
theorem dX2_weigh_7 : decode cX2_weigh 7 = .ok (.istore 7, 2) := by decide +kernel
theorem dX2_weigh_9 : decode cX2_weigh 9 = .ok (.bipush 9, 2) := by decide +kernel
theorem dX2_weigh_11 : decode cX2_weigh 11 = .ok (.istore 8, 2) := by decide +kernel
theorem dX2_weigh_13 : decode cX2_weigh 13 = .ok (.iconst 0, 1) := by decide +kernel
theorem dX2_weigh_14 : decode cX2_weigh 14 = .ok (.istore 9, 2) := by decide +kernel
theorem dX2_weigh_16 : decode cX2_weigh 16 = .ok (.iconst 0, 1) := by decide +kernel
theorem dX2_weigh_17 : decode cX2_weigh 17 = .ok (.istore 10, 2) := by decide +kernel
theorem dX2_weigh_19 : decode cX2_weigh 19 = .ok (.iconst 0, 1) := by decide +kernel
theorem dX2_weigh_20 : decode cX2_weigh 20 = .ok (.istore 11, 2) := by decide +kernel
theorem dX2_weigh_22 : decode cX2_weigh 22 = .ok (.iload 11, 2) := by decide +kernel
theorem dX2_weigh_24 : decode cX2_weigh 24 = .ok (.aload_n 1, 1) := by decide +kernel
theorem dX2_weigh_25 : decode cX2_weigh 25 = .ok (.getfield 37, 3) := by decide +kernel
theorem dX2_weigh_28 : decode cX2_weigh 28 = .ok (.if_icmp .ge 109, 3) := by decide +kernel
theorem dX2_weigh_31 : decode cX2_weigh 31 = .ok (.aload_n 1, 1) := by decide +kernel
theorem dX2_weigh_32 : decode cX2_weigh 32 = .ok (.iload 11, 2) := by decide +kernel
theorem dX2_weigh_34 : decode cX2_weigh 34 = .ok (.iload_n 2, 1) := by decide +kernel
theorem dX2_weigh_35 : decode cX2_weigh 35 = .ok (.invokevirtual 43, 3) := by decide +kernel
theorem dX2_weigh_38 : decode cX2_weigh 38 = .ok (.istore 12, 2) := by decide +kernel
theorem dX2_weigh_40 : decode cX2_weigh 40 = .ok (.iload 12, 2) := by decide +kernel
theorem dX2_weigh_42 : decode cX2_weigh 42 = .ok (.ifCond .eq 89, 3) := by decide +kernel
theorem dX2_weigh_45 : decode cX2_weigh 45 = .ok (.iload_n 2, 1) := by decide +kernel
theorem dX2_weigh_46 : decode cX2_weigh 46 = .ok (.iload 12, 2) := by decide +kernel
theorem dX2_weigh_48 : decode cX2_weigh 48 = .ok (.iconst (-1), 1) := by decide +kernel
theorem dX2_weigh_49 : decode cX2_weigh 49 = .ok (.ixor, 1) := by decide +kernel
theorem dX2_weigh_50 : decode cX2_weigh 50 = .ok (.iand, 1) := by decide +kernel
theorem dX2_weigh_51 : decode cX2_weigh 51 = .ok (.istore 13, 2) := by decide +kernel
theorem dX2_weigh_53 : decode cX2_weigh 53 = .ok (.iinc 4 1, 3) := by decide +kernel
theorem dX2_weigh_56 : decode cX2_weigh 56 = .ok (.lload 5, 2) := by decide +kernel
theorem dX2_weigh_58 : decode cX2_weigh 58 = .ok (.lconst 1, 1) := by decide +kernel
theorem dX2_weigh_59 : decode cX2_weigh 59 = .ok (.aload_n 0, 1) := by decide +kernel
theorem dX2_weigh_60 : decode cX2_weigh 60 = .ok (.getfield 11, 3) := by decide +kernel
theorem dX2_weigh_63 : decode cX2_weigh 63 = .ok (.iload 13, 2) := by decide +kernel
theorem dX2_weigh_65 : decode cX2_weigh 65 = .ok (.iaload, 1) := by decide +kernel
theorem dX2_weigh_66 : decode cX2_weigh 66 = .ok (.lshl, 1) := by decide +kernel
theorem dX2_weigh_67 : decode cX2_weigh 67 = .ok (.lor, 1) := by decide +kernel
theorem dX2_weigh_68 : decode cX2_weigh 68 = .ok (.lstore 5, 2) := by decide +kernel
theorem dX2_weigh_70 : decode cX2_weigh 70 = .ok (.iload 7, 2) := by decide +kernel
theorem dX2_weigh_72 : decode cX2_weigh 72 = .ok (.iconst 1, 1) := by decide +kernel
theorem dX2_weigh_73 : decode cX2_weigh 73 = .ok (.aload_n 0, 1) := by decide +kernel
theorem dX2_weigh_74 : decode cX2_weigh 74 = .ok (.getfield 15, 3) := by decide +kernel
theorem dX2_weigh_77 : decode cX2_weigh 77 = .ok (.iload 13, 2) := by decide +kernel
theorem dX2_weigh_79 : decode cX2_weigh 79 = .ok (.iaload, 1) := by decide +kernel
theorem dX2_weigh_80 : decode cX2_weigh 80 = .ok (.isub, 1) := by decide +kernel
theorem dX2_weigh_81 : decode cX2_weigh 81 = .ok (.ior, 1) := by decide +kernel
theorem dX2_weigh_82 : decode cX2_weigh 82 = .ok (.istore 7, 2) := by decide +kernel
theorem dX2_weigh_84 : decode cX2_weigh 84 = .ok (.iload 8, 2) := by decide +kernel
theorem dX2_weigh_86 : decode cX2_weigh 86 = .ok (.iconst 1, 1) := by decide +kernel
theorem dX2_weigh_87 : decode cX2_weigh 87 = .ok (.aload_n 0, 1) := by decide +kernel
theorem dX2_weigh_88 : decode cX2_weigh 88 = .ok (.getfield 18, 3) := by decide +kernel
theorem dX2_weigh_91 : decode cX2_weigh 91 = .ok (.iload 13, 2) := by decide +kernel
theorem dX2_weigh_93 : decode cX2_weigh 93 = .ok (.iaload, 1) := by decide +kernel
theorem dX2_weigh_94 : decode cX2_weigh 94 = .ok (.iadd, 1) := by decide +kernel
theorem dX2_weigh_95 : decode cX2_weigh 95 = .ok (.invokestatic 27, 3) := by decide +kernel
theorem dX2_weigh_98 : decode cX2_weigh 98 = .ok (.istore 8, 2) := by decide +kernel
theorem dX2_weigh_100 : decode cX2_weigh 100 = .ok (.iload 9, 2) := by decide +kernel
theorem dX2_weigh_102 : decode cX2_weigh 102 = .ok (.iconst 1, 1) := by decide +kernel
theorem dX2_weigh_103 : decode cX2_weigh 103 = .ok (.aload_n 0, 1) := by decide +kernel
theorem dX2_weigh_104 : decode cX2_weigh 104 = .ok (.getfield 21, 3) := by decide +kernel
theorem dX2_weigh_107 : decode cX2_weigh 107 = .ok (.iload 13, 2) := by decide +kernel
theorem dX2_weigh_109 : decode cX2_weigh 109 = .ok (.iaload, 1) := by decide +kernel
theorem dX2_weigh_110 : decode cX2_weigh 110 = .ok (.iadd, 1) := by decide +kernel
theorem dX2_weigh_111 : decode cX2_weigh 111 = .ok (.invokestatic 46, 3) := by decide +kernel
theorem dX2_weigh_114 : decode cX2_weigh 114 = .ok (.istore 9, 2) := by decide +kernel
theorem dX2_weigh_116 : decode cX2_weigh 116 = .ok (.iload 10, 2) := by decide +kernel
theorem dX2_weigh_118 : decode cX2_weigh 118 = .ok (.ldc 49, 2) := by decide +kernel
theorem dX2_weigh_120 : decode cX2_weigh 120 = .ok (.aload_n 0, 1) := by decide +kernel
theorem dX2_weigh_121 : decode cX2_weigh 121 = .ok (.getfield 24, 3) := by decide +kernel
theorem dX2_weigh_124 : decode cX2_weigh 124 = .ok (.iload 13, 2) := by decide +kernel
theorem dX2_weigh_126 : decode cX2_weigh 126 = .ok (.iaload, 1) := by decide +kernel
theorem dX2_weigh_127 : decode cX2_weigh 127 = .ok (.isub, 1) := by decide +kernel
theorem dX2_weigh_128 : decode cX2_weigh 128 = .ok (.iadd, 1) := by decide +kernel
theorem dX2_weigh_129 : decode cX2_weigh 129 = .ok (.istore 10, 2) := by decide +kernel
theorem dX2_weigh_131 : decode cX2_weigh 131 = .ok (.iinc 11 1, 3) := by decide +kernel
theorem dX2_weigh_134 : decode cX2_weigh 134 = .ok (.goto (-112), 3) := by decide +kernel
theorem dX2_weigh_137 : decode cX2_weigh 137 = .ok (.aload_n 0, 1) := by decide +kernel
theorem dX2_weigh_138 : decode cX2_weigh 138 = .ok (.getfield 11, 3) := by decide +kernel
theorem dX2_weigh_141 : decode cX2_weigh 141 = .ok (.iload_n 2, 1) := by decide +kernel
theorem dX2_weigh_142 : decode cX2_weigh 142 = .ok (.lload 5, 2) := by decide +kernel
theorem dX2_weigh_144 : decode cX2_weigh 144 = .ok (.invokestatic 50, 3) := by decide +kernel
theorem dX2_weigh_147 : decode cX2_weigh 147 = .ok (.iastore, 1) := by decide +kernel
theorem dX2_weigh_148 : decode cX2_weigh 148 = .ok (.aload_n 0, 1) := by decide +kernel
theorem dX2_weigh_149 : decode cX2_weigh 149 = .ok (.getfield 15, 3) := by decide +kernel
theorem dX2_weigh_152 : decode cX2_weigh 152 = .ok (.iload_n 2, 1) := by decide +kernel
theorem dX2_weigh_153 : decode cX2_weigh 153 = .ok (.iload 4, 2) := by decide +kernel
theorem dX2_weigh_155 : decode cX2_weigh 155 = .ok (.ifCond .ne 7, 3) := by decide +kernel
theorem dX2_weigh_158 : decode cX2_weigh 158 = .ok (.iload_n 3, 1) := by decide +kernel
theorem dX2_weigh_159 : decode cX2_weigh 159 = .ok (.goto 5, 3) := by decide +kernel
theorem dX2_weigh_162 : decode cX2_weigh 162 = .ok (.iload 7, 2) := by decide +kernel
theorem dX2_weigh_164 : decode cX2_weigh 164 = .ok (.iastore, 1) := by decide +kernel
theorem dX2_weigh_165 : decode cX2_weigh 165 = .ok (.aload_n 0, 1) := by decide +kernel
theorem dX2_weigh_166 : decode cX2_weigh 166 = .ok (.getfield 18, 3) := by decide +kernel
theorem dX2_weigh_169 : decode cX2_weigh 169 = .ok (.iload_n 2, 1) := by decide +kernel
theorem dX2_weigh_170 : decode cX2_weigh 170 = .ok (.iload 4, 2) := by decide +kernel
theorem dX2_weigh_172 : decode cX2_weigh 172 = .ok (.ifCond .ne 7, 3) := by decide +kernel
theorem dX2_weigh_175 : decode cX2_weigh 175 = .ok (.iconst 0, 1) := by decide +kernel
theorem dX2_weigh_176 : decode cX2_weigh 176 = .ok (.goto 5, 3) := by decide +kernel
theorem dX2_weigh_179 : decode cX2_weigh 179 = .ok (.iload 8, 2) := by decide +kernel
theorem dX2_weigh_181 : decode cX2_weigh 181 = .ok (.iastore, 1) := by decide +kernel
theorem dX2_weigh_182 : decode cX2_weigh 182 = .ok (.aload_n 0, 1) := by decide +kernel
theorem dX2_weigh_183 : decode cX2_weigh 183 = .ok (.getfield 21, 3) := by decide +kernel
theorem dX2_weigh_186 : decode cX2_weigh 186 = .ok (.iload_n 2, 1) := by decide +kernel
theorem dX2_weigh_187 : decode cX2_weigh 187 = .ok (.iload 9, 2) := by decide +kernel
theorem dX2_weigh_189 : decode cX2_weigh 189 = .ok (.iastore, 1) := by decide +kernel
theorem dX2_weigh_190 : decode cX2_weigh 190 = .ok (.aload_n 0, 1) := by decide +kernel
theorem dX2_weigh_191 : decode cX2_weigh 191 = .ok (.getfield 24, 3) := by decide +kernel
theorem dX2_weigh_194 : decode cX2_weigh 194 = .ok (.iload_n 2, 1) := by decide +kernel
theorem dX2_weigh_195 : decode cX2_weigh 195 = .ok (.iload 4, 2) := by decide +kernel
theorem dX2_weigh_197 : decode cX2_weigh 197 = .ok (.ifCond .ne 10, 3) := by decide +kernel
theorem dX2_weigh_200 : decode cX2_weigh 200 = .ok (.iload_n 3, 1) := by decide +kernel
theorem dX2_weigh_201 : decode cX2_weigh 201 = .ok (.ldc 49, 2) := by decide +kernel
theorem dX2_weigh_203 : decode cX2_weigh 203 = .ok (.imul, 1) := by decide +kernel
theorem dX2_weigh_204 : decode cX2_weigh 204 = .ok (.goto 8, 3) := by decide +kernel
theorem dX2_weigh_207 : decode cX2_weigh 207 = .ok (.iload 10, 2) := by decide +kernel
theorem dX2_weigh_209 : decode cX2_weigh 209 = .ok (.iload 4, 2) := by decide +kernel
theorem dX2_weigh_211 : decode cX2_weigh 211 = .ok (.idiv, 1) := by decide +kernel
theorem dX2_weigh_212 : decode cX2_weigh 212 = .ok (.iastore, 1) := by decide +kernel
theorem dX2_weigh_213 : decode cX2_weigh 213 = .ok (.return_, 1) := by decide +kernel
set_option maxRecDepth 20000 in
theorem ggX2_firstGood_X2_isGood : GoodIn wsX2_firstGood wsX2_isGood := goodIn_r _ [8, 9, 10, 11, 12, 13, 14, 15, 16, 17, 18, 19, 20, 27, 28, 29, 30, 31, 21, 22, 23, 24, 25, 26] (by decide +kernel) (by decide +kernel)
set_option maxRecDepth 20000 in
theorem gX2_firstGood_X2_isGood : GoodIn wsX2_firstGood (wsV RX2 54 RX2 yX2_isGood wsX2_isGood) := goodIn_app (goodIn_of _ (by decide +kernel)) ggX2_firstGood_X2_isGood
theorem dX2_firstGood_0 : decode cX2_firstGood 0 = .ok (.iconst 0, 1) := by decide +kernel
theorem dX2_firstGood_1 : decode cX2_firstGood 1 = .ok (.istore_n 3, 1) := by decide +kernel
theorem dX2_firstGood_2 : decode cX2_firstGood 2 = .ok (.iload_n 3, 1) := by decide +kernel
theorem dX2_firstGood_3 : decode cX2_firstGood 3 = .ok (.aload_n 1, 1) := by decide +kernel
theorem dX2_firstGood_4 : decode cX2_firstGood 4 = .ok (.getfield 37, 3) := by decide +kernel
theorem dX2_firstGood_7 : decode cX2_firstGood 7 = .ok (.if_icmp .ge 36, 3) := by decide +kernel
theorem dX2_firstGood_10 : decode cX2_firstGood 10 = .ok (.aload_n 0, 1) := by decide +kernel
theorem dX2_firstGood_11 : decode cX2_firstGood 11 = .ok (.aload_n 1, 1) := by decide +kernel
theorem dX2_firstGood_12 : decode cX2_firstGood 12 = .ok (.iload_n 3, 1) := by decide +kernel
theorem dX2_firstGood_13 : decode cX2_firstGood 13 = .ok (.iload_n 2, 1) := by decide +kernel
theorem dX2_firstGood_14 : decode cX2_firstGood 14 = .ok (.invokevirtual 54, 3) := by decide +kernel
theorem dX2_firstGood_17 : decode cX2_firstGood 17 = .ok (.ifCond .eq 20, 3) := by decide +kernel
theorem dX2_firstGood_20 : decode cX2_firstGood 20 = .ok (.bipush 10, 2) := by decide +kernel
theorem dX2_firstGood_22 : decode cX2_firstGood 22 = .ok (.aload_n 1, 1) := by decide +kernel
theorem dX2_firstGood_23 : decode cX2_firstGood 23 = .ok (.getfield 58, 3) := by decide +kernel
theorem dX2_firstGood_26 : decode cX2_firstGood 26 = .ok (.iload_n 3, 1) := by decide +kernel
theorem dX2_firstGood_27 : decode cX2_firstGood 27 = .ok (.iaload, 1) := by decide +kernel
theorem dX2_firstGood_28 : decode cX2_firstGood 28 = .ok (.imul, 1) := by decide +kernel
theorem dX2_firstGood_29 : decode cX2_firstGood 29 = .ok (.aload_n 1, 1) := by decide +kernel
theorem dX2_firstGood_30 : decode cX2_firstGood 30 = .ok (.getfield 61, 3) := by decide +kernel
theorem dX2_firstGood_33 : decode cX2_firstGood 33 = .ok (.iload_n 3, 1) := by decide +kernel
theorem dX2_firstGood_34 : decode cX2_firstGood 34 = .ok (.iaload, 1) := by decide +kernel
theorem dX2_firstGood_35 : decode cX2_firstGood 35 = .ok (.iadd, 1) := by decide +kernel
theorem dX2_firstGood_36 : decode cX2_firstGood 36 = .ok (.ireturn, 1) := by decide +kernel
theorem dX2_firstGood_37 : decode cX2_firstGood 37 = .ok (.iinc 3 1, 3) := by decide +kernel
theorem dX2_firstGood_40 : decode cX2_firstGood 40 = .ok (.goto (-38), 3) := by decide +kernel
theorem dX2_firstGood_43 : decode cX2_firstGood 43 = .ok (.iconst (-1), 1) := by decide +kernel
theorem dX2_firstGood_44 : decode cX2_firstGood 44 = .ok (.ireturn, 1) := by decide +kernel
set_option maxRecDepth 20000 in
theorem ggX2_howManyGood_X2_isGood : GoodIn wsX2_howManyGood wsX2_isGood := goodIn_r _ [6, 7, 8, 9, 10, 11, 12, 13, 14, 15, 16, 17, 18, 25, 26, 27, 28, 29, 19, 20, 21, 22, 23, 24] (by decide +kernel) (by decide +kernel)
set_option maxRecDepth 20000 in
theorem gX2_howManyGood_X2_isGood : GoodIn wsX2_howManyGood (wsV RX2 54 RX2 yX2_isGood wsX2_isGood) := goodIn_app (goodIn_of _ (by decide +kernel)) ggX2_howManyGood_X2_isGood
theorem dX2_howManyGood_0 : decode cX2_howManyGood 0 = .ok (.iconst 0, 1) := by decide +kernel
theorem dX2_howManyGood_1 : decode cX2_howManyGood 1 = .ok (.istore_n 3, 1) := by decide +kernel
theorem dX2_howManyGood_2 : decode cX2_howManyGood 2 = .ok (.iconst 0, 1) := by decide +kernel
theorem dX2_howManyGood_3 : decode cX2_howManyGood 3 = .ok (.istore 4, 2) := by decide +kernel
theorem dX2_howManyGood_5 : decode cX2_howManyGood 5 = .ok (.iload 4, 2) := by decide +kernel
theorem dX2_howManyGood_7 : decode cX2_howManyGood 7 = .ok (.aload_n 1, 1) := by decide +kernel
theorem dX2_howManyGood_8 : decode cX2_howManyGood 8 = .ok (.getfield 37, 3) := by decide +kernel
theorem dX2_howManyGood_11 : decode cX2_howManyGood 11 = .ok (.if_icmp .ge 23, 3) := by decide +kernel
theorem dX2_howManyGood_14 : decode cX2_howManyGood 14 = .ok (.aload_n 0, 1) := by decide +kernel
theorem dX2_howManyGood_15 : decode cX2_howManyGood 15 = .ok (.aload_n 1, 1) := by decide +kernel
theorem dX2_howManyGood_16 : decode cX2_howManyGood 16 = .ok (.iload 4, 2) := by decide +kernel
theorem dX2_howManyGood_18 : decode cX2_howManyGood 18 = .ok (.iload_n 2, 1) := by decide +kernel
theorem dX2_howManyGood_19 : decode cX2_howManyGood 19 = .ok (.invokevirtual 54, 3) := by decide +kernel
theorem dX2_howManyGood_22 : decode cX2_howManyGood 22 = .ok (.ifCond .eq 6, 3) := by decide +kernel
theorem dX2_howManyGood_25 : decode cX2_howManyGood 25 = .ok (.iinc 3 1, 3) := by decide +kernel
theorem dX2_howManyGood_28 : decode cX2_howManyGood 28 = .ok (.iinc 4 1, 3) := by decide +kernel
theorem dX2_howManyGood_31 : decode cX2_howManyGood 31 = .ok (.goto (-26), 3) := by decide +kernel
theorem dX2_howManyGood_34 : decode cX2_howManyGood 34 = .ok (.iload_n 3, 1) := by decide +kernel
theorem dX2_howManyGood_35 : decode cX2_howManyGood 35 = .ok (.ireturn, 1) := by decide +kernel
set_option maxRecDepth 20000 in
theorem ggX2_isGood_X6_fallen : GoodIn wsX2_isGood wsX6_fallen := goodIn_r _ [6, 7, 8, 9, 10, 11, 12, 18, 19, 20, 21, 22, 23] (by decide +kernel) (by decide +kernel)
set_option maxRecDepth 20000 in
theorem gX2_isGood_X6_fallen : GoodIn wsX2_isGood (wsV RX2 43 RX6 yX6_fallen wsX6_fallen) := goodIn_app (goodIn_of _ (by decide +kernel)) ggX2_isGood_X6_fallen
theorem dX2_isGood_0 : decode cX2_isGood 0 = .ok (.aload_n 1, 1) := by decide +kernel
theorem dX2_isGood_1 : decode cX2_isGood 1 = .ok (.iload_n 2, 1) := by decide +kernel
theorem dX2_isGood_2 : decode cX2_isGood 2 = .ok (.iload_n 3, 1) := by decide +kernel
theorem dX2_isGood_3 : decode cX2_isGood 3 = .ok (.invokevirtual 43, 3) := by decide +kernel
theorem dX2_isGood_6 : decode cX2_isGood 6 = .ok (.istore 4, 2) := by decide +kernel
theorem dX2_isGood_8 : decode cX2_isGood 8 = .ok (.iload 4, 2) := by decide +kernel
theorem dX2_isGood_10 : decode cX2_isGood 10 = .ok (.ifCond .eq 21, 3) := by decide +kernel
theorem dX2_isGood_13 : decode cX2_isGood 13 = .ok (.aload_n 0, 1) := by decide +kernel
theorem dX2_isGood_14 : decode cX2_isGood 14 = .ok (.getfield 15, 3) := by decide +kernel
theorem dX2_isGood_17 : decode cX2_isGood 17 = .ok (.iload_n 3, 1) := by decide +kernel
theorem dX2_isGood_18 : decode cX2_isGood 18 = .ok (.iload 4, 2) := by decide +kernel
theorem dX2_isGood_20 : decode cX2_isGood 20 = .ok (.iconst (-1), 1) := by decide +kernel
theorem dX2_isGood_21 : decode cX2_isGood 21 = .ok (.ixor, 1) := by decide +kernel
theorem dX2_isGood_22 : decode cX2_isGood 22 = .ok (.iand, 1) := by decide +kernel
theorem dX2_isGood_23 : decode cX2_isGood 23 = .ok (.iaload, 1) := by decide +kernel
theorem dX2_isGood_24 : decode cX2_isGood 24 = .ok (.ifCond .ne 7, 3) := by decide +kernel
theorem dX2_isGood_27 : decode cX2_isGood 27 = .ok (.iconst 1, 1) := by decide +kernel
theorem dX2_isGood_28 : decode cX2_isGood 28 = .ok (.goto 4, 3) := by decide +kernel
theorem dX2_isGood_31 : decode cX2_isGood 31 = .ok (.iconst 0, 1) := by decide +kernel
theorem dX2_isGood_32 : decode cX2_isGood 32 = .ok (.ireturn, 1) := by decide +kernel
set_option maxRecDepth 20000 in
theorem ggX3_init_X1_init : GoodIn wsX3_init wsX1_init := goodIn_r _ [9, 10, 2, 3, 11, 12, 13, 14, 15, 16, 17, 18, 19, 20, 21, 22, 23, 24, 25, 26, 27, 28, 29, 30, 31, 32, 33, 34, 35, 36, 39, 40, 41, 42] (by decide +kernel) (by decide +kernel)
set_option maxRecDepth 20000 in
theorem gX3_init_X1_init_n11 : GoodIn wsX3_init (wsX1_init) := ggX3_init_X1_init
theorem dX3_init_0 : decode cX3_init 0 = .ok (.aload_n 0, 1) := by decide +kernel
theorem dX3_init_1 : decode cX3_init 1 = .ok (.invokespecial 3, 3) := by decide +kernel
theorem dX3_init_4 : decode cX3_init 4 = .ok (.aload_n 0, 1) := by decide +kernel
theorem dX3_init_5 : decode cX3_init 5 = .ok (.new 9, 3) := by decide +kernel
theorem dX3_init_8 : decode cX3_init 8 = .ok (.dup, 1) := by decide +kernel
theorem dX3_init_9 : decode cX3_init 9 = .ok (.invokespecial 11, 3) := by decide +kernel
theorem dX3_init_12 : decode cX3_init 12 = .ok (.putfield 12, 3) := by decide +kernel
theorem dX3_init_15 : decode cX3_init 15 = .ok (.return_, 1) := by decide +kernel
set_option maxRecDepth 20000 in
theorem ggX3_begin_X1_addLane : GoodIn wsX3_begin wsX1_addLane := goodIn_r _ [9, 10, 11, 12, 13, 16, 17, 18, 19, 20, 21, 22, 23, 24, 25, 26] (by decide +kernel) (by decide +kernel)
set_option maxRecDepth 20000 in
theorem gX3_begin_X1_addLane : GoodIn wsX3_begin (wsV RX3 25 RX1 yX1_addLane wsX1_addLane) := goodIn_app (goodIn_of _ (by decide +kernel)) ggX3_begin_X1_addLane
theorem dX3_begin_0 : decode cX3_begin 0 = .ok (.aload_n 0, 1) := by decide +kernel
theorem dX3_begin_1 : decode cX3_begin 1 = .ok (.getfield 12, 3) := by decide +kernel
theorem dX3_begin_4 : decode cX3_begin 4 = .ok (.iconst 0, 1) := by decide +kernel
theorem dX3_begin_5 : decode cX3_begin 5 = .ok (.putfield 18, 3) := by decide +kernel
theorem dX3_begin_8 : decode cX3_begin 8 = .ok (.aload_n 0, 1) := by decide +kernel
theorem dX3_begin_9 : decode cX3_begin 9 = .ok (.getfield 12, 3) := by decide +kernel
theorem dX3_begin_12 : decode cX3_begin 12 = .ok (.iconst 0, 1) := by decide +kernel
theorem dX3_begin_13 : decode cX3_begin 13 = .ok (.putfield 22, 3) := by decide +kernel
theorem dX3_begin_16 : decode cX3_begin 16 = .ok (.aload_n 0, 1) := by decide +kernel
theorem dX3_begin_17 : decode cX3_begin 17 = .ok (.getfield 12, 3) := by decide +kernel
theorem dX3_begin_20 : decode cX3_begin 20 = .ok (.invokevirtual 25, 3) := by decide +kernel
theorem dX3_begin_23 : decode cX3_begin 23 = .ok (.pop, 1) := by decide +kernel
theorem dX3_begin_24 : decode cX3_begin 24 = .ok (.aload_n 0, 1) := by decide +kernel
theorem dX3_begin_25 : decode cX3_begin 25 = .ok (.iconst 0, 1) := by decide +kernel
theorem dX3_begin_26 : decode cX3_begin 26 = .ok (.putfield 29, 3) := by decide +kernel
theorem dX3_begin_29 : decode cX3_begin 29 = .ok (.return_, 1) := by decide +kernel
theorem dX3_isWhole_0 : decode cX3_isWhole 0 = .ok (.aload_n 0, 1) := by decide +kernel
theorem dX3_isWhole_1 : decode cX3_isWhole 1 = .ok (.getfield 29, 3) := by decide +kernel
theorem dX3_isWhole_4 : decode cX3_isWhole 4 = .ok (.iconst 3, 1) := by decide +kernel
theorem dX3_isWhole_5 : decode cX3_isWhole 5 = .ok (.if_icmp .ne 7, 3) := by decide +kernel
theorem dX3_isWhole_8 : decode cX3_isWhole 8 = .ok (.iconst 1, 1) := by decide +kernel
theorem dX3_isWhole_9 : decode cX3_isWhole 9 = .ok (.goto 4, 3) := by decide +kernel
theorem dX3_isWhole_12 : decode cX3_isWhole 12 = .ok (.iconst 0, 1) := by decide +kernel
theorem dX3_isWhole_13 : decode cX3_isWhole 13 = .ok (.ireturn, 1) := by decide +kernel
set_option maxRecDepth 20000 in
theorem ggX3_takes_X3_takesInLanes : GoodIn wsX3_takes wsX3_takesInLanes := goodIn_r _ [6, 7, 1, 8, 9, 10, 11, 12, 13, 14, 15, 16, 17, 18, 19, 20, 21, 22, 23, 24, 25, 26, 27, 28, 29, 30, 31, 32, 33, 34, 35, 36, 37, 38, 39, 40, 41, 42, 43, 44, 45, 46, 47, 48, 49, 50, 51, 52, 53, 54, 55, 56, 57, 58, 59, 60, 61, 62, 63, 64, 65, 66, 67, 68, 69, 70, 71, 72, 73, 74, 75, 76, 77, 78, 79, 80, 81, 82, 83, 84, 85, 86, 87, 88, 89, 90, 91, 92, 93, 94, 95, 96, 97, 98, 99, 100, 101, 102, 103, 104, 105, 106, 107, 108, 109, 110, 111, 112, 113, 114, 115, 116, 117, 118, 119, 133, 134, 135, 136, 137, 138, 139, 140, 141, 142, 143, 144, 145] (by decide +kernel) (by decide +kernel)
set_option maxRecDepth 20000 in
theorem gX3_takes_X3_takesInLanes : GoodIn wsX3_takes (wsV RX3 32 RX3 yX3_takesInLanes wsX3_takesInLanes) := goodIn_app (goodIn_of _ (by decide +kernel)) ggX3_takes_X3_takesInLanes
set_option maxRecDepth 20000 in
theorem ggX3_takes_X3_takesBall : GoodIn wsX3_takes wsX3_takesBall := goodIn_r _ [123, 7, 124, 1, 125, 126, 127, 133, 134, 135, 136, 137, 138, 139, 140, 141, 142, 143, 144, 145] (by decide +kernel) (by decide +kernel)
set_option maxRecDepth 20000 in
theorem gX3_takes_X3_takesBall : GoodIn wsX3_takes (wsV RX3 36 RX3 yX3_takesBall wsX3_takesBall) := goodIn_app (goodIn_of _ (by decide +kernel)) ggX3_takes_X3_takesBall
set_option maxRecDepth 20000 in
theorem ggX3_takes_X3_takesLaw : GoodIn wsX3_takes wsX3_takesLaw := goodIn_r _ [131, 7, 132, 1, 133, 134, 135, 136, 137, 138, 139, 140, 141, 142, 143, 144, 145] (by decide +kernel) (by decide +kernel)
set_option maxRecDepth 20000 in
theorem gX3_takes_X3_takesLaw : GoodIn wsX3_takes (wsV RX3 39 RX3 yX3_takesLaw wsX3_takesLaw) := goodIn_app (goodIn_of _ (by decide +kernel)) ggX3_takes_X3_takesLaw
theorem dX3_takes_0 : decode cX3_takes 0 = .ok (.aload_n 0, 1) := by decide +kernel
theorem dX3_takes_1 : decode cX3_takes 1 = .ok (.getfield 29, 3) := by decide +kernel
theorem dX3_takes_4 : decode cX3_takes 4 = .ok (.tableswitch 46 0 2 #[28, 34, 40], 28) := by decide +kernel
theorem dX3_takes_32 : decode cX3_takes 32 = .ok (.aload_n 0, 1) := by decide +kernel
theorem dX3_takes_33 : decode cX3_takes 33 = .ok (.iload_n 1, 1) := by decide +kernel
theorem dX3_takes_34 : decode cX3_takes 34 = .ok (.invokevirtual 32, 3) := by decide +kernel
theorem dX3_takes_37 : decode cX3_takes 37 = .ok (.ireturn, 1) := by decide +kernel
theorem dX3_takes_38 : decode cX3_takes 38 = .ok (.aload_n 0, 1) := by decide +kernel
theorem dX3_takes_39 : decode cX3_takes 39 = .ok (.iload_n 1, 1) := by decide +kernel
theorem dX3_takes_40 : decode cX3_takes 40 = .ok (.invokevirtual 36, 3) := by decide +kernel
theorem dX3_takes_43 : decode cX3_takes 43 = .ok (.ireturn, 1) := by decide +kernel
theorem dX3_takes_44 : decode cX3_takes 44 = .ok (.aload_n 0, 1) := by decide +kernel
theorem dX3_takes_45 : decode cX3_takes 45 = .ok (.iload_n 1, 1) := by decide +kernel
theorem dX3_takes_46 : decode cX3_takes 46 = .ok (.invokevirtual 39, 3) := by decide +kernel
theorem dX3_takes_49 : decode cX3_takes 49 = .ok (.ireturn, 1) := by decide +kernel
theorem dX3_takes_50 : decode cX3_takes 50 = .ok (.iconst 0, 1) := by decide +kernel
theorem dX3_takes_51 : decode cX3_takes 51 = .ok (.ireturn, 1) := by decide +kernel
set_option maxRecDepth 20000 in
theorem ggX3_takesInLanes_X1_lastLaneHasPins : GoodIn wsX3_takesInLanes wsX1_lastLaneHasPins := goodIn_r _ [7, 8, 9, 10, 11, 12, 6, 13, 117, 118, 119, 120, 121, 122, 123, 124, 125, 126, 127] (by decide +kernel) (by decide +kernel)
set_option maxRecDepth 20000 in
theorem gX3_takesInLanes_X1_lastLaneHasPins : GoodIn wsX3_takesInLanes (wsV RX3 42 RX1 yX1_lastLaneHasPins wsX1_lastLaneHasPins) := goodIn_app (goodIn_of _ (by decide +kernel)) ggX3_takesInLanes_X1_lastLaneHasPins
set_option maxRecDepth 20000 in
theorem ggX3_takesInLanes_X1_addLane : GoodIn wsX3_takesInLanes wsX1_addLane := goodIn_r _ [17, 8, 18, 19, 9, 117, 118, 119, 120, 121, 122, 123, 124, 125, 126, 127] (by decide +kernel) (by decide +kernel)
set_option maxRecDepth 20000 in
theorem gX3_takesInLanes_X1_addLane : GoodIn wsX3_takesInLanes (wsV RX3 25 RX1 yX1_addLane wsX1_addLane) := goodIn_app (goodIn_of _ (by decide +kernel)) ggX3_takesInLanes_X1_addLane
set_option maxRecDepth 20000 in
theorem ggX3_takesInLanes_J0_indexOf_0f7a4 : GoodIn wsX3_takesInLanes wsJ0_indexOf_0f7a4 := goodIn_r _ [24, 25, 26, 27, 23, 28, 29, 30, 31, 32, 33, 34, 35, 36, 37, 38, 39, 40, 41, 42, 43, 44, 45, 46, 47, 48, 49, 50, 51, 52, 53, 54, 55, 56, 57, 58, 59, 60, 61, 62, 63, 64, 65, 66, 67, 68, 69, 70, 71, 72, 73, 74, 75, 76, 77, 78, 79, 80, 81, 82, 83, 84, 85, 86, 87, 88, 89, 90, 91, 92, 93, 94, 95, 96, 97, 98, 99, 100, 101, 102, 103, 104, 105, 106, 107, 108] (by decide +kernel) (by decide +kernel)
set_option maxRecDepth 20000 in
theorem gX3_takesInLanes_J0_indexOf_0f7a4 : GoodIn wsX3_takesInLanes (wsV RX3 47 RJ0 yJ0_indexOf_0f7a4 wsJ0_indexOf_0f7a4) := goodIn_app (goodIn_of _ (by decide +kernel)) ggX3_takesInLanes_J0_indexOf_0f7a4
set_option maxRecDepth 20000 in
theorem ggX3_takesInLanes_X1_addPin : GoodIn wsX3_takesInLanes wsX1_addPin := goodIn_r _ [112, 8, 9, 18, 113, 114, 10, 11, 12, 6, 13, 117, 118, 119, 120, 121, 122, 123, 124, 125, 126, 127] (by decide +kernel) (by decide +kernel)
set_option maxRecDepth 20000 in
theorem gX3_takesInLanes_X1_addPin : GoodIn wsX3_takesInLanes (wsV RX3 53 RX1 yX1_addPin wsX1_addPin) := goodIn_app (goodIn_of _ (by decide +kernel)) ggX3_takesInLanes_X1_addPin
theorem dX3_takesInLanes_0 : decode cX3_takesInLanes 0 = .ok (.iload_n 1, 1) := by decide +kernel
theorem dX3_takesInLanes_1 : decode cX3_takesInLanes 1 = .ok (.bipush 44, 2) := by decide +kernel
theorem dX3_takesInLanes_3 : decode cX3_takesInLanes 3 = .ok (.if_icmp .ne 29, 3) := by decide +kernel
theorem dX3_takesInLanes_6 : decode cX3_takesInLanes 6 = .ok (.aload_n 0, 1) := by decide +kernel
theorem dX3_takesInLanes_7 : decode cX3_takesInLanes 7 = .ok (.getfield 12, 3) := by decide +kernel
theorem dX3_takesInLanes_10 : decode cX3_takesInLanes 10 = .ok (.invokevirtual 42, 3) := by decide +kernel
theorem dX3_takesInLanes_13 : decode cX3_takesInLanes 13 = .ok (.ifCond .eq 17, 3) := by decide +kernel
theorem dX3_takesInLanes_16 : decode cX3_takesInLanes 16 = .ok (.aload_n 0, 1) := by decide +kernel
theorem dX3_takesInLanes_17 : decode cX3_takesInLanes 17 = .ok (.getfield 12, 3) := by decide +kernel
theorem dX3_takesInLanes_20 : decode cX3_takesInLanes 20 = .ok (.invokevirtual 25, 3) := by decide +kernel
theorem dX3_takesInLanes_23 : decode cX3_takesInLanes 23 = .ok (.ifCond .eq 7, 3) := by decide +kernel
theorem dX3_takesInLanes_26 : decode cX3_takesInLanes 26 = .ok (.iconst 1, 1) := by decide +kernel
theorem dX3_takesInLanes_27 : decode cX3_takesInLanes 27 = .ok (.goto 4, 3) := by decide +kernel
theorem dX3_takesInLanes_30 : decode cX3_takesInLanes 30 = .ok (.iconst 0, 1) := by decide +kernel
theorem dX3_takesInLanes_31 : decode cX3_takesInLanes 31 = .ok (.ireturn, 1) := by decide +kernel
theorem dX3_takesInLanes_32 : decode cX3_takesInLanes 32 = .ok (.iload_n 1, 1) := by decide +kernel
theorem dX3_takesInLanes_33 : decode cX3_takesInLanes 33 = .ok (.bipush 59, 2) := by decide +kernel
theorem dX3_takesInLanes_35 : decode cX3_takesInLanes 35 = .ok (.if_icmp .ne 16, 3) := by decide +kernel
theorem dX3_takesInLanes_38 : decode cX3_takesInLanes 38 = .ok (.aload_n 0, 1) := by decide +kernel
theorem dX3_takesInLanes_39 : decode cX3_takesInLanes 39 = .ok (.iconst 1, 1) := by decide +kernel
theorem dX3_takesInLanes_40 : decode cX3_takesInLanes 40 = .ok (.putfield 29, 3) := by decide +kernel
theorem dX3_takesInLanes_43 : decode cX3_takesInLanes 43 = .ok (.aload_n 0, 1) := by decide +kernel
theorem dX3_takesInLanes_44 : decode cX3_takesInLanes 44 = .ok (.getfield 12, 3) := by decide +kernel
theorem dX3_takesInLanes_47 : decode cX3_takesInLanes 47 = .ok (.invokevirtual 42, 3) := by decide +kernel
theorem dX3_takesInLanes_50 : decode cX3_takesInLanes 50 = .ok (.ireturn, 1) := by decide +kernel
theorem dX3_takesInLanes_51 : decode cX3_takesInLanes 51 = .ok (.ldc 45, 2) := by decide +kernel
theorem dX3_takesInLanes_53 : decode cX3_takesInLanes 53 = .ok (.iload_n 1, 1) := by decide +kernel
theorem dX3_takesInLanes_54 : decode cX3_takesInLanes 54 = .ok (.invokevirtual 47, 3) := by decide +kernel
theorem dX3_takesInLanes_57 : decode cX3_takesInLanes 57 = .ok (.istore_n 2, 1) := by decide +kernel
theorem dX3_takesInLanes_58 : decode cX3_takesInLanes 58 = .ok (.iload_n 2, 1) := by decide +kernel
theorem dX3_takesInLanes_59 : decode cX3_takesInLanes 59 = .ok (.ifCond .lt 18, 3) := by decide +kernel
theorem dX3_takesInLanes_62 : decode cX3_takesInLanes 62 = .ok (.aload_n 0, 1) := by decide +kernel
theorem dX3_takesInLanes_63 : decode cX3_takesInLanes 63 = .ok (.getfield 12, 3) := by decide +kernel
theorem dX3_takesInLanes_66 : decode cX3_takesInLanes 66 = .ok (.iload_n 2, 1) := by decide +kernel
theorem dX3_takesInLanes_67 : decode cX3_takesInLanes 67 = .ok (.invokevirtual 53, 3) := by decide +kernel
theorem dX3_takesInLanes_70 : decode cX3_takesInLanes 70 = .ok (.ifCond .eq 7, 3) := by decide +kernel
theorem dX3_takesInLanes_73 : decode cX3_takesInLanes 73 = .ok (.iconst 1, 1) := by decide +kernel
theorem dX3_takesInLanes_74 : decode cX3_takesInLanes 74 = .ok (.goto 4, 3) := by decide +kernel
theorem dX3_takesInLanes_77 : decode cX3_takesInLanes 77 = .ok (.iconst 0, 1) := by decide +kernel
theorem dX3_takesInLanes_78 : decode cX3_takesInLanes 78 = .ok (.ireturn, 1) := by decide +kernel
set_option maxRecDepth 20000 in
theorem ggX3_takesBall_X7_isBall : GoodIn wsX3_takesBall wsX7_isBall := goodIn_r _ [6] (by decide +kernel) (by decide +kernel)
set_option maxRecDepth 20000 in
theorem gX3_takesBall_X7_isBall_n60 : GoodIn wsX3_takesBall (wsX7_isBall) := ggX3_takesBall_X7_isBall
theorem dX3_takesBall_0 : decode cX3_takesBall 0 = .ok (.aload_n 0, 1) := by decide +kernel
theorem dX3_takesBall_1 : decode cX3_takesBall 1 = .ok (.getfield 12, 3) := by decide +kernel
theorem dX3_takesBall_4 : decode cX3_takesBall 4 = .ok (.iload_n 1, 1) := by decide +kernel
theorem dX3_takesBall_5 : decode cX3_takesBall 5 = .ok (.bipush 48, 2) := by decide +kernel
theorem dX3_takesBall_7 : decode cX3_takesBall 7 = .ok (.isub, 1) := by decide +kernel
theorem dX3_takesBall_8 : decode cX3_takesBall 8 = .ok (.putfield 57, 3) := by decide +kernel
theorem dX3_takesBall_11 : decode cX3_takesBall 11 = .ok (.aload_n 0, 1) := by decide +kernel
theorem dX3_takesBall_12 : decode cX3_takesBall 12 = .ok (.iconst 2, 1) := by decide +kernel
theorem dX3_takesBall_13 : decode cX3_takesBall 13 = .ok (.putfield 29, 3) := by decide +kernel
theorem dX3_takesBall_16 : decode cX3_takesBall 16 = .ok (.aload_n 0, 1) := by decide +kernel
theorem dX3_takesBall_17 : decode cX3_takesBall 17 = .ok (.getfield 12, 3) := by decide +kernel
theorem dX3_takesBall_20 : decode cX3_takesBall 20 = .ok (.getfield 57, 3) := by decide +kernel
theorem dX3_takesBall_23 : decode cX3_takesBall 23 = .ok (.invokestatic 60, 3) := by decide +kernel
theorem dX3_takesBall_26 : decode cX3_takesBall 26 = .ok (.ireturn, 1) := by decide +kernel
theorem dX3_takesLaw_0 : decode cX3_takesLaw 0 = .ok (.aload_n 0, 1) := by decide +kernel
theorem dX3_takesLaw_1 : decode cX3_takesLaw 1 = .ok (.getfield 12, 3) := by decide +kernel
theorem dX3_takesLaw_4 : decode cX3_takesLaw 4 = .ok (.iload_n 1, 1) := by decide +kernel
theorem dX3_takesLaw_5 : decode cX3_takesLaw 5 = .ok (.bipush 108, 2) := by decide +kernel
theorem dX3_takesLaw_7 : decode cX3_takesLaw 7 = .ok (.if_icmp .ne 7, 3) := by decide +kernel
theorem dX3_takesLaw_10 : decode cX3_takesLaw 10 = .ok (.iconst 1, 1) := by decide +kernel
theorem dX3_takesLaw_11 : decode cX3_takesLaw 11 = .ok (.goto 4, 3) := by decide +kernel
theorem dX3_takesLaw_14 : decode cX3_takesLaw 14 = .ok (.iconst 0, 1) := by decide +kernel
theorem dX3_takesLaw_15 : decode cX3_takesLaw 15 = .ok (.putfield 63, 3) := by decide +kernel
theorem dX3_takesLaw_18 : decode cX3_takesLaw 18 = .ok (.aload_n 0, 1) := by decide +kernel
theorem dX3_takesLaw_19 : decode cX3_takesLaw 19 = .ok (.iconst 3, 1) := by decide +kernel
theorem dX3_takesLaw_20 : decode cX3_takesLaw 20 = .ok (.putfield 29, 3) := by decide +kernel
theorem dX3_takesLaw_23 : decode cX3_takesLaw 23 = .ok (.iload_n 1, 1) := by decide +kernel
theorem dX3_takesLaw_24 : decode cX3_takesLaw 24 = .ok (.bipush 119, 2) := by decide +kernel
theorem dX3_takesLaw_26 : decode cX3_takesLaw 26 = .ok (.if_icmp .eq 9, 3) := by decide +kernel
theorem dX3_takesLaw_29 : decode cX3_takesLaw 29 = .ok (.iload_n 1, 1) := by decide +kernel
theorem dX3_takesLaw_30 : decode cX3_takesLaw 30 = .ok (.bipush 108, 2) := by decide +kernel
theorem dX3_takesLaw_32 : decode cX3_takesLaw 32 = .ok (.if_icmp .ne 7, 3) := by decide +kernel
theorem dX3_takesLaw_35 : decode cX3_takesLaw 35 = .ok (.iconst 1, 1) := by decide +kernel
theorem dX3_takesLaw_36 : decode cX3_takesLaw 36 = .ok (.goto 4, 3) := by decide +kernel
theorem dX3_takesLaw_39 : decode cX3_takesLaw 39 = .ok (.iconst 0, 1) := by decide +kernel
theorem dX3_takesLaw_40 : decode cX3_takesLaw 40 = .ok (.ireturn, 1) := by decide +kernel
theorem dX4_init_0 : decode cX4_init 0 = .ok (.aload_n 0, 1) := by decide +kernel
theorem dX4_init_1 : decode cX4_init 1 = .ok (.invokespecial 3, 3) := by decide +kernel
theorem dX4_init_4 : decode cX4_init 4 = .ok (.aload_n 0, 1) := by decide +kernel
theorem dX4_init_5 : decode cX4_init 5 = .ok (.bipush 41, 2) := by decide +kernel
theorem dX4_init_7 : decode cX4_init 7 = .ok (.newarray .int, 2) := by decide +kernel
theorem dX4_init_9 : decode cX4_init 9 = .ok (.putfield 9, 3) := by decide +kernel
theorem dX4_init_12 : decode cX4_init 12 = .ok (.return_, 1) := by decide +kernel
set_option maxRecDepth 20000 in
theorem ggX4_fillFor_X4_numberOf : GoodIn wsX4_fillFor wsX4_numberOf := goodIn_r _ [7, 2, 8, 9, 10, 11, 12] (by decide +kernel) (by decide +kernel)
set_option maxRecDepth 20000 in
theorem gX4_fillFor_X4_numberOf : GoodIn wsX4_fillFor (wsV RX4 19 RX4 yX4_numberOf wsX4_numberOf) := goodIn_app (goodIn_of _ (by decide +kernel)) ggX4_fillFor_X4_numberOf
theorem dX4_fillFor_0 : decode cX4_fillFor 0 = .ok (.aload_n 0, 1) := by decide +kernel
theorem dX4_fillFor_1 : decode cX4_fillFor 1 = .ok (.getfield 15, 3) := by decide +kernel
theorem dX4_fillFor_4 : decode cX4_fillFor 4 = .ok (.iload_n 1, 1) := by decide +kernel
theorem dX4_fillFor_5 : decode cX4_fillFor 5 = .ok (.if_icmp .ne 4, 3) := by decide +kernel
theorem dX4_fillFor_8 : decode cX4_fillFor 8 = .ok (.return_, 1) := by decide +kernel
theorem dX4_fillFor_9 : decode cX4_fillFor 9 = .ok (.iconst 0, 1) := by decide +kernel
theorem dX4_fillFor_10 : decode cX4_fillFor 10 = .ok (.istore_n 2, 1) := by decide +kernel
theorem dX4_fillFor_11 : decode cX4_fillFor 11 = .ok (.iload_n 2, 1) := by decide +kernel
theorem dX4_fillFor_12 : decode cX4_fillFor 12 = .ok (.bipush 40, 2) := by decide +kernel
theorem dX4_fillFor_14 : decode cX4_fillFor 14 = .ok (.if_icmp .gt 21, 3) := by decide +kernel
theorem dX4_fillFor_17 : decode cX4_fillFor 17 = .ok (.aload_n 0, 1) := by decide +kernel
theorem dX4_fillFor_18 : decode cX4_fillFor 18 = .ok (.getfield 9, 3) := by decide +kernel
theorem dX4_fillFor_21 : decode cX4_fillFor 21 = .ok (.iload_n 2, 1) := by decide +kernel
theorem dX4_fillFor_22 : decode cX4_fillFor 22 = .ok (.aload_n 0, 1) := by decide +kernel
theorem dX4_fillFor_23 : decode cX4_fillFor 23 = .ok (.iload_n 2, 1) := by decide +kernel
theorem dX4_fillFor_24 : decode cX4_fillFor 24 = .ok (.iload_n 1, 1) := by decide +kernel
theorem dX4_fillFor_25 : decode cX4_fillFor 25 = .ok (.invokevirtual 19, 3) := by decide +kernel
theorem dX4_fillFor_28 : decode cX4_fillFor 28 = .ok (.iastore, 1) := by decide +kernel
theorem dX4_fillFor_29 : decode cX4_fillFor 29 = .ok (.iinc 2 1, 3) := by decide +kernel
theorem dX4_fillFor_32 : decode cX4_fillFor 32 = .ok (.goto (-21), 3) := by decide +kernel
theorem dX4_fillFor_35 : decode cX4_fillFor 35 = .ok (.aload_n 0, 1) := by decide +kernel
theorem dX4_fillFor_36 : decode cX4_fillFor 36 = .ok (.iload_n 1, 1) := by decide +kernel
theorem dX4_fillFor_37 : decode cX4_fillFor 37 = .ok (.putfield 15, 3) := by decide +kernel
theorem dX4_fillFor_40 : decode cX4_fillFor 40 = .ok (.return_, 1) := by decide +kernel
set_option maxRecDepth 20000 in
theorem ggX4_numberOf_X7_leastNotIn : GoodIn wsX4_numberOf wsX7_leastNotIn := goodIn_r _ [4] (by decide +kernel) (by decide +kernel)
set_option maxRecDepth 20000 in
theorem gX4_numberOf_X7_leastNotIn_n23 : GoodIn wsX4_numberOf (wsX7_leastNotIn) := ggX4_numberOf_X7_leastNotIn
theorem dX4_numberOf_0 : decode cX4_numberOf 0 = .ok (.lconst 0, 1) := by decide +kernel
theorem dX4_numberOf_1 : decode cX4_numberOf 1 = .ok (.lstore_n 3, 1) := by decide +kernel
theorem dX4_numberOf_2 : decode cX4_numberOf 2 = .ok (.iconst 1, 1) := by decide +kernel
theorem dX4_numberOf_3 : decode cX4_numberOf 3 = .ok (.istore 5, 2) := by decide +kernel
theorem dX4_numberOf_5 : decode cX4_numberOf 5 = .ok (.iload 5, 2) := by decide +kernel
theorem dX4_numberOf_7 : decode cX4_numberOf 7 = .ok (.iload_n 2, 1) := by decide +kernel
theorem dX4_numberOf_8 : decode cX4_numberOf 8 = .ok (.if_icmp .gt 60, 3) := by decide +kernel
theorem dX4_numberOf_11 : decode cX4_numberOf 11 = .ok (.iload 5, 2) := by decide +kernel
theorem dX4_numberOf_13 : decode cX4_numberOf 13 = .ok (.iload_n 1, 1) := by decide +kernel
theorem dX4_numberOf_14 : decode cX4_numberOf 14 = .ok (.if_icmp .gt 54, 3) := by decide +kernel
theorem dX4_numberOf_17 : decode cX4_numberOf 17 = .ok (.iload_n 1, 1) := by decide +kernel
theorem dX4_numberOf_18 : decode cX4_numberOf 18 = .ok (.iload 5, 2) := by decide +kernel
theorem dX4_numberOf_20 : decode cX4_numberOf 20 = .ok (.isub, 1) := by decide +kernel
theorem dX4_numberOf_21 : decode cX4_numberOf 21 = .ok (.istore 6, 2) := by decide +kernel
theorem dX4_numberOf_23 : decode cX4_numberOf 23 = .ok (.iconst 0, 1) := by decide +kernel
theorem dX4_numberOf_24 : decode cX4_numberOf 24 = .ok (.istore 7, 2) := by decide +kernel
theorem dX4_numberOf_26 : decode cX4_numberOf 26 = .ok (.iload 7, 2) := by decide +kernel
theorem dX4_numberOf_28 : decode cX4_numberOf 28 = .ok (.iload 6, 2) := by decide +kernel
theorem dX4_numberOf_30 : decode cX4_numberOf 30 = .ok (.if_icmp .gt 32, 3) := by decide +kernel
theorem dX4_numberOf_33 : decode cX4_numberOf 33 = .ok (.lload_n 3, 1) := by decide +kernel
theorem dX4_numberOf_34 : decode cX4_numberOf 34 = .ok (.lconst 1, 1) := by decide +kernel
theorem dX4_numberOf_35 : decode cX4_numberOf 35 = .ok (.aload_n 0, 1) := by decide +kernel
theorem dX4_numberOf_36 : decode cX4_numberOf 36 = .ok (.getfield 9, 3) := by decide +kernel
theorem dX4_numberOf_39 : decode cX4_numberOf 39 = .ok (.iload 7, 2) := by decide +kernel
theorem dX4_numberOf_41 : decode cX4_numberOf 41 = .ok (.iaload, 1) := by decide +kernel
theorem dX4_numberOf_42 : decode cX4_numberOf 42 = .ok (.aload_n 0, 1) := by decide +kernel
theorem dX4_numberOf_43 : decode cX4_numberOf 43 = .ok (.getfield 9, 3) := by decide +kernel
theorem dX4_numberOf_46 : decode cX4_numberOf 46 = .ok (.iload 6, 2) := by decide +kernel
theorem dX4_numberOf_48 : decode cX4_numberOf 48 = .ok (.iload 7, 2) := by decide +kernel
theorem dX4_numberOf_50 : decode cX4_numberOf 50 = .ok (.isub, 1) := by decide +kernel
theorem dX4_numberOf_51 : decode cX4_numberOf 51 = .ok (.iaload, 1) := by decide +kernel
theorem dX4_numberOf_52 : decode cX4_numberOf 52 = .ok (.ixor, 1) := by decide +kernel
theorem dX4_numberOf_53 : decode cX4_numberOf 53 = .ok (.lshl, 1) := by decide +kernel
theorem dX4_numberOf_54 : decode cX4_numberOf 54 = .ok (.lor, 1) := by decide +kernel
theorem dX4_numberOf_55 : decode cX4_numberOf 55 = .ok (.lstore_n 3, 1) := by decide +kernel
theorem dX4_numberOf_56 : decode cX4_numberOf 56 = .ok (.iinc 7 1, 3) := by decide +kernel
theorem dX4_numberOf_59 : decode cX4_numberOf 59 = .ok (.goto (-33), 3) := by decide +kernel
theorem dX4_numberOf_62 : decode cX4_numberOf 62 = .ok (.iinc 5 1, 3) := by decide +kernel
theorem dX4_numberOf_65 : decode cX4_numberOf 65 = .ok (.goto (-60), 3) := by decide +kernel
theorem dX4_numberOf_68 : decode cX4_numberOf 68 = .ok (.lload_n 3, 1) := by decide +kernel
theorem dX4_numberOf_69 : decode cX4_numberOf 69 = .ok (.invokestatic 23, 3) := by decide +kernel
theorem dX4_numberOf_72 : decode cX4_numberOf 72 = .ok (.ireturn, 1) := by decide +kernel
theorem dX4_alike_0 : decode cX4_alike 0 = .ok (.iconst 0, 1) := by decide +kernel
theorem dX4_alike_1 : decode cX4_alike 1 = .ok (.istore_n 2, 1) := by decide +kernel
theorem dX4_alike_2 : decode cX4_alike 2 = .ok (.iload_n 2, 1) := by decide +kernel
theorem dX4_alike_3 : decode cX4_alike 3 = .ok (.bipush 40, 2) := by decide +kernel
theorem dX4_alike_5 : decode cX4_alike 5 = .ok (.if_icmp .gt 21, 3) := by decide +kernel
theorem dX4_alike_8 : decode cX4_alike 8 = .ok (.aload_n 0, 1) := by decide +kernel
theorem dX4_alike_9 : decode cX4_alike 9 = .ok (.getfield 9, 3) := by decide +kernel
theorem dX4_alike_12 : decode cX4_alike 12 = .ok (.iload_n 2, 1) := by decide +kernel
theorem dX4_alike_13 : decode cX4_alike 13 = .ok (.iaload, 1) := by decide +kernel
theorem dX4_alike_14 : decode cX4_alike 14 = .ok (.iload_n 1, 1) := by decide +kernel
theorem dX4_alike_15 : decode cX4_alike 15 = .ok (.if_icmp .ne 5, 3) := by decide +kernel
theorem dX4_alike_18 : decode cX4_alike 18 = .ok (.iload_n 2, 1) := by decide +kernel
theorem dX4_alike_19 : decode cX4_alike 19 = .ok (.ireturn, 1) := by decide +kernel
theorem dX4_alike_20 : decode cX4_alike 20 = .ok (.iinc 2 1, 3) := by decide +kernel
theorem dX4_alike_23 : decode cX4_alike 23 = .ok (.goto (-21), 3) := by decide +kernel
theorem dX4_alike_26 : decode cX4_alike 26 = .ok (.iconst (-1), 1) := by decide +kernel
theorem dX4_alike_27 : decode cX4_alike 27 = .ok (.ireturn, 1) := by decide +kernel
set_option maxRecDepth 20000 in
theorem ggX4_leastPeriod_X4_leastFrom : GoodIn wsX4_leastPeriod wsX4_leastFrom := goodIn_r _ [5, 6, 7, 8] (by decide +kernel) (by decide +kernel)
set_option maxRecDepth 20000 in
theorem gX4_leastPeriod_X4_leastFrom : GoodIn wsX4_leastPeriod (wsV RX4 27 RX4 yX4_leastFrom wsX4_leastFrom) := goodIn_app (goodIn_of _ (by decide +kernel)) ggX4_leastPeriod_X4_leastFrom
theorem dX4_leastPeriod_0 : decode cX4_leastPeriod 0 = .ok (.iconst 1, 1) := by decide +kernel
theorem dX4_leastPeriod_1 : decode cX4_leastPeriod 1 = .ok (.istore_n 1, 1) := by decide +kernel
theorem dX4_leastPeriod_2 : decode cX4_leastPeriod 2 = .ok (.iload_n 1, 1) := by decide +kernel
theorem dX4_leastPeriod_3 : decode cX4_leastPeriod 3 = .ok (.bipush 20, 2) := by decide +kernel
theorem dX4_leastPeriod_5 : decode cX4_leastPeriod 5 = .ok (.if_icmp .gt 21, 3) := by decide +kernel
theorem dX4_leastPeriod_8 : decode cX4_leastPeriod 8 = .ok (.aload_n 0, 1) := by decide +kernel
theorem dX4_leastPeriod_9 : decode cX4_leastPeriod 9 = .ok (.iload_n 1, 1) := by decide +kernel
theorem dX4_leastPeriod_10 : decode cX4_leastPeriod 10 = .ok (.invokevirtual 27, 3) := by decide +kernel
theorem dX4_leastPeriod_13 : decode cX4_leastPeriod 13 = .ok (.bipush 20, 2) := by decide +kernel
theorem dX4_leastPeriod_15 : decode cX4_leastPeriod 15 = .ok (.if_icmp .gt 5, 3) := by decide +kernel
theorem dX4_leastPeriod_18 : decode cX4_leastPeriod 18 = .ok (.iload_n 1, 1) := by decide +kernel
theorem dX4_leastPeriod_19 : decode cX4_leastPeriod 19 = .ok (.ireturn, 1) := by decide +kernel
theorem dX4_leastPeriod_20 : decode cX4_leastPeriod 20 = .ok (.iinc 1 1, 3) := by decide +kernel
theorem dX4_leastPeriod_23 : decode cX4_leastPeriod 23 = .ok (.goto (-21), 3) := by decide +kernel
theorem dX4_leastPeriod_26 : decode cX4_leastPeriod 26 = .ok (.iconst (-1), 1) := by decide +kernel
theorem dX4_leastPeriod_27 : decode cX4_leastPeriod 27 = .ok (.ireturn, 1) := by decide +kernel
theorem dX4_leastFrom_0 : decode cX4_leastFrom 0 = .ok (.bipush 41, 2) := by decide +kernel
theorem dX4_leastFrom_2 : decode cX4_leastFrom 2 = .ok (.iload_n 1, 1) := by decide +kernel
theorem dX4_leastFrom_3 : decode cX4_leastFrom 3 = .ok (.isub, 1) := by decide +kernel
theorem dX4_leastFrom_4 : decode cX4_leastFrom 4 = .ok (.istore_n 2, 1) := by decide +kernel
theorem dX4_leastFrom_5 : decode cX4_leastFrom 5 = .ok (.iload_n 2, 1) := by decide +kernel
theorem dX4_leastFrom_6 : decode cX4_leastFrom 6 = .ok (.ifCond .le 30, 3) := by decide +kernel
theorem dX4_leastFrom_9 : decode cX4_leastFrom 9 = .ok (.aload_n 0, 1) := by decide +kernel
theorem dX4_leastFrom_10 : decode cX4_leastFrom 10 = .ok (.getfield 9, 3) := by decide +kernel
theorem dX4_leastFrom_13 : decode cX4_leastFrom 13 = .ok (.iload_n 2, 1) := by decide +kernel
theorem dX4_leastFrom_14 : decode cX4_leastFrom 14 = .ok (.iconst 1, 1) := by decide +kernel
theorem dX4_leastFrom_15 : decode cX4_leastFrom 15 = .ok (.isub, 1) := by decide +kernel
theorem dX4_leastFrom_16 : decode cX4_leastFrom 16 = .ok (.iaload, 1) := by decide +kernel
theorem dX4_leastFrom_17 : decode cX4_leastFrom 17 = .ok (.aload_n 0, 1) := by decide +kernel
theorem dX4_leastFrom_18 : decode cX4_leastFrom 18 = .ok (.getfield 9, 3) := by decide +kernel
theorem dX4_leastFrom_21 : decode cX4_leastFrom 21 = .ok (.iload_n 2, 1) := by decide +kernel
theorem dX4_leastFrom_22 : decode cX4_leastFrom 22 = .ok (.iconst 1, 1) := by decide +kernel
theorem dX4_leastFrom_23 : decode cX4_leastFrom 23 = .ok (.isub, 1) := by decide +kernel
theorem dX4_leastFrom_24 : decode cX4_leastFrom 24 = .ok (.iload_n 1, 1) := by decide +kernel
theorem dX4_leastFrom_25 : decode cX4_leastFrom 25 = .ok (.iadd, 1) := by decide +kernel
theorem dX4_leastFrom_26 : decode cX4_leastFrom 26 = .ok (.iaload, 1) := by decide +kernel
theorem dX4_leastFrom_27 : decode cX4_leastFrom 27 = .ok (.if_icmp .ne 9, 3) := by decide +kernel
theorem dX4_leastFrom_30 : decode cX4_leastFrom 30 = .ok (.iinc 2 (-1), 3) := by decide +kernel
theorem dX4_leastFrom_33 : decode cX4_leastFrom 33 = .ok (.goto (-28), 3) := by decide +kernel
theorem dX4_leastFrom_36 : decode cX4_leastFrom 36 = .ok (.iload_n 2, 1) := by decide +kernel
theorem dX4_leastFrom_37 : decode cX4_leastFrom 37 = .ok (.ireturn, 1) := by decide +kernel
theorem dX5_init_0 : decode cX5_init 0 = .ok (.aload_n 0, 1) := by decide +kernel
theorem dX5_init_1 : decode cX5_init 1 = .ok (.invokespecial 3, 3) := by decide +kernel
theorem dX5_init_4 : decode cX5_init 4 = .ok (.aload_n 0, 1) := by decide +kernel
theorem dX5_init_5 : decode cX5_init 5 = .ok (.bipush 6, 2) := by decide +kernel
theorem dX5_init_7 : decode cX5_init 7 = .ok (.newarray .int, 2) := by decide +kernel
theorem dX5_init_9 : decode cX5_init 9 = .ok (.putfield 9, 3) := by decide +kernel
theorem dX5_init_12 : decode cX5_init 12 = .ok (.aload_n 0, 1) := by decide +kernel
theorem dX5_init_13 : decode cX5_init 13 = .ok (.bipush 6, 2) := by decide +kernel
theorem dX5_init_15 : decode cX5_init 15 = .ok (.newarray .int, 2) := by decide +kernel
theorem dX5_init_17 : decode cX5_init 17 = .ok (.putfield 15, 3) := by decide +kernel
theorem dX5_init_20 : decode cX5_init 20 = .ok (.aload_n 0, 1) := by decide +kernel
theorem dX5_init_21 : decode cX5_init 21 = .ok (.bipush 6, 2) := by decide +kernel
theorem dX5_init_23 : decode cX5_init 23 = .ok (.newarray .int, 2) := by decide +kernel
theorem dX5_init_25 : decode cX5_init 25 = .ok (.putfield 18, 3) := by decide +kernel
theorem dX5_init_28 : decode cX5_init 28 = .ok (.return_, 1) := by decide +kernel
theorem dX5_copyFrom_0 : decode cX5_copyFrom 0 = .ok (.aload_n 0, 1) := by decide +kernel
theorem dX5_copyFrom_1 : decode cX5_copyFrom 1 = .ok (.aload_n 1, 1) := by decide +kernel
theorem dX5_copyFrom_2 : decode cX5_copyFrom 2 = .ok (.getfield 21, 3) := by decide +kernel
theorem dX5_copyFrom_5 : decode cX5_copyFrom 5 = .ok (.putfield 21, 3) := by decide +kernel
theorem dX5_copyFrom_8 : decode cX5_copyFrom 8 = .ok (.aload_n 1, 1) := by decide +kernel
theorem dX5_copyFrom_9 : decode cX5_copyFrom 9 = .ok (.getfield 9, 3) := by decide +kernel
theorem dX5_copyFrom_12 : decode cX5_copyFrom 12 = .ok (.iconst 0, 1) := by decide +kernel
theorem dX5_copyFrom_13 : decode cX5_copyFrom 13 = .ok (.aload_n 0, 1) := by decide +kernel
theorem dX5_copyFrom_14 : decode cX5_copyFrom 14 = .ok (.getfield 9, 3) := by decide +kernel
theorem dX5_copyFrom_17 : decode cX5_copyFrom 17 = .ok (.iconst 0, 1) := by decide +kernel
theorem dX5_copyFrom_18 : decode cX5_copyFrom 18 = .ok (.bipush 6, 2) := by decide +kernel
theorem dX5_copyFrom_20 : decode cX5_copyFrom 20 = .ok (.invokestatic 25, 3) := by decide +kernel
theorem dX5_copyFrom_23 : decode cX5_copyFrom 23 = .ok (.aload_n 1, 1) := by decide +kernel
theorem dX5_copyFrom_24 : decode cX5_copyFrom 24 = .ok (.getfield 15, 3) := by decide +kernel
theorem dX5_copyFrom_27 : decode cX5_copyFrom 27 = .ok (.iconst 0, 1) := by decide +kernel
theorem dX5_copyFrom_28 : decode cX5_copyFrom 28 = .ok (.aload_n 0, 1) := by decide +kernel
theorem dX5_copyFrom_29 : decode cX5_copyFrom 29 = .ok (.getfield 15, 3) := by decide +kernel
theorem dX5_copyFrom_32 : decode cX5_copyFrom 32 = .ok (.iconst 0, 1) := by decide +kernel
theorem dX5_copyFrom_33 : decode cX5_copyFrom 33 = .ok (.bipush 6, 2) := by decide +kernel
theorem dX5_copyFrom_35 : decode cX5_copyFrom 35 = .ok (.invokestatic 25, 3) := by decide +kernel
theorem dX5_copyFrom_38 : decode cX5_copyFrom 38 = .ok (.aload_n 1, 1) := by decide +kernel
theorem dX5_copyFrom_39 : decode cX5_copyFrom 39 = .ok (.getfield 18, 3) := by decide +kernel
theorem dX5_copyFrom_42 : decode cX5_copyFrom 42 = .ok (.iconst 0, 1) := by decide +kernel
theorem dX5_copyFrom_43 : decode cX5_copyFrom 43 = .ok (.aload_n 0, 1) := by decide +kernel
theorem dX5_copyFrom_44 : decode cX5_copyFrom 44 = .ok (.getfield 18, 3) := by decide +kernel
theorem dX5_copyFrom_47 : decode cX5_copyFrom 47 = .ok (.iconst 0, 1) := by decide +kernel
theorem dX5_copyFrom_48 : decode cX5_copyFrom 48 = .ok (.bipush 6, 2) := by decide +kernel
theorem dX5_copyFrom_50 : decode cX5_copyFrom 50 = .ok (.invokestatic 25, 3) := by decide +kernel
theorem dX5_copyFrom_53 : decode cX5_copyFrom 53 = .ok (.return_, 1) := by decide +kernel
theorem dX5_add_0 : decode cX5_add 0 = .ok (.aload_n 0, 1) := by decide +kernel
theorem dX5_add_1 : decode cX5_add 1 = .ok (.getfield 21, 3) := by decide +kernel
theorem dX5_add_4 : decode cX5_add 4 = .ok (.bipush 6, 2) := by decide +kernel
theorem dX5_add_6 : decode cX5_add 6 = .ok (.if_icmp .lt 4, 3) := by decide +kernel
theorem dX5_add_9 : decode cX5_add 9 = .ok (.return_, 1) := by decide +kernel
theorem dX5_add_10 : decode cX5_add 10 = .ok (.aload_n 0, 1) := by decide +kernel
theorem dX5_add_11 : decode cX5_add 11 = .ok (.getfield 9, 3) := by decide +kernel
theorem dX5_add_14 : decode cX5_add 14 = .ok (.aload_n 0, 1) := by decide +kernel
theorem dX5_add_15 : decode cX5_add 15 = .ok (.getfield 21, 3) := by decide +kernel
theorem dX5_add_18 : decode cX5_add 18 = .ok (.iload_n 1, 1) := by decide +kernel
theorem dX5_add_19 : decode cX5_add 19 = .ok (.iastore, 1) := by decide +kernel
theorem dX5_add_20 : decode cX5_add 20 = .ok (.aload_n 0, 1) := by decide +kernel
theorem dX5_add_21 : decode cX5_add 21 = .ok (.getfield 15, 3) := by decide +kernel
theorem dX5_add_24 : decode cX5_add 24 = .ok (.aload_n 0, 1) := by decide +kernel
theorem dX5_add_25 : decode cX5_add 25 = .ok (.getfield 21, 3) := by decide +kernel
theorem dX5_add_28 : decode cX5_add 28 = .ok (.iload_n 2, 1) := by decide +kernel
theorem dX5_add_29 : decode cX5_add 29 = .ok (.iastore, 1) := by decide +kernel
theorem dX5_add_30 : decode cX5_add 30 = .ok (.aload_n 0, 1) := by decide +kernel
theorem dX5_add_31 : decode cX5_add 31 = .ok (.getfield 18, 3) := by decide +kernel
theorem dX5_add_34 : decode cX5_add 34 = .ok (.aload_n 0, 1) := by decide +kernel
theorem dX5_add_35 : decode cX5_add 35 = .ok (.getfield 21, 3) := by decide +kernel
theorem dX5_add_38 : decode cX5_add 38 = .ok (.iload_n 3, 1) := by decide +kernel
theorem dX5_add_39 : decode cX5_add 39 = .ok (.iastore, 1) := by decide +kernel
theorem dX5_add_40 : decode cX5_add 40 = .ok (.aload_n 0, 1) := by decide +kernel
theorem dX5_add_41 : decode cX5_add 41 = .ok (.dup, 1) := by decide +kernel
theorem dX5_add_42 : decode cX5_add 42 = .ok (.getfield 21, 3) := by decide +kernel
theorem dX5_add_45 : decode cX5_add 45 = .ok (.iconst 1, 1) := by decide +kernel
theorem dX5_add_46 : decode cX5_add 46 = .ok (.iadd, 1) := by decide +kernel
theorem dX5_add_47 : decode cX5_add 47 = .ok (.putfield 21, 3) := by decide +kernel
theorem dX5_add_50 : decode cX5_add 50 = .ok (.return_, 1) := by decide +kernel
set_option maxRecDepth 20000 in
theorem ggX5_sortsOf_X5_sortsThatFell : GoodIn wsX5_sortsOf wsX5_sortsThatFell := goodIn_r _ [8, 9] (by decide +kernel) (by decide +kernel)
set_option maxRecDepth 20000 in
theorem gX5_sortsOf_X5_sortsThatFell : GoodIn wsX5_sortsOf (va_wsS RX5 31 yX5_sortsThatFell wsX5_sortsThatFell) := goodIn_app (goodIn_of _ (by decide +kernel)) ggX5_sortsOf_X5_sortsThatFell
theorem dX5_sortsOf_0 : decode cX5_sortsOf 0 = .ok (.bipush 31, 2) := by decide +kernel
theorem dX5_sortsOf_2 : decode cX5_sortsOf 2 = .ok (.istore_n 2, 1) := by decide +kernel
theorem dX5_sortsOf_3 : decode cX5_sortsOf 3 = .ok (.iconst 0, 1) := by decide +kernel
theorem dX5_sortsOf_4 : decode cX5_sortsOf 4 = .ok (.istore_n 3, 1) := by decide +kernel
theorem dX5_sortsOf_5 : decode cX5_sortsOf 5 = .ok (.iload_n 3, 1) := by decide +kernel
theorem dX5_sortsOf_6 : decode cX5_sortsOf 6 = .ok (.aload_n 0, 1) := by decide +kernel
theorem dX5_sortsOf_7 : decode cX5_sortsOf 7 = .ok (.getfield 21, 3) := by decide +kernel
theorem dX5_sortsOf_10 : decode cX5_sortsOf 10 = .ok (.if_icmp .ge 43, 3) := by decide +kernel
theorem dX5_sortsOf_13 : decode cX5_sortsOf 13 = .ok (.iload_n 3, 1) := by decide +kernel
theorem dX5_sortsOf_14 : decode cX5_sortsOf 14 = .ok (.bipush 6, 2) := by decide +kernel
theorem dX5_sortsOf_16 : decode cX5_sortsOf 16 = .ok (.if_icmp .ge 37, 3) := by decide +kernel
theorem dX5_sortsOf_19 : decode cX5_sortsOf 19 = .ok (.aload_n 0, 1) := by decide +kernel
theorem dX5_sortsOf_20 : decode cX5_sortsOf 20 = .ok (.getfield 9, 3) := by decide +kernel
theorem dX5_sortsOf_23 : decode cX5_sortsOf 23 = .ok (.iload_n 3, 1) := by decide +kernel
theorem dX5_sortsOf_24 : decode cX5_sortsOf 24 = .ok (.iaload, 1) := by decide +kernel
theorem dX5_sortsOf_25 : decode cX5_sortsOf 25 = .ok (.iload_n 1, 1) := by decide +kernel
theorem dX5_sortsOf_26 : decode cX5_sortsOf 26 = .ok (.if_icmp .ne 21, 3) := by decide +kernel
theorem dX5_sortsOf_29 : decode cX5_sortsOf 29 = .ok (.iload_n 2, 1) := by decide +kernel
theorem dX5_sortsOf_30 : decode cX5_sortsOf 30 = .ok (.aload_n 0, 1) := by decide +kernel
theorem dX5_sortsOf_31 : decode cX5_sortsOf 31 = .ok (.getfield 15, 3) := by decide +kernel
theorem dX5_sortsOf_34 : decode cX5_sortsOf 34 = .ok (.iload_n 3, 1) := by decide +kernel
theorem dX5_sortsOf_35 : decode cX5_sortsOf 35 = .ok (.iaload, 1) := by decide +kernel
theorem dX5_sortsOf_36 : decode cX5_sortsOf 36 = .ok (.aload_n 0, 1) := by decide +kernel
theorem dX5_sortsOf_37 : decode cX5_sortsOf 37 = .ok (.getfield 18, 3) := by decide +kernel
theorem dX5_sortsOf_40 : decode cX5_sortsOf 40 = .ok (.iload_n 3, 1) := by decide +kernel
theorem dX5_sortsOf_41 : decode cX5_sortsOf 41 = .ok (.iaload, 1) := by decide +kernel
theorem dX5_sortsOf_42 : decode cX5_sortsOf 42 = .ok (.invokestatic 31, 3) := by decide +kernel
theorem dX5_sortsOf_45 : decode cX5_sortsOf 45 = .ok (.iand, 1) := by decide +kernel
theorem dX5_sortsOf_46 : decode cX5_sortsOf 46 = .ok (.istore_n 2, 1) := by decide +kernel
theorem dX5_sortsOf_47 : decode cX5_sortsOf 47 = .ok (.iinc 3 1, 3) := by decide +kernel
theorem dX5_sortsOf_50 : decode cX5_sortsOf 50 = .ok (.goto (-45), 3) := by decide +kernel
theorem dX5_sortsOf_53 : decode cX5_sortsOf 53 = .ok (.iload_n 2, 1) := by decide +kernel
theorem dX5_sortsOf_54 : decode cX5_sortsOf 54 = .ok (.ireturn, 1) := by decide +kernel
set_option maxRecDepth 20000 in
theorem ggX5_wayFor_X5_leftAtWorst : GoodIn wsX5_wayFor wsX5_leftAtWorst := goodIn_r _ [4, 5, 6, 7, 8, 9, 10, 3, 11, 12, 13, 14, 15, 16, 17, 18, 19] (by decide +kernel) (by decide +kernel)
set_option maxRecDepth 20000 in
theorem gX5_wayFor_X5_leftAtWorst : GoodIn wsX5_wayFor (va_wsS RX5 35 yX5_leftAtWorst wsX5_leftAtWorst) := goodIn_app (goodIn_of _ (by decide +kernel)) ggX5_wayFor_X5_leftAtWorst
theorem dX5_wayFor_0 : decode cX5_wayFor 0 = .ok (.iload_n 0, 1) := by decide +kernel
theorem dX5_wayFor_1 : decode cX5_wayFor 1 = .ok (.ifCond .ne 5, 3) := by decide +kernel
theorem dX5_wayFor_4 : decode cX5_wayFor 4 = .ok (.iconst (-1), 1) := by decide +kernel
theorem dX5_wayFor_5 : decode cX5_wayFor 5 = .ok (.ireturn, 1) := by decide +kernel
theorem dX5_wayFor_6 : decode cX5_wayFor 6 = .ok (.iload_n 0, 1) := by decide +kernel
theorem dX5_wayFor_7 : decode cX5_wayFor 7 = .ok (.iconst 1, 1) := by decide +kernel
theorem dX5_wayFor_8 : decode cX5_wayFor 8 = .ok (.invokestatic 35, 3) := by decide +kernel
theorem dX5_wayFor_11 : decode cX5_wayFor 11 = .ok (.iload_n 0, 1) := by decide +kernel
theorem dX5_wayFor_12 : decode cX5_wayFor 12 = .ok (.iconst 0, 1) := by decide +kernel
theorem dX5_wayFor_13 : decode cX5_wayFor 13 = .ok (.invokestatic 35, 3) := by decide +kernel
theorem dX5_wayFor_16 : decode cX5_wayFor 16 = .ok (.if_icmp .ge 7, 3) := by decide +kernel
theorem dX5_wayFor_19 : decode cX5_wayFor 19 = .ok (.iconst 1, 1) := by decide +kernel
theorem dX5_wayFor_20 : decode cX5_wayFor 20 = .ok (.goto 4, 3) := by decide +kernel
theorem dX5_wayFor_23 : decode cX5_wayFor 23 = .ok (.iconst 0, 1) := by decide +kernel
theorem dX5_wayFor_24 : decode cX5_wayFor 24 = .ok (.ireturn, 1) := by decide +kernel
set_option maxRecDepth 20000 in
theorem ggX5_leftAtWorst_X5_sortsThatFell : GoodIn wsX5_leftAtWorst wsX5_sortsThatFell := goodIn_r _ [8, 9] (by decide +kernel) (by decide +kernel)
set_option maxRecDepth 20000 in
theorem gX5_leftAtWorst_X5_sortsThatFell : GoodIn wsX5_leftAtWorst (va_wsS RX5 31 yX5_sortsThatFell wsX5_sortsThatFell) := goodIn_app (goodIn_of _ (by decide +kernel)) ggX5_leftAtWorst_X5_sortsThatFell
set_option maxRecDepth 20000 in
theorem ggX5_leftAtWorst_J6_bitCount_0f7a4 : GoodIn wsX5_leftAtWorst wsJ6_bitCount_0f7a4 := goodIn_r _ [13, 14, 15, 16] (by decide +kernel) (by decide +kernel)
set_option maxRecDepth 20000 in
theorem gX5_leftAtWorst_J6_bitCount_0f7a4 : GoodIn wsX5_leftAtWorst (va_wsS RX5 38 yJ6_bitCount_0f7a4 wsJ6_bitCount_0f7a4) := goodIn_app (goodIn_of _ (by decide +kernel)) ggX5_leftAtWorst_J6_bitCount_0f7a4
theorem dX5_leftAtWorst_0 : decode cX5_leftAtWorst 0 = .ok (.iconst 0, 1) := by decide +kernel
theorem dX5_leftAtWorst_1 : decode cX5_leftAtWorst 1 = .ok (.istore_n 2, 1) := by decide +kernel
theorem dX5_leftAtWorst_2 : decode cX5_leftAtWorst 2 = .ok (.iconst 0, 1) := by decide +kernel
theorem dX5_leftAtWorst_3 : decode cX5_leftAtWorst 3 = .ok (.istore_n 3, 1) := by decide +kernel
theorem dX5_leftAtWorst_4 : decode cX5_leftAtWorst 4 = .ok (.iload_n 3, 1) := by decide +kernel
theorem dX5_leftAtWorst_5 : decode cX5_leftAtWorst 5 = .ok (.iconst 3, 1) := by decide +kernel
theorem dX5_leftAtWorst_6 : decode cX5_leftAtWorst 6 = .ok (.if_icmp .gt 24, 3) := by decide +kernel
theorem dX5_leftAtWorst_9 : decode cX5_leftAtWorst 9 = .ok (.iload_n 2, 1) := by decide +kernel
theorem dX5_leftAtWorst_10 : decode cX5_leftAtWorst 10 = .ok (.iload_n 0, 1) := by decide +kernel
theorem dX5_leftAtWorst_11 : decode cX5_leftAtWorst 11 = .ok (.iload_n 1, 1) := by decide +kernel
theorem dX5_leftAtWorst_12 : decode cX5_leftAtWorst 12 = .ok (.iload_n 3, 1) := by decide +kernel
theorem dX5_leftAtWorst_13 : decode cX5_leftAtWorst 13 = .ok (.invokestatic 31, 3) := by decide +kernel
theorem dX5_leftAtWorst_16 : decode cX5_leftAtWorst 16 = .ok (.iand, 1) := by decide +kernel
theorem dX5_leftAtWorst_17 : decode cX5_leftAtWorst 17 = .ok (.invokestatic 38, 3) := by decide +kernel
theorem dX5_leftAtWorst_20 : decode cX5_leftAtWorst 20 = .ok (.invokestatic 44, 3) := by decide +kernel
theorem dX5_leftAtWorst_23 : decode cX5_leftAtWorst 23 = .ok (.istore_n 2, 1) := by decide +kernel
theorem dX5_leftAtWorst_24 : decode cX5_leftAtWorst 24 = .ok (.iinc 3 1, 3) := by decide +kernel
theorem dX5_leftAtWorst_27 : decode cX5_leftAtWorst 27 = .ok (.goto (-23), 3) := by decide +kernel
theorem dX5_leftAtWorst_30 : decode cX5_leftAtWorst 30 = .ok (.iload_n 2, 1) := by decide +kernel
theorem dX5_leftAtWorst_31 : decode cX5_leftAtWorst 31 = .ok (.ireturn, 1) := by decide +kernel
theorem dX5_sortsThatFell_0 : decode cX5_sortsThatFell 0 = .ok (.iconst 0, 1) := by decide +kernel
theorem dX5_sortsThatFell_1 : decode cX5_sortsThatFell 1 = .ok (.istore_n 2, 1) := by decide +kernel
theorem dX5_sortsThatFell_2 : decode cX5_sortsThatFell 2 = .ok (.iconst 0, 1) := by decide +kernel
theorem dX5_sortsThatFell_3 : decode cX5_sortsThatFell 3 = .ok (.istore_n 3, 1) := by decide +kernel
theorem dX5_sortsThatFell_4 : decode cX5_sortsThatFell 4 = .ok (.iload_n 3, 1) := by decide +kernel
theorem dX5_sortsThatFell_5 : decode cX5_sortsThatFell 5 = .ok (.iconst 5, 1) := by decide +kernel
theorem dX5_sortsThatFell_6 : decode cX5_sortsThatFell 6 = .ok (.if_icmp .ge 30, 3) := by decide +kernel
theorem dX5_sortsThatFell_9 : decode cX5_sortsThatFell 9 = .ok (.getstatic 49, 3) := by decide +kernel
theorem dX5_sortsThatFell_12 : decode cX5_sortsThatFell 12 = .ok (.iconst 2, 1) := by decide +kernel
theorem dX5_sortsThatFell_13 : decode cX5_sortsThatFell 13 = .ok (.iload_n 3, 1) := by decide +kernel
theorem dX5_sortsThatFell_14 : decode cX5_sortsThatFell 14 = .ok (.imul, 1) := by decide +kernel
theorem dX5_sortsThatFell_15 : decode cX5_sortsThatFell 15 = .ok (.iload_n 0, 1) := by decide +kernel
theorem dX5_sortsThatFell_16 : decode cX5_sortsThatFell 16 = .ok (.iconst 1, 1) := by decide +kernel
theorem dX5_sortsThatFell_17 : decode cX5_sortsThatFell 17 = .ok (.iand, 1) := by decide +kernel
theorem dX5_sortsThatFell_18 : decode cX5_sortsThatFell 18 = .ok (.iadd, 1) := by decide +kernel
theorem dX5_sortsThatFell_19 : decode cX5_sortsThatFell 19 = .ok (.iaload, 1) := by decide +kernel
theorem dX5_sortsThatFell_20 : decode cX5_sortsThatFell 20 = .ok (.iload_n 1, 1) := by decide +kernel
theorem dX5_sortsThatFell_21 : decode cX5_sortsThatFell 21 = .ok (.if_icmp .ne 9, 3) := by decide +kernel
theorem dX5_sortsThatFell_24 : decode cX5_sortsThatFell 24 = .ok (.iload_n 2, 1) := by decide +kernel
theorem dX5_sortsThatFell_25 : decode cX5_sortsThatFell 25 = .ok (.iconst 1, 1) := by decide +kernel
theorem dX5_sortsThatFell_26 : decode cX5_sortsThatFell 26 = .ok (.iload_n 3, 1) := by decide +kernel
theorem dX5_sortsThatFell_27 : decode cX5_sortsThatFell 27 = .ok (.ishl, 1) := by decide +kernel
theorem dX5_sortsThatFell_28 : decode cX5_sortsThatFell 28 = .ok (.ior, 1) := by decide +kernel
theorem dX5_sortsThatFell_29 : decode cX5_sortsThatFell 29 = .ok (.istore_n 2, 1) := by decide +kernel
theorem dX5_sortsThatFell_30 : decode cX5_sortsThatFell 30 = .ok (.iinc 3 1, 3) := by decide +kernel
theorem dX5_sortsThatFell_33 : decode cX5_sortsThatFell 33 = .ok (.goto (-29), 3) := by decide +kernel
theorem dX5_sortsThatFell_36 : decode cX5_sortsThatFell 36 = .ok (.iload_n 2, 1) := by decide +kernel
theorem dX5_sortsThatFell_37 : decode cX5_sortsThatFell 37 = .ok (.ireturn, 1) := by decide +kernel
theorem dX6_init_0 : decode cX6_init 0 = .ok (.aload_n 0, 1) := by decide +kernel
theorem dX6_init_1 : decode cX6_init 1 = .ok (.invokespecial 3, 3) := by decide +kernel
theorem dX6_init_4 : decode cX6_init 4 = .ok (.aload_n 0, 1) := by decide +kernel
theorem dX6_init_5 : decode cX6_init 5 = .ok (.bipush 27, 2) := by decide +kernel
theorem dX6_init_7 : decode cX6_init 7 = .ok (.newarray .int, 2) := by decide +kernel
theorem dX6_init_9 : decode cX6_init 9 = .ok (.putfield 11, 3) := by decide +kernel
theorem dX6_init_12 : decode cX6_init 12 = .ok (.aload_n 0, 1) := by decide +kernel
theorem dX6_init_13 : decode cX6_init 13 = .ok (.bipush 27, 2) := by decide +kernel
theorem dX6_init_15 : decode cX6_init 15 = .ok (.newarray .int, 2) := by decide +kernel
theorem dX6_init_17 : decode cX6_init 17 = .ok (.putfield 15, 3) := by decide +kernel
theorem dX6_init_20 : decode cX6_init 20 = .ok (.aload_n 0, 1) := by decide +kernel
theorem dX6_init_21 : decode cX6_init 21 = .ok (.bipush 27, 2) := by decide +kernel
theorem dX6_init_23 : decode cX6_init 23 = .ok (.newarray .int, 2) := by decide +kernel
theorem dX6_init_25 : decode cX6_init 25 = .ok (.putfield 18, 3) := by decide +kernel
theorem dX6_init_28 : decode cX6_init 28 = .ok (.return_, 1) := by decide +kernel
set_option maxRecDepth 20000 in
theorem ggX6_listFor_X1_canBeTaken : GoodIn wsX6_listFor wsX1_canBeTaken := goodIn_r _ [10, 11, 12, 13, 14, 15, 9, 16, 17, 41, 42, 43, 44, 45, 46, 47, 48, 49, 50, 51] (by decide +kernel) (by decide +kernel)
set_option maxRecDepth 20000 in
theorem gX6_listFor_X1_canBeTaken : GoodIn wsX6_listFor (wsV RX6 39 RX1 yX1_canBeTaken wsX1_canBeTaken) := goodIn_app (goodIn_of _ (by decide +kernel)) ggX6_listFor_X1_canBeTaken
set_option maxRecDepth 20000 in
theorem ggX6_listFor_X6_add : GoodIn wsX6_listFor wsX6_add := goodIn_r _ [22, 1, 23, 24, 25, 26, 27, 28, 35, 36, 37, 38, 39, 40] (by decide +kernel) (by decide +kernel)
set_option maxRecDepth 20000 in
theorem gX6_listFor_X6_add : GoodIn wsX6_listFor (wsV RX6 43 RX6 yX6_add wsX6_add) := goodIn_app (goodIn_of _ (by decide +kernel)) ggX6_listFor_X6_add
set_option maxRecDepth 20000 in
theorem ggX6_listFor_X1_takesAlong : GoodIn wsX6_listFor wsX1_takesAlong := goodIn_r _ [32, 11, 12, 13, 14, 15, 9, 16, 17, 33, 27, 34, 41, 42, 43, 44, 45, 46, 47, 48, 49, 50, 51] (by decide +kernel) (by decide +kernel)
set_option maxRecDepth 20000 in
theorem gX6_listFor_X1_takesAlong : GoodIn wsX6_listFor (wsV RX6 47 RX1 yX1_takesAlong wsX1_takesAlong) := goodIn_app (goodIn_of _ (by decide +kernel)) ggX6_listFor_X1_takesAlong
theorem dX6_listFor_0 : decode cX6_listFor 0 = .ok (.aload_n 0, 1) := by decide +kernel
theorem dX6_listFor_1 : decode cX6_listFor 1 = .ok (.iconst 0, 1) := by decide +kernel
theorem dX6_listFor_2 : decode cX6_listFor 2 = .ok (.putfield 21, 3) := by decide +kernel
theorem dX6_listFor_5 : decode cX6_listFor 5 = .ok (.aload_n 0, 1) := by decide +kernel
theorem dX6_listFor_6 : decode cX6_listFor 6 = .ok (.iconst 0, 1) := by decide +kernel
theorem dX6_listFor_7 : decode cX6_listFor 7 = .ok (.putfield 25, 3) := by decide +kernel
theorem dX6_listFor_10 : decode cX6_listFor 10 = .ok (.aload_n 0, 1) := by decide +kernel
theorem dX6_listFor_11 : decode cX6_listFor 11 = .ok (.iconst 0, 1) := by decide +kernel
theorem dX6_listFor_12 : decode cX6_listFor 12 = .ok (.putfield 28, 3) := by decide +kernel
theorem dX6_listFor_15 : decode cX6_listFor 15 = .ok (.iconst 0, 1) := by decide +kernel
theorem dX6_listFor_16 : decode cX6_listFor 16 = .ok (.istore_n 2, 1) := by decide +kernel
theorem dX6_listFor_17 : decode cX6_listFor 17 = .ok (.iload_n 2, 1) := by decide +kernel
theorem dX6_listFor_18 : decode cX6_listFor 18 = .ok (.aload_n 1, 1) := by decide +kernel
theorem dX6_listFor_19 : decode cX6_listFor 19 = .ok (.getfield 31, 3) := by decide +kernel
theorem dX6_listFor_22 : decode cX6_listFor 22 = .ok (.if_icmp .ge 94, 3) := by decide +kernel
theorem dX6_listFor_25 : decode cX6_listFor 25 = .ok (.iconst 1, 1) := by decide +kernel
theorem dX6_listFor_26 : decode cX6_listFor 26 = .ok (.istore_n 3, 1) := by decide +kernel
theorem dX6_listFor_27 : decode cX6_listFor 27 = .ok (.iload_n 3, 1) := by decide +kernel
theorem dX6_listFor_28 : decode cX6_listFor 28 = .ok (.aload_n 1, 1) := by decide +kernel
theorem dX6_listFor_29 : decode cX6_listFor 29 = .ok (.getfield 36, 3) := by decide +kernel
theorem dX6_listFor_32 : decode cX6_listFor 32 = .ok (.if_icmp .gt 24, 3) := by decide +kernel
theorem dX6_listFor_35 : decode cX6_listFor 35 = .ok (.aload_n 1, 1) := by decide +kernel
theorem dX6_listFor_36 : decode cX6_listFor 36 = .ok (.iload_n 2, 1) := by decide +kernel
theorem dX6_listFor_37 : decode cX6_listFor 37 = .ok (.iload_n 3, 1) := by decide +kernel
theorem dX6_listFor_38 : decode cX6_listFor 38 = .ok (.invokevirtual 39, 3) := by decide +kernel
theorem dX6_listFor_41 : decode cX6_listFor 41 = .ok (.ifCond .eq 9, 3) := by decide +kernel
theorem dX6_listFor_44 : decode cX6_listFor 44 = .ok (.aload_n 0, 1) := by decide +kernel
theorem dX6_listFor_45 : decode cX6_listFor 45 = .ok (.iload_n 2, 1) := by decide +kernel
theorem dX6_listFor_46 : decode cX6_listFor 46 = .ok (.iload_n 3, 1) := by decide +kernel
theorem dX6_listFor_47 : decode cX6_listFor 47 = .ok (.invokevirtual 43, 3) := by decide +kernel
theorem dX6_listFor_50 : decode cX6_listFor 50 = .ok (.iinc 3 1, 3) := by decide +kernel
theorem dX6_listFor_53 : decode cX6_listFor 53 = .ok (.goto (-26), 3) := by decide +kernel
theorem dX6_listFor_56 : decode cX6_listFor 56 = .ok (.aload_n 0, 1) := by decide +kernel
theorem dX6_listFor_57 : decode cX6_listFor 57 = .ok (.dup, 1) := by decide +kernel
theorem dX6_listFor_58 : decode cX6_listFor 58 = .ok (.getfield 25, 3) := by decide +kernel
theorem dX6_listFor_61 : decode cX6_listFor 61 = .ok (.aload_n 1, 1) := by decide +kernel
theorem dX6_listFor_62 : decode cX6_listFor 62 = .ok (.iload_n 2, 1) := by decide +kernel
theorem dX6_listFor_63 : decode cX6_listFor 63 = .ok (.iload_n 2, 1) := by decide +kernel
theorem dX6_listFor_64 : decode cX6_listFor 64 = .ok (.iconst 1, 1) := by decide +kernel
theorem dX6_listFor_65 : decode cX6_listFor 65 = .ok (.iadd, 1) := by decide +kernel
theorem dX6_listFor_66 : decode cX6_listFor 66 = .ok (.invokevirtual 47, 3) := by decide +kernel
theorem dX6_listFor_69 : decode cX6_listFor 69 = .ok (.ifCond .eq 9, 3) := by decide +kernel
theorem dX6_listFor_72 : decode cX6_listFor 72 = .ok (.iconst 1, 1) := by decide +kernel
theorem dX6_listFor_73 : decode cX6_listFor 73 = .ok (.iload_n 2, 1) := by decide +kernel
theorem dX6_listFor_74 : decode cX6_listFor 74 = .ok (.ishl, 1) := by decide +kernel
theorem dX6_listFor_75 : decode cX6_listFor 75 = .ok (.goto 4, 3) := by decide +kernel
theorem dX6_listFor_78 : decode cX6_listFor 78 = .ok (.iconst 0, 1) := by decide +kernel
theorem dX6_listFor_79 : decode cX6_listFor 79 = .ok (.ior, 1) := by decide +kernel
theorem dX6_listFor_80 : decode cX6_listFor 80 = .ok (.putfield 25, 3) := by decide +kernel
theorem dX6_listFor_83 : decode cX6_listFor 83 = .ok (.aload_n 0, 1) := by decide +kernel
theorem dX6_listFor_84 : decode cX6_listFor 84 = .ok (.dup, 1) := by decide +kernel
theorem dX6_listFor_85 : decode cX6_listFor 85 = .ok (.getfield 28, 3) := by decide +kernel
theorem dX6_listFor_88 : decode cX6_listFor 88 = .ok (.aload_n 1, 1) := by decide +kernel
theorem dX6_listFor_89 : decode cX6_listFor 89 = .ok (.iload_n 2, 1) := by decide +kernel
theorem dX6_listFor_90 : decode cX6_listFor 90 = .ok (.iload_n 2, 1) := by decide +kernel
theorem dX6_listFor_91 : decode cX6_listFor 91 = .ok (.iconst 1, 1) := by decide +kernel
theorem dX6_listFor_92 : decode cX6_listFor 92 = .ok (.isub, 1) := by decide +kernel
theorem dX6_listFor_93 : decode cX6_listFor 93 = .ok (.invokevirtual 47, 3) := by decide +kernel
theorem dX6_listFor_96 : decode cX6_listFor 96 = .ok (.ifCond .eq 9, 3) := by decide +kernel
theorem dX6_listFor_99 : decode cX6_listFor 99 = .ok (.iconst 1, 1) := by decide +kernel
theorem dX6_listFor_100 : decode cX6_listFor 100 = .ok (.iload_n 2, 1) := by decide +kernel
theorem dX6_listFor_101 : decode cX6_listFor 101 = .ok (.ishl, 1) := by decide +kernel
theorem dX6_listFor_102 : decode cX6_listFor 102 = .ok (.goto 4, 3) := by decide +kernel
theorem dX6_listFor_105 : decode cX6_listFor 105 = .ok (.iconst 0, 1) := by decide +kernel
theorem dX6_listFor_106 : decode cX6_listFor 106 = .ok (.ior, 1) := by decide +kernel
theorem dX6_listFor_107 : decode cX6_listFor 107 = .ok (.putfield 28, 3) := by decide +kernel
theorem dX6_listFor_110 : decode cX6_listFor 110 = .ok (.iinc 2 1, 3) := by decide +kernel
theorem dX6_listFor_113 : decode cX6_listFor 113 = .ok (.goto (-96), 3) := by decide +kernel
theorem dX6_listFor_116 : decode cX6_listFor 116 = .ok (.return_, 1) := by decide +kernel
set_option maxRecDepth 20000 in
theorem ggX6_add_X7_bits : GoodIn wsX6_add wsX7_bits := goodIn_r _ [7] (by decide +kernel) (by decide +kernel)
set_option maxRecDepth 20000 in
theorem gX6_add_X7_bits_n50 : GoodIn wsX6_add (wsX7_bits) := ggX6_add_X7_bits
theorem dX6_add_0 : decode cX6_add 0 = .ok (.aload_n 0, 1) := by decide +kernel
theorem dX6_add_1 : decode cX6_add 1 = .ok (.getfield 21, 3) := by decide +kernel
theorem dX6_add_4 : decode cX6_add 4 = .ok (.bipush 27, 2) := by decide +kernel
theorem dX6_add_6 : decode cX6_add 6 = .ok (.if_icmp .lt 4, 3) := by decide +kernel
theorem dX6_add_9 : decode cX6_add 9 = .ok (.return_, 1) := by decide +kernel
theorem dX6_add_10 : decode cX6_add 10 = .ok (.aload_n 0, 1) := by decide +kernel
theorem dX6_add_11 : decode cX6_add 11 = .ok (.getfield 11, 3) := by decide +kernel
theorem dX6_add_14 : decode cX6_add 14 = .ok (.aload_n 0, 1) := by decide +kernel
theorem dX6_add_15 : decode cX6_add 15 = .ok (.getfield 21, 3) := by decide +kernel
theorem dX6_add_18 : decode cX6_add 18 = .ok (.iload_n 1, 1) := by decide +kernel
theorem dX6_add_19 : decode cX6_add 19 = .ok (.iastore, 1) := by decide +kernel
theorem dX6_add_20 : decode cX6_add 20 = .ok (.aload_n 0, 1) := by decide +kernel
theorem dX6_add_21 : decode cX6_add 21 = .ok (.getfield 15, 3) := by decide +kernel
theorem dX6_add_24 : decode cX6_add 24 = .ok (.aload_n 0, 1) := by decide +kernel
theorem dX6_add_25 : decode cX6_add 25 = .ok (.getfield 21, 3) := by decide +kernel
theorem dX6_add_28 : decode cX6_add 28 = .ok (.iload_n 2, 1) := by decide +kernel
theorem dX6_add_29 : decode cX6_add 29 = .ok (.iastore, 1) := by decide +kernel
theorem dX6_add_30 : decode cX6_add 30 = .ok (.aload_n 0, 1) := by decide +kernel
theorem dX6_add_31 : decode cX6_add 31 = .ok (.getfield 18, 3) := by decide +kernel
theorem dX6_add_34 : decode cX6_add 34 = .ok (.aload_n 0, 1) := by decide +kernel
theorem dX6_add_35 : decode cX6_add 35 = .ok (.getfield 21, 3) := by decide +kernel
theorem dX6_add_38 : decode cX6_add 38 = .ok (.iload_n 1, 1) := by decide +kernel
theorem dX6_add_39 : decode cX6_add 39 = .ok (.iload_n 2, 1) := by decide +kernel
theorem dX6_add_40 : decode cX6_add 40 = .ok (.invokestatic 50, 3) := by decide +kernel
theorem dX6_add_43 : decode cX6_add 43 = .ok (.iastore, 1) := by decide +kernel
theorem dX6_add_44 : decode cX6_add 44 = .ok (.aload_n 0, 1) := by decide +kernel
theorem dX6_add_45 : decode cX6_add 45 = .ok (.dup, 1) := by decide +kernel
theorem dX6_add_46 : decode cX6_add 46 = .ok (.getfield 21, 3) := by decide +kernel
theorem dX6_add_49 : decode cX6_add 49 = .ok (.iconst 1, 1) := by decide +kernel
theorem dX6_add_50 : decode cX6_add 50 = .ok (.iadd, 1) := by decide +kernel
theorem dX6_add_51 : decode cX6_add 51 = .ok (.putfield 21, 3) := by decide +kernel
theorem dX6_add_54 : decode cX6_add 54 = .ok (.return_, 1) := by decide +kernel
theorem dX6_find_0 : decode cX6_find 0 = .ok (.iconst 0, 1) := by decide +kernel
theorem dX6_find_1 : decode cX6_find 1 = .ok (.istore_n 3, 1) := by decide +kernel
theorem dX6_find_2 : decode cX6_find 2 = .ok (.iload_n 3, 1) := by decide +kernel
theorem dX6_find_3 : decode cX6_find 3 = .ok (.aload_n 0, 1) := by decide +kernel
theorem dX6_find_4 : decode cX6_find 4 = .ok (.getfield 21, 3) := by decide +kernel
theorem dX6_find_7 : decode cX6_find 7 = .ok (.if_icmp .ge 31, 3) := by decide +kernel
theorem dX6_find_10 : decode cX6_find 10 = .ok (.aload_n 0, 1) := by decide +kernel
theorem dX6_find_11 : decode cX6_find 11 = .ok (.getfield 11, 3) := by decide +kernel
theorem dX6_find_14 : decode cX6_find 14 = .ok (.iload_n 3, 1) := by decide +kernel
theorem dX6_find_15 : decode cX6_find 15 = .ok (.iaload, 1) := by decide +kernel
theorem dX6_find_16 : decode cX6_find 16 = .ok (.iload_n 1, 1) := by decide +kernel
theorem dX6_find_17 : decode cX6_find 17 = .ok (.if_icmp .ne 15, 3) := by decide +kernel
theorem dX6_find_20 : decode cX6_find 20 = .ok (.aload_n 0, 1) := by decide +kernel
theorem dX6_find_21 : decode cX6_find 21 = .ok (.getfield 15, 3) := by decide +kernel
theorem dX6_find_24 : decode cX6_find 24 = .ok (.iload_n 3, 1) := by decide +kernel
theorem dX6_find_25 : decode cX6_find 25 = .ok (.iaload, 1) := by decide +kernel
theorem dX6_find_26 : decode cX6_find 26 = .ok (.iload_n 2, 1) := by decide +kernel
theorem dX6_find_27 : decode cX6_find 27 = .ok (.if_icmp .ne 5, 3) := by decide +kernel
theorem dX6_find_30 : decode cX6_find 30 = .ok (.iload_n 3, 1) := by decide +kernel
theorem dX6_find_31 : decode cX6_find 31 = .ok (.ireturn, 1) := by decide +kernel
theorem dX6_find_32 : decode cX6_find 32 = .ok (.iinc 3 1, 3) := by decide +kernel
theorem dX6_find_35 : decode cX6_find 35 = .ok (.goto (-33), 3) := by decide +kernel
theorem dX6_find_38 : decode cX6_find 38 = .ok (.iconst (-1), 1) := by decide +kernel
theorem dX6_find_39 : decode cX6_find 39 = .ok (.ireturn, 1) := by decide +kernel
theorem dX6_fallen_0 : decode cX6_fallen 0 = .ok (.iload_n 1, 1) := by decide +kernel
theorem dX6_fallen_1 : decode cX6_fallen 1 = .ok (.ifCond .lt 28, 3) := by decide +kernel
theorem dX6_fallen_4 : decode cX6_fallen 4 = .ok (.iload_n 1, 1) := by decide +kernel
theorem dX6_fallen_5 : decode cX6_fallen 5 = .ok (.aload_n 0, 1) := by decide +kernel
theorem dX6_fallen_6 : decode cX6_fallen 6 = .ok (.getfield 21, 3) := by decide +kernel
theorem dX6_fallen_9 : decode cX6_fallen 9 = .ok (.if_icmp .ge 20, 3) := by decide +kernel
theorem dX6_fallen_12 : decode cX6_fallen 12 = .ok (.iload_n 2, 1) := by decide +kernel
theorem dX6_fallen_13 : decode cX6_fallen 13 = .ok (.aload_n 0, 1) := by decide +kernel
theorem dX6_fallen_14 : decode cX6_fallen 14 = .ok (.getfield 18, 3) := by decide +kernel
theorem dX6_fallen_17 : decode cX6_fallen 17 = .ok (.iload_n 1, 1) := by decide +kernel
theorem dX6_fallen_18 : decode cX6_fallen 18 = .ok (.iaload, 1) := by decide +kernel
theorem dX6_fallen_19 : decode cX6_fallen 19 = .ok (.iand, 1) := by decide +kernel
theorem dX6_fallen_20 : decode cX6_fallen 20 = .ok (.aload_n 0, 1) := by decide +kernel
theorem dX6_fallen_21 : decode cX6_fallen 21 = .ok (.getfield 18, 3) := by decide +kernel
theorem dX6_fallen_24 : decode cX6_fallen 24 = .ok (.iload_n 1, 1) := by decide +kernel
theorem dX6_fallen_25 : decode cX6_fallen 25 = .ok (.iaload, 1) := by decide +kernel
theorem dX6_fallen_26 : decode cX6_fallen 26 = .ok (.if_icmp .eq 5, 3) := by decide +kernel
theorem dX6_fallen_29 : decode cX6_fallen 29 = .ok (.iconst 0, 1) := by decide +kernel
theorem dX6_fallen_30 : decode cX6_fallen 30 = .ok (.ireturn, 1) := by decide +kernel
theorem dX6_fallen_31 : decode cX6_fallen 31 = .ok (.aload_n 0, 1) := by decide +kernel
theorem dX6_fallen_32 : decode cX6_fallen 32 = .ok (.getfield 18, 3) := by decide +kernel
theorem dX6_fallen_35 : decode cX6_fallen 35 = .ok (.iload_n 1, 1) := by decide +kernel
theorem dX6_fallen_36 : decode cX6_fallen 36 = .ok (.iaload, 1) := by decide +kernel
theorem dX6_fallen_37 : decode cX6_fallen 37 = .ok (.istore_n 3, 1) := by decide +kernel
theorem dX6_fallen_38 : decode cX6_fallen 38 = .ok (.aload_n 0, 1) := by decide +kernel
theorem dX6_fallen_39 : decode cX6_fallen 39 = .ok (.getfield 11, 3) := by decide +kernel
theorem dX6_fallen_42 : decode cX6_fallen 42 = .ok (.iload_n 1, 1) := by decide +kernel
theorem dX6_fallen_43 : decode cX6_fallen 43 = .ok (.iaload, 1) := by decide +kernel
theorem dX6_fallen_44 : decode cX6_fallen 44 = .ok (.aload_n 0, 1) := by decide +kernel
theorem dX6_fallen_45 : decode cX6_fallen 45 = .ok (.getfield 15, 3) := by decide +kernel
theorem dX6_fallen_48 : decode cX6_fallen 48 = .ok (.iload_n 1, 1) := by decide +kernel
theorem dX6_fallen_49 : decode cX6_fallen 49 = .ok (.iaload, 1) := by decide +kernel
theorem dX6_fallen_50 : decode cX6_fallen 50 = .ok (.iadd, 1) := by decide +kernel
theorem dX6_fallen_51 : decode cX6_fallen 51 = .ok (.iconst 1, 1) := by decide +kernel
theorem dX6_fallen_52 : decode cX6_fallen 52 = .ok (.isub, 1) := by decide +kernel
theorem dX6_fallen_53 : decode cX6_fallen 53 = .ok (.istore 4, 2) := by decide +kernel
theorem dX6_fallen_55 : decode cX6_fallen 55 = .ok (.iload 4, 2) := by decide +kernel
theorem dX6_fallen_57 : decode cX6_fallen 57 = .ok (.iconst 1, 1) := by decide +kernel
theorem dX6_fallen_58 : decode cX6_fallen 58 = .ok (.iadd, 1) := by decide +kernel
theorem dX6_fallen_59 : decode cX6_fallen 59 = .ok (.bipush 9, 2) := by decide +kernel
theorem dX6_fallen_61 : decode cX6_fallen 61 = .ok (.if_icmp .ge 36, 3) := by decide +kernel
theorem dX6_fallen_64 : decode cX6_fallen 64 = .ok (.aload_n 0, 1) := by decide +kernel
theorem dX6_fallen_65 : decode cX6_fallen 65 = .ok (.getfield 25, 3) := by decide +kernel
theorem dX6_fallen_68 : decode cX6_fallen 68 = .ok (.iload 4, 2) := by decide +kernel
theorem dX6_fallen_70 : decode cX6_fallen 70 = .ok (.ishr, 1) := by decide +kernel
theorem dX6_fallen_71 : decode cX6_fallen 71 = .ok (.iload_n 2, 1) := by decide +kernel
theorem dX6_fallen_72 : decode cX6_fallen 72 = .ok (.iload 4, 2) := by decide +kernel
theorem dX6_fallen_74 : decode cX6_fallen 74 = .ok (.iconst 1, 1) := by decide +kernel
theorem dX6_fallen_75 : decode cX6_fallen 75 = .ok (.iadd, 1) := by decide +kernel
theorem dX6_fallen_76 : decode cX6_fallen 76 = .ok (.ishr, 1) := by decide +kernel
theorem dX6_fallen_77 : decode cX6_fallen 77 = .ok (.iand, 1) := by decide +kernel
theorem dX6_fallen_78 : decode cX6_fallen 78 = .ok (.iconst 1, 1) := by decide +kernel
theorem dX6_fallen_79 : decode cX6_fallen 79 = .ok (.iand, 1) := by decide +kernel
theorem dX6_fallen_80 : decode cX6_fallen 80 = .ok (.iconst 1, 1) := by decide +kernel
theorem dX6_fallen_81 : decode cX6_fallen 81 = .ok (.if_icmp .ne 16, 3) := by decide +kernel
theorem dX6_fallen_84 : decode cX6_fallen 84 = .ok (.iinc 4 1, 3) := by decide +kernel
theorem dX6_fallen_87 : decode cX6_fallen 87 = .ok (.iload_n 3, 1) := by decide +kernel
theorem dX6_fallen_88 : decode cX6_fallen 88 = .ok (.iconst 1, 1) := by decide +kernel
theorem dX6_fallen_89 : decode cX6_fallen 89 = .ok (.iload 4, 2) := by decide +kernel
theorem dX6_fallen_91 : decode cX6_fallen 91 = .ok (.ishl, 1) := by decide +kernel
theorem dX6_fallen_92 : decode cX6_fallen 92 = .ok (.ior, 1) := by decide +kernel
theorem dX6_fallen_93 : decode cX6_fallen 93 = .ok (.istore_n 3, 1) := by decide +kernel
theorem dX6_fallen_94 : decode cX6_fallen 94 = .ok (.goto (-39), 3) := by decide +kernel
theorem dX6_fallen_97 : decode cX6_fallen 97 = .ok (.aload_n 0, 1) := by decide +kernel
theorem dX6_fallen_98 : decode cX6_fallen 98 = .ok (.getfield 11, 3) := by decide +kernel
theorem dX6_fallen_101 : decode cX6_fallen 101 = .ok (.iload_n 1, 1) := by decide +kernel
theorem dX6_fallen_102 : decode cX6_fallen 102 = .ok (.iaload, 1) := by decide +kernel
theorem dX6_fallen_103 : decode cX6_fallen 103 = .ok (.istore 5, 2) := by decide +kernel
theorem dX6_fallen_105 : decode cX6_fallen 105 = .ok (.iload 5, 2) := by decide +kernel
theorem dX6_fallen_107 : decode cX6_fallen 107 = .ok (.ifCond .le 36, 3) := by decide +kernel
theorem dX6_fallen_110 : decode cX6_fallen 110 = .ok (.aload_n 0, 1) := by decide +kernel
theorem dX6_fallen_111 : decode cX6_fallen 111 = .ok (.getfield 28, 3) := by decide +kernel
theorem dX6_fallen_114 : decode cX6_fallen 114 = .ok (.iload 5, 2) := by decide +kernel
theorem dX6_fallen_116 : decode cX6_fallen 116 = .ok (.ishr, 1) := by decide +kernel
theorem dX6_fallen_117 : decode cX6_fallen 117 = .ok (.iload_n 2, 1) := by decide +kernel
theorem dX6_fallen_118 : decode cX6_fallen 118 = .ok (.iload 5, 2) := by decide +kernel
theorem dX6_fallen_120 : decode cX6_fallen 120 = .ok (.iconst 1, 1) := by decide +kernel
theorem dX6_fallen_121 : decode cX6_fallen 121 = .ok (.isub, 1) := by decide +kernel
theorem dX6_fallen_122 : decode cX6_fallen 122 = .ok (.ishr, 1) := by decide +kernel
theorem dX6_fallen_123 : decode cX6_fallen 123 = .ok (.iand, 1) := by decide +kernel
theorem dX6_fallen_124 : decode cX6_fallen 124 = .ok (.iconst 1, 1) := by decide +kernel
theorem dX6_fallen_125 : decode cX6_fallen 125 = .ok (.iand, 1) := by decide +kernel
theorem dX6_fallen_126 : decode cX6_fallen 126 = .ok (.iconst 1, 1) := by decide +kernel
theorem dX6_fallen_127 : decode cX6_fallen 127 = .ok (.if_icmp .ne 16, 3) := by decide +kernel
theorem dX6_fallen_130 : decode cX6_fallen 130 = .ok (.iinc 5 (-1), 3) := by decide +kernel
theorem dX6_fallen_133 : decode cX6_fallen 133 = .ok (.iload_n 3, 1) := by decide +kernel
theorem dX6_fallen_134 : decode cX6_fallen 134 = .ok (.iconst 1, 1) := by decide +kernel
theorem dX6_fallen_135 : decode cX6_fallen 135 = .ok (.iload 5, 2) := by decide +kernel
theorem dX6_fallen_137 : decode cX6_fallen 137 = .ok (.ishl, 1) := by decide +kernel
theorem dX6_fallen_138 : decode cX6_fallen 138 = .ok (.ior, 1) := by decide +kernel
theorem dX6_fallen_139 : decode cX6_fallen 139 = .ok (.istore_n 3, 1) := by decide +kernel
theorem dX6_fallen_140 : decode cX6_fallen 140 = .ok (.goto (-35), 3) := by decide +kernel
theorem dX6_fallen_143 : decode cX6_fallen 143 = .ok (.iload_n 3, 1) := by decide +kernel
theorem dX6_fallen_144 : decode cX6_fallen 144 = .ok (.ireturn, 1) := by decide +kernel
theorem dX6_howMany_0 : decode cX6_howMany 0 = .ok (.iconst 0, 1) := by decide +kernel
theorem dX6_howMany_1 : decode cX6_howMany 1 = .ok (.istore_n 2, 1) := by decide +kernel
theorem dX6_howMany_2 : decode cX6_howMany 2 = .ok (.iconst 0, 1) := by decide +kernel
theorem dX6_howMany_3 : decode cX6_howMany 3 = .ok (.istore_n 3, 1) := by decide +kernel
theorem dX6_howMany_4 : decode cX6_howMany 4 = .ok (.iload_n 3, 1) := by decide +kernel
theorem dX6_howMany_5 : decode cX6_howMany 5 = .ok (.aload_n 0, 1) := by decide +kernel
theorem dX6_howMany_6 : decode cX6_howMany 6 = .ok (.getfield 21, 3) := by decide +kernel
theorem dX6_howMany_9 : decode cX6_howMany 9 = .ok (.if_icmp .ge 29, 3) := by decide +kernel
theorem dX6_howMany_12 : decode cX6_howMany 12 = .ok (.iload_n 1, 1) := by decide +kernel
theorem dX6_howMany_13 : decode cX6_howMany 13 = .ok (.aload_n 0, 1) := by decide +kernel
theorem dX6_howMany_14 : decode cX6_howMany 14 = .ok (.getfield 18, 3) := by decide +kernel
theorem dX6_howMany_17 : decode cX6_howMany 17 = .ok (.iload_n 3, 1) := by decide +kernel
theorem dX6_howMany_18 : decode cX6_howMany 18 = .ok (.iaload, 1) := by decide +kernel
theorem dX6_howMany_19 : decode cX6_howMany 19 = .ok (.iand, 1) := by decide +kernel
theorem dX6_howMany_20 : decode cX6_howMany 20 = .ok (.aload_n 0, 1) := by decide +kernel
theorem dX6_howMany_21 : decode cX6_howMany 21 = .ok (.getfield 18, 3) := by decide +kernel
theorem dX6_howMany_24 : decode cX6_howMany 24 = .ok (.iload_n 3, 1) := by decide +kernel
theorem dX6_howMany_25 : decode cX6_howMany 25 = .ok (.iaload, 1) := by decide +kernel
theorem dX6_howMany_26 : decode cX6_howMany 26 = .ok (.if_icmp .ne 6, 3) := by decide +kernel
theorem dX6_howMany_29 : decode cX6_howMany 29 = .ok (.iinc 2 1, 3) := by decide +kernel
theorem dX6_howMany_32 : decode cX6_howMany 32 = .ok (.iinc 3 1, 3) := by decide +kernel
theorem dX6_howMany_35 : decode cX6_howMany 35 = .ok (.goto (-31), 3) := by decide +kernel
theorem dX6_howMany_38 : decode cX6_howMany 38 = .ok (.iload_n 2, 1) := by decide +kernel
theorem dX6_howMany_39 : decode cX6_howMany 39 = .ok (.ireturn, 1) := by decide +kernel
set_option maxRecDepth 20000 in
theorem ggX6_fallenByNumber_X6_fallen : GoodIn wsX6_fallenByNumber wsX6_fallen := goodIn_r _ [7, 1, 2, 8, 9, 10, 11, 12, 13, 14, 15, 16, 17] (by decide +kernel) (by decide +kernel)
set_option maxRecDepth 20000 in
theorem gX6_fallenByNumber_X6_fallen : GoodIn wsX6_fallenByNumber (wsV RX6 54 RX6 yX6_fallen wsX6_fallen) := goodIn_app (goodIn_of _ (by decide +kernel)) ggX6_fallenByNumber_X6_fallen
theorem dX6_fallenByNumber_0 : decode cX6_fallenByNumber 0 = .ok (.iload_n 1, 1) := by decide +kernel
theorem dX6_fallenByNumber_1 : decode cX6_fallenByNumber 1 = .ok (.istore_n 3, 1) := by decide +kernel
theorem dX6_fallenByNumber_2 : decode cX6_fallenByNumber 2 = .ok (.iconst 0, 1) := by decide +kernel
theorem dX6_fallenByNumber_3 : decode cX6_fallenByNumber 3 = .ok (.istore 4, 2) := by decide +kernel
theorem dX6_fallenByNumber_5 : decode cX6_fallenByNumber 5 = .ok (.iload 4, 2) := by decide +kernel
theorem dX6_fallenByNumber_7 : decode cX6_fallenByNumber 7 = .ok (.aload_n 0, 1) := by decide +kernel
theorem dX6_fallenByNumber_8 : decode cX6_fallenByNumber 8 = .ok (.getfield 21, 3) := by decide +kernel
theorem dX6_fallenByNumber_11 : decode cX6_fallenByNumber 11 = .ok (.if_icmp .ge 43, 3) := by decide +kernel
theorem dX6_fallenByNumber_14 : decode cX6_fallenByNumber 14 = .ok (.iload_n 2, 1) := by decide +kernel
theorem dX6_fallenByNumber_15 : decode cX6_fallenByNumber 15 = .ok (.aload_n 0, 1) := by decide +kernel
theorem dX6_fallenByNumber_16 : decode cX6_fallenByNumber 16 = .ok (.getfield 18, 3) := by decide +kernel
theorem dX6_fallenByNumber_19 : decode cX6_fallenByNumber 19 = .ok (.iload 4, 2) := by decide +kernel
theorem dX6_fallenByNumber_21 : decode cX6_fallenByNumber 21 = .ok (.iaload, 1) := by decide +kernel
theorem dX6_fallenByNumber_22 : decode cX6_fallenByNumber 22 = .ok (.iand, 1) := by decide +kernel
theorem dX6_fallenByNumber_23 : decode cX6_fallenByNumber 23 = .ok (.aload_n 0, 1) := by decide +kernel
theorem dX6_fallenByNumber_24 : decode cX6_fallenByNumber 24 = .ok (.getfield 18, 3) := by decide +kernel
theorem dX6_fallenByNumber_27 : decode cX6_fallenByNumber 27 = .ok (.iload 4, 2) := by decide +kernel
theorem dX6_fallenByNumber_29 : decode cX6_fallenByNumber 29 = .ok (.iaload, 1) := by decide +kernel
theorem dX6_fallenByNumber_30 : decode cX6_fallenByNumber 30 = .ok (.if_icmp .ne 18, 3) := by decide +kernel
theorem dX6_fallenByNumber_33 : decode cX6_fallenByNumber 33 = .ok (.iload_n 3, 1) := by decide +kernel
theorem dX6_fallenByNumber_34 : decode cX6_fallenByNumber 34 = .ok (.ifCond .ne 11, 3) := by decide +kernel
theorem dX6_fallenByNumber_37 : decode cX6_fallenByNumber 37 = .ok (.aload_n 0, 1) := by decide +kernel
theorem dX6_fallenByNumber_38 : decode cX6_fallenByNumber 38 = .ok (.iload 4, 2) := by decide +kernel
theorem dX6_fallenByNumber_40 : decode cX6_fallenByNumber 40 = .ok (.iload_n 2, 1) := by decide +kernel
theorem dX6_fallenByNumber_41 : decode cX6_fallenByNumber 41 = .ok (.invokevirtual 54, 3) := by decide +kernel
theorem dX6_fallenByNumber_44 : decode cX6_fallenByNumber 44 = .ok (.ireturn, 1) := by decide +kernel
theorem dX6_fallenByNumber_45 : decode cX6_fallenByNumber 45 = .ok (.iinc 3 (-1), 3) := by decide +kernel
theorem dX6_fallenByNumber_48 : decode cX6_fallenByNumber 48 = .ok (.iinc 4 1, 3) := by decide +kernel
theorem dX6_fallenByNumber_51 : decode cX6_fallenByNumber 51 = .ok (.goto (-46), 3) := by decide +kernel
theorem dX6_fallenByNumber_54 : decode cX6_fallenByNumber 54 = .ok (.iconst 0, 1) := by decide +kernel
theorem dX6_fallenByNumber_55 : decode cX6_fallenByNumber 55 = .ok (.ireturn, 1) := by decide +kernel
