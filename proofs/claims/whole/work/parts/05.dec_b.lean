set_option maxRecDepth 20000 in
theorem ggX7_init_X3_init : GoodIn wsX7_init wsX3_init := goodIn_r _ [32, 33, 2, 3, 34, 11, 12, 35, 36, 37, 38, 39, 40, 41, 42, 43, 44, 45, 46, 47, 48, 49, 50, 51, 52, 53, 89, 90, 91, 92, 93, 94, 95, 96, 97, 98, 99, 87, 88, 116, 117, 118, 119] (by decide +kernel) (by decide +kernel)
set_option maxRecDepth 20000 in
theorem gX7_init_X3_init_n15 : GoodIn wsX7_init (wsX3_init) := ggX7_init_X3_init
set_option maxRecDepth 20000 in
theorem ggX7_init_X1_init : GoodIn wsX7_init wsX1_init := goodIn_r _ [37, 38, 2, 3, 39, 40, 41, 42, 43, 44, 45, 46, 47, 48, 49, 50, 51, 52, 53, 89, 90, 91, 92, 93, 94, 95, 96, 97, 98, 99, 116, 117, 118, 119] (by decide +kernel) (by decide +kernel)
set_option maxRecDepth 20000 in
theorem gX7_init_X1_init_n22 : GoodIn wsX7_init (wsX1_init) := ggX7_init_X1_init
set_option maxRecDepth 20000 in
theorem ggX7_init_X6_init : GoodIn wsX7_init wsX6_init := goodIn_r _ [55, 56, 2, 3, 39, 57, 58, 59, 100, 101, 102, 103, 104, 105] (by decide +kernel) (by decide +kernel)
set_option maxRecDepth 20000 in
theorem gX7_init_X6_init_n32 : GoodIn wsX7_init (wsX6_init) := ggX7_init_X6_init
set_option maxRecDepth 20000 in
theorem ggX7_init_X2_init : GoodIn wsX7_init wsX2_init := goodIn_r _ [61, 62, 2, 3, 39, 63, 64, 65, 66, 67, 106, 107, 108, 109, 110] (by decide +kernel) (by decide +kernel)
set_option maxRecDepth 20000 in
theorem gX7_init_X2_init_n39 : GoodIn wsX7_init (wsX2_init) := ggX7_init_X2_init
set_option maxRecDepth 20000 in
theorem ggX7_init_X4_init : GoodIn wsX7_init wsX4_init := goodIn_r _ [69, 70, 2, 3, 39, 71, 111, 112] (by decide +kernel) (by decide +kernel)
set_option maxRecDepth 20000 in
theorem gX7_init_X4_init_n46 : GoodIn wsX7_init (wsX4_init) := ggX7_init_X4_init
set_option maxRecDepth 20000 in
theorem ggX7_init_X0_init : GoodIn wsX7_init wsX0_init := goodIn_r _ [73, 74, 2, 3] (by decide +kernel) (by decide +kernel)
set_option maxRecDepth 20000 in
theorem gX7_init_X0_init_n53 : GoodIn wsX7_init (wsX0_init) := ggX7_init_X0_init
theorem dX7_init_0 : decode cX7_init 0 = .ok (.aload_n 0, 1) := by decide +kernel
theorem dX7_init_1 : decode cX7_init 1 = .ok (.invokespecial 1, 3) := by decide +kernel
theorem dX7_init_4 : decode cX7_init 4 = .ok (.aload_n 0, 1) := by decide +kernel
theorem dX7_init_5 : decode cX7_init 5 = .ok (.bipush 16, 2) := by decide +kernel
theorem dX7_init_7 : decode cX7_init 7 = .ok (.newarray .char, 2) := by decide +kernel
theorem dX7_init_9 : decode cX7_init 9 = .ok (.putfield 9, 3) := by decide +kernel
theorem dX7_init_12 : decode cX7_init 12 = .ok (.aload_n 0, 1) := by decide +kernel
theorem dX7_init_13 : decode cX7_init 13 = .ok (.new 13, 3) := by decide +kernel
theorem dX7_init_16 : decode cX7_init 16 = .ok (.dup, 1) := by decide +kernel
theorem dX7_init_17 : decode cX7_init 17 = .ok (.invokespecial 15, 3) := by decide +kernel
theorem dX7_init_20 : decode cX7_init 20 = .ok (.putfield 16, 3) := by decide +kernel
theorem dX7_init_23 : decode cX7_init 23 = .ok (.aload_n 0, 1) := by decide +kernel
theorem dX7_init_24 : decode cX7_init 24 = .ok (.new 20, 3) := by decide +kernel
theorem dX7_init_27 : decode cX7_init 27 = .ok (.dup, 1) := by decide +kernel
theorem dX7_init_28 : decode cX7_init 28 = .ok (.invokespecial 22, 3) := by decide +kernel
theorem dX7_init_31 : decode cX7_init 31 = .ok (.putfield 23, 3) := by decide +kernel
theorem dX7_init_34 : decode cX7_init 34 = .ok (.aload_n 0, 1) := by decide +kernel
theorem dX7_init_35 : decode cX7_init 35 = .ok (.new 20, 3) := by decide +kernel
theorem dX7_init_38 : decode cX7_init 38 = .ok (.dup, 1) := by decide +kernel
theorem dX7_init_39 : decode cX7_init 39 = .ok (.invokespecial 22, 3) := by decide +kernel
theorem dX7_init_42 : decode cX7_init 42 = .ok (.putfield 27, 3) := by decide +kernel
theorem dX7_init_45 : decode cX7_init 45 = .ok (.aload_n 0, 1) := by decide +kernel
theorem dX7_init_46 : decode cX7_init 46 = .ok (.new 30, 3) := by decide +kernel
theorem dX7_init_49 : decode cX7_init 49 = .ok (.dup, 1) := by decide +kernel
theorem dX7_init_50 : decode cX7_init 50 = .ok (.invokespecial 32, 3) := by decide +kernel
theorem dX7_init_53 : decode cX7_init 53 = .ok (.putfield 33, 3) := by decide +kernel
theorem dX7_init_56 : decode cX7_init 56 = .ok (.aload_n 0, 1) := by decide +kernel
theorem dX7_init_57 : decode cX7_init 57 = .ok (.new 37, 3) := by decide +kernel
theorem dX7_init_60 : decode cX7_init 60 = .ok (.dup, 1) := by decide +kernel
theorem dX7_init_61 : decode cX7_init 61 = .ok (.invokespecial 39, 3) := by decide +kernel
theorem dX7_init_64 : decode cX7_init 64 = .ok (.putfield 40, 3) := by decide +kernel
theorem dX7_init_67 : decode cX7_init 67 = .ok (.aload_n 0, 1) := by decide +kernel
theorem dX7_init_68 : decode cX7_init 68 = .ok (.new 44, 3) := by decide +kernel
theorem dX7_init_71 : decode cX7_init 71 = .ok (.dup, 1) := by decide +kernel
theorem dX7_init_72 : decode cX7_init 72 = .ok (.invokespecial 46, 3) := by decide +kernel
theorem dX7_init_75 : decode cX7_init 75 = .ok (.putfield 47, 3) := by decide +kernel
theorem dX7_init_78 : decode cX7_init 78 = .ok (.aload_n 0, 1) := by decide +kernel
theorem dX7_init_79 : decode cX7_init 79 = .ok (.new 51, 3) := by decide +kernel
theorem dX7_init_82 : decode cX7_init 82 = .ok (.dup, 1) := by decide +kernel
theorem dX7_init_83 : decode cX7_init 83 = .ok (.invokespecial 53, 3) := by decide +kernel
theorem dX7_init_86 : decode cX7_init 86 = .ok (.putfield 54, 3) := by decide +kernel
theorem dX7_init_89 : decode cX7_init 89 = .ok (.return_, 1) := by decide +kernel
theorem dX7_letter_0 : decode cX7_letter 0 = .ok (.iload_n 1, 1) := by decide +kernel
theorem dX7_letter_1 : decode cX7_letter 1 = .ok (.iconst 1, 1) := by decide +kernel
theorem dX7_letter_2 : decode cX7_letter 2 = .ok (.if_icmp .lt 9, 3) := by decide +kernel
theorem dX7_letter_5 : decode cX7_letter 5 = .ok (.iload_n 1, 1) := by decide +kernel
theorem dX7_letter_6 : decode cX7_letter 6 = .ok (.bipush 126, 2) := by decide +kernel
theorem dX7_letter_8 : decode cX7_letter 8 = .ok (.if_icmp .le 6, 3) := by decide +kernel
theorem dX7_letter_11 : decode cX7_letter 11 = .ok (.bipush (-102), 2) := by decide +kernel
theorem dX7_letter_13 : decode cX7_letter 13 = .ok (.ireturn, 1) := by decide +kernel
theorem dX7_letter_14 : decode cX7_letter 14 = .ok (.aload_n 0, 1) := by decide +kernel
theorem dX7_letter_15 : decode cX7_letter 15 = .ok (.getfield 58, 3) := by decide +kernel
theorem dX7_letter_18 : decode cX7_letter 18 = .ok (.bipush 16, 2) := by decide +kernel
theorem dX7_letter_20 : decode cX7_letter 20 = .ok (.if_icmp .lt 6, 3) := by decide +kernel
theorem dX7_letter_23 : decode cX7_letter 23 = .ok (.bipush (-104), 2) := by decide +kernel
theorem dX7_letter_25 : decode cX7_letter 25 = .ok (.ireturn, 1) := by decide +kernel
theorem dX7_letter_26 : decode cX7_letter 26 = .ok (.aload_n 0, 1) := by decide +kernel
theorem dX7_letter_27 : decode cX7_letter 27 = .ok (.getfield 9, 3) := by decide +kernel
theorem dX7_letter_30 : decode cX7_letter 30 = .ok (.aload_n 0, 1) := by decide +kernel
theorem dX7_letter_31 : decode cX7_letter 31 = .ok (.getfield 58, 3) := by decide +kernel
theorem dX7_letter_34 : decode cX7_letter 34 = .ok (.iload_n 1, 1) := by decide +kernel
theorem dX7_letter_35 : decode cX7_letter 35 = .ok (.i2c, 1) := by decide +kernel
theorem dX7_letter_36 : decode cX7_letter 36 = .ok (.castore, 1) := by decide +kernel
theorem dX7_letter_37 : decode cX7_letter 37 = .ok (.aload_n 0, 1) := by decide +kernel
theorem dX7_letter_38 : decode cX7_letter 38 = .ok (.dup, 1) := by decide +kernel
theorem dX7_letter_39 : decode cX7_letter 39 = .ok (.getfield 58, 3) := by decide +kernel
theorem dX7_letter_42 : decode cX7_letter 42 = .ok (.iconst 1, 1) := by decide +kernel
theorem dX7_letter_43 : decode cX7_letter 43 = .ok (.iadd, 1) := by decide +kernel
theorem dX7_letter_44 : decode cX7_letter 44 = .ok (.putfield 58, 3) := by decide +kernel
theorem dX7_letter_47 : decode cX7_letter 47 = .ok (.aload_n 0, 1) := by decide +kernel
theorem dX7_letter_48 : decode cX7_letter 48 = .ok (.getfield 58, 3) := by decide +kernel
theorem dX7_letter_51 : decode cX7_letter 51 = .ok (.ireturn, 1) := by decide +kernel
theorem dX7_blank_0 : decode cX7_blank 0 = .ok (.aload_n 0, 1) := by decide +kernel
theorem dX7_blank_1 : decode cX7_blank 1 = .ok (.getfield 58, 3) := by decide +kernel
theorem dX7_blank_4 : decode cX7_blank 4 = .ok (.istore_n 1, 1) := by decide +kernel
theorem dX7_blank_5 : decode cX7_blank 5 = .ok (.aload_n 0, 1) := by decide +kernel
theorem dX7_blank_6 : decode cX7_blank 6 = .ok (.iconst 0, 1) := by decide +kernel
theorem dX7_blank_7 : decode cX7_blank 7 = .ok (.putfield 58, 3) := by decide +kernel
theorem dX7_blank_10 : decode cX7_blank 10 = .ok (.iload_n 1, 1) := by decide +kernel
theorem dX7_blank_11 : decode cX7_blank 11 = .ok (.ireturn, 1) := by decide +kernel
set_option maxRecDepth 20000 in
theorem ggX7_fault_X7_readPage : GoodIn wsX7_fault wsX7_readPage := goodIn_r _ [5, 6, 7, 8, 9, 10, 11, 12, 13, 14, 15, 16, 17, 18, 19, 20, 21, 22, 23, 24, 25, 26, 27, 28, 29, 30, 31, 32, 33, 34, 35, 36, 37, 38, 39, 40, 41, 42, 43, 44, 45, 46, 47, 48, 49, 50, 51, 52, 53, 54, 55, 56, 57, 58, 59, 60, 61, 62, 63, 64, 65, 66, 67, 68, 69, 70, 71, 72, 73, 74, 75, 76, 77, 78, 79, 80, 81, 82, 83, 84, 85, 86, 87, 88, 89, 90, 91, 92, 93, 94, 95, 96, 97, 98, 99, 100, 101, 102, 103, 104, 105, 106, 107, 108, 109, 110, 111, 112, 113, 114, 115, 116, 117, 118, 119, 120, 121, 122, 123, 124, 125, 126, 127, 128, 129, 130, 131, 132, 133, 134, 135, 136, 137, 138, 139, 140, 141, 142, 143, 4, 144, 145, 146, 147, 148, 149, 150, 151, 152, 153, 154, 155, 156, 157, 158, 159, 160, 161, 162, 163, 164, 165, 166, 167, 168, 169, 170, 171, 172, 173, 174] (by decide +kernel) (by decide +kernel)
set_option maxRecDepth 20000 in
theorem gX7_fault_X7_readPage : GoodIn wsX7_fault (wsV RX7 62 RX7 yX7_readPage wsX7_readPage) := goodIn_app (goodIn_of _ (by decide +kernel)) ggX7_fault_X7_readPage
theorem dX7_fault_0 : decode cX7_fault 0 = .ok (.aload_n 0, 1) := by decide +kernel
theorem dX7_fault_1 : decode cX7_fault 1 = .ok (.invokevirtual 62, 3) := by decide +kernel
theorem dX7_fault_4 : decode cX7_fault 4 = .ok (.ireturn, 1) := by decide +kernel
set_option maxRecDepth 20000 in
theorem ggX7_green_X7_readPage : GoodIn wsX7_green wsX7_readPage := goodIn_r _ [12, 2, 1, 13, 14, 15, 16, 17, 18, 19, 20, 21, 22, 23, 24, 25, 26, 27, 28, 29, 30, 31, 32, 33, 34, 35, 36, 37, 38, 39, 40, 41, 42, 43, 44, 45, 46, 47, 48, 49, 50, 51, 52, 53, 54, 55, 56, 57, 58, 59, 60, 61, 62, 63, 64, 65, 66, 67, 68, 69, 70, 71, 72, 73, 74, 75, 76, 77, 78, 79, 80, 81, 82, 83, 84, 85, 86, 87, 88, 89, 90, 91, 92, 93, 94, 95, 96, 97, 98, 99, 100, 101, 102, 103, 104, 105, 106, 107, 108, 109, 110, 111, 112, 113, 114, 115, 116, 117, 118, 119, 120, 121, 122, 123, 124, 125, 126, 127, 128, 129, 130, 131, 132, 133, 134, 135, 136, 137, 138, 139, 140, 141, 142, 143, 144, 145, 146, 147, 148, 11, 149, 150, 151, 152, 153, 154, 225, 226, 227, 228, 229, 230, 231, 232, 233, 234, 235, 236, 237, 238, 239, 240, 241, 242, 243, 244, 245, 246, 247, 248, 249] (by decide +kernel) (by decide +kernel)
set_option maxRecDepth 20000 in
theorem gX7_green_X7_readPage : GoodIn wsX7_green (wsV RX7 62 RX7 yX7_readPage wsX7_readPage) := goodIn_app (goodIn_of _ (by decide +kernel)) ggX7_green_X7_readPage
set_option maxRecDepth 20000 in
theorem ggX7_green_X3_isWhole : GoodIn wsX7_green wsX3_isWhole := goodIn_r _ [158, 22, 237, 238] (by decide +kernel) (by decide +kernel)
set_option maxRecDepth 20000 in
theorem gX7_green_X3_isWhole : GoodIn wsX7_green (wsV RX7 66 RX3 yX3_isWhole wsX3_isWhole) := goodIn_app (goodIn_of _ (by decide +kernel)) ggX7_green_X3_isWhole
set_option maxRecDepth 20000 in
theorem ggX7_green_X1_copyFrom : GoodIn wsX7_green wsX1_copyFrom := goodIn_r _ [162, 29, 28, 141, 163, 164, 165, 166, 142, 30, 31, 167, 168, 169, 170, 171, 172, 173, 174, 175, 176, 177, 178, 179, 180, 181, 239, 240, 241, 242, 243, 244, 245, 246, 247, 248, 249, 250, 251, 252, 253] (by decide +kernel) (by decide +kernel)
set_option maxRecDepth 20000 in
theorem gX7_green_X1_copyFrom : GoodIn wsX7_green (wsV RX7 73 RX1 yX1_copyFrom wsX1_copyFrom) := goodIn_app (goodIn_of _ (by decide +kernel)) ggX7_green_X1_copyFrom
set_option maxRecDepth 20000 in
theorem ggX7_green_X1_setAllUp : GoodIn wsX7_green wsX1_setAllUp := goodIn_r _ [185, 29, 169, 239, 240, 241, 242, 243, 244, 245, 246, 247, 248, 249] (by decide +kernel) (by decide +kernel)
set_option maxRecDepth 20000 in
theorem gX7_green_X1_setAllUp : GoodIn wsX7_green (wsV RX7 77 RX1 yX1_setAllUp wsX1_setAllUp) := goodIn_app (goodIn_of _ (by decide +kernel)) ggX7_green_X1_setAllUp
set_option maxRecDepth 20000 in
theorem ggX7_green_X7_strikesChanged : GoodIn wsX7_green wsX7_strikesChanged := goodIn_r _ [189, 190, 3, 191, 192, 193, 194, 195, 196, 197, 198, 199, 200, 201, 202, 203, 204, 26, 205, 142, 141, 206, 207, 208, 209, 29, 210, 211, 212, 213, 214, 215, 216, 217, 11, 218, 219, 220, 221, 222, 223, 224, 225, 226, 227, 228, 229, 230, 231, 232, 233, 234, 235, 236, 254, 255, 256, 257, 258, 259, 239, 240, 241, 242, 243, 244, 245, 246, 247, 248, 249] (by decide +kernel) (by decide +kernel)
set_option maxRecDepth 20000 in
theorem gX7_green_X7_strikesChanged : GoodIn wsX7_green (wsV RX7 87 RX7 yX7_strikesChanged wsX7_strikesChanged) := goodIn_app (goodIn_of _ (by decide +kernel)) ggX7_green_X7_strikesChanged
theorem dX7_green_0 : decode cX7_green 0 = .ok (.aload_n 0, 1) := by decide +kernel
theorem dX7_green_1 : decode cX7_green 1 = .ok (.invokevirtual 62, 3) := by decide +kernel
theorem dX7_green_4 : decode cX7_green 4 = .ok (.aload_n 0, 1) := by decide +kernel
theorem dX7_green_5 : decode cX7_green 5 = .ok (.getfield 58, 3) := by decide +kernel
theorem dX7_green_8 : decode cX7_green 8 = .ok (.if_icmp .lt 13, 3) := by decide +kernel
theorem dX7_green_11 : decode cX7_green 11 = .ok (.aload_n 0, 1) := by decide +kernel
theorem dX7_green_12 : decode cX7_green 12 = .ok (.getfield 16, 3) := by decide +kernel
theorem dX7_green_15 : decode cX7_green 15 = .ok (.invokevirtual 66, 3) := by decide +kernel
theorem dX7_green_18 : decode cX7_green 18 = .ok (.ifCond .ne 6, 3) := by decide +kernel
theorem dX7_green_21 : decode cX7_green 21 = .ok (.bipush (-103), 2) := by decide +kernel
theorem dX7_green_23 : decode cX7_green 23 = .ok (.ireturn, 1) := by decide +kernel
theorem dX7_green_24 : decode cX7_green 24 = .ok (.aload_n 0, 1) := by decide +kernel
theorem dX7_green_25 : decode cX7_green 25 = .ok (.getfield 23, 3) := by decide +kernel
theorem dX7_green_28 : decode cX7_green 28 = .ok (.aload_n 0, 1) := by decide +kernel
theorem dX7_green_29 : decode cX7_green 29 = .ok (.getfield 16, 3) := by decide +kernel
theorem dX7_green_32 : decode cX7_green 32 = .ok (.getfield 70, 3) := by decide +kernel
theorem dX7_green_35 : decode cX7_green 35 = .ok (.invokevirtual 73, 3) := by decide +kernel
theorem dX7_green_38 : decode cX7_green 38 = .ok (.aload_n 0, 1) := by decide +kernel
theorem dX7_green_39 : decode cX7_green 39 = .ok (.getfield 23, 3) := by decide +kernel
theorem dX7_green_42 : decode cX7_green 42 = .ok (.invokevirtual 77, 3) := by decide +kernel
theorem dX7_green_45 : decode cX7_green 45 = .ok (.aload_n 0, 1) := by decide +kernel
theorem dX7_green_46 : decode cX7_green 46 = .ok (.iconst 0, 1) := by decide +kernel
theorem dX7_green_47 : decode cX7_green 47 = .ok (.putfield 58, 3) := by decide +kernel
theorem dX7_green_50 : decode cX7_green 50 = .ok (.aload_n 0, 1) := by decide +kernel
theorem dX7_green_51 : decode cX7_green 51 = .ok (.iconst 0, 1) := by decide +kernel
theorem dX7_green_52 : decode cX7_green 52 = .ok (.putfield 80, 3) := by decide +kernel
theorem dX7_green_55 : decode cX7_green 55 = .ok (.aload_n 0, 1) := by decide +kernel
theorem dX7_green_56 : decode cX7_green 56 = .ok (.dup, 1) := by decide +kernel
theorem dX7_green_57 : decode cX7_green 57 = .ok (.getfield 84, 3) := by decide +kernel
theorem dX7_green_60 : decode cX7_green 60 = .ok (.iconst 1, 1) := by decide +kernel
theorem dX7_green_61 : decode cX7_green 61 = .ok (.iadd, 1) := by decide +kernel
theorem dX7_green_62 : decode cX7_green 62 = .ok (.putfield 84, 3) := by decide +kernel
theorem dX7_green_65 : decode cX7_green 65 = .ok (.aload_n 0, 1) := by decide +kernel
theorem dX7_green_66 : decode cX7_green 66 = .ok (.invokevirtual 87, 3) := by decide +kernel
theorem dX7_green_69 : decode cX7_green 69 = .ok (.aload_n 0, 1) := by decide +kernel
theorem dX7_green_70 : decode cX7_green 70 = .ok (.getfield 23, 3) := by decide +kernel
theorem dX7_green_73 : decode cX7_green 73 = .ok (.getfield 90, 3) := by decide +kernel
theorem dX7_green_76 : decode cX7_green 76 = .ok (.ireturn, 1) := by decide +kernel
set_option maxRecDepth 20000 in
theorem ggX7_pin_X1_hasPin : GoodIn wsX7_pin wsX1_hasPin := goodIn_r _ [11, 12, 70, 71, 72, 73, 74, 75, 76, 77, 78, 79, 80] (by decide +kernel) (by decide +kernel)
set_option maxRecDepth 20000 in
theorem gX7_pin_X1_hasPin : GoodIn wsX7_pin (wsV RX7 93 RX1 yX1_hasPin wsX1_hasPin) := goodIn_app (goodIn_of _ (by decide +kernel)) ggX7_pin_X1_hasPin
set_option maxRecDepth 20000 in
theorem ggX7_pin_X6_find : GoodIn wsX7_pin wsX6_find := goodIn_r _ [17, 18, 19, 20, 81, 82, 83, 84, 85, 86] (by decide +kernel) (by decide +kernel)
set_option maxRecDepth 20000 in
theorem gX7_pin_X6_find : GoodIn wsX7_pin (wsV RX7 107 RX6 yX6_find wsX6_find) := goodIn_app (goodIn_of _ (by decide +kernel)) ggX7_pin_X6_find
set_option maxRecDepth 20000 in
theorem ggX7_pin_X6_fallen : GoodIn wsX7_pin wsX6_fallen := goodIn_r _ [24, 18, 25, 19, 20, 26, 27, 81, 82, 83, 84, 85, 86] (by decide +kernel) (by decide +kernel)
set_option maxRecDepth 20000 in
theorem gX7_pin_X6_fallen : GoodIn wsX7_pin (wsV RX7 111 RX6 yX6_fallen wsX6_fallen) := goodIn_app (goodIn_of _ (by decide +kernel)) ggX7_pin_X6_fallen
set_option maxRecDepth 20000 in
theorem ggX7_pin_X5_sortsOf : GoodIn wsX7_pin wsX5_sortsOf := goodIn_r _ [32, 33, 34, 35, 36, 37, 38, 31, 39, 40, 87, 88, 89, 90] (by decide +kernel) (by decide +kernel)
set_option maxRecDepth 20000 in
theorem gX7_pin_X5_sortsOf : GoodIn wsX7_pin (wsV RX7 118 RX5 yX5_sortsOf wsX5_sortsOf) := goodIn_app (goodIn_of _ (by decide +kernel)) ggX7_pin_X5_sortsOf
set_option maxRecDepth 20000 in
theorem ggX7_pin_X5_wayFor : GoodIn wsX7_pin wsX5_wayFor := goodIn_r _ [43, 44, 45, 31, 46, 47, 48, 49, 50, 37, 38, 39, 40, 51, 52, 53, 54, 55, 56, 57] (by decide +kernel) (by decide +kernel)
set_option maxRecDepth 20000 in
theorem gX7_pin_X5_wayFor : GoodIn wsX7_pin (va_wsS RX7 124 yX5_wayFor wsX5_wayFor) := goodIn_app (goodIn_of _ (by decide +kernel)) ggX7_pin_X5_wayFor
theorem dX7_pin_0 : decode cX7_pin 0 = .ok (.aload_n 0, 1) := by decide +kernel
theorem dX7_pin_1 : decode cX7_pin 1 = .ok (.getfield 23, 3) := by decide +kernel
theorem dX7_pin_4 : decode cX7_pin 4 = .ok (.iload_n 1, 1) := by decide +kernel
theorem dX7_pin_5 : decode cX7_pin 5 = .ok (.invokevirtual 93, 3) := by decide +kernel
theorem dX7_pin_8 : decode cX7_pin 8 = .ok (.ifCond .ne 6, 3) := by decide +kernel
theorem dX7_pin_11 : decode cX7_pin 11 = .ok (.bipush (-101), 2) := by decide +kernel
theorem dX7_pin_13 : decode cX7_pin 13 = .ok (.ireturn, 1) := by decide +kernel
theorem dX7_pin_14 : decode cX7_pin 14 = .ok (.iload_n 2, 1) := by decide +kernel
theorem dX7_pin_15 : decode cX7_pin 15 = .ok (.tableswitch 120 0 5 #[37, 47, 57, 69, 93, 105], 37) := by decide +kernel
theorem dX7_pin_52 : decode cX7_pin 52 = .ok (.aload_n 0, 1) := by decide +kernel
theorem dX7_pin_53 : decode cX7_pin 53 = .ok (.getfield 23, 3) := by decide +kernel
theorem dX7_pin_56 : decode cX7_pin 56 = .ok (.getfield 97, 3) := by decide +kernel
theorem dX7_pin_59 : decode cX7_pin 59 = .ok (.iload_n 1, 1) := by decide +kernel
theorem dX7_pin_60 : decode cX7_pin 60 = .ok (.iaload, 1) := by decide +kernel
theorem dX7_pin_61 : decode cX7_pin 61 = .ok (.ireturn, 1) := by decide +kernel
theorem dX7_pin_62 : decode cX7_pin 62 = .ok (.aload_n 0, 1) := by decide +kernel
theorem dX7_pin_63 : decode cX7_pin 63 = .ok (.getfield 23, 3) := by decide +kernel
theorem dX7_pin_66 : decode cX7_pin 66 = .ok (.getfield 101, 3) := by decide +kernel
theorem dX7_pin_69 : decode cX7_pin 69 = .ok (.iload_n 1, 1) := by decide +kernel
theorem dX7_pin_70 : decode cX7_pin 70 = .ok (.iaload, 1) := by decide +kernel
theorem dX7_pin_71 : decode cX7_pin 71 = .ok (.ireturn, 1) := by decide +kernel
theorem dX7_pin_72 : decode cX7_pin 72 = .ok (.aload_n 0, 1) := by decide +kernel
theorem dX7_pin_73 : decode cX7_pin 73 = .ok (.getfield 23, 3) := by decide +kernel
theorem dX7_pin_76 : decode cX7_pin 76 = .ok (.getfield 104, 3) := by decide +kernel
theorem dX7_pin_79 : decode cX7_pin 79 = .ok (.iload_n 1, 1) := by decide +kernel
theorem dX7_pin_80 : decode cX7_pin 80 = .ok (.ishr, 1) := by decide +kernel
theorem dX7_pin_81 : decode cX7_pin 81 = .ok (.iconst 1, 1) := by decide +kernel
theorem dX7_pin_82 : decode cX7_pin 82 = .ok (.iand, 1) := by decide +kernel
theorem dX7_pin_83 : decode cX7_pin 83 = .ok (.ireturn, 1) := by decide +kernel
theorem dX7_pin_84 : decode cX7_pin 84 = .ok (.aload_n 0, 1) := by decide +kernel
theorem dX7_pin_85 : decode cX7_pin 85 = .ok (.getfield 33, 3) := by decide +kernel
theorem dX7_pin_88 : decode cX7_pin 88 = .ok (.aload_n 0, 1) := by decide +kernel
theorem dX7_pin_89 : decode cX7_pin 89 = .ok (.getfield 33, 3) := by decide +kernel
theorem dX7_pin_92 : decode cX7_pin 92 = .ok (.iload_n 1, 1) := by decide +kernel
theorem dX7_pin_93 : decode cX7_pin 93 = .ok (.iconst 1, 1) := by decide +kernel
theorem dX7_pin_94 : decode cX7_pin 94 = .ok (.invokevirtual 107, 3) := by decide +kernel
theorem dX7_pin_97 : decode cX7_pin 97 = .ok (.aload_n 0, 1) := by decide +kernel
theorem dX7_pin_98 : decode cX7_pin 98 = .ok (.getfield 23, 3) := by decide +kernel
theorem dX7_pin_101 : decode cX7_pin 101 = .ok (.getfield 104, 3) := by decide +kernel
theorem dX7_pin_104 : decode cX7_pin 104 = .ok (.invokevirtual 111, 3) := by decide +kernel
theorem dX7_pin_107 : decode cX7_pin 107 = .ok (.ireturn, 1) := by decide +kernel
theorem dX7_pin_108 : decode cX7_pin 108 = .ok (.aload_n 0, 1) := by decide +kernel
theorem dX7_pin_109 : decode cX7_pin 109 = .ok (.getfield 23, 3) := by decide +kernel
theorem dX7_pin_112 : decode cX7_pin 112 = .ok (.getfield 114, 3) := by decide +kernel
theorem dX7_pin_115 : decode cX7_pin 115 = .ok (.iload_n 1, 1) := by decide +kernel
theorem dX7_pin_116 : decode cX7_pin 116 = .ok (.invokevirtual 118, 3) := by decide +kernel
theorem dX7_pin_119 : decode cX7_pin 119 = .ok (.ireturn, 1) := by decide +kernel
theorem dX7_pin_120 : decode cX7_pin 120 = .ok (.aload_n 0, 1) := by decide +kernel
theorem dX7_pin_121 : decode cX7_pin 121 = .ok (.getfield 23, 3) := by decide +kernel
theorem dX7_pin_124 : decode cX7_pin 124 = .ok (.getfield 114, 3) := by decide +kernel
theorem dX7_pin_127 : decode cX7_pin 127 = .ok (.iload_n 1, 1) := by decide +kernel
theorem dX7_pin_128 : decode cX7_pin 128 = .ok (.invokevirtual 118, 3) := by decide +kernel
theorem dX7_pin_131 : decode cX7_pin 131 = .ok (.invokestatic 124, 3) := by decide +kernel
theorem dX7_pin_134 : decode cX7_pin 134 = .ok (.ireturn, 1) := by decide +kernel
theorem dX7_pin_135 : decode cX7_pin 135 = .ok (.bipush (-102), 2) := by decide +kernel
theorem dX7_pin_137 : decode cX7_pin 137 = .ok (.ireturn, 1) := by decide +kernel
set_option maxRecDepth 20000 in
theorem ggX7_as_X1_hasPin : GoodIn wsX7_as wsX1_hasPin := goodIn_r _ [7, 8, 28, 29, 30, 31, 32, 33, 34, 35, 36, 37, 38] (by decide +kernel) (by decide +kernel)
set_option maxRecDepth 20000 in
theorem gX7_as_X1_hasPin : GoodIn wsX7_as (wsV RX7 93 RX1 yX1_hasPin wsX1_hasPin) := goodIn_app (goodIn_of _ (by decide +kernel)) ggX7_as_X1_hasPin
set_option maxRecDepth 20000 in
theorem ggX7_as_X7_isKind : GoodIn wsX7_as wsX7_isKind := goodIn_r _ [12] (by decide +kernel) (by decide +kernel)
set_option maxRecDepth 20000 in
theorem gX7_as_X7_isKind : GoodIn wsX7_as (va_wsS RX7 127 yX7_isKind wsX7_isKind) := goodIn_app (goodIn_of _ (by decide +kernel)) ggX7_as_X7_isKind
set_option maxRecDepth 20000 in
theorem ggX7_as_X7_isAlso : GoodIn wsX7_as wsX7_isAlso := goodIn_r _ [15] (by decide +kernel) (by decide +kernel)
set_option maxRecDepth 20000 in
theorem gX7_as_X7_isAlso : GoodIn wsX7_as (va_wsS RX7 130 yX7_isAlso wsX7_isAlso) := goodIn_app (goodIn_of _ (by decide +kernel)) ggX7_as_X7_isAlso
theorem dX7_as_0 : decode cX7_as 0 = .ok (.aload_n 0, 1) := by decide +kernel
theorem dX7_as_1 : decode cX7_as 1 = .ok (.getfield 23, 3) := by decide +kernel
theorem dX7_as_4 : decode cX7_as 4 = .ok (.iload_n 1, 1) := by decide +kernel
theorem dX7_as_5 : decode cX7_as 5 = .ok (.invokevirtual 93, 3) := by decide +kernel
theorem dX7_as_8 : decode cX7_as 8 = .ok (.ifCond .ne 6, 3) := by decide +kernel
theorem dX7_as_11 : decode cX7_as 11 = .ok (.bipush (-101), 2) := by decide +kernel
theorem dX7_as_13 : decode cX7_as 13 = .ok (.ireturn, 1) := by decide +kernel
theorem dX7_as_14 : decode cX7_as 14 = .ok (.iload_n 2, 1) := by decide +kernel
theorem dX7_as_15 : decode cX7_as 15 = .ok (.invokestatic 127, 3) := by decide +kernel
theorem dX7_as_18 : decode cX7_as 18 = .ok (.ifCond .ne 6, 3) := by decide +kernel
theorem dX7_as_21 : decode cX7_as 21 = .ok (.bipush (-102), 2) := by decide +kernel
theorem dX7_as_23 : decode cX7_as 23 = .ok (.ireturn, 1) := by decide +kernel
theorem dX7_as_24 : decode cX7_as 24 = .ok (.aload_n 0, 1) := by decide +kernel
theorem dX7_as_25 : decode cX7_as 25 = .ok (.getfield 23, 3) := by decide +kernel
theorem dX7_as_28 : decode cX7_as 28 = .ok (.getfield 97, 3) := by decide +kernel
theorem dX7_as_31 : decode cX7_as 31 = .ok (.iload_n 1, 1) := by decide +kernel
theorem dX7_as_32 : decode cX7_as 32 = .ok (.iaload, 1) := by decide +kernel
theorem dX7_as_33 : decode cX7_as 33 = .ok (.iload_n 2, 1) := by decide +kernel
theorem dX7_as_34 : decode cX7_as 34 = .ok (.invokestatic 130, 3) := by decide +kernel
theorem dX7_as_37 : decode cX7_as 37 = .ok (.ifCond .eq 7, 3) := by decide +kernel
theorem dX7_as_40 : decode cX7_as 40 = .ok (.iload_n 1, 1) := by decide +kernel
theorem dX7_as_41 : decode cX7_as 41 = .ok (.goto 4, 3) := by decide +kernel
theorem dX7_as_44 : decode cX7_as 44 = .ok (.iconst (-1), 1) := by decide +kernel
theorem dX7_as_45 : decode cX7_as 45 = .ok (.ireturn, 1) := by decide +kernel
set_option maxRecDepth 20000 in
theorem ggX7_lane_X1_hasLane : GoodIn wsX7_lane wsX1_hasLane := goodIn_r _ [8, 9, 110, 111, 112, 113, 114, 115, 116, 117, 118, 119, 120] (by decide +kernel) (by decide +kernel)
set_option maxRecDepth 20000 in
theorem gX7_lane_X1_hasLane : GoodIn wsX7_lane (wsV RX7 134 RX1 yX1_hasLane wsX1_hasLane) := goodIn_app (goodIn_of _ (by decide +kernel)) ggX7_lane_X1_hasLane
set_option maxRecDepth 20000 in
theorem ggX7_lane_X1_standingIn : GoodIn wsX7_lane wsX1_standingIn := goodIn_r _ [13, 14, 15, 16, 17, 18, 19, 110, 111, 112, 113, 114, 115, 116, 117, 118, 119, 120] (by decide +kernel) (by decide +kernel)
set_option maxRecDepth 20000 in
theorem gX7_lane_X1_standingIn : GoodIn wsX7_lane (wsV RX7 143 RX1 yX1_standingIn wsX1_standingIn) := goodIn_app (goodIn_of _ (by decide +kernel)) ggX7_lane_X1_standingIn
set_option maxRecDepth 20000 in
theorem ggX7_lane_J6_bitCount_0f7a4 : GoodIn wsX7_lane wsJ6_bitCount_0f7a4 := goodIn_r _ [23, 24, 25, 26] (by decide +kernel) (by decide +kernel)
set_option maxRecDepth 20000 in
theorem gX7_lane_J6_bitCount_0f7a4 : GoodIn wsX7_lane (va_wsS RX7 146 yJ6_bitCount_0f7a4 wsJ6_bitCount_0f7a4) := goodIn_app (goodIn_of _ (by decide +kernel)) ggX7_lane_J6_bitCount_0f7a4
set_option maxRecDepth 20000 in
theorem ggX7_lane_X7_numberOfLane : GoodIn wsX7_lane wsX7_numberOfLane := goodIn_r _ [30, 31, 1, 32, 33, 34, 18, 35, 36, 37, 38, 39, 40, 41, 42, 43, 44, 45, 46, 47, 48, 49, 50, 51, 52, 53, 54, 55, 56, 57, 58, 59, 60, 61, 62, 63, 64, 65, 66, 67, 68, 69, 70, 71, 72, 73, 74, 75, 76, 10, 11, 12, 7, 13, 14, 15, 16, 17, 19, 121, 122, 123, 124, 125, 98, 99, 100, 101, 102, 103, 104, 105, 106, 107, 108, 109, 110, 111, 112, 113, 114, 115, 116, 117, 118, 119, 120, 126, 127, 128, 129, 130, 131] (by decide +kernel) (by decide +kernel)
set_option maxRecDepth 20000 in
theorem gX7_lane_X7_numberOfLane : GoodIn wsX7_lane (wsV RX7 151 RX7 yX7_numberOfLane wsX7_numberOfLane) := goodIn_app (goodIn_of _ (by decide +kernel)) ggX7_lane_X7_numberOfLane
set_option maxRecDepth 20000 in
theorem ggX7_lane_X7_rowsNow : GoodIn wsX7_lane wsX7_rowsNow := goodIn_r _ [80, 81, 1, 82, 83, 84, 85, 86, 87, 88, 89, 90, 91, 92, 93, 75, 18, 76, 98, 99, 100, 101, 102, 103, 104, 105, 106, 107, 108, 109, 110, 111, 112, 113, 114, 115, 116, 117, 118, 119, 120, 132, 133] (by decide +kernel) (by decide +kernel)
set_option maxRecDepth 20000 in
theorem gX7_lane_X7_rowsNow : GoodIn wsX7_lane (wsV RX7 154 RX7 yX7_rowsNow wsX7_rowsNow) := goodIn_app (goodIn_of _ (by decide +kernel)) ggX7_lane_X7_rowsNow
set_option maxRecDepth 20000 in
theorem ggX7_lane_X4_alike : GoodIn wsX7_lane wsX4_alike := goodIn_r _ [97, 89, 132, 133] (by decide +kernel) (by decide +kernel)
set_option maxRecDepth 20000 in
theorem gX7_lane_X4_alike : GoodIn wsX7_lane (wsV RX7 158 RX4 yX4_alike wsX4_alike) := goodIn_app (goodIn_of _ (by decide +kernel)) ggX7_lane_X4_alike
theorem dX7_lane_0 : decode cX7_lane 0 = .ok (.aload_n 0, 1) := by decide +kernel
theorem dX7_lane_1 : decode cX7_lane 1 = .ok (.getfield 23, 3) := by decide +kernel
theorem dX7_lane_4 : decode cX7_lane 4 = .ok (.iload_n 1, 1) := by decide +kernel
theorem dX7_lane_5 : decode cX7_lane 5 = .ok (.invokevirtual 134, 3) := by decide +kernel
theorem dX7_lane_8 : decode cX7_lane 8 = .ok (.ifCond .ne 6, 3) := by decide +kernel
theorem dX7_lane_11 : decode cX7_lane 11 = .ok (.bipush (-101), 2) := by decide +kernel
theorem dX7_lane_13 : decode cX7_lane 13 = .ok (.ireturn, 1) := by decide +kernel
theorem dX7_lane_14 : decode cX7_lane 14 = .ok (.iload_n 2, 1) := by decide +kernel
theorem dX7_lane_15 : decode cX7_lane 15 = .ok (.tableswitch 84 0 4 #[33, 43, 53, 65, 71], 33) := by decide +kernel
theorem dX7_lane_48 : decode cX7_lane 48 = .ok (.aload_n 0, 1) := by decide +kernel
theorem dX7_lane_49 : decode cX7_lane 49 = .ok (.getfield 23, 3) := by decide +kernel
theorem dX7_lane_52 : decode cX7_lane 52 = .ok (.getfield 137, 3) := by decide +kernel
theorem dX7_lane_55 : decode cX7_lane 55 = .ok (.iload_n 1, 1) := by decide +kernel
theorem dX7_lane_56 : decode cX7_lane 56 = .ok (.iaload, 1) := by decide +kernel
theorem dX7_lane_57 : decode cX7_lane 57 = .ok (.ireturn, 1) := by decide +kernel
theorem dX7_lane_58 : decode cX7_lane 58 = .ok (.aload_n 0, 1) := by decide +kernel
theorem dX7_lane_59 : decode cX7_lane 59 = .ok (.getfield 23, 3) := by decide +kernel
theorem dX7_lane_62 : decode cX7_lane 62 = .ok (.getfield 140, 3) := by decide +kernel
theorem dX7_lane_65 : decode cX7_lane 65 = .ok (.iload_n 1, 1) := by decide +kernel
theorem dX7_lane_66 : decode cX7_lane 66 = .ok (.iaload, 1) := by decide +kernel
theorem dX7_lane_67 : decode cX7_lane 67 = .ok (.ireturn, 1) := by decide +kernel
theorem dX7_lane_68 : decode cX7_lane 68 = .ok (.aload_n 0, 1) := by decide +kernel
theorem dX7_lane_69 : decode cX7_lane 69 = .ok (.getfield 23, 3) := by decide +kernel
theorem dX7_lane_72 : decode cX7_lane 72 = .ok (.iload_n 1, 1) := by decide +kernel
theorem dX7_lane_73 : decode cX7_lane 73 = .ok (.invokevirtual 143, 3) := by decide +kernel
theorem dX7_lane_76 : decode cX7_lane 76 = .ok (.invokestatic 146, 3) := by decide +kernel
theorem dX7_lane_79 : decode cX7_lane 79 = .ok (.ireturn, 1) := by decide +kernel
theorem dX7_lane_80 : decode cX7_lane 80 = .ok (.aload_n 0, 1) := by decide +kernel
theorem dX7_lane_81 : decode cX7_lane 81 = .ok (.iload_n 1, 1) := by decide +kernel
theorem dX7_lane_82 : decode cX7_lane 82 = .ok (.invokevirtual 151, 3) := by decide +kernel
theorem dX7_lane_85 : decode cX7_lane 85 = .ok (.ireturn, 1) := by decide +kernel
theorem dX7_lane_86 : decode cX7_lane 86 = .ok (.aload_n 0, 1) := by decide +kernel
theorem dX7_lane_87 : decode cX7_lane 87 = .ok (.invokevirtual 154, 3) := by decide +kernel
theorem dX7_lane_90 : decode cX7_lane 90 = .ok (.aload_n 0, 1) := by decide +kernel
theorem dX7_lane_91 : decode cX7_lane 91 = .ok (.iload_n 1, 1) := by decide +kernel
theorem dX7_lane_92 : decode cX7_lane 92 = .ok (.invokevirtual 151, 3) := by decide +kernel
theorem dX7_lane_95 : decode cX7_lane 95 = .ok (.invokevirtual 158, 3) := by decide +kernel
theorem dX7_lane_98 : decode cX7_lane 98 = .ok (.ireturn, 1) := by decide +kernel
theorem dX7_lane_99 : decode cX7_lane 99 = .ok (.bipush (-102), 2) := by decide +kernel
theorem dX7_lane_101 : decode cX7_lane 101 = .ok (.ireturn, 1) := by decide +kernel
set_option maxRecDepth 20000 in
theorem ggX7_falls_X1_hasPin : GoodIn wsX7_falls wsX1_hasPin := goodIn_r _ [8, 9, 41, 42, 43, 44, 45, 46, 47, 48, 49, 50, 51] (by decide +kernel) (by decide +kernel)
set_option maxRecDepth 20000 in
theorem gX7_falls_X1_hasPin : GoodIn wsX7_falls (wsV RX7 93 RX1 yX1_hasPin wsX1_hasPin) := goodIn_app (goodIn_of _ (by decide +kernel)) ggX7_falls_X1_hasPin
set_option maxRecDepth 20000 in
theorem ggX7_falls_X7_isBall : GoodIn wsX7_falls wsX7_isBall := goodIn_r _ [13] (by decide +kernel) (by decide +kernel)
set_option maxRecDepth 20000 in
theorem gX7_falls_X7_isBall : GoodIn wsX7_falls (va_wsS RX7 161 yX7_isBall wsX7_isBall) := goodIn_app (goodIn_of _ (by decide +kernel)) ggX7_falls_X7_isBall
set_option maxRecDepth 20000 in
theorem ggX7_falls_X6_find : GoodIn wsX7_falls wsX6_find := goodIn_r _ [18, 19, 20, 21, 52, 53, 54, 55, 56, 57] (by decide +kernel) (by decide +kernel)
set_option maxRecDepth 20000 in
theorem gX7_falls_X6_find : GoodIn wsX7_falls (wsV RX7 107 RX6 yX6_find wsX6_find) := goodIn_app (goodIn_of _ (by decide +kernel)) ggX7_falls_X6_find
set_option maxRecDepth 20000 in
theorem ggX7_falls_X6_fallen : GoodIn wsX7_falls wsX6_fallen := goodIn_r _ [25, 19, 26, 20, 21, 27, 28, 52, 53, 54, 55, 56, 57] (by decide +kernel) (by decide +kernel)
set_option maxRecDepth 20000 in
theorem gX7_falls_X6_fallen : GoodIn wsX7_falls (wsV RX7 111 RX6 yX6_fallen wsX6_fallen) := goodIn_app (goodIn_of _ (by decide +kernel)) ggX7_falls_X6_fallen
theorem dX7_falls_0 : decode cX7_falls 0 = .ok (.aload_n 0, 1) := by decide +kernel
theorem dX7_falls_1 : decode cX7_falls 1 = .ok (.getfield 23, 3) := by decide +kernel
theorem dX7_falls_4 : decode cX7_falls 4 = .ok (.iload_n 1, 1) := by decide +kernel
theorem dX7_falls_5 : decode cX7_falls 5 = .ok (.invokevirtual 93, 3) := by decide +kernel
theorem dX7_falls_8 : decode cX7_falls 8 = .ok (.ifCond .ne 6, 3) := by decide +kernel
theorem dX7_falls_11 : decode cX7_falls 11 = .ok (.bipush (-101), 2) := by decide +kernel
theorem dX7_falls_13 : decode cX7_falls 13 = .ok (.ireturn, 1) := by decide +kernel
theorem dX7_falls_14 : decode cX7_falls 14 = .ok (.iload_n 2, 1) := by decide +kernel
theorem dX7_falls_15 : decode cX7_falls 15 = .ok (.invokestatic 161, 3) := by decide +kernel
theorem dX7_falls_18 : decode cX7_falls 18 = .ok (.ifCond .ne 6, 3) := by decide +kernel
theorem dX7_falls_21 : decode cX7_falls 21 = .ok (.bipush (-102), 2) := by decide +kernel
theorem dX7_falls_23 : decode cX7_falls 23 = .ok (.ireturn, 1) := by decide +kernel
theorem dX7_falls_24 : decode cX7_falls 24 = .ok (.aload_n 0, 1) := by decide +kernel
theorem dX7_falls_25 : decode cX7_falls 25 = .ok (.getfield 33, 3) := by decide +kernel
theorem dX7_falls_28 : decode cX7_falls 28 = .ok (.aload_n 0, 1) := by decide +kernel
theorem dX7_falls_29 : decode cX7_falls 29 = .ok (.getfield 33, 3) := by decide +kernel
theorem dX7_falls_32 : decode cX7_falls 32 = .ok (.iload_n 1, 1) := by decide +kernel
theorem dX7_falls_33 : decode cX7_falls 33 = .ok (.iload_n 2, 1) := by decide +kernel
theorem dX7_falls_34 : decode cX7_falls 34 = .ok (.invokevirtual 107, 3) := by decide +kernel
theorem dX7_falls_37 : decode cX7_falls 37 = .ok (.aload_n 0, 1) := by decide +kernel
theorem dX7_falls_38 : decode cX7_falls 38 = .ok (.getfield 23, 3) := by decide +kernel
theorem dX7_falls_41 : decode cX7_falls 41 = .ok (.getfield 104, 3) := by decide +kernel
theorem dX7_falls_44 : decode cX7_falls 44 = .ok (.invokevirtual 111, 3) := by decide +kernel
theorem dX7_falls_47 : decode cX7_falls 47 = .ok (.istore_n 3, 1) := by decide +kernel
theorem dX7_falls_48 : decode cX7_falls 48 = .ok (.iload_n 3, 1) := by decide +kernel
theorem dX7_falls_49 : decode cX7_falls 49 = .ok (.ifCond .ne 8, 3) := by decide +kernel
theorem dX7_falls_52 : decode cX7_falls 52 = .ok (.bipush (-103), 2) := by decide +kernel
theorem dX7_falls_54 : decode cX7_falls 54 = .ok (.goto 4, 3) := by decide +kernel
theorem dX7_falls_57 : decode cX7_falls 57 = .ok (.iload_n 3, 1) := by decide +kernel
theorem dX7_falls_58 : decode cX7_falls 58 = .ok (.ireturn, 1) := by decide +kernel
set_option maxRecDepth 20000 in
theorem ggX7_strike_X7_falls : GoodIn wsX7_strike wsX7_falls := goodIn_r _ [8, 1, 9, 3, 10, 11, 12, 13, 14, 15, 16, 17, 7, 18, 19, 20, 21, 22, 23, 24, 25, 26, 27, 28, 29, 30, 31, 32, 33, 41, 42, 43, 44, 45, 46, 47, 48, 49, 50, 51, 52, 53, 54, 55, 56, 57, 58, 59, 60, 61, 62, 63, 64, 65, 66, 67, 68, 69] (by decide +kernel) (by decide +kernel)
set_option maxRecDepth 20000 in
theorem gX7_strike_X7_falls : GoodIn wsX7_strike (wsV RX7 164 RX7 yX7_falls wsX7_falls) := goodIn_app (goodIn_of _ (by decide +kernel)) ggX7_strike_X7_falls
set_option maxRecDepth 20000 in
theorem ggX7_strike_J6_bitCount_0f7a4 : GoodIn wsX7_strike wsJ6_bitCount_0f7a4 := goodIn_r _ [37, 38, 39, 40] (by decide +kernel) (by decide +kernel)
set_option maxRecDepth 20000 in
theorem gX7_strike_J6_bitCount_0f7a4 : GoodIn wsX7_strike (va_wsS RX7 146 yJ6_bitCount_0f7a4 wsJ6_bitCount_0f7a4) := goodIn_app (goodIn_of _ (by decide +kernel)) ggX7_strike_J6_bitCount_0f7a4
theorem dX7_strike_0 : decode cX7_strike 0 = .ok (.aload_n 0, 1) := by decide +kernel
theorem dX7_strike_1 : decode cX7_strike 1 = .ok (.iload_n 1, 1) := by decide +kernel
theorem dX7_strike_2 : decode cX7_strike 2 = .ok (.iload_n 2, 1) := by decide +kernel
theorem dX7_strike_3 : decode cX7_strike 3 = .ok (.invokevirtual 164, 3) := by decide +kernel
theorem dX7_strike_6 : decode cX7_strike 6 = .ok (.istore_n 3, 1) := by decide +kernel
theorem dX7_strike_7 : decode cX7_strike 7 = .ok (.iload_n 3, 1) := by decide +kernel
theorem dX7_strike_8 : decode cX7_strike 8 = .ok (.ifCond .ge 5, 3) := by decide +kernel
theorem dX7_strike_11 : decode cX7_strike 11 = .ok (.iload_n 3, 1) := by decide +kernel
theorem dX7_strike_12 : decode cX7_strike 12 = .ok (.ireturn, 1) := by decide +kernel
theorem dX7_strike_13 : decode cX7_strike 13 = .ok (.aload_n 0, 1) := by decide +kernel
theorem dX7_strike_14 : decode cX7_strike 14 = .ok (.getfield 23, 3) := by decide +kernel
theorem dX7_strike_17 : decode cX7_strike 17 = .ok (.getfield 167, 3) := by decide +kernel
theorem dX7_strike_20 : decode cX7_strike 20 = .ok (.sipush 999, 3) := by decide +kernel
theorem dX7_strike_23 : decode cX7_strike 23 = .ok (.if_icmp .lt 6, 3) := by decide +kernel
theorem dX7_strike_26 : decode cX7_strike 26 = .ok (.bipush (-104), 2) := by decide +kernel
theorem dX7_strike_28 : decode cX7_strike 28 = .ok (.ireturn, 1) := by decide +kernel
theorem dX7_strike_29 : decode cX7_strike 29 = .ok (.aload_n 0, 1) := by decide +kernel
theorem dX7_strike_30 : decode cX7_strike 30 = .ok (.getfield 23, 3) := by decide +kernel
theorem dX7_strike_33 : decode cX7_strike 33 = .ok (.dup, 1) := by decide +kernel
theorem dX7_strike_34 : decode cX7_strike 34 = .ok (.getfield 104, 3) := by decide +kernel
theorem dX7_strike_37 : decode cX7_strike 37 = .ok (.iload_n 3, 1) := by decide +kernel
theorem dX7_strike_38 : decode cX7_strike 38 = .ok (.iconst (-1), 1) := by decide +kernel
theorem dX7_strike_39 : decode cX7_strike 39 = .ok (.ixor, 1) := by decide +kernel
theorem dX7_strike_40 : decode cX7_strike 40 = .ok (.iand, 1) := by decide +kernel
theorem dX7_strike_41 : decode cX7_strike 41 = .ok (.putfield 104, 3) := by decide +kernel
theorem dX7_strike_44 : decode cX7_strike 44 = .ok (.aload_n 0, 1) := by decide +kernel
theorem dX7_strike_45 : decode cX7_strike 45 = .ok (.getfield 23, 3) := by decide +kernel
theorem dX7_strike_48 : decode cX7_strike 48 = .ok (.dup, 1) := by decide +kernel
theorem dX7_strike_49 : decode cX7_strike 49 = .ok (.getfield 167, 3) := by decide +kernel
theorem dX7_strike_52 : decode cX7_strike 52 = .ok (.iconst 1, 1) := by decide +kernel
theorem dX7_strike_53 : decode cX7_strike 53 = .ok (.iadd, 1) := by decide +kernel
theorem dX7_strike_54 : decode cX7_strike 54 = .ok (.putfield 167, 3) := by decide +kernel
theorem dX7_strike_57 : decode cX7_strike 57 = .ok (.iload_n 3, 1) := by decide +kernel
theorem dX7_strike_58 : decode cX7_strike 58 = .ok (.invokestatic 146, 3) := by decide +kernel
theorem dX7_strike_61 : decode cX7_strike 61 = .ok (.ireturn, 1) := by decide +kernel
set_option maxRecDepth 20000 in
theorem ggX7_set_X1_hasPin : GoodIn wsX7_set wsX1_hasPin := goodIn_r _ [7, 8, 28, 29, 30, 31, 32, 33, 34, 35, 36, 37, 38] (by decide +kernel) (by decide +kernel)
set_option maxRecDepth 20000 in
theorem gX7_set_X1_hasPin : GoodIn wsX7_set (wsV RX7 93 RX1 yX1_hasPin wsX1_hasPin) := goodIn_app (goodIn_of _ (by decide +kernel)) ggX7_set_X1_hasPin
set_option maxRecDepth 20000 in
theorem ggX7_set_J6_bitCount_0f7a4 : GoodIn wsX7_set wsJ6_bitCount_0f7a4 := goodIn_r _ [12, 13, 14, 15] (by decide +kernel) (by decide +kernel)
set_option maxRecDepth 20000 in
theorem gX7_set_J6_bitCount_0f7a4 : GoodIn wsX7_set (va_wsS RX7 146 yJ6_bitCount_0f7a4 wsJ6_bitCount_0f7a4) := goodIn_app (goodIn_of _ (by decide +kernel)) ggX7_set_J6_bitCount_0f7a4
theorem dX7_set_0 : decode cX7_set 0 = .ok (.aload_n 0, 1) := by decide +kernel
theorem dX7_set_1 : decode cX7_set 1 = .ok (.getfield 23, 3) := by decide +kernel
theorem dX7_set_4 : decode cX7_set 4 = .ok (.iload_n 1, 1) := by decide +kernel
theorem dX7_set_5 : decode cX7_set 5 = .ok (.invokevirtual 93, 3) := by decide +kernel
theorem dX7_set_8 : decode cX7_set 8 = .ok (.ifCond .ne 6, 3) := by decide +kernel
theorem dX7_set_11 : decode cX7_set 11 = .ok (.bipush (-101), 2) := by decide +kernel
theorem dX7_set_13 : decode cX7_set 13 = .ok (.ireturn, 1) := by decide +kernel
theorem dX7_set_14 : decode cX7_set 14 = .ok (.aload_n 0, 1) := by decide +kernel
theorem dX7_set_15 : decode cX7_set 15 = .ok (.getfield 23, 3) := by decide +kernel
theorem dX7_set_18 : decode cX7_set 18 = .ok (.getfield 104, 3) := by decide +kernel
theorem dX7_set_21 : decode cX7_set 21 = .ok (.iload_n 1, 1) := by decide +kernel
theorem dX7_set_22 : decode cX7_set 22 = .ok (.ishr, 1) := by decide +kernel
theorem dX7_set_23 : decode cX7_set 23 = .ok (.iconst 1, 1) := by decide +kernel
theorem dX7_set_24 : decode cX7_set 24 = .ok (.iand, 1) := by decide +kernel
theorem dX7_set_25 : decode cX7_set 25 = .ok (.iconst 1, 1) := by decide +kernel
theorem dX7_set_26 : decode cX7_set 26 = .ok (.if_icmp .ne 6, 3) := by decide +kernel
theorem dX7_set_29 : decode cX7_set 29 = .ok (.bipush (-103), 2) := by decide +kernel
theorem dX7_set_31 : decode cX7_set 31 = .ok (.ireturn, 1) := by decide +kernel
theorem dX7_set_32 : decode cX7_set 32 = .ok (.aload_n 0, 1) := by decide +kernel
theorem dX7_set_33 : decode cX7_set 33 = .ok (.getfield 23, 3) := by decide +kernel
theorem dX7_set_36 : decode cX7_set 36 = .ok (.dup, 1) := by decide +kernel
theorem dX7_set_37 : decode cX7_set 37 = .ok (.getfield 104, 3) := by decide +kernel
theorem dX7_set_40 : decode cX7_set 40 = .ok (.iconst 1, 1) := by decide +kernel
theorem dX7_set_41 : decode cX7_set 41 = .ok (.iload_n 1, 1) := by decide +kernel
theorem dX7_set_42 : decode cX7_set 42 = .ok (.ishl, 1) := by decide +kernel
theorem dX7_set_43 : decode cX7_set 43 = .ok (.ior, 1) := by decide +kernel
theorem dX7_set_44 : decode cX7_set 44 = .ok (.putfield 104, 3) := by decide +kernel
theorem dX7_set_47 : decode cX7_set 47 = .ok (.aload_n 0, 1) := by decide +kernel
theorem dX7_set_48 : decode cX7_set 48 = .ok (.getfield 23, 3) := by decide +kernel
theorem dX7_set_51 : decode cX7_set 51 = .ok (.getfield 104, 3) := by decide +kernel
theorem dX7_set_54 : decode cX7_set 54 = .ok (.invokestatic 146, 3) := by decide +kernel
theorem dX7_set_57 : decode cX7_set 57 = .ok (.ireturn, 1) := by decide +kernel
set_option maxRecDepth 20000 in
theorem ggX7_all_X7_hasGreen : GoodIn wsX7_all wsX7_hasGreen := goodIn_r _ [8, 1, 2, 23, 24, 25, 26, 27, 28, 29, 30, 31, 32, 33, 34, 35, 36, 37, 38, 39, 40, 41, 42, 43, 44, 45] (by decide +kernel) (by decide +kernel)
set_option maxRecDepth 20000 in
theorem gX7_all_X7_hasGreen : GoodIn wsX7_all (wsV RX7 170 RX7 yX7_hasGreen wsX7_hasGreen) := goodIn_app (goodIn_of _ (by decide +kernel)) ggX7_all_X7_hasGreen
set_option maxRecDepth 20000 in
theorem ggX7_all_J6_bitCount_0f7a4 : GoodIn wsX7_all wsJ6_bitCount_0f7a4 := goodIn_r _ [12, 13, 14, 15] (by decide +kernel) (by decide +kernel)
set_option maxRecDepth 20000 in
theorem gX7_all_J6_bitCount_0f7a4 : GoodIn wsX7_all (va_wsS RX7 146 yJ6_bitCount_0f7a4 wsJ6_bitCount_0f7a4) := goodIn_app (goodIn_of _ (by decide +kernel)) ggX7_all_J6_bitCount_0f7a4
set_option maxRecDepth 20000 in
theorem ggX7_all_X1_setAllUp : GoodIn wsX7_all wsX1_setAllUp := goodIn_r _ [20, 21, 22, 35, 36, 37, 38, 39, 40, 41, 42, 43, 44, 45] (by decide +kernel) (by decide +kernel)
set_option maxRecDepth 20000 in
theorem gX7_all_X1_setAllUp : GoodIn wsX7_all (wsV RX7 77 RX1 yX1_setAllUp wsX1_setAllUp) := goodIn_app (goodIn_of _ (by decide +kernel)) ggX7_all_X1_setAllUp
theorem dX7_all_0 : decode cX7_all 0 = .ok (.aload_n 0, 1) := by decide +kernel
theorem dX7_all_1 : decode cX7_all 1 = .ok (.invokevirtual 170, 3) := by decide +kernel
theorem dX7_all_4 : decode cX7_all 4 = .ok (.ifCond .ne 6, 3) := by decide +kernel
theorem dX7_all_7 : decode cX7_all 7 = .ok (.bipush (-103), 2) := by decide +kernel
theorem dX7_all_9 : decode cX7_all 9 = .ok (.ireturn, 1) := by decide +kernel
theorem dX7_all_10 : decode cX7_all 10 = .ok (.aload_n 0, 1) := by decide +kernel
theorem dX7_all_11 : decode cX7_all 11 = .ok (.getfield 23, 3) := by decide +kernel
theorem dX7_all_14 : decode cX7_all 14 = .ok (.getfield 90, 3) := by decide +kernel
theorem dX7_all_17 : decode cX7_all 17 = .ok (.aload_n 0, 1) := by decide +kernel
theorem dX7_all_18 : decode cX7_all 18 = .ok (.getfield 23, 3) := by decide +kernel
theorem dX7_all_21 : decode cX7_all 21 = .ok (.getfield 104, 3) := by decide +kernel
theorem dX7_all_24 : decode cX7_all 24 = .ok (.invokestatic 146, 3) := by decide +kernel
theorem dX7_all_27 : decode cX7_all 27 = .ok (.isub, 1) := by decide +kernel
theorem dX7_all_28 : decode cX7_all 28 = .ok (.istore_n 1, 1) := by decide +kernel
theorem dX7_all_29 : decode cX7_all 29 = .ok (.aload_n 0, 1) := by decide +kernel
theorem dX7_all_30 : decode cX7_all 30 = .ok (.getfield 23, 3) := by decide +kernel
theorem dX7_all_33 : decode cX7_all 33 = .ok (.invokevirtual 77, 3) := by decide +kernel
theorem dX7_all_36 : decode cX7_all 36 = .ok (.iload_n 1, 1) := by decide +kernel
theorem dX7_all_37 : decode cX7_all 37 = .ok (.ireturn, 1) := by decide +kernel
set_option maxRecDepth 20000 in
theorem ggX7_ball_X7_isBall : GoodIn wsX7_ball wsX7_isBall := goodIn_r _ [6] (by decide +kernel) (by decide +kernel)
set_option maxRecDepth 20000 in
theorem gX7_ball_X7_isBall : GoodIn wsX7_ball (va_wsS RX7 161 yX7_isBall wsX7_isBall) := goodIn_app (goodIn_of _ (by decide +kernel)) ggX7_ball_X7_isBall
set_option maxRecDepth 20000 in
theorem ggX7_ball_X7_hasGreen : GoodIn wsX7_ball wsX7_hasGreen := goodIn_r _ [10, 1, 11, 55, 56, 57, 58, 59, 60, 61, 62, 63, 64, 65, 66, 67, 68, 69, 70, 71, 72, 73, 74, 75, 76, 77] (by decide +kernel) (by decide +kernel)
set_option maxRecDepth 20000 in
theorem gX7_ball_X7_hasGreen : GoodIn wsX7_ball (wsV RX7 170 RX7 yX7_hasGreen wsX7_hasGreen) := goodIn_app (goodIn_of _ (by decide +kernel)) ggX7_ball_X7_hasGreen
set_option maxRecDepth 20000 in
theorem ggX7_ball_X7_strikesChanged : GoodIn wsX7_ball wsX7_strikesChanged := goodIn_r _ [15, 16, 1, 17, 18, 19, 20, 21, 22, 23, 24, 25, 26, 27, 28, 29, 30, 31, 32, 33, 34, 35, 36, 37, 38, 39, 40, 41, 42, 43, 44, 45, 46, 47, 5, 48, 49, 50, 51, 52, 53, 54, 55, 56, 57, 58, 59, 60, 61, 62, 63, 64, 65, 66, 78, 79, 80, 81, 82, 83, 67, 68, 69, 70, 71, 72, 73, 74, 75, 76, 77] (by decide +kernel) (by decide +kernel)
set_option maxRecDepth 20000 in
theorem gX7_ball_X7_strikesChanged : GoodIn wsX7_ball (wsV RX7 87 RX7 yX7_strikesChanged wsX7_strikesChanged) := goodIn_app (goodIn_of _ (by decide +kernel)) ggX7_ball_X7_strikesChanged
theorem dX7_ball_0 : decode cX7_ball 0 = .ok (.iload_n 1, 1) := by decide +kernel
theorem dX7_ball_1 : decode cX7_ball 1 = .ok (.invokestatic 161, 3) := by decide +kernel
theorem dX7_ball_4 : decode cX7_ball 4 = .ok (.ifCond .ne 6, 3) := by decide +kernel
theorem dX7_ball_7 : decode cX7_ball 7 = .ok (.bipush (-102), 2) := by decide +kernel
theorem dX7_ball_9 : decode cX7_ball 9 = .ok (.ireturn, 1) := by decide +kernel
theorem dX7_ball_10 : decode cX7_ball 10 = .ok (.aload_n 0, 1) := by decide +kernel
theorem dX7_ball_11 : decode cX7_ball 11 = .ok (.invokevirtual 170, 3) := by decide +kernel
theorem dX7_ball_14 : decode cX7_ball 14 = .ok (.ifCond .ne 6, 3) := by decide +kernel
theorem dX7_ball_17 : decode cX7_ball 17 = .ok (.bipush (-103), 2) := by decide +kernel
theorem dX7_ball_19 : decode cX7_ball 19 = .ok (.ireturn, 1) := by decide +kernel
theorem dX7_ball_20 : decode cX7_ball 20 = .ok (.aload_n 0, 1) := by decide +kernel
theorem dX7_ball_21 : decode cX7_ball 21 = .ok (.getfield 23, 3) := by decide +kernel
theorem dX7_ball_24 : decode cX7_ball 24 = .ok (.getfield 173, 3) := by decide +kernel
theorem dX7_ball_27 : decode cX7_ball 27 = .ok (.istore_n 2, 1) := by decide +kernel
theorem dX7_ball_28 : decode cX7_ball 28 = .ok (.aload_n 0, 1) := by decide +kernel
theorem dX7_ball_29 : decode cX7_ball 29 = .ok (.getfield 23, 3) := by decide +kernel
theorem dX7_ball_32 : decode cX7_ball 32 = .ok (.iload_n 1, 1) := by decide +kernel
theorem dX7_ball_33 : decode cX7_ball 33 = .ok (.putfield 173, 3) := by decide +kernel
theorem dX7_ball_36 : decode cX7_ball 36 = .ok (.aload_n 0, 1) := by decide +kernel
theorem dX7_ball_37 : decode cX7_ball 37 = .ok (.invokevirtual 87, 3) := by decide +kernel
theorem dX7_ball_40 : decode cX7_ball 40 = .ok (.iload_n 2, 1) := by decide +kernel
theorem dX7_ball_41 : decode cX7_ball 41 = .ok (.ireturn, 1) := by decide +kernel
set_option maxRecDepth 20000 in
theorem ggX7_rule_X7_hasGreen : GoodIn wsX7_rule wsX7_hasGreen := goodIn_r _ [8, 1, 9, 10, 11, 12, 13, 14, 15, 16, 17, 18, 19, 20, 21, 22, 23, 24, 25, 26, 27, 28, 29, 30, 31, 32] (by decide +kernel) (by decide +kernel)
set_option maxRecDepth 20000 in
theorem gX7_rule_X7_hasGreen : GoodIn wsX7_rule (wsV RX7 170 RX7 yX7_hasGreen wsX7_hasGreen) := goodIn_app (goodIn_of _ (by decide +kernel)) ggX7_rule_X7_hasGreen
theorem dX7_rule_0 : decode cX7_rule 0 = .ok (.aload_n 0, 1) := by decide +kernel
theorem dX7_rule_1 : decode cX7_rule 1 = .ok (.invokevirtual 170, 3) := by decide +kernel
theorem dX7_rule_4 : decode cX7_rule 4 = .ok (.ifCond .ne 6, 3) := by decide +kernel
theorem dX7_rule_7 : decode cX7_rule 7 = .ok (.bipush (-103), 2) := by decide +kernel
theorem dX7_rule_9 : decode cX7_rule 9 = .ok (.ireturn, 1) := by decide +kernel
theorem dX7_rule_10 : decode cX7_rule 10 = .ok (.aload_n 0, 1) := by decide +kernel
theorem dX7_rule_11 : decode cX7_rule 11 = .ok (.getfield 23, 3) := by decide +kernel
theorem dX7_rule_14 : decode cX7_rule 14 = .ok (.getfield 176, 3) := by decide +kernel
theorem dX7_rule_17 : decode cX7_rule 17 = .ok (.istore_n 1, 1) := by decide +kernel
theorem dX7_rule_18 : decode cX7_rule 18 = .ok (.aload_n 0, 1) := by decide +kernel
theorem dX7_rule_19 : decode cX7_rule 19 = .ok (.getfield 23, 3) := by decide +kernel
theorem dX7_rule_22 : decode cX7_rule 22 = .ok (.iload_n 1, 1) := by decide +kernel
theorem dX7_rule_23 : decode cX7_rule 23 = .ok (.ifCond .ne 7, 3) := by decide +kernel
theorem dX7_rule_26 : decode cX7_rule 26 = .ok (.iconst 1, 1) := by decide +kernel
theorem dX7_rule_27 : decode cX7_rule 27 = .ok (.goto 4, 3) := by decide +kernel
theorem dX7_rule_30 : decode cX7_rule 30 = .ok (.iconst 0, 1) := by decide +kernel
theorem dX7_rule_31 : decode cX7_rule 31 = .ok (.putfield 176, 3) := by decide +kernel
theorem dX7_rule_34 : decode cX7_rule 34 = .ok (.aload_n 0, 1) := by decide +kernel
theorem dX7_rule_35 : decode cX7_rule 35 = .ok (.iconst 1, 1) := by decide +kernel
theorem dX7_rule_36 : decode cX7_rule 36 = .ok (.putfield 179, 3) := by decide +kernel
theorem dX7_rule_39 : decode cX7_rule 39 = .ok (.iload_n 1, 1) := by decide +kernel
theorem dX7_rule_40 : decode cX7_rule 40 = .ok (.ireturn, 1) := by decide +kernel
set_option maxRecDepth 20000 in
theorem ggX7_change_X1_hasPin : GoodIn wsX7_change wsX1_hasPin := goodIn_r _ [7, 8, 63, 64, 65, 66, 67, 68, 69, 70, 71, 72, 73] (by decide +kernel) (by decide +kernel)
set_option maxRecDepth 20000 in
theorem gX7_change_X1_hasPin : GoodIn wsX7_change (wsV RX7 93 RX1 yX1_hasPin wsX1_hasPin) := goodIn_app (goodIn_of _ (by decide +kernel)) ggX7_change_X1_hasPin
set_option maxRecDepth 20000 in
theorem ggX7_change_X7_isKind : GoodIn wsX7_change wsX7_isKind := goodIn_r _ [12] (by decide +kernel) (by decide +kernel)
set_option maxRecDepth 20000 in
theorem gX7_change_X7_isKind : GoodIn wsX7_change (va_wsS RX7 127 yX7_isKind wsX7_isKind) := goodIn_app (goodIn_of _ (by decide +kernel)) ggX7_change_X7_isKind
set_option maxRecDepth 20000 in
theorem ggX7_change_X7_strikesChanged : GoodIn wsX7_change wsX7_strikesChanged := goodIn_r _ [16, 17, 1, 18, 19, 20, 21, 22, 23, 24, 25, 26, 27, 28, 29, 30, 31, 6, 32, 33, 34, 35, 4, 5, 7, 8, 36, 37, 38, 39, 40, 41, 42, 43, 11, 44, 45, 46, 47, 48, 49, 50, 51, 52, 53, 54, 55, 56, 57, 58, 59, 60, 61, 62, 74, 75, 76, 77, 78, 79, 63, 64, 65, 66, 67, 68, 69, 70, 71, 72, 73] (by decide +kernel) (by decide +kernel)
set_option maxRecDepth 20000 in
theorem gX7_change_X7_strikesChanged : GoodIn wsX7_change (wsV RX7 87 RX7 yX7_strikesChanged wsX7_strikesChanged) := goodIn_app (goodIn_of _ (by decide +kernel)) ggX7_change_X7_strikesChanged
theorem dX7_change_0 : decode cX7_change 0 = .ok (.aload_n 0, 1) := by decide +kernel
theorem dX7_change_1 : decode cX7_change 1 = .ok (.getfield 23, 3) := by decide +kernel
theorem dX7_change_4 : decode cX7_change 4 = .ok (.iload_n 1, 1) := by decide +kernel
theorem dX7_change_5 : decode cX7_change 5 = .ok (.invokevirtual 93, 3) := by decide +kernel
theorem dX7_change_8 : decode cX7_change 8 = .ok (.ifCond .ne 6, 3) := by decide +kernel
theorem dX7_change_11 : decode cX7_change 11 = .ok (.bipush (-101), 2) := by decide +kernel
theorem dX7_change_13 : decode cX7_change 13 = .ok (.ireturn, 1) := by decide +kernel
theorem dX7_change_14 : decode cX7_change 14 = .ok (.iload_n 2, 1) := by decide +kernel
theorem dX7_change_15 : decode cX7_change 15 = .ok (.invokestatic 127, 3) := by decide +kernel
theorem dX7_change_18 : decode cX7_change 18 = .ok (.ifCond .ne 6, 3) := by decide +kernel
theorem dX7_change_21 : decode cX7_change 21 = .ok (.bipush (-102), 2) := by decide +kernel
theorem dX7_change_23 : decode cX7_change 23 = .ok (.ireturn, 1) := by decide +kernel
theorem dX7_change_24 : decode cX7_change 24 = .ok (.aload_n 0, 1) := by decide +kernel
theorem dX7_change_25 : decode cX7_change 25 = .ok (.getfield 23, 3) := by decide +kernel
theorem dX7_change_28 : decode cX7_change 28 = .ok (.getfield 97, 3) := by decide +kernel
theorem dX7_change_31 : decode cX7_change 31 = .ok (.iload_n 1, 1) := by decide +kernel
theorem dX7_change_32 : decode cX7_change 32 = .ok (.iaload, 1) := by decide +kernel
theorem dX7_change_33 : decode cX7_change 33 = .ok (.istore_n 3, 1) := by decide +kernel
theorem dX7_change_34 : decode cX7_change 34 = .ok (.aload_n 0, 1) := by decide +kernel
theorem dX7_change_35 : decode cX7_change 35 = .ok (.getfield 23, 3) := by decide +kernel
theorem dX7_change_38 : decode cX7_change 38 = .ok (.getfield 97, 3) := by decide +kernel
theorem dX7_change_41 : decode cX7_change 41 = .ok (.iload_n 1, 1) := by decide +kernel
theorem dX7_change_42 : decode cX7_change 42 = .ok (.iload_n 2, 1) := by decide +kernel
theorem dX7_change_43 : decode cX7_change 43 = .ok (.iastore, 1) := by decide +kernel
theorem dX7_change_44 : decode cX7_change 44 = .ok (.aload_n 0, 1) := by decide +kernel
theorem dX7_change_45 : decode cX7_change 45 = .ok (.invokevirtual 87, 3) := by decide +kernel
theorem dX7_change_48 : decode cX7_change 48 = .ok (.iload_n 3, 1) := by decide +kernel
theorem dX7_change_49 : decode cX7_change 49 = .ok (.ireturn, 1) := by decide +kernel
set_option maxRecDepth 20000 in
theorem ggX7_number_X7_hasGreen : GoodIn wsX7_number wsX7_hasGreen := goodIn_r _ [7, 1, 8, 68, 69, 70, 71, 72, 73, 74, 75, 76, 77, 78, 79, 80, 81, 82, 83, 84, 85, 86, 87, 88, 89, 90] (by decide +kernel) (by decide +kernel)
set_option maxRecDepth 20000 in
theorem gX7_number_X7_hasGreen : GoodIn wsX7_number (wsV RX7 170 RX7 yX7_hasGreen wsX7_hasGreen) := goodIn_app (goodIn_of _ (by decide +kernel)) ggX7_number_X7_hasGreen
set_option maxRecDepth 20000 in
theorem ggX7_number_X7_numberOfLane : GoodIn wsX7_number wsX7_numberOfLane := goodIn_r _ [12, 13, 1, 14, 15, 16, 6, 17, 18, 19, 20, 8, 21, 22, 23, 24, 25, 26, 27, 28, 29, 30, 31, 32, 33, 34, 35, 36, 37, 38, 39, 40, 41, 42, 43, 44, 45, 46, 47, 48, 49, 50, 51, 52, 53, 54, 55, 56, 57, 58, 59, 60, 61, 62, 63, 64, 65, 66, 67, 91, 92, 93, 94, 95, 68, 69, 70, 71, 72, 73, 74, 75, 76, 77, 78, 79, 80, 81, 82, 83, 84, 85, 86, 87, 88, 89, 90, 96, 97, 98, 99, 100, 101] (by decide +kernel) (by decide +kernel)
set_option maxRecDepth 20000 in
theorem gX7_number_X7_numberOfLane : GoodIn wsX7_number (wsV RX7 151 RX7 yX7_numberOfLane wsX7_numberOfLane) := goodIn_app (goodIn_of _ (by decide +kernel)) ggX7_number_X7_numberOfLane
theorem dX7_number_0 : decode cX7_number 0 = .ok (.aload_n 0, 1) := by decide +kernel
theorem dX7_number_1 : decode cX7_number 1 = .ok (.invokevirtual 170, 3) := by decide +kernel
theorem dX7_number_4 : decode cX7_number 4 = .ok (.ifCond .ne 6, 3) := by decide +kernel
theorem dX7_number_7 : decode cX7_number 7 = .ok (.bipush (-103), 2) := by decide +kernel
theorem dX7_number_9 : decode cX7_number 9 = .ok (.ireturn, 1) := by decide +kernel
theorem dX7_number_10 : decode cX7_number 10 = .ok (.iconst 0, 1) := by decide +kernel
theorem dX7_number_11 : decode cX7_number 11 = .ok (.istore_n 1, 1) := by decide +kernel
theorem dX7_number_12 : decode cX7_number 12 = .ok (.iconst 0, 1) := by decide +kernel
theorem dX7_number_13 : decode cX7_number 13 = .ok (.istore_n 2, 1) := by decide +kernel
theorem dX7_number_14 : decode cX7_number 14 = .ok (.iload_n 2, 1) := by decide +kernel
theorem dX7_number_15 : decode cX7_number 15 = .ok (.aload_n 0, 1) := by decide +kernel
theorem dX7_number_16 : decode cX7_number 16 = .ok (.getfield 23, 3) := by decide +kernel
theorem dX7_number_19 : decode cX7_number 19 = .ok (.getfield 182, 3) := by decide +kernel
theorem dX7_number_22 : decode cX7_number 22 = .ok (.if_icmp .ge 17, 3) := by decide +kernel
theorem dX7_number_25 : decode cX7_number 25 = .ok (.iload_n 1, 1) := by decide +kernel
theorem dX7_number_26 : decode cX7_number 26 = .ok (.aload_n 0, 1) := by decide +kernel
theorem dX7_number_27 : decode cX7_number 27 = .ok (.iload_n 2, 1) := by decide +kernel
theorem dX7_number_28 : decode cX7_number 28 = .ok (.invokevirtual 151, 3) := by decide +kernel
theorem dX7_number_31 : decode cX7_number 31 = .ok (.ixor, 1) := by decide +kernel
theorem dX7_number_32 : decode cX7_number 32 = .ok (.istore_n 1, 1) := by decide +kernel
theorem dX7_number_33 : decode cX7_number 33 = .ok (.iinc 2 1, 3) := by decide +kernel
theorem dX7_number_36 : decode cX7_number 36 = .ok (.goto (-22), 3) := by decide +kernel
theorem dX7_number_39 : decode cX7_number 39 = .ok (.iload_n 1, 1) := by decide +kernel
theorem dX7_number_40 : decode cX7_number 40 = .ok (.ireturn, 1) := by decide +kernel
set_option maxRecDepth 20000 in
theorem ggX7_wins_X7_hasGreen : GoodIn wsX7_wins wsX7_hasGreen := goodIn_r _ [8, 2, 9, 59, 60, 61, 62, 63, 64, 65, 66, 67, 68, 69, 70, 71, 72, 73, 74, 75, 76, 77, 78, 79, 80, 81] (by decide +kernel) (by decide +kernel)
set_option maxRecDepth 20000 in
theorem gX7_wins_X7_hasGreen : GoodIn wsX7_wins (wsV RX7 170 RX7 yX7_hasGreen wsX7_hasGreen) := goodIn_app (goodIn_of _ (by decide +kernel)) ggX7_wins_X7_hasGreen
set_option maxRecDepth 20000 in
theorem ggX7_wins_X7_outlookNow : GoodIn wsX7_wins wsX7_outlookNow := goodIn_r _ [13, 14, 15, 16, 2, 9, 17, 18, 19, 20, 21, 22, 23, 24, 25, 26, 27, 28, 29, 30, 31, 32, 33, 34, 35, 36, 37, 38, 39, 40, 41, 42, 43, 44, 45, 46, 47, 48, 49, 50, 51, 52, 7, 53, 59, 60, 61, 62, 63, 64, 65, 66, 67, 68, 69, 70, 71, 72, 73, 74, 75, 76, 77, 78, 79, 80, 81, 82, 83, 84, 85, 86, 87, 54, 55, 56, 57, 58] (by decide +kernel) (by decide +kernel)
set_option maxRecDepth 20000 in
theorem gX7_wins_X7_outlookNow : GoodIn wsX7_wins (wsV RX7 185 RX7 yX7_outlookNow wsX7_outlookNow) := goodIn_app (goodIn_of _ (by decide +kernel)) ggX7_wins_X7_outlookNow
theorem dX7_wins_0 : decode cX7_wins 0 = .ok (.aload_n 0, 1) := by decide +kernel
theorem dX7_wins_1 : decode cX7_wins 1 = .ok (.invokevirtual 170, 3) := by decide +kernel
theorem dX7_wins_4 : decode cX7_wins 4 = .ok (.ifCond .ne 6, 3) := by decide +kernel
theorem dX7_wins_7 : decode cX7_wins 7 = .ok (.bipush (-103), 2) := by decide +kernel
theorem dX7_wins_9 : decode cX7_wins 9 = .ok (.ireturn, 1) := by decide +kernel
theorem dX7_wins_10 : decode cX7_wins 10 = .ok (.aload_n 0, 1) := by decide +kernel
theorem dX7_wins_11 : decode cX7_wins 11 = .ok (.invokevirtual 185, 3) := by decide +kernel
theorem dX7_wins_14 : decode cX7_wins 14 = .ok (.getfield 189, 3) := by decide +kernel
theorem dX7_wins_17 : decode cX7_wins 17 = .ok (.aload_n 0, 1) := by decide +kernel
theorem dX7_wins_18 : decode cX7_wins 18 = .ok (.getfield 23, 3) := by decide +kernel
theorem dX7_wins_21 : decode cX7_wins 21 = .ok (.getfield 104, 3) := by decide +kernel
theorem dX7_wins_24 : decode cX7_wins 24 = .ok (.iaload, 1) := by decide +kernel
theorem dX7_wins_25 : decode cX7_wins 25 = .ok (.ireturn, 1) := by decide +kernel
set_option maxRecDepth 20000 in
theorem ggX7_best_X7_hasGreen : GoodIn wsX7_best wsX7_hasGreen := goodIn_r _ [10, 2, 11, 69, 70, 71, 72, 73, 74, 75, 76, 77, 78, 79, 80, 81, 82, 83, 84, 85, 86, 87, 88, 89, 90, 91] (by decide +kernel) (by decide +kernel)
set_option maxRecDepth 20000 in
theorem gX7_best_X7_hasGreen : GoodIn wsX7_best (wsV RX7 170 RX7 yX7_hasGreen wsX7_hasGreen) := goodIn_app (goodIn_of _ (by decide +kernel)) ggX7_best_X7_hasGreen
set_option maxRecDepth 20000 in
theorem ggX7_best_X7_outlookNow : GoodIn wsX7_best wsX7_outlookNow := goodIn_r _ [15, 16, 17, 1, 2, 11, 18, 19, 20, 21, 22, 23, 24, 25, 26, 27, 28, 29, 30, 31, 32, 33, 34, 35, 36, 37, 38, 39, 40, 41, 42, 43, 44, 45, 46, 47, 48, 49, 50, 51, 52, 53, 9, 54, 69, 70, 71, 72, 73, 74, 75, 76, 77, 78, 79, 80, 81, 82, 83, 84, 85, 86, 87, 88, 89, 90, 91, 97, 98, 99, 100, 101, 102, 92, 93, 94, 95, 96] (by decide +kernel) (by decide +kernel)
set_option maxRecDepth 20000 in
theorem gX7_best_X7_outlookNow : GoodIn wsX7_best (wsV RX7 185 RX7 yX7_outlookNow wsX7_outlookNow) := goodIn_app (goodIn_of _ (by decide +kernel)) ggX7_best_X7_outlookNow
set_option maxRecDepth 20000 in
theorem ggX7_best_X2_firstGood : GoodIn wsX7_best wsX2_firstGood := goodIn_r _ [58, 32, 59, 60, 61, 62, 63, 22, 64, 34, 42, 43, 44, 45, 46, 47, 48, 49, 50, 51, 52, 97, 98, 99, 100, 101, 102, 92, 93, 94, 95, 96] (by decide +kernel) (by decide +kernel)
set_option maxRecDepth 20000 in
theorem gX7_best_X2_firstGood : GoodIn wsX7_best (wsV RX7 192 RX2 yX2_firstGood wsX2_firstGood) := goodIn_app (goodIn_of _ (by decide +kernel)) ggX7_best_X2_firstGood
set_option maxRecDepth 20000 in
theorem ggX7_best_X2_howManyGood : GoodIn wsX7_best wsX2_howManyGood := goodIn_r _ [68, 32, 61, 62, 63, 22, 64, 34, 42, 43, 44, 45, 46, 47, 48, 49, 50, 51, 52, 97, 98, 99, 100, 101, 102, 92, 93, 94, 95, 96] (by decide +kernel) (by decide +kernel)
set_option maxRecDepth 20000 in
theorem gX7_best_X2_howManyGood : GoodIn wsX7_best (wsV RX7 196 RX2 yX2_howManyGood wsX2_howManyGood) := goodIn_app (goodIn_of _ (by decide +kernel)) ggX7_best_X2_howManyGood
theorem dX7_best_0 : decode cX7_best 0 = .ok (.iload_n 1, 1) := by decide +kernel
theorem dX7_best_1 : decode cX7_best 1 = .ok (.ifCond .lt 8, 3) := by decide +kernel
theorem dX7_best_4 : decode cX7_best 4 = .ok (.iload_n 1, 1) := by decide +kernel
theorem dX7_best_5 : decode cX7_best 5 = .ok (.iconst 3, 1) := by decide +kernel
theorem dX7_best_6 : decode cX7_best 6 = .ok (.if_icmp .le 6, 3) := by decide +kernel
theorem dX7_best_9 : decode cX7_best 9 = .ok (.bipush (-102), 2) := by decide +kernel
theorem dX7_best_11 : decode cX7_best 11 = .ok (.ireturn, 1) := by decide +kernel
theorem dX7_best_12 : decode cX7_best 12 = .ok (.aload_n 0, 1) := by decide +kernel
theorem dX7_best_13 : decode cX7_best 13 = .ok (.invokevirtual 170, 3) := by decide +kernel
theorem dX7_best_16 : decode cX7_best 16 = .ok (.ifCond .ne 6, 3) := by decide +kernel
theorem dX7_best_19 : decode cX7_best 19 = .ok (.bipush (-103), 2) := by decide +kernel
theorem dX7_best_21 : decode cX7_best 21 = .ok (.ireturn, 1) := by decide +kernel
theorem dX7_best_22 : decode cX7_best 22 = .ok (.iload_n 1, 1) := by decide +kernel
theorem dX7_best_23 : decode cX7_best 23 = .ok (.tableswitch 79 0 2 #[25, 44, 63], 25) := by decide +kernel
theorem dX7_best_48 : decode cX7_best 48 = .ok (.aload_n 0, 1) := by decide +kernel
theorem dX7_best_49 : decode cX7_best 49 = .ok (.invokevirtual 185, 3) := by decide +kernel
theorem dX7_best_52 : decode cX7_best 52 = .ok (.aload_n 0, 1) := by decide +kernel
theorem dX7_best_53 : decode cX7_best 53 = .ok (.getfield 33, 3) := by decide +kernel
theorem dX7_best_56 : decode cX7_best 56 = .ok (.aload_n 0, 1) := by decide +kernel
theorem dX7_best_57 : decode cX7_best 57 = .ok (.getfield 23, 3) := by decide +kernel
theorem dX7_best_60 : decode cX7_best 60 = .ok (.getfield 104, 3) := by decide +kernel
theorem dX7_best_63 : decode cX7_best 63 = .ok (.invokevirtual 192, 3) := by decide +kernel
theorem dX7_best_66 : decode cX7_best 66 = .ok (.ireturn, 1) := by decide +kernel
theorem dX7_best_67 : decode cX7_best 67 = .ok (.aload_n 0, 1) := by decide +kernel
theorem dX7_best_68 : decode cX7_best 68 = .ok (.invokevirtual 185, 3) := by decide +kernel
theorem dX7_best_71 : decode cX7_best 71 = .ok (.aload_n 0, 1) := by decide +kernel
theorem dX7_best_72 : decode cX7_best 72 = .ok (.getfield 33, 3) := by decide +kernel
theorem dX7_best_75 : decode cX7_best 75 = .ok (.aload_n 0, 1) := by decide +kernel
theorem dX7_best_76 : decode cX7_best 76 = .ok (.getfield 23, 3) := by decide +kernel
theorem dX7_best_79 : decode cX7_best 79 = .ok (.getfield 104, 3) := by decide +kernel
theorem dX7_best_82 : decode cX7_best 82 = .ok (.invokevirtual 196, 3) := by decide +kernel
theorem dX7_best_85 : decode cX7_best 85 = .ok (.ireturn, 1) := by decide +kernel
theorem dX7_best_86 : decode cX7_best 86 = .ok (.aload_n 0, 1) := by decide +kernel
theorem dX7_best_87 : decode cX7_best 87 = .ok (.invokevirtual 185, 3) := by decide +kernel
theorem dX7_best_90 : decode cX7_best 90 = .ok (.getfield 199, 3) := by decide +kernel
theorem dX7_best_93 : decode cX7_best 93 = .ok (.aload_n 0, 1) := by decide +kernel
theorem dX7_best_94 : decode cX7_best 94 = .ok (.getfield 23, 3) := by decide +kernel
theorem dX7_best_97 : decode cX7_best 97 = .ok (.getfield 104, 3) := by decide +kernel
theorem dX7_best_100 : decode cX7_best 100 = .ok (.iaload, 1) := by decide +kernel
theorem dX7_best_101 : decode cX7_best 101 = .ok (.ireturn, 1) := by decide +kernel
theorem dX7_best_102 : decode cX7_best 102 = .ok (.aload_n 0, 1) := by decide +kernel
theorem dX7_best_103 : decode cX7_best 103 = .ok (.invokevirtual 185, 3) := by decide +kernel
theorem dX7_best_106 : decode cX7_best 106 = .ok (.getfield 202, 3) := by decide +kernel
theorem dX7_best_109 : decode cX7_best 109 = .ok (.aload_n 0, 1) := by decide +kernel
theorem dX7_best_110 : decode cX7_best 110 = .ok (.getfield 23, 3) := by decide +kernel
theorem dX7_best_113 : decode cX7_best 113 = .ok (.getfield 104, 3) := by decide +kernel
theorem dX7_best_116 : decode cX7_best 116 = .ok (.iaload, 1) := by decide +kernel
theorem dX7_best_117 : decode cX7_best 117 = .ok (.ireturn, 1) := by decide +kernel
set_option maxRecDepth 20000 in
theorem ggX7_row_X7_hasGreen : GoodIn wsX7_row wsX7_hasGreen := goodIn_r _ [6, 7, 8, 30, 31, 32, 33, 34, 35, 36, 37, 38, 39, 40, 41, 42, 43, 44, 45, 46, 47, 48, 49, 50, 51, 52] (by decide +kernel) (by decide +kernel)
set_option maxRecDepth 20000 in
theorem gX7_row_X7_hasGreen : GoodIn wsX7_row (wsV RX7 170 RX7 yX7_hasGreen wsX7_hasGreen) := goodIn_app (goodIn_of _ (by decide +kernel)) ggX7_row_X7_hasGreen
set_option maxRecDepth 20000 in
theorem ggX7_row_X7_rowsNow : GoodIn wsX7_row wsX7_rowsNow := goodIn_r _ [12, 13, 7, 14, 15, 16, 17, 18, 19, 20, 21, 22, 23, 24, 25, 26, 5, 27, 30, 31, 32, 33, 34, 35, 36, 37, 38, 39, 40, 41, 42, 43, 44, 45, 46, 47, 48, 49, 50, 51, 52, 28, 29] (by decide +kernel) (by decide +kernel)
set_option maxRecDepth 20000 in
theorem gX7_row_X7_rowsNow : GoodIn wsX7_row (wsV RX7 154 RX7 yX7_rowsNow wsX7_rowsNow) := goodIn_app (goodIn_of _ (by decide +kernel)) ggX7_row_X7_rowsNow
theorem dX7_row_0 : decode cX7_row 0 = .ok (.iload_n 1, 1) := by decide +kernel
theorem dX7_row_1 : decode cX7_row 1 = .ok (.ifCond .lt 9, 3) := by decide +kernel
theorem dX7_row_4 : decode cX7_row 4 = .ok (.iload_n 1, 1) := by decide +kernel
theorem dX7_row_5 : decode cX7_row 5 = .ok (.bipush 40, 2) := by decide +kernel
theorem dX7_row_7 : decode cX7_row 7 = .ok (.if_icmp .le 6, 3) := by decide +kernel
theorem dX7_row_10 : decode cX7_row 10 = .ok (.bipush (-102), 2) := by decide +kernel
theorem dX7_row_12 : decode cX7_row 12 = .ok (.ireturn, 1) := by decide +kernel
theorem dX7_row_13 : decode cX7_row 13 = .ok (.aload_n 0, 1) := by decide +kernel
theorem dX7_row_14 : decode cX7_row 14 = .ok (.invokevirtual 170, 3) := by decide +kernel
theorem dX7_row_17 : decode cX7_row 17 = .ok (.ifCond .ne 6, 3) := by decide +kernel
theorem dX7_row_20 : decode cX7_row 20 = .ok (.bipush (-103), 2) := by decide +kernel
theorem dX7_row_22 : decode cX7_row 22 = .ok (.ireturn, 1) := by decide +kernel
theorem dX7_row_23 : decode cX7_row 23 = .ok (.aload_n 0, 1) := by decide +kernel
theorem dX7_row_24 : decode cX7_row 24 = .ok (.invokevirtual 154, 3) := by decide +kernel
theorem dX7_row_27 : decode cX7_row 27 = .ok (.getfield 205, 3) := by decide +kernel
theorem dX7_row_30 : decode cX7_row 30 = .ok (.iload_n 1, 1) := by decide +kernel
theorem dX7_row_31 : decode cX7_row 31 = .ok (.iaload, 1) := by decide +kernel
theorem dX7_row_32 : decode cX7_row 32 = .ok (.ireturn, 1) := by decide +kernel
set_option maxRecDepth 20000 in
theorem ggX7_period_X7_hasGreen : GoodIn wsX7_period wsX7_hasGreen := goodIn_r _ [5, 6, 7, 36, 37, 38, 39, 40, 41, 42, 43, 44, 45, 46, 47, 48, 49, 50, 51, 52, 53, 54, 55, 56, 57, 58] (by decide +kernel) (by decide +kernel)
set_option maxRecDepth 20000 in
theorem gX7_period_X7_hasGreen : GoodIn wsX7_period (wsV RX7 170 RX7 yX7_hasGreen wsX7_hasGreen) := goodIn_app (goodIn_of _ (by decide +kernel)) ggX7_period_X7_hasGreen
set_option maxRecDepth 20000 in
theorem ggX7_period_X7_rowsNow : GoodIn wsX7_period wsX7_rowsNow := goodIn_r _ [11, 12, 6, 13, 14, 15, 16, 17, 18, 19, 20, 21, 22, 23, 24, 25, 4, 26, 36, 37, 38, 39, 40, 41, 42, 43, 44, 45, 46, 47, 48, 49, 50, 51, 52, 53, 54, 55, 56, 57, 58, 59, 60] (by decide +kernel) (by decide +kernel)
set_option maxRecDepth 20000 in
theorem gX7_period_X7_rowsNow : GoodIn wsX7_period (wsV RX7 154 RX7 yX7_rowsNow wsX7_rowsNow) := goodIn_app (goodIn_of _ (by decide +kernel)) ggX7_period_X7_rowsNow
set_option maxRecDepth 20000 in
theorem ggX7_period_X4_leastPeriod : GoodIn wsX7_period wsX4_leastPeriod := goodIn_r _ [30, 31, 32, 33, 17, 34, 20, 59, 60] (by decide +kernel) (by decide +kernel)
set_option maxRecDepth 20000 in
theorem gX7_period_X4_leastPeriod : GoodIn wsX7_period (wsV RX7 208 RX4 yX4_leastPeriod wsX4_leastPeriod) := goodIn_app (goodIn_of _ (by decide +kernel)) ggX7_period_X4_leastPeriod
set_option maxRecDepth 20000 in
theorem ggX7_period_X4_leastFrom : GoodIn wsX7_period wsX4_leastFrom := goodIn_r _ [34, 20, 59, 60] (by decide +kernel) (by decide +kernel)
set_option maxRecDepth 20000 in
theorem gX7_period_X4_leastFrom : GoodIn wsX7_period (wsV RX7 211 RX4 yX4_leastFrom wsX4_leastFrom) := goodIn_app (goodIn_of _ (by decide +kernel)) ggX7_period_X4_leastFrom
theorem dX7_period_0 : decode cX7_period 0 = .ok (.iload_n 1, 1) := by decide +kernel
theorem dX7_period_1 : decode cX7_period 1 = .ok (.ifCond .lt 8, 3) := by decide +kernel
theorem dX7_period_4 : decode cX7_period 4 = .ok (.iload_n 1, 1) := by decide +kernel
theorem dX7_period_5 : decode cX7_period 5 = .ok (.iconst 1, 1) := by decide +kernel
theorem dX7_period_6 : decode cX7_period 6 = .ok (.if_icmp .le 6, 3) := by decide +kernel
theorem dX7_period_9 : decode cX7_period 9 = .ok (.bipush (-102), 2) := by decide +kernel
theorem dX7_period_11 : decode cX7_period 11 = .ok (.ireturn, 1) := by decide +kernel
theorem dX7_period_12 : decode cX7_period 12 = .ok (.aload_n 0, 1) := by decide +kernel
theorem dX7_period_13 : decode cX7_period 13 = .ok (.invokevirtual 170, 3) := by decide +kernel
theorem dX7_period_16 : decode cX7_period 16 = .ok (.ifCond .ne 6, 3) := by decide +kernel
theorem dX7_period_19 : decode cX7_period 19 = .ok (.bipush (-103), 2) := by decide +kernel
theorem dX7_period_21 : decode cX7_period 21 = .ok (.ireturn, 1) := by decide +kernel
theorem dX7_period_22 : decode cX7_period 22 = .ok (.aload_n 0, 1) := by decide +kernel
theorem dX7_period_23 : decode cX7_period 23 = .ok (.invokevirtual 154, 3) := by decide +kernel
theorem dX7_period_26 : decode cX7_period 26 = .ok (.invokevirtual 208, 3) := by decide +kernel
theorem dX7_period_29 : decode cX7_period 29 = .ok (.istore_n 2, 1) := by decide +kernel
theorem dX7_period_30 : decode cX7_period 30 = .ok (.iload_n 2, 1) := by decide +kernel
theorem dX7_period_31 : decode cX7_period 31 = .ok (.iconst (-1), 1) := by decide +kernel
theorem dX7_period_32 : decode cX7_period 32 = .ok (.if_icmp .eq 7, 3) := by decide +kernel
theorem dX7_period_35 : decode cX7_period 35 = .ok (.iload_n 1, 1) := by decide +kernel
theorem dX7_period_36 : decode cX7_period 36 = .ok (.ifCond .ne 5, 3) := by decide +kernel
theorem dX7_period_39 : decode cX7_period 39 = .ok (.iload_n 2, 1) := by decide +kernel
theorem dX7_period_40 : decode cX7_period 40 = .ok (.ireturn, 1) := by decide +kernel
theorem dX7_period_41 : decode cX7_period 41 = .ok (.aload_n 0, 1) := by decide +kernel
theorem dX7_period_42 : decode cX7_period 42 = .ok (.invokevirtual 154, 3) := by decide +kernel
theorem dX7_period_45 : decode cX7_period 45 = .ok (.iload_n 2, 1) := by decide +kernel
theorem dX7_period_46 : decode cX7_period 46 = .ok (.invokevirtual 211, 3) := by decide +kernel
theorem dX7_period_49 : decode cX7_period 49 = .ok (.ireturn, 1) := by decide +kernel
set_option maxRecDepth 20000 in
theorem ggX7_likely_X7_hasGreen : GoodIn wsX7_likely wsX7_hasGreen := goodIn_r _ [8, 2, 9, 59, 60, 61, 62, 63, 64, 65, 66, 67, 68, 69, 70, 71, 72, 73, 74, 75, 76, 77, 78, 79, 80, 81] (by decide +kernel) (by decide +kernel)
set_option maxRecDepth 20000 in
theorem gX7_likely_X7_hasGreen : GoodIn wsX7_likely (wsV RX7 170 RX7 yX7_hasGreen wsX7_hasGreen) := goodIn_app (goodIn_of _ (by decide +kernel)) ggX7_likely_X7_hasGreen
set_option maxRecDepth 20000 in
theorem ggX7_likely_X7_outlookNow : GoodIn wsX7_likely wsX7_outlookNow := goodIn_r _ [13, 14, 15, 16, 2, 9, 17, 18, 19, 20, 21, 22, 23, 24, 25, 26, 27, 28, 29, 30, 31, 32, 33, 34, 35, 36, 37, 38, 39, 40, 41, 42, 43, 44, 45, 46, 47, 48, 49, 50, 51, 52, 7, 53, 59, 60, 61, 62, 63, 64, 65, 66, 67, 68, 69, 70, 71, 72, 73, 74, 75, 76, 77, 78, 79, 80, 81, 82, 83, 84, 85, 86, 87, 54, 55, 56, 57, 58] (by decide +kernel) (by decide +kernel)
set_option maxRecDepth 20000 in
theorem gX7_likely_X7_outlookNow : GoodIn wsX7_likely (wsV RX7 185 RX7 yX7_outlookNow wsX7_outlookNow) := goodIn_app (goodIn_of _ (by decide +kernel)) ggX7_likely_X7_outlookNow
theorem dX7_likely_0 : decode cX7_likely 0 = .ok (.aload_n 0, 1) := by decide +kernel
theorem dX7_likely_1 : decode cX7_likely 1 = .ok (.invokevirtual 170, 3) := by decide +kernel
theorem dX7_likely_4 : decode cX7_likely 4 = .ok (.ifCond .ne 6, 3) := by decide +kernel
theorem dX7_likely_7 : decode cX7_likely 7 = .ok (.bipush (-103), 2) := by decide +kernel
theorem dX7_likely_9 : decode cX7_likely 9 = .ok (.ireturn, 1) := by decide +kernel
theorem dX7_likely_10 : decode cX7_likely 10 = .ok (.aload_n 0, 1) := by decide +kernel
theorem dX7_likely_11 : decode cX7_likely 11 = .ok (.invokevirtual 185, 3) := by decide +kernel
theorem dX7_likely_14 : decode cX7_likely 14 = .ok (.getfield 214, 3) := by decide +kernel
theorem dX7_likely_17 : decode cX7_likely 17 = .ok (.aload_n 0, 1) := by decide +kernel
theorem dX7_likely_18 : decode cX7_likely 18 = .ok (.getfield 23, 3) := by decide +kernel
theorem dX7_likely_21 : decode cX7_likely 21 = .ok (.getfield 104, 3) := by decide +kernel
theorem dX7_likely_24 : decode cX7_likely 24 = .ok (.iaload, 1) := by decide +kernel
theorem dX7_likely_25 : decode cX7_likely 25 = .ok (.ireturn, 1) := by decide +kernel
set_option maxRecDepth 20000 in
theorem ggX7_see_X1_hasPin : GoodIn wsX7_see wsX1_hasPin := goodIn_r _ [8, 9, 31, 32, 33, 34, 35, 36, 37, 38, 39, 40, 41] (by decide +kernel) (by decide +kernel)
set_option maxRecDepth 20000 in
theorem gX7_see_X1_hasPin : GoodIn wsX7_see (wsV RX7 93 RX1 yX1_hasPin wsX1_hasPin) := goodIn_app (goodIn_of _ (by decide +kernel)) ggX7_see_X1_hasPin
set_option maxRecDepth 20000 in
theorem ggX7_see_X5_add : GoodIn wsX7_see wsX5_add := goodIn_r _ [14, 15, 16, 17, 18, 42, 43, 44, 45] (by decide +kernel) (by decide +kernel)
set_option maxRecDepth 20000 in
theorem gX7_see_X5_add : GoodIn wsX7_see (wsV RX7 220 RX5 yX5_add wsX5_add) := goodIn_app (goodIn_of _ (by decide +kernel)) ggX7_see_X5_add
theorem dX7_see_0 : decode cX7_see 0 = .ok (.aload_n 0, 1) := by decide +kernel
theorem dX7_see_1 : decode cX7_see 1 = .ok (.getfield 23, 3) := by decide +kernel
theorem dX7_see_4 : decode cX7_see 4 = .ok (.iload_n 1, 1) := by decide +kernel
theorem dX7_see_5 : decode cX7_see 5 = .ok (.invokevirtual 93, 3) := by decide +kernel
theorem dX7_see_8 : decode cX7_see 8 = .ok (.ifCond .ne 6, 3) := by decide +kernel
theorem dX7_see_11 : decode cX7_see 11 = .ok (.bipush (-101), 2) := by decide +kernel
theorem dX7_see_13 : decode cX7_see 13 = .ok (.ireturn, 1) := by decide +kernel
theorem dX7_see_14 : decode cX7_see 14 = .ok (.iload_n 2, 1) := by decide +kernel
theorem dX7_see_15 : decode cX7_see 15 = .ok (.ifCond .lt 17, 3) := by decide +kernel
theorem dX7_see_18 : decode cX7_see 18 = .ok (.iload_n 2, 1) := by decide +kernel
theorem dX7_see_19 : decode cX7_see 19 = .ok (.iconst 1, 1) := by decide +kernel
theorem dX7_see_20 : decode cX7_see 20 = .ok (.if_icmp .gt 12, 3) := by decide +kernel
theorem dX7_see_23 : decode cX7_see 23 = .ok (.iload_n 3, 1) := by decide +kernel
theorem dX7_see_24 : decode cX7_see 24 = .ok (.ifCond .lt 8, 3) := by decide +kernel
theorem dX7_see_27 : decode cX7_see 27 = .ok (.iload_n 3, 1) := by decide +kernel
theorem dX7_see_28 : decode cX7_see 28 = .ok (.iconst 3, 1) := by decide +kernel
theorem dX7_see_29 : decode cX7_see 29 = .ok (.if_icmp .le 6, 3) := by decide +kernel
theorem dX7_see_32 : decode cX7_see 32 = .ok (.bipush (-102), 2) := by decide +kernel
theorem dX7_see_34 : decode cX7_see 34 = .ok (.ireturn, 1) := by decide +kernel
theorem dX7_see_35 : decode cX7_see 35 = .ok (.aload_n 0, 1) := by decide +kernel
theorem dX7_see_36 : decode cX7_see 36 = .ok (.getfield 23, 3) := by decide +kernel
theorem dX7_see_39 : decode cX7_see 39 = .ok (.getfield 114, 3) := by decide +kernel
theorem dX7_see_42 : decode cX7_see 42 = .ok (.getfield 217, 3) := by decide +kernel
theorem dX7_see_45 : decode cX7_see 45 = .ok (.bipush 6, 2) := by decide +kernel
theorem dX7_see_47 : decode cX7_see 47 = .ok (.if_icmp .lt 6, 3) := by decide +kernel
theorem dX7_see_50 : decode cX7_see 50 = .ok (.bipush (-104), 2) := by decide +kernel
theorem dX7_see_52 : decode cX7_see 52 = .ok (.ireturn, 1) := by decide +kernel
theorem dX7_see_53 : decode cX7_see 53 = .ok (.aload_n 0, 1) := by decide +kernel
theorem dX7_see_54 : decode cX7_see 54 = .ok (.getfield 23, 3) := by decide +kernel
theorem dX7_see_57 : decode cX7_see 57 = .ok (.getfield 114, 3) := by decide +kernel
theorem dX7_see_60 : decode cX7_see 60 = .ok (.iload_n 1, 1) := by decide +kernel
theorem dX7_see_61 : decode cX7_see 61 = .ok (.iload_n 2, 1) := by decide +kernel
theorem dX7_see_62 : decode cX7_see 62 = .ok (.iload_n 3, 1) := by decide +kernel
theorem dX7_see_63 : decode cX7_see 63 = .ok (.invokevirtual 220, 3) := by decide +kernel
theorem dX7_see_66 : decode cX7_see 66 = .ok (.aload_n 0, 1) := by decide +kernel
theorem dX7_see_67 : decode cX7_see 67 = .ok (.getfield 23, 3) := by decide +kernel
theorem dX7_see_70 : decode cX7_see 70 = .ok (.getfield 114, 3) := by decide +kernel
theorem dX7_see_73 : decode cX7_see 73 = .ok (.getfield 217, 3) := by decide +kernel
theorem dX7_see_76 : decode cX7_see 76 = .ok (.ireturn, 1) := by decide +kernel
theorem dX7_forget_0 : decode cX7_forget 0 = .ok (.aload_n 0, 1) := by decide +kernel
theorem dX7_forget_1 : decode cX7_forget 1 = .ok (.getfield 23, 3) := by decide +kernel
theorem dX7_forget_4 : decode cX7_forget 4 = .ok (.getfield 114, 3) := by decide +kernel
theorem dX7_forget_7 : decode cX7_forget 7 = .ok (.getfield 217, 3) := by decide +kernel
theorem dX7_forget_10 : decode cX7_forget 10 = .ok (.istore_n 1, 1) := by decide +kernel
theorem dX7_forget_11 : decode cX7_forget 11 = .ok (.aload_n 0, 1) := by decide +kernel
theorem dX7_forget_12 : decode cX7_forget 12 = .ok (.getfield 23, 3) := by decide +kernel
theorem dX7_forget_15 : decode cX7_forget 15 = .ok (.getfield 114, 3) := by decide +kernel
theorem dX7_forget_18 : decode cX7_forget 18 = .ok (.iconst 0, 1) := by decide +kernel
theorem dX7_forget_19 : decode cX7_forget 19 = .ok (.putfield 217, 3) := by decide +kernel
theorem dX7_forget_22 : decode cX7_forget 22 = .ok (.iload_n 1, 1) := by decide +kernel
theorem dX7_forget_23 : decode cX7_forget 23 = .ok (.ireturn, 1) := by decide +kernel
set_option maxRecDepth 20000 in
theorem ggX7_games_X7_hasGreen : GoodIn wsX7_games wsX7_hasGreen := goodIn_r _ [11, 3, 12, 61, 62, 63, 64, 65, 66, 67, 68, 69, 70, 71, 72, 76, 77, 78, 79, 80, 81, 82, 83, 84, 85, 86] (by decide +kernel) (by decide +kernel)
set_option maxRecDepth 20000 in
theorem gX7_games_X7_hasGreen : GoodIn wsX7_games (wsV RX7 170 RX7 yX7_hasGreen wsX7_hasGreen) := goodIn_app (goodIn_of _ (by decide +kernel)) ggX7_games_X7_hasGreen
set_option maxRecDepth 20000 in
theorem ggX7_games_X0_play : GoodIn wsX7_games wsX0_play := goodIn_r _ [17, 18, 19, 20, 21, 22, 23, 24, 25, 16, 26, 27, 28, 29, 30, 31, 32, 33, 34, 35, 36, 37, 38, 39, 40, 41, 42, 43, 44, 45, 46, 47, 48, 49, 50, 51, 52, 53, 54, 55, 56, 57, 58, 59, 60, 73, 74, 75, 76, 77, 78, 79, 80, 81, 82, 83, 84, 85, 86, 87, 88, 89, 90, 91, 92] (by decide +kernel) (by decide +kernel)
set_option maxRecDepth 20000 in
theorem gX7_games_X0_play : GoodIn wsX7_games (wsV RX7 224 RX0 yX0_play wsX0_play) := goodIn_app (goodIn_of _ (by decide +kernel)) ggX7_games_X0_play
theorem dX7_games_0 : decode cX7_games 0 = .ok (.iload_n 1, 1) := by decide +kernel
theorem dX7_games_1 : decode cX7_games 1 = .ok (.iconst 1, 1) := by decide +kernel
theorem dX7_games_2 : decode cX7_games 2 = .ok (.if_icmp .lt 22, 3) := by decide +kernel
theorem dX7_games_5 : decode cX7_games 5 = .ok (.iload_n 1, 1) := by decide +kernel
theorem dX7_games_6 : decode cX7_games 6 = .ok (.bipush 40, 2) := by decide +kernel
theorem dX7_games_8 : decode cX7_games 8 = .ok (.if_icmp .gt 16, 3) := by decide +kernel
theorem dX7_games_11 : decode cX7_games 11 = .ok (.iload_n 2, 1) := by decide +kernel
theorem dX7_games_12 : decode cX7_games 12 = .ok (.ifCond .lt 12, 3) := by decide +kernel
theorem dX7_games_15 : decode cX7_games 15 = .ok (.iload_n 3, 1) := by decide +kernel
theorem dX7_games_16 : decode cX7_games 16 = .ok (.ifCond .lt 8, 3) := by decide +kernel
theorem dX7_games_19 : decode cX7_games 19 = .ok (.iload_n 3, 1) := by decide +kernel
theorem dX7_games_20 : decode cX7_games 20 = .ok (.iconst 2, 1) := by decide +kernel
theorem dX7_games_21 : decode cX7_games 21 = .ok (.if_icmp .le 6, 3) := by decide +kernel
theorem dX7_games_24 : decode cX7_games 24 = .ok (.bipush (-102), 2) := by decide +kernel
theorem dX7_games_26 : decode cX7_games 26 = .ok (.ireturn, 1) := by decide +kernel
theorem dX7_games_27 : decode cX7_games 27 = .ok (.aload_n 0, 1) := by decide +kernel
theorem dX7_games_28 : decode cX7_games 28 = .ok (.invokevirtual 170, 3) := by decide +kernel
theorem dX7_games_31 : decode cX7_games 31 = .ok (.ifCond .ne 6, 3) := by decide +kernel
theorem dX7_games_34 : decode cX7_games 34 = .ok (.bipush (-103), 2) := by decide +kernel
theorem dX7_games_36 : decode cX7_games 36 = .ok (.ireturn, 1) := by decide +kernel
theorem dX7_games_37 : decode cX7_games 37 = .ok (.aload_n 0, 1) := by decide +kernel
theorem dX7_games_38 : decode cX7_games 38 = .ok (.getfield 54, 3) := by decide +kernel
theorem dX7_games_41 : decode cX7_games 41 = .ok (.iload_n 1, 1) := by decide +kernel
theorem dX7_games_42 : decode cX7_games 42 = .ok (.iload_n 2, 1) := by decide +kernel
theorem dX7_games_43 : decode cX7_games 43 = .ok (.aload_n 0, 1) := by decide +kernel
theorem dX7_games_44 : decode cX7_games 44 = .ok (.getfield 33, 3) := by decide +kernel
theorem dX7_games_47 : decode cX7_games 47 = .ok (.aload_n 0, 1) := by decide +kernel
theorem dX7_games_48 : decode cX7_games 48 = .ok (.getfield 23, 3) := by decide +kernel
theorem dX7_games_51 : decode cX7_games 51 = .ok (.invokevirtual 224, 3) := by decide +kernel
theorem dX7_games_54 : decode cX7_games 54 = .ok (.iload_n 3, 1) := by decide +kernel
theorem dX7_games_55 : decode cX7_games 55 = .ok (.lookupswitch 41 #[(0, 25), (1, 33)], 25) := by decide +kernel
theorem dX7_games_80 : decode cX7_games 80 = .ok (.aload_n 0, 1) := by decide +kernel
theorem dX7_games_81 : decode cX7_games 81 = .ok (.getfield 54, 3) := by decide +kernel
theorem dX7_games_84 : decode cX7_games 84 = .ok (.getfield 228, 3) := by decide +kernel
theorem dX7_games_87 : decode cX7_games 87 = .ok (.ireturn, 1) := by decide +kernel
theorem dX7_games_88 : decode cX7_games 88 = .ok (.aload_n 0, 1) := by decide +kernel
theorem dX7_games_89 : decode cX7_games 89 = .ok (.getfield 54, 3) := by decide +kernel
theorem dX7_games_92 : decode cX7_games 92 = .ok (.getfield 231, 3) := by decide +kernel
theorem dX7_games_95 : decode cX7_games 95 = .ok (.ireturn, 1) := by decide +kernel
theorem dX7_games_96 : decode cX7_games 96 = .ok (.aload_n 0, 1) := by decide +kernel
theorem dX7_games_97 : decode cX7_games 97 = .ok (.getfield 54, 3) := by decide +kernel
theorem dX7_games_100 : decode cX7_games 100 = .ok (.getfield 234, 3) := by decide +kernel
theorem dX7_games_103 : decode cX7_games 103 = .ok (.l2i, 1) := by decide +kernel
theorem dX7_games_104 : decode cX7_games 104 = .ok (.ireturn, 1) := by decide +kernel
set_option maxRecDepth 20000 in
theorem ggX7_image_X7_hasGreen : GoodIn wsX7_image wsX7_hasGreen := goodIn_r _ [9, 2, 10, 41, 42, 43, 44, 45, 46, 47, 48, 49, 50, 51, 52, 53, 54, 55, 56, 57, 58, 59, 60, 61, 62, 63] (by decide +kernel) (by decide +kernel)
set_option maxRecDepth 20000 in
theorem gX7_image_X7_hasGreen : GoodIn wsX7_image (wsV RX7 170 RX7 yX7_hasGreen wsX7_hasGreen) := goodIn_app (goodIn_of _ (by decide +kernel)) ggX7_image_X7_hasGreen
set_option maxRecDepth 20000 in
theorem ggX7_image_X1_copyFrom : GoodIn wsX7_image wsX1_copyFrom := goodIn_r _ [15, 16, 17, 18, 19, 20, 21, 22, 23, 24, 25, 26, 27, 28, 29, 30, 31, 32, 33, 34, 35, 36, 37, 38, 39, 40, 53, 54, 55, 56, 57, 58, 59, 60, 61, 62, 63, 64, 65, 66, 67] (by decide +kernel) (by decide +kernel)
set_option maxRecDepth 20000 in
theorem gX7_image_X1_copyFrom : GoodIn wsX7_image (wsV RX7 73 RX1 yX1_copyFrom wsX1_copyFrom) := goodIn_app (goodIn_of _ (by decide +kernel)) ggX7_image_X1_copyFrom
theorem dX7_image_0 : decode cX7_image 0 = .ok (.aload_n 0, 1) := by decide +kernel
theorem dX7_image_1 : decode cX7_image 1 = .ok (.invokevirtual 170, 3) := by decide +kernel
theorem dX7_image_4 : decode cX7_image 4 = .ok (.ifCond .ne 6, 3) := by decide +kernel
theorem dX7_image_7 : decode cX7_image 7 = .ok (.bipush (-103), 2) := by decide +kernel
theorem dX7_image_9 : decode cX7_image 9 = .ok (.ireturn, 1) := by decide +kernel
theorem dX7_image_10 : decode cX7_image 10 = .ok (.aload_n 0, 1) := by decide +kernel
theorem dX7_image_11 : decode cX7_image 11 = .ok (.getfield 27, 3) := by decide +kernel
theorem dX7_image_14 : decode cX7_image 14 = .ok (.aload_n 0, 1) := by decide +kernel
theorem dX7_image_15 : decode cX7_image 15 = .ok (.getfield 23, 3) := by decide +kernel
theorem dX7_image_18 : decode cX7_image 18 = .ok (.invokevirtual 73, 3) := by decide +kernel
theorem dX7_image_21 : decode cX7_image 21 = .ok (.aload_n 0, 1) := by decide +kernel
theorem dX7_image_22 : decode cX7_image 22 = .ok (.iconst 1, 1) := by decide +kernel
theorem dX7_image_23 : decode cX7_image 23 = .ok (.putfield 80, 3) := by decide +kernel
theorem dX7_image_26 : decode cX7_image 26 = .ok (.aload_n 0, 1) := by decide +kernel
theorem dX7_image_27 : decode cX7_image 27 = .ok (.getfield 23, 3) := by decide +kernel
theorem dX7_image_30 : decode cX7_image 30 = .ok (.getfield 167, 3) := by decide +kernel
theorem dX7_image_33 : decode cX7_image 33 = .ok (.ireturn, 1) := by decide +kernel
set_option maxRecDepth 20000 in
theorem ggX7_restore_X1_copyFrom : GoodIn wsX7_restore wsX1_copyFrom := goodIn_r _ [9, 10, 11, 12, 13, 14, 15, 16, 17, 18, 19, 20, 21, 22, 23, 24, 25, 26, 27, 28, 29, 30, 31, 32, 33, 34, 87, 88, 89, 90, 91, 92, 93, 94, 95, 96, 97, 98, 99, 100, 101] (by decide +kernel) (by decide +kernel)
set_option maxRecDepth 20000 in
theorem gX7_restore_X1_copyFrom : GoodIn wsX7_restore (wsV RX7 73 RX1 yX1_copyFrom wsX1_copyFrom) := goodIn_app (goodIn_of _ (by decide +kernel)) ggX7_restore_X1_copyFrom
set_option maxRecDepth 20000 in
theorem ggX7_restore_X7_strikesChanged : GoodIn wsX7_restore wsX7_strikesChanged := goodIn_r _ [39, 40, 2, 41, 42, 43, 44, 45, 46, 47, 48, 49, 50, 51, 52, 53, 54, 8, 55, 17, 12, 56, 57, 58, 59, 10, 60, 61, 62, 63, 64, 65, 66, 67, 38, 68, 69, 70, 71, 72, 73, 74, 75, 76, 77, 78, 79, 80, 81, 82, 83, 84, 85, 86, 102, 103, 104, 105, 106, 107, 87, 88, 89, 90, 91, 92, 93, 94, 95, 96, 97] (by decide +kernel) (by decide +kernel)
set_option maxRecDepth 20000 in
theorem gX7_restore_X7_strikesChanged : GoodIn wsX7_restore (wsV RX7 87 RX7 yX7_strikesChanged wsX7_strikesChanged) := goodIn_app (goodIn_of _ (by decide +kernel)) ggX7_restore_X7_strikesChanged
theorem dX7_restore_0 : decode cX7_restore 0 = .ok (.aload_n 0, 1) := by decide +kernel
theorem dX7_restore_1 : decode cX7_restore 1 = .ok (.getfield 80, 3) := by decide +kernel
theorem dX7_restore_4 : decode cX7_restore 4 = .ok (.ifCond .ne 6, 3) := by decide +kernel
theorem dX7_restore_7 : decode cX7_restore 7 = .ok (.bipush (-103), 2) := by decide +kernel
theorem dX7_restore_9 : decode cX7_restore 9 = .ok (.ireturn, 1) := by decide +kernel
theorem dX7_restore_10 : decode cX7_restore 10 = .ok (.aload_n 0, 1) := by decide +kernel
theorem dX7_restore_11 : decode cX7_restore 11 = .ok (.getfield 23, 3) := by decide +kernel
theorem dX7_restore_14 : decode cX7_restore 14 = .ok (.aload_n 0, 1) := by decide +kernel
theorem dX7_restore_15 : decode cX7_restore 15 = .ok (.getfield 27, 3) := by decide +kernel
theorem dX7_restore_18 : decode cX7_restore 18 = .ok (.invokevirtual 73, 3) := by decide +kernel
theorem dX7_restore_21 : decode cX7_restore 21 = .ok (.aload_n 0, 1) := by decide +kernel
theorem dX7_restore_22 : decode cX7_restore 22 = .ok (.invokevirtual 87, 3) := by decide +kernel
theorem dX7_restore_25 : decode cX7_restore 25 = .ok (.aload_n 0, 1) := by decide +kernel
theorem dX7_restore_26 : decode cX7_restore 26 = .ok (.getfield 23, 3) := by decide +kernel
theorem dX7_restore_29 : decode cX7_restore 29 = .ok (.getfield 167, 3) := by decide +kernel
theorem dX7_restore_32 : decode cX7_restore 32 = .ok (.ireturn, 1) := by decide +kernel
set_option maxRecDepth 20000 in
theorem ggX7_count_J6_bitCount_0f7a4 : GoodIn wsX7_count wsJ6_bitCount_0f7a4 := goodIn_r _ [16, 17, 18, 19] (by decide +kernel) (by decide +kernel)
set_option maxRecDepth 20000 in
theorem gX7_count_J6_bitCount_0f7a4 : GoodIn wsX7_count (va_wsS RX7 146 yJ6_bitCount_0f7a4 wsJ6_bitCount_0f7a4) := goodIn_app (goodIn_of _ (by decide +kernel)) ggX7_count_J6_bitCount_0f7a4
set_option maxRecDepth 20000 in
theorem ggX7_count_X6_howMany : GoodIn wsX7_count wsX6_howMany := goodIn_r _ [24, 25, 26, 54, 55, 56, 57, 58, 59] (by decide +kernel) (by decide +kernel)
set_option maxRecDepth 20000 in
theorem gX7_count_X6_howMany : GoodIn wsX7_count (wsV RX7 238 RX6 yX6_howMany wsX6_howMany) := goodIn_app (goodIn_of _ (by decide +kernel)) ggX7_count_X6_howMany
theorem dX7_count_0 : decode cX7_count 0 = .ok (.iload_n 1, 1) := by decide +kernel
theorem dX7_count_1 : decode cX7_count 1 = .ok (.tableswitch 142 0 9 #[55, 63, 71, 82, 90, 98, 113, 121, 132, 137], 55) := by decide +kernel
theorem dX7_count_56 : decode cX7_count 56 = .ok (.aload_n 0, 1) := by decide +kernel
theorem dX7_count_57 : decode cX7_count 57 = .ok (.getfield 23, 3) := by decide +kernel
theorem dX7_count_60 : decode cX7_count 60 = .ok (.getfield 90, 3) := by decide +kernel
theorem dX7_count_63 : decode cX7_count 63 = .ok (.ireturn, 1) := by decide +kernel
theorem dX7_count_64 : decode cX7_count 64 = .ok (.aload_n 0, 1) := by decide +kernel
theorem dX7_count_65 : decode cX7_count 65 = .ok (.getfield 23, 3) := by decide +kernel
theorem dX7_count_68 : decode cX7_count 68 = .ok (.getfield 182, 3) := by decide +kernel
theorem dX7_count_71 : decode cX7_count 71 = .ok (.ireturn, 1) := by decide +kernel
theorem dX7_count_72 : decode cX7_count 72 = .ok (.aload_n 0, 1) := by decide +kernel
theorem dX7_count_73 : decode cX7_count 73 = .ok (.getfield 23, 3) := by decide +kernel
theorem dX7_count_76 : decode cX7_count 76 = .ok (.getfield 104, 3) := by decide +kernel
theorem dX7_count_79 : decode cX7_count 79 = .ok (.invokestatic 146, 3) := by decide +kernel
theorem dX7_count_82 : decode cX7_count 82 = .ok (.ireturn, 1) := by decide +kernel
theorem dX7_count_83 : decode cX7_count 83 = .ok (.aload_n 0, 1) := by decide +kernel
theorem dX7_count_84 : decode cX7_count 84 = .ok (.getfield 23, 3) := by decide +kernel
theorem dX7_count_87 : decode cX7_count 87 = .ok (.getfield 173, 3) := by decide +kernel
theorem dX7_count_90 : decode cX7_count 90 = .ok (.ireturn, 1) := by decide +kernel
theorem dX7_count_91 : decode cX7_count 91 = .ok (.aload_n 0, 1) := by decide +kernel
theorem dX7_count_92 : decode cX7_count 92 = .ok (.getfield 23, 3) := by decide +kernel
theorem dX7_count_95 : decode cX7_count 95 = .ok (.getfield 176, 3) := by decide +kernel
theorem dX7_count_98 : decode cX7_count 98 = .ok (.ireturn, 1) := by decide +kernel
theorem dX7_count_99 : decode cX7_count 99 = .ok (.aload_n 0, 1) := by decide +kernel
theorem dX7_count_100 : decode cX7_count 100 = .ok (.getfield 33, 3) := by decide +kernel
theorem dX7_count_103 : decode cX7_count 103 = .ok (.aload_n 0, 1) := by decide +kernel
theorem dX7_count_104 : decode cX7_count 104 = .ok (.getfield 23, 3) := by decide +kernel
theorem dX7_count_107 : decode cX7_count 107 = .ok (.getfield 104, 3) := by decide +kernel
theorem dX7_count_110 : decode cX7_count 110 = .ok (.invokevirtual 238, 3) := by decide +kernel
theorem dX7_count_113 : decode cX7_count 113 = .ok (.ireturn, 1) := by decide +kernel
theorem dX7_count_114 : decode cX7_count 114 = .ok (.aload_n 0, 1) := by decide +kernel
theorem dX7_count_115 : decode cX7_count 115 = .ok (.getfield 23, 3) := by decide +kernel
theorem dX7_count_118 : decode cX7_count 118 = .ok (.getfield 167, 3) := by decide +kernel
theorem dX7_count_121 : decode cX7_count 121 = .ok (.ireturn, 1) := by decide +kernel
theorem dX7_count_122 : decode cX7_count 122 = .ok (.aload_n 0, 1) := by decide +kernel
theorem dX7_count_123 : decode cX7_count 123 = .ok (.getfield 23, 3) := by decide +kernel
theorem dX7_count_126 : decode cX7_count 126 = .ok (.getfield 114, 3) := by decide +kernel
theorem dX7_count_129 : decode cX7_count 129 = .ok (.getfield 217, 3) := by decide +kernel
theorem dX7_count_132 : decode cX7_count 132 = .ok (.ireturn, 1) := by decide +kernel
theorem dX7_count_133 : decode cX7_count 133 = .ok (.aload_n 0, 1) := by decide +kernel
theorem dX7_count_134 : decode cX7_count 134 = .ok (.getfield 58, 3) := by decide +kernel
theorem dX7_count_137 : decode cX7_count 137 = .ok (.ireturn, 1) := by decide +kernel
theorem dX7_count_138 : decode cX7_count 138 = .ok (.aload_n 0, 1) := by decide +kernel
theorem dX7_count_139 : decode cX7_count 139 = .ok (.getfield 84, 3) := by decide +kernel
theorem dX7_count_142 : decode cX7_count 142 = .ok (.ireturn, 1) := by decide +kernel
theorem dX7_count_143 : decode cX7_count 143 = .ok (.bipush (-102), 2) := by decide +kernel
theorem dX7_count_145 : decode cX7_count 145 = .ok (.ireturn, 1) := by decide +kernel
set_option maxRecDepth 20000 in
theorem ggX7_digest_X7_pin : GoodIn wsX7_digest wsX7_pin := goodIn_r _ [12, 2, 13, 14, 15, 16, 17, 18, 19, 20, 21, 22, 23, 24, 25, 26, 27, 28, 29, 30, 31, 32, 33, 34, 35, 36, 37, 38, 39, 40, 41, 42, 43, 44, 45, 46, 47, 48, 49, 50, 51, 52, 53, 54, 55, 56, 57, 58, 59, 60, 61, 62, 63, 64, 65, 66, 67, 68, 213, 214, 215, 216, 217, 218, 219, 220, 221, 222, 223, 224, 225, 226, 227, 228, 229, 230, 231, 232, 233, 234, 235, 236, 237, 238, 239, 240, 241, 242, 243, 244, 245] (by decide +kernel) (by decide +kernel)
set_option maxRecDepth 20000 in
theorem gX7_digest_X7_pin : GoodIn wsX7_digest (wsV RX7 245 RX7 yX7_pin wsX7_pin) := goodIn_app (goodIn_of _ (by decide +kernel)) ggX7_digest_X7_pin
set_option maxRecDepth 20000 in
theorem ggX7_digest_X7_lane : GoodIn wsX7_digest wsX7_lane := goodIn_r _ [72, 2, 73, 74, 75, 76, 77, 21, 78, 79, 80, 81, 82, 83, 84, 85, 86, 87, 11, 88, 89, 63, 64, 65, 66, 67, 68, 90, 91, 92, 93, 94, 95, 96, 97, 98, 99, 100, 16, 3, 101, 102, 103, 104, 105, 106, 107, 108, 60, 109, 110, 111, 112, 113, 114, 115, 116, 117, 118, 119, 59, 61, 120, 121, 122, 33, 34, 27, 35, 29, 36, 30, 31, 37, 38, 123, 124, 125, 126, 127, 128, 129, 130, 131, 132, 133, 134, 135, 136, 137, 138, 139, 140, 141, 142, 143, 144, 145, 213, 214, 215, 216, 217, 218, 219, 220, 221, 222, 223, 224, 225, 226, 227, 228, 229, 230, 231, 232, 233, 234, 235, 246, 247, 248, 249, 250, 236, 237, 238, 239, 240, 241, 251, 252] (by decide +kernel) (by decide +kernel)
set_option maxRecDepth 20000 in
theorem gX7_digest_X7_lane : GoodIn wsX7_digest (wsV RX7 248 RX7 yX7_lane wsX7_lane) := goodIn_app (goodIn_of _ (by decide +kernel)) ggX7_digest_X7_lane
set_option maxRecDepth 20000 in
theorem ggX7_digest_X7_hasGreen : GoodIn wsX7_digest wsX7_hasGreen := goodIn_r _ [149, 2, 3, 213, 214, 215, 216, 217, 218, 219, 220, 221, 222, 223, 224, 225, 226, 227, 228, 229, 230, 231, 232, 233, 234, 235] (by decide +kernel) (by decide +kernel)
set_option maxRecDepth 20000 in
theorem gX7_digest_X7_hasGreen : GoodIn wsX7_digest (wsV RX7 170 RX7 yX7_hasGreen wsX7_hasGreen) := goodIn_app (goodIn_of _ (by decide +kernel)) ggX7_digest_X7_hasGreen
set_option maxRecDepth 20000 in
theorem ggX7_digest_X7_number : GoodIn wsX7_digest wsX7_number := goodIn_r _ [153, 2, 5, 146, 147, 148, 11, 149, 3, 90, 91, 92, 93, 94, 95, 96, 97, 98, 99, 100, 16, 101, 102, 103, 104, 105, 106, 107, 108, 60, 109, 110, 111, 112, 113, 114, 115, 116, 117, 118, 119, 59, 61, 120, 121, 122, 33, 34, 27, 35, 29, 36, 30, 31, 37, 38, 123, 124, 80, 81, 82, 21, 83, 84, 85, 86, 87, 88, 213, 214, 215, 216, 217, 218, 219, 220, 221, 222, 223, 224, 225, 226, 227, 228, 229, 230, 231, 232, 233, 234, 235, 246, 247, 248, 249, 250, 236, 237, 238, 239, 240, 241] (by decide +kernel) (by decide +kernel)
set_option maxRecDepth 20000 in
theorem gX7_digest_X7_number : GoodIn wsX7_digest (wsV RX7 251 RX7 yX7_number wsX7_number) := goodIn_app (goodIn_of _ (by decide +kernel)) ggX7_digest_X7_number
set_option maxRecDepth 20000 in
theorem ggX7_digest_X7_wins : GoodIn wsX7_digest wsX7_wins := goodIn_r _ [157, 158, 2, 15, 146, 147, 148, 11, 149, 3, 95, 96, 97, 98, 99, 100, 16, 101, 102, 103, 104, 105, 106, 107, 108, 60, 109, 110, 111, 112, 113, 114, 115, 116, 117, 118, 119, 59, 61, 120, 121, 122, 33, 34, 27, 35, 29, 36, 30, 31, 37, 38, 123, 124, 246, 247, 248, 249, 250, 213, 214, 215, 216, 217, 218, 219, 220, 221, 222, 223, 224, 225, 226, 227, 228, 229, 230, 231, 232, 233, 234, 235, 236, 237, 238, 239, 240, 241] (by decide +kernel) (by decide +kernel)
set_option maxRecDepth 20000 in
theorem gX7_digest_X7_wins : GoodIn wsX7_digest (wsV RX7 254 RX7 yX7_wins wsX7_wins) := goodIn_app (goodIn_of _ (by decide +kernel)) ggX7_digest_X7_wins
set_option maxRecDepth 20000 in
theorem ggX7_digest_X7_best : GoodIn wsX7_digest wsX7_best := goodIn_r _ [162, 16, 2, 15, 163, 164, 146, 147, 148, 11, 149, 3, 95, 96, 97, 98, 99, 100, 101, 102, 103, 104, 105, 106, 107, 108, 60, 109, 110, 111, 112, 113, 114, 115, 116, 117, 118, 119, 59, 61, 120, 121, 122, 33, 34, 27, 35, 29, 36, 30, 31, 37, 38, 123, 124, 165, 166, 167, 168, 169, 170, 171, 172, 173, 174, 175, 176, 177, 178, 213, 214, 215, 216, 217, 218, 219, 220, 221, 222, 223, 224, 225, 226, 227, 228, 229, 230, 231, 232, 233, 234, 235, 246, 247, 248, 249, 250, 236, 237, 238, 239, 240, 241] (by decide +kernel) (by decide +kernel)
set_option maxRecDepth 20000 in
theorem gX7_digest_X7_best : GoodIn wsX7_digest (wsV RX7 256 RX7 yX7_best wsX7_best) := goodIn_app (goodIn_of _ (by decide +kernel)) ggX7_digest_X7_best
set_option maxRecDepth 20000 in
theorem ggX7_digest_X7_row : GoodIn wsX7_digest wsX7_row := goodIn_r _ [182, 183, 146, 147, 148, 11, 149, 2, 3, 125, 126, 127, 128, 129, 130, 131, 132, 133, 134, 135, 136, 137, 138, 139, 140, 141, 123, 124, 251, 252, 213, 214, 215, 216, 217, 218, 219, 220, 221, 222, 223, 224, 225, 226, 227, 228, 229, 230, 231, 232, 233, 234, 235] (by decide +kernel) (by decide +kernel)
set_option maxRecDepth 20000 in
theorem gX7_digest_X7_row : GoodIn wsX7_digest (wsV RX7 259 RX7 yX7_row wsX7_row) := goodIn_app (goodIn_of _ (by decide +kernel)) ggX7_digest_X7_row
set_option maxRecDepth 20000 in
theorem ggX7_digest_X7_period : GoodIn wsX7_digest wsX7_period := goodIn_r _ [187, 146, 147, 148, 11, 149, 2, 3, 125, 126, 127, 128, 129, 130, 131, 132, 133, 134, 135, 136, 137, 138, 139, 140, 141, 123, 124, 188, 189, 190, 191, 192, 193, 194, 195, 196, 213, 214, 215, 216, 217, 218, 219, 220, 221, 222, 223, 224, 225, 226, 227, 228, 229, 230, 231, 232, 233, 234, 235, 251, 252] (by decide +kernel) (by decide +kernel)
set_option maxRecDepth 20000 in
theorem gX7_digest_X7_period : GoodIn wsX7_digest (wsV RX7 262 RX7 yX7_period wsX7_period) := goodIn_app (goodIn_of _ (by decide +kernel)) ggX7_digest_X7_period
set_option maxRecDepth 20000 in
theorem ggX7_digest_X7_likely : GoodIn wsX7_digest wsX7_likely := goodIn_r _ [200, 201, 2, 15, 146, 147, 148, 11, 149, 3, 95, 96, 97, 98, 99, 100, 16, 101, 102, 103, 104, 105, 106, 107, 108, 60, 109, 110, 111, 112, 113, 114, 115, 116, 117, 118, 119, 59, 61, 120, 121, 122, 33, 34, 27, 35, 29, 36, 30, 31, 37, 38, 123, 124, 246, 247, 248, 249, 250, 213, 214, 215, 216, 217, 218, 219, 220, 221, 222, 223, 224, 225, 226, 227, 228, 229, 230, 231, 232, 233, 234, 235, 236, 237, 238, 239, 240, 241] (by decide +kernel) (by decide +kernel)
set_option maxRecDepth 20000 in
theorem gX7_digest_X7_likely : GoodIn wsX7_digest (wsV RX7 265 RX7 yX7_likely wsX7_likely) := goodIn_app (goodIn_of _ (by decide +kernel)) ggX7_digest_X7_likely
set_option maxRecDepth 20000 in
theorem ggX7_digest_X7_count : GoodIn wsX7_digest wsX7_count := goodIn_r _ [205, 2, 3, 5, 15, 130, 101, 16, 206, 17, 207, 6, 208, 89, 63, 64, 65, 66, 67, 68, 209, 210, 211, 27, 212, 29, 36, 213, 214, 215, 216, 217, 218, 219, 220, 221, 222, 223, 224, 225, 226, 227, 228, 229, 230, 231, 232, 233, 234, 235, 242, 243, 244, 245, 236, 237, 238, 239, 240, 241] (by decide +kernel) (by decide +kernel)
set_option maxRecDepth 20000 in
theorem gX7_digest_X7_count : GoodIn wsX7_digest (wsV RX7 267 RX7 yX7_count wsX7_count) := goodIn_app (goodIn_of _ (by decide +kernel)) ggX7_digest_X7_count
theorem dX7_digest_0 : decode cX7_digest 0 = .ok (.ldc2_w 241, 3) := by decide +kernel
theorem dX7_digest_3 : decode cX7_digest 3 = .ok (.lstore_n 1, 1) := by decide +kernel
theorem dX7_digest_4 : decode cX7_digest 4 = .ok (.iconst 0, 1) := by decide +kernel
theorem dX7_digest_5 : decode cX7_digest 5 = .ok (.istore_n 3, 1) := by decide +kernel
theorem dX7_digest_6 : decode cX7_digest 6 = .ok (.iload_n 3, 1) := by decide +kernel
theorem dX7_digest_7 : decode cX7_digest 7 = .ok (.aload_n 0, 1) := by decide +kernel
theorem dX7_digest_8 : decode cX7_digest 8 = .ok (.getfield 23, 3) := by decide +kernel
theorem dX7_digest_11 : decode cX7_digest 11 = .ok (.getfield 90, 3) := by decide +kernel
theorem dX7_digest_14 : decode cX7_digest 14 = .ok (.if_icmp .ge 39, 3) := by decide +kernel
theorem dX7_digest_17 : decode cX7_digest 17 = .ok (.iconst 0, 1) := by decide +kernel
theorem dX7_digest_18 : decode cX7_digest 18 = .ok (.istore 4, 2) := by decide +kernel
theorem dX7_digest_20 : decode cX7_digest 20 = .ok (.iload 4, 2) := by decide +kernel
theorem dX7_digest_22 : decode cX7_digest 22 = .ok (.iconst 5, 1) := by decide +kernel
theorem dX7_digest_23 : decode cX7_digest 23 = .ok (.if_icmp .gt 24, 3) := by decide +kernel
theorem dX7_digest_26 : decode cX7_digest 26 = .ok (.ldc2_w 243, 3) := by decide +kernel
theorem dX7_digest_29 : decode cX7_digest 29 = .ok (.lload_n 1, 1) := by decide +kernel
theorem dX7_digest_30 : decode cX7_digest 30 = .ok (.lmul, 1) := by decide +kernel
theorem dX7_digest_31 : decode cX7_digest 31 = .ok (.aload_n 0, 1) := by decide +kernel
theorem dX7_digest_32 : decode cX7_digest 32 = .ok (.iload_n 3, 1) := by decide +kernel
theorem dX7_digest_33 : decode cX7_digest 33 = .ok (.iload 4, 2) := by decide +kernel
theorem dX7_digest_35 : decode cX7_digest 35 = .ok (.invokevirtual 245, 3) := by decide +kernel
theorem dX7_digest_38 : decode cX7_digest 38 = .ok (.i2l, 1) := by decide +kernel
theorem dX7_digest_39 : decode cX7_digest 39 = .ok (.ladd, 1) := by decide +kernel
theorem dX7_digest_40 : decode cX7_digest 40 = .ok (.lstore_n 1, 1) := by decide +kernel
theorem dX7_digest_41 : decode cX7_digest 41 = .ok (.iinc 4 1, 3) := by decide +kernel
theorem dX7_digest_44 : decode cX7_digest 44 = .ok (.goto (-24), 3) := by decide +kernel
theorem dX7_digest_47 : decode cX7_digest 47 = .ok (.iinc 3 1, 3) := by decide +kernel
theorem dX7_digest_50 : decode cX7_digest 50 = .ok (.goto (-44), 3) := by decide +kernel
theorem dX7_digest_53 : decode cX7_digest 53 = .ok (.iconst 0, 1) := by decide +kernel
theorem dX7_digest_54 : decode cX7_digest 54 = .ok (.istore_n 3, 1) := by decide +kernel
theorem dX7_digest_55 : decode cX7_digest 55 = .ok (.iload_n 3, 1) := by decide +kernel
theorem dX7_digest_56 : decode cX7_digest 56 = .ok (.aload_n 0, 1) := by decide +kernel
theorem dX7_digest_57 : decode cX7_digest 57 = .ok (.getfield 23, 3) := by decide +kernel
theorem dX7_digest_60 : decode cX7_digest 60 = .ok (.getfield 182, 3) := by decide +kernel
theorem dX7_digest_63 : decode cX7_digest 63 = .ok (.if_icmp .ge 39, 3) := by decide +kernel
theorem dX7_digest_66 : decode cX7_digest 66 = .ok (.iconst 0, 1) := by decide +kernel
theorem dX7_digest_67 : decode cX7_digest 67 = .ok (.istore 4, 2) := by decide +kernel
theorem dX7_digest_69 : decode cX7_digest 69 = .ok (.iload 4, 2) := by decide +kernel
theorem dX7_digest_71 : decode cX7_digest 71 = .ok (.iconst 4, 1) := by decide +kernel
theorem dX7_digest_72 : decode cX7_digest 72 = .ok (.if_icmp .gt 24, 3) := by decide +kernel
theorem dX7_digest_75 : decode cX7_digest 75 = .ok (.ldc2_w 243, 3) := by decide +kernel
theorem dX7_digest_78 : decode cX7_digest 78 = .ok (.lload_n 1, 1) := by decide +kernel
theorem dX7_digest_79 : decode cX7_digest 79 = .ok (.lmul, 1) := by decide +kernel
theorem dX7_digest_80 : decode cX7_digest 80 = .ok (.aload_n 0, 1) := by decide +kernel
theorem dX7_digest_81 : decode cX7_digest 81 = .ok (.iload_n 3, 1) := by decide +kernel
theorem dX7_digest_82 : decode cX7_digest 82 = .ok (.iload 4, 2) := by decide +kernel
theorem dX7_digest_84 : decode cX7_digest 84 = .ok (.invokevirtual 248, 3) := by decide +kernel
theorem dX7_digest_87 : decode cX7_digest 87 = .ok (.i2l, 1) := by decide +kernel
theorem dX7_digest_88 : decode cX7_digest 88 = .ok (.ladd, 1) := by decide +kernel
theorem dX7_digest_89 : decode cX7_digest 89 = .ok (.lstore_n 1, 1) := by decide +kernel
theorem dX7_digest_90 : decode cX7_digest 90 = .ok (.iinc 4 1, 3) := by decide +kernel
theorem dX7_digest_93 : decode cX7_digest 93 = .ok (.goto (-24), 3) := by decide +kernel
theorem dX7_digest_96 : decode cX7_digest 96 = .ok (.iinc 3 1, 3) := by decide +kernel
theorem dX7_digest_99 : decode cX7_digest 99 = .ok (.goto (-44), 3) := by decide +kernel
theorem dX7_digest_102 : decode cX7_digest 102 = .ok (.aload_n 0, 1) := by decide +kernel
theorem dX7_digest_103 : decode cX7_digest 103 = .ok (.invokevirtual 170, 3) := by decide +kernel
theorem dX7_digest_106 : decode cX7_digest 106 = .ok (.ifCond .eq 105, 3) := by decide +kernel
theorem dX7_digest_109 : decode cX7_digest 109 = .ok (.ldc2_w 243, 3) := by decide +kernel
theorem dX7_digest_112 : decode cX7_digest 112 = .ok (.lload_n 1, 1) := by decide +kernel
theorem dX7_digest_113 : decode cX7_digest 113 = .ok (.lmul, 1) := by decide +kernel
theorem dX7_digest_114 : decode cX7_digest 114 = .ok (.aload_n 0, 1) := by decide +kernel
theorem dX7_digest_115 : decode cX7_digest 115 = .ok (.invokevirtual 251, 3) := by decide +kernel
theorem dX7_digest_118 : decode cX7_digest 118 = .ok (.i2l, 1) := by decide +kernel
theorem dX7_digest_119 : decode cX7_digest 119 = .ok (.ladd, 1) := by decide +kernel
theorem dX7_digest_120 : decode cX7_digest 120 = .ok (.lstore_n 1, 1) := by decide +kernel
theorem dX7_digest_121 : decode cX7_digest 121 = .ok (.ldc2_w 243, 3) := by decide +kernel
theorem dX7_digest_124 : decode cX7_digest 124 = .ok (.lload_n 1, 1) := by decide +kernel
theorem dX7_digest_125 : decode cX7_digest 125 = .ok (.lmul, 1) := by decide +kernel
theorem dX7_digest_126 : decode cX7_digest 126 = .ok (.aload_n 0, 1) := by decide +kernel
theorem dX7_digest_127 : decode cX7_digest 127 = .ok (.invokevirtual 254, 3) := by decide +kernel
theorem dX7_digest_130 : decode cX7_digest 130 = .ok (.i2l, 1) := by decide +kernel
theorem dX7_digest_131 : decode cX7_digest 131 = .ok (.ladd, 1) := by decide +kernel
theorem dX7_digest_132 : decode cX7_digest 132 = .ok (.lstore_n 1, 1) := by decide +kernel
theorem dX7_digest_133 : decode cX7_digest 133 = .ok (.iconst 0, 1) := by decide +kernel
theorem dX7_digest_134 : decode cX7_digest 134 = .ok (.istore_n 3, 1) := by decide +kernel
theorem dX7_digest_135 : decode cX7_digest 135 = .ok (.iload_n 3, 1) := by decide +kernel
theorem dX7_digest_136 : decode cX7_digest 136 = .ok (.iconst 3, 1) := by decide +kernel
theorem dX7_digest_137 : decode cX7_digest 137 = .ok (.if_icmp .gt 22, 3) := by decide +kernel
theorem dX7_digest_140 : decode cX7_digest 140 = .ok (.ldc2_w 243, 3) := by decide +kernel
theorem dX7_digest_143 : decode cX7_digest 143 = .ok (.lload_n 1, 1) := by decide +kernel
theorem dX7_digest_144 : decode cX7_digest 144 = .ok (.lmul, 1) := by decide +kernel
theorem dX7_digest_145 : decode cX7_digest 145 = .ok (.aload_n 0, 1) := by decide +kernel
theorem dX7_digest_146 : decode cX7_digest 146 = .ok (.iload_n 3, 1) := by decide +kernel
theorem dX7_digest_147 : decode cX7_digest 147 = .ok (.invokevirtual 256, 3) := by decide +kernel
theorem dX7_digest_150 : decode cX7_digest 150 = .ok (.i2l, 1) := by decide +kernel
theorem dX7_digest_151 : decode cX7_digest 151 = .ok (.ladd, 1) := by decide +kernel
theorem dX7_digest_152 : decode cX7_digest 152 = .ok (.lstore_n 1, 1) := by decide +kernel
theorem dX7_digest_153 : decode cX7_digest 153 = .ok (.iinc 3 1, 3) := by decide +kernel
theorem dX7_digest_156 : decode cX7_digest 156 = .ok (.goto (-21), 3) := by decide +kernel
theorem dX7_digest_159 : decode cX7_digest 159 = .ok (.ldc2_w 243, 3) := by decide +kernel
theorem dX7_digest_162 : decode cX7_digest 162 = .ok (.lload_n 1, 1) := by decide +kernel
theorem dX7_digest_163 : decode cX7_digest 163 = .ok (.lmul, 1) := by decide +kernel
theorem dX7_digest_164 : decode cX7_digest 164 = .ok (.aload_n 0, 1) := by decide +kernel
theorem dX7_digest_165 : decode cX7_digest 165 = .ok (.bipush 20, 2) := by decide +kernel
theorem dX7_digest_167 : decode cX7_digest 167 = .ok (.invokevirtual 259, 3) := by decide +kernel
theorem dX7_digest_170 : decode cX7_digest 170 = .ok (.i2l, 1) := by decide +kernel
theorem dX7_digest_171 : decode cX7_digest 171 = .ok (.ladd, 1) := by decide +kernel
theorem dX7_digest_172 : decode cX7_digest 172 = .ok (.lstore_n 1, 1) := by decide +kernel
theorem dX7_digest_173 : decode cX7_digest 173 = .ok (.ldc2_w 243, 3) := by decide +kernel
theorem dX7_digest_176 : decode cX7_digest 176 = .ok (.lload_n 1, 1) := by decide +kernel
theorem dX7_digest_177 : decode cX7_digest 177 = .ok (.lmul, 1) := by decide +kernel
theorem dX7_digest_178 : decode cX7_digest 178 = .ok (.aload_n 0, 1) := by decide +kernel
theorem dX7_digest_179 : decode cX7_digest 179 = .ok (.iconst 0, 1) := by decide +kernel
theorem dX7_digest_180 : decode cX7_digest 180 = .ok (.invokevirtual 262, 3) := by decide +kernel
theorem dX7_digest_183 : decode cX7_digest 183 = .ok (.i2l, 1) := by decide +kernel
theorem dX7_digest_184 : decode cX7_digest 184 = .ok (.ladd, 1) := by decide +kernel
theorem dX7_digest_185 : decode cX7_digest 185 = .ok (.lstore_n 1, 1) := by decide +kernel
theorem dX7_digest_186 : decode cX7_digest 186 = .ok (.ldc2_w 243, 3) := by decide +kernel
theorem dX7_digest_189 : decode cX7_digest 189 = .ok (.lload_n 1, 1) := by decide +kernel
theorem dX7_digest_190 : decode cX7_digest 190 = .ok (.lmul, 1) := by decide +kernel
theorem dX7_digest_191 : decode cX7_digest 191 = .ok (.aload_n 0, 1) := by decide +kernel
theorem dX7_digest_192 : decode cX7_digest 192 = .ok (.iconst 1, 1) := by decide +kernel
theorem dX7_digest_193 : decode cX7_digest 193 = .ok (.invokevirtual 262, 3) := by decide +kernel
theorem dX7_digest_196 : decode cX7_digest 196 = .ok (.i2l, 1) := by decide +kernel
theorem dX7_digest_197 : decode cX7_digest 197 = .ok (.ladd, 1) := by decide +kernel
theorem dX7_digest_198 : decode cX7_digest 198 = .ok (.lstore_n 1, 1) := by decide +kernel
theorem dX7_digest_199 : decode cX7_digest 199 = .ok (.ldc2_w 243, 3) := by decide +kernel
theorem dX7_digest_202 : decode cX7_digest 202 = .ok (.lload_n 1, 1) := by decide +kernel
theorem dX7_digest_203 : decode cX7_digest 203 = .ok (.lmul, 1) := by decide +kernel
theorem dX7_digest_204 : decode cX7_digest 204 = .ok (.aload_n 0, 1) := by decide +kernel
theorem dX7_digest_205 : decode cX7_digest 205 = .ok (.invokevirtual 265, 3) := by decide +kernel
theorem dX7_digest_208 : decode cX7_digest 208 = .ok (.i2l, 1) := by decide +kernel
theorem dX7_digest_209 : decode cX7_digest 209 = .ok (.ladd, 1) := by decide +kernel
theorem dX7_digest_210 : decode cX7_digest 210 = .ok (.lstore_n 1, 1) := by decide +kernel
theorem dX7_digest_211 : decode cX7_digest 211 = .ok (.iconst 0, 1) := by decide +kernel
theorem dX7_digest_212 : decode cX7_digest 212 = .ok (.istore_n 3, 1) := by decide +kernel
theorem dX7_digest_213 : decode cX7_digest 213 = .ok (.iload_n 3, 1) := by decide +kernel
theorem dX7_digest_214 : decode cX7_digest 214 = .ok (.aload_n 0, 1) := by decide +kernel
theorem dX7_digest_215 : decode cX7_digest 215 = .ok (.getfield 58, 3) := by decide +kernel
theorem dX7_digest_218 : decode cX7_digest 218 = .ok (.if_icmp .ge 23, 3) := by decide +kernel
theorem dX7_digest_221 : decode cX7_digest 221 = .ok (.ldc2_w 243, 3) := by decide +kernel
theorem dX7_digest_224 : decode cX7_digest 224 = .ok (.lload_n 1, 1) := by decide +kernel
theorem dX7_digest_225 : decode cX7_digest 225 = .ok (.lmul, 1) := by decide +kernel
theorem dX7_digest_226 : decode cX7_digest 226 = .ok (.aload_n 0, 1) := by decide +kernel
theorem dX7_digest_227 : decode cX7_digest 227 = .ok (.getfield 9, 3) := by decide +kernel
theorem dX7_digest_230 : decode cX7_digest 230 = .ok (.iload_n 3, 1) := by decide +kernel
theorem dX7_digest_231 : decode cX7_digest 231 = .ok (.caload, 1) := by decide +kernel
theorem dX7_digest_232 : decode cX7_digest 232 = .ok (.i2l, 1) := by decide +kernel
theorem dX7_digest_233 : decode cX7_digest 233 = .ok (.ladd, 1) := by decide +kernel
theorem dX7_digest_234 : decode cX7_digest 234 = .ok (.lstore_n 1, 1) := by decide +kernel
theorem dX7_digest_235 : decode cX7_digest 235 = .ok (.iinc 3 1, 3) := by decide +kernel
theorem dX7_digest_238 : decode cX7_digest 238 = .ok (.goto (-25), 3) := by decide +kernel
theorem dX7_digest_241 : decode cX7_digest 241 = .ok (.iconst 0, 1) := by decide +kernel
theorem dX7_digest_242 : decode cX7_digest 242 = .ok (.istore_n 3, 1) := by decide +kernel
theorem dX7_digest_243 : decode cX7_digest 243 = .ok (.iload_n 3, 1) := by decide +kernel
theorem dX7_digest_244 : decode cX7_digest 244 = .ok (.bipush 9, 2) := by decide +kernel
theorem dX7_digest_246 : decode cX7_digest 246 = .ok (.if_icmp .gt 22, 3) := by decide +kernel
theorem dX7_digest_249 : decode cX7_digest 249 = .ok (.ldc2_w 243, 3) := by decide +kernel
theorem dX7_digest_252 : decode cX7_digest 252 = .ok (.lload_n 1, 1) := by decide +kernel
theorem dX7_digest_253 : decode cX7_digest 253 = .ok (.lmul, 1) := by decide +kernel
theorem dX7_digest_254 : decode cX7_digest 254 = .ok (.aload_n 0, 1) := by decide +kernel
theorem dX7_digest_255 : decode cX7_digest 255 = .ok (.iload_n 3, 1) := by decide +kernel
theorem dX7_digest_256 : decode cX7_digest 256 = .ok (.invokevirtual 267, 3) := by decide +kernel
theorem dX7_digest_259 : decode cX7_digest 259 = .ok (.i2l, 1) := by decide +kernel
theorem dX7_digest_260 : decode cX7_digest 260 = .ok (.ladd, 1) := by decide +kernel
theorem dX7_digest_261 : decode cX7_digest 261 = .ok (.lstore_n 1, 1) := by decide +kernel
theorem dX7_digest_262 : decode cX7_digest 262 = .ok (.iinc 3 1, 3) := by decide +kernel
theorem dX7_digest_265 : decode cX7_digest 265 = .ok (.goto (-22), 3) := by decide +kernel
theorem dX7_digest_268 : decode cX7_digest 268 = .ok (.lload_n 1, 1) := by decide +kernel
theorem dX7_digest_269 : decode cX7_digest 269 = .ok (.lreturn, 1) := by decide +kernel
set_option maxRecDepth 20000 in
theorem ggX7_readPage_X3_begin : GoodIn wsX7_readPage wsX3_begin := goodIn_r _ [8, 9, 10, 11, 12, 13, 14, 15, 16, 17, 18, 19, 20, 21, 158, 159, 160, 161, 162, 163, 164, 165, 166, 167, 168, 169, 170] (by decide +kernel) (by decide +kernel)
set_option maxRecDepth 20000 in
theorem gX7_readPage_X3_begin : GoodIn wsX7_readPage (wsV RX7 270 RX3 yX3_begin wsX3_begin) := goodIn_app (goodIn_of _ (by decide +kernel)) ggX7_readPage_X3_begin
set_option maxRecDepth 20000 in
theorem ggX7_readPage_X3_takes : GoodIn wsX7_readPage wsX3_takes := goodIn_r _ [25, 12, 26, 27, 28, 7, 29, 9, 30, 31, 32, 16, 33, 18, 21, 34, 35, 36, 37, 13, 14, 15, 17, 19, 20, 38, 39, 40, 41, 42, 43, 44, 45, 46, 47, 48, 49, 50, 51, 52, 53, 54, 55, 56, 57, 58, 59, 60, 61, 62, 63, 64, 65, 66, 67, 68, 69, 70, 71, 72, 73, 74, 75, 76, 77, 78, 79, 80, 81, 82, 83, 84, 85, 86, 87, 88, 89, 90, 91, 92, 93, 94, 95, 96, 97, 98, 99, 100, 101, 102, 103, 104, 105, 106, 107, 108, 109, 110, 111, 112, 113, 114, 115, 116, 117, 118, 119, 120, 121, 122, 123, 124, 125, 126, 127, 128, 129, 130, 131, 132, 133, 134, 135, 136, 137, 138, 139, 140, 141, 142, 143, 144, 145, 158, 159, 160, 161, 162, 163, 164, 165, 166, 167, 168, 169, 170] (by decide +kernel) (by decide +kernel)
set_option maxRecDepth 20000 in
theorem gX7_readPage_X3_takes : GoodIn wsX7_readPage (wsV RX7 273 RX3 yX3_takes wsX3_takes) := goodIn_app (goodIn_of _ (by decide +kernel)) ggX7_readPage_X3_takes
theorem dX7_readPage_0 : decode cX7_readPage 0 = .ok (.aload_n 0, 1) := by decide +kernel
theorem dX7_readPage_1 : decode cX7_readPage 1 = .ok (.getfield 16, 3) := by decide +kernel
theorem dX7_readPage_4 : decode cX7_readPage 4 = .ok (.invokevirtual 270, 3) := by decide +kernel
theorem dX7_readPage_7 : decode cX7_readPage 7 = .ok (.iconst 0, 1) := by decide +kernel
theorem dX7_readPage_8 : decode cX7_readPage 8 = .ok (.istore_n 1, 1) := by decide +kernel
theorem dX7_readPage_9 : decode cX7_readPage 9 = .ok (.iload_n 1, 1) := by decide +kernel
theorem dX7_readPage_10 : decode cX7_readPage 10 = .ok (.aload_n 0, 1) := by decide +kernel
theorem dX7_readPage_11 : decode cX7_readPage 11 = .ok (.getfield 58, 3) := by decide +kernel
theorem dX7_readPage_14 : decode cX7_readPage 14 = .ok (.if_icmp .ge 27, 3) := by decide +kernel
theorem dX7_readPage_17 : decode cX7_readPage 17 = .ok (.aload_n 0, 1) := by decide +kernel
theorem dX7_readPage_18 : decode cX7_readPage 18 = .ok (.getfield 16, 3) := by decide +kernel
theorem dX7_readPage_21 : decode cX7_readPage 21 = .ok (.aload_n 0, 1) := by decide +kernel
theorem dX7_readPage_22 : decode cX7_readPage 22 = .ok (.getfield 9, 3) := by decide +kernel
theorem dX7_readPage_25 : decode cX7_readPage 25 = .ok (.iload_n 1, 1) := by decide +kernel
theorem dX7_readPage_26 : decode cX7_readPage 26 = .ok (.caload, 1) := by decide +kernel
theorem dX7_readPage_27 : decode cX7_readPage 27 = .ok (.invokevirtual 273, 3) := by decide +kernel
theorem dX7_readPage_30 : decode cX7_readPage 30 = .ok (.ifCond .ne 5, 3) := by decide +kernel
theorem dX7_readPage_33 : decode cX7_readPage 33 = .ok (.iload_n 1, 1) := by decide +kernel
theorem dX7_readPage_34 : decode cX7_readPage 34 = .ok (.ireturn, 1) := by decide +kernel
theorem dX7_readPage_35 : decode cX7_readPage 35 = .ok (.iinc 1 1, 3) := by decide +kernel
theorem dX7_readPage_38 : decode cX7_readPage 38 = .ok (.goto (-29), 3) := by decide +kernel
theorem dX7_readPage_41 : decode cX7_readPage 41 = .ok (.aload_n 0, 1) := by decide +kernel
theorem dX7_readPage_42 : decode cX7_readPage 42 = .ok (.getfield 58, 3) := by decide +kernel
theorem dX7_readPage_45 : decode cX7_readPage 45 = .ok (.ireturn, 1) := by decide +kernel
theorem dX7_hasGreen_0 : decode cX7_hasGreen 0 = .ok (.aload_n 0, 1) := by decide +kernel
theorem dX7_hasGreen_1 : decode cX7_hasGreen 1 = .ok (.getfield 23, 3) := by decide +kernel
theorem dX7_hasGreen_4 : decode cX7_hasGreen 4 = .ok (.getfield 90, 3) := by decide +kernel
theorem dX7_hasGreen_7 : decode cX7_hasGreen 7 = .ok (.ifCond .le 7, 3) := by decide +kernel
theorem dX7_hasGreen_10 : decode cX7_hasGreen 10 = .ok (.iconst 1, 1) := by decide +kernel
theorem dX7_hasGreen_11 : decode cX7_hasGreen 11 = .ok (.goto 4, 3) := by decide +kernel
theorem dX7_hasGreen_14 : decode cX7_hasGreen 14 = .ok (.iconst 0, 1) := by decide +kernel
theorem dX7_hasGreen_15 : decode cX7_hasGreen 15 = .ok (.ireturn, 1) := by decide +kernel
set_option maxRecDepth 20000 in
theorem ggX7_numberOfLane_X7_outlookNow : GoodIn wsX7_numberOfLane wsX7_outlookNow := goodIn_r _ [7, 8, 9, 10, 2, 11, 12, 13, 14, 15, 16, 17, 18, 19, 20, 21, 22, 23, 24, 25, 26, 27, 28, 29, 30, 31, 32, 33, 34, 35, 36, 37, 38, 39, 40, 41, 42, 43, 44, 45, 46, 47, 6, 48, 64, 65, 66, 67, 68, 69, 70, 71, 72, 73, 74, 75, 76, 77, 78, 79, 80, 81, 82, 83, 84, 85, 86, 87, 88, 89, 90, 91, 92, 59, 60, 61, 62, 63] (by decide +kernel) (by decide +kernel)
set_option maxRecDepth 20000 in
theorem gX7_numberOfLane_X7_outlookNow : GoodIn wsX7_numberOfLane (wsV RX7 185 RX7 yX7_outlookNow wsX7_outlookNow) := goodIn_app (goodIn_of _ (by decide +kernel)) ggX7_numberOfLane_X7_outlookNow
set_option maxRecDepth 20000 in
theorem ggX7_numberOfLane_X1_standingIn : GoodIn wsX7_numberOfLane wsX1_standingIn := goodIn_r _ [53, 54, 55, 56, 57, 6, 58, 76, 77, 78, 79, 80, 81, 82, 83, 84, 85, 86] (by decide +kernel) (by decide +kernel)
set_option maxRecDepth 20000 in
theorem gX7_numberOfLane_X1_standingIn : GoodIn wsX7_numberOfLane (wsV RX7 143 RX1 yX1_standingIn wsX1_standingIn) := goodIn_app (goodIn_of _ (by decide +kernel)) ggX7_numberOfLane_X1_standingIn
theorem dX7_numberOfLane_0 : decode cX7_numberOfLane 0 = .ok (.aload_n 0, 1) := by decide +kernel
theorem dX7_numberOfLane_1 : decode cX7_numberOfLane 1 = .ok (.invokevirtual 185, 3) := by decide +kernel
theorem dX7_numberOfLane_4 : decode cX7_numberOfLane 4 = .ok (.getfield 277, 3) := by decide +kernel
theorem dX7_numberOfLane_7 : decode cX7_numberOfLane 7 = .ok (.aload_n 0, 1) := by decide +kernel
theorem dX7_numberOfLane_8 : decode cX7_numberOfLane 8 = .ok (.getfield 23, 3) := by decide +kernel
theorem dX7_numberOfLane_11 : decode cX7_numberOfLane 11 = .ok (.iload_n 1, 1) := by decide +kernel
theorem dX7_numberOfLane_12 : decode cX7_numberOfLane 12 = .ok (.invokevirtual 143, 3) := by decide +kernel
theorem dX7_numberOfLane_15 : decode cX7_numberOfLane 15 = .ok (.iaload, 1) := by decide +kernel
theorem dX7_numberOfLane_16 : decode cX7_numberOfLane 16 = .ok (.ireturn, 1) := by decide +kernel
set_option maxRecDepth 20000 in
theorem ggX7_strikesChanged_X6_listFor : GoodIn wsX7_strikesChanged wsX6_listFor := goodIn_r _ [8, 9, 10, 11, 12, 13, 14, 15, 16, 17, 18, 19, 20, 21, 22, 23, 24, 25, 26, 27, 28, 7, 29, 30, 31, 32, 33, 34, 35, 36, 37, 38, 39, 40, 41, 54, 55, 56, 57, 58, 59, 60, 61, 62, 63, 64, 65, 66, 67, 68, 69, 70] (by decide +kernel) (by decide +kernel)
set_option maxRecDepth 20000 in
theorem gX7_strikesChanged_X6_listFor : GoodIn wsX7_strikesChanged (wsV RX7 278 RX6 yX6_listFor wsX6_listFor) := goodIn_app (goodIn_of _ (by decide +kernel)) ggX7_strikesChanged_X6_listFor
theorem dX7_strikesChanged_0 : decode cX7_strikesChanged 0 = .ok (.aload_n 0, 1) := by decide +kernel
theorem dX7_strikesChanged_1 : decode cX7_strikesChanged 1 = .ok (.getfield 33, 3) := by decide +kernel
theorem dX7_strikesChanged_4 : decode cX7_strikesChanged 4 = .ok (.aload_n 0, 1) := by decide +kernel
theorem dX7_strikesChanged_5 : decode cX7_strikesChanged 5 = .ok (.getfield 23, 3) := by decide +kernel
theorem dX7_strikesChanged_8 : decode cX7_strikesChanged 8 = .ok (.invokevirtual 278, 3) := by decide +kernel
theorem dX7_strikesChanged_11 : decode cX7_strikesChanged 11 = .ok (.aload_n 0, 1) := by decide +kernel
theorem dX7_strikesChanged_12 : decode cX7_strikesChanged 12 = .ok (.iconst 1, 1) := by decide +kernel
theorem dX7_strikesChanged_13 : decode cX7_strikesChanged 13 = .ok (.putfield 179, 3) := by decide +kernel
theorem dX7_strikesChanged_16 : decode cX7_strikesChanged 16 = .ok (.return_, 1) := by decide +kernel
set_option maxRecDepth 20000 in
theorem ggX7_outlookNow_X2_fill : GoodIn wsX7_outlookNow wsX2_fill := goodIn_r _ [11, 12, 13, 14, 15, 16, 17, 18, 10, 19, 20, 21, 22, 23, 24, 25, 26, 27, 28, 29, 30, 31, 32, 33, 34, 35, 36, 37, 38, 39, 40, 41, 42, 43, 67, 68, 69, 70, 71, 72, 73, 74, 75, 76, 77] (by decide +kernel) (by decide +kernel)
set_option maxRecDepth 20000 in
theorem gX7_outlookNow_X2_fill : GoodIn wsX7_outlookNow (wsV RX7 281 RX2 yX2_fill wsX2_fill) := goodIn_app (goodIn_of _ (by decide +kernel)) ggX7_outlookNow_X2_fill
theorem dX7_outlookNow_0 : decode cX7_outlookNow 0 = .ok (.aload_n 0, 1) := by decide +kernel
theorem dX7_outlookNow_1 : decode cX7_outlookNow 1 = .ok (.getfield 179, 3) := by decide +kernel
theorem dX7_outlookNow_4 : decode cX7_outlookNow 4 = .ok (.ifCond .eq 33, 3) := by decide +kernel
theorem dX7_outlookNow_7 : decode cX7_outlookNow 7 = .ok (.aload_n 0, 1) := by decide +kernel
theorem dX7_outlookNow_8 : decode cX7_outlookNow 8 = .ok (.getfield 40, 3) := by decide +kernel
theorem dX7_outlookNow_11 : decode cX7_outlookNow 11 = .ok (.aload_n 0, 1) := by decide +kernel
theorem dX7_outlookNow_12 : decode cX7_outlookNow 12 = .ok (.getfield 33, 3) := by decide +kernel
theorem dX7_outlookNow_15 : decode cX7_outlookNow 15 = .ok (.aload_n 0, 1) := by decide +kernel
theorem dX7_outlookNow_16 : decode cX7_outlookNow 16 = .ok (.getfield 23, 3) := by decide +kernel
theorem dX7_outlookNow_19 : decode cX7_outlookNow 19 = .ok (.getfield 90, 3) := by decide +kernel
theorem dX7_outlookNow_22 : decode cX7_outlookNow 22 = .ok (.aload_n 0, 1) := by decide +kernel
theorem dX7_outlookNow_23 : decode cX7_outlookNow 23 = .ok (.getfield 23, 3) := by decide +kernel
theorem dX7_outlookNow_26 : decode cX7_outlookNow 26 = .ok (.getfield 176, 3) := by decide +kernel
theorem dX7_outlookNow_29 : decode cX7_outlookNow 29 = .ok (.invokevirtual 281, 3) := by decide +kernel
theorem dX7_outlookNow_32 : decode cX7_outlookNow 32 = .ok (.aload_n 0, 1) := by decide +kernel
theorem dX7_outlookNow_33 : decode cX7_outlookNow 33 = .ok (.iconst 0, 1) := by decide +kernel
theorem dX7_outlookNow_34 : decode cX7_outlookNow 34 = .ok (.putfield 179, 3) := by decide +kernel
theorem dX7_outlookNow_37 : decode cX7_outlookNow 37 = .ok (.aload_n 0, 1) := by decide +kernel
theorem dX7_outlookNow_38 : decode cX7_outlookNow 38 = .ok (.getfield 40, 3) := by decide +kernel
theorem dX7_outlookNow_41 : decode cX7_outlookNow 41 = .ok (.areturn, 1) := by decide +kernel
set_option maxRecDepth 20000 in
theorem ggX7_rowsNow_X4_fillFor : GoodIn wsX7_rowsNow wsX4_fillFor := goodIn_r _ [8, 9, 10, 11, 12, 13, 7, 14, 15, 16, 17, 41, 42] (by decide +kernel) (by decide +kernel)
set_option maxRecDepth 20000 in
theorem gX7_rowsNow_X4_fillFor : GoodIn wsX7_rowsNow (wsV RX7 285 RX4 yX4_fillFor wsX4_fillFor) := goodIn_app (goodIn_of _ (by decide +kernel)) ggX7_rowsNow_X4_fillFor
theorem dX7_rowsNow_0 : decode cX7_rowsNow 0 = .ok (.aload_n 0, 1) := by decide +kernel
theorem dX7_rowsNow_1 : decode cX7_rowsNow 1 = .ok (.getfield 47, 3) := by decide +kernel
theorem dX7_rowsNow_4 : decode cX7_rowsNow 4 = .ok (.aload_n 0, 1) := by decide +kernel
theorem dX7_rowsNow_5 : decode cX7_rowsNow 5 = .ok (.getfield 23, 3) := by decide +kernel
theorem dX7_rowsNow_8 : decode cX7_rowsNow 8 = .ok (.getfield 173, 3) := by decide +kernel
theorem dX7_rowsNow_11 : decode cX7_rowsNow 11 = .ok (.invokevirtual 285, 3) := by decide +kernel
theorem dX7_rowsNow_14 : decode cX7_rowsNow 14 = .ok (.aload_n 0, 1) := by decide +kernel
theorem dX7_rowsNow_15 : decode cX7_rowsNow 15 = .ok (.getfield 47, 3) := by decide +kernel
theorem dX7_rowsNow_18 : decode cX7_rowsNow 18 = .ok (.areturn, 1) := by decide +kernel
theorem dX7_isKind_0 : decode cX7_isKind 0 = .ok (.iload_n 0, 1) := by decide +kernel
theorem dX7_isKind_1 : decode cX7_isKind 1 = .ok (.ifCond .lt 12, 3) := by decide +kernel
theorem dX7_isKind_4 : decode cX7_isKind 4 = .ok (.iload_n 0, 1) := by decide +kernel
theorem dX7_isKind_5 : decode cX7_isKind 5 = .ok (.iconst 5, 1) := by decide +kernel
theorem dX7_isKind_6 : decode cX7_isKind 6 = .ok (.if_icmp .ge 7, 3) := by decide +kernel
theorem dX7_isKind_9 : decode cX7_isKind 9 = .ok (.iconst 1, 1) := by decide +kernel
theorem dX7_isKind_10 : decode cX7_isKind 10 = .ok (.goto 4, 3) := by decide +kernel
theorem dX7_isKind_13 : decode cX7_isKind 13 = .ok (.iconst 0, 1) := by decide +kernel
theorem dX7_isKind_14 : decode cX7_isKind 14 = .ok (.ireturn, 1) := by decide +kernel
theorem dX7_isBall_0 : decode cX7_isBall 0 = .ok (.iload_n 0, 1) := by decide +kernel
theorem dX7_isBall_1 : decode cX7_isBall 1 = .ok (.iconst 1, 1) := by decide +kernel
theorem dX7_isBall_2 : decode cX7_isBall 2 = .ok (.if_icmp .lt 12, 3) := by decide +kernel
theorem dX7_isBall_5 : decode cX7_isBall 5 = .ok (.iload_n 0, 1) := by decide +kernel
theorem dX7_isBall_6 : decode cX7_isBall 6 = .ok (.iconst 3, 1) := by decide +kernel
theorem dX7_isBall_7 : decode cX7_isBall 7 = .ok (.if_icmp .gt 7, 3) := by decide +kernel
theorem dX7_isBall_10 : decode cX7_isBall 10 = .ok (.iconst 1, 1) := by decide +kernel
theorem dX7_isBall_11 : decode cX7_isBall 11 = .ok (.goto 4, 3) := by decide +kernel
theorem dX7_isBall_14 : decode cX7_isBall 14 = .ok (.iconst 0, 1) := by decide +kernel
theorem dX7_isBall_15 : decode cX7_isBall 15 = .ok (.ireturn, 1) := by decide +kernel
theorem dX7_isAlso_0 : decode cX7_isAlso 0 = .ok (.iload_n 1, 1) := by decide +kernel
theorem dX7_isAlso_1 : decode cX7_isAlso 1 = .ok (.ifCond .eq 18, 3) := by decide +kernel
theorem dX7_isAlso_4 : decode cX7_isAlso 4 = .ok (.iload_n 0, 1) := by decide +kernel
theorem dX7_isAlso_5 : decode cX7_isAlso 5 = .ok (.iload_n 1, 1) := by decide +kernel
theorem dX7_isAlso_6 : decode cX7_isAlso 6 = .ok (.if_icmp .eq 13, 3) := by decide +kernel
theorem dX7_isAlso_9 : decode cX7_isAlso 9 = .ok (.iload_n 0, 1) := by decide +kernel
theorem dX7_isAlso_10 : decode cX7_isAlso 10 = .ok (.iconst 4, 1) := by decide +kernel
theorem dX7_isAlso_11 : decode cX7_isAlso 11 = .ok (.if_icmp .ne 12, 3) := by decide +kernel
theorem dX7_isAlso_14 : decode cX7_isAlso 14 = .ok (.iload_n 1, 1) := by decide +kernel
theorem dX7_isAlso_15 : decode cX7_isAlso 15 = .ok (.iconst 1, 1) := by decide +kernel
theorem dX7_isAlso_16 : decode cX7_isAlso 16 = .ok (.if_icmp .ne 7, 3) := by decide +kernel
theorem dX7_isAlso_19 : decode cX7_isAlso 19 = .ok (.iconst 1, 1) := by decide +kernel
theorem dX7_isAlso_20 : decode cX7_isAlso 20 = .ok (.goto 4, 3) := by decide +kernel
theorem dX7_isAlso_23 : decode cX7_isAlso 23 = .ok (.iconst 0, 1) := by decide +kernel
theorem dX7_isAlso_24 : decode cX7_isAlso 24 = .ok (.ireturn, 1) := by decide +kernel
theorem dX7_bits_0 : decode cX7_bits 0 = .ok (.iconst 1, 1) := by decide +kernel
theorem dX7_bits_1 : decode cX7_bits 1 = .ok (.iload_n 1, 1) := by decide +kernel
theorem dX7_bits_2 : decode cX7_bits 2 = .ok (.ishl, 1) := by decide +kernel
theorem dX7_bits_3 : decode cX7_bits 3 = .ok (.iconst 1, 1) := by decide +kernel
theorem dX7_bits_4 : decode cX7_bits 4 = .ok (.isub, 1) := by decide +kernel
theorem dX7_bits_5 : decode cX7_bits 5 = .ok (.iload_n 0, 1) := by decide +kernel
theorem dX7_bits_6 : decode cX7_bits 6 = .ok (.ishl, 1) := by decide +kernel
theorem dX7_bits_7 : decode cX7_bits 7 = .ok (.ireturn, 1) := by decide +kernel
theorem dX7_leastNotIn_0 : decode cX7_leastNotIn 0 = .ok (.iconst 0, 1) := by decide +kernel
theorem dX7_leastNotIn_1 : decode cX7_leastNotIn 1 = .ok (.istore_n 2, 1) := by decide +kernel
theorem dX7_leastNotIn_2 : decode cX7_leastNotIn 2 = .ok (.iload_n 2, 1) := by decide +kernel
theorem dX7_leastNotIn_3 : decode cX7_leastNotIn 3 = .ok (.bipush 63, 2) := by decide +kernel
theorem dX7_leastNotIn_5 : decode cX7_leastNotIn 5 = .ok (.if_icmp .ge 19, 3) := by decide +kernel
theorem dX7_leastNotIn_8 : decode cX7_leastNotIn 8 = .ok (.lload_n 0, 1) := by decide +kernel
theorem dX7_leastNotIn_9 : decode cX7_leastNotIn 9 = .ok (.iload_n 2, 1) := by decide +kernel
theorem dX7_leastNotIn_10 : decode cX7_leastNotIn 10 = .ok (.lshr, 1) := by decide +kernel
theorem dX7_leastNotIn_11 : decode cX7_leastNotIn 11 = .ok (.lconst 1, 1) := by decide +kernel
theorem dX7_leastNotIn_12 : decode cX7_leastNotIn 12 = .ok (.land, 1) := by decide +kernel
theorem dX7_leastNotIn_13 : decode cX7_leastNotIn 13 = .ok (.lconst 1, 1) := by decide +kernel
theorem dX7_leastNotIn_14 : decode cX7_leastNotIn 14 = .ok (.lcmp, 1) := by decide +kernel
theorem dX7_leastNotIn_15 : decode cX7_leastNotIn 15 = .ok (.ifCond .ne 9, 3) := by decide +kernel
theorem dX7_leastNotIn_18 : decode cX7_leastNotIn 18 = .ok (.iinc 2 1, 3) := by decide +kernel
theorem dX7_leastNotIn_21 : decode cX7_leastNotIn 21 = .ok (.goto (-19), 3) := by decide +kernel
theorem dX7_leastNotIn_24 : decode cX7_leastNotIn 24 = .ok (.iload_n 2, 1) := by decide +kernel
theorem dX7_leastNotIn_25 : decode cX7_leastNotIn 25 = .ok (.ireturn, 1) := by decide +kernel
