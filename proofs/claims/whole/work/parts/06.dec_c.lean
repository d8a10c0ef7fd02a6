theorem dX8_init_0 : decode cX8_init 0 = .ok (.aload_n 0, 1) := by decide +kernel
theorem dX8_init_1 : decode cX8_init 1 = .ok (.invokespecial 1, 3) := by decide +kernel
theorem dX8_init_4 : decode cX8_init 4 = .ok (.aload_n 0, 1) := by decide +kernel
theorem dX8_init_5 : decode cX8_init 5 = .ok (.bipush 16, 2) := by decide +kernel
theorem dX8_init_7 : decode cX8_init 7 = .ok (.newarray .int, 2) := by decide +kernel
theorem dX8_init_9 : decode cX8_init 9 = .ok (.putfield 7, 3) := by decide +kernel
theorem dX8_init_12 : decode cX8_init 12 = .ok (.aload_n 0, 1) := by decide +kernel
theorem dX8_init_13 : decode cX8_init 13 = .ok (.bipush 9, 2) := by decide +kernel
theorem dX8_init_15 : decode cX8_init 15 = .ok (.newarray .int, 2) := by decide +kernel
theorem dX8_init_17 : decode cX8_init 17 = .ok (.putfield 13, 3) := by decide +kernel
theorem dX8_init_20 : decode cX8_init 20 = .ok (.aload_n 0, 1) := by decide +kernel
theorem dX8_init_21 : decode cX8_init 21 = .ok (.bipush 9, 2) := by decide +kernel
theorem dX8_init_23 : decode cX8_init 23 = .ok (.newarray .int, 2) := by decide +kernel
theorem dX8_init_25 : decode cX8_init 25 = .ok (.putfield 16, 3) := by decide +kernel
theorem dX8_init_28 : decode cX8_init 28 = .ok (.aload_n 0, 1) := by decide +kernel
theorem dX8_init_29 : decode cX8_init 29 = .ok (.bipush 9, 2) := by decide +kernel
theorem dX8_init_31 : decode cX8_init 31 = .ok (.newarray .int, 2) := by decide +kernel
theorem dX8_init_33 : decode cX8_init 33 = .ok (.putfield 19, 3) := by decide +kernel
theorem dX8_init_36 : decode cX8_init 36 = .ok (.aload_n 0, 1) := by decide +kernel
theorem dX8_init_37 : decode cX8_init 37 = .ok (.bipush 9, 2) := by decide +kernel
theorem dX8_init_39 : decode cX8_init 39 = .ok (.newarray .int, 2) := by decide +kernel
theorem dX8_init_41 : decode cX8_init 41 = .ok (.putfield 22, 3) := by decide +kernel
theorem dX8_init_44 : decode cX8_init 44 = .ok (.aload_n 0, 1) := by decide +kernel
theorem dX8_init_45 : decode cX8_init 45 = .ok (.sipush 512, 3) := by decide +kernel
theorem dX8_init_48 : decode cX8_init 48 = .ok (.newarray .int, 2) := by decide +kernel
theorem dX8_init_50 : decode cX8_init 50 = .ok (.putfield 25, 3) := by decide +kernel
theorem dX8_init_53 : decode cX8_init 53 = .ok (.aload_n 0, 1) := by decide +kernel
theorem dX8_init_54 : decode cX8_init 54 = .ok (.bipush 41, 2) := by decide +kernel
theorem dX8_init_56 : decode cX8_init 56 = .ok (.newarray .int, 2) := by decide +kernel
theorem dX8_init_58 : decode cX8_init 58 = .ok (.putfield 28, 3) := by decide +kernel
theorem dX8_init_61 : decode cX8_init 61 = .ok (.aload_n 0, 1) := by decide +kernel
theorem dX8_init_62 : decode cX8_init 62 = .ok (.sipush 512, 3) := by decide +kernel
theorem dX8_init_65 : decode cX8_init 65 = .ok (.newarray .int, 2) := by decide +kernel
theorem dX8_init_67 : decode cX8_init 67 = .ok (.putfield 31, 3) := by decide +kernel
theorem dX8_init_70 : decode cX8_init 70 = .ok (.aload_n 0, 1) := by decide +kernel
theorem dX8_init_71 : decode cX8_init 71 = .ok (.sipush 512, 3) := by decide +kernel
theorem dX8_init_74 : decode cX8_init 74 = .ok (.newarray .int, 2) := by decide +kernel
theorem dX8_init_76 : decode cX8_init 76 = .ok (.putfield 34, 3) := by decide +kernel
theorem dX8_init_79 : decode cX8_init 79 = .ok (.aload_n 0, 1) := by decide +kernel
theorem dX8_init_80 : decode cX8_init 80 = .ok (.sipush 512, 3) := by decide +kernel
theorem dX8_init_83 : decode cX8_init 83 = .ok (.newarray .int, 2) := by decide +kernel
theorem dX8_init_85 : decode cX8_init 85 = .ok (.putfield 37, 3) := by decide +kernel
theorem dX8_init_88 : decode cX8_init 88 = .ok (.aload_n 0, 1) := by decide +kernel
theorem dX8_init_89 : decode cX8_init 89 = .ok (.sipush 512, 3) := by decide +kernel
theorem dX8_init_92 : decode cX8_init 92 = .ok (.newarray .int, 2) := by decide +kernel
theorem dX8_init_94 : decode cX8_init 94 = .ok (.putfield 40, 3) := by decide +kernel
theorem dX8_init_97 : decode cX8_init 97 = .ok (.aload_n 0, 1) := by decide +kernel
theorem dX8_init_98 : decode cX8_init 98 = .ok (.bipush 18, 2) := by decide +kernel
theorem dX8_init_100 : decode cX8_init 100 = .ok (.newarray .int, 2) := by decide +kernel
theorem dX8_init_102 : decode cX8_init 102 = .ok (.putfield 43, 3) := by decide +kernel
theorem dX8_init_105 : decode cX8_init 105 = .ok (.aload_n 0, 1) := by decide +kernel
theorem dX8_init_106 : decode cX8_init 106 = .ok (.bipush 9, 2) := by decide +kernel
theorem dX8_init_108 : decode cX8_init 108 = .ok (.newarray .int, 2) := by decide +kernel
theorem dX8_init_110 : decode cX8_init 110 = .ok (.putfield 46, 3) := by decide +kernel
theorem dX8_init_113 : decode cX8_init 113 = .ok (.aload_n 0, 1) := by decide +kernel
theorem dX8_init_114 : decode cX8_init 114 = .ok (.bipush 18, 2) := by decide +kernel
theorem dX8_init_116 : decode cX8_init 116 = .ok (.newarray .int, 2) := by decide +kernel
theorem dX8_init_118 : decode cX8_init 118 = .ok (.putfield 49, 3) := by decide +kernel
theorem dX8_init_121 : decode cX8_init 121 = .ok (.aload_n 0, 1) := by decide +kernel
theorem dX8_init_122 : decode cX8_init 122 = .ok (.iconst (-1), 1) := by decide +kernel
theorem dX8_init_123 : decode cX8_init 123 = .ok (.putfield 52, 3) := by decide +kernel
theorem dX8_init_126 : decode cX8_init 126 = .ok (.return_, 1) := by decide +kernel
theorem dX8_in_0 : decode cX8_in 0 = .ok (.lload_n 0, 1) := by decide +kernel
theorem dX8_in_1 : decode cX8_in 1 = .ok (.lload_n 2, 1) := by decide +kernel
theorem dX8_in_2 : decode cX8_in 2 = .ok (.lcmp, 1) := by decide +kernel
theorem dX8_in_3 : decode cX8_in 3 = .ok (.ifCond .lt 14, 3) := by decide +kernel
theorem dX8_in_6 : decode cX8_in 6 = .ok (.lload_n 0, 1) := by decide +kernel
theorem dX8_in_7 : decode cX8_in 7 = .ok (.lload 4, 2) := by decide +kernel
theorem dX8_in_9 : decode cX8_in 9 = .ok (.lcmp, 1) := by decide +kernel
theorem dX8_in_10 : decode cX8_in 10 = .ok (.ifCond .gt 7, 3) := by decide +kernel
theorem dX8_in_13 : decode cX8_in 13 = .ok (.iconst 1, 1) := by decide +kernel
theorem dX8_in_14 : decode cX8_in 14 = .ok (.goto 4, 3) := by decide +kernel
theorem dX8_in_17 : decode cX8_in 17 = .ok (.iconst 0, 1) := by decide +kernel
theorem dX8_in_18 : decode cX8_in 18 = .ok (.ireturn, 1) := by decide +kernel
theorem dX8_copy_0 : decode cX8_copy 0 = .ok (.iconst 0, 1) := by decide +kernel
theorem dX8_copy_1 : decode cX8_copy 1 = .ok (.istore_n 2, 1) := by decide +kernel
theorem dX8_copy_2 : decode cX8_copy 2 = .ok (.iload_n 2, 1) := by decide +kernel
theorem dX8_copy_3 : decode cX8_copy 3 = .ok (.aload_n 0, 1) := by decide +kernel
theorem dX8_copy_4 : decode cX8_copy 4 = .ok (.arraylength, 1) := by decide +kernel
theorem dX8_copy_5 : decode cX8_copy 5 = .ok (.if_icmp .ge 15, 3) := by decide +kernel
theorem dX8_copy_8 : decode cX8_copy 8 = .ok (.aload_n 1, 1) := by decide +kernel
theorem dX8_copy_9 : decode cX8_copy 9 = .ok (.iload_n 2, 1) := by decide +kernel
theorem dX8_copy_10 : decode cX8_copy 10 = .ok (.aload_n 0, 1) := by decide +kernel
theorem dX8_copy_11 : decode cX8_copy 11 = .ok (.iload_n 2, 1) := by decide +kernel
theorem dX8_copy_12 : decode cX8_copy 12 = .ok (.iaload, 1) := by decide +kernel
theorem dX8_copy_13 : decode cX8_copy 13 = .ok (.iastore, 1) := by decide +kernel
theorem dX8_copy_14 : decode cX8_copy 14 = .ok (.iinc 2 1, 3) := by decide +kernel
theorem dX8_copy_17 : decode cX8_copy 17 = .ok (.goto (-15), 3) := by decide +kernel
theorem dX8_copy_20 : decode cX8_copy 20 = .ok (.return_, 1) := by decide +kernel
theorem dX8_ones_0 : decode cX8_ones 0 = .ok (.iconst 0, 1) := by decide +kernel
theorem dX8_ones_1 : decode cX8_ones 1 = .ok (.istore_n 1, 1) := by decide +kernel
theorem dX8_ones_2 : decode cX8_ones 2 = .ok (.iconst 0, 1) := by decide +kernel
theorem dX8_ones_3 : decode cX8_ones 3 = .ok (.istore_n 2, 1) := by decide +kernel
theorem dX8_ones_4 : decode cX8_ones 4 = .ok (.iload_n 2, 1) := by decide +kernel
theorem dX8_ones_5 : decode cX8_ones 5 = .ok (.bipush 10, 2) := by decide +kernel
theorem dX8_ones_7 : decode cX8_ones 7 = .ok (.if_icmp .ge 17, 3) := by decide +kernel
theorem dX8_ones_10 : decode cX8_ones 10 = .ok (.iload_n 1, 1) := by decide +kernel
theorem dX8_ones_11 : decode cX8_ones 11 = .ok (.iload_n 0, 1) := by decide +kernel
theorem dX8_ones_12 : decode cX8_ones 12 = .ok (.iload_n 2, 1) := by decide +kernel
theorem dX8_ones_13 : decode cX8_ones 13 = .ok (.ishr, 1) := by decide +kernel
theorem dX8_ones_14 : decode cX8_ones 14 = .ok (.iconst 1, 1) := by decide +kernel
theorem dX8_ones_15 : decode cX8_ones 15 = .ok (.iand, 1) := by decide +kernel
theorem dX8_ones_16 : decode cX8_ones 16 = .ok (.iadd, 1) := by decide +kernel
theorem dX8_ones_17 : decode cX8_ones 17 = .ok (.istore_n 1, 1) := by decide +kernel
theorem dX8_ones_18 : decode cX8_ones 18 = .ok (.iinc 2 1, 3) := by decide +kernel
theorem dX8_ones_21 : decode cX8_ones 21 = .ok (.goto (-17), 3) := by decide +kernel
theorem dX8_ones_24 : decode cX8_ones 24 = .ok (.iload_n 1, 1) := by decide +kernel
theorem dX8_ones_25 : decode cX8_ones 25 = .ok (.ireturn, 1) := by decide +kernel
set_option maxRecDepth 20000 in
theorem ggX8_letter_X8_in : GoodIn wsX8_letter wsX8_in := goodIn_r _ [7] (by decide +kernel) (by decide +kernel)
set_option maxRecDepth 20000 in
theorem gX8_letter_X8_in : GoodIn wsX8_letter (va_wsS RX8 58 yX8_in wsX8_in) := goodIn_app (goodIn_of _ (by decide +kernel)) ggX8_letter_X8_in
theorem dX8_letter_0 : decode cX8_letter 0 = .ok (.iload_n 1, 1) := by decide +kernel
theorem dX8_letter_1 : decode cX8_letter 1 = .ok (.i2l, 1) := by decide +kernel
theorem dX8_letter_2 : decode cX8_letter 2 = .ok (.lconst 1, 1) := by decide +kernel
theorem dX8_letter_3 : decode cX8_letter 3 = .ok (.ldc2_w 56, 3) := by decide +kernel
theorem dX8_letter_6 : decode cX8_letter 6 = .ok (.invokestatic 58, 3) := by decide +kernel
theorem dX8_letter_9 : decode cX8_letter 9 = .ok (.ifCond .ne 6, 3) := by decide +kernel
theorem dX8_letter_12 : decode cX8_letter 12 = .ok (.bipush (-102), 2) := by decide +kernel
theorem dX8_letter_14 : decode cX8_letter 14 = .ok (.ireturn, 1) := by decide +kernel
theorem dX8_letter_15 : decode cX8_letter 15 = .ok (.aload_n 0, 1) := by decide +kernel
theorem dX8_letter_16 : decode cX8_letter 16 = .ok (.getfield 62, 3) := by decide +kernel
theorem dX8_letter_19 : decode cX8_letter 19 = .ok (.bipush 16, 2) := by decide +kernel
theorem dX8_letter_21 : decode cX8_letter 21 = .ok (.if_icmp .ne 6, 3) := by decide +kernel
theorem dX8_letter_24 : decode cX8_letter 24 = .ok (.bipush (-104), 2) := by decide +kernel
theorem dX8_letter_26 : decode cX8_letter 26 = .ok (.ireturn, 1) := by decide +kernel
theorem dX8_letter_27 : decode cX8_letter 27 = .ok (.aload_n 0, 1) := by decide +kernel
theorem dX8_letter_28 : decode cX8_letter 28 = .ok (.getfield 7, 3) := by decide +kernel
theorem dX8_letter_31 : decode cX8_letter 31 = .ok (.aload_n 0, 1) := by decide +kernel
theorem dX8_letter_32 : decode cX8_letter 32 = .ok (.getfield 62, 3) := by decide +kernel
theorem dX8_letter_35 : decode cX8_letter 35 = .ok (.iload_n 1, 1) := by decide +kernel
theorem dX8_letter_36 : decode cX8_letter 36 = .ok (.iastore, 1) := by decide +kernel
theorem dX8_letter_37 : decode cX8_letter 37 = .ok (.aload_n 0, 1) := by decide +kernel
theorem dX8_letter_38 : decode cX8_letter 38 = .ok (.dup, 1) := by decide +kernel
theorem dX8_letter_39 : decode cX8_letter 39 = .ok (.getfield 62, 3) := by decide +kernel
theorem dX8_letter_42 : decode cX8_letter 42 = .ok (.iconst 1, 1) := by decide +kernel
theorem dX8_letter_43 : decode cX8_letter 43 = .ok (.iadd, 1) := by decide +kernel
theorem dX8_letter_44 : decode cX8_letter 44 = .ok (.putfield 62, 3) := by decide +kernel
theorem dX8_letter_47 : decode cX8_letter 47 = .ok (.aload_n 0, 1) := by decide +kernel
theorem dX8_letter_48 : decode cX8_letter 48 = .ok (.getfield 62, 3) := by decide +kernel
theorem dX8_letter_51 : decode cX8_letter 51 = .ok (.ireturn, 1) := by decide +kernel
theorem dX8_blank_0 : decode cX8_blank 0 = .ok (.aload_n 0, 1) := by decide +kernel
theorem dX8_blank_1 : decode cX8_blank 1 = .ok (.getfield 62, 3) := by decide +kernel
theorem dX8_blank_4 : decode cX8_blank 4 = .ok (.istore_n 1, 1) := by decide +kernel
theorem dX8_blank_5 : decode cX8_blank 5 = .ok (.aload_n 0, 1) := by decide +kernel
theorem dX8_blank_6 : decode cX8_blank 6 = .ok (.iconst 0, 1) := by decide +kernel
theorem dX8_blank_7 : decode cX8_blank 7 = .ok (.putfield 62, 3) := by decide +kernel
theorem dX8_blank_10 : decode cX8_blank 10 = .ok (.iload_n 1, 1) := by decide +kernel
theorem dX8_blank_11 : decode cX8_blank 11 = .ok (.ireturn, 1) := by decide +kernel
theorem dX8_kindBy_0 : decode cX8_kindBy 0 = .ok (.iload_n 0, 1) := by decide +kernel
theorem dX8_kindBy_1 : decode cX8_kindBy 1 = .ok (.lookupswitch 61 #[(100, 59), (102, 57), (110, 53), (112, 51), (115, 55)], 51) := by decide +kernel
theorem dX8_kindBy_52 : decode cX8_kindBy 52 = .ok (.iconst 0, 1) := by decide +kernel
theorem dX8_kindBy_53 : decode cX8_kindBy 53 = .ok (.ireturn, 1) := by decide +kernel
theorem dX8_kindBy_54 : decode cX8_kindBy 54 = .ok (.iconst 1, 1) := by decide +kernel
theorem dX8_kindBy_55 : decode cX8_kindBy 55 = .ok (.ireturn, 1) := by decide +kernel
theorem dX8_kindBy_56 : decode cX8_kindBy 56 = .ok (.iconst 2, 1) := by decide +kernel
theorem dX8_kindBy_57 : decode cX8_kindBy 57 = .ok (.ireturn, 1) := by decide +kernel
theorem dX8_kindBy_58 : decode cX8_kindBy 58 = .ok (.iconst 3, 1) := by decide +kernel
theorem dX8_kindBy_59 : decode cX8_kindBy 59 = .ok (.ireturn, 1) := by decide +kernel
theorem dX8_kindBy_60 : decode cX8_kindBy 60 = .ok (.iconst 4, 1) := by decide +kernel
theorem dX8_kindBy_61 : decode cX8_kindBy 61 = .ok (.ireturn, 1) := by decide +kernel
theorem dX8_kindBy_62 : decode cX8_kindBy 62 = .ok (.iconst (-1), 1) := by decide +kernel
theorem dX8_kindBy_63 : decode cX8_kindBy 63 = .ok (.ireturn, 1) := by decide +kernel
set_option maxRecDepth 20000 in
theorem ggX8_isLaneLetter_X8_kindBy : GoodIn wsX8_isLaneLetter wsX8_kindBy := goodIn_r _ [10] (by decide +kernel) (by decide +kernel)
set_option maxRecDepth 20000 in
theorem gX8_isLaneLetter_X8_kindBy : GoodIn wsX8_isLaneLetter (va_wsS RX8 77 yX8_kindBy wsX8_kindBy) := goodIn_app (goodIn_of _ (by decide +kernel)) ggX8_isLaneLetter_X8_kindBy
theorem dX8_isLaneLetter_0 : decode cX8_isLaneLetter 0 = .ok (.iload_n 1, 1) := by decide +kernel
theorem dX8_isLaneLetter_1 : decode cX8_isLaneLetter 1 = .ok (.bipush 59, 2) := by decide +kernel
theorem dX8_isLaneLetter_3 : decode cX8_isLaneLetter 3 = .ok (.if_icmp .ne 17, 3) := by decide +kernel
theorem dX8_isLaneLetter_6 : decode cX8_isLaneLetter 6 = .ok (.aload_n 0, 1) := by decide +kernel
theorem dX8_isLaneLetter_7 : decode cX8_isLaneLetter 7 = .ok (.getfield 65, 3) := by decide +kernel
theorem dX8_isLaneLetter_10 : decode cX8_isLaneLetter 10 = .ok (.ifCond .le 10, 3) := by decide +kernel
theorem dX8_isLaneLetter_13 : decode cX8_isLaneLetter 13 = .ok (.aload_n 0, 1) := by decide +kernel
theorem dX8_isLaneLetter_14 : decode cX8_isLaneLetter 14 = .ok (.iconst 0, 1) := by decide +kernel
theorem dX8_isLaneLetter_15 : decode cX8_isLaneLetter 15 = .ok (.putfield 68, 3) := by decide +kernel
theorem dX8_isLaneLetter_18 : decode cX8_isLaneLetter 18 = .ok (.iconst 1, 1) := by decide +kernel
theorem dX8_isLaneLetter_19 : decode cX8_isLaneLetter 19 = .ok (.ireturn, 1) := by decide +kernel
theorem dX8_isLaneLetter_20 : decode cX8_isLaneLetter 20 = .ok (.iload_n 1, 1) := by decide +kernel
theorem dX8_isLaneLetter_21 : decode cX8_isLaneLetter 21 = .ok (.bipush 44, 2) := by decide +kernel
theorem dX8_isLaneLetter_23 : decode cX8_isLaneLetter 23 = .ok (.if_icmp .ne 50, 3) := by decide +kernel
theorem dX8_isLaneLetter_26 : decode cX8_isLaneLetter 26 = .ok (.aload_n 0, 1) := by decide +kernel
theorem dX8_isLaneLetter_27 : decode cX8_isLaneLetter 27 = .ok (.getfield 65, 3) := by decide +kernel
theorem dX8_isLaneLetter_30 : decode cX8_isLaneLetter 30 = .ok (.ifCond .le 24, 3) := by decide +kernel
theorem dX8_isLaneLetter_33 : decode cX8_isLaneLetter 33 = .ok (.aload_n 0, 1) := by decide +kernel
theorem dX8_isLaneLetter_34 : decode cX8_isLaneLetter 34 = .ok (.getfield 71, 3) := by decide +kernel
theorem dX8_isLaneLetter_37 : decode cX8_isLaneLetter 37 = .ok (.iconst 3, 1) := by decide +kernel
theorem dX8_isLaneLetter_38 : decode cX8_isLaneLetter 38 = .ok (.if_icmp .ge 16, 3) := by decide +kernel
theorem dX8_isLaneLetter_41 : decode cX8_isLaneLetter 41 = .ok (.aload_n 0, 1) := by decide +kernel
theorem dX8_isLaneLetter_42 : decode cX8_isLaneLetter 42 = .ok (.getfield 74, 3) := by decide +kernel
theorem dX8_isLaneLetter_45 : decode cX8_isLaneLetter 45 = .ok (.bipush 9, 2) := by decide +kernel
theorem dX8_isLaneLetter_47 : decode cX8_isLaneLetter 47 = .ok (.if_icmp .ge 7, 3) := by decide +kernel
theorem dX8_isLaneLetter_50 : decode cX8_isLaneLetter 50 = .ok (.iconst 1, 1) := by decide +kernel
theorem dX8_isLaneLetter_51 : decode cX8_isLaneLetter 51 = .ok (.goto 4, 3) := by decide +kernel
theorem dX8_isLaneLetter_54 : decode cX8_isLaneLetter 54 = .ok (.iconst 0, 1) := by decide +kernel
theorem dX8_isLaneLetter_55 : decode cX8_isLaneLetter 55 = .ok (.istore_n 2, 1) := by decide +kernel
theorem dX8_isLaneLetter_56 : decode cX8_isLaneLetter 56 = .ok (.aload_n 0, 1) := by decide +kernel
theorem dX8_isLaneLetter_57 : decode cX8_isLaneLetter 57 = .ok (.dup, 1) := by decide +kernel
theorem dX8_isLaneLetter_58 : decode cX8_isLaneLetter 58 = .ok (.getfield 71, 3) := by decide +kernel
theorem dX8_isLaneLetter_61 : decode cX8_isLaneLetter 61 = .ok (.iconst 1, 1) := by decide +kernel
theorem dX8_isLaneLetter_62 : decode cX8_isLaneLetter 62 = .ok (.iadd, 1) := by decide +kernel
theorem dX8_isLaneLetter_63 : decode cX8_isLaneLetter 63 = .ok (.putfield 71, 3) := by decide +kernel
theorem dX8_isLaneLetter_66 : decode cX8_isLaneLetter 66 = .ok (.aload_n 0, 1) := by decide +kernel
theorem dX8_isLaneLetter_67 : decode cX8_isLaneLetter 67 = .ok (.iconst 0, 1) := by decide +kernel
theorem dX8_isLaneLetter_68 : decode cX8_isLaneLetter 68 = .ok (.putfield 65, 3) := by decide +kernel
theorem dX8_isLaneLetter_71 : decode cX8_isLaneLetter 71 = .ok (.iload_n 2, 1) := by decide +kernel
theorem dX8_isLaneLetter_72 : decode cX8_isLaneLetter 72 = .ok (.ireturn, 1) := by decide +kernel
theorem dX8_isLaneLetter_73 : decode cX8_isLaneLetter 73 = .ok (.iload_n 1, 1) := by decide +kernel
theorem dX8_isLaneLetter_74 : decode cX8_isLaneLetter 74 = .ok (.invokestatic 77, 3) := by decide +kernel
theorem dX8_isLaneLetter_77 : decode cX8_isLaneLetter 77 = .ok (.iconst (-1), 1) := by decide +kernel
theorem dX8_isLaneLetter_78 : decode cX8_isLaneLetter 78 = .ok (.if_icmp .eq 21, 3) := by decide +kernel
theorem dX8_isLaneLetter_81 : decode cX8_isLaneLetter 81 = .ok (.aload_n 0, 1) := by decide +kernel
theorem dX8_isLaneLetter_82 : decode cX8_isLaneLetter 82 = .ok (.getfield 74, 3) := by decide +kernel
theorem dX8_isLaneLetter_85 : decode cX8_isLaneLetter 85 = .ok (.bipush 9, 2) := by decide +kernel
theorem dX8_isLaneLetter_87 : decode cX8_isLaneLetter 87 = .ok (.if_icmp .eq 12, 3) := by decide +kernel
theorem dX8_isLaneLetter_90 : decode cX8_isLaneLetter 90 = .ok (.aload_n 0, 1) := by decide +kernel
theorem dX8_isLaneLetter_91 : decode cX8_isLaneLetter 91 = .ok (.getfield 65, 3) := by decide +kernel
theorem dX8_isLaneLetter_94 : decode cX8_isLaneLetter 94 = .ok (.bipush 6, 2) := by decide +kernel
theorem dX8_isLaneLetter_96 : decode cX8_isLaneLetter 96 = .ok (.if_icmp .ne 5, 3) := by decide +kernel
theorem dX8_isLaneLetter_99 : decode cX8_isLaneLetter 99 = .ok (.iconst 0, 1) := by decide +kernel
theorem dX8_isLaneLetter_100 : decode cX8_isLaneLetter 100 = .ok (.ireturn, 1) := by decide +kernel
theorem dX8_isLaneLetter_101 : decode cX8_isLaneLetter 101 = .ok (.aload_n 0, 1) := by decide +kernel
theorem dX8_isLaneLetter_102 : decode cX8_isLaneLetter 102 = .ok (.getfield 13, 3) := by decide +kernel
theorem dX8_isLaneLetter_105 : decode cX8_isLaneLetter 105 = .ok (.aload_n 0, 1) := by decide +kernel
theorem dX8_isLaneLetter_106 : decode cX8_isLaneLetter 106 = .ok (.getfield 74, 3) := by decide +kernel
theorem dX8_isLaneLetter_109 : decode cX8_isLaneLetter 109 = .ok (.iload_n 1, 1) := by decide +kernel
theorem dX8_isLaneLetter_110 : decode cX8_isLaneLetter 110 = .ok (.invokestatic 77, 3) := by decide +kernel
theorem dX8_isLaneLetter_113 : decode cX8_isLaneLetter 113 = .ok (.iastore, 1) := by decide +kernel
theorem dX8_isLaneLetter_114 : decode cX8_isLaneLetter 114 = .ok (.aload_n 0, 1) := by decide +kernel
theorem dX8_isLaneLetter_115 : decode cX8_isLaneLetter 115 = .ok (.getfield 16, 3) := by decide +kernel
theorem dX8_isLaneLetter_118 : decode cX8_isLaneLetter 118 = .ok (.aload_n 0, 1) := by decide +kernel
theorem dX8_isLaneLetter_119 : decode cX8_isLaneLetter 119 = .ok (.getfield 74, 3) := by decide +kernel
theorem dX8_isLaneLetter_122 : decode cX8_isLaneLetter 122 = .ok (.aload_n 0, 1) := by decide +kernel
theorem dX8_isLaneLetter_123 : decode cX8_isLaneLetter 123 = .ok (.getfield 71, 3) := by decide +kernel
theorem dX8_isLaneLetter_126 : decode cX8_isLaneLetter 126 = .ok (.iconst 1, 1) := by decide +kernel
theorem dX8_isLaneLetter_127 : decode cX8_isLaneLetter 127 = .ok (.isub, 1) := by decide +kernel
theorem dX8_isLaneLetter_128 : decode cX8_isLaneLetter 128 = .ok (.iastore, 1) := by decide +kernel
theorem dX8_isLaneLetter_129 : decode cX8_isLaneLetter 129 = .ok (.aload_n 0, 1) := by decide +kernel
theorem dX8_isLaneLetter_130 : decode cX8_isLaneLetter 130 = .ok (.dup, 1) := by decide +kernel
theorem dX8_isLaneLetter_131 : decode cX8_isLaneLetter 131 = .ok (.getfield 74, 3) := by decide +kernel
theorem dX8_isLaneLetter_134 : decode cX8_isLaneLetter 134 = .ok (.iconst 1, 1) := by decide +kernel
theorem dX8_isLaneLetter_135 : decode cX8_isLaneLetter 135 = .ok (.iadd, 1) := by decide +kernel
theorem dX8_isLaneLetter_136 : decode cX8_isLaneLetter 136 = .ok (.putfield 74, 3) := by decide +kernel
theorem dX8_isLaneLetter_139 : decode cX8_isLaneLetter 139 = .ok (.aload_n 0, 1) := by decide +kernel
theorem dX8_isLaneLetter_140 : decode cX8_isLaneLetter 140 = .ok (.dup, 1) := by decide +kernel
theorem dX8_isLaneLetter_141 : decode cX8_isLaneLetter 141 = .ok (.getfield 65, 3) := by decide +kernel
theorem dX8_isLaneLetter_144 : decode cX8_isLaneLetter 144 = .ok (.iconst 1, 1) := by decide +kernel
theorem dX8_isLaneLetter_145 : decode cX8_isLaneLetter 145 = .ok (.iadd, 1) := by decide +kernel
theorem dX8_isLaneLetter_146 : decode cX8_isLaneLetter 146 = .ok (.putfield 65, 3) := by decide +kernel
theorem dX8_isLaneLetter_149 : decode cX8_isLaneLetter 149 = .ok (.iconst 1, 1) := by decide +kernel
theorem dX8_isLaneLetter_150 : decode cX8_isLaneLetter 150 = .ok (.ireturn, 1) := by decide +kernel
set_option maxRecDepth 20000 in
theorem ggX8_isBehindLetter_X8_in : GoodIn wsX8_isBehindLetter wsX8_in := goodIn_r _ [7] (by decide +kernel) (by decide +kernel)
set_option maxRecDepth 20000 in
theorem gX8_isBehindLetter_X8_in : GoodIn wsX8_isBehindLetter (va_wsS RX8 58 yX8_in wsX8_in) := goodIn_app (goodIn_of _ (by decide +kernel)) ggX8_isBehindLetter_X8_in
theorem dX8_isBehindLetter_0 : decode cX8_isBehindLetter 0 = .ok (.aload_n 0, 1) := by decide +kernel
theorem dX8_isBehindLetter_1 : decode cX8_isBehindLetter 1 = .ok (.dup, 1) := by decide +kernel
theorem dX8_isBehindLetter_2 : decode cX8_isBehindLetter 2 = .ok (.getfield 68, 3) := by decide +kernel
theorem dX8_isBehindLetter_5 : decode cX8_isBehindLetter 5 = .ok (.iconst 1, 1) := by decide +kernel
theorem dX8_isBehindLetter_6 : decode cX8_isBehindLetter 6 = .ok (.iadd, 1) := by decide +kernel
theorem dX8_isBehindLetter_7 : decode cX8_isBehindLetter 7 = .ok (.putfield 68, 3) := by decide +kernel
theorem dX8_isBehindLetter_10 : decode cX8_isBehindLetter 10 = .ok (.aload_n 0, 1) := by decide +kernel
theorem dX8_isBehindLetter_11 : decode cX8_isBehindLetter 11 = .ok (.getfield 68, 3) := by decide +kernel
theorem dX8_isBehindLetter_14 : decode cX8_isBehindLetter 14 = .ok (.lookupswitch 56 #[(1, 26), (2, 38)], 26) := by decide +kernel
theorem dX8_isBehindLetter_40 : decode cX8_isBehindLetter 40 = .ok (.iload_n 1, 1) := by decide +kernel
theorem dX8_isBehindLetter_41 : decode cX8_isBehindLetter 41 = .ok (.i2l, 1) := by decide +kernel
theorem dX8_isBehindLetter_42 : decode cX8_isBehindLetter 42 = .ok (.ldc2_w 81, 3) := by decide +kernel
theorem dX8_isBehindLetter_45 : decode cX8_isBehindLetter 45 = .ok (.ldc2_w 83, 3) := by decide +kernel
theorem dX8_isBehindLetter_48 : decode cX8_isBehindLetter 48 = .ok (.invokestatic 58, 3) := by decide +kernel
theorem dX8_isBehindLetter_51 : decode cX8_isBehindLetter 51 = .ok (.ireturn, 1) := by decide +kernel
theorem dX8_isBehindLetter_52 : decode cX8_isBehindLetter 52 = .ok (.iload_n 1, 1) := by decide +kernel
theorem dX8_isBehindLetter_53 : decode cX8_isBehindLetter 53 = .ok (.bipush 119, 2) := by decide +kernel
theorem dX8_isBehindLetter_55 : decode cX8_isBehindLetter 55 = .ok (.if_icmp .eq 9, 3) := by decide +kernel
theorem dX8_isBehindLetter_58 : decode cX8_isBehindLetter 58 = .ok (.iload_n 1, 1) := by decide +kernel
theorem dX8_isBehindLetter_59 : decode cX8_isBehindLetter 59 = .ok (.bipush 108, 2) := by decide +kernel
theorem dX8_isBehindLetter_61 : decode cX8_isBehindLetter 61 = .ok (.if_icmp .ne 7, 3) := by decide +kernel
theorem dX8_isBehindLetter_64 : decode cX8_isBehindLetter 64 = .ok (.iconst 1, 1) := by decide +kernel
theorem dX8_isBehindLetter_65 : decode cX8_isBehindLetter 65 = .ok (.goto 4, 3) := by decide +kernel
theorem dX8_isBehindLetter_68 : decode cX8_isBehindLetter 68 = .ok (.iconst 0, 1) := by decide +kernel
theorem dX8_isBehindLetter_69 : decode cX8_isBehindLetter 69 = .ok (.ireturn, 1) := by decide +kernel
theorem dX8_isBehindLetter_70 : decode cX8_isBehindLetter 70 = .ok (.iconst 0, 1) := by decide +kernel
theorem dX8_isBehindLetter_71 : decode cX8_isBehindLetter 71 = .ok (.ireturn, 1) := by decide +kernel
set_option maxRecDepth 20000 in
theorem ggX8_faultOf_X8_isLaneLetter : GoodIn wsX8_faultOf wsX8_isLaneLetter := goodIn_r _ [11, 3, 4, 2, 1, 12, 13, 14, 15, 10, 16, 26, 27, 28, 29, 30, 31, 32, 33, 34, 35, 36, 37, 38, 39, 40, 41, 42, 43, 44, 45, 46, 47, 48, 49, 50, 51, 52, 53, 54, 55, 56, 57, 58, 59, 60] (by decide +kernel) (by decide +kernel)
set_option maxRecDepth 20000 in
theorem gX8_faultOf_X8_isLaneLetter : GoodIn wsX8_faultOf (wsV RX8 85 RX8 yX8_isLaneLetter wsX8_isLaneLetter) := goodIn_app (goodIn_of _ (by decide +kernel)) ggX8_faultOf_X8_isLaneLetter
set_option maxRecDepth 20000 in
theorem ggX8_faultOf_X8_isBehindLetter : GoodIn wsX8_faultOf wsX8_isBehindLetter := goodIn_r _ [20, 4, 21, 22, 23, 24, 10, 25, 26, 27, 28, 29, 30, 31, 32, 33, 34, 35, 36, 37, 38, 39, 40, 41, 42, 43, 44, 45, 46, 47, 48, 49, 50, 51, 52, 53, 54, 55, 56, 57, 58, 59, 60] (by decide +kernel) (by decide +kernel)
set_option maxRecDepth 20000 in
theorem gX8_faultOf_X8_isBehindLetter : GoodIn wsX8_faultOf (wsV RX8 89 RX8 yX8_isBehindLetter wsX8_isBehindLetter) := goodIn_app (goodIn_of _ (by decide +kernel)) ggX8_faultOf_X8_isBehindLetter
theorem dX8_faultOf_0 : decode cX8_faultOf 0 = .ok (.aload_n 0, 1) := by decide +kernel
theorem dX8_faultOf_1 : decode cX8_faultOf 1 = .ok (.iconst 0, 1) := by decide +kernel
theorem dX8_faultOf_2 : decode cX8_faultOf 2 = .ok (.putfield 74, 3) := by decide +kernel
theorem dX8_faultOf_5 : decode cX8_faultOf 5 = .ok (.aload_n 0, 1) := by decide +kernel
theorem dX8_faultOf_6 : decode cX8_faultOf 6 = .ok (.iconst 1, 1) := by decide +kernel
theorem dX8_faultOf_7 : decode cX8_faultOf 7 = .ok (.putfield 71, 3) := by decide +kernel
theorem dX8_faultOf_10 : decode cX8_faultOf 10 = .ok (.aload_n 0, 1) := by decide +kernel
theorem dX8_faultOf_11 : decode cX8_faultOf 11 = .ok (.iconst 0, 1) := by decide +kernel
theorem dX8_faultOf_12 : decode cX8_faultOf 12 = .ok (.putfield 65, 3) := by decide +kernel
theorem dX8_faultOf_15 : decode cX8_faultOf 15 = .ok (.aload_n 0, 1) := by decide +kernel
theorem dX8_faultOf_16 : decode cX8_faultOf 16 = .ok (.iconst (-1), 1) := by decide +kernel
theorem dX8_faultOf_17 : decode cX8_faultOf 17 = .ok (.putfield 68, 3) := by decide +kernel
theorem dX8_faultOf_20 : decode cX8_faultOf 20 = .ok (.iconst 0, 1) := by decide +kernel
theorem dX8_faultOf_21 : decode cX8_faultOf 21 = .ok (.istore_n 1, 1) := by decide +kernel
theorem dX8_faultOf_22 : decode cX8_faultOf 22 = .ok (.iload_n 1, 1) := by decide +kernel
theorem dX8_faultOf_23 : decode cX8_faultOf 23 = .ok (.aload_n 0, 1) := by decide +kernel
theorem dX8_faultOf_24 : decode cX8_faultOf 24 = .ok (.getfield 62, 3) := by decide +kernel
theorem dX8_faultOf_27 : decode cX8_faultOf 27 = .ok (.if_icmp .ge 46, 3) := by decide +kernel
theorem dX8_faultOf_30 : decode cX8_faultOf 30 = .ok (.aload_n 0, 1) := by decide +kernel
theorem dX8_faultOf_31 : decode cX8_faultOf 31 = .ok (.getfield 68, 3) := by decide +kernel
theorem dX8_faultOf_34 : decode cX8_faultOf 34 = .ok (.iconst (-1), 1) := by decide +kernel
theorem dX8_faultOf_35 : decode cX8_faultOf 35 = .ok (.if_icmp .ne 19, 3) := by decide +kernel
theorem dX8_faultOf_38 : decode cX8_faultOf 38 = .ok (.aload_n 0, 1) := by decide +kernel
theorem dX8_faultOf_39 : decode cX8_faultOf 39 = .ok (.aload_n 0, 1) := by decide +kernel
theorem dX8_faultOf_40 : decode cX8_faultOf 40 = .ok (.getfield 7, 3) := by decide +kernel
theorem dX8_faultOf_43 : decode cX8_faultOf 43 = .ok (.iload_n 1, 1) := by decide +kernel
theorem dX8_faultOf_44 : decode cX8_faultOf 44 = .ok (.iaload, 1) := by decide +kernel
theorem dX8_faultOf_45 : decode cX8_faultOf 45 = .ok (.invokevirtual 85, 3) := by decide +kernel
theorem dX8_faultOf_48 : decode cX8_faultOf 48 = .ok (.ifCond .eq 25, 3) := by decide +kernel
theorem dX8_faultOf_51 : decode cX8_faultOf 51 = .ok (.goto 16, 3) := by decide +kernel
theorem dX8_faultOf_54 : decode cX8_faultOf 54 = .ok (.aload_n 0, 1) := by decide +kernel
theorem dX8_faultOf_55 : decode cX8_faultOf 55 = .ok (.aload_n 0, 1) := by decide +kernel
theorem dX8_faultOf_56 : decode cX8_faultOf 56 = .ok (.getfield 7, 3) := by decide +kernel
theorem dX8_faultOf_59 : decode cX8_faultOf 59 = .ok (.iload_n 1, 1) := by decide +kernel
theorem dX8_faultOf_60 : decode cX8_faultOf 60 = .ok (.iaload, 1) := by decide +kernel
theorem dX8_faultOf_61 : decode cX8_faultOf 61 = .ok (.invokevirtual 89, 3) := by decide +kernel
theorem dX8_faultOf_64 : decode cX8_faultOf 64 = .ok (.ifCond .eq 9, 3) := by decide +kernel
theorem dX8_faultOf_67 : decode cX8_faultOf 67 = .ok (.iinc 1 1, 3) := by decide +kernel
theorem dX8_faultOf_70 : decode cX8_faultOf 70 = .ok (.goto (-48), 3) := by decide +kernel
theorem dX8_faultOf_73 : decode cX8_faultOf 73 = .ok (.iload_n 1, 1) := by decide +kernel
theorem dX8_faultOf_74 : decode cX8_faultOf 74 = .ok (.ireturn, 1) := by decide +kernel
set_option maxRecDepth 20000 in
theorem ggX8_fault_X8_faultOf : GoodIn wsX8_fault wsX8_faultOf := goodIn_r _ [5, 6, 7, 8, 9, 10, 11, 12, 13, 14, 4, 15, 16, 17, 18, 19, 20, 21, 22, 23, 24, 25, 26, 27, 28, 29, 30, 31, 32, 33, 34, 35, 36, 37, 38, 39, 40, 41, 42, 43, 44, 45, 46, 47, 48, 49, 50, 51, 52, 53, 54, 55, 56, 57, 58, 59, 60, 61, 62, 63, 64] (by decide +kernel) (by decide +kernel)
set_option maxRecDepth 20000 in
theorem gX8_fault_X8_faultOf : GoodIn wsX8_fault (wsV RX8 92 RX8 yX8_faultOf wsX8_faultOf) := goodIn_app (goodIn_of _ (by decide +kernel)) ggX8_fault_X8_faultOf
theorem dX8_fault_0 : decode cX8_fault 0 = .ok (.aload_n 0, 1) := by decide +kernel
theorem dX8_fault_1 : decode cX8_fault 1 = .ok (.invokevirtual 92, 3) := by decide +kernel
theorem dX8_fault_4 : decode cX8_fault 4 = .ok (.ireturn, 1) := by decide +kernel
set_option maxRecDepth 20000 in
theorem ggX8_green_X8_faultOf : GoodIn wsX8_green wsX8_faultOf := goodIn_r _ [22, 3, 5, 23, 2, 1, 11, 24, 25, 26, 21, 27, 7, 9, 28, 29, 30, 31, 32, 33, 34, 35, 36, 37, 38, 39, 43, 44, 45, 46, 47, 48, 49, 50, 51, 52, 53, 54, 55, 56, 57, 58, 59, 60, 61, 62, 63, 64, 65, 66, 67, 68, 69, 70, 71, 72, 73, 74, 75, 76, 77] (by decide +kernel) (by decide +kernel)
set_option maxRecDepth 20000 in
theorem gX8_green_X8_faultOf : GoodIn wsX8_green (wsV RX8 92 RX8 yX8_faultOf wsX8_faultOf) := goodIn_app (goodIn_of _ (by decide +kernel)) ggX8_green_X8_faultOf
set_option maxRecDepth 20000 in
theorem ggX8_green_X8_copy : GoodIn wsX8_green wsX8_copy := goodIn_r _ [42] (by decide +kernel) (by decide +kernel)
set_option maxRecDepth 20000 in
theorem gX8_green_X8_copy : GoodIn wsX8_green (va_wsS RX8 102 yX8_copy wsX8_copy) := goodIn_app (goodIn_of _ (by decide +kernel)) ggX8_green_X8_copy
theorem dX8_green_0 : decode cX8_green 0 = .ok (.aload_n 0, 1) := by decide +kernel
theorem dX8_green_1 : decode cX8_green 1 = .ok (.invokevirtual 92, 3) := by decide +kernel
theorem dX8_green_4 : decode cX8_green 4 = .ok (.aload_n 0, 1) := by decide +kernel
theorem dX8_green_5 : decode cX8_green 5 = .ok (.getfield 62, 3) := by decide +kernel
theorem dX8_green_8 : decode cX8_green 8 = .ok (.if_icmp .lt 11, 3) := by decide +kernel
theorem dX8_green_11 : decode cX8_green 11 = .ok (.aload_n 0, 1) := by decide +kernel
theorem dX8_green_12 : decode cX8_green 12 = .ok (.getfield 68, 3) := by decide +kernel
theorem dX8_green_15 : decode cX8_green 15 = .ok (.iconst 2, 1) := by decide +kernel
theorem dX8_green_16 : decode cX8_green 16 = .ok (.if_icmp .eq 6, 3) := by decide +kernel
theorem dX8_green_19 : decode cX8_green 19 = .ok (.bipush (-103), 2) := by decide +kernel
theorem dX8_green_21 : decode cX8_green 21 = .ok (.ireturn, 1) := by decide +kernel
theorem dX8_green_22 : decode cX8_green 22 = .ok (.aload_n 0, 1) := by decide +kernel
theorem dX8_green_23 : decode cX8_green 23 = .ok (.aload_n 0, 1) := by decide +kernel
theorem dX8_green_24 : decode cX8_green 24 = .ok (.getfield 74, 3) := by decide +kernel
theorem dX8_green_27 : decode cX8_green 27 = .ok (.putfield 96, 3) := by decide +kernel
theorem dX8_green_30 : decode cX8_green 30 = .ok (.aload_n 0, 1) := by decide +kernel
theorem dX8_green_31 : decode cX8_green 31 = .ok (.aload_n 0, 1) := by decide +kernel
theorem dX8_green_32 : decode cX8_green 32 = .ok (.getfield 71, 3) := by decide +kernel
theorem dX8_green_35 : decode cX8_green 35 = .ok (.putfield 99, 3) := by decide +kernel
theorem dX8_green_38 : decode cX8_green 38 = .ok (.aload_n 0, 1) := by decide +kernel
theorem dX8_green_39 : decode cX8_green 39 = .ok (.getfield 13, 3) := by decide +kernel
theorem dX8_green_42 : decode cX8_green 42 = .ok (.aload_n 0, 1) := by decide +kernel
theorem dX8_green_43 : decode cX8_green 43 = .ok (.getfield 19, 3) := by decide +kernel
theorem dX8_green_46 : decode cX8_green 46 = .ok (.invokestatic 102, 3) := by decide +kernel
theorem dX8_green_49 : decode cX8_green 49 = .ok (.aload_n 0, 1) := by decide +kernel
theorem dX8_green_50 : decode cX8_green 50 = .ok (.getfield 16, 3) := by decide +kernel
theorem dX8_green_53 : decode cX8_green 53 = .ok (.aload_n 0, 1) := by decide +kernel
theorem dX8_green_54 : decode cX8_green 54 = .ok (.getfield 22, 3) := by decide +kernel
theorem dX8_green_57 : decode cX8_green 57 = .ok (.invokestatic 102, 3) := by decide +kernel
theorem dX8_green_60 : decode cX8_green 60 = .ok (.aload_n 0, 1) := by decide +kernel
theorem dX8_green_61 : decode cX8_green 61 = .ok (.aload_n 0, 1) := by decide +kernel
theorem dX8_green_62 : decode cX8_green 62 = .ok (.getfield 7, 3) := by decide +kernel
theorem dX8_green_65 : decode cX8_green 65 = .ok (.aload_n 0, 1) := by decide +kernel
theorem dX8_green_66 : decode cX8_green 66 = .ok (.getfield 62, 3) := by decide +kernel
theorem dX8_green_69 : decode cX8_green 69 = .ok (.iconst 2, 1) := by decide +kernel
theorem dX8_green_70 : decode cX8_green 70 = .ok (.isub, 1) := by decide +kernel
theorem dX8_green_71 : decode cX8_green 71 = .ok (.iaload, 1) := by decide +kernel
theorem dX8_green_72 : decode cX8_green 72 = .ok (.bipush 48, 2) := by decide +kernel
theorem dX8_green_74 : decode cX8_green 74 = .ok (.isub, 1) := by decide +kernel
theorem dX8_green_75 : decode cX8_green 75 = .ok (.putfield 106, 3) := by decide +kernel
theorem dX8_green_78 : decode cX8_green 78 = .ok (.aload_n 0, 1) := by decide +kernel
theorem dX8_green_79 : decode cX8_green 79 = .ok (.aload_n 0, 1) := by decide +kernel
theorem dX8_green_80 : decode cX8_green 80 = .ok (.getfield 7, 3) := by decide +kernel
theorem dX8_green_83 : decode cX8_green 83 = .ok (.aload_n 0, 1) := by decide +kernel
theorem dX8_green_84 : decode cX8_green 84 = .ok (.getfield 62, 3) := by decide +kernel
theorem dX8_green_87 : decode cX8_green 87 = .ok (.iconst 1, 1) := by decide +kernel
theorem dX8_green_88 : decode cX8_green 88 = .ok (.isub, 1) := by decide +kernel
theorem dX8_green_89 : decode cX8_green 89 = .ok (.iaload, 1) := by decide +kernel
theorem dX8_green_90 : decode cX8_green 90 = .ok (.bipush 119, 2) := by decide +kernel
theorem dX8_green_92 : decode cX8_green 92 = .ok (.if_icmp .ne 7, 3) := by decide +kernel
theorem dX8_green_95 : decode cX8_green 95 = .ok (.iconst 0, 1) := by decide +kernel
theorem dX8_green_96 : decode cX8_green 96 = .ok (.goto 4, 3) := by decide +kernel
theorem dX8_green_99 : decode cX8_green 99 = .ok (.iconst 1, 1) := by decide +kernel
theorem dX8_green_100 : decode cX8_green 100 = .ok (.putfield 109, 3) := by decide +kernel
theorem dX8_green_103 : decode cX8_green 103 = .ok (.aload_n 0, 1) := by decide +kernel
theorem dX8_green_104 : decode cX8_green 104 = .ok (.iconst 1, 1) := by decide +kernel
theorem dX8_green_105 : decode cX8_green 105 = .ok (.aload_n 0, 1) := by decide +kernel
theorem dX8_green_106 : decode cX8_green 106 = .ok (.getfield 96, 3) := by decide +kernel
theorem dX8_green_109 : decode cX8_green 109 = .ok (.ishl, 1) := by decide +kernel
theorem dX8_green_110 : decode cX8_green 110 = .ok (.iconst 1, 1) := by decide +kernel
theorem dX8_green_111 : decode cX8_green 111 = .ok (.isub, 1) := by decide +kernel
theorem dX8_green_112 : decode cX8_green 112 = .ok (.putfield 112, 3) := by decide +kernel
theorem dX8_green_115 : decode cX8_green 115 = .ok (.aload_n 0, 1) := by decide +kernel
theorem dX8_green_116 : decode cX8_green 116 = .ok (.iconst 0, 1) := by decide +kernel
theorem dX8_green_117 : decode cX8_green 117 = .ok (.putfield 115, 3) := by decide +kernel
theorem dX8_green_120 : decode cX8_green 120 = .ok (.aload_n 0, 1) := by decide +kernel
theorem dX8_green_121 : decode cX8_green 121 = .ok (.iconst 0, 1) := by decide +kernel
theorem dX8_green_122 : decode cX8_green 122 = .ok (.putfield 118, 3) := by decide +kernel
theorem dX8_green_125 : decode cX8_green 125 = .ok (.aload_n 0, 1) := by decide +kernel
theorem dX8_green_126 : decode cX8_green 126 = .ok (.dup, 1) := by decide +kernel
theorem dX8_green_127 : decode cX8_green 127 = .ok (.getfield 121, 3) := by decide +kernel
theorem dX8_green_130 : decode cX8_green 130 = .ok (.iconst 1, 1) := by decide +kernel
theorem dX8_green_131 : decode cX8_green 131 = .ok (.iadd, 1) := by decide +kernel
theorem dX8_green_132 : decode cX8_green 132 = .ok (.putfield 121, 3) := by decide +kernel
theorem dX8_green_135 : decode cX8_green 135 = .ok (.aload_n 0, 1) := by decide +kernel
theorem dX8_green_136 : decode cX8_green 136 = .ok (.iconst 0, 1) := by decide +kernel
theorem dX8_green_137 : decode cX8_green 137 = .ok (.putfield 62, 3) := by decide +kernel
theorem dX8_green_140 : decode cX8_green 140 = .ok (.aload_n 0, 1) := by decide +kernel
theorem dX8_green_141 : decode cX8_green 141 = .ok (.getfield 96, 3) := by decide +kernel
theorem dX8_green_144 : decode cX8_green 144 = .ok (.ireturn, 1) := by decide +kernel
theorem dX8_lacks_0 : decode cX8_lacks 0 = .ok (.aload_n 0, 1) := by decide +kernel
theorem dX8_lacks_1 : decode cX8_lacks 1 = .ok (.getfield 96, 3) := by decide +kernel
theorem dX8_lacks_4 : decode cX8_lacks 4 = .ok (.ifCond .ne 7, 3) := by decide +kernel
theorem dX8_lacks_7 : decode cX8_lacks 7 = .ok (.iconst 1, 1) := by decide +kernel
theorem dX8_lacks_8 : decode cX8_lacks 8 = .ok (.goto 4, 3) := by decide +kernel
theorem dX8_lacks_11 : decode cX8_lacks 11 = .ok (.iconst 0, 1) := by decide +kernel
theorem dX8_lacks_12 : decode cX8_lacks 12 = .ok (.ireturn, 1) := by decide +kernel
set_option maxRecDepth 20000 in
theorem ggX8_isPin_X8_in : GoodIn wsX8_isPin wsX8_in := goodIn_r _ [5] (by decide +kernel) (by decide +kernel)
set_option maxRecDepth 20000 in
theorem gX8_isPin_X8_in : GoodIn wsX8_isPin (va_wsS RX8 58 yX8_in wsX8_in) := goodIn_app (goodIn_of _ (by decide +kernel)) ggX8_isPin_X8_in
theorem dX8_isPin_0 : decode cX8_isPin 0 = .ok (.iload_n 1, 1) := by decide +kernel
theorem dX8_isPin_1 : decode cX8_isPin 1 = .ok (.i2l, 1) := by decide +kernel
theorem dX8_isPin_2 : decode cX8_isPin 2 = .ok (.lconst 0, 1) := by decide +kernel
theorem dX8_isPin_3 : decode cX8_isPin 3 = .ok (.aload_n 0, 1) := by decide +kernel
theorem dX8_isPin_4 : decode cX8_isPin 4 = .ok (.getfield 96, 3) := by decide +kernel
theorem dX8_isPin_7 : decode cX8_isPin 7 = .ok (.iconst 1, 1) := by decide +kernel
theorem dX8_isPin_8 : decode cX8_isPin 8 = .ok (.isub, 1) := by decide +kernel
theorem dX8_isPin_9 : decode cX8_isPin 9 = .ok (.i2l, 1) := by decide +kernel
theorem dX8_isPin_10 : decode cX8_isPin 10 = .ok (.invokestatic 58, 3) := by decide +kernel
theorem dX8_isPin_13 : decode cX8_isPin 13 = .ok (.ireturn, 1) := by decide +kernel
set_option maxRecDepth 20000 in
theorem ggX8_isLane_X8_in : GoodIn wsX8_isLane wsX8_in := goodIn_r _ [5] (by decide +kernel) (by decide +kernel)
set_option maxRecDepth 20000 in
theorem gX8_isLane_X8_in : GoodIn wsX8_isLane (va_wsS RX8 58 yX8_in wsX8_in) := goodIn_app (goodIn_of _ (by decide +kernel)) ggX8_isLane_X8_in
theorem dX8_isLane_0 : decode cX8_isLane 0 = .ok (.iload_n 1, 1) := by decide +kernel
theorem dX8_isLane_1 : decode cX8_isLane 1 = .ok (.i2l, 1) := by decide +kernel
theorem dX8_isLane_2 : decode cX8_isLane 2 = .ok (.lconst 0, 1) := by decide +kernel
theorem dX8_isLane_3 : decode cX8_isLane 3 = .ok (.aload_n 0, 1) := by decide +kernel
theorem dX8_isLane_4 : decode cX8_isLane 4 = .ok (.getfield 99, 3) := by decide +kernel
theorem dX8_isLane_7 : decode cX8_isLane 7 = .ok (.iconst 1, 1) := by decide +kernel
theorem dX8_isLane_8 : decode cX8_isLane 8 = .ok (.isub, 1) := by decide +kernel
theorem dX8_isLane_9 : decode cX8_isLane 9 = .ok (.i2l, 1) := by decide +kernel
theorem dX8_isLane_10 : decode cX8_isLane 10 = .ok (.invokestatic 58, 3) := by decide +kernel
theorem dX8_isLane_13 : decode cX8_isLane 13 = .ok (.ireturn, 1) := by decide +kernel
theorem dX8_pinsOf_0 : decode cX8_pinsOf 0 = .ok (.iconst 0, 1) := by decide +kernel
theorem dX8_pinsOf_1 : decode cX8_pinsOf 1 = .ok (.istore_n 2, 1) := by decide +kernel
theorem dX8_pinsOf_2 : decode cX8_pinsOf 2 = .ok (.iconst 0, 1) := by decide +kernel
theorem dX8_pinsOf_3 : decode cX8_pinsOf 3 = .ok (.istore_n 3, 1) := by decide +kernel
theorem dX8_pinsOf_4 : decode cX8_pinsOf 4 = .ok (.iload_n 3, 1) := by decide +kernel
theorem dX8_pinsOf_5 : decode cX8_pinsOf 5 = .ok (.aload_n 0, 1) := by decide +kernel
theorem dX8_pinsOf_6 : decode cX8_pinsOf 6 = .ok (.getfield 96, 3) := by decide +kernel
theorem dX8_pinsOf_9 : decode cX8_pinsOf 9 = .ok (.if_icmp .ge 29, 3) := by decide +kernel
theorem dX8_pinsOf_12 : decode cX8_pinsOf 12 = .ok (.iload_n 2, 1) := by decide +kernel
theorem dX8_pinsOf_13 : decode cX8_pinsOf 13 = .ok (.aload_n 0, 1) := by decide +kernel
theorem dX8_pinsOf_14 : decode cX8_pinsOf 14 = .ok (.getfield 22, 3) := by decide +kernel
theorem dX8_pinsOf_17 : decode cX8_pinsOf 17 = .ok (.iload_n 3, 1) := by decide +kernel
theorem dX8_pinsOf_18 : decode cX8_pinsOf 18 = .ok (.iaload, 1) := by decide +kernel
theorem dX8_pinsOf_19 : decode cX8_pinsOf 19 = .ok (.iload_n 1, 1) := by decide +kernel
theorem dX8_pinsOf_20 : decode cX8_pinsOf 20 = .ok (.if_icmp .ne 9, 3) := by decide +kernel
theorem dX8_pinsOf_23 : decode cX8_pinsOf 23 = .ok (.iconst 1, 1) := by decide +kernel
theorem dX8_pinsOf_24 : decode cX8_pinsOf 24 = .ok (.iload_n 3, 1) := by decide +kernel
theorem dX8_pinsOf_25 : decode cX8_pinsOf 25 = .ok (.ishl, 1) := by decide +kernel
theorem dX8_pinsOf_26 : decode cX8_pinsOf 26 = .ok (.goto 4, 3) := by decide +kernel
theorem dX8_pinsOf_29 : decode cX8_pinsOf 29 = .ok (.iconst 0, 1) := by decide +kernel
theorem dX8_pinsOf_30 : decode cX8_pinsOf 30 = .ok (.ior, 1) := by decide +kernel
theorem dX8_pinsOf_31 : decode cX8_pinsOf 31 = .ok (.istore_n 2, 1) := by decide +kernel
theorem dX8_pinsOf_32 : decode cX8_pinsOf 32 = .ok (.iinc 3 1, 3) := by decide +kernel
theorem dX8_pinsOf_35 : decode cX8_pinsOf 35 = .ok (.goto (-31), 3) := by decide +kernel
theorem dX8_pinsOf_38 : decode cX8_pinsOf 38 = .ok (.iload_n 2, 1) := by decide +kernel
theorem dX8_pinsOf_39 : decode cX8_pinsOf 39 = .ok (.ireturn, 1) := by decide +kernel
theorem dX8_canBe_0 : decode cX8_canBe 0 = .ok (.iload_n 3, 1) := by decide +kernel
theorem dX8_canBe_1 : decode cX8_canBe 1 = .ok (.aload_n 0, 1) := by decide +kernel
theorem dX8_canBe_2 : decode cX8_canBe 2 = .ok (.getfield 106, 3) := by decide +kernel
theorem dX8_canBe_5 : decode cX8_canBe 5 = .ok (.if_icmp .gt 17, 3) := by decide +kernel
theorem dX8_canBe_8 : decode cX8_canBe 8 = .ok (.iload_n 2, 1) := by decide +kernel
theorem dX8_canBe_9 : decode cX8_canBe 9 = .ok (.iload_n 3, 1) := by decide +kernel
theorem dX8_canBe_10 : decode cX8_canBe 10 = .ok (.iadd, 1) := by decide +kernel
theorem dX8_canBe_11 : decode cX8_canBe 11 = .ok (.aload_n 0, 1) := by decide +kernel
theorem dX8_canBe_12 : decode cX8_canBe 12 = .ok (.getfield 96, 3) := by decide +kernel
theorem dX8_canBe_15 : decode cX8_canBe 15 = .ok (.if_icmp .gt 7, 3) := by decide +kernel
theorem dX8_canBe_18 : decode cX8_canBe 18 = .ok (.iconst 1, 1) := by decide +kernel
theorem dX8_canBe_19 : decode cX8_canBe 19 = .ok (.goto 4, 3) := by decide +kernel
theorem dX8_canBe_22 : decode cX8_canBe 22 = .ok (.iconst 0, 1) := by decide +kernel
theorem dX8_canBe_23 : decode cX8_canBe 23 = .ok (.istore 4, 2) := by decide +kernel
theorem dX8_canBe_25 : decode cX8_canBe 25 = .ok (.iload_n 2, 1) := by decide +kernel
theorem dX8_canBe_26 : decode cX8_canBe 26 = .ok (.istore 5, 2) := by decide +kernel
theorem dX8_canBe_28 : decode cX8_canBe 28 = .ok (.iload 5, 2) := by decide +kernel
theorem dX8_canBe_30 : decode cX8_canBe 30 = .ok (.iload_n 2, 1) := by decide +kernel
theorem dX8_canBe_31 : decode cX8_canBe 31 = .ok (.iload_n 3, 1) := by decide +kernel
theorem dX8_canBe_32 : decode cX8_canBe 32 = .ok (.iadd, 1) := by decide +kernel
theorem dX8_canBe_33 : decode cX8_canBe 33 = .ok (.if_icmp .ge 74, 3) := by decide +kernel
theorem dX8_canBe_36 : decode cX8_canBe 36 = .ok (.iload 4, 2) := by decide +kernel
theorem dX8_canBe_38 : decode cX8_canBe 38 = .ok (.ifCond .eq 69, 3) := by decide +kernel
theorem dX8_canBe_41 : decode cX8_canBe 41 = .ok (.iload_n 1, 1) := by decide +kernel
theorem dX8_canBe_42 : decode cX8_canBe 42 = .ok (.iload 5, 2) := by decide +kernel
theorem dX8_canBe_44 : decode cX8_canBe 44 = .ok (.ishr, 1) := by decide +kernel
theorem dX8_canBe_45 : decode cX8_canBe 45 = .ok (.iconst 1, 1) := by decide +kernel
theorem dX8_canBe_46 : decode cX8_canBe 46 = .ok (.iand, 1) := by decide +kernel
theorem dX8_canBe_47 : decode cX8_canBe 47 = .ok (.iconst 1, 1) := by decide +kernel
theorem dX8_canBe_48 : decode cX8_canBe 48 = .ok (.if_icmp .ne 50, 3) := by decide +kernel
theorem dX8_canBe_51 : decode cX8_canBe 51 = .ok (.aload_n 0, 1) := by decide +kernel
theorem dX8_canBe_52 : decode cX8_canBe 52 = .ok (.getfield 22, 3) := by decide +kernel
theorem dX8_canBe_55 : decode cX8_canBe 55 = .ok (.iload 5, 2) := by decide +kernel
theorem dX8_canBe_57 : decode cX8_canBe 57 = .ok (.iaload, 1) := by decide +kernel
theorem dX8_canBe_58 : decode cX8_canBe 58 = .ok (.aload_n 0, 1) := by decide +kernel
theorem dX8_canBe_59 : decode cX8_canBe 59 = .ok (.getfield 22, 3) := by decide +kernel
theorem dX8_canBe_62 : decode cX8_canBe 62 = .ok (.iload_n 2, 1) := by decide +kernel
theorem dX8_canBe_63 : decode cX8_canBe 63 = .ok (.iaload, 1) := by decide +kernel
theorem dX8_canBe_64 : decode cX8_canBe 64 = .ok (.if_icmp .ne 34, 3) := by decide +kernel
theorem dX8_canBe_67 : decode cX8_canBe 67 = .ok (.aload_n 0, 1) := by decide +kernel
theorem dX8_canBe_68 : decode cX8_canBe 68 = .ok (.getfield 19, 3) := by decide +kernel
theorem dX8_canBe_71 : decode cX8_canBe 71 = .ok (.iload 5, 2) := by decide +kernel
theorem dX8_canBe_73 : decode cX8_canBe 73 = .ok (.iaload, 1) := by decide +kernel
theorem dX8_canBe_74 : decode cX8_canBe 74 = .ok (.iconst 3, 1) := by decide +kernel
theorem dX8_canBe_75 : decode cX8_canBe 75 = .ok (.if_icmp .eq 23, 3) := by decide +kernel
theorem dX8_canBe_78 : decode cX8_canBe 78 = .ok (.aload_n 0, 1) := by decide +kernel
theorem dX8_canBe_79 : decode cX8_canBe 79 = .ok (.getfield 19, 3) := by decide +kernel
theorem dX8_canBe_82 : decode cX8_canBe 82 = .ok (.iload 5, 2) := by decide +kernel
theorem dX8_canBe_84 : decode cX8_canBe 84 = .ok (.iaload, 1) := by decide +kernel
theorem dX8_canBe_85 : decode cX8_canBe 85 = .ok (.iconst 2, 1) := by decide +kernel
theorem dX8_canBe_86 : decode cX8_canBe 86 = .ok (.if_icmp .ne 8, 3) := by decide +kernel
theorem dX8_canBe_89 : decode cX8_canBe 89 = .ok (.iload_n 3, 1) := by decide +kernel
theorem dX8_canBe_90 : decode cX8_canBe 90 = .ok (.iconst 1, 1) := by decide +kernel
theorem dX8_canBe_91 : decode cX8_canBe 91 = .ok (.if_icmp .ne 7, 3) := by decide +kernel
theorem dX8_canBe_94 : decode cX8_canBe 94 = .ok (.iconst 1, 1) := by decide +kernel
theorem dX8_canBe_95 : decode cX8_canBe 95 = .ok (.goto 4, 3) := by decide +kernel
theorem dX8_canBe_98 : decode cX8_canBe 98 = .ok (.iconst 0, 1) := by decide +kernel
theorem dX8_canBe_99 : decode cX8_canBe 99 = .ok (.istore 4, 2) := by decide +kernel
theorem dX8_canBe_101 : decode cX8_canBe 101 = .ok (.iinc 5 1, 3) := by decide +kernel
theorem dX8_canBe_104 : decode cX8_canBe 104 = .ok (.goto (-76), 3) := by decide +kernel
theorem dX8_canBe_107 : decode cX8_canBe 107 = .ok (.iload 4, 2) := by decide +kernel
theorem dX8_canBe_109 : decode cX8_canBe 109 = .ok (.ireturn, 1) := by decide +kernel
theorem dX8_isLeaning_0 : decode cX8_isLeaning 0 = .ok (.aload_n 0, 1) := by decide +kernel
theorem dX8_isLeaning_1 : decode cX8_isLeaning 1 = .ok (.getfield 19, 3) := by decide +kernel
theorem dX8_isLeaning_4 : decode cX8_isLeaning 4 = .ok (.iload_n 1, 1) := by decide +kernel
theorem dX8_isLeaning_5 : decode cX8_isLeaning 5 = .ok (.iaload, 1) := by decide +kernel
theorem dX8_isLeaning_6 : decode cX8_isLeaning 6 = .ok (.iconst 1, 1) := by decide +kernel
theorem dX8_isLeaning_7 : decode cX8_isLeaning 7 = .ok (.if_icmp .eq 13, 3) := by decide +kernel
theorem dX8_isLeaning_10 : decode cX8_isLeaning 10 = .ok (.aload_n 0, 1) := by decide +kernel
theorem dX8_isLeaning_11 : decode cX8_isLeaning 11 = .ok (.getfield 19, 3) := by decide +kernel
theorem dX8_isLeaning_14 : decode cX8_isLeaning 14 = .ok (.iload_n 1, 1) := by decide +kernel
theorem dX8_isLeaning_15 : decode cX8_isLeaning 15 = .ok (.iaload, 1) := by decide +kernel
theorem dX8_isLeaning_16 : decode cX8_isLeaning 16 = .ok (.iconst 4, 1) := by decide +kernel
theorem dX8_isLeaning_17 : decode cX8_isLeaning 17 = .ok (.if_icmp .ne 7, 3) := by decide +kernel
theorem dX8_isLeaning_20 : decode cX8_isLeaning 20 = .ok (.iconst 1, 1) := by decide +kernel
theorem dX8_isLeaning_21 : decode cX8_isLeaning 21 = .ok (.goto 4, 3) := by decide +kernel
theorem dX8_isLeaning_24 : decode cX8_isLeaning 24 = .ok (.iconst 0, 1) := by decide +kernel
theorem dX8_isLeaning_25 : decode cX8_isLeaning 25 = .ok (.ireturn, 1) := by decide +kernel
set_option maxRecDepth 20000 in
theorem ggX8_isTaken_X8_in : GoodIn wsX8_isTaken wsX8_in := goodIn_r _ [7] (by decide +kernel) (by decide +kernel)
set_option maxRecDepth 20000 in
theorem gX8_isTaken_X8_in : GoodIn wsX8_isTaken (va_wsS RX8 58 yX8_in wsX8_in) := goodIn_app (goodIn_of _ (by decide +kernel)) ggX8_isTaken_X8_in
theorem dX8_isTaken_0 : decode cX8_isTaken 0 = .ok (.iload_n 2, 1) := by decide +kernel
theorem dX8_isTaken_1 : decode cX8_isTaken 1 = .ok (.i2l, 1) := by decide +kernel
theorem dX8_isTaken_2 : decode cX8_isTaken 2 = .ok (.lconst 0, 1) := by decide +kernel
theorem dX8_isTaken_3 : decode cX8_isTaken 3 = .ok (.aload_n 0, 1) := by decide +kernel
theorem dX8_isTaken_4 : decode cX8_isTaken 4 = .ok (.getfield 96, 3) := by decide +kernel
theorem dX8_isTaken_7 : decode cX8_isTaken 7 = .ok (.iconst 1, 1) := by decide +kernel
theorem dX8_isTaken_8 : decode cX8_isTaken 8 = .ok (.isub, 1) := by decide +kernel
theorem dX8_isTaken_9 : decode cX8_isTaken 9 = .ok (.i2l, 1) := by decide +kernel
theorem dX8_isTaken_10 : decode cX8_isTaken 10 = .ok (.invokestatic 58, 3) := by decide +kernel
theorem dX8_isTaken_13 : decode cX8_isTaken 13 = .ok (.ifCond .eq 42, 3) := by decide +kernel
theorem dX8_isTaken_16 : decode cX8_isTaken 16 = .ok (.aload_n 0, 1) := by decide +kernel
theorem dX8_isTaken_17 : decode cX8_isTaken 17 = .ok (.getfield 22, 3) := by decide +kernel
theorem dX8_isTaken_20 : decode cX8_isTaken 20 = .ok (.iload_n 2, 1) := by decide +kernel
theorem dX8_isTaken_21 : decode cX8_isTaken 21 = .ok (.iaload, 1) := by decide +kernel
theorem dX8_isTaken_22 : decode cX8_isTaken 22 = .ok (.aload_n 0, 1) := by decide +kernel
theorem dX8_isTaken_23 : decode cX8_isTaken 23 = .ok (.getfield 22, 3) := by decide +kernel
theorem dX8_isTaken_26 : decode cX8_isTaken 26 = .ok (.iload_n 1, 1) := by decide +kernel
theorem dX8_isTaken_27 : decode cX8_isTaken 27 = .ok (.iaload, 1) := by decide +kernel
theorem dX8_isTaken_28 : decode cX8_isTaken 28 = .ok (.if_icmp .ne 27, 3) := by decide +kernel
theorem dX8_isTaken_31 : decode cX8_isTaken 31 = .ok (.aload_n 0, 1) := by decide +kernel
theorem dX8_isTaken_32 : decode cX8_isTaken 32 = .ok (.getfield 19, 3) := by decide +kernel
theorem dX8_isTaken_35 : decode cX8_isTaken 35 = .ok (.iload_n 2, 1) := by decide +kernel
theorem dX8_isTaken_36 : decode cX8_isTaken 36 = .ok (.iaload, 1) := by decide +kernel
theorem dX8_isTaken_37 : decode cX8_isTaken 37 = .ok (.iconst 2, 1) := by decide +kernel
theorem dX8_isTaken_38 : decode cX8_isTaken 38 = .ok (.if_icmp .eq 17, 3) := by decide +kernel
theorem dX8_isTaken_41 : decode cX8_isTaken 41 = .ok (.aload_n 0, 1) := by decide +kernel
theorem dX8_isTaken_42 : decode cX8_isTaken 42 = .ok (.getfield 19, 3) := by decide +kernel
theorem dX8_isTaken_45 : decode cX8_isTaken 45 = .ok (.iload_n 2, 1) := by decide +kernel
theorem dX8_isTaken_46 : decode cX8_isTaken 46 = .ok (.iaload, 1) := by decide +kernel
theorem dX8_isTaken_47 : decode cX8_isTaken 47 = .ok (.iconst 3, 1) := by decide +kernel
theorem dX8_isTaken_48 : decode cX8_isTaken 48 = .ok (.if_icmp .eq 7, 3) := by decide +kernel
theorem dX8_isTaken_51 : decode cX8_isTaken 51 = .ok (.iconst 1, 1) := by decide +kernel
theorem dX8_isTaken_52 : decode cX8_isTaken 52 = .ok (.goto 4, 3) := by decide +kernel
theorem dX8_isTaken_55 : decode cX8_isTaken 55 = .ok (.iconst 0, 1) := by decide +kernel
theorem dX8_isTaken_56 : decode cX8_isTaken 56 = .ok (.ireturn, 1) := by decide +kernel
set_option maxRecDepth 20000 in
theorem ggX8_withAll_X8_isLeaning : GoodIn wsX8_withAll wsX8_isLeaning := goodIn_r _ [7, 2, 16, 17, 18, 19, 20, 21, 22, 23, 24, 25, 26, 27, 28, 29, 30, 31, 32, 33, 34, 35, 36, 37, 38, 39, 40, 41, 42, 43, 44, 45, 46, 47, 48, 49, 50] (by decide +kernel) (by decide +kernel)
set_option maxRecDepth 20000 in
theorem gX8_withAll_X8_isLeaning : GoodIn wsX8_withAll (wsV RX8 124 RX8 yX8_isLeaning wsX8_isLeaning) := goodIn_app (goodIn_of _ (by decide +kernel)) ggX8_withAll_X8_isLeaning
set_option maxRecDepth 20000 in
theorem ggX8_withAll_X8_isTaken : GoodIn wsX8_withAll wsX8_isTaken := goodIn_r _ [11, 1, 12, 2, 13, 14, 6, 15, 16, 17, 18, 19, 20, 21, 22, 23, 24, 25, 26, 27, 28, 29, 30, 31, 32, 33, 34, 35, 36, 37, 38, 39, 40, 41, 42, 43, 44, 45, 46, 47, 48, 49, 50] (by decide +kernel) (by decide +kernel)
set_option maxRecDepth 20000 in
theorem gX8_withAll_X8_isTaken : GoodIn wsX8_withAll (wsV RX8 127 RX8 yX8_isTaken wsX8_isTaken) := goodIn_app (goodIn_of _ (by decide +kernel)) ggX8_withAll_X8_isTaken
theorem dX8_withAll_0 : decode cX8_withAll 0 = .ok (.iload_n 2, 1) := by decide +kernel
theorem dX8_withAll_1 : decode cX8_withAll 1 = .ok (.istore_n 3, 1) := by decide +kernel
theorem dX8_withAll_2 : decode cX8_withAll 2 = .ok (.iconst 0, 1) := by decide +kernel
theorem dX8_withAll_3 : decode cX8_withAll 3 = .ok (.istore 4, 2) := by decide +kernel
theorem dX8_withAll_5 : decode cX8_withAll 5 = .ok (.iload_n 3, 1) := by decide +kernel
theorem dX8_withAll_6 : decode cX8_withAll 6 = .ok (.iload 4, 2) := by decide +kernel
theorem dX8_withAll_8 : decode cX8_withAll 8 = .ok (.if_icmp .eq 114, 3) := by decide +kernel
theorem dX8_withAll_11 : decode cX8_withAll 11 = .ok (.iload_n 3, 1) := by decide +kernel
theorem dX8_withAll_12 : decode cX8_withAll 12 = .ok (.istore 4, 2) := by decide +kernel
theorem dX8_withAll_14 : decode cX8_withAll 14 = .ok (.iconst 0, 1) := by decide +kernel
theorem dX8_withAll_15 : decode cX8_withAll 15 = .ok (.istore 5, 2) := by decide +kernel
theorem dX8_withAll_17 : decode cX8_withAll 17 = .ok (.iload 5, 2) := by decide +kernel
theorem dX8_withAll_19 : decode cX8_withAll 19 = .ok (.aload_n 0, 1) := by decide +kernel
theorem dX8_withAll_20 : decode cX8_withAll 20 = .ok (.getfield 96, 3) := by decide +kernel
theorem dX8_withAll_23 : decode cX8_withAll 23 = .ok (.if_icmp .ge 96, 3) := by decide +kernel
theorem dX8_withAll_26 : decode cX8_withAll 26 = .ok (.iload 4, 2) := by decide +kernel
theorem dX8_withAll_28 : decode cX8_withAll 28 = .ok (.iload 5, 2) := by decide +kernel
theorem dX8_withAll_30 : decode cX8_withAll 30 = .ok (.ishr, 1) := by decide +kernel
theorem dX8_withAll_31 : decode cX8_withAll 31 = .ok (.iconst 1, 1) := by decide +kernel
theorem dX8_withAll_32 : decode cX8_withAll 32 = .ok (.iand, 1) := by decide +kernel
theorem dX8_withAll_33 : decode cX8_withAll 33 = .ok (.iconst 1, 1) := by decide +kernel
theorem dX8_withAll_34 : decode cX8_withAll 34 = .ok (.if_icmp .ne 79, 3) := by decide +kernel
theorem dX8_withAll_37 : decode cX8_withAll 37 = .ok (.iload_n 3, 1) := by decide +kernel
theorem dX8_withAll_38 : decode cX8_withAll 38 = .ok (.aload_n 0, 1) := by decide +kernel
theorem dX8_withAll_39 : decode cX8_withAll 39 = .ok (.iload 5, 2) := by decide +kernel
theorem dX8_withAll_41 : decode cX8_withAll 41 = .ok (.invokevirtual 124, 3) := by decide +kernel
theorem dX8_withAll_44 : decode cX8_withAll 44 = .ok (.ifCond .eq 27, 3) := by decide +kernel
theorem dX8_withAll_47 : decode cX8_withAll 47 = .ok (.aload_n 0, 1) := by decide +kernel
theorem dX8_withAll_48 : decode cX8_withAll 48 = .ok (.iload 5, 2) := by decide +kernel
theorem dX8_withAll_50 : decode cX8_withAll 50 = .ok (.iload 5, 2) := by decide +kernel
theorem dX8_withAll_52 : decode cX8_withAll 52 = .ok (.iconst 1, 1) := by decide +kernel
theorem dX8_withAll_53 : decode cX8_withAll 53 = .ok (.iadd, 1) := by decide +kernel
theorem dX8_withAll_54 : decode cX8_withAll 54 = .ok (.invokevirtual 127, 3) := by decide +kernel
theorem dX8_withAll_57 : decode cX8_withAll 57 = .ok (.ifCond .eq 14, 3) := by decide +kernel
theorem dX8_withAll_60 : decode cX8_withAll 60 = .ok (.iconst 1, 1) := by decide +kernel
theorem dX8_withAll_61 : decode cX8_withAll 61 = .ok (.iload 5, 2) := by decide +kernel
theorem dX8_withAll_63 : decode cX8_withAll 63 = .ok (.iconst 1, 1) := by decide +kernel
theorem dX8_withAll_64 : decode cX8_withAll 64 = .ok (.iadd, 1) := by decide +kernel
theorem dX8_withAll_65 : decode cX8_withAll 65 = .ok (.ishl, 1) := by decide +kernel
theorem dX8_withAll_66 : decode cX8_withAll 66 = .ok (.iload_n 1, 1) := by decide +kernel
theorem dX8_withAll_67 : decode cX8_withAll 67 = .ok (.iand, 1) := by decide +kernel
theorem dX8_withAll_68 : decode cX8_withAll 68 = .ok (.goto 4, 3) := by decide +kernel
theorem dX8_withAll_71 : decode cX8_withAll 71 = .ok (.iconst 0, 1) := by decide +kernel
theorem dX8_withAll_72 : decode cX8_withAll 72 = .ok (.ior, 1) := by decide +kernel
theorem dX8_withAll_73 : decode cX8_withAll 73 = .ok (.istore_n 3, 1) := by decide +kernel
theorem dX8_withAll_74 : decode cX8_withAll 74 = .ok (.iload_n 3, 1) := by decide +kernel
theorem dX8_withAll_75 : decode cX8_withAll 75 = .ok (.aload_n 0, 1) := by decide +kernel
theorem dX8_withAll_76 : decode cX8_withAll 76 = .ok (.getfield 19, 3) := by decide +kernel
theorem dX8_withAll_79 : decode cX8_withAll 79 = .ok (.iload 5, 2) := by decide +kernel
theorem dX8_withAll_81 : decode cX8_withAll 81 = .ok (.iaload, 1) := by decide +kernel
theorem dX8_withAll_82 : decode cX8_withAll 82 = .ok (.iconst 4, 1) := by decide +kernel
theorem dX8_withAll_83 : decode cX8_withAll 83 = .ok (.if_icmp .ne 27, 3) := by decide +kernel
theorem dX8_withAll_86 : decode cX8_withAll 86 = .ok (.aload_n 0, 1) := by decide +kernel
theorem dX8_withAll_87 : decode cX8_withAll 87 = .ok (.iload 5, 2) := by decide +kernel
theorem dX8_withAll_89 : decode cX8_withAll 89 = .ok (.iload 5, 2) := by decide +kernel
theorem dX8_withAll_91 : decode cX8_withAll 91 = .ok (.iconst 1, 1) := by decide +kernel
theorem dX8_withAll_92 : decode cX8_withAll 92 = .ok (.isub, 1) := by decide +kernel
theorem dX8_withAll_93 : decode cX8_withAll 93 = .ok (.invokevirtual 127, 3) := by decide +kernel
theorem dX8_withAll_96 : decode cX8_withAll 96 = .ok (.ifCond .eq 14, 3) := by decide +kernel
theorem dX8_withAll_99 : decode cX8_withAll 99 = .ok (.iconst 1, 1) := by decide +kernel
theorem dX8_withAll_100 : decode cX8_withAll 100 = .ok (.iload 5, 2) := by decide +kernel
theorem dX8_withAll_102 : decode cX8_withAll 102 = .ok (.iconst 1, 1) := by decide +kernel
theorem dX8_withAll_103 : decode cX8_withAll 103 = .ok (.isub, 1) := by decide +kernel
theorem dX8_withAll_104 : decode cX8_withAll 104 = .ok (.ishl, 1) := by decide +kernel
theorem dX8_withAll_105 : decode cX8_withAll 105 = .ok (.iload_n 1, 1) := by decide +kernel
theorem dX8_withAll_106 : decode cX8_withAll 106 = .ok (.iand, 1) := by decide +kernel
theorem dX8_withAll_107 : decode cX8_withAll 107 = .ok (.goto 4, 3) := by decide +kernel
theorem dX8_withAll_110 : decode cX8_withAll 110 = .ok (.iconst 0, 1) := by decide +kernel
theorem dX8_withAll_111 : decode cX8_withAll 111 = .ok (.ior, 1) := by decide +kernel
theorem dX8_withAll_112 : decode cX8_withAll 112 = .ok (.istore_n 3, 1) := by decide +kernel
theorem dX8_withAll_113 : decode cX8_withAll 113 = .ok (.iinc 5 1, 3) := by decide +kernel
theorem dX8_withAll_116 : decode cX8_withAll 116 = .ok (.goto (-99), 3) := by decide +kernel
theorem dX8_withAll_119 : decode cX8_withAll 119 = .ok (.goto (-114), 3) := by decide +kernel
theorem dX8_withAll_122 : decode cX8_withAll 122 = .ok (.iload_n 3, 1) := by decide +kernel
theorem dX8_withAll_123 : decode cX8_withAll 123 = .ok (.ireturn, 1) := by decide +kernel
set_option maxRecDepth 20000 in
theorem ggX8_fallsOf_X8_withAll : GoodIn wsX8_fallsOf wsX8_withAll := goodIn_r _ [5, 6, 7, 8, 9, 10, 4, 11, 12, 13, 14, 15, 16, 17, 18, 19, 20, 21, 22, 23, 24, 25, 26, 27, 28, 29, 30, 31, 32, 33, 34, 35, 36, 37, 38, 39, 40, 41, 42, 43, 44, 45, 46, 47, 48, 49, 50, 51, 52, 53, 54] (by decide +kernel) (by decide +kernel)
set_option maxRecDepth 20000 in
theorem gX8_fallsOf_X8_withAll : GoodIn wsX8_fallsOf (wsV RX8 131 RX8 yX8_withAll wsX8_withAll) := goodIn_app (goodIn_of _ (by decide +kernel)) ggX8_fallsOf_X8_withAll
theorem dX8_fallsOf_0 : decode cX8_fallsOf 0 = .ok (.aload_n 0, 1) := by decide +kernel
theorem dX8_fallsOf_1 : decode cX8_fallsOf 1 = .ok (.iload_n 1, 1) := by decide +kernel
theorem dX8_fallsOf_2 : decode cX8_fallsOf 2 = .ok (.iconst 1, 1) := by decide +kernel
theorem dX8_fallsOf_3 : decode cX8_fallsOf 3 = .ok (.iload_n 3, 1) := by decide +kernel
theorem dX8_fallsOf_4 : decode cX8_fallsOf 4 = .ok (.ishl, 1) := by decide +kernel
theorem dX8_fallsOf_5 : decode cX8_fallsOf 5 = .ok (.iconst 1, 1) := by decide +kernel
theorem dX8_fallsOf_6 : decode cX8_fallsOf 6 = .ok (.isub, 1) := by decide +kernel
theorem dX8_fallsOf_7 : decode cX8_fallsOf 7 = .ok (.iload_n 2, 1) := by decide +kernel
theorem dX8_fallsOf_8 : decode cX8_fallsOf 8 = .ok (.ishl, 1) := by decide +kernel
theorem dX8_fallsOf_9 : decode cX8_fallsOf 9 = .ok (.invokevirtual 131, 3) := by decide +kernel
theorem dX8_fallsOf_12 : decode cX8_fallsOf 12 = .ok (.ireturn, 1) := by decide +kernel
set_option maxRecDepth 20000 in
theorem ggX8_leftBy_X8_canBe : GoodIn wsX8_leftBy wsX8_canBe := goodIn_r _ [5, 6, 7, 8, 9, 29, 30, 31, 32, 33, 34, 35, 36, 37, 38, 39, 40, 41, 42, 43, 44, 45, 46, 47, 48, 49, 50, 51, 52, 53, 54, 55, 56, 57, 58, 59, 60, 61, 62, 63] (by decide +kernel) (by decide +kernel)
set_option maxRecDepth 20000 in
theorem gX8_leftBy_X8_canBe : GoodIn wsX8_leftBy (wsV RX8 135 RX8 yX8_canBe wsX8_canBe) := goodIn_app (goodIn_of _ (by decide +kernel)) ggX8_leftBy_X8_canBe
set_option maxRecDepth 20000 in
theorem ggX8_leftBy_X8_fallsOf : GoodIn wsX8_leftBy wsX8_fallsOf := goodIn_r _ [13, 14, 15, 16, 4, 17, 7, 9, 18, 19, 20, 21, 22, 23, 24, 25, 8, 26, 27, 28, 29, 30, 31, 32, 33, 34, 35, 36, 37, 38, 39, 40, 41, 42, 43, 44, 45, 46, 47, 48, 49, 50, 51, 52, 53, 54, 55, 56, 57, 58, 59, 60, 61, 62, 63] (by decide +kernel) (by decide +kernel)
set_option maxRecDepth 20000 in
theorem gX8_leftBy_X8_fallsOf : GoodIn wsX8_leftBy (wsV RX8 139 RX8 yX8_fallsOf wsX8_fallsOf) := goodIn_app (goodIn_of _ (by decide +kernel)) ggX8_leftBy_X8_fallsOf
theorem dX8_leftBy_0 : decode cX8_leftBy 0 = .ok (.iload_n 2, 1) := by decide +kernel
theorem dX8_leftBy_1 : decode cX8_leftBy 1 = .ok (.iconst 3, 1) := by decide +kernel
theorem dX8_leftBy_2 : decode cX8_leftBy 2 = .ok (.idiv, 1) := by decide +kernel
theorem dX8_leftBy_3 : decode cX8_leftBy 3 = .ok (.istore_n 3, 1) := by decide +kernel
theorem dX8_leftBy_4 : decode cX8_leftBy 4 = .ok (.iload_n 2, 1) := by decide +kernel
theorem dX8_leftBy_5 : decode cX8_leftBy 5 = .ok (.iconst 3, 1) := by decide +kernel
theorem dX8_leftBy_6 : decode cX8_leftBy 6 = .ok (.irem, 1) := by decide +kernel
theorem dX8_leftBy_7 : decode cX8_leftBy 7 = .ok (.iconst 1, 1) := by decide +kernel
theorem dX8_leftBy_8 : decode cX8_leftBy 8 = .ok (.iadd, 1) := by decide +kernel
theorem dX8_leftBy_9 : decode cX8_leftBy 9 = .ok (.istore 4, 2) := by decide +kernel
theorem dX8_leftBy_11 : decode cX8_leftBy 11 = .ok (.aload_n 0, 1) := by decide +kernel
theorem dX8_leftBy_12 : decode cX8_leftBy 12 = .ok (.iload_n 1, 1) := by decide +kernel
theorem dX8_leftBy_13 : decode cX8_leftBy 13 = .ok (.iload_n 3, 1) := by decide +kernel
theorem dX8_leftBy_14 : decode cX8_leftBy 14 = .ok (.iload 4, 2) := by decide +kernel
theorem dX8_leftBy_16 : decode cX8_leftBy 16 = .ok (.invokevirtual 135, 3) := by decide +kernel
theorem dX8_leftBy_19 : decode cX8_leftBy 19 = .ok (.ifCond .eq 18, 3) := by decide +kernel
theorem dX8_leftBy_22 : decode cX8_leftBy 22 = .ok (.iload_n 1, 1) := by decide +kernel
theorem dX8_leftBy_23 : decode cX8_leftBy 23 = .ok (.aload_n 0, 1) := by decide +kernel
theorem dX8_leftBy_24 : decode cX8_leftBy 24 = .ok (.iload_n 1, 1) := by decide +kernel
theorem dX8_leftBy_25 : decode cX8_leftBy 25 = .ok (.iload_n 3, 1) := by decide +kernel
theorem dX8_leftBy_26 : decode cX8_leftBy 26 = .ok (.iload 4, 2) := by decide +kernel
theorem dX8_leftBy_28 : decode cX8_leftBy 28 = .ok (.invokevirtual 139, 3) := by decide +kernel
theorem dX8_leftBy_31 : decode cX8_leftBy 31 = .ok (.iconst (-1), 1) := by decide +kernel
theorem dX8_leftBy_32 : decode cX8_leftBy 32 = .ok (.ixor, 1) := by decide +kernel
theorem dX8_leftBy_33 : decode cX8_leftBy 33 = .ok (.iand, 1) := by decide +kernel
theorem dX8_leftBy_34 : decode cX8_leftBy 34 = .ok (.goto 4, 3) := by decide +kernel
theorem dX8_leftBy_37 : decode cX8_leftBy 37 = .ok (.iconst (-1), 1) := by decide +kernel
theorem dX8_leftBy_38 : decode cX8_leftBy 38 = .ok (.ireturn, 1) := by decide +kernel
set_option maxRecDepth 20000 in
theorem ggX8_strikesOf_X8_leftBy : GoodIn wsX8_strikesOf wsX8_leftBy := goodIn_r _ [6, 7, 8, 9, 5, 10, 11, 1, 12, 13, 14, 15, 16, 17, 18, 19, 20, 21, 22, 23, 24, 25, 26, 27, 28, 29, 30, 31, 32, 33, 34, 35, 36, 37, 38, 39, 40, 41, 42, 43, 44, 45, 46, 47, 48, 49, 50, 51, 52, 53, 54, 55, 56, 57, 58, 59, 60, 61, 62, 63, 64, 65, 66, 67] (by decide +kernel) (by decide +kernel)
set_option maxRecDepth 20000 in
theorem gX8_strikesOf_X8_leftBy : GoodIn wsX8_strikesOf (wsV RX8 143 RX8 yX8_leftBy wsX8_leftBy) := goodIn_app (goodIn_of _ (by decide +kernel)) ggX8_strikesOf_X8_leftBy
theorem dX8_strikesOf_0 : decode cX8_strikesOf 0 = .ok (.iconst 0, 1) := by decide +kernel
theorem dX8_strikesOf_1 : decode cX8_strikesOf 1 = .ok (.istore_n 2, 1) := by decide +kernel
theorem dX8_strikesOf_2 : decode cX8_strikesOf 2 = .ok (.iconst 0, 1) := by decide +kernel
theorem dX8_strikesOf_3 : decode cX8_strikesOf 3 = .ok (.istore_n 3, 1) := by decide +kernel
theorem dX8_strikesOf_4 : decode cX8_strikesOf 4 = .ok (.iload_n 3, 1) := by decide +kernel
theorem dX8_strikesOf_5 : decode cX8_strikesOf 5 = .ok (.iconst 3, 1) := by decide +kernel
theorem dX8_strikesOf_6 : decode cX8_strikesOf 6 = .ok (.aload_n 0, 1) := by decide +kernel
theorem dX8_strikesOf_7 : decode cX8_strikesOf 7 = .ok (.getfield 96, 3) := by decide +kernel
theorem dX8_strikesOf_10 : decode cX8_strikesOf 10 = .ok (.imul, 1) := by decide +kernel
theorem dX8_strikesOf_11 : decode cX8_strikesOf 11 = .ok (.if_icmp .ge 27, 3) := by decide +kernel
theorem dX8_strikesOf_14 : decode cX8_strikesOf 14 = .ok (.iload_n 2, 1) := by decide +kernel
theorem dX8_strikesOf_15 : decode cX8_strikesOf 15 = .ok (.aload_n 0, 1) := by decide +kernel
theorem dX8_strikesOf_16 : decode cX8_strikesOf 16 = .ok (.iload_n 1, 1) := by decide +kernel
theorem dX8_strikesOf_17 : decode cX8_strikesOf 17 = .ok (.iload_n 3, 1) := by decide +kernel
theorem dX8_strikesOf_18 : decode cX8_strikesOf 18 = .ok (.invokevirtual 143, 3) := by decide +kernel
theorem dX8_strikesOf_21 : decode cX8_strikesOf 21 = .ok (.iconst (-1), 1) := by decide +kernel
theorem dX8_strikesOf_22 : decode cX8_strikesOf 22 = .ok (.if_icmp .ne 7, 3) := by decide +kernel
theorem dX8_strikesOf_25 : decode cX8_strikesOf 25 = .ok (.iconst 0, 1) := by decide +kernel
theorem dX8_strikesOf_26 : decode cX8_strikesOf 26 = .ok (.goto 4, 3) := by decide +kernel
theorem dX8_strikesOf_29 : decode cX8_strikesOf 29 = .ok (.iconst 1, 1) := by decide +kernel
theorem dX8_strikesOf_30 : decode cX8_strikesOf 30 = .ok (.iadd, 1) := by decide +kernel
theorem dX8_strikesOf_31 : decode cX8_strikesOf 31 = .ok (.istore_n 2, 1) := by decide +kernel
theorem dX8_strikesOf_32 : decode cX8_strikesOf 32 = .ok (.iinc 3 1, 3) := by decide +kernel
theorem dX8_strikesOf_35 : decode cX8_strikesOf 35 = .ok (.goto (-31), 3) := by decide +kernel
theorem dX8_strikesOf_38 : decode cX8_strikesOf 38 = .ok (.iload_n 2, 1) := by decide +kernel
theorem dX8_strikesOf_39 : decode cX8_strikesOf 39 = .ok (.ireturn, 1) := by decide +kernel
theorem dX8_leastNot_0 : decode cX8_leastNot 0 = .ok (.iconst 0, 1) := by decide +kernel
theorem dX8_leastNot_1 : decode cX8_leastNot 1 = .ok (.istore_n 2, 1) := by decide +kernel
theorem dX8_leastNot_2 : decode cX8_leastNot 2 = .ok (.lload_n 0, 1) := by decide +kernel
theorem dX8_leastNot_3 : decode cX8_leastNot 3 = .ok (.iload_n 2, 1) := by decide +kernel
theorem dX8_leastNot_4 : decode cX8_leastNot 4 = .ok (.lshr, 1) := by decide +kernel
theorem dX8_leastNot_5 : decode cX8_leastNot 5 = .ok (.lconst 1, 1) := by decide +kernel
theorem dX8_leastNot_6 : decode cX8_leastNot 6 = .ok (.land, 1) := by decide +kernel
theorem dX8_leastNot_7 : decode cX8_leastNot 7 = .ok (.lconst 1, 1) := by decide +kernel
theorem dX8_leastNot_8 : decode cX8_leastNot 8 = .ok (.lcmp, 1) := by decide +kernel
theorem dX8_leastNot_9 : decode cX8_leastNot 9 = .ok (.ifCond .ne 9, 3) := by decide +kernel
theorem dX8_leastNot_12 : decode cX8_leastNot 12 = .ok (.iinc 2 1, 3) := by decide +kernel
theorem dX8_leastNot_15 : decode cX8_leastNot 15 = .ok (.goto (-13), 3) := by decide +kernel
theorem dX8_leastNot_18 : decode cX8_leastNot 18 = .ok (.iload_n 2, 1) := by decide +kernel
theorem dX8_leastNot_19 : decode cX8_leastNot 19 = .ok (.ireturn, 1) := by decide +kernel
set_option maxRecDepth 20000 in
theorem ggX8_numberOf_X8_pinsOf : GoodIn wsX8_numberOf wsX8_pinsOf := goodIn_r _ [8, 1, 9, 42, 43, 44, 45, 46, 47, 48, 49, 50, 51, 52, 53, 54, 55, 56, 57, 58, 59, 60, 61, 62, 63, 64, 65, 66, 67, 68, 69, 70, 71, 72, 73, 74, 75, 76] (by decide +kernel) (by decide +kernel)
set_option maxRecDepth 20000 in
theorem gX8_numberOf_X8_pinsOf : GoodIn wsX8_numberOf (wsV RX8 146 RX8 yX8_pinsOf wsX8_pinsOf) := goodIn_app (goodIn_of _ (by decide +kernel)) ggX8_numberOf_X8_pinsOf
set_option maxRecDepth 20000 in
theorem ggX8_numberOf_X8_leftBy : GoodIn wsX8_numberOf wsX8_leftBy := goodIn_r _ [13, 14, 15, 16, 7, 17, 18, 1, 9, 19, 20, 21, 22, 23, 24, 25, 26, 27, 28, 29, 30, 31, 32, 33, 34, 35, 36, 37, 38, 42, 43, 44, 45, 46, 47, 48, 49, 50, 51, 52, 53, 54, 55, 56, 57, 58, 59, 60, 61, 62, 63, 64, 65, 66, 67, 68, 69, 70, 71, 72, 73, 74, 75, 76] (by decide +kernel) (by decide +kernel)
set_option maxRecDepth 20000 in
theorem gX8_numberOf_X8_leftBy : GoodIn wsX8_numberOf (wsV RX8 143 RX8 yX8_leftBy wsX8_leftBy) := goodIn_app (goodIn_of _ (by decide +kernel)) ggX8_numberOf_X8_leftBy
set_option maxRecDepth 20000 in
theorem ggX8_numberOf_X8_leastNot : GoodIn wsX8_numberOf wsX8_leastNot := goodIn_r _ [41] (by decide +kernel) (by decide +kernel)
set_option maxRecDepth 20000 in
theorem gX8_numberOf_X8_leastNot : GoodIn wsX8_numberOf (va_wsS RX8 149 yX8_leastNot wsX8_leastNot) := goodIn_app (goodIn_of _ (by decide +kernel)) ggX8_numberOf_X8_leastNot
theorem dX8_numberOf_0 : decode cX8_numberOf 0 = .ok (.aload_n 0, 1) := by decide +kernel
theorem dX8_numberOf_1 : decode cX8_numberOf 1 = .ok (.iload_n 1, 1) := by decide +kernel
theorem dX8_numberOf_2 : decode cX8_numberOf 2 = .ok (.invokevirtual 146, 3) := by decide +kernel
theorem dX8_numberOf_5 : decode cX8_numberOf 5 = .ok (.istore_n 2, 1) := by decide +kernel
theorem dX8_numberOf_6 : decode cX8_numberOf 6 = .ok (.iconst 0, 1) := by decide +kernel
theorem dX8_numberOf_7 : decode cX8_numberOf 7 = .ok (.istore_n 3, 1) := by decide +kernel
theorem dX8_numberOf_8 : decode cX8_numberOf 8 = .ok (.iload_n 3, 1) := by decide +kernel
theorem dX8_numberOf_9 : decode cX8_numberOf 9 = .ok (.sipush 512, 3) := by decide +kernel
theorem dX8_numberOf_12 : decode cX8_numberOf 12 = .ok (.if_icmp .ge 84, 3) := by decide +kernel
theorem dX8_numberOf_15 : decode cX8_numberOf 15 = .ok (.iload_n 3, 1) := by decide +kernel
theorem dX8_numberOf_16 : decode cX8_numberOf 16 = .ok (.iload_n 2, 1) := by decide +kernel
theorem dX8_numberOf_17 : decode cX8_numberOf 17 = .ok (.iconst (-1), 1) := by decide +kernel
theorem dX8_numberOf_18 : decode cX8_numberOf 18 = .ok (.ixor, 1) := by decide +kernel
theorem dX8_numberOf_19 : decode cX8_numberOf 19 = .ok (.iand, 1) := by decide +kernel
theorem dX8_numberOf_20 : decode cX8_numberOf 20 = .ok (.ifCond .ne 70, 3) := by decide +kernel
theorem dX8_numberOf_23 : decode cX8_numberOf 23 = .ok (.lconst 0, 1) := by decide +kernel
theorem dX8_numberOf_24 : decode cX8_numberOf 24 = .ok (.lstore 4, 2) := by decide +kernel
theorem dX8_numberOf_26 : decode cX8_numberOf 26 = .ok (.iconst 0, 1) := by decide +kernel
theorem dX8_numberOf_27 : decode cX8_numberOf 27 = .ok (.istore 6, 2) := by decide +kernel
theorem dX8_numberOf_29 : decode cX8_numberOf 29 = .ok (.iload 6, 2) := by decide +kernel
theorem dX8_numberOf_31 : decode cX8_numberOf 31 = .ok (.iconst 3, 1) := by decide +kernel
theorem dX8_numberOf_32 : decode cX8_numberOf 32 = .ok (.aload_n 0, 1) := by decide +kernel
theorem dX8_numberOf_33 : decode cX8_numberOf 33 = .ok (.getfield 96, 3) := by decide +kernel
theorem dX8_numberOf_36 : decode cX8_numberOf 36 = .ok (.imul, 1) := by decide +kernel
theorem dX8_numberOf_37 : decode cX8_numberOf 37 = .ok (.if_icmp .ge 42, 3) := by decide +kernel
theorem dX8_numberOf_40 : decode cX8_numberOf 40 = .ok (.aload_n 0, 1) := by decide +kernel
theorem dX8_numberOf_41 : decode cX8_numberOf 41 = .ok (.iload_n 3, 1) := by decide +kernel
theorem dX8_numberOf_42 : decode cX8_numberOf 42 = .ok (.iload 6, 2) := by decide +kernel
theorem dX8_numberOf_44 : decode cX8_numberOf 44 = .ok (.invokevirtual 143, 3) := by decide +kernel
theorem dX8_numberOf_47 : decode cX8_numberOf 47 = .ok (.istore 7, 2) := by decide +kernel
theorem dX8_numberOf_49 : decode cX8_numberOf 49 = .ok (.lload 4, 2) := by decide +kernel
theorem dX8_numberOf_51 : decode cX8_numberOf 51 = .ok (.iload 7, 2) := by decide +kernel
theorem dX8_numberOf_53 : decode cX8_numberOf 53 = .ok (.iconst (-1), 1) := by decide +kernel
theorem dX8_numberOf_54 : decode cX8_numberOf 54 = .ok (.if_icmp .ne 7, 3) := by decide +kernel
theorem dX8_numberOf_57 : decode cX8_numberOf 57 = .ok (.lconst 0, 1) := by decide +kernel
theorem dX8_numberOf_58 : decode cX8_numberOf 58 = .ok (.goto 12, 3) := by decide +kernel
theorem dX8_numberOf_61 : decode cX8_numberOf 61 = .ok (.lconst 1, 1) := by decide +kernel
theorem dX8_numberOf_62 : decode cX8_numberOf 62 = .ok (.aload_n 0, 1) := by decide +kernel
theorem dX8_numberOf_63 : decode cX8_numberOf 63 = .ok (.getfield 25, 3) := by decide +kernel
theorem dX8_numberOf_66 : decode cX8_numberOf 66 = .ok (.iload 7, 2) := by decide +kernel
theorem dX8_numberOf_68 : decode cX8_numberOf 68 = .ok (.iaload, 1) := by decide +kernel
theorem dX8_numberOf_69 : decode cX8_numberOf 69 = .ok (.lshl, 1) := by decide +kernel
theorem dX8_numberOf_70 : decode cX8_numberOf 70 = .ok (.lor, 1) := by decide +kernel
theorem dX8_numberOf_71 : decode cX8_numberOf 71 = .ok (.lstore 4, 2) := by decide +kernel
theorem dX8_numberOf_73 : decode cX8_numberOf 73 = .ok (.iinc 6 1, 3) := by decide +kernel
theorem dX8_numberOf_76 : decode cX8_numberOf 76 = .ok (.goto (-47), 3) := by decide +kernel
theorem dX8_numberOf_79 : decode cX8_numberOf 79 = .ok (.aload_n 0, 1) := by decide +kernel
theorem dX8_numberOf_80 : decode cX8_numberOf 80 = .ok (.getfield 25, 3) := by decide +kernel
theorem dX8_numberOf_83 : decode cX8_numberOf 83 = .ok (.iload_n 3, 1) := by decide +kernel
theorem dX8_numberOf_84 : decode cX8_numberOf 84 = .ok (.lload 4, 2) := by decide +kernel
theorem dX8_numberOf_86 : decode cX8_numberOf 86 = .ok (.invokestatic 149, 3) := by decide +kernel
theorem dX8_numberOf_89 : decode cX8_numberOf 89 = .ok (.iastore, 1) := by decide +kernel
theorem dX8_numberOf_90 : decode cX8_numberOf 90 = .ok (.iinc 3 1, 3) := by decide +kernel
theorem dX8_numberOf_93 : decode cX8_numberOf 93 = .ok (.goto (-85), 3) := by decide +kernel
theorem dX8_numberOf_96 : decode cX8_numberOf 96 = .ok (.aload_n 0, 1) := by decide +kernel
theorem dX8_numberOf_97 : decode cX8_numberOf 97 = .ok (.getfield 25, 3) := by decide +kernel
theorem dX8_numberOf_100 : decode cX8_numberOf 100 = .ok (.aload_n 0, 1) := by decide +kernel
theorem dX8_numberOf_101 : decode cX8_numberOf 101 = .ok (.getfield 112, 3) := by decide +kernel
theorem dX8_numberOf_104 : decode cX8_numberOf 104 = .ok (.iload_n 2, 1) := by decide +kernel
theorem dX8_numberOf_105 : decode cX8_numberOf 105 = .ok (.iand, 1) := by decide +kernel
theorem dX8_numberOf_106 : decode cX8_numberOf 106 = .ok (.iaload, 1) := by decide +kernel
theorem dX8_numberOf_107 : decode cX8_numberOf 107 = .ok (.ireturn, 1) := by decide +kernel
set_option maxRecDepth 20000 in
theorem ggX8_numberOfAll_X8_numberOf : GoodIn wsX8_numberOfAll wsX8_numberOf := goodIn_r _ [6, 7, 8, 9, 10, 11, 12, 5, 13, 14, 15, 16, 17, 18, 19, 20, 21, 22, 23, 24, 25, 26, 27, 28, 29, 30, 31, 32, 33, 34, 35, 36, 37, 38, 39, 40, 41, 42, 43, 44, 45, 46, 47, 48, 49, 50, 51, 52, 53, 54, 55, 56, 57, 58, 59, 60, 61, 62, 63, 64, 65, 66, 67, 68, 69, 70, 71, 72, 73, 74, 75, 76, 77, 78, 79, 80, 81] (by decide +kernel) (by decide +kernel)
set_option maxRecDepth 20000 in
theorem gX8_numberOfAll_X8_numberOf : GoodIn wsX8_numberOfAll (wsV RX8 153 RX8 yX8_numberOf wsX8_numberOf) := goodIn_app (goodIn_of _ (by decide +kernel)) ggX8_numberOfAll_X8_numberOf
theorem dX8_numberOfAll_0 : decode cX8_numberOfAll 0 = .ok (.iconst 0, 1) := by decide +kernel
theorem dX8_numberOfAll_1 : decode cX8_numberOfAll 1 = .ok (.istore_n 1, 1) := by decide +kernel
theorem dX8_numberOfAll_2 : decode cX8_numberOfAll 2 = .ok (.iconst 0, 1) := by decide +kernel
theorem dX8_numberOfAll_3 : decode cX8_numberOfAll 3 = .ok (.istore_n 2, 1) := by decide +kernel
theorem dX8_numberOfAll_4 : decode cX8_numberOfAll 4 = .ok (.iload_n 2, 1) := by decide +kernel
theorem dX8_numberOfAll_5 : decode cX8_numberOfAll 5 = .ok (.aload_n 0, 1) := by decide +kernel
theorem dX8_numberOfAll_6 : decode cX8_numberOfAll 6 = .ok (.getfield 99, 3) := by decide +kernel
theorem dX8_numberOfAll_9 : decode cX8_numberOfAll 9 = .ok (.if_icmp .ge 17, 3) := by decide +kernel
theorem dX8_numberOfAll_12 : decode cX8_numberOfAll 12 = .ok (.iload_n 1, 1) := by decide +kernel
theorem dX8_numberOfAll_13 : decode cX8_numberOfAll 13 = .ok (.aload_n 0, 1) := by decide +kernel
theorem dX8_numberOfAll_14 : decode cX8_numberOfAll 14 = .ok (.iload_n 2, 1) := by decide +kernel
theorem dX8_numberOfAll_15 : decode cX8_numberOfAll 15 = .ok (.invokevirtual 153, 3) := by decide +kernel
theorem dX8_numberOfAll_18 : decode cX8_numberOfAll 18 = .ok (.ixor, 1) := by decide +kernel
theorem dX8_numberOfAll_19 : decode cX8_numberOfAll 19 = .ok (.istore_n 1, 1) := by decide +kernel
theorem dX8_numberOfAll_20 : decode cX8_numberOfAll 20 = .ok (.iinc 2 1, 3) := by decide +kernel
theorem dX8_numberOfAll_23 : decode cX8_numberOfAll 23 = .ok (.goto (-19), 3) := by decide +kernel
theorem dX8_numberOfAll_26 : decode cX8_numberOfAll 26 = .ok (.iload_n 1, 1) := by decide +kernel
theorem dX8_numberOfAll_27 : decode cX8_numberOfAll 27 = .ok (.ireturn, 1) := by decide +kernel
set_option maxRecDepth 20000 in
theorem ggX8_number_X8_lacks : GoodIn wsX8_number wsX8_lacks := goodIn_r _ [5, 6, 55, 56, 57, 58, 59, 60, 61, 62, 63, 64, 65, 66, 67, 68, 69, 70, 71, 72, 73, 74, 75, 76, 77, 78, 79, 80, 81, 82, 83, 84, 85, 86, 87, 88, 89] (by decide +kernel) (by decide +kernel)
set_option maxRecDepth 20000 in
theorem gX8_number_X8_lacks : GoodIn wsX8_number (wsV RX8 156 RX8 yX8_lacks wsX8_lacks) := goodIn_app (goodIn_of _ (by decide +kernel)) ggX8_number_X8_lacks
set_option maxRecDepth 20000 in
theorem ggX8_number_X8_numberOfAll : GoodIn wsX8_number wsX8_numberOfAll := goodIn_r _ [10, 11, 12, 13, 14, 4, 15, 6, 16, 17, 18, 19, 20, 21, 22, 23, 24, 25, 26, 27, 28, 29, 30, 31, 32, 33, 34, 35, 36, 37, 38, 39, 40, 41, 42, 43, 44, 45, 46, 47, 48, 49, 50, 51, 52, 53, 54, 55, 56, 57, 58, 59, 60, 61, 62, 63, 64, 65, 66, 67, 68, 69, 70, 71, 72, 73, 74, 75, 76, 77, 78, 79, 80, 81, 82, 83, 84, 85, 86, 87, 88, 89] (by decide +kernel) (by decide +kernel)
set_option maxRecDepth 20000 in
theorem gX8_number_X8_numberOfAll : GoodIn wsX8_number (wsV RX8 160 RX8 yX8_numberOfAll wsX8_numberOfAll) := goodIn_app (goodIn_of _ (by decide +kernel)) ggX8_number_X8_numberOfAll
theorem dX8_number_0 : decode cX8_number 0 = .ok (.aload_n 0, 1) := by decide +kernel
theorem dX8_number_1 : decode cX8_number 1 = .ok (.invokevirtual 156, 3) := by decide +kernel
theorem dX8_number_4 : decode cX8_number 4 = .ok (.ifCond .eq 8, 3) := by decide +kernel
theorem dX8_number_7 : decode cX8_number 7 = .ok (.bipush (-103), 2) := by decide +kernel
theorem dX8_number_9 : decode cX8_number 9 = .ok (.goto 7, 3) := by decide +kernel
theorem dX8_number_12 : decode cX8_number 12 = .ok (.aload_n 0, 1) := by decide +kernel
theorem dX8_number_13 : decode cX8_number 13 = .ok (.invokevirtual 160, 3) := by decide +kernel
theorem dX8_number_16 : decode cX8_number 16 = .ok (.ireturn, 1) := by decide +kernel
set_option maxRecDepth 20000 in
theorem ggX8_layRows_X8_leastNot : GoodIn wsX8_layRows wsX8_leastNot := goodIn_r _ [6] (by decide +kernel) (by decide +kernel)
set_option maxRecDepth 20000 in
theorem gX8_layRows_X8_leastNot : GoodIn wsX8_layRows (va_wsS RX8 149 yX8_leastNot wsX8_leastNot) := goodIn_app (goodIn_of _ (by decide +kernel)) ggX8_layRows_X8_leastNot
theorem dX8_layRows_0 : decode cX8_layRows 0 = .ok (.iconst 0, 1) := by decide +kernel
theorem dX8_layRows_1 : decode cX8_layRows 1 = .ok (.istore_n 1, 1) := by decide +kernel
theorem dX8_layRows_2 : decode cX8_layRows 2 = .ok (.iload_n 1, 1) := by decide +kernel
theorem dX8_layRows_3 : decode cX8_layRows 3 = .ok (.bipush 41, 2) := by decide +kernel
theorem dX8_layRows_5 : decode cX8_layRows 5 = .ok (.if_icmp .ge 88, 3) := by decide +kernel
theorem dX8_layRows_8 : decode cX8_layRows 8 = .ok (.lconst 0, 1) := by decide +kernel
theorem dX8_layRows_9 : decode cX8_layRows 9 = .ok (.lstore_n 2, 1) := by decide +kernel
theorem dX8_layRows_10 : decode cX8_layRows 10 = .ok (.iconst 1, 1) := by decide +kernel
theorem dX8_layRows_11 : decode cX8_layRows 11 = .ok (.istore 4, 2) := by decide +kernel
theorem dX8_layRows_13 : decode cX8_layRows 13 = .ok (.iload 4, 2) := by decide +kernel
theorem dX8_layRows_15 : decode cX8_layRows 15 = .ok (.aload_n 0, 1) := by decide +kernel
theorem dX8_layRows_16 : decode cX8_layRows 16 = .ok (.getfield 106, 3) := by decide +kernel
theorem dX8_layRows_19 : decode cX8_layRows 19 = .ok (.if_icmp .gt 58, 3) := by decide +kernel
theorem dX8_layRows_22 : decode cX8_layRows 22 = .ok (.iload 4, 2) := by decide +kernel
theorem dX8_layRows_24 : decode cX8_layRows 24 = .ok (.iload_n 1, 1) := by decide +kernel
theorem dX8_layRows_25 : decode cX8_layRows 25 = .ok (.if_icmp .gt 52, 3) := by decide +kernel
theorem dX8_layRows_28 : decode cX8_layRows 28 = .ok (.iconst 0, 1) := by decide +kernel
theorem dX8_layRows_29 : decode cX8_layRows 29 = .ok (.istore 5, 2) := by decide +kernel
theorem dX8_layRows_31 : decode cX8_layRows 31 = .ok (.iload 5, 2) := by decide +kernel
theorem dX8_layRows_33 : decode cX8_layRows 33 = .ok (.iload 4, 2) := by decide +kernel
theorem dX8_layRows_35 : decode cX8_layRows 35 = .ok (.iadd, 1) := by decide +kernel
theorem dX8_layRows_36 : decode cX8_layRows 36 = .ok (.iload_n 1, 1) := by decide +kernel
theorem dX8_layRows_37 : decode cX8_layRows 37 = .ok (.if_icmp .gt 34, 3) := by decide +kernel
theorem dX8_layRows_40 : decode cX8_layRows 40 = .ok (.lload_n 2, 1) := by decide +kernel
theorem dX8_layRows_41 : decode cX8_layRows 41 = .ok (.lconst 1, 1) := by decide +kernel
theorem dX8_layRows_42 : decode cX8_layRows 42 = .ok (.aload_n 0, 1) := by decide +kernel
theorem dX8_layRows_43 : decode cX8_layRows 43 = .ok (.getfield 28, 3) := by decide +kernel
theorem dX8_layRows_46 : decode cX8_layRows 46 = .ok (.iload 5, 2) := by decide +kernel
theorem dX8_layRows_48 : decode cX8_layRows 48 = .ok (.iaload, 1) := by decide +kernel
theorem dX8_layRows_49 : decode cX8_layRows 49 = .ok (.aload_n 0, 1) := by decide +kernel
theorem dX8_layRows_50 : decode cX8_layRows 50 = .ok (.getfield 28, 3) := by decide +kernel
theorem dX8_layRows_53 : decode cX8_layRows 53 = .ok (.iload_n 1, 1) := by decide +kernel
theorem dX8_layRows_54 : decode cX8_layRows 54 = .ok (.iload 4, 2) := by decide +kernel
theorem dX8_layRows_56 : decode cX8_layRows 56 = .ok (.isub, 1) := by decide +kernel
theorem dX8_layRows_57 : decode cX8_layRows 57 = .ok (.iload 5, 2) := by decide +kernel
theorem dX8_layRows_59 : decode cX8_layRows 59 = .ok (.isub, 1) := by decide +kernel
theorem dX8_layRows_60 : decode cX8_layRows 60 = .ok (.iaload, 1) := by decide +kernel
theorem dX8_layRows_61 : decode cX8_layRows 61 = .ok (.ixor, 1) := by decide +kernel
theorem dX8_layRows_62 : decode cX8_layRows 62 = .ok (.lshl, 1) := by decide +kernel
theorem dX8_layRows_63 : decode cX8_layRows 63 = .ok (.lor, 1) := by decide +kernel
theorem dX8_layRows_64 : decode cX8_layRows 64 = .ok (.lstore_n 2, 1) := by decide +kernel
theorem dX8_layRows_65 : decode cX8_layRows 65 = .ok (.iinc 5 1, 3) := by decide +kernel
theorem dX8_layRows_68 : decode cX8_layRows 68 = .ok (.goto (-37), 3) := by decide +kernel
theorem dX8_layRows_71 : decode cX8_layRows 71 = .ok (.iinc 4 1, 3) := by decide +kernel
theorem dX8_layRows_74 : decode cX8_layRows 74 = .ok (.goto (-61), 3) := by decide +kernel
theorem dX8_layRows_77 : decode cX8_layRows 77 = .ok (.aload_n 0, 1) := by decide +kernel
theorem dX8_layRows_78 : decode cX8_layRows 78 = .ok (.getfield 28, 3) := by decide +kernel
theorem dX8_layRows_81 : decode cX8_layRows 81 = .ok (.iload_n 1, 1) := by decide +kernel
theorem dX8_layRows_82 : decode cX8_layRows 82 = .ok (.lload_n 2, 1) := by decide +kernel
theorem dX8_layRows_83 : decode cX8_layRows 83 = .ok (.invokestatic 149, 3) := by decide +kernel
theorem dX8_layRows_86 : decode cX8_layRows 86 = .ok (.iastore, 1) := by decide +kernel
theorem dX8_layRows_87 : decode cX8_layRows 87 = .ok (.iinc 1 1, 3) := by decide +kernel
theorem dX8_layRows_90 : decode cX8_layRows 90 = .ok (.goto (-88), 3) := by decide +kernel
theorem dX8_layRows_93 : decode cX8_layRows 93 = .ok (.return_, 1) := by decide +kernel
set_option maxRecDepth 20000 in
theorem ggX8_rowOf_X8_layRows : GoodIn wsX8_rowOf wsX8_layRows := goodIn_r _ [6, 7, 1, 8, 9, 5, 10, 11, 12, 13, 14, 15, 16, 17, 18, 19, 20, 21, 22, 23, 24, 25, 26, 27, 28, 29, 30, 31, 32, 33, 34, 35, 36, 37, 38, 39, 40, 41, 42, 43, 44, 45] (by decide +kernel) (by decide +kernel)
set_option maxRecDepth 20000 in
theorem gX8_rowOf_X8_layRows : GoodIn wsX8_rowOf (wsV RX8 163 RX8 yX8_layRows wsX8_layRows) := goodIn_app (goodIn_of _ (by decide +kernel)) ggX8_rowOf_X8_layRows
theorem dX8_rowOf_0 : decode cX8_rowOf 0 = .ok (.aload_n 0, 1) := by decide +kernel
theorem dX8_rowOf_1 : decode cX8_rowOf 1 = .ok (.invokevirtual 163, 3) := by decide +kernel
theorem dX8_rowOf_4 : decode cX8_rowOf 4 = .ok (.aload_n 0, 1) := by decide +kernel
theorem dX8_rowOf_5 : decode cX8_rowOf 5 = .ok (.getfield 28, 3) := by decide +kernel
theorem dX8_rowOf_8 : decode cX8_rowOf 8 = .ok (.iload_n 1, 1) := by decide +kernel
theorem dX8_rowOf_9 : decode cX8_rowOf 9 = .ok (.iaload, 1) := by decide +kernel
theorem dX8_rowOf_10 : decode cX8_rowOf 10 = .ok (.ireturn, 1) := by decide +kernel
set_option maxRecDepth 20000 in
theorem ggX8_row_X8_in : GoodIn wsX8_row wsX8_in := goodIn_r _ [5] (by decide +kernel) (by decide +kernel)
set_option maxRecDepth 20000 in
theorem gX8_row_X8_in : GoodIn wsX8_row (va_wsS RX8 58 yX8_in wsX8_in) := goodIn_app (goodIn_of _ (by decide +kernel)) ggX8_row_X8_in
set_option maxRecDepth 20000 in
theorem ggX8_row_X8_lacks : GoodIn wsX8_row wsX8_lacks := goodIn_r _ [9, 10, 24, 25, 26, 27, 28, 29, 30, 31, 32, 33, 34, 35, 36, 37, 38, 39, 40, 41, 42, 43, 44, 45, 46, 47, 48, 49, 50, 51, 52, 53, 54, 55, 56, 57, 58] (by decide +kernel) (by decide +kernel)
set_option maxRecDepth 20000 in
theorem gX8_row_X8_lacks : GoodIn wsX8_row (wsV RX8 156 RX8 yX8_lacks wsX8_lacks) := goodIn_app (goodIn_of _ (by decide +kernel)) ggX8_row_X8_lacks
set_option maxRecDepth 20000 in
theorem ggX8_row_X8_rowOf : GoodIn wsX8_row wsX8_rowOf := goodIn_r _ [14, 15, 16, 17, 18, 4, 19, 20, 21, 22, 23, 24, 25, 26, 27, 28, 29, 30, 31, 32, 33, 34, 35, 36, 37, 38, 39, 40, 41, 42, 43, 44, 45, 46, 47, 48, 49, 50, 51, 52, 53, 54, 55, 56, 57, 58] (by decide +kernel) (by decide +kernel)
set_option maxRecDepth 20000 in
theorem gX8_row_X8_rowOf : GoodIn wsX8_row (wsV RX8 168 RX8 yX8_rowOf wsX8_rowOf) := goodIn_app (goodIn_of _ (by decide +kernel)) ggX8_row_X8_rowOf
theorem dX8_row_0 : decode cX8_row 0 = .ok (.iload_n 1, 1) := by decide +kernel
theorem dX8_row_1 : decode cX8_row 1 = .ok (.i2l, 1) := by decide +kernel
theorem dX8_row_2 : decode cX8_row 2 = .ok (.lconst 0, 1) := by decide +kernel
theorem dX8_row_3 : decode cX8_row 3 = .ok (.ldc2_w 166, 3) := by decide +kernel
theorem dX8_row_6 : decode cX8_row 6 = .ok (.invokestatic 58, 3) := by decide +kernel
theorem dX8_row_9 : decode cX8_row 9 = .ok (.ifCond .ne 6, 3) := by decide +kernel
theorem dX8_row_12 : decode cX8_row 12 = .ok (.bipush (-102), 2) := by decide +kernel
theorem dX8_row_14 : decode cX8_row 14 = .ok (.ireturn, 1) := by decide +kernel
theorem dX8_row_15 : decode cX8_row 15 = .ok (.aload_n 0, 1) := by decide +kernel
theorem dX8_row_16 : decode cX8_row 16 = .ok (.invokevirtual 156, 3) := by decide +kernel
theorem dX8_row_19 : decode cX8_row 19 = .ok (.ifCond .eq 8, 3) := by decide +kernel
theorem dX8_row_22 : decode cX8_row 22 = .ok (.bipush (-103), 2) := by decide +kernel
theorem dX8_row_24 : decode cX8_row 24 = .ok (.goto 8, 3) := by decide +kernel
theorem dX8_row_27 : decode cX8_row 27 = .ok (.aload_n 0, 1) := by decide +kernel
theorem dX8_row_28 : decode cX8_row 28 = .ok (.iload_n 1, 1) := by decide +kernel
theorem dX8_row_29 : decode cX8_row 29 = .ok (.invokevirtual 168, 3) := by decide +kernel
theorem dX8_row_32 : decode cX8_row 32 = .ok (.ireturn, 1) := by decide +kernel
theorem dX8_fromBy_0 : decode cX8_fromBy 0 = .ok (.iconst 0, 1) := by decide +kernel
theorem dX8_fromBy_1 : decode cX8_fromBy 1 = .ok (.istore_n 2, 1) := by decide +kernel
theorem dX8_fromBy_2 : decode cX8_fromBy 2 = .ok (.iconst 0, 1) := by decide +kernel
theorem dX8_fromBy_3 : decode cX8_fromBy 3 = .ok (.istore_n 3, 1) := by decide +kernel
theorem dX8_fromBy_4 : decode cX8_fromBy 4 = .ok (.iload_n 3, 1) := by decide +kernel
theorem dX8_fromBy_5 : decode cX8_fromBy 5 = .ok (.iload_n 1, 1) := by decide +kernel
theorem dX8_fromBy_6 : decode cX8_fromBy 6 = .ok (.iadd, 1) := by decide +kernel
theorem dX8_fromBy_7 : decode cX8_fromBy 7 = .ok (.bipush 41, 2) := by decide +kernel
theorem dX8_fromBy_9 : decode cX8_fromBy 9 = .ok (.if_icmp .ge 34, 3) := by decide +kernel
theorem dX8_fromBy_12 : decode cX8_fromBy 12 = .ok (.aload_n 0, 1) := by decide +kernel
theorem dX8_fromBy_13 : decode cX8_fromBy 13 = .ok (.getfield 28, 3) := by decide +kernel
theorem dX8_fromBy_16 : decode cX8_fromBy 16 = .ok (.iload_n 3, 1) := by decide +kernel
theorem dX8_fromBy_17 : decode cX8_fromBy 17 = .ok (.iaload, 1) := by decide +kernel
theorem dX8_fromBy_18 : decode cX8_fromBy 18 = .ok (.aload_n 0, 1) := by decide +kernel
theorem dX8_fromBy_19 : decode cX8_fromBy 19 = .ok (.getfield 28, 3) := by decide +kernel
theorem dX8_fromBy_22 : decode cX8_fromBy 22 = .ok (.iload_n 3, 1) := by decide +kernel
theorem dX8_fromBy_23 : decode cX8_fromBy 23 = .ok (.iload_n 1, 1) := by decide +kernel
theorem dX8_fromBy_24 : decode cX8_fromBy 24 = .ok (.iadd, 1) := by decide +kernel
theorem dX8_fromBy_25 : decode cX8_fromBy 25 = .ok (.iaload, 1) := by decide +kernel
theorem dX8_fromBy_26 : decode cX8_fromBy 26 = .ok (.if_icmp .ne 7, 3) := by decide +kernel
theorem dX8_fromBy_29 : decode cX8_fromBy 29 = .ok (.iload_n 2, 1) := by decide +kernel
theorem dX8_fromBy_30 : decode cX8_fromBy 30 = .ok (.goto 6, 3) := by decide +kernel
theorem dX8_fromBy_33 : decode cX8_fromBy 33 = .ok (.iload_n 3, 1) := by decide +kernel
theorem dX8_fromBy_34 : decode cX8_fromBy 34 = .ok (.iconst 1, 1) := by decide +kernel
theorem dX8_fromBy_35 : decode cX8_fromBy 35 = .ok (.iadd, 1) := by decide +kernel
theorem dX8_fromBy_36 : decode cX8_fromBy 36 = .ok (.istore_n 2, 1) := by decide +kernel
theorem dX8_fromBy_37 : decode cX8_fromBy 37 = .ok (.iinc 3 1, 3) := by decide +kernel
theorem dX8_fromBy_40 : decode cX8_fromBy 40 = .ok (.goto (-36), 3) := by decide +kernel
theorem dX8_fromBy_43 : decode cX8_fromBy 43 = .ok (.iload_n 2, 1) := by decide +kernel
theorem dX8_fromBy_44 : decode cX8_fromBy 44 = .ok (.ireturn, 1) := by decide +kernel
set_option maxRecDepth 20000 in
theorem ggX8_periodOf_X8_layRows : GoodIn wsX8_periodOf wsX8_layRows := goodIn_r _ [5, 6, 7, 8, 9, 4, 10, 15, 16, 17, 18, 19, 20, 21, 22, 23, 24, 25, 26, 27, 28, 29, 30, 31, 32, 33, 34, 35, 36, 37, 38, 39, 40, 41, 42, 43, 44, 45, 46, 47, 48, 49] (by decide +kernel) (by decide +kernel)
set_option maxRecDepth 20000 in
theorem gX8_periodOf_X8_layRows : GoodIn wsX8_periodOf (wsV RX8 163 RX8 yX8_layRows wsX8_layRows) := goodIn_app (goodIn_of _ (by decide +kernel)) ggX8_periodOf_X8_layRows
set_option maxRecDepth 20000 in
theorem ggX8_periodOf_X8_fromBy : GoodIn wsX8_periodOf wsX8_fromBy := goodIn_r _ [14, 7, 15, 16, 17, 18, 19, 20, 21, 22, 23, 24, 25, 26, 27, 28, 29, 30, 31, 32, 33, 34, 35, 36, 37, 38, 39, 40, 41, 42, 43, 44, 45, 46, 47, 48, 49] (by decide +kernel) (by decide +kernel)
set_option maxRecDepth 20000 in
theorem gX8_periodOf_X8_fromBy : GoodIn wsX8_periodOf (wsV RX8 171 RX8 yX8_fromBy wsX8_fromBy) := goodIn_app (goodIn_of _ (by decide +kernel)) ggX8_periodOf_X8_fromBy
theorem dX8_periodOf_0 : decode cX8_periodOf 0 = .ok (.aload_n 0, 1) := by decide +kernel
theorem dX8_periodOf_1 : decode cX8_periodOf 1 = .ok (.invokevirtual 163, 3) := by decide +kernel
theorem dX8_periodOf_4 : decode cX8_periodOf 4 = .ok (.iconst 1, 1) := by decide +kernel
theorem dX8_periodOf_5 : decode cX8_periodOf 5 = .ok (.istore_n 2, 1) := by decide +kernel
theorem dX8_periodOf_6 : decode cX8_periodOf 6 = .ok (.iload_n 2, 1) := by decide +kernel
theorem dX8_periodOf_7 : decode cX8_periodOf 7 = .ok (.bipush 21, 2) := by decide +kernel
theorem dX8_periodOf_9 : decode cX8_periodOf 9 = .ok (.if_icmp .ge 33, 3) := by decide +kernel
theorem dX8_periodOf_12 : decode cX8_periodOf 12 = .ok (.aload_n 0, 1) := by decide +kernel
theorem dX8_periodOf_13 : decode cX8_periodOf 13 = .ok (.iload_n 2, 1) := by decide +kernel
theorem dX8_periodOf_14 : decode cX8_periodOf 14 = .ok (.invokevirtual 171, 3) := by decide +kernel
theorem dX8_periodOf_17 : decode cX8_periodOf 17 = .ok (.bipush 21, 2) := by decide +kernel
theorem dX8_periodOf_19 : decode cX8_periodOf 19 = .ok (.if_icmp .ge 17, 3) := by decide +kernel
theorem dX8_periodOf_22 : decode cX8_periodOf 22 = .ok (.iload_n 1, 1) := by decide +kernel
theorem dX8_periodOf_23 : decode cX8_periodOf 23 = .ok (.ifCond .ne 7, 3) := by decide +kernel
theorem dX8_periodOf_26 : decode cX8_periodOf 26 = .ok (.iload_n 2, 1) := by decide +kernel
theorem dX8_periodOf_27 : decode cX8_periodOf 27 = .ok (.goto 8, 3) := by decide +kernel
theorem dX8_periodOf_30 : decode cX8_periodOf 30 = .ok (.aload_n 0, 1) := by decide +kernel
theorem dX8_periodOf_31 : decode cX8_periodOf 31 = .ok (.iload_n 2, 1) := by decide +kernel
theorem dX8_periodOf_32 : decode cX8_periodOf 32 = .ok (.invokevirtual 171, 3) := by decide +kernel
theorem dX8_periodOf_35 : decode cX8_periodOf 35 = .ok (.ireturn, 1) := by decide +kernel
theorem dX8_periodOf_36 : decode cX8_periodOf 36 = .ok (.iinc 2 1, 3) := by decide +kernel
theorem dX8_periodOf_39 : decode cX8_periodOf 39 = .ok (.goto (-33), 3) := by decide +kernel
theorem dX8_periodOf_42 : decode cX8_periodOf 42 = .ok (.iconst (-1), 1) := by decide +kernel
theorem dX8_periodOf_43 : decode cX8_periodOf 43 = .ok (.ireturn, 1) := by decide +kernel
set_option maxRecDepth 20000 in
theorem ggX8_period_X8_in : GoodIn wsX8_period wsX8_in := goodIn_r _ [4] (by decide +kernel) (by decide +kernel)
set_option maxRecDepth 20000 in
theorem gX8_period_X8_in : GoodIn wsX8_period (va_wsS RX8 58 yX8_in wsX8_in) := goodIn_app (goodIn_of _ (by decide +kernel)) ggX8_period_X8_in
set_option maxRecDepth 20000 in
theorem ggX8_period_X8_lacks : GoodIn wsX8_period wsX8_lacks := goodIn_r _ [8, 9, 27, 28, 29, 30, 31, 32, 33, 34, 35, 36, 37, 38, 39, 40, 41, 42, 43, 44, 45, 46, 47, 48, 49, 50, 51, 52, 53, 54, 55, 56, 57, 58, 59, 60, 61] (by decide +kernel) (by decide +kernel)
set_option maxRecDepth 20000 in
theorem gX8_period_X8_lacks : GoodIn wsX8_period (wsV RX8 156 RX8 yX8_lacks wsX8_lacks) := goodIn_app (goodIn_of _ (by decide +kernel)) ggX8_period_X8_lacks
set_option maxRecDepth 20000 in
theorem ggX8_period_X8_periodOf : GoodIn wsX8_period wsX8_periodOf := goodIn_r _ [13, 14, 15, 16, 3, 17, 18, 19, 20, 21, 22, 23, 24, 25, 26, 27, 28, 29, 30, 31, 32, 33, 34, 35, 36, 37, 38, 39, 40, 41, 42, 43, 44, 45, 46, 47, 48, 49, 50, 51, 52, 53, 54, 55, 56, 57, 58, 59, 60, 61] (by decide +kernel) (by decide +kernel)
set_option maxRecDepth 20000 in
theorem gX8_period_X8_periodOf : GoodIn wsX8_period (wsV RX8 174 RX8 yX8_periodOf wsX8_periodOf) := goodIn_app (goodIn_of _ (by decide +kernel)) ggX8_period_X8_periodOf
theorem dX8_period_0 : decode cX8_period 0 = .ok (.iload_n 1, 1) := by decide +kernel
theorem dX8_period_1 : decode cX8_period 1 = .ok (.i2l, 1) := by decide +kernel
theorem dX8_period_2 : decode cX8_period 2 = .ok (.lconst 0, 1) := by decide +kernel
theorem dX8_period_3 : decode cX8_period 3 = .ok (.lconst 1, 1) := by decide +kernel
theorem dX8_period_4 : decode cX8_period 4 = .ok (.invokestatic 58, 3) := by decide +kernel
theorem dX8_period_7 : decode cX8_period 7 = .ok (.ifCond .ne 6, 3) := by decide +kernel
theorem dX8_period_10 : decode cX8_period 10 = .ok (.bipush (-102), 2) := by decide +kernel
theorem dX8_period_12 : decode cX8_period 12 = .ok (.ireturn, 1) := by decide +kernel
theorem dX8_period_13 : decode cX8_period 13 = .ok (.aload_n 0, 1) := by decide +kernel
theorem dX8_period_14 : decode cX8_period 14 = .ok (.invokevirtual 156, 3) := by decide +kernel
theorem dX8_period_17 : decode cX8_period 17 = .ok (.ifCond .eq 8, 3) := by decide +kernel
theorem dX8_period_20 : decode cX8_period 20 = .ok (.bipush (-103), 2) := by decide +kernel
theorem dX8_period_22 : decode cX8_period 22 = .ok (.goto 8, 3) := by decide +kernel
theorem dX8_period_25 : decode cX8_period 25 = .ok (.aload_n 0, 1) := by decide +kernel
theorem dX8_period_26 : decode cX8_period 26 = .ok (.iload_n 1, 1) := by decide +kernel
theorem dX8_period_27 : decode cX8_period 27 = .ok (.invokevirtual 174, 3) := by decide +kernel
theorem dX8_period_30 : decode cX8_period 30 = .ok (.ireturn, 1) := by decide +kernel
set_option maxRecDepth 20000 in
theorem ggX8_alikeOf_X8_layRows : GoodIn wsX8_alikeOf wsX8_layRows := goodIn_r _ [6, 7, 1, 8, 9, 5, 10, 51, 52, 53, 54, 55, 56, 57, 58, 59, 60, 61, 62, 63, 64, 65, 66, 67, 68, 69, 70, 71, 72, 73, 74, 75, 76, 77, 78, 79, 80, 81, 82, 83, 84, 85] (by decide +kernel) (by decide +kernel)
set_option maxRecDepth 20000 in
theorem gX8_alikeOf_X8_layRows : GoodIn wsX8_alikeOf (wsV RX8 163 RX8 yX8_layRows wsX8_layRows) := goodIn_app (goodIn_of _ (by decide +kernel)) ggX8_alikeOf_X8_layRows
set_option maxRecDepth 20000 in
theorem ggX8_alikeOf_X8_numberOf : GoodIn wsX8_alikeOf wsX8_numberOf := goodIn_r _ [14, 15, 16, 17, 18, 19, 20, 5, 21, 22, 23, 24, 25, 26, 27, 28, 29, 30, 7, 31, 32, 33, 34, 35, 36, 37, 38, 39, 40, 41, 42, 43, 44, 45, 46, 47, 48, 49, 50, 8, 9, 10, 51, 52, 53, 54, 55, 56, 57, 58, 59, 60, 61, 62, 63, 64, 65, 66, 67, 68, 69, 70, 71, 72, 73, 74, 75, 76, 77, 78, 79, 80, 81, 82, 83, 84, 85] (by decide +kernel) (by decide +kernel)
set_option maxRecDepth 20000 in
theorem gX8_alikeOf_X8_numberOf : GoodIn wsX8_alikeOf (wsV RX8 153 RX8 yX8_numberOf wsX8_numberOf) := goodIn_app (goodIn_of _ (by decide +kernel)) ggX8_alikeOf_X8_numberOf
theorem dX8_alikeOf_0 : decode cX8_alikeOf 0 = .ok (.aload_n 0, 1) := by decide +kernel
theorem dX8_alikeOf_1 : decode cX8_alikeOf 1 = .ok (.invokevirtual 163, 3) := by decide +kernel
theorem dX8_alikeOf_4 : decode cX8_alikeOf 4 = .ok (.aload_n 0, 1) := by decide +kernel
theorem dX8_alikeOf_5 : decode cX8_alikeOf 5 = .ok (.iload_n 1, 1) := by decide +kernel
theorem dX8_alikeOf_6 : decode cX8_alikeOf 6 = .ok (.invokevirtual 153, 3) := by decide +kernel
theorem dX8_alikeOf_9 : decode cX8_alikeOf 9 = .ok (.istore_n 2, 1) := by decide +kernel
theorem dX8_alikeOf_10 : decode cX8_alikeOf 10 = .ok (.iconst (-1), 1) := by decide +kernel
theorem dX8_alikeOf_11 : decode cX8_alikeOf 11 = .ok (.istore_n 3, 1) := by decide +kernel
theorem dX8_alikeOf_12 : decode cX8_alikeOf 12 = .ok (.bipush 40, 2) := by decide +kernel
theorem dX8_alikeOf_14 : decode cX8_alikeOf 14 = .ok (.istore 4, 2) := by decide +kernel
theorem dX8_alikeOf_16 : decode cX8_alikeOf 16 = .ok (.iload 4, 2) := by decide +kernel
theorem dX8_alikeOf_18 : decode cX8_alikeOf 18 = .ok (.ifCond .lt 27, 3) := by decide +kernel
theorem dX8_alikeOf_21 : decode cX8_alikeOf 21 = .ok (.aload_n 0, 1) := by decide +kernel
theorem dX8_alikeOf_22 : decode cX8_alikeOf 22 = .ok (.getfield 28, 3) := by decide +kernel
theorem dX8_alikeOf_25 : decode cX8_alikeOf 25 = .ok (.iload 4, 2) := by decide +kernel
theorem dX8_alikeOf_27 : decode cX8_alikeOf 27 = .ok (.iaload, 1) := by decide +kernel
theorem dX8_alikeOf_28 : decode cX8_alikeOf 28 = .ok (.iload_n 2, 1) := by decide +kernel
theorem dX8_alikeOf_29 : decode cX8_alikeOf 29 = .ok (.if_icmp .ne 8, 3) := by decide +kernel
theorem dX8_alikeOf_32 : decode cX8_alikeOf 32 = .ok (.iload 4, 2) := by decide +kernel
theorem dX8_alikeOf_34 : decode cX8_alikeOf 34 = .ok (.goto 4, 3) := by decide +kernel
theorem dX8_alikeOf_37 : decode cX8_alikeOf 37 = .ok (.iload_n 3, 1) := by decide +kernel
theorem dX8_alikeOf_38 : decode cX8_alikeOf 38 = .ok (.istore_n 3, 1) := by decide +kernel
theorem dX8_alikeOf_39 : decode cX8_alikeOf 39 = .ok (.iinc 4 (-1), 3) := by decide +kernel
theorem dX8_alikeOf_42 : decode cX8_alikeOf 42 = .ok (.goto (-26), 3) := by decide +kernel
theorem dX8_alikeOf_45 : decode cX8_alikeOf 45 = .ok (.iload_n 3, 1) := by decide +kernel
theorem dX8_alikeOf_46 : decode cX8_alikeOf 46 = .ok (.ireturn, 1) := by decide +kernel
set_option maxRecDepth 20000 in
theorem ggX8_layOne_X8_leftBy : GoodIn wsX8_layOne wsX8_leftBy := goodIn_r _ [12, 13, 14, 15, 11, 16, 17, 4, 18, 19, 20, 21, 22, 23, 24, 25, 26, 27, 28, 29, 30, 31, 32, 33, 34, 35, 36, 37, 38, 39, 40, 41, 42, 43, 44, 45, 46, 47, 48, 49, 50, 51, 52, 53, 54, 55, 56, 57, 58, 59, 60, 61, 62, 63, 64, 65, 66, 67, 68, 69, 70, 71, 72, 73] (by decide +kernel) (by decide +kernel)
set_option maxRecDepth 20000 in
theorem gX8_layOne_X8_leftBy : GoodIn wsX8_layOne (wsV RX8 143 RX8 yX8_leftBy wsX8_leftBy) := goodIn_app (goodIn_of _ (by decide +kernel)) ggX8_layOne_X8_leftBy
theorem dX8_layOne_0 : decode cX8_layOne 0 = .ok (.iconst 0, 1) := by decide +kernel
theorem dX8_layOne_1 : decode cX8_layOne 1 = .ok (.istore_n 2, 1) := by decide +kernel
theorem dX8_layOne_2 : decode cX8_layOne 2 = .ok (.lconst 0, 1) := by decide +kernel
theorem dX8_layOne_3 : decode cX8_layOne 3 = .ok (.lstore_n 3, 1) := by decide +kernel
theorem dX8_layOne_4 : decode cX8_layOne 4 = .ok (.aload_n 0, 1) := by decide +kernel
theorem dX8_layOne_5 : decode cX8_layOne 5 = .ok (.getfield 31, 3) := by decide +kernel
theorem dX8_layOne_8 : decode cX8_layOne 8 = .ok (.iload_n 1, 1) := by decide +kernel
theorem dX8_layOne_9 : decode cX8_layOne 9 = .ok (.iconst 0, 1) := by decide +kernel
theorem dX8_layOne_10 : decode cX8_layOne 10 = .ok (.iastore, 1) := by decide +kernel
theorem dX8_layOne_11 : decode cX8_layOne 11 = .ok (.aload_n 0, 1) := by decide +kernel
theorem dX8_layOne_12 : decode cX8_layOne 12 = .ok (.getfield 34, 3) := by decide +kernel
theorem dX8_layOne_15 : decode cX8_layOne 15 = .ok (.iload_n 1, 1) := by decide +kernel
theorem dX8_layOne_16 : decode cX8_layOne 16 = .ok (.bipush 99, 2) := by decide +kernel
theorem dX8_layOne_18 : decode cX8_layOne 18 = .ok (.iastore, 1) := by decide +kernel
theorem dX8_layOne_19 : decode cX8_layOne 19 = .ok (.aload_n 0, 1) := by decide +kernel
theorem dX8_layOne_20 : decode cX8_layOne 20 = .ok (.getfield 37, 3) := by decide +kernel
theorem dX8_layOne_23 : decode cX8_layOne 23 = .ok (.iload_n 1, 1) := by decide +kernel
theorem dX8_layOne_24 : decode cX8_layOne 24 = .ok (.iconst 0, 1) := by decide +kernel
theorem dX8_layOne_25 : decode cX8_layOne 25 = .ok (.iastore, 1) := by decide +kernel
theorem dX8_layOne_26 : decode cX8_layOne 26 = .ok (.iconst 0, 1) := by decide +kernel
theorem dX8_layOne_27 : decode cX8_layOne 27 = .ok (.istore 5, 2) := by decide +kernel
theorem dX8_layOne_29 : decode cX8_layOne 29 = .ok (.iload 5, 2) := by decide +kernel
theorem dX8_layOne_31 : decode cX8_layOne 31 = .ok (.iconst 3, 1) := by decide +kernel
theorem dX8_layOne_32 : decode cX8_layOne 32 = .ok (.aload_n 0, 1) := by decide +kernel
theorem dX8_layOne_33 : decode cX8_layOne 33 = .ok (.getfield 96, 3) := by decide +kernel
theorem dX8_layOne_36 : decode cX8_layOne 36 = .ok (.imul, 1) := by decide +kernel
theorem dX8_layOne_37 : decode cX8_layOne 37 = .ok (.if_icmp .ge 151, 3) := by decide +kernel
theorem dX8_layOne_40 : decode cX8_layOne 40 = .ok (.aload_n 0, 1) := by decide +kernel
theorem dX8_layOne_41 : decode cX8_layOne 41 = .ok (.iload_n 1, 1) := by decide +kernel
theorem dX8_layOne_42 : decode cX8_layOne 42 = .ok (.iload 5, 2) := by decide +kernel
theorem dX8_layOne_44 : decode cX8_layOne 44 = .ok (.invokevirtual 143, 3) := by decide +kernel
theorem dX8_layOne_47 : decode cX8_layOne 47 = .ok (.istore 6, 2) := by decide +kernel
theorem dX8_layOne_49 : decode cX8_layOne 49 = .ok (.iload 6, 2) := by decide +kernel
theorem dX8_layOne_51 : decode cX8_layOne 51 = .ok (.iconst (-1), 1) := by decide +kernel
theorem dX8_layOne_52 : decode cX8_layOne 52 = .ok (.if_icmp .eq 130, 3) := by decide +kernel
theorem dX8_layOne_55 : decode cX8_layOne 55 = .ok (.iinc 2 1, 3) := by decide +kernel
theorem dX8_layOne_58 : decode cX8_layOne 58 = .ok (.lload_n 3, 1) := by decide +kernel
theorem dX8_layOne_59 : decode cX8_layOne 59 = .ok (.ldc 177, 2) := by decide +kernel
theorem dX8_layOne_61 : decode cX8_layOne 61 = .ok (.aload_n 0, 1) := by decide +kernel
theorem dX8_layOne_62 : decode cX8_layOne 62 = .ok (.getfield 40, 3) := by decide +kernel
theorem dX8_layOne_65 : decode cX8_layOne 65 = .ok (.iload 6, 2) := by decide +kernel
theorem dX8_layOne_67 : decode cX8_layOne 67 = .ok (.iaload, 1) := by decide +kernel
theorem dX8_layOne_68 : decode cX8_layOne 68 = .ok (.isub, 1) := by decide +kernel
theorem dX8_layOne_69 : decode cX8_layOne 69 = .ok (.i2l, 1) := by decide +kernel
theorem dX8_layOne_70 : decode cX8_layOne 70 = .ok (.ladd, 1) := by decide +kernel
theorem dX8_layOne_71 : decode cX8_layOne 71 = .ok (.lstore_n 3, 1) := by decide +kernel
theorem dX8_layOne_72 : decode cX8_layOne 72 = .ok (.aload_n 0, 1) := by decide +kernel
theorem dX8_layOne_73 : decode cX8_layOne 73 = .ok (.getfield 31, 3) := by decide +kernel
theorem dX8_layOne_76 : decode cX8_layOne 76 = .ok (.iload_n 1, 1) := by decide +kernel
theorem dX8_layOne_77 : decode cX8_layOne 77 = .ok (.aload_n 0, 1) := by decide +kernel
theorem dX8_layOne_78 : decode cX8_layOne 78 = .ok (.getfield 31, 3) := by decide +kernel
theorem dX8_layOne_81 : decode cX8_layOne 81 = .ok (.iload 6, 2) := by decide +kernel
theorem dX8_layOne_83 : decode cX8_layOne 83 = .ok (.iaload, 1) := by decide +kernel
theorem dX8_layOne_84 : decode cX8_layOne 84 = .ok (.ifCond .ne 7, 3) := by decide +kernel
theorem dX8_layOne_87 : decode cX8_layOne 87 = .ok (.iconst 1, 1) := by decide +kernel
theorem dX8_layOne_88 : decode cX8_layOne 88 = .ok (.goto 9, 3) := by decide +kernel
theorem dX8_layOne_91 : decode cX8_layOne 91 = .ok (.aload_n 0, 1) := by decide +kernel
theorem dX8_layOne_92 : decode cX8_layOne 92 = .ok (.getfield 31, 3) := by decide +kernel
theorem dX8_layOne_95 : decode cX8_layOne 95 = .ok (.iload_n 1, 1) := by decide +kernel
theorem dX8_layOne_96 : decode cX8_layOne 96 = .ok (.iaload, 1) := by decide +kernel
theorem dX8_layOne_97 : decode cX8_layOne 97 = .ok (.iastore, 1) := by decide +kernel
theorem dX8_layOne_98 : decode cX8_layOne 98 = .ok (.aload_n 0, 1) := by decide +kernel
theorem dX8_layOne_99 : decode cX8_layOne 99 = .ok (.getfield 34, 3) := by decide +kernel
theorem dX8_layOne_102 : decode cX8_layOne 102 = .ok (.iload_n 1, 1) := by decide +kernel
theorem dX8_layOne_103 : decode cX8_layOne 103 = .ok (.aload_n 0, 1) := by decide +kernel
theorem dX8_layOne_104 : decode cX8_layOne 104 = .ok (.getfield 34, 3) := by decide +kernel
theorem dX8_layOne_107 : decode cX8_layOne 107 = .ok (.iload 6, 2) := by decide +kernel
theorem dX8_layOne_109 : decode cX8_layOne 109 = .ok (.iaload, 1) := by decide +kernel
theorem dX8_layOne_110 : decode cX8_layOne 110 = .ok (.iconst 1, 1) := by decide +kernel
theorem dX8_layOne_111 : decode cX8_layOne 111 = .ok (.iadd, 1) := by decide +kernel
theorem dX8_layOne_112 : decode cX8_layOne 112 = .ok (.aload_n 0, 1) := by decide +kernel
theorem dX8_layOne_113 : decode cX8_layOne 113 = .ok (.getfield 34, 3) := by decide +kernel
theorem dX8_layOne_116 : decode cX8_layOne 116 = .ok (.iload_n 1, 1) := by decide +kernel
theorem dX8_layOne_117 : decode cX8_layOne 117 = .ok (.iaload, 1) := by decide +kernel
theorem dX8_layOne_118 : decode cX8_layOne 118 = .ok (.if_icmp .ge 15, 3) := by decide +kernel
theorem dX8_layOne_121 : decode cX8_layOne 121 = .ok (.aload_n 0, 1) := by decide +kernel
theorem dX8_layOne_122 : decode cX8_layOne 122 = .ok (.getfield 34, 3) := by decide +kernel
theorem dX8_layOne_125 : decode cX8_layOne 125 = .ok (.iload 6, 2) := by decide +kernel
theorem dX8_layOne_127 : decode cX8_layOne 127 = .ok (.iaload, 1) := by decide +kernel
theorem dX8_layOne_128 : decode cX8_layOne 128 = .ok (.iconst 1, 1) := by decide +kernel
theorem dX8_layOne_129 : decode cX8_layOne 129 = .ok (.iadd, 1) := by decide +kernel
theorem dX8_layOne_130 : decode cX8_layOne 130 = .ok (.goto 9, 3) := by decide +kernel
theorem dX8_layOne_133 : decode cX8_layOne 133 = .ok (.aload_n 0, 1) := by decide +kernel
theorem dX8_layOne_134 : decode cX8_layOne 134 = .ok (.getfield 34, 3) := by decide +kernel
theorem dX8_layOne_137 : decode cX8_layOne 137 = .ok (.iload_n 1, 1) := by decide +kernel
theorem dX8_layOne_138 : decode cX8_layOne 138 = .ok (.iaload, 1) := by decide +kernel
theorem dX8_layOne_139 : decode cX8_layOne 139 = .ok (.iastore, 1) := by decide +kernel
theorem dX8_layOne_140 : decode cX8_layOne 140 = .ok (.aload_n 0, 1) := by decide +kernel
theorem dX8_layOne_141 : decode cX8_layOne 141 = .ok (.getfield 37, 3) := by decide +kernel
theorem dX8_layOne_144 : decode cX8_layOne 144 = .ok (.iload_n 1, 1) := by decide +kernel
theorem dX8_layOne_145 : decode cX8_layOne 145 = .ok (.aload_n 0, 1) := by decide +kernel
theorem dX8_layOne_146 : decode cX8_layOne 146 = .ok (.getfield 37, 3) := by decide +kernel
theorem dX8_layOne_149 : decode cX8_layOne 149 = .ok (.iload 6, 2) := by decide +kernel
theorem dX8_layOne_151 : decode cX8_layOne 151 = .ok (.iaload, 1) := by decide +kernel
theorem dX8_layOne_152 : decode cX8_layOne 152 = .ok (.iconst 1, 1) := by decide +kernel
theorem dX8_layOne_153 : decode cX8_layOne 153 = .ok (.iadd, 1) := by decide +kernel
theorem dX8_layOne_154 : decode cX8_layOne 154 = .ok (.aload_n 0, 1) := by decide +kernel
theorem dX8_layOne_155 : decode cX8_layOne 155 = .ok (.getfield 37, 3) := by decide +kernel
theorem dX8_layOne_158 : decode cX8_layOne 158 = .ok (.iload_n 1, 1) := by decide +kernel
theorem dX8_layOne_159 : decode cX8_layOne 159 = .ok (.iaload, 1) := by decide +kernel
theorem dX8_layOne_160 : decode cX8_layOne 160 = .ok (.if_icmp .le 15, 3) := by decide +kernel
theorem dX8_layOne_163 : decode cX8_layOne 163 = .ok (.aload_n 0, 1) := by decide +kernel
theorem dX8_layOne_164 : decode cX8_layOne 164 = .ok (.getfield 37, 3) := by decide +kernel
theorem dX8_layOne_167 : decode cX8_layOne 167 = .ok (.iload 6, 2) := by decide +kernel
theorem dX8_layOne_169 : decode cX8_layOne 169 = .ok (.iaload, 1) := by decide +kernel
theorem dX8_layOne_170 : decode cX8_layOne 170 = .ok (.iconst 1, 1) := by decide +kernel
theorem dX8_layOne_171 : decode cX8_layOne 171 = .ok (.iadd, 1) := by decide +kernel
theorem dX8_layOne_172 : decode cX8_layOne 172 = .ok (.goto 9, 3) := by decide +kernel
theorem dX8_layOne_175 : decode cX8_layOne 175 = .ok (.aload_n 0, 1) := by decide +kernel
theorem dX8_layOne_176 : decode cX8_layOne 176 = .ok (.getfield 37, 3) := by decide +kernel
theorem dX8_layOne_179 : decode cX8_layOne 179 = .ok (.iload_n 1, 1) := by decide +kernel
theorem dX8_layOne_180 : decode cX8_layOne 180 = .ok (.iaload, 1) := by decide +kernel
theorem dX8_layOne_181 : decode cX8_layOne 181 = .ok (.iastore, 1) := by decide +kernel
theorem dX8_layOne_182 : decode cX8_layOne 182 = .ok (.iinc 5 1, 3) := by decide +kernel
theorem dX8_layOne_185 : decode cX8_layOne 185 = .ok (.goto (-156), 3) := by decide +kernel
theorem dX8_layOne_188 : decode cX8_layOne 188 = .ok (.iload_n 2, 1) := by decide +kernel
theorem dX8_layOne_189 : decode cX8_layOne 189 = .ok (.ifCond .ne 36, 3) := by decide +kernel
theorem dX8_layOne_192 : decode cX8_layOne 192 = .ok (.aload_n 0, 1) := by decide +kernel
theorem dX8_layOne_193 : decode cX8_layOne 193 = .ok (.getfield 31, 3) := by decide +kernel
theorem dX8_layOne_196 : decode cX8_layOne 196 = .ok (.iload_n 1, 1) := by decide +kernel
theorem dX8_layOne_197 : decode cX8_layOne 197 = .ok (.aload_n 0, 1) := by decide +kernel
theorem dX8_layOne_198 : decode cX8_layOne 198 = .ok (.getfield 109, 3) := by decide +kernel
theorem dX8_layOne_201 : decode cX8_layOne 201 = .ok (.iastore, 1) := by decide +kernel
theorem dX8_layOne_202 : decode cX8_layOne 202 = .ok (.aload_n 0, 1) := by decide +kernel
theorem dX8_layOne_203 : decode cX8_layOne 203 = .ok (.getfield 34, 3) := by decide +kernel
theorem dX8_layOne_206 : decode cX8_layOne 206 = .ok (.iload_n 1, 1) := by decide +kernel
theorem dX8_layOne_207 : decode cX8_layOne 207 = .ok (.iconst 0, 1) := by decide +kernel
theorem dX8_layOne_208 : decode cX8_layOne 208 = .ok (.iastore, 1) := by decide +kernel
theorem dX8_layOne_209 : decode cX8_layOne 209 = .ok (.aload_n 0, 1) := by decide +kernel
theorem dX8_layOne_210 : decode cX8_layOne 210 = .ok (.getfield 40, 3) := by decide +kernel
theorem dX8_layOne_213 : decode cX8_layOne 213 = .ok (.iload_n 1, 1) := by decide +kernel
theorem dX8_layOne_214 : decode cX8_layOne 214 = .ok (.ldc 177, 2) := by decide +kernel
theorem dX8_layOne_216 : decode cX8_layOne 216 = .ok (.aload_n 0, 1) := by decide +kernel
theorem dX8_layOne_217 : decode cX8_layOne 217 = .ok (.getfield 109, 3) := by decide +kernel
theorem dX8_layOne_220 : decode cX8_layOne 220 = .ok (.imul, 1) := by decide +kernel
theorem dX8_layOne_221 : decode cX8_layOne 221 = .ok (.iastore, 1) := by decide +kernel
theorem dX8_layOne_222 : decode cX8_layOne 222 = .ok (.goto 14, 3) := by decide +kernel
theorem dX8_layOne_225 : decode cX8_layOne 225 = .ok (.aload_n 0, 1) := by decide +kernel
theorem dX8_layOne_226 : decode cX8_layOne 226 = .ok (.getfield 40, 3) := by decide +kernel
theorem dX8_layOne_229 : decode cX8_layOne 229 = .ok (.iload_n 1, 1) := by decide +kernel
theorem dX8_layOne_230 : decode cX8_layOne 230 = .ok (.lload_n 3, 1) := by decide +kernel
theorem dX8_layOne_231 : decode cX8_layOne 231 = .ok (.iload_n 2, 1) := by decide +kernel
theorem dX8_layOne_232 : decode cX8_layOne 232 = .ok (.i2l, 1) := by decide +kernel
theorem dX8_layOne_233 : decode cX8_layOne 233 = .ok (.ldiv, 1) := by decide +kernel
theorem dX8_layOne_234 : decode cX8_layOne 234 = .ok (.l2i, 1) := by decide +kernel
theorem dX8_layOne_235 : decode cX8_layOne 235 = .ok (.iastore, 1) := by decide +kernel
theorem dX8_layOne_236 : decode cX8_layOne 236 = .ok (.return_, 1) := by decide +kernel
set_option maxRecDepth 20000 in
theorem ggX8_layAll_X8_layOne : GoodIn wsX8_layAll wsX8_layOne := goodIn_r _ [6, 7, 8, 9, 10, 11, 12, 13, 14, 15, 16, 5, 17, 18, 19, 20, 21, 22, 23, 24, 25, 26, 27, 28, 29, 30, 31, 32, 33, 34, 35, 36, 37, 38, 39, 40, 41, 42, 43, 44, 45, 46, 47, 48, 49, 50, 51, 52, 53, 54, 55, 56, 57, 58, 59, 60, 61, 62, 63, 64, 65, 66, 67, 68, 69, 70, 71, 72, 73, 74, 75, 76, 77, 78] (by decide +kernel) (by decide +kernel)
set_option maxRecDepth 20000 in
theorem gX8_layAll_X8_layOne : GoodIn wsX8_layAll (wsV RX8 178 RX8 yX8_layOne wsX8_layOne) := goodIn_app (goodIn_of _ (by decide +kernel)) ggX8_layAll_X8_layOne
theorem dX8_layAll_0 : decode cX8_layAll 0 = .ok (.iconst 0, 1) := by decide +kernel
theorem dX8_layAll_1 : decode cX8_layAll 1 = .ok (.istore_n 1, 1) := by decide +kernel
theorem dX8_layAll_2 : decode cX8_layAll 2 = .ok (.iload_n 1, 1) := by decide +kernel
theorem dX8_layAll_3 : decode cX8_layAll 3 = .ok (.aload_n 0, 1) := by decide +kernel
theorem dX8_layAll_4 : decode cX8_layAll 4 = .ok (.getfield 112, 3) := by decide +kernel
theorem dX8_layAll_7 : decode cX8_layAll 7 = .ok (.if_icmp .gt 25, 3) := by decide +kernel
theorem dX8_layAll_10 : decode cX8_layAll 10 = .ok (.iload_n 1, 1) := by decide +kernel
theorem dX8_layAll_11 : decode cX8_layAll 11 = .ok (.aload_n 0, 1) := by decide +kernel
theorem dX8_layAll_12 : decode cX8_layAll 12 = .ok (.getfield 112, 3) := by decide +kernel
theorem dX8_layAll_15 : decode cX8_layAll 15 = .ok (.iconst (-1), 1) := by decide +kernel
theorem dX8_layAll_16 : decode cX8_layAll 16 = .ok (.ixor, 1) := by decide +kernel
theorem dX8_layAll_17 : decode cX8_layAll 17 = .ok (.iand, 1) := by decide +kernel
theorem dX8_layAll_18 : decode cX8_layAll 18 = .ok (.ifCond .ne 8, 3) := by decide +kernel
theorem dX8_layAll_21 : decode cX8_layAll 21 = .ok (.aload_n 0, 1) := by decide +kernel
theorem dX8_layAll_22 : decode cX8_layAll 22 = .ok (.iload_n 1, 1) := by decide +kernel
theorem dX8_layAll_23 : decode cX8_layAll 23 = .ok (.invokevirtual 178, 3) := by decide +kernel
theorem dX8_layAll_26 : decode cX8_layAll 26 = .ok (.iinc 1 1, 3) := by decide +kernel
theorem dX8_layAll_29 : decode cX8_layAll 29 = .ok (.goto (-27), 3) := by decide +kernel
theorem dX8_layAll_32 : decode cX8_layAll 32 = .ok (.return_, 1) := by decide +kernel
set_option maxRecDepth 20000 in
theorem ggX8_winsOf_X8_layAll : GoodIn wsX8_winsOf wsX8_layAll := goodIn_r _ [7, 2, 8, 9, 10, 6, 11, 1, 12, 13, 14, 15, 16, 17, 18, 19, 20, 21, 22, 23, 24, 25, 26, 27, 28, 29, 30, 31, 32, 33, 34, 35, 36, 37, 38, 39, 40, 41, 42, 43, 44, 45, 46, 47, 48, 49, 50, 51, 52, 53, 54, 55, 56, 57, 58, 59, 60, 61, 62, 63, 64, 65, 66, 67, 68, 69, 70, 71, 72, 73, 74, 75, 76, 77, 78, 79, 80, 81, 82] (by decide +kernel) (by decide +kernel)
set_option maxRecDepth 20000 in
theorem gX8_winsOf_X8_layAll : GoodIn wsX8_winsOf (wsV RX8 182 RX8 yX8_layAll wsX8_layAll) := goodIn_app (goodIn_of _ (by decide +kernel)) ggX8_winsOf_X8_layAll
theorem dX8_winsOf_0 : decode cX8_winsOf 0 = .ok (.aload_n 0, 1) := by decide +kernel
theorem dX8_winsOf_1 : decode cX8_winsOf 1 = .ok (.invokevirtual 182, 3) := by decide +kernel
theorem dX8_winsOf_4 : decode cX8_winsOf 4 = .ok (.aload_n 0, 1) := by decide +kernel
theorem dX8_winsOf_5 : decode cX8_winsOf 5 = .ok (.getfield 31, 3) := by decide +kernel
theorem dX8_winsOf_8 : decode cX8_winsOf 8 = .ok (.aload_n 0, 1) := by decide +kernel
theorem dX8_winsOf_9 : decode cX8_winsOf 9 = .ok (.getfield 112, 3) := by decide +kernel
theorem dX8_winsOf_12 : decode cX8_winsOf 12 = .ok (.iaload, 1) := by decide +kernel
theorem dX8_winsOf_13 : decode cX8_winsOf 13 = .ok (.ireturn, 1) := by decide +kernel
set_option maxRecDepth 20000 in
theorem ggX8_wins_X8_lacks : GoodIn wsX8_wins wsX8_lacks := goodIn_r _ [5, 6, 56, 57, 58, 59, 60, 61, 62, 63, 64, 65, 66, 67, 68, 69, 70, 71, 72, 73, 74, 75, 76, 77, 78, 79, 80, 81, 82, 83, 84, 85, 86, 87, 88, 89, 90] (by decide +kernel) (by decide +kernel)
set_option maxRecDepth 20000 in
theorem gX8_wins_X8_lacks : GoodIn wsX8_wins (wsV RX8 156 RX8 yX8_lacks wsX8_lacks) := goodIn_app (goodIn_of _ (by decide +kernel)) ggX8_wins_X8_lacks
set_option maxRecDepth 20000 in
theorem ggX8_wins_X8_winsOf : GoodIn wsX8_wins wsX8_winsOf := goodIn_r _ [10, 11, 12, 13, 14, 15, 4, 16, 17, 18, 19, 20, 21, 22, 6, 23, 24, 25, 26, 27, 28, 29, 30, 31, 32, 33, 34, 35, 36, 37, 38, 39, 40, 41, 42, 43, 44, 45, 46, 47, 48, 49, 50, 51, 52, 53, 54, 55, 56, 57, 58, 59, 60, 61, 62, 63, 64, 65, 66, 67, 68, 69, 70, 71, 72, 73, 74, 75, 76, 77, 78, 79, 80, 81, 82, 83, 84, 85, 86, 87, 88, 89, 90] (by decide +kernel) (by decide +kernel)
set_option maxRecDepth 20000 in
theorem gX8_wins_X8_winsOf : GoodIn wsX8_wins (wsV RX8 185 RX8 yX8_winsOf wsX8_winsOf) := goodIn_app (goodIn_of _ (by decide +kernel)) ggX8_wins_X8_winsOf
theorem dX8_wins_0 : decode cX8_wins 0 = .ok (.aload_n 0, 1) := by decide +kernel
theorem dX8_wins_1 : decode cX8_wins 1 = .ok (.invokevirtual 156, 3) := by decide +kernel
theorem dX8_wins_4 : decode cX8_wins 4 = .ok (.ifCond .eq 8, 3) := by decide +kernel
theorem dX8_wins_7 : decode cX8_wins 7 = .ok (.bipush (-103), 2) := by decide +kernel
theorem dX8_wins_9 : decode cX8_wins 9 = .ok (.goto 7, 3) := by decide +kernel
theorem dX8_wins_12 : decode cX8_wins 12 = .ok (.aload_n 0, 1) := by decide +kernel
theorem dX8_wins_13 : decode cX8_wins 13 = .ok (.invokevirtual 185, 3) := by decide +kernel
theorem dX8_wins_16 : decode cX8_wins 16 = .ok (.ireturn, 1) := by decide +kernel
set_option maxRecDepth 20000 in
theorem ggX8_likelyOf_X8_layAll : GoodIn wsX8_likelyOf wsX8_layAll := goodIn_r _ [7, 2, 8, 9, 10, 6, 11, 12, 13, 14, 15, 16, 1, 17, 18, 19, 20, 21, 22, 23, 24, 25, 26, 27, 28, 29, 30, 31, 32, 33, 34, 35, 36, 37, 38, 39, 40, 41, 42, 43, 44, 45, 46, 47, 48, 49, 50, 51, 52, 53, 54, 55, 56, 57, 58, 59, 60, 61, 62, 63, 64, 65, 66, 67, 68, 69, 70, 71, 72, 73, 74, 75, 76, 77, 78, 79, 80, 81, 82] (by decide +kernel) (by decide +kernel)
set_option maxRecDepth 20000 in
theorem gX8_likelyOf_X8_layAll : GoodIn wsX8_likelyOf (wsV RX8 182 RX8 yX8_layAll wsX8_layAll) := goodIn_app (goodIn_of _ (by decide +kernel)) ggX8_likelyOf_X8_layAll
theorem dX8_likelyOf_0 : decode cX8_likelyOf 0 = .ok (.aload_n 0, 1) := by decide +kernel
theorem dX8_likelyOf_1 : decode cX8_likelyOf 1 = .ok (.invokevirtual 182, 3) := by decide +kernel
theorem dX8_likelyOf_4 : decode cX8_likelyOf 4 = .ok (.aload_n 0, 1) := by decide +kernel
theorem dX8_likelyOf_5 : decode cX8_likelyOf 5 = .ok (.getfield 40, 3) := by decide +kernel
theorem dX8_likelyOf_8 : decode cX8_likelyOf 8 = .ok (.aload_n 0, 1) := by decide +kernel
theorem dX8_likelyOf_9 : decode cX8_likelyOf 9 = .ok (.getfield 112, 3) := by decide +kernel
theorem dX8_likelyOf_12 : decode cX8_likelyOf 12 = .ok (.iaload, 1) := by decide +kernel
theorem dX8_likelyOf_13 : decode cX8_likelyOf 13 = .ok (.ireturn, 1) := by decide +kernel
set_option maxRecDepth 20000 in
theorem ggX8_likely_X8_lacks : GoodIn wsX8_likely wsX8_lacks := goodIn_r _ [5, 6, 56, 57, 58, 59, 60, 61, 62, 63, 64, 65, 66, 67, 68, 69, 70, 71, 72, 73, 74, 75, 76, 77, 78, 79, 80, 81, 82, 83, 84, 85, 86, 87, 88, 89, 90] (by decide +kernel) (by decide +kernel)
set_option maxRecDepth 20000 in
theorem gX8_likely_X8_lacks : GoodIn wsX8_likely (wsV RX8 156 RX8 yX8_lacks wsX8_lacks) := goodIn_app (goodIn_of _ (by decide +kernel)) ggX8_likely_X8_lacks
set_option maxRecDepth 20000 in
theorem ggX8_likely_X8_likelyOf : GoodIn wsX8_likely wsX8_likelyOf := goodIn_r _ [10, 11, 12, 13, 14, 15, 4, 16, 17, 18, 19, 20, 21, 22, 23, 6, 24, 25, 26, 27, 28, 29, 30, 31, 32, 33, 34, 35, 36, 37, 38, 39, 40, 41, 42, 43, 44, 45, 46, 47, 48, 49, 50, 51, 52, 53, 54, 55, 56, 57, 58, 59, 60, 61, 62, 63, 64, 65, 66, 67, 68, 69, 70, 71, 72, 73, 74, 75, 76, 77, 78, 79, 80, 81, 82, 83, 84, 85, 86, 87, 88, 89, 90] (by decide +kernel) (by decide +kernel)
set_option maxRecDepth 20000 in
theorem gX8_likely_X8_likelyOf : GoodIn wsX8_likely (wsV RX8 188 RX8 yX8_likelyOf wsX8_likelyOf) := goodIn_app (goodIn_of _ (by decide +kernel)) ggX8_likely_X8_likelyOf
theorem dX8_likely_0 : decode cX8_likely 0 = .ok (.aload_n 0, 1) := by decide +kernel
theorem dX8_likely_1 : decode cX8_likely 1 = .ok (.invokevirtual 156, 3) := by decide +kernel
theorem dX8_likely_4 : decode cX8_likely 4 = .ok (.ifCond .eq 8, 3) := by decide +kernel
theorem dX8_likely_7 : decode cX8_likely 7 = .ok (.bipush (-103), 2) := by decide +kernel
theorem dX8_likely_9 : decode cX8_likely 9 = .ok (.goto 7, 3) := by decide +kernel
theorem dX8_likely_12 : decode cX8_likely 12 = .ok (.aload_n 0, 1) := by decide +kernel
theorem dX8_likely_13 : decode cX8_likely 13 = .ok (.invokevirtual 188, 3) := by decide +kernel
theorem dX8_likely_16 : decode cX8_likely 16 = .ok (.ireturn, 1) := by decide +kernel
set_option maxRecDepth 20000 in
theorem ggX8_bestOf_X8_layAll : GoodIn wsX8_bestOf wsX8_layAll := goodIn_r _ [10, 2, 11, 12, 13, 9, 14, 3, 4, 5, 1, 15, 16, 17, 18, 19, 20, 21, 22, 23, 24, 25, 26, 27, 28, 29, 30, 31, 32, 33, 34, 35, 36, 37, 38, 39, 40, 41, 42, 43, 44, 45, 46, 47, 48, 49, 50, 51, 52, 53, 54, 55, 56, 57, 58, 59, 60, 61, 62, 63, 64, 65, 66, 67, 68, 69, 70, 71, 72, 73, 74, 75, 76, 77, 78, 79, 80, 81, 82] (by decide +kernel) (by decide +kernel)
set_option maxRecDepth 20000 in
theorem gX8_bestOf_X8_layAll : GoodIn wsX8_bestOf (wsV RX8 182 RX8 yX8_layAll wsX8_layAll) := goodIn_app (goodIn_of _ (by decide +kernel)) ggX8_bestOf_X8_layAll
set_option maxRecDepth 20000 in
theorem ggX8_bestOf_X8_leftBy : GoodIn wsX8_bestOf wsX8_leftBy := goodIn_r _ [21, 22, 23, 24, 9, 25, 26, 1, 27, 28, 29, 30, 31, 32, 33, 34, 35, 36, 37, 38, 39, 40, 41, 42, 43, 44, 45, 46, 47, 48, 49, 50, 51, 52, 53, 54, 55, 56, 57, 58, 59, 60, 61, 62, 63, 64, 65, 66, 67, 68, 69, 70, 71, 72, 73, 74, 75, 76, 77, 78, 79, 80, 81, 82] (by decide +kernel) (by decide +kernel)
set_option maxRecDepth 20000 in
theorem gX8_bestOf_X8_leftBy : GoodIn wsX8_bestOf (wsV RX8 143 RX8 yX8_leftBy wsX8_leftBy) := goodIn_app (goodIn_of _ (by decide +kernel)) ggX8_bestOf_X8_leftBy
theorem dX8_bestOf_0 : decode cX8_bestOf 0 = .ok (.aload_n 0, 1) := by decide +kernel
theorem dX8_bestOf_1 : decode cX8_bestOf 1 = .ok (.invokevirtual 182, 3) := by decide +kernel
theorem dX8_bestOf_4 : decode cX8_bestOf 4 = .ok (.iconst (-1), 1) := by decide +kernel
theorem dX8_bestOf_5 : decode cX8_bestOf 5 = .ok (.istore_n 2, 1) := by decide +kernel
theorem dX8_bestOf_6 : decode cX8_bestOf 6 = .ok (.iconst 0, 1) := by decide +kernel
theorem dX8_bestOf_7 : decode cX8_bestOf 7 = .ok (.istore_n 3, 1) := by decide +kernel
theorem dX8_bestOf_8 : decode cX8_bestOf 8 = .ok (.iconst 3, 1) := by decide +kernel
theorem dX8_bestOf_9 : decode cX8_bestOf 9 = .ok (.aload_n 0, 1) := by decide +kernel
theorem dX8_bestOf_10 : decode cX8_bestOf 10 = .ok (.getfield 96, 3) := by decide +kernel
theorem dX8_bestOf_13 : decode cX8_bestOf 13 = .ok (.imul, 1) := by decide +kernel
theorem dX8_bestOf_14 : decode cX8_bestOf 14 = .ok (.iconst 1, 1) := by decide +kernel
theorem dX8_bestOf_15 : decode cX8_bestOf 15 = .ok (.isub, 1) := by decide +kernel
theorem dX8_bestOf_16 : decode cX8_bestOf 16 = .ok (.istore 4, 2) := by decide +kernel
theorem dX8_bestOf_18 : decode cX8_bestOf 18 = .ok (.iload 4, 2) := by decide +kernel
theorem dX8_bestOf_20 : decode cX8_bestOf 20 = .ok (.ifCond .lt 55, 3) := by decide +kernel
theorem dX8_bestOf_23 : decode cX8_bestOf 23 = .ok (.aload_n 0, 1) := by decide +kernel
theorem dX8_bestOf_24 : decode cX8_bestOf 24 = .ok (.aload_n 0, 1) := by decide +kernel
theorem dX8_bestOf_25 : decode cX8_bestOf 25 = .ok (.getfield 112, 3) := by decide +kernel
theorem dX8_bestOf_28 : decode cX8_bestOf 28 = .ok (.iload 4, 2) := by decide +kernel
theorem dX8_bestOf_30 : decode cX8_bestOf 30 = .ok (.invokevirtual 143, 3) := by decide +kernel
theorem dX8_bestOf_33 : decode cX8_bestOf 33 = .ok (.istore 5, 2) := by decide +kernel
theorem dX8_bestOf_35 : decode cX8_bestOf 35 = .ok (.iload 5, 2) := by decide +kernel
theorem dX8_bestOf_37 : decode cX8_bestOf 37 = .ok (.iconst (-1), 1) := by decide +kernel
theorem dX8_bestOf_38 : decode cX8_bestOf 38 = .ok (.if_icmp .eq 31, 3) := by decide +kernel
theorem dX8_bestOf_41 : decode cX8_bestOf 41 = .ok (.aload_n 0, 1) := by decide +kernel
theorem dX8_bestOf_42 : decode cX8_bestOf 42 = .ok (.getfield 31, 3) := by decide +kernel
theorem dX8_bestOf_45 : decode cX8_bestOf 45 = .ok (.iload 5, 2) := by decide +kernel
theorem dX8_bestOf_47 : decode cX8_bestOf 47 = .ok (.iaload, 1) := by decide +kernel
theorem dX8_bestOf_48 : decode cX8_bestOf 48 = .ok (.ifCond .ne 21, 3) := by decide +kernel
theorem dX8_bestOf_51 : decode cX8_bestOf 51 = .ok (.bipush 10, 2) := by decide +kernel
theorem dX8_bestOf_53 : decode cX8_bestOf 53 = .ok (.iload 4, 2) := by decide +kernel
theorem dX8_bestOf_55 : decode cX8_bestOf 55 = .ok (.iconst 3, 1) := by decide +kernel
theorem dX8_bestOf_56 : decode cX8_bestOf 56 = .ok (.idiv, 1) := by decide +kernel
theorem dX8_bestOf_57 : decode cX8_bestOf 57 = .ok (.imul, 1) := by decide +kernel
theorem dX8_bestOf_58 : decode cX8_bestOf 58 = .ok (.iload 4, 2) := by decide +kernel
theorem dX8_bestOf_60 : decode cX8_bestOf 60 = .ok (.iconst 3, 1) := by decide +kernel
theorem dX8_bestOf_61 : decode cX8_bestOf 61 = .ok (.irem, 1) := by decide +kernel
theorem dX8_bestOf_62 : decode cX8_bestOf 62 = .ok (.iadd, 1) := by decide +kernel
theorem dX8_bestOf_63 : decode cX8_bestOf 63 = .ok (.iconst 1, 1) := by decide +kernel
theorem dX8_bestOf_64 : decode cX8_bestOf 64 = .ok (.iadd, 1) := by decide +kernel
theorem dX8_bestOf_65 : decode cX8_bestOf 65 = .ok (.istore_n 2, 1) := by decide +kernel
theorem dX8_bestOf_66 : decode cX8_bestOf 66 = .ok (.iinc 3 1, 3) := by decide +kernel
theorem dX8_bestOf_69 : decode cX8_bestOf 69 = .ok (.iinc 4 (-1), 3) := by decide +kernel
theorem dX8_bestOf_72 : decode cX8_bestOf 72 = .ok (.goto (-54), 3) := by decide +kernel
theorem dX8_bestOf_75 : decode cX8_bestOf 75 = .ok (.iload_n 1, 1) := by decide +kernel
theorem dX8_bestOf_76 : decode cX8_bestOf 76 = .ok (.ifCond .ne 7, 3) := by decide +kernel
theorem dX8_bestOf_79 : decode cX8_bestOf 79 = .ok (.iload_n 2, 1) := by decide +kernel
theorem dX8_bestOf_80 : decode cX8_bestOf 80 = .ok (.goto 38, 3) := by decide +kernel
theorem dX8_bestOf_83 : decode cX8_bestOf 83 = .ok (.iload_n 1, 1) := by decide +kernel
theorem dX8_bestOf_84 : decode cX8_bestOf 84 = .ok (.iconst 1, 1) := by decide +kernel
theorem dX8_bestOf_85 : decode cX8_bestOf 85 = .ok (.if_icmp .ne 7, 3) := by decide +kernel
theorem dX8_bestOf_88 : decode cX8_bestOf 88 = .ok (.iload_n 3, 1) := by decide +kernel
theorem dX8_bestOf_89 : decode cX8_bestOf 89 = .ok (.goto 29, 3) := by decide +kernel
theorem dX8_bestOf_92 : decode cX8_bestOf 92 = .ok (.iload_n 1, 1) := by decide +kernel
theorem dX8_bestOf_93 : decode cX8_bestOf 93 = .ok (.iconst 2, 1) := by decide +kernel
theorem dX8_bestOf_94 : decode cX8_bestOf 94 = .ok (.if_icmp .ne 15, 3) := by decide +kernel
theorem dX8_bestOf_97 : decode cX8_bestOf 97 = .ok (.aload_n 0, 1) := by decide +kernel
theorem dX8_bestOf_98 : decode cX8_bestOf 98 = .ok (.getfield 34, 3) := by decide +kernel
theorem dX8_bestOf_101 : decode cX8_bestOf 101 = .ok (.aload_n 0, 1) := by decide +kernel
theorem dX8_bestOf_102 : decode cX8_bestOf 102 = .ok (.getfield 112, 3) := by decide +kernel
theorem dX8_bestOf_105 : decode cX8_bestOf 105 = .ok (.iaload, 1) := by decide +kernel
theorem dX8_bestOf_106 : decode cX8_bestOf 106 = .ok (.goto 12, 3) := by decide +kernel
theorem dX8_bestOf_109 : decode cX8_bestOf 109 = .ok (.aload_n 0, 1) := by decide +kernel
theorem dX8_bestOf_110 : decode cX8_bestOf 110 = .ok (.getfield 37, 3) := by decide +kernel
theorem dX8_bestOf_113 : decode cX8_bestOf 113 = .ok (.aload_n 0, 1) := by decide +kernel
theorem dX8_bestOf_114 : decode cX8_bestOf 114 = .ok (.getfield 112, 3) := by decide +kernel
theorem dX8_bestOf_117 : decode cX8_bestOf 117 = .ok (.iaload, 1) := by decide +kernel
theorem dX8_bestOf_118 : decode cX8_bestOf 118 = .ok (.ireturn, 1) := by decide +kernel
set_option maxRecDepth 20000 in
theorem ggX8_best_X8_in : GoodIn wsX8_best wsX8_in := goodIn_r _ [5] (by decide +kernel) (by decide +kernel)
set_option maxRecDepth 20000 in
theorem gX8_best_X8_in : GoodIn wsX8_best (va_wsS RX8 58 yX8_in wsX8_in) := goodIn_app (goodIn_of _ (by decide +kernel)) ggX8_best_X8_in
set_option maxRecDepth 20000 in
theorem ggX8_best_X8_lacks : GoodIn wsX8_best wsX8_lacks := goodIn_r _ [9, 10, 57, 58, 59, 60, 61, 62, 63, 64, 65, 66, 67, 68, 69, 70, 71, 72, 73, 74, 75, 76, 77, 78, 79, 80, 81, 82, 83, 84, 85, 86, 87, 88, 89, 90, 91] (by decide +kernel) (by decide +kernel)
set_option maxRecDepth 20000 in
theorem gX8_best_X8_lacks : GoodIn wsX8_best (wsV RX8 156 RX8 yX8_lacks wsX8_lacks) := goodIn_app (goodIn_of _ (by decide +kernel)) ggX8_best_X8_lacks
set_option maxRecDepth 20000 in
theorem ggX8_best_X8_bestOf : GoodIn wsX8_best wsX8_bestOf := goodIn_r _ [14, 10, 15, 16, 17, 18, 19, 20, 21, 4, 22, 23, 24, 25, 26, 27, 28, 29, 30, 31, 32, 33, 34, 35, 36, 37, 38, 39, 40, 41, 42, 43, 44, 45, 46, 47, 48, 49, 50, 51, 52, 53, 54, 55, 56, 2, 3, 5, 57, 58, 59, 60, 61, 62, 63, 64, 65, 66, 67, 68, 69, 70, 71, 72, 73, 74, 75, 76, 77, 78, 79, 80, 81, 82, 83, 84, 85, 86, 87, 88, 89, 90, 91] (by decide +kernel) (by decide +kernel)
set_option maxRecDepth 20000 in
theorem gX8_best_X8_bestOf : GoodIn wsX8_best (wsV RX8 193 RX8 yX8_bestOf wsX8_bestOf) := goodIn_app (goodIn_of _ (by decide +kernel)) ggX8_best_X8_bestOf
theorem dX8_best_0 : decode cX8_best 0 = .ok (.iload_n 1, 1) := by decide +kernel
theorem dX8_best_1 : decode cX8_best 1 = .ok (.i2l, 1) := by decide +kernel
theorem dX8_best_2 : decode cX8_best 2 = .ok (.lconst 0, 1) := by decide +kernel
theorem dX8_best_3 : decode cX8_best 3 = .ok (.ldc2_w 191, 3) := by decide +kernel
theorem dX8_best_6 : decode cX8_best 6 = .ok (.invokestatic 58, 3) := by decide +kernel
theorem dX8_best_9 : decode cX8_best 9 = .ok (.ifCond .ne 6, 3) := by decide +kernel
theorem dX8_best_12 : decode cX8_best 12 = .ok (.bipush (-102), 2) := by decide +kernel
theorem dX8_best_14 : decode cX8_best 14 = .ok (.ireturn, 1) := by decide +kernel
theorem dX8_best_15 : decode cX8_best 15 = .ok (.aload_n 0, 1) := by decide +kernel
theorem dX8_best_16 : decode cX8_best 16 = .ok (.invokevirtual 156, 3) := by decide +kernel
theorem dX8_best_19 : decode cX8_best 19 = .ok (.ifCond .eq 8, 3) := by decide +kernel
theorem dX8_best_22 : decode cX8_best 22 = .ok (.bipush (-103), 2) := by decide +kernel
theorem dX8_best_24 : decode cX8_best 24 = .ok (.goto 8, 3) := by decide +kernel
theorem dX8_best_27 : decode cX8_best 27 = .ok (.aload_n 0, 1) := by decide +kernel
theorem dX8_best_28 : decode cX8_best 28 = .ok (.iload_n 1, 1) := by decide +kernel
theorem dX8_best_29 : decode cX8_best 29 = .ok (.invokevirtual 193, 3) := by decide +kernel
theorem dX8_best_32 : decode cX8_best 32 = .ok (.ireturn, 1) := by decide +kernel
set_option maxRecDepth 20000 in
theorem ggX8_tellPin_X8_canBe : GoodIn wsX8_tellPin wsX8_canBe := goodIn_r _ [8, 9, 10, 2, 1, 46, 47, 48, 49, 50, 51, 52, 53, 54, 55, 56, 57, 58, 59, 60, 61, 62, 63, 64, 65, 66, 67, 68, 69, 70, 71, 72, 73, 74, 75, 76, 77, 78, 79, 80] (by decide +kernel) (by decide +kernel)
set_option maxRecDepth 20000 in
theorem gX8_tellPin_X8_canBe : GoodIn wsX8_tellPin (wsV RX8 135 RX8 yX8_canBe wsX8_canBe) := goodIn_app (goodIn_of _ (by decide +kernel)) ggX8_tellPin_X8_canBe
set_option maxRecDepth 20000 in
theorem ggX8_tellPin_X8_fallsOf : GoodIn wsX8_tellPin wsX8_fallsOf := goodIn_r _ [14, 15, 16, 17, 7, 18, 10, 1, 19, 20, 21, 22, 23, 24, 25, 26, 2, 27, 28, 29, 46, 47, 48, 49, 50, 51, 52, 53, 54, 55, 56, 57, 58, 59, 60, 61, 62, 63, 64, 65, 66, 67, 68, 69, 70, 71, 72, 73, 74, 75, 76, 77, 78, 79, 80] (by decide +kernel) (by decide +kernel)
set_option maxRecDepth 20000 in
theorem gX8_tellPin_X8_fallsOf : GoodIn wsX8_tellPin (wsV RX8 139 RX8 yX8_fallsOf wsX8_fallsOf) := goodIn_app (goodIn_of _ (by decide +kernel)) ggX8_tellPin_X8_fallsOf
set_option maxRecDepth 20000 in
theorem ggX8_tellPin_X8_sortsOf : GoodIn wsX8_tellPin wsX8_sortsOf := goodIn_r _ [33, 34, 35, 36, 37, 7, 38, 46, 47, 48, 49, 50, 51, 52, 53, 54, 55, 56, 57, 58, 59, 60, 61, 62, 63, 64, 65, 66, 67, 68, 69, 70, 71, 72, 73, 74, 75, 76, 77, 78, 79, 80] (by decide +kernel) (by decide +kernel)
set_option maxRecDepth 20000 in
theorem gX8_tellPin_X8_sortsOf : GoodIn wsX8_tellPin (wsV RX8 196 RX8 yX8_sortsOf wsX8_sortsOf) := goodIn_app (goodIn_of _ (by decide +kernel)) ggX8_tellPin_X8_sortsOf
set_option maxRecDepth 20000 in
theorem ggX8_tellPin_X8_wayOf : GoodIn wsX8_tellPin wsX8_wayOf := goodIn_r _ [42, 30, 31, 32, 7, 33, 34, 35, 36, 37, 38, 43, 44, 45, 46, 47, 48, 49, 50, 51, 52, 53, 54, 55, 56, 57, 58, 59, 60, 61, 62, 63, 64, 65, 66, 67, 68, 69, 70, 71, 72, 73, 74, 75, 76, 77, 78, 79, 80] (by decide +kernel) (by decide +kernel)
set_option maxRecDepth 20000 in
theorem gX8_tellPin_X8_wayOf : GoodIn wsX8_tellPin (wsV RX8 199 RX8 yX8_wayOf wsX8_wayOf) := goodIn_app (goodIn_of _ (by decide +kernel)) ggX8_tellPin_X8_wayOf
theorem dX8_tellPin_0 : decode cX8_tellPin 0 = .ok (.iload_n 2, 1) := by decide +kernel
theorem dX8_tellPin_1 : decode cX8_tellPin 1 = .ok (.tableswitch 102 0 5 #[39, 46, 53, 62, 90, 96], 39) := by decide +kernel
theorem dX8_tellPin_40 : decode cX8_tellPin 40 = .ok (.aload_n 0, 1) := by decide +kernel
theorem dX8_tellPin_41 : decode cX8_tellPin 41 = .ok (.getfield 19, 3) := by decide +kernel
theorem dX8_tellPin_44 : decode cX8_tellPin 44 = .ok (.iload_n 1, 1) := by decide +kernel
theorem dX8_tellPin_45 : decode cX8_tellPin 45 = .ok (.iaload, 1) := by decide +kernel
theorem dX8_tellPin_46 : decode cX8_tellPin 46 = .ok (.ireturn, 1) := by decide +kernel
theorem dX8_tellPin_47 : decode cX8_tellPin 47 = .ok (.aload_n 0, 1) := by decide +kernel
theorem dX8_tellPin_48 : decode cX8_tellPin 48 = .ok (.getfield 22, 3) := by decide +kernel
theorem dX8_tellPin_51 : decode cX8_tellPin 51 = .ok (.iload_n 1, 1) := by decide +kernel
theorem dX8_tellPin_52 : decode cX8_tellPin 52 = .ok (.iaload, 1) := by decide +kernel
theorem dX8_tellPin_53 : decode cX8_tellPin 53 = .ok (.ireturn, 1) := by decide +kernel
theorem dX8_tellPin_54 : decode cX8_tellPin 54 = .ok (.aload_n 0, 1) := by decide +kernel
theorem dX8_tellPin_55 : decode cX8_tellPin 55 = .ok (.getfield 112, 3) := by decide +kernel
theorem dX8_tellPin_58 : decode cX8_tellPin 58 = .ok (.iload_n 1, 1) := by decide +kernel
theorem dX8_tellPin_59 : decode cX8_tellPin 59 = .ok (.ishr, 1) := by decide +kernel
theorem dX8_tellPin_60 : decode cX8_tellPin 60 = .ok (.iconst 1, 1) := by decide +kernel
theorem dX8_tellPin_61 : decode cX8_tellPin 61 = .ok (.iand, 1) := by decide +kernel
theorem dX8_tellPin_62 : decode cX8_tellPin 62 = .ok (.ireturn, 1) := by decide +kernel
theorem dX8_tellPin_63 : decode cX8_tellPin 63 = .ok (.aload_n 0, 1) := by decide +kernel
theorem dX8_tellPin_64 : decode cX8_tellPin 64 = .ok (.aload_n 0, 1) := by decide +kernel
theorem dX8_tellPin_65 : decode cX8_tellPin 65 = .ok (.getfield 112, 3) := by decide +kernel
theorem dX8_tellPin_68 : decode cX8_tellPin 68 = .ok (.iload_n 1, 1) := by decide +kernel
theorem dX8_tellPin_69 : decode cX8_tellPin 69 = .ok (.iconst 1, 1) := by decide +kernel
theorem dX8_tellPin_70 : decode cX8_tellPin 70 = .ok (.invokevirtual 135, 3) := by decide +kernel
theorem dX8_tellPin_73 : decode cX8_tellPin 73 = .ok (.ifCond .eq 16, 3) := by decide +kernel
theorem dX8_tellPin_76 : decode cX8_tellPin 76 = .ok (.aload_n 0, 1) := by decide +kernel
theorem dX8_tellPin_77 : decode cX8_tellPin 77 = .ok (.aload_n 0, 1) := by decide +kernel
theorem dX8_tellPin_78 : decode cX8_tellPin 78 = .ok (.getfield 112, 3) := by decide +kernel
theorem dX8_tellPin_81 : decode cX8_tellPin 81 = .ok (.iload_n 1, 1) := by decide +kernel
theorem dX8_tellPin_82 : decode cX8_tellPin 82 = .ok (.iconst 1, 1) := by decide +kernel
theorem dX8_tellPin_83 : decode cX8_tellPin 83 = .ok (.invokevirtual 139, 3) := by decide +kernel
theorem dX8_tellPin_86 : decode cX8_tellPin 86 = .ok (.goto 4, 3) := by decide +kernel
theorem dX8_tellPin_89 : decode cX8_tellPin 89 = .ok (.iconst 0, 1) := by decide +kernel
theorem dX8_tellPin_90 : decode cX8_tellPin 90 = .ok (.ireturn, 1) := by decide +kernel
theorem dX8_tellPin_91 : decode cX8_tellPin 91 = .ok (.aload_n 0, 1) := by decide +kernel
theorem dX8_tellPin_92 : decode cX8_tellPin 92 = .ok (.iload_n 1, 1) := by decide +kernel
theorem dX8_tellPin_93 : decode cX8_tellPin 93 = .ok (.invokevirtual 196, 3) := by decide +kernel
theorem dX8_tellPin_96 : decode cX8_tellPin 96 = .ok (.ireturn, 1) := by decide +kernel
theorem dX8_tellPin_97 : decode cX8_tellPin 97 = .ok (.aload_n 0, 1) := by decide +kernel
theorem dX8_tellPin_98 : decode cX8_tellPin 98 = .ok (.iload_n 1, 1) := by decide +kernel
theorem dX8_tellPin_99 : decode cX8_tellPin 99 = .ok (.invokevirtual 199, 3) := by decide +kernel
theorem dX8_tellPin_102 : decode cX8_tellPin 102 = .ok (.ireturn, 1) := by decide +kernel
theorem dX8_tellPin_103 : decode cX8_tellPin 103 = .ok (.bipush (-102), 2) := by decide +kernel
theorem dX8_tellPin_105 : decode cX8_tellPin 105 = .ok (.ireturn, 1) := by decide +kernel
set_option maxRecDepth 20000 in
theorem ggX8_pin_X8_isPin : GoodIn wsX8_pin wsX8_isPin := goodIn_r _ [5, 6, 7, 8, 4, 9, 54, 55, 56, 57, 58, 59, 60, 61, 62, 63, 64, 65, 66, 67, 68, 69, 70, 71, 72, 73, 74, 75, 76, 77, 78, 79, 80, 81, 82, 83, 84, 85, 86, 87, 88] (by decide +kernel) (by decide +kernel)
set_option maxRecDepth 20000 in
theorem gX8_pin_X8_isPin : GoodIn wsX8_pin (wsV RX8 202 RX8 yX8_isPin wsX8_isPin) := goodIn_app (goodIn_of _ (by decide +kernel)) ggX8_pin_X8_isPin
set_option maxRecDepth 20000 in
theorem ggX8_pin_X8_tellPin : GoodIn wsX8_pin wsX8_tellPin := goodIn_r _ [13, 14, 15, 16, 17, 18, 19, 4, 20, 21, 6, 22, 23, 24, 25, 26, 27, 28, 29, 30, 31, 32, 33, 34, 35, 36, 37, 7, 8, 9, 38, 39, 40, 41, 42, 43, 44, 45, 46, 47, 48, 49, 50, 51, 52, 53, 54, 55, 56, 57, 58, 59, 60, 61, 62, 63, 64, 65, 66, 67, 68, 69, 70, 71, 72, 73, 74, 75, 76, 77, 78, 79, 80, 81, 82, 83, 84, 85, 86, 87, 88] (by decide +kernel) (by decide +kernel)
set_option maxRecDepth 20000 in
theorem gX8_pin_X8_tellPin : GoodIn wsX8_pin (wsV RX8 205 RX8 yX8_tellPin wsX8_tellPin) := goodIn_app (goodIn_of _ (by decide +kernel)) ggX8_pin_X8_tellPin
theorem dX8_pin_0 : decode cX8_pin 0 = .ok (.aload_n 0, 1) := by decide +kernel
theorem dX8_pin_1 : decode cX8_pin 1 = .ok (.iload_n 1, 1) := by decide +kernel
theorem dX8_pin_2 : decode cX8_pin 2 = .ok (.invokevirtual 202, 3) := by decide +kernel
theorem dX8_pin_5 : decode cX8_pin 5 = .ok (.ifCond .eq 12, 3) := by decide +kernel
theorem dX8_pin_8 : decode cX8_pin 8 = .ok (.aload_n 0, 1) := by decide +kernel
theorem dX8_pin_9 : decode cX8_pin 9 = .ok (.iload_n 1, 1) := by decide +kernel
theorem dX8_pin_10 : decode cX8_pin 10 = .ok (.iload_n 2, 1) := by decide +kernel
theorem dX8_pin_11 : decode cX8_pin 11 = .ok (.invokevirtual 205, 3) := by decide +kernel
theorem dX8_pin_14 : decode cX8_pin 14 = .ok (.goto 5, 3) := by decide +kernel
theorem dX8_pin_17 : decode cX8_pin 17 = .ok (.bipush (-101), 2) := by decide +kernel
theorem dX8_pin_19 : decode cX8_pin 19 = .ok (.ireturn, 1) := by decide +kernel
set_option maxRecDepth 20000 in
theorem ggX8_as_X8_isPin : GoodIn wsX8_as wsX8_isPin := goodIn_r _ [7, 8, 9, 10, 6, 11, 12, 13, 14, 15, 16, 17, 18, 19, 20, 21, 22, 23, 24, 25, 26, 27, 28, 29, 30, 31, 32, 33, 34, 35, 36, 37, 38, 39, 40, 41, 42, 43, 44, 45, 46] (by decide +kernel) (by decide +kernel)
set_option maxRecDepth 20000 in
theorem gX8_as_X8_isPin : GoodIn wsX8_as (wsV RX8 202 RX8 yX8_isPin wsX8_isPin) := goodIn_app (goodIn_of _ (by decide +kernel)) ggX8_as_X8_isPin
set_option maxRecDepth 20000 in
theorem ggX8_as_X8_in : GoodIn wsX8_as wsX8_in := goodIn_r _ [11] (by decide +kernel) (by decide +kernel)
set_option maxRecDepth 20000 in
theorem gX8_as_X8_in : GoodIn wsX8_as (va_wsS RX8 58 yX8_in wsX8_in) := goodIn_app (goodIn_of _ (by decide +kernel)) ggX8_as_X8_in
theorem dX8_as_0 : decode cX8_as 0 = .ok (.aload_n 0, 1) := by decide +kernel
theorem dX8_as_1 : decode cX8_as 1 = .ok (.iload_n 1, 1) := by decide +kernel
theorem dX8_as_2 : decode cX8_as 2 = .ok (.invokevirtual 202, 3) := by decide +kernel
theorem dX8_as_5 : decode cX8_as 5 = .ok (.ifCond .ne 6, 3) := by decide +kernel
theorem dX8_as_8 : decode cX8_as 8 = .ok (.bipush (-101), 2) := by decide +kernel
theorem dX8_as_10 : decode cX8_as 10 = .ok (.ireturn, 1) := by decide +kernel
theorem dX8_as_11 : decode cX8_as 11 = .ok (.iload_n 2, 1) := by decide +kernel
theorem dX8_as_12 : decode cX8_as 12 = .ok (.i2l, 1) := by decide +kernel
theorem dX8_as_13 : decode cX8_as 13 = .ok (.lconst 0, 1) := by decide +kernel
theorem dX8_as_14 : decode cX8_as 14 = .ok (.ldc2_w 208, 3) := by decide +kernel
theorem dX8_as_17 : decode cX8_as 17 = .ok (.invokestatic 58, 3) := by decide +kernel
theorem dX8_as_20 : decode cX8_as 20 = .ok (.ifCond .ne 6, 3) := by decide +kernel
theorem dX8_as_23 : decode cX8_as 23 = .ok (.bipush (-102), 2) := by decide +kernel
theorem dX8_as_25 : decode cX8_as 25 = .ok (.ireturn, 1) := by decide +kernel
theorem dX8_as_26 : decode cX8_as 26 = .ok (.iload_n 2, 1) := by decide +kernel
theorem dX8_as_27 : decode cX8_as 27 = .ok (.ifCond .eq 28, 3) := by decide +kernel
theorem dX8_as_30 : decode cX8_as 30 = .ok (.iload_n 2, 1) := by decide +kernel
theorem dX8_as_31 : decode cX8_as 31 = .ok (.aload_n 0, 1) := by decide +kernel
theorem dX8_as_32 : decode cX8_as 32 = .ok (.getfield 19, 3) := by decide +kernel
theorem dX8_as_35 : decode cX8_as 35 = .ok (.iload_n 1, 1) := by decide +kernel
theorem dX8_as_36 : decode cX8_as 36 = .ok (.iaload, 1) := by decide +kernel
theorem dX8_as_37 : decode cX8_as 37 = .ok (.if_icmp .eq 18, 3) := by decide +kernel
theorem dX8_as_40 : decode cX8_as 40 = .ok (.iload_n 2, 1) := by decide +kernel
theorem dX8_as_41 : decode cX8_as 41 = .ok (.iconst 1, 1) := by decide +kernel
theorem dX8_as_42 : decode cX8_as 42 = .ok (.if_icmp .ne 17, 3) := by decide +kernel
theorem dX8_as_45 : decode cX8_as 45 = .ok (.aload_n 0, 1) := by decide +kernel
theorem dX8_as_46 : decode cX8_as 46 = .ok (.getfield 19, 3) := by decide +kernel
theorem dX8_as_49 : decode cX8_as 49 = .ok (.iload_n 1, 1) := by decide +kernel
theorem dX8_as_50 : decode cX8_as 50 = .ok (.iaload, 1) := by decide +kernel
theorem dX8_as_51 : decode cX8_as 51 = .ok (.iconst 4, 1) := by decide +kernel
theorem dX8_as_52 : decode cX8_as 52 = .ok (.if_icmp .ne 7, 3) := by decide +kernel
theorem dX8_as_55 : decode cX8_as 55 = .ok (.iconst 1, 1) := by decide +kernel
theorem dX8_as_56 : decode cX8_as 56 = .ok (.goto 4, 3) := by decide +kernel
theorem dX8_as_59 : decode cX8_as 59 = .ok (.iconst 0, 1) := by decide +kernel
theorem dX8_as_60 : decode cX8_as 60 = .ok (.istore_n 3, 1) := by decide +kernel
theorem dX8_as_61 : decode cX8_as 61 = .ok (.iload_n 3, 1) := by decide +kernel
theorem dX8_as_62 : decode cX8_as 62 = .ok (.ifCond .eq 7, 3) := by decide +kernel
theorem dX8_as_65 : decode cX8_as 65 = .ok (.iload_n 1, 1) := by decide +kernel
theorem dX8_as_66 : decode cX8_as 66 = .ok (.goto 4, 3) := by decide +kernel
theorem dX8_as_69 : decode cX8_as 69 = .ok (.iconst (-1), 1) := by decide +kernel
theorem dX8_as_70 : decode cX8_as 70 = .ok (.ireturn, 1) := by decide +kernel
theorem dX8_firstOf_0 : decode cX8_firstOf 0 = .ok (.iconst 0, 1) := by decide +kernel
theorem dX8_firstOf_1 : decode cX8_firstOf 1 = .ok (.istore_n 2, 1) := by decide +kernel
theorem dX8_firstOf_2 : decode cX8_firstOf 2 = .ok (.aload_n 0, 1) := by decide +kernel
theorem dX8_firstOf_3 : decode cX8_firstOf 3 = .ok (.getfield 22, 3) := by decide +kernel
theorem dX8_firstOf_6 : decode cX8_firstOf 6 = .ok (.iload_n 2, 1) := by decide +kernel
theorem dX8_firstOf_7 : decode cX8_firstOf 7 = .ok (.iaload, 1) := by decide +kernel
theorem dX8_firstOf_8 : decode cX8_firstOf 8 = .ok (.iload_n 1, 1) := by decide +kernel
theorem dX8_firstOf_9 : decode cX8_firstOf 9 = .ok (.if_icmp .eq 9, 3) := by decide +kernel
theorem dX8_firstOf_12 : decode cX8_firstOf 12 = .ok (.iinc 2 1, 3) := by decide +kernel
theorem dX8_firstOf_15 : decode cX8_firstOf 15 = .ok (.goto (-13), 3) := by decide +kernel
theorem dX8_firstOf_18 : decode cX8_firstOf 18 = .ok (.iload_n 2, 1) := by decide +kernel
theorem dX8_firstOf_19 : decode cX8_firstOf 19 = .ok (.ireturn, 1) := by decide +kernel
set_option maxRecDepth 20000 in
theorem ggX8_tellLane_X8_pinsOf : GoodIn wsX8_tellLane wsX8_pinsOf := goodIn_r _ [6, 7, 8, 62, 63, 64, 65, 66, 67, 68, 69, 70, 71, 72, 73, 74, 75, 76, 77, 78, 79, 80, 81, 82, 83, 84, 85, 86, 87, 88, 89, 90, 91, 92, 93, 94, 95, 96] (by decide +kernel) (by decide +kernel)
set_option maxRecDepth 20000 in
theorem gX8_tellLane_X8_pinsOf : GoodIn wsX8_tellLane (wsV RX8 146 RX8 yX8_pinsOf wsX8_pinsOf) := goodIn_app (goodIn_of _ (by decide +kernel)) ggX8_tellLane_X8_pinsOf
set_option maxRecDepth 20000 in
theorem ggX8_tellLane_X8_ones : GoodIn wsX8_tellLane wsX8_ones := goodIn_r _ [11] (by decide +kernel) (by decide +kernel)
set_option maxRecDepth 20000 in
theorem gX8_tellLane_X8_ones : GoodIn wsX8_tellLane (va_wsS RX8 210 yX8_ones wsX8_ones) := goodIn_app (goodIn_of _ (by decide +kernel)) ggX8_tellLane_X8_ones
set_option maxRecDepth 20000 in
theorem ggX8_tellLane_X8_firstOf : GoodIn wsX8_tellLane wsX8_firstOf := goodIn_r _ [15, 8, 62, 63, 64, 65, 66, 67, 68, 69, 70, 71, 72, 73, 74, 75, 76, 77, 78, 79, 80, 81, 82, 83, 84, 85, 86, 87, 88, 89, 90, 91, 92, 93, 94, 95, 96] (by decide +kernel) (by decide +kernel)
set_option maxRecDepth 20000 in
theorem gX8_tellLane_X8_firstOf : GoodIn wsX8_tellLane (wsV RX8 213 RX8 yX8_firstOf wsX8_firstOf) := goodIn_app (goodIn_of _ (by decide +kernel)) ggX8_tellLane_X8_firstOf
set_option maxRecDepth 20000 in
theorem ggX8_tellLane_X8_numberOf : GoodIn wsX8_tellLane wsX8_numberOf := goodIn_r _ [19, 7, 20, 1, 2, 3, 4, 5, 6, 8, 21, 22, 23, 24, 25, 26, 27, 28, 29, 30, 31, 32, 33, 34, 35, 36, 37, 38, 39, 40, 41, 42, 43, 44, 45, 46, 47, 48, 49, 50, 51, 52, 62, 63, 64, 65, 66, 67, 68, 69, 70, 71, 72, 73, 74, 75, 76, 77, 78, 79, 80, 81, 82, 83, 84, 85, 86, 87, 88, 89, 90, 91, 92, 93, 94, 95, 96] (by decide +kernel) (by decide +kernel)
set_option maxRecDepth 20000 in
theorem gX8_tellLane_X8_numberOf : GoodIn wsX8_tellLane (wsV RX8 153 RX8 yX8_numberOf wsX8_numberOf) := goodIn_app (goodIn_of _ (by decide +kernel)) ggX8_tellLane_X8_numberOf
set_option maxRecDepth 20000 in
theorem ggX8_tellLane_X8_alikeOf : GoodIn wsX8_tellLane wsX8_alikeOf := goodIn_r _ [56, 57, 58, 59, 60, 5, 61, 29, 50, 51, 52, 16, 17, 18, 19, 7, 20, 1, 2, 3, 4, 6, 8, 21, 22, 23, 24, 25, 26, 27, 28, 30, 31, 32, 33, 34, 35, 36, 37, 38, 39, 40, 41, 42, 43, 44, 45, 46, 47, 48, 49, 62, 63, 64, 65, 66, 67, 68, 69, 70, 71, 72, 73, 74, 75, 76, 77, 78, 79, 80, 81, 82, 83, 84, 85, 86, 87, 88, 89, 90, 91, 92, 93, 94, 95, 96] (by decide +kernel) (by decide +kernel)
set_option maxRecDepth 20000 in
theorem gX8_tellLane_X8_alikeOf : GoodIn wsX8_tellLane (wsV RX8 216 RX8 yX8_alikeOf wsX8_alikeOf) := goodIn_app (goodIn_of _ (by decide +kernel)) ggX8_tellLane_X8_alikeOf
theorem dX8_tellLane_0 : decode cX8_tellLane 0 = .ok (.iload_n 2, 1) := by decide +kernel
theorem dX8_tellLane_1 : decode cX8_tellLane 1 = .ok (.tableswitch 76 0 4 #[35, 44, 50, 64, 70], 35) := by decide +kernel
theorem dX8_tellLane_36 : decode cX8_tellLane 36 = .ok (.aload_n 0, 1) := by decide +kernel
theorem dX8_tellLane_37 : decode cX8_tellLane 37 = .ok (.iload_n 1, 1) := by decide +kernel
theorem dX8_tellLane_38 : decode cX8_tellLane 38 = .ok (.invokevirtual 146, 3) := by decide +kernel
theorem dX8_tellLane_41 : decode cX8_tellLane 41 = .ok (.invokestatic 210, 3) := by decide +kernel
theorem dX8_tellLane_44 : decode cX8_tellLane 44 = .ok (.ireturn, 1) := by decide +kernel
theorem dX8_tellLane_45 : decode cX8_tellLane 45 = .ok (.aload_n 0, 1) := by decide +kernel
theorem dX8_tellLane_46 : decode cX8_tellLane 46 = .ok (.iload_n 1, 1) := by decide +kernel
theorem dX8_tellLane_47 : decode cX8_tellLane 47 = .ok (.invokevirtual 213, 3) := by decide +kernel
theorem dX8_tellLane_50 : decode cX8_tellLane 50 = .ok (.ireturn, 1) := by decide +kernel
theorem dX8_tellLane_51 : decode cX8_tellLane 51 = .ok (.aload_n 0, 1) := by decide +kernel
theorem dX8_tellLane_52 : decode cX8_tellLane 52 = .ok (.iload_n 1, 1) := by decide +kernel
theorem dX8_tellLane_53 : decode cX8_tellLane 53 = .ok (.invokevirtual 146, 3) := by decide +kernel
theorem dX8_tellLane_56 : decode cX8_tellLane 56 = .ok (.aload_n 0, 1) := by decide +kernel
theorem dX8_tellLane_57 : decode cX8_tellLane 57 = .ok (.getfield 112, 3) := by decide +kernel
theorem dX8_tellLane_60 : decode cX8_tellLane 60 = .ok (.iand, 1) := by decide +kernel
theorem dX8_tellLane_61 : decode cX8_tellLane 61 = .ok (.invokestatic 210, 3) := by decide +kernel
theorem dX8_tellLane_64 : decode cX8_tellLane 64 = .ok (.ireturn, 1) := by decide +kernel
theorem dX8_tellLane_65 : decode cX8_tellLane 65 = .ok (.aload_n 0, 1) := by decide +kernel
theorem dX8_tellLane_66 : decode cX8_tellLane 66 = .ok (.iload_n 1, 1) := by decide +kernel
theorem dX8_tellLane_67 : decode cX8_tellLane 67 = .ok (.invokevirtual 153, 3) := by decide +kernel
theorem dX8_tellLane_70 : decode cX8_tellLane 70 = .ok (.ireturn, 1) := by decide +kernel
theorem dX8_tellLane_71 : decode cX8_tellLane 71 = .ok (.aload_n 0, 1) := by decide +kernel
theorem dX8_tellLane_72 : decode cX8_tellLane 72 = .ok (.iload_n 1, 1) := by decide +kernel
theorem dX8_tellLane_73 : decode cX8_tellLane 73 = .ok (.invokevirtual 216, 3) := by decide +kernel
theorem dX8_tellLane_76 : decode cX8_tellLane 76 = .ok (.ireturn, 1) := by decide +kernel
theorem dX8_tellLane_77 : decode cX8_tellLane 77 = .ok (.bipush (-102), 2) := by decide +kernel
theorem dX8_tellLane_79 : decode cX8_tellLane 79 = .ok (.ireturn, 1) := by decide +kernel
set_option maxRecDepth 20000 in
theorem ggX8_lane_X8_isLane : GoodIn wsX8_lane wsX8_isLane := goodIn_r _ [5, 6, 7, 8, 4, 9, 71, 72, 73, 74, 75, 76, 77, 78, 79, 80, 81, 82, 83, 84, 85, 86, 87, 88, 89, 90, 91, 92, 93, 94, 95, 96, 97, 98, 99, 100, 101, 102, 103, 104, 105] (by decide +kernel) (by decide +kernel)
set_option maxRecDepth 20000 in
theorem gX8_lane_X8_isLane : GoodIn wsX8_lane (wsV RX8 219 RX8 yX8_isLane wsX8_isLane) := goodIn_app (goodIn_of _ (by decide +kernel)) ggX8_lane_X8_isLane
set_option maxRecDepth 20000 in
theorem ggX8_lane_X8_tellLane : GoodIn wsX8_lane wsX8_tellLane := goodIn_r _ [13, 14, 15, 16, 17, 4, 18, 19, 20, 21, 22, 23, 24, 25, 26, 27, 28, 29, 30, 31, 32, 33, 34, 35, 36, 37, 38, 39, 40, 41, 42, 43, 44, 45, 46, 47, 48, 49, 50, 51, 52, 53, 54, 55, 56, 57, 58, 7, 8, 9, 59, 60, 61, 62, 63, 64, 65, 66, 67, 68, 69, 70, 71, 72, 73, 74, 75, 76, 77, 78, 79, 80, 81, 82, 83, 84, 85, 86, 87, 88, 89, 90, 91, 92, 93, 94, 95, 96, 97, 98, 99, 100, 101, 102, 103, 104, 105] (by decide +kernel) (by decide +kernel)
set_option maxRecDepth 20000 in
theorem gX8_lane_X8_tellLane : GoodIn wsX8_lane (wsV RX8 222 RX8 yX8_tellLane wsX8_tellLane) := goodIn_app (goodIn_of _ (by decide +kernel)) ggX8_lane_X8_tellLane
theorem dX8_lane_0 : decode cX8_lane 0 = .ok (.aload_n 0, 1) := by decide +kernel
theorem dX8_lane_1 : decode cX8_lane 1 = .ok (.iload_n 1, 1) := by decide +kernel
theorem dX8_lane_2 : decode cX8_lane 2 = .ok (.invokevirtual 219, 3) := by decide +kernel
theorem dX8_lane_5 : decode cX8_lane 5 = .ok (.ifCond .eq 12, 3) := by decide +kernel
theorem dX8_lane_8 : decode cX8_lane 8 = .ok (.aload_n 0, 1) := by decide +kernel
theorem dX8_lane_9 : decode cX8_lane 9 = .ok (.iload_n 1, 1) := by decide +kernel
theorem dX8_lane_10 : decode cX8_lane 10 = .ok (.iload_n 2, 1) := by decide +kernel
theorem dX8_lane_11 : decode cX8_lane 11 = .ok (.invokevirtual 222, 3) := by decide +kernel
theorem dX8_lane_14 : decode cX8_lane 14 = .ok (.goto 5, 3) := by decide +kernel
theorem dX8_lane_17 : decode cX8_lane 17 = .ok (.bipush (-101), 2) := by decide +kernel
theorem dX8_lane_19 : decode cX8_lane 19 = .ok (.ireturn, 1) := by decide +kernel
set_option maxRecDepth 20000 in
theorem ggX8_refusalOf_X8_isPin : GoodIn wsX8_refusalOf wsX8_isPin := goodIn_r _ [7, 8, 9, 10, 6, 11, 19, 20, 21, 22, 23, 24, 25, 26, 27, 28, 29, 30, 31, 32, 33, 34, 35, 36, 37, 38, 39, 40, 41, 42, 43, 44, 45, 46, 47, 48, 49, 50, 51, 52, 53] (by decide +kernel) (by decide +kernel)
set_option maxRecDepth 20000 in
theorem gX8_refusalOf_X8_isPin : GoodIn wsX8_refusalOf (wsV RX8 202 RX8 yX8_isPin wsX8_isPin) := goodIn_app (goodIn_of _ (by decide +kernel)) ggX8_refusalOf_X8_isPin
set_option maxRecDepth 20000 in
theorem ggX8_refusalOf_X8_in : GoodIn wsX8_refusalOf wsX8_in := goodIn_r _ [11] (by decide +kernel) (by decide +kernel)
set_option maxRecDepth 20000 in
theorem gX8_refusalOf_X8_in : GoodIn wsX8_refusalOf (va_wsS RX8 58 yX8_in wsX8_in) := goodIn_app (goodIn_of _ (by decide +kernel)) ggX8_refusalOf_X8_in
set_option maxRecDepth 20000 in
theorem ggX8_refusalOf_X8_canBe : GoodIn wsX8_refusalOf wsX8_canBe := goodIn_r _ [15, 16, 8, 17, 18, 19, 20, 21, 22, 23, 24, 25, 26, 27, 28, 29, 30, 31, 32, 33, 34, 35, 36, 37, 38, 39, 40, 41, 42, 43, 44, 45, 46, 47, 48, 49, 50, 51, 52, 53] (by decide +kernel) (by decide +kernel)
set_option maxRecDepth 20000 in
theorem gX8_refusalOf_X8_canBe : GoodIn wsX8_refusalOf (wsV RX8 135 RX8 yX8_canBe wsX8_canBe) := goodIn_app (goodIn_of _ (by decide +kernel)) ggX8_refusalOf_X8_canBe
theorem dX8_refusalOf_0 : decode cX8_refusalOf 0 = .ok (.aload_n 0, 1) := by decide +kernel
theorem dX8_refusalOf_1 : decode cX8_refusalOf 1 = .ok (.iload_n 1, 1) := by decide +kernel
theorem dX8_refusalOf_2 : decode cX8_refusalOf 2 = .ok (.invokevirtual 202, 3) := by decide +kernel
theorem dX8_refusalOf_5 : decode cX8_refusalOf 5 = .ok (.ifCond .ne 6, 3) := by decide +kernel
theorem dX8_refusalOf_8 : decode cX8_refusalOf 8 = .ok (.bipush (-101), 2) := by decide +kernel
theorem dX8_refusalOf_10 : decode cX8_refusalOf 10 = .ok (.ireturn, 1) := by decide +kernel
theorem dX8_refusalOf_11 : decode cX8_refusalOf 11 = .ok (.iload_n 2, 1) := by decide +kernel
theorem dX8_refusalOf_12 : decode cX8_refusalOf 12 = .ok (.i2l, 1) := by decide +kernel
theorem dX8_refusalOf_13 : decode cX8_refusalOf 13 = .ok (.lconst 1, 1) := by decide +kernel
theorem dX8_refusalOf_14 : decode cX8_refusalOf 14 = .ok (.ldc2_w 191, 3) := by decide +kernel
theorem dX8_refusalOf_17 : decode cX8_refusalOf 17 = .ok (.invokestatic 58, 3) := by decide +kernel
theorem dX8_refusalOf_20 : decode cX8_refusalOf 20 = .ok (.ifCond .ne 6, 3) := by decide +kernel
theorem dX8_refusalOf_23 : decode cX8_refusalOf 23 = .ok (.bipush (-102), 2) := by decide +kernel
theorem dX8_refusalOf_25 : decode cX8_refusalOf 25 = .ok (.ireturn, 1) := by decide +kernel
theorem dX8_refusalOf_26 : decode cX8_refusalOf 26 = .ok (.aload_n 0, 1) := by decide +kernel
theorem dX8_refusalOf_27 : decode cX8_refusalOf 27 = .ok (.aload_n 0, 1) := by decide +kernel
theorem dX8_refusalOf_28 : decode cX8_refusalOf 28 = .ok (.getfield 112, 3) := by decide +kernel
theorem dX8_refusalOf_31 : decode cX8_refusalOf 31 = .ok (.iload_n 1, 1) := by decide +kernel
theorem dX8_refusalOf_32 : decode cX8_refusalOf 32 = .ok (.iload_n 2, 1) := by decide +kernel
theorem dX8_refusalOf_33 : decode cX8_refusalOf 33 = .ok (.invokevirtual 135, 3) := by decide +kernel
theorem dX8_refusalOf_36 : decode cX8_refusalOf 36 = .ok (.ifCond .eq 7, 3) := by decide +kernel
theorem dX8_refusalOf_39 : decode cX8_refusalOf 39 = .ok (.iconst 0, 1) := by decide +kernel
theorem dX8_refusalOf_40 : decode cX8_refusalOf 40 = .ok (.goto 5, 3) := by decide +kernel
theorem dX8_refusalOf_43 : decode cX8_refusalOf 43 = .ok (.bipush (-103), 2) := by decide +kernel
theorem dX8_refusalOf_45 : decode cX8_refusalOf 45 = .ok (.ireturn, 1) := by decide +kernel
set_option maxRecDepth 20000 in
theorem ggX8_falls_X8_refusalOf : GoodIn wsX8_falls wsX8_refusalOf := goodIn_r _ [6, 7, 1, 8, 9, 10, 5, 11, 12, 13, 14, 15, 16, 17, 18, 19, 20, 21, 22, 39, 40, 41, 42, 43, 44, 45, 46, 47, 48, 49, 50, 51, 52, 53, 54, 55, 56, 57, 58, 59, 60, 61, 62, 63, 64, 65, 66, 67, 68, 69, 70, 71, 72, 73] (by decide +kernel) (by decide +kernel)
set_option maxRecDepth 20000 in
theorem gX8_falls_X8_refusalOf : GoodIn wsX8_falls (wsV RX8 225 RX8 yX8_refusalOf wsX8_refusalOf) := goodIn_app (goodIn_of _ (by decide +kernel)) ggX8_falls_X8_refusalOf
set_option maxRecDepth 20000 in
theorem ggX8_falls_X8_fallsOf : GoodIn wsX8_falls wsX8_fallsOf := goodIn_r _ [26, 27, 28, 29, 5, 30, 12, 22, 31, 32, 33, 34, 35, 36, 37, 38, 21, 13, 14, 15, 39, 40, 41, 42, 43, 44, 45, 46, 47, 48, 49, 50, 51, 52, 53, 54, 55, 56, 57, 58, 59, 60, 61, 62, 63, 64, 65, 66, 67, 68, 69, 70, 71, 72, 73] (by decide +kernel) (by decide +kernel)
set_option maxRecDepth 20000 in
theorem gX8_falls_X8_fallsOf : GoodIn wsX8_falls (wsV RX8 139 RX8 yX8_fallsOf wsX8_fallsOf) := goodIn_app (goodIn_of _ (by decide +kernel)) ggX8_falls_X8_fallsOf
theorem dX8_falls_0 : decode cX8_falls 0 = .ok (.aload_n 0, 1) := by decide +kernel
theorem dX8_falls_1 : decode cX8_falls 1 = .ok (.iload_n 1, 1) := by decide +kernel
theorem dX8_falls_2 : decode cX8_falls 2 = .ok (.iload_n 2, 1) := by decide +kernel
theorem dX8_falls_3 : decode cX8_falls 3 = .ok (.invokevirtual 225, 3) := by decide +kernel
theorem dX8_falls_6 : decode cX8_falls 6 = .ok (.istore_n 3, 1) := by decide +kernel
theorem dX8_falls_7 : decode cX8_falls 7 = .ok (.iload_n 3, 1) := by decide +kernel
theorem dX8_falls_8 : decode cX8_falls 8 = .ok (.ifCond .ne 16, 3) := by decide +kernel
theorem dX8_falls_11 : decode cX8_falls 11 = .ok (.aload_n 0, 1) := by decide +kernel
theorem dX8_falls_12 : decode cX8_falls 12 = .ok (.aload_n 0, 1) := by decide +kernel
theorem dX8_falls_13 : decode cX8_falls 13 = .ok (.getfield 112, 3) := by decide +kernel
theorem dX8_falls_16 : decode cX8_falls 16 = .ok (.iload_n 1, 1) := by decide +kernel
theorem dX8_falls_17 : decode cX8_falls 17 = .ok (.iload_n 2, 1) := by decide +kernel
theorem dX8_falls_18 : decode cX8_falls 18 = .ok (.invokevirtual 139, 3) := by decide +kernel
theorem dX8_falls_21 : decode cX8_falls 21 = .ok (.goto 4, 3) := by decide +kernel
theorem dX8_falls_24 : decode cX8_falls 24 = .ok (.iload_n 3, 1) := by decide +kernel
theorem dX8_falls_25 : decode cX8_falls 25 = .ok (.ireturn, 1) := by decide +kernel
set_option maxRecDepth 20000 in
theorem ggX8_strike_X8_refusalOf : GoodIn wsX8_strike wsX8_refusalOf := goodIn_r _ [7, 8, 2, 9, 10, 11, 6, 12, 13, 14, 15, 16, 17, 18, 19, 20, 21, 22, 23, 43, 44, 45, 46, 47, 48, 49, 50, 51, 52, 53, 54, 55, 56, 57, 58, 59, 60, 61, 62, 63, 64, 65, 66, 67, 68, 69, 70, 71, 72, 73, 74, 75, 76, 77] (by decide +kernel) (by decide +kernel)
set_option maxRecDepth 20000 in
theorem gX8_strike_X8_refusalOf : GoodIn wsX8_strike (wsV RX8 225 RX8 yX8_refusalOf wsX8_refusalOf) := goodIn_app (goodIn_of _ (by decide +kernel)) ggX8_strike_X8_refusalOf
set_option maxRecDepth 20000 in
theorem ggX8_strike_X8_fallsOf : GoodIn wsX8_strike wsX8_fallsOf := goodIn_r _ [27, 28, 29, 30, 6, 31, 13, 23, 32, 33, 34, 35, 36, 37, 38, 39, 22, 14, 15, 16, 43, 44, 45, 46, 47, 48, 49, 50, 51, 52, 53, 54, 55, 56, 57, 58, 59, 60, 61, 62, 63, 64, 65, 66, 67, 68, 69, 70, 71, 72, 73, 74, 75, 76, 77] (by decide +kernel) (by decide +kernel)
set_option maxRecDepth 20000 in
theorem gX8_strike_X8_fallsOf : GoodIn wsX8_strike (wsV RX8 139 RX8 yX8_fallsOf wsX8_fallsOf) := goodIn_app (goodIn_of _ (by decide +kernel)) ggX8_strike_X8_fallsOf
set_option maxRecDepth 20000 in
theorem ggX8_strike_X8_ones : GoodIn wsX8_strike wsX8_ones := goodIn_r _ [42] (by decide +kernel) (by decide +kernel)
set_option maxRecDepth 20000 in
theorem gX8_strike_X8_ones : GoodIn wsX8_strike (va_wsS RX8 210 yX8_ones wsX8_ones) := goodIn_app (goodIn_of _ (by decide +kernel)) ggX8_strike_X8_ones
theorem dX8_strike_0 : decode cX8_strike 0 = .ok (.aload_n 0, 1) := by decide +kernel
theorem dX8_strike_1 : decode cX8_strike 1 = .ok (.iload_n 1, 1) := by decide +kernel
theorem dX8_strike_2 : decode cX8_strike 2 = .ok (.iload_n 2, 1) := by decide +kernel
theorem dX8_strike_3 : decode cX8_strike 3 = .ok (.invokevirtual 225, 3) := by decide +kernel
theorem dX8_strike_6 : decode cX8_strike 6 = .ok (.istore_n 3, 1) := by decide +kernel
theorem dX8_strike_7 : decode cX8_strike 7 = .ok (.iload_n 3, 1) := by decide +kernel
theorem dX8_strike_8 : decode cX8_strike 8 = .ok (.ifCond .eq 5, 3) := by decide +kernel
theorem dX8_strike_11 : decode cX8_strike 11 = .ok (.iload_n 3, 1) := by decide +kernel
theorem dX8_strike_12 : decode cX8_strike 12 = .ok (.ireturn, 1) := by decide +kernel
theorem dX8_strike_13 : decode cX8_strike 13 = .ok (.aload_n 0, 1) := by decide +kernel
theorem dX8_strike_14 : decode cX8_strike 14 = .ok (.getfield 115, 3) := by decide +kernel
theorem dX8_strike_17 : decode cX8_strike 17 = .ok (.sipush 999, 3) := by decide +kernel
theorem dX8_strike_20 : decode cX8_strike 20 = .ok (.if_icmp .ne 6, 3) := by decide +kernel
theorem dX8_strike_23 : decode cX8_strike 23 = .ok (.bipush (-104), 2) := by decide +kernel
theorem dX8_strike_25 : decode cX8_strike 25 = .ok (.ireturn, 1) := by decide +kernel
theorem dX8_strike_26 : decode cX8_strike 26 = .ok (.aload_n 0, 1) := by decide +kernel
theorem dX8_strike_27 : decode cX8_strike 27 = .ok (.aload_n 0, 1) := by decide +kernel
theorem dX8_strike_28 : decode cX8_strike 28 = .ok (.getfield 112, 3) := by decide +kernel
theorem dX8_strike_31 : decode cX8_strike 31 = .ok (.iload_n 1, 1) := by decide +kernel
theorem dX8_strike_32 : decode cX8_strike 32 = .ok (.iload_n 2, 1) := by decide +kernel
theorem dX8_strike_33 : decode cX8_strike 33 = .ok (.invokevirtual 139, 3) := by decide +kernel
theorem dX8_strike_36 : decode cX8_strike 36 = .ok (.istore 4, 2) := by decide +kernel
theorem dX8_strike_38 : decode cX8_strike 38 = .ok (.aload_n 0, 1) := by decide +kernel
theorem dX8_strike_39 : decode cX8_strike 39 = .ok (.dup, 1) := by decide +kernel
theorem dX8_strike_40 : decode cX8_strike 40 = .ok (.getfield 112, 3) := by decide +kernel
theorem dX8_strike_43 : decode cX8_strike 43 = .ok (.iload 4, 2) := by decide +kernel
theorem dX8_strike_45 : decode cX8_strike 45 = .ok (.iconst (-1), 1) := by decide +kernel
theorem dX8_strike_46 : decode cX8_strike 46 = .ok (.ixor, 1) := by decide +kernel
theorem dX8_strike_47 : decode cX8_strike 47 = .ok (.iand, 1) := by decide +kernel
theorem dX8_strike_48 : decode cX8_strike 48 = .ok (.putfield 112, 3) := by decide +kernel
theorem dX8_strike_51 : decode cX8_strike 51 = .ok (.aload_n 0, 1) := by decide +kernel
theorem dX8_strike_52 : decode cX8_strike 52 = .ok (.dup, 1) := by decide +kernel
theorem dX8_strike_53 : decode cX8_strike 53 = .ok (.getfield 115, 3) := by decide +kernel
theorem dX8_strike_56 : decode cX8_strike 56 = .ok (.iconst 1, 1) := by decide +kernel
theorem dX8_strike_57 : decode cX8_strike 57 = .ok (.iadd, 1) := by decide +kernel
theorem dX8_strike_58 : decode cX8_strike 58 = .ok (.putfield 115, 3) := by decide +kernel
theorem dX8_strike_61 : decode cX8_strike 61 = .ok (.iload 4, 2) := by decide +kernel
theorem dX8_strike_63 : decode cX8_strike 63 = .ok (.invokestatic 210, 3) := by decide +kernel
theorem dX8_strike_66 : decode cX8_strike 66 = .ok (.ireturn, 1) := by decide +kernel
set_option maxRecDepth 20000 in
theorem ggX8_set_X8_isPin : GoodIn wsX8_set wsX8_isPin := goodIn_r _ [6, 7, 8, 9, 5, 10, 14, 15, 16, 17, 18, 19, 20, 21, 22, 23, 24, 25, 26, 27, 28, 29, 30, 31, 32, 33, 34, 35, 36, 37, 38, 39, 40, 41, 42, 43, 44, 45, 46, 47, 48] (by decide +kernel) (by decide +kernel)
set_option maxRecDepth 20000 in
theorem gX8_set_X8_isPin : GoodIn wsX8_set (wsV RX8 202 RX8 yX8_isPin wsX8_isPin) := goodIn_app (goodIn_of _ (by decide +kernel)) ggX8_set_X8_isPin
set_option maxRecDepth 20000 in
theorem ggX8_set_X8_ones : GoodIn wsX8_set wsX8_ones := goodIn_r _ [13] (by decide +kernel) (by decide +kernel)
set_option maxRecDepth 20000 in
theorem gX8_set_X8_ones : GoodIn wsX8_set (va_wsS RX8 210 yX8_ones wsX8_ones) := goodIn_app (goodIn_of _ (by decide +kernel)) ggX8_set_X8_ones
theorem dX8_set_0 : decode cX8_set 0 = .ok (.aload_n 0, 1) := by decide +kernel
theorem dX8_set_1 : decode cX8_set 1 = .ok (.iload_n 1, 1) := by decide +kernel
theorem dX8_set_2 : decode cX8_set 2 = .ok (.invokevirtual 202, 3) := by decide +kernel
theorem dX8_set_5 : decode cX8_set 5 = .ok (.ifCond .ne 6, 3) := by decide +kernel
theorem dX8_set_8 : decode cX8_set 8 = .ok (.bipush (-101), 2) := by decide +kernel
theorem dX8_set_10 : decode cX8_set 10 = .ok (.ireturn, 1) := by decide +kernel
theorem dX8_set_11 : decode cX8_set 11 = .ok (.aload_n 0, 1) := by decide +kernel
theorem dX8_set_12 : decode cX8_set 12 = .ok (.getfield 112, 3) := by decide +kernel
theorem dX8_set_15 : decode cX8_set 15 = .ok (.iload_n 1, 1) := by decide +kernel
theorem dX8_set_16 : decode cX8_set 16 = .ok (.ishr, 1) := by decide +kernel
theorem dX8_set_17 : decode cX8_set 17 = .ok (.iconst 1, 1) := by decide +kernel
theorem dX8_set_18 : decode cX8_set 18 = .ok (.iand, 1) := by decide +kernel
theorem dX8_set_19 : decode cX8_set 19 = .ok (.iconst 1, 1) := by decide +kernel
theorem dX8_set_20 : decode cX8_set 20 = .ok (.if_icmp .ne 6, 3) := by decide +kernel
theorem dX8_set_23 : decode cX8_set 23 = .ok (.bipush (-103), 2) := by decide +kernel
theorem dX8_set_25 : decode cX8_set 25 = .ok (.ireturn, 1) := by decide +kernel
theorem dX8_set_26 : decode cX8_set 26 = .ok (.aload_n 0, 1) := by decide +kernel
theorem dX8_set_27 : decode cX8_set 27 = .ok (.dup, 1) := by decide +kernel
theorem dX8_set_28 : decode cX8_set 28 = .ok (.getfield 112, 3) := by decide +kernel
theorem dX8_set_31 : decode cX8_set 31 = .ok (.iconst 1, 1) := by decide +kernel
theorem dX8_set_32 : decode cX8_set 32 = .ok (.iload_n 1, 1) := by decide +kernel
theorem dX8_set_33 : decode cX8_set 33 = .ok (.ishl, 1) := by decide +kernel
theorem dX8_set_34 : decode cX8_set 34 = .ok (.ior, 1) := by decide +kernel
theorem dX8_set_35 : decode cX8_set 35 = .ok (.putfield 112, 3) := by decide +kernel
theorem dX8_set_38 : decode cX8_set 38 = .ok (.aload_n 0, 1) := by decide +kernel
theorem dX8_set_39 : decode cX8_set 39 = .ok (.getfield 112, 3) := by decide +kernel
theorem dX8_set_42 : decode cX8_set 42 = .ok (.invokestatic 210, 3) := by decide +kernel
theorem dX8_set_45 : decode cX8_set 45 = .ok (.ireturn, 1) := by decide +kernel
set_option maxRecDepth 20000 in
theorem ggX8_all_X8_lacks : GoodIn wsX8_all wsX8_lacks := goodIn_r _ [7, 1, 11, 12, 13, 14, 15, 16, 17, 18, 19, 20, 21, 22, 23, 24, 25, 26, 27, 28, 29, 30, 31, 32, 33, 34, 35, 36, 37, 38, 39, 40, 41, 42, 43, 44, 45] (by decide +kernel) (by decide +kernel)
set_option maxRecDepth 20000 in
theorem gX8_all_X8_lacks : GoodIn wsX8_all (wsV RX8 156 RX8 yX8_lacks wsX8_lacks) := goodIn_app (goodIn_of _ (by decide +kernel)) ggX8_all_X8_lacks
set_option maxRecDepth 20000 in
theorem ggX8_all_X8_ones : GoodIn wsX8_all wsX8_ones := goodIn_r _ [10] (by decide +kernel) (by decide +kernel)
set_option maxRecDepth 20000 in
theorem gX8_all_X8_ones : GoodIn wsX8_all (va_wsS RX8 210 yX8_ones wsX8_ones) := goodIn_app (goodIn_of _ (by decide +kernel)) ggX8_all_X8_ones
theorem dX8_all_0 : decode cX8_all 0 = .ok (.aload_n 0, 1) := by decide +kernel
theorem dX8_all_1 : decode cX8_all 1 = .ok (.invokevirtual 156, 3) := by decide +kernel
theorem dX8_all_4 : decode cX8_all 4 = .ok (.ifCond .eq 6, 3) := by decide +kernel
theorem dX8_all_7 : decode cX8_all 7 = .ok (.bipush (-103), 2) := by decide +kernel
theorem dX8_all_9 : decode cX8_all 9 = .ok (.ireturn, 1) := by decide +kernel
theorem dX8_all_10 : decode cX8_all 10 = .ok (.aload_n 0, 1) := by decide +kernel
theorem dX8_all_11 : decode cX8_all 11 = .ok (.getfield 96, 3) := by decide +kernel
theorem dX8_all_14 : decode cX8_all 14 = .ok (.aload_n 0, 1) := by decide +kernel
theorem dX8_all_15 : decode cX8_all 15 = .ok (.getfield 112, 3) := by decide +kernel
theorem dX8_all_18 : decode cX8_all 18 = .ok (.invokestatic 210, 3) := by decide +kernel
theorem dX8_all_21 : decode cX8_all 21 = .ok (.isub, 1) := by decide +kernel
theorem dX8_all_22 : decode cX8_all 22 = .ok (.istore_n 1, 1) := by decide +kernel
theorem dX8_all_23 : decode cX8_all 23 = .ok (.aload_n 0, 1) := by decide +kernel
theorem dX8_all_24 : decode cX8_all 24 = .ok (.iconst 1, 1) := by decide +kernel
theorem dX8_all_25 : decode cX8_all 25 = .ok (.aload_n 0, 1) := by decide +kernel
theorem dX8_all_26 : decode cX8_all 26 = .ok (.getfield 96, 3) := by decide +kernel
theorem dX8_all_29 : decode cX8_all 29 = .ok (.ishl, 1) := by decide +kernel
theorem dX8_all_30 : decode cX8_all 30 = .ok (.iconst 1, 1) := by decide +kernel
theorem dX8_all_31 : decode cX8_all 31 = .ok (.isub, 1) := by decide +kernel
theorem dX8_all_32 : decode cX8_all 32 = .ok (.putfield 112, 3) := by decide +kernel
theorem dX8_all_35 : decode cX8_all 35 = .ok (.iload_n 1, 1) := by decide +kernel
theorem dX8_all_36 : decode cX8_all 36 = .ok (.ireturn, 1) := by decide +kernel
set_option maxRecDepth 20000 in
theorem ggX8_ball_X8_in : GoodIn wsX8_ball wsX8_in := goodIn_r _ [6] (by decide +kernel) (by decide +kernel)
set_option maxRecDepth 20000 in
theorem gX8_ball_X8_in : GoodIn wsX8_ball (va_wsS RX8 58 yX8_in wsX8_in) := goodIn_app (goodIn_of _ (by decide +kernel)) ggX8_ball_X8_in
set_option maxRecDepth 20000 in
theorem ggX8_ball_X8_lacks : GoodIn wsX8_ball wsX8_lacks := goodIn_r _ [10, 11, 12, 13, 14, 15, 16, 17, 18, 19, 20, 21, 22, 23, 24, 25, 26, 27, 28, 29, 30, 31, 32, 33, 34, 35, 36, 37, 38, 39, 40, 41, 42, 43, 44, 45, 46] (by decide +kernel) (by decide +kernel)
set_option maxRecDepth 20000 in
theorem gX8_ball_X8_lacks : GoodIn wsX8_ball (wsV RX8 156 RX8 yX8_lacks wsX8_lacks) := goodIn_app (goodIn_of _ (by decide +kernel)) ggX8_ball_X8_lacks
theorem dX8_ball_0 : decode cX8_ball 0 = .ok (.iload_n 1, 1) := by decide +kernel
theorem dX8_ball_1 : decode cX8_ball 1 = .ok (.i2l, 1) := by decide +kernel
theorem dX8_ball_2 : decode cX8_ball 2 = .ok (.lconst 1, 1) := by decide +kernel
theorem dX8_ball_3 : decode cX8_ball 3 = .ok (.ldc2_w 191, 3) := by decide +kernel
theorem dX8_ball_6 : decode cX8_ball 6 = .ok (.invokestatic 58, 3) := by decide +kernel
theorem dX8_ball_9 : decode cX8_ball 9 = .ok (.ifCond .ne 6, 3) := by decide +kernel
theorem dX8_ball_12 : decode cX8_ball 12 = .ok (.bipush (-102), 2) := by decide +kernel
theorem dX8_ball_14 : decode cX8_ball 14 = .ok (.ireturn, 1) := by decide +kernel
theorem dX8_ball_15 : decode cX8_ball 15 = .ok (.aload_n 0, 1) := by decide +kernel
theorem dX8_ball_16 : decode cX8_ball 16 = .ok (.invokevirtual 156, 3) := by decide +kernel
theorem dX8_ball_19 : decode cX8_ball 19 = .ok (.ifCond .eq 6, 3) := by decide +kernel
theorem dX8_ball_22 : decode cX8_ball 22 = .ok (.bipush (-103), 2) := by decide +kernel
theorem dX8_ball_24 : decode cX8_ball 24 = .ok (.ireturn, 1) := by decide +kernel
theorem dX8_ball_25 : decode cX8_ball 25 = .ok (.aload_n 0, 1) := by decide +kernel
theorem dX8_ball_26 : decode cX8_ball 26 = .ok (.getfield 106, 3) := by decide +kernel
theorem dX8_ball_29 : decode cX8_ball 29 = .ok (.istore_n 2, 1) := by decide +kernel
theorem dX8_ball_30 : decode cX8_ball 30 = .ok (.aload_n 0, 1) := by decide +kernel
theorem dX8_ball_31 : decode cX8_ball 31 = .ok (.iload_n 1, 1) := by decide +kernel
theorem dX8_ball_32 : decode cX8_ball 32 = .ok (.putfield 106, 3) := by decide +kernel
theorem dX8_ball_35 : decode cX8_ball 35 = .ok (.iload_n 2, 1) := by decide +kernel
theorem dX8_ball_36 : decode cX8_ball 36 = .ok (.ireturn, 1) := by decide +kernel
set_option maxRecDepth 20000 in
theorem ggX8_rule_X8_lacks : GoodIn wsX8_rule wsX8_lacks := goodIn_r _ [6, 7, 8, 9, 10, 11, 12, 13, 14, 15, 16, 17, 18, 19, 20, 21, 22, 23, 24, 25, 26, 27, 28, 29, 30, 31, 32, 33, 34, 35, 36, 37, 38, 39, 40, 41, 42] (by decide +kernel) (by decide +kernel)
set_option maxRecDepth 20000 in
theorem gX8_rule_X8_lacks : GoodIn wsX8_rule (wsV RX8 156 RX8 yX8_lacks wsX8_lacks) := goodIn_app (goodIn_of _ (by decide +kernel)) ggX8_rule_X8_lacks
theorem dX8_rule_0 : decode cX8_rule 0 = .ok (.aload_n 0, 1) := by decide +kernel
theorem dX8_rule_1 : decode cX8_rule 1 = .ok (.invokevirtual 156, 3) := by decide +kernel
theorem dX8_rule_4 : decode cX8_rule 4 = .ok (.ifCond .eq 6, 3) := by decide +kernel
theorem dX8_rule_7 : decode cX8_rule 7 = .ok (.bipush (-103), 2) := by decide +kernel
theorem dX8_rule_9 : decode cX8_rule 9 = .ok (.ireturn, 1) := by decide +kernel
theorem dX8_rule_10 : decode cX8_rule 10 = .ok (.aload_n 0, 1) := by decide +kernel
theorem dX8_rule_11 : decode cX8_rule 11 = .ok (.iconst 1, 1) := by decide +kernel
theorem dX8_rule_12 : decode cX8_rule 12 = .ok (.aload_n 0, 1) := by decide +kernel
theorem dX8_rule_13 : decode cX8_rule 13 = .ok (.getfield 109, 3) := by decide +kernel
theorem dX8_rule_16 : decode cX8_rule 16 = .ok (.isub, 1) := by decide +kernel
theorem dX8_rule_17 : decode cX8_rule 17 = .ok (.putfield 109, 3) := by decide +kernel
theorem dX8_rule_20 : decode cX8_rule 20 = .ok (.iconst 1, 1) := by decide +kernel
theorem dX8_rule_21 : decode cX8_rule 21 = .ok (.aload_n 0, 1) := by decide +kernel
theorem dX8_rule_22 : decode cX8_rule 22 = .ok (.getfield 109, 3) := by decide +kernel
theorem dX8_rule_25 : decode cX8_rule 25 = .ok (.isub, 1) := by decide +kernel
theorem dX8_rule_26 : decode cX8_rule 26 = .ok (.ireturn, 1) := by decide +kernel
set_option maxRecDepth 20000 in
theorem ggX8_change_X8_isPin : GoodIn wsX8_change wsX8_isPin := goodIn_r _ [7, 8, 9, 10, 6, 11, 12, 13, 14, 15, 16, 17, 18, 19, 20, 21, 22, 23, 24, 25, 26, 27, 28, 29, 30, 31, 32, 33, 34, 35, 36, 37, 38, 39, 40, 41, 42, 43, 44, 45, 46] (by decide +kernel) (by decide +kernel)
set_option maxRecDepth 20000 in
theorem gX8_change_X8_isPin : GoodIn wsX8_change (wsV RX8 202 RX8 yX8_isPin wsX8_isPin) := goodIn_app (goodIn_of _ (by decide +kernel)) ggX8_change_X8_isPin
set_option maxRecDepth 20000 in
theorem ggX8_change_X8_in : GoodIn wsX8_change wsX8_in := goodIn_r _ [11] (by decide +kernel) (by decide +kernel)
set_option maxRecDepth 20000 in
theorem gX8_change_X8_in : GoodIn wsX8_change (va_wsS RX8 58 yX8_in wsX8_in) := goodIn_app (goodIn_of _ (by decide +kernel)) ggX8_change_X8_in
theorem dX8_change_0 : decode cX8_change 0 = .ok (.aload_n 0, 1) := by decide +kernel
theorem dX8_change_1 : decode cX8_change 1 = .ok (.iload_n 1, 1) := by decide +kernel
theorem dX8_change_2 : decode cX8_change 2 = .ok (.invokevirtual 202, 3) := by decide +kernel
theorem dX8_change_5 : decode cX8_change 5 = .ok (.ifCond .ne 6, 3) := by decide +kernel
theorem dX8_change_8 : decode cX8_change 8 = .ok (.bipush (-101), 2) := by decide +kernel
theorem dX8_change_10 : decode cX8_change 10 = .ok (.ireturn, 1) := by decide +kernel
theorem dX8_change_11 : decode cX8_change 11 = .ok (.iload_n 2, 1) := by decide +kernel
theorem dX8_change_12 : decode cX8_change 12 = .ok (.i2l, 1) := by decide +kernel
theorem dX8_change_13 : decode cX8_change 13 = .ok (.lconst 0, 1) := by decide +kernel
theorem dX8_change_14 : decode cX8_change 14 = .ok (.ldc2_w 208, 3) := by decide +kernel
theorem dX8_change_17 : decode cX8_change 17 = .ok (.invokestatic 58, 3) := by decide +kernel
theorem dX8_change_20 : decode cX8_change 20 = .ok (.ifCond .ne 6, 3) := by decide +kernel
theorem dX8_change_23 : decode cX8_change 23 = .ok (.bipush (-102), 2) := by decide +kernel
theorem dX8_change_25 : decode cX8_change 25 = .ok (.ireturn, 1) := by decide +kernel
theorem dX8_change_26 : decode cX8_change 26 = .ok (.aload_n 0, 1) := by decide +kernel
theorem dX8_change_27 : decode cX8_change 27 = .ok (.getfield 19, 3) := by decide +kernel
theorem dX8_change_30 : decode cX8_change 30 = .ok (.iload_n 1, 1) := by decide +kernel
theorem dX8_change_31 : decode cX8_change 31 = .ok (.iaload, 1) := by decide +kernel
theorem dX8_change_32 : decode cX8_change 32 = .ok (.istore_n 3, 1) := by decide +kernel
theorem dX8_change_33 : decode cX8_change 33 = .ok (.aload_n 0, 1) := by decide +kernel
theorem dX8_change_34 : decode cX8_change 34 = .ok (.getfield 19, 3) := by decide +kernel
theorem dX8_change_37 : decode cX8_change 37 = .ok (.iload_n 1, 1) := by decide +kernel
theorem dX8_change_38 : decode cX8_change 38 = .ok (.iload_n 2, 1) := by decide +kernel
theorem dX8_change_39 : decode cX8_change 39 = .ok (.iastore, 1) := by decide +kernel
theorem dX8_change_40 : decode cX8_change 40 = .ok (.iload_n 3, 1) := by decide +kernel
theorem dX8_change_41 : decode cX8_change 41 = .ok (.ireturn, 1) := by decide +kernel
set_option maxRecDepth 20000 in
theorem ggX8_see_X8_isPin : GoodIn wsX8_see wsX8_isPin := goodIn_r _ [8, 9, 10, 11, 7, 12, 13, 14, 15, 16, 17, 18, 19, 20, 21, 22, 23, 24, 25, 26, 27, 28, 29, 30, 31, 32, 33, 34, 35, 36, 37, 38, 39, 40, 41, 42, 43, 44, 45, 46, 47] (by decide +kernel) (by decide +kernel)
set_option maxRecDepth 20000 in
theorem gX8_see_X8_isPin : GoodIn wsX8_see (wsV RX8 202 RX8 yX8_isPin wsX8_isPin) := goodIn_app (goodIn_of _ (by decide +kernel)) ggX8_see_X8_isPin
set_option maxRecDepth 20000 in
theorem ggX8_see_X8_in : GoodIn wsX8_see wsX8_in := goodIn_r _ [12] (by decide +kernel) (by decide +kernel)
set_option maxRecDepth 20000 in
theorem gX8_see_X8_in : GoodIn wsX8_see (va_wsS RX8 58 yX8_in wsX8_in) := goodIn_app (goodIn_of _ (by decide +kernel)) ggX8_see_X8_in
theorem dX8_see_0 : decode cX8_see 0 = .ok (.aload_n 0, 1) := by decide +kernel
theorem dX8_see_1 : decode cX8_see 1 = .ok (.iload_n 1, 1) := by decide +kernel
theorem dX8_see_2 : decode cX8_see 2 = .ok (.invokevirtual 202, 3) := by decide +kernel
theorem dX8_see_5 : decode cX8_see 5 = .ok (.ifCond .ne 6, 3) := by decide +kernel
theorem dX8_see_8 : decode cX8_see 8 = .ok (.bipush (-101), 2) := by decide +kernel
theorem dX8_see_10 : decode cX8_see 10 = .ok (.ireturn, 1) := by decide +kernel
theorem dX8_see_11 : decode cX8_see 11 = .ok (.iload_n 2, 1) := by decide +kernel
theorem dX8_see_12 : decode cX8_see 12 = .ok (.i2l, 1) := by decide +kernel
theorem dX8_see_13 : decode cX8_see 13 = .ok (.lconst 0, 1) := by decide +kernel
theorem dX8_see_14 : decode cX8_see 14 = .ok (.lconst 1, 1) := by decide +kernel
theorem dX8_see_15 : decode cX8_see 15 = .ok (.invokestatic 58, 3) := by decide +kernel
theorem dX8_see_18 : decode cX8_see 18 = .ok (.ifCond .eq 15, 3) := by decide +kernel
theorem dX8_see_21 : decode cX8_see 21 = .ok (.iload_n 3, 1) := by decide +kernel
theorem dX8_see_22 : decode cX8_see 22 = .ok (.i2l, 1) := by decide +kernel
theorem dX8_see_23 : decode cX8_see 23 = .ok (.lconst 0, 1) := by decide +kernel
theorem dX8_see_24 : decode cX8_see 24 = .ok (.ldc2_w 191, 3) := by decide +kernel
theorem dX8_see_27 : decode cX8_see 27 = .ok (.invokestatic 58, 3) := by decide +kernel
theorem dX8_see_30 : decode cX8_see 30 = .ok (.ifCond .ne 6, 3) := by decide +kernel
theorem dX8_see_33 : decode cX8_see 33 = .ok (.bipush (-102), 2) := by decide +kernel
theorem dX8_see_35 : decode cX8_see 35 = .ok (.ireturn, 1) := by decide +kernel
theorem dX8_see_36 : decode cX8_see 36 = .ok (.aload_n 0, 1) := by decide +kernel
theorem dX8_see_37 : decode cX8_see 37 = .ok (.getfield 118, 3) := by decide +kernel
theorem dX8_see_40 : decode cX8_see 40 = .ok (.bipush 6, 2) := by decide +kernel
theorem dX8_see_42 : decode cX8_see 42 = .ok (.if_icmp .ne 6, 3) := by decide +kernel
theorem dX8_see_45 : decode cX8_see 45 = .ok (.bipush (-104), 2) := by decide +kernel
theorem dX8_see_47 : decode cX8_see 47 = .ok (.ireturn, 1) := by decide +kernel
theorem dX8_see_48 : decode cX8_see 48 = .ok (.aload_n 0, 1) := by decide +kernel
theorem dX8_see_49 : decode cX8_see 49 = .ok (.getfield 43, 3) := by decide +kernel
theorem dX8_see_52 : decode cX8_see 52 = .ok (.iconst 3, 1) := by decide +kernel
theorem dX8_see_53 : decode cX8_see 53 = .ok (.aload_n 0, 1) := by decide +kernel
theorem dX8_see_54 : decode cX8_see 54 = .ok (.getfield 118, 3) := by decide +kernel
theorem dX8_see_57 : decode cX8_see 57 = .ok (.imul, 1) := by decide +kernel
theorem dX8_see_58 : decode cX8_see 58 = .ok (.iload_n 1, 1) := by decide +kernel
theorem dX8_see_59 : decode cX8_see 59 = .ok (.iastore, 1) := by decide +kernel
theorem dX8_see_60 : decode cX8_see 60 = .ok (.aload_n 0, 1) := by decide +kernel
theorem dX8_see_61 : decode cX8_see 61 = .ok (.getfield 43, 3) := by decide +kernel
theorem dX8_see_64 : decode cX8_see 64 = .ok (.iconst 3, 1) := by decide +kernel
theorem dX8_see_65 : decode cX8_see 65 = .ok (.aload_n 0, 1) := by decide +kernel
theorem dX8_see_66 : decode cX8_see 66 = .ok (.getfield 118, 3) := by decide +kernel
theorem dX8_see_69 : decode cX8_see 69 = .ok (.imul, 1) := by decide +kernel
theorem dX8_see_70 : decode cX8_see 70 = .ok (.iconst 1, 1) := by decide +kernel
theorem dX8_see_71 : decode cX8_see 71 = .ok (.iadd, 1) := by decide +kernel
theorem dX8_see_72 : decode cX8_see 72 = .ok (.iload_n 2, 1) := by decide +kernel
theorem dX8_see_73 : decode cX8_see 73 = .ok (.iastore, 1) := by decide +kernel
theorem dX8_see_74 : decode cX8_see 74 = .ok (.aload_n 0, 1) := by decide +kernel
theorem dX8_see_75 : decode cX8_see 75 = .ok (.getfield 43, 3) := by decide +kernel
theorem dX8_see_78 : decode cX8_see 78 = .ok (.iconst 3, 1) := by decide +kernel
theorem dX8_see_79 : decode cX8_see 79 = .ok (.aload_n 0, 1) := by decide +kernel
theorem dX8_see_80 : decode cX8_see 80 = .ok (.getfield 118, 3) := by decide +kernel
theorem dX8_see_83 : decode cX8_see 83 = .ok (.imul, 1) := by decide +kernel
theorem dX8_see_84 : decode cX8_see 84 = .ok (.iconst 2, 1) := by decide +kernel
theorem dX8_see_85 : decode cX8_see 85 = .ok (.iadd, 1) := by decide +kernel
theorem dX8_see_86 : decode cX8_see 86 = .ok (.iload_n 3, 1) := by decide +kernel
theorem dX8_see_87 : decode cX8_see 87 = .ok (.iastore, 1) := by decide +kernel
theorem dX8_see_88 : decode cX8_see 88 = .ok (.aload_n 0, 1) := by decide +kernel
theorem dX8_see_89 : decode cX8_see 89 = .ok (.dup, 1) := by decide +kernel
theorem dX8_see_90 : decode cX8_see 90 = .ok (.getfield 118, 3) := by decide +kernel
theorem dX8_see_93 : decode cX8_see 93 = .ok (.iconst 1, 1) := by decide +kernel
theorem dX8_see_94 : decode cX8_see 94 = .ok (.iadd, 1) := by decide +kernel
theorem dX8_see_95 : decode cX8_see 95 = .ok (.putfield 118, 3) := by decide +kernel
theorem dX8_see_98 : decode cX8_see 98 = .ok (.aload_n 0, 1) := by decide +kernel
theorem dX8_see_99 : decode cX8_see 99 = .ok (.getfield 118, 3) := by decide +kernel
theorem dX8_see_102 : decode cX8_see 102 = .ok (.ireturn, 1) := by decide +kernel
theorem dX8_forget_0 : decode cX8_forget 0 = .ok (.aload_n 0, 1) := by decide +kernel
theorem dX8_forget_1 : decode cX8_forget 1 = .ok (.getfield 118, 3) := by decide +kernel
theorem dX8_forget_4 : decode cX8_forget 4 = .ok (.istore_n 1, 1) := by decide +kernel
theorem dX8_forget_5 : decode cX8_forget 5 = .ok (.aload_n 0, 1) := by decide +kernel
theorem dX8_forget_6 : decode cX8_forget 6 = .ok (.iconst 0, 1) := by decide +kernel
theorem dX8_forget_7 : decode cX8_forget 7 = .ok (.putfield 118, 3) := by decide +kernel
theorem dX8_forget_10 : decode cX8_forget 10 = .ok (.iload_n 1, 1) := by decide +kernel
theorem dX8_forget_11 : decode cX8_forget 11 = .ok (.ireturn, 1) := by decide +kernel
theorem dX8_fellBy_0 : decode cX8_fellBy 0 = .ok (.iload_n 0, 1) := by decide +kernel
theorem dX8_fellBy_1 : decode cX8_fellBy 1 = .ok (.tableswitch 41 1 4 #[31, 33, 37, 39], 31) := by decide +kernel
theorem dX8_fellBy_32 : decode cX8_fellBy 32 = .ok (.iconst 2, 1) := by decide +kernel
theorem dX8_fellBy_33 : decode cX8_fellBy 33 = .ok (.ireturn, 1) := by decide +kernel
theorem dX8_fellBy_34 : decode cX8_fellBy 34 = .ok (.iconst 1, 1) := by decide +kernel
theorem dX8_fellBy_35 : decode cX8_fellBy 35 = .ok (.iload_n 1, 1) := by decide +kernel
theorem dX8_fellBy_36 : decode cX8_fellBy 36 = .ok (.isub, 1) := by decide +kernel
theorem dX8_fellBy_37 : decode cX8_fellBy 37 = .ok (.ireturn, 1) := by decide +kernel
theorem dX8_fellBy_38 : decode cX8_fellBy 38 = .ok (.iconst 0, 1) := by decide +kernel
theorem dX8_fellBy_39 : decode cX8_fellBy 39 = .ok (.ireturn, 1) := by decide +kernel
theorem dX8_fellBy_40 : decode cX8_fellBy 40 = .ok (.iconst 3, 1) := by decide +kernel
theorem dX8_fellBy_41 : decode cX8_fellBy 41 = .ok (.ireturn, 1) := by decide +kernel
theorem dX8_fellBy_42 : decode cX8_fellBy 42 = .ok (.iconst 1, 1) := by decide +kernel
theorem dX8_fellBy_43 : decode cX8_fellBy 43 = .ok (.iload_n 1, 1) := by decide +kernel
theorem dX8_fellBy_44 : decode cX8_fellBy 44 = .ok (.iadd, 1) := by decide +kernel
theorem dX8_fellBy_45 : decode cX8_fellBy 45 = .ok (.ireturn, 1) := by decide +kernel
set_option maxRecDepth 20000 in
theorem ggX8_sortsOf_X8_fellBy : GoodIn wsX8_sortsOf wsX8_fellBy := goodIn_r _ [6] (by decide +kernel) (by decide +kernel)
set_option maxRecDepth 20000 in
theorem gX8_sortsOf_X8_fellBy : GoodIn wsX8_sortsOf (va_wsS RX8 228 yX8_fellBy wsX8_fellBy) := goodIn_app (goodIn_of _ (by decide +kernel)) ggX8_sortsOf_X8_fellBy
theorem dX8_sortsOf_0 : decode cX8_sortsOf 0 = .ok (.iconst 0, 1) := by decide +kernel
theorem dX8_sortsOf_1 : decode cX8_sortsOf 1 = .ok (.istore_n 2, 1) := by decide +kernel
theorem dX8_sortsOf_2 : decode cX8_sortsOf 2 = .ok (.iconst 0, 1) := by decide +kernel
theorem dX8_sortsOf_3 : decode cX8_sortsOf 3 = .ok (.istore_n 3, 1) := by decide +kernel
theorem dX8_sortsOf_4 : decode cX8_sortsOf 4 = .ok (.iload_n 3, 1) := by decide +kernel
theorem dX8_sortsOf_5 : decode cX8_sortsOf 5 = .ok (.iconst 5, 1) := by decide +kernel
theorem dX8_sortsOf_6 : decode cX8_sortsOf 6 = .ok (.if_icmp .ge 95, 3) := by decide +kernel
theorem dX8_sortsOf_9 : decode cX8_sortsOf 9 = .ok (.iconst 1, 1) := by decide +kernel
theorem dX8_sortsOf_10 : decode cX8_sortsOf 10 = .ok (.istore 4, 2) := by decide +kernel
theorem dX8_sortsOf_12 : decode cX8_sortsOf 12 = .ok (.iconst 0, 1) := by decide +kernel
theorem dX8_sortsOf_13 : decode cX8_sortsOf 13 = .ok (.istore 5, 2) := by decide +kernel
theorem dX8_sortsOf_15 : decode cX8_sortsOf 15 = .ok (.iload 5, 2) := by decide +kernel
theorem dX8_sortsOf_17 : decode cX8_sortsOf 17 = .ok (.iconst 3, 1) := by decide +kernel
theorem dX8_sortsOf_18 : decode cX8_sortsOf 18 = .ok (.aload_n 0, 1) := by decide +kernel
theorem dX8_sortsOf_19 : decode cX8_sortsOf 19 = .ok (.getfield 118, 3) := by decide +kernel
theorem dX8_sortsOf_22 : decode cX8_sortsOf 22 = .ok (.imul, 1) := by decide +kernel
theorem dX8_sortsOf_23 : decode cX8_sortsOf 23 = .ok (.if_icmp .ge 57, 3) := by decide +kernel
theorem dX8_sortsOf_26 : decode cX8_sortsOf 26 = .ok (.iload 4, 2) := by decide +kernel
theorem dX8_sortsOf_28 : decode cX8_sortsOf 28 = .ok (.ifCond .eq 43, 3) := by decide +kernel
theorem dX8_sortsOf_31 : decode cX8_sortsOf 31 = .ok (.aload_n 0, 1) := by decide +kernel
theorem dX8_sortsOf_32 : decode cX8_sortsOf 32 = .ok (.getfield 43, 3) := by decide +kernel
theorem dX8_sortsOf_35 : decode cX8_sortsOf 35 = .ok (.iload 5, 2) := by decide +kernel
theorem dX8_sortsOf_37 : decode cX8_sortsOf 37 = .ok (.iaload, 1) := by decide +kernel
theorem dX8_sortsOf_38 : decode cX8_sortsOf 38 = .ok (.iload_n 1, 1) := by decide +kernel
theorem dX8_sortsOf_39 : decode cX8_sortsOf 39 = .ok (.if_icmp .ne 28, 3) := by decide +kernel
theorem dX8_sortsOf_42 : decode cX8_sortsOf 42 = .ok (.iload_n 3, 1) := by decide +kernel
theorem dX8_sortsOf_43 : decode cX8_sortsOf 43 = .ok (.aload_n 0, 1) := by decide +kernel
theorem dX8_sortsOf_44 : decode cX8_sortsOf 44 = .ok (.getfield 43, 3) := by decide +kernel
theorem dX8_sortsOf_47 : decode cX8_sortsOf 47 = .ok (.iload 5, 2) := by decide +kernel
theorem dX8_sortsOf_49 : decode cX8_sortsOf 49 = .ok (.iconst 1, 1) := by decide +kernel
theorem dX8_sortsOf_50 : decode cX8_sortsOf 50 = .ok (.iadd, 1) := by decide +kernel
theorem dX8_sortsOf_51 : decode cX8_sortsOf 51 = .ok (.iaload, 1) := by decide +kernel
theorem dX8_sortsOf_52 : decode cX8_sortsOf 52 = .ok (.invokestatic 228, 3) := by decide +kernel
theorem dX8_sortsOf_55 : decode cX8_sortsOf 55 = .ok (.aload_n 0, 1) := by decide +kernel
theorem dX8_sortsOf_56 : decode cX8_sortsOf 56 = .ok (.getfield 43, 3) := by decide +kernel
theorem dX8_sortsOf_59 : decode cX8_sortsOf 59 = .ok (.iload 5, 2) := by decide +kernel
theorem dX8_sortsOf_61 : decode cX8_sortsOf 61 = .ok (.iconst 2, 1) := by decide +kernel
theorem dX8_sortsOf_62 : decode cX8_sortsOf 62 = .ok (.iadd, 1) := by decide +kernel
theorem dX8_sortsOf_63 : decode cX8_sortsOf 63 = .ok (.iaload, 1) := by decide +kernel
theorem dX8_sortsOf_64 : decode cX8_sortsOf 64 = .ok (.if_icmp .ne 7, 3) := by decide +kernel
theorem dX8_sortsOf_67 : decode cX8_sortsOf 67 = .ok (.iconst 1, 1) := by decide +kernel
theorem dX8_sortsOf_68 : decode cX8_sortsOf 68 = .ok (.goto 4, 3) := by decide +kernel
theorem dX8_sortsOf_71 : decode cX8_sortsOf 71 = .ok (.iconst 0, 1) := by decide +kernel
theorem dX8_sortsOf_72 : decode cX8_sortsOf 72 = .ok (.istore 4, 2) := by decide +kernel
theorem dX8_sortsOf_74 : decode cX8_sortsOf 74 = .ok (.iinc 5 3, 3) := by decide +kernel
theorem dX8_sortsOf_77 : decode cX8_sortsOf 77 = .ok (.goto (-62), 3) := by decide +kernel
theorem dX8_sortsOf_80 : decode cX8_sortsOf 80 = .ok (.iload_n 2, 1) := by decide +kernel
theorem dX8_sortsOf_81 : decode cX8_sortsOf 81 = .ok (.iload 4, 2) := by decide +kernel
theorem dX8_sortsOf_83 : decode cX8_sortsOf 83 = .ok (.ifCond .eq 9, 3) := by decide +kernel
theorem dX8_sortsOf_86 : decode cX8_sortsOf 86 = .ok (.iconst 1, 1) := by decide +kernel
theorem dX8_sortsOf_87 : decode cX8_sortsOf 87 = .ok (.iload_n 3, 1) := by decide +kernel
theorem dX8_sortsOf_88 : decode cX8_sortsOf 88 = .ok (.ishl, 1) := by decide +kernel
theorem dX8_sortsOf_89 : decode cX8_sortsOf 89 = .ok (.goto 4, 3) := by decide +kernel
theorem dX8_sortsOf_92 : decode cX8_sortsOf 92 = .ok (.iconst 0, 1) := by decide +kernel
theorem dX8_sortsOf_93 : decode cX8_sortsOf 93 = .ok (.ior, 1) := by decide +kernel
theorem dX8_sortsOf_94 : decode cX8_sortsOf 94 = .ok (.istore_n 2, 1) := by decide +kernel
theorem dX8_sortsOf_95 : decode cX8_sortsOf 95 = .ok (.iinc 3 1, 3) := by decide +kernel
theorem dX8_sortsOf_98 : decode cX8_sortsOf 98 = .ok (.goto (-94), 3) := by decide +kernel
theorem dX8_sortsOf_101 : decode cX8_sortsOf 101 = .ok (.iload_n 2, 1) := by decide +kernel
theorem dX8_sortsOf_102 : decode cX8_sortsOf 102 = .ok (.ireturn, 1) := by decide +kernel
set_option maxRecDepth 20000 in
theorem ggX8_worstBy_X8_fellBy : GoodIn wsX8_worstBy wsX8_fellBy := goodIn_r _ [4] (by decide +kernel) (by decide +kernel)
set_option maxRecDepth 20000 in
theorem gX8_worstBy_X8_fellBy : GoodIn wsX8_worstBy (va_wsS RX8 228 yX8_fellBy wsX8_fellBy) := goodIn_app (goodIn_of _ (by decide +kernel)) ggX8_worstBy_X8_fellBy
theorem dX8_worstBy_0 : decode cX8_worstBy 0 = .ok (.iconst 0, 1) := by decide +kernel
theorem dX8_worstBy_1 : decode cX8_worstBy 1 = .ok (.istore_n 2, 1) := by decide +kernel
theorem dX8_worstBy_2 : decode cX8_worstBy 2 = .ok (.iconst 0, 1) := by decide +kernel
theorem dX8_worstBy_3 : decode cX8_worstBy 3 = .ok (.istore_n 3, 1) := by decide +kernel
theorem dX8_worstBy_4 : decode cX8_worstBy 4 = .ok (.iload_n 3, 1) := by decide +kernel
theorem dX8_worstBy_5 : decode cX8_worstBy 5 = .ok (.iconst 4, 1) := by decide +kernel
theorem dX8_worstBy_6 : decode cX8_worstBy 6 = .ok (.if_icmp .ge 65, 3) := by decide +kernel
theorem dX8_worstBy_9 : decode cX8_worstBy 9 = .ok (.iconst 0, 1) := by decide +kernel
theorem dX8_worstBy_10 : decode cX8_worstBy 10 = .ok (.istore 4, 2) := by decide +kernel
theorem dX8_worstBy_12 : decode cX8_worstBy 12 = .ok (.iconst 0, 1) := by decide +kernel
theorem dX8_worstBy_13 : decode cX8_worstBy 13 = .ok (.istore 5, 2) := by decide +kernel
theorem dX8_worstBy_15 : decode cX8_worstBy 15 = .ok (.iload 5, 2) := by decide +kernel
theorem dX8_worstBy_17 : decode cX8_worstBy 17 = .ok (.iconst 5, 1) := by decide +kernel
theorem dX8_worstBy_18 : decode cX8_worstBy 18 = .ok (.if_icmp .ge 34, 3) := by decide +kernel
theorem dX8_worstBy_21 : decode cX8_worstBy 21 = .ok (.iload 4, 2) := by decide +kernel
theorem dX8_worstBy_23 : decode cX8_worstBy 23 = .ok (.iload 5, 2) := by decide +kernel
theorem dX8_worstBy_25 : decode cX8_worstBy 25 = .ok (.iload_n 1, 1) := by decide +kernel
theorem dX8_worstBy_26 : decode cX8_worstBy 26 = .ok (.invokestatic 228, 3) := by decide +kernel
theorem dX8_worstBy_29 : decode cX8_worstBy 29 = .ok (.iload_n 3, 1) := by decide +kernel
theorem dX8_worstBy_30 : decode cX8_worstBy 30 = .ok (.if_icmp .ne 12, 3) := by decide +kernel
theorem dX8_worstBy_33 : decode cX8_worstBy 33 = .ok (.iload_n 0, 1) := by decide +kernel
theorem dX8_worstBy_34 : decode cX8_worstBy 34 = .ok (.iload 5, 2) := by decide +kernel
theorem dX8_worstBy_36 : decode cX8_worstBy 36 = .ok (.ishr, 1) := by decide +kernel
theorem dX8_worstBy_37 : decode cX8_worstBy 37 = .ok (.iconst 1, 1) := by decide +kernel
theorem dX8_worstBy_38 : decode cX8_worstBy 38 = .ok (.iand, 1) := by decide +kernel
theorem dX8_worstBy_39 : decode cX8_worstBy 39 = .ok (.goto 4, 3) := by decide +kernel
theorem dX8_worstBy_42 : decode cX8_worstBy 42 = .ok (.iconst 0, 1) := by decide +kernel
theorem dX8_worstBy_43 : decode cX8_worstBy 43 = .ok (.iadd, 1) := by decide +kernel
theorem dX8_worstBy_44 : decode cX8_worstBy 44 = .ok (.istore 4, 2) := by decide +kernel
theorem dX8_worstBy_46 : decode cX8_worstBy 46 = .ok (.iinc 5 1, 3) := by decide +kernel
theorem dX8_worstBy_49 : decode cX8_worstBy 49 = .ok (.goto (-34), 3) := by decide +kernel
theorem dX8_worstBy_52 : decode cX8_worstBy 52 = .ok (.iload 4, 2) := by decide +kernel
theorem dX8_worstBy_54 : decode cX8_worstBy 54 = .ok (.iload_n 2, 1) := by decide +kernel
theorem dX8_worstBy_55 : decode cX8_worstBy 55 = .ok (.if_icmp .le 8, 3) := by decide +kernel
theorem dX8_worstBy_58 : decode cX8_worstBy 58 = .ok (.iload 4, 2) := by decide +kernel
theorem dX8_worstBy_60 : decode cX8_worstBy 60 = .ok (.goto 4, 3) := by decide +kernel
theorem dX8_worstBy_63 : decode cX8_worstBy 63 = .ok (.iload_n 2, 1) := by decide +kernel
theorem dX8_worstBy_64 : decode cX8_worstBy 64 = .ok (.istore_n 2, 1) := by decide +kernel
theorem dX8_worstBy_65 : decode cX8_worstBy 65 = .ok (.iinc 3 1, 3) := by decide +kernel
theorem dX8_worstBy_68 : decode cX8_worstBy 68 = .ok (.goto (-64), 3) := by decide +kernel
theorem dX8_worstBy_71 : decode cX8_worstBy 71 = .ok (.iload_n 2, 1) := by decide +kernel
theorem dX8_worstBy_72 : decode cX8_worstBy 72 = .ok (.ireturn, 1) := by decide +kernel
set_option maxRecDepth 20000 in
theorem ggX8_wayOf_X8_sortsOf : GoodIn wsX8_wayOf wsX8_sortsOf := goodIn_r _ [5, 6, 7, 8, 9, 4, 10, 14, 15, 16, 17, 18, 19, 20, 21, 22, 23, 24, 25, 26, 27, 28, 29, 30, 31, 32, 33, 34, 35, 36, 37, 38, 39, 40, 41, 42, 43, 44, 45, 46, 47, 48] (by decide +kernel) (by decide +kernel)
set_option maxRecDepth 20000 in
theorem gX8_wayOf_X8_sortsOf : GoodIn wsX8_wayOf (wsV RX8 196 RX8 yX8_sortsOf wsX8_sortsOf) := goodIn_app (goodIn_of _ (by decide +kernel)) ggX8_wayOf_X8_sortsOf
set_option maxRecDepth 20000 in
theorem ggX8_wayOf_X8_worstBy : GoodIn wsX8_wayOf wsX8_worstBy := goodIn_r _ [13, 8, 9, 4, 10] (by decide +kernel) (by decide +kernel)
set_option maxRecDepth 20000 in
theorem gX8_wayOf_X8_worstBy : GoodIn wsX8_wayOf (va_wsS RX8 231 yX8_worstBy wsX8_worstBy) := goodIn_app (goodIn_of _ (by decide +kernel)) ggX8_wayOf_X8_worstBy
theorem dX8_wayOf_0 : decode cX8_wayOf 0 = .ok (.aload_n 0, 1) := by decide +kernel
theorem dX8_wayOf_1 : decode cX8_wayOf 1 = .ok (.iload_n 1, 1) := by decide +kernel
theorem dX8_wayOf_2 : decode cX8_wayOf 2 = .ok (.invokevirtual 196, 3) := by decide +kernel
theorem dX8_wayOf_5 : decode cX8_wayOf 5 = .ok (.istore_n 2, 1) := by decide +kernel
theorem dX8_wayOf_6 : decode cX8_wayOf 6 = .ok (.iload_n 2, 1) := by decide +kernel
theorem dX8_wayOf_7 : decode cX8_wayOf 7 = .ok (.ifCond .ne 7, 3) := by decide +kernel
theorem dX8_wayOf_10 : decode cX8_wayOf 10 = .ok (.iconst (-1), 1) := by decide +kernel
theorem dX8_wayOf_11 : decode cX8_wayOf 11 = .ok (.goto 21, 3) := by decide +kernel
theorem dX8_wayOf_14 : decode cX8_wayOf 14 = .ok (.iload_n 2, 1) := by decide +kernel
theorem dX8_wayOf_15 : decode cX8_wayOf 15 = .ok (.iconst 1, 1) := by decide +kernel
theorem dX8_wayOf_16 : decode cX8_wayOf 16 = .ok (.invokestatic 231, 3) := by decide +kernel
theorem dX8_wayOf_19 : decode cX8_wayOf 19 = .ok (.iload_n 2, 1) := by decide +kernel
theorem dX8_wayOf_20 : decode cX8_wayOf 20 = .ok (.iconst 0, 1) := by decide +kernel
theorem dX8_wayOf_21 : decode cX8_wayOf 21 = .ok (.invokestatic 231, 3) := by decide +kernel
theorem dX8_wayOf_24 : decode cX8_wayOf 24 = .ok (.if_icmp .ge 7, 3) := by decide +kernel
theorem dX8_wayOf_27 : decode cX8_wayOf 27 = .ok (.iconst 1, 1) := by decide +kernel
theorem dX8_wayOf_28 : decode cX8_wayOf 28 = .ok (.goto 4, 3) := by decide +kernel
theorem dX8_wayOf_31 : decode cX8_wayOf 31 = .ok (.iconst 0, 1) := by decide +kernel
theorem dX8_wayOf_32 : decode cX8_wayOf 32 = .ok (.ireturn, 1) := by decide +kernel
theorem dX8_draw_0 : decode cX8_draw 0 = .ok (.aload_n 0, 1) := by decide +kernel
theorem dX8_draw_1 : decode cX8_draw 1 = .ok (.ldc2_w 234, 3) := by decide +kernel
theorem dX8_draw_4 : decode cX8_draw 4 = .ok (.aload_n 0, 1) := by decide +kernel
theorem dX8_draw_5 : decode cX8_draw 5 = .ok (.getfield 236, 3) := by decide +kernel
theorem dX8_draw_8 : decode cX8_draw 8 = .ok (.i2l, 1) := by decide +kernel
theorem dX8_draw_9 : decode cX8_draw 9 = .ok (.lmul, 1) := by decide +kernel
theorem dX8_draw_10 : decode cX8_draw 10 = .ok (.ldc2_w 239, 3) := by decide +kernel
theorem dX8_draw_13 : decode cX8_draw 13 = .ok (.ladd, 1) := by decide +kernel
theorem dX8_draw_14 : decode cX8_draw 14 = .ok (.ldc2_w 241, 3) := by decide +kernel
theorem dX8_draw_17 : decode cX8_draw 17 = .ok (.land, 1) := by decide +kernel
theorem dX8_draw_18 : decode cX8_draw 18 = .ok (.l2i, 1) := by decide +kernel
theorem dX8_draw_19 : decode cX8_draw 19 = .ok (.putfield 236, 3) := by decide +kernel
theorem dX8_draw_22 : decode cX8_draw 22 = .ok (.aload_n 0, 1) := by decide +kernel
theorem dX8_draw_23 : decode cX8_draw 23 = .ok (.getfield 236, 3) := by decide +kernel
theorem dX8_draw_26 : decode cX8_draw 26 = .ok (.ldc 243, 2) := by decide +kernel
theorem dX8_draw_28 : decode cX8_draw 28 = .ok (.idiv, 1) := by decide +kernel
theorem dX8_draw_29 : decode cX8_draw 29 = .ok (.iload_n 1, 1) := by decide +kernel
theorem dX8_draw_30 : decode cX8_draw 30 = .ok (.irem, 1) := by decide +kernel
theorem dX8_draw_31 : decode cX8_draw 31 = .ok (.ireturn, 1) := by decide +kernel
set_option maxRecDepth 20000 in
theorem ggX8_leftBySoManieth_X8_leftBy : GoodIn wsX8_leftBySoManieth wsX8_leftBy := goodIn_r _ [5, 6, 7, 8, 4, 9, 10, 11, 12, 13, 14, 15, 16, 17, 18, 19, 20, 21, 22, 23, 24, 25, 26, 27, 28, 29, 30, 31, 32, 33, 34, 35, 36, 37, 38, 39, 40, 41, 42, 43, 44, 45, 46, 47, 48, 49, 50, 51, 52, 53, 54, 55, 56, 57, 58, 59, 60, 61, 62, 63, 64, 65, 66, 67] (by decide +kernel) (by decide +kernel)
set_option maxRecDepth 20000 in
theorem gX8_leftBySoManieth_X8_leftBy : GoodIn wsX8_leftBySoManieth (wsV RX8 143 RX8 yX8_leftBy wsX8_leftBy) := goodIn_app (goodIn_of _ (by decide +kernel)) ggX8_leftBySoManieth_X8_leftBy
theorem dX8_leftBySoManieth_0 : decode cX8_leftBySoManieth 0 = .ok (.iload_n 2, 1) := by decide +kernel
theorem dX8_leftBySoManieth_1 : decode cX8_leftBySoManieth 1 = .ok (.istore_n 3, 1) := by decide +kernel
theorem dX8_leftBySoManieth_2 : decode cX8_leftBySoManieth 2 = .ok (.iconst 0, 1) := by decide +kernel
theorem dX8_leftBySoManieth_3 : decode cX8_leftBySoManieth 3 = .ok (.istore 4, 2) := by decide +kernel
theorem dX8_leftBySoManieth_5 : decode cX8_leftBySoManieth 5 = .ok (.aload_n 0, 1) := by decide +kernel
theorem dX8_leftBySoManieth_6 : decode cX8_leftBySoManieth 6 = .ok (.iload_n 1, 1) := by decide +kernel
theorem dX8_leftBySoManieth_7 : decode cX8_leftBySoManieth 7 = .ok (.iload 4, 2) := by decide +kernel
theorem dX8_leftBySoManieth_9 : decode cX8_leftBySoManieth 9 = .ok (.invokevirtual 143, 3) := by decide +kernel
theorem dX8_leftBySoManieth_12 : decode cX8_leftBySoManieth 12 = .ok (.iconst (-1), 1) := by decide +kernel
theorem dX8_leftBySoManieth_13 : decode cX8_leftBySoManieth 13 = .ok (.if_icmp .eq 7, 3) := by decide +kernel
theorem dX8_leftBySoManieth_16 : decode cX8_leftBySoManieth 16 = .ok (.iload_n 3, 1) := by decide +kernel
theorem dX8_leftBySoManieth_17 : decode cX8_leftBySoManieth 17 = .ok (.ifCond .le 28, 3) := by decide +kernel
theorem dX8_leftBySoManieth_20 : decode cX8_leftBySoManieth 20 = .ok (.iload_n 3, 1) := by decide +kernel
theorem dX8_leftBySoManieth_21 : decode cX8_leftBySoManieth 21 = .ok (.aload_n 0, 1) := by decide +kernel
theorem dX8_leftBySoManieth_22 : decode cX8_leftBySoManieth 22 = .ok (.iload_n 1, 1) := by decide +kernel
theorem dX8_leftBySoManieth_23 : decode cX8_leftBySoManieth 23 = .ok (.iload 4, 2) := by decide +kernel
theorem dX8_leftBySoManieth_25 : decode cX8_leftBySoManieth 25 = .ok (.invokevirtual 143, 3) := by decide +kernel
theorem dX8_leftBySoManieth_28 : decode cX8_leftBySoManieth 28 = .ok (.iconst (-1), 1) := by decide +kernel
theorem dX8_leftBySoManieth_29 : decode cX8_leftBySoManieth 29 = .ok (.if_icmp .ne 7, 3) := by decide +kernel
theorem dX8_leftBySoManieth_32 : decode cX8_leftBySoManieth 32 = .ok (.iconst 0, 1) := by decide +kernel
theorem dX8_leftBySoManieth_33 : decode cX8_leftBySoManieth 33 = .ok (.goto 4, 3) := by decide +kernel
theorem dX8_leftBySoManieth_36 : decode cX8_leftBySoManieth 36 = .ok (.iconst 1, 1) := by decide +kernel
theorem dX8_leftBySoManieth_37 : decode cX8_leftBySoManieth 37 = .ok (.isub, 1) := by decide +kernel
theorem dX8_leftBySoManieth_38 : decode cX8_leftBySoManieth 38 = .ok (.istore_n 3, 1) := by decide +kernel
theorem dX8_leftBySoManieth_39 : decode cX8_leftBySoManieth 39 = .ok (.iinc 4 1, 3) := by decide +kernel
theorem dX8_leftBySoManieth_42 : decode cX8_leftBySoManieth 42 = .ok (.goto (-37), 3) := by decide +kernel
theorem dX8_leftBySoManieth_45 : decode cX8_leftBySoManieth 45 = .ok (.aload_n 0, 1) := by decide +kernel
theorem dX8_leftBySoManieth_46 : decode cX8_leftBySoManieth 46 = .ok (.iload_n 1, 1) := by decide +kernel
theorem dX8_leftBySoManieth_47 : decode cX8_leftBySoManieth 47 = .ok (.iload 4, 2) := by decide +kernel
theorem dX8_leftBySoManieth_49 : decode cX8_leftBySoManieth 49 = .ok (.invokevirtual 143, 3) := by decide +kernel
theorem dX8_leftBySoManieth_52 : decode cX8_leftBySoManieth 52 = .ok (.ireturn, 1) := by decide +kernel
set_option maxRecDepth 20000 in
theorem ggX8_games_X8_in : GoodIn wsX8_games wsX8_in := goodIn_r _ [9] (by decide +kernel) (by decide +kernel)
set_option maxRecDepth 20000 in
theorem gX8_games_X8_in : GoodIn wsX8_games (va_wsS RX8 58 yX8_in wsX8_in) := goodIn_app (goodIn_of _ (by decide +kernel)) ggX8_games_X8_in
set_option maxRecDepth 20000 in
theorem ggX8_games_X8_lacks : GoodIn wsX8_games wsX8_lacks := goodIn_r _ [13, 14, 61, 62, 63, 64, 65, 66, 67, 68, 69, 70, 71, 72, 73, 74, 75, 76, 77, 78, 79, 80, 81, 82, 83, 84, 85, 86, 87, 88, 89, 90, 91, 92, 93, 94, 95] (by decide +kernel) (by decide +kernel)
set_option maxRecDepth 20000 in
theorem gX8_games_X8_lacks : GoodIn wsX8_games (wsV RX8 156 RX8 yX8_lacks wsX8_lacks) := goodIn_app (goodIn_of _ (by decide +kernel)) ggX8_games_X8_lacks
set_option maxRecDepth 20000 in
theorem ggX8_games_X8_strikesOf : GoodIn wsX8_games wsX8_strikesOf := goodIn_r _ [18, 14, 19, 20, 21, 8, 22, 23, 24, 25, 26, 27, 28, 29, 30, 31, 32, 33, 34, 35, 36, 37, 38, 39, 40, 41, 42, 43, 44, 45, 6, 7, 9, 61, 62, 63, 64, 65, 66, 67, 68, 69, 70, 71, 72, 73, 74, 75, 76, 77, 78, 79, 80, 81, 82, 83, 84, 85, 86, 87, 88, 89, 90, 91, 92, 93, 94, 95] (by decide +kernel) (by decide +kernel)
set_option maxRecDepth 20000 in
theorem gX8_games_X8_strikesOf : GoodIn wsX8_games (wsV RX8 246 RX8 yX8_strikesOf wsX8_strikesOf) := goodIn_app (goodIn_of _ (by decide +kernel)) ggX8_games_X8_strikesOf
set_option maxRecDepth 20000 in
theorem ggX8_games_X8_draw : GoodIn wsX8_games wsX8_draw := goodIn_r _ [49, 50, 3, 51, 52, 53, 61, 62, 63, 64, 65, 66, 67, 68, 69, 70, 71, 72, 73, 74, 75, 76, 77, 78, 79, 80, 81, 82, 83, 84, 85, 86, 87, 88, 89, 90, 91, 92, 93, 94, 95] (by decide +kernel) (by decide +kernel)
set_option maxRecDepth 20000 in
theorem gX8_games_X8_draw : GoodIn wsX8_games (wsV RX8 249 RX8 yX8_draw wsX8_draw) := goodIn_app (goodIn_of _ (by decide +kernel)) ggX8_games_X8_draw
set_option maxRecDepth 20000 in
theorem ggX8_games_X8_leftBySoManieth : GoodIn wsX8_games wsX8_leftBySoManieth := goodIn_r _ [57, 19, 20, 21, 8, 22, 23, 24, 25, 26, 27, 14, 28, 29, 30, 31, 32, 33, 34, 35, 36, 37, 38, 39, 40, 41, 42, 43, 44, 45, 6, 7, 9, 61, 62, 63, 64, 65, 66, 67, 68, 69, 70, 71, 72, 73, 74, 75, 76, 77, 78, 79, 80, 81, 82, 83, 84, 85, 86, 87, 88, 89, 90, 91, 92, 93, 94, 95] (by decide +kernel) (by decide +kernel)
set_option maxRecDepth 20000 in
theorem gX8_games_X8_leftBySoManieth : GoodIn wsX8_games (wsV RX8 252 RX8 yX8_leftBySoManieth wsX8_leftBySoManieth) := goodIn_app (goodIn_of _ (by decide +kernel)) ggX8_games_X8_leftBySoManieth
set_option maxRecDepth 20000 in
theorem ggX8_games_X8_ones : GoodIn wsX8_games wsX8_ones := goodIn_r _ [60] (by decide +kernel) (by decide +kernel)
set_option maxRecDepth 20000 in
theorem gX8_games_X8_ones : GoodIn wsX8_games (va_wsS RX8 210 yX8_ones wsX8_ones) := goodIn_app (goodIn_of _ (by decide +kernel)) ggX8_games_X8_ones
theorem dX8_games_0 : decode cX8_games 0 = .ok (.iload_n 1, 1) := by decide +kernel
theorem dX8_games_1 : decode cX8_games 1 = .ok (.i2l, 1) := by decide +kernel
theorem dX8_games_2 : decode cX8_games 2 = .ok (.lconst 1, 1) := by decide +kernel
theorem dX8_games_3 : decode cX8_games 3 = .ok (.ldc2_w 166, 3) := by decide +kernel
theorem dX8_games_6 : decode cX8_games 6 = .ok (.invokestatic 58, 3) := by decide +kernel
theorem dX8_games_9 : decode cX8_games 9 = .ok (.ifCond .eq 19, 3) := by decide +kernel
theorem dX8_games_12 : decode cX8_games 12 = .ok (.iload_n 2, 1) := by decide +kernel
theorem dX8_games_13 : decode cX8_games 13 = .ok (.ifCond .lt 15, 3) := by decide +kernel
theorem dX8_games_16 : decode cX8_games 16 = .ok (.iload_n 3, 1) := by decide +kernel
theorem dX8_games_17 : decode cX8_games 17 = .ok (.i2l, 1) := by decide +kernel
theorem dX8_games_18 : decode cX8_games 18 = .ok (.lconst 0, 1) := by decide +kernel
theorem dX8_games_19 : decode cX8_games 19 = .ok (.ldc2_w 244, 3) := by decide +kernel
theorem dX8_games_22 : decode cX8_games 22 = .ok (.invokestatic 58, 3) := by decide +kernel
theorem dX8_games_25 : decode cX8_games 25 = .ok (.ifCond .ne 6, 3) := by decide +kernel
theorem dX8_games_28 : decode cX8_games 28 = .ok (.bipush (-102), 2) := by decide +kernel
theorem dX8_games_30 : decode cX8_games 30 = .ok (.ireturn, 1) := by decide +kernel
theorem dX8_games_31 : decode cX8_games 31 = .ok (.aload_n 0, 1) := by decide +kernel
theorem dX8_games_32 : decode cX8_games 32 = .ok (.invokevirtual 156, 3) := by decide +kernel
theorem dX8_games_35 : decode cX8_games 35 = .ok (.ifCond .eq 6, 3) := by decide +kernel
theorem dX8_games_38 : decode cX8_games 38 = .ok (.bipush (-103), 2) := by decide +kernel
theorem dX8_games_40 : decode cX8_games 40 = .ok (.ireturn, 1) := by decide +kernel
theorem dX8_games_41 : decode cX8_games 41 = .ok (.aload_n 0, 1) := by decide +kernel
theorem dX8_games_42 : decode cX8_games 42 = .ok (.iload_n 2, 1) := by decide +kernel
theorem dX8_games_43 : decode cX8_games 43 = .ok (.putfield 236, 3) := by decide +kernel
theorem dX8_games_46 : decode cX8_games 46 = .ok (.iconst 0, 1) := by decide +kernel
theorem dX8_games_47 : decode cX8_games 47 = .ok (.istore 4, 2) := by decide +kernel
theorem dX8_games_49 : decode cX8_games 49 = .ok (.iconst 0, 1) := by decide +kernel
theorem dX8_games_50 : decode cX8_games 50 = .ok (.istore 5, 2) := by decide +kernel
theorem dX8_games_52 : decode cX8_games 52 = .ok (.iconst 0, 1) := by decide +kernel
theorem dX8_games_53 : decode cX8_games 53 = .ok (.istore 6, 2) := by decide +kernel
theorem dX8_games_55 : decode cX8_games 55 = .ok (.iload 6, 2) := by decide +kernel
theorem dX8_games_57 : decode cX8_games 57 = .ok (.iload_n 1, 1) := by decide +kernel
theorem dX8_games_58 : decode cX8_games 58 = .ok (.if_icmp .ge 92, 3) := by decide +kernel
theorem dX8_games_61 : decode cX8_games 61 = .ok (.aload_n 0, 1) := by decide +kernel
theorem dX8_games_62 : decode cX8_games 62 = .ok (.getfield 112, 3) := by decide +kernel
theorem dX8_games_65 : decode cX8_games 65 = .ok (.istore 7, 2) := by decide +kernel
theorem dX8_games_67 : decode cX8_games 67 = .ok (.iconst 0, 1) := by decide +kernel
theorem dX8_games_68 : decode cX8_games 68 = .ok (.istore 8, 2) := by decide +kernel
theorem dX8_games_70 : decode cX8_games 70 = .ok (.aload_n 0, 1) := by decide +kernel
theorem dX8_games_71 : decode cX8_games 71 = .ok (.iload 7, 2) := by decide +kernel
theorem dX8_games_73 : decode cX8_games 73 = .ok (.invokevirtual 246, 3) := by decide +kernel
theorem dX8_games_76 : decode cX8_games 76 = .ok (.ifCond .le 27, 3) := by decide +kernel
theorem dX8_games_79 : decode cX8_games 79 = .ok (.aload_n 0, 1) := by decide +kernel
theorem dX8_games_80 : decode cX8_games 80 = .ok (.iload 7, 2) := by decide +kernel
theorem dX8_games_82 : decode cX8_games 82 = .ok (.aload_n 0, 1) := by decide +kernel
theorem dX8_games_83 : decode cX8_games 83 = .ok (.aload_n 0, 1) := by decide +kernel
theorem dX8_games_84 : decode cX8_games 84 = .ok (.iload 7, 2) := by decide +kernel
theorem dX8_games_86 : decode cX8_games 86 = .ok (.invokevirtual 246, 3) := by decide +kernel
theorem dX8_games_89 : decode cX8_games 89 = .ok (.invokevirtual 249, 3) := by decide +kernel
theorem dX8_games_92 : decode cX8_games 92 = .ok (.invokevirtual 252, 3) := by decide +kernel
theorem dX8_games_95 : decode cX8_games 95 = .ok (.istore 7, 2) := by decide +kernel
theorem dX8_games_97 : decode cX8_games 97 = .ok (.iinc 8 1, 3) := by decide +kernel
theorem dX8_games_100 : decode cX8_games 100 = .ok (.goto (-30), 3) := by decide +kernel
theorem dX8_games_103 : decode cX8_games 103 = .ok (.iload 5, 2) := by decide +kernel
theorem dX8_games_105 : decode cX8_games 105 = .ok (.aload_n 0, 1) := by decide +kernel
theorem dX8_games_106 : decode cX8_games 106 = .ok (.getfield 112, 3) := by decide +kernel
theorem dX8_games_109 : decode cX8_games 109 = .ok (.invokestatic 210, 3) := by decide +kernel
theorem dX8_games_112 : decode cX8_games 112 = .ok (.iload 7, 2) := by decide +kernel
theorem dX8_games_114 : decode cX8_games 114 = .ok (.invokestatic 210, 3) := by decide +kernel
theorem dX8_games_117 : decode cX8_games 117 = .ok (.isub, 1) := by decide +kernel
theorem dX8_games_118 : decode cX8_games 118 = .ok (.iadd, 1) := by decide +kernel
theorem dX8_games_119 : decode cX8_games 119 = .ok (.istore 5, 2) := by decide +kernel
theorem dX8_games_121 : decode cX8_games 121 = .ok (.iload 4, 2) := by decide +kernel
theorem dX8_games_123 : decode cX8_games 123 = .ok (.iload 8, 2) := by decide +kernel
theorem dX8_games_125 : decode cX8_games 125 = .ok (.iconst 2, 1) := by decide +kernel
theorem dX8_games_126 : decode cX8_games 126 = .ok (.irem, 1) := by decide +kernel
theorem dX8_games_127 : decode cX8_games 127 = .ok (.iconst 1, 1) := by decide +kernel
theorem dX8_games_128 : decode cX8_games 128 = .ok (.aload_n 0, 1) := by decide +kernel
theorem dX8_games_129 : decode cX8_games 129 = .ok (.getfield 109, 3) := by decide +kernel
theorem dX8_games_132 : decode cX8_games 132 = .ok (.isub, 1) := by decide +kernel
theorem dX8_games_133 : decode cX8_games 133 = .ok (.if_icmp .ne 7, 3) := by decide +kernel
theorem dX8_games_136 : decode cX8_games 136 = .ok (.iconst 1, 1) := by decide +kernel
theorem dX8_games_137 : decode cX8_games 137 = .ok (.goto 4, 3) := by decide +kernel
theorem dX8_games_140 : decode cX8_games 140 = .ok (.iconst 0, 1) := by decide +kernel
theorem dX8_games_141 : decode cX8_games 141 = .ok (.iadd, 1) := by decide +kernel
theorem dX8_games_142 : decode cX8_games 142 = .ok (.istore 4, 2) := by decide +kernel
theorem dX8_games_144 : decode cX8_games 144 = .ok (.iinc 6 1, 3) := by decide +kernel
theorem dX8_games_147 : decode cX8_games 147 = .ok (.goto (-92), 3) := by decide +kernel
theorem dX8_games_150 : decode cX8_games 150 = .ok (.iload_n 3, 1) := by decide +kernel
theorem dX8_games_151 : decode cX8_games 151 = .ok (.ifCond .ne 8, 3) := by decide +kernel
theorem dX8_games_154 : decode cX8_games 154 = .ok (.iload 4, 2) := by decide +kernel
theorem dX8_games_156 : decode cX8_games 156 = .ok (.goto 17, 3) := by decide +kernel
theorem dX8_games_159 : decode cX8_games 159 = .ok (.iload_n 3, 1) := by decide +kernel
theorem dX8_games_160 : decode cX8_games 160 = .ok (.iconst 1, 1) := by decide +kernel
theorem dX8_games_161 : decode cX8_games 161 = .ok (.if_icmp .ne 8, 3) := by decide +kernel
theorem dX8_games_164 : decode cX8_games 164 = .ok (.iload 5, 2) := by decide +kernel
theorem dX8_games_166 : decode cX8_games 166 = .ok (.goto 7, 3) := by decide +kernel
theorem dX8_games_169 : decode cX8_games 169 = .ok (.aload_n 0, 1) := by decide +kernel
theorem dX8_games_170 : decode cX8_games 170 = .ok (.getfield 236, 3) := by decide +kernel
theorem dX8_games_173 : decode cX8_games 173 = .ok (.ireturn, 1) := by decide +kernel
set_option maxRecDepth 20000 in
theorem ggX8_image_X8_lacks : GoodIn wsX8_image wsX8_lacks := goodIn_r _ [21, 22, 26, 27, 28, 29, 30, 31, 32, 33, 34, 35, 36, 37, 38, 39, 40, 41, 42, 43, 44, 45, 46, 47, 48, 49, 50, 51, 52, 53, 54, 55, 56, 57, 58, 59, 60] (by decide +kernel) (by decide +kernel)
set_option maxRecDepth 20000 in
theorem gX8_image_X8_lacks : GoodIn wsX8_image (wsV RX8 156 RX8 yX8_lacks wsX8_lacks) := goodIn_app (goodIn_of _ (by decide +kernel)) ggX8_image_X8_lacks
set_option maxRecDepth 20000 in
theorem ggX8_image_X8_copy : GoodIn wsX8_image wsX8_copy := goodIn_r _ [25] (by decide +kernel) (by decide +kernel)
set_option maxRecDepth 20000 in
theorem gX8_image_X8_copy : GoodIn wsX8_image (va_wsS RX8 102 yX8_copy wsX8_copy) := goodIn_app (goodIn_of _ (by decide +kernel)) ggX8_image_X8_copy
theorem dX8_image_0 : decode cX8_image 0 = .ok (.aload_n 0, 1) := by decide +kernel
theorem dX8_image_1 : decode cX8_image 1 = .ok (.invokevirtual 156, 3) := by decide +kernel
theorem dX8_image_4 : decode cX8_image 4 = .ok (.ifCond .eq 6, 3) := by decide +kernel
theorem dX8_image_7 : decode cX8_image 7 = .ok (.bipush (-103), 2) := by decide +kernel
theorem dX8_image_9 : decode cX8_image 9 = .ok (.ireturn, 1) := by decide +kernel
theorem dX8_image_10 : decode cX8_image 10 = .ok (.aload_n 0, 1) := by decide +kernel
theorem dX8_image_11 : decode cX8_image 11 = .ok (.getfield 19, 3) := by decide +kernel
theorem dX8_image_14 : decode cX8_image 14 = .ok (.aload_n 0, 1) := by decide +kernel
theorem dX8_image_15 : decode cX8_image 15 = .ok (.getfield 46, 3) := by decide +kernel
theorem dX8_image_18 : decode cX8_image 18 = .ok (.invokestatic 102, 3) := by decide +kernel
theorem dX8_image_21 : decode cX8_image 21 = .ok (.aload_n 0, 1) := by decide +kernel
theorem dX8_image_22 : decode cX8_image 22 = .ok (.getfield 43, 3) := by decide +kernel
theorem dX8_image_25 : decode cX8_image 25 = .ok (.aload_n 0, 1) := by decide +kernel
theorem dX8_image_26 : decode cX8_image 26 = .ok (.getfield 49, 3) := by decide +kernel
theorem dX8_image_29 : decode cX8_image 29 = .ok (.invokestatic 102, 3) := by decide +kernel
theorem dX8_image_32 : decode cX8_image 32 = .ok (.aload_n 0, 1) := by decide +kernel
theorem dX8_image_33 : decode cX8_image 33 = .ok (.aload_n 0, 1) := by decide +kernel
theorem dX8_image_34 : decode cX8_image 34 = .ok (.getfield 112, 3) := by decide +kernel
theorem dX8_image_37 : decode cX8_image 37 = .ok (.putfield 255, 3) := by decide +kernel
theorem dX8_image_40 : decode cX8_image 40 = .ok (.aload_n 0, 1) := by decide +kernel
theorem dX8_image_41 : decode cX8_image 41 = .ok (.aload_n 0, 1) := by decide +kernel
theorem dX8_image_42 : decode cX8_image 42 = .ok (.getfield 106, 3) := by decide +kernel
theorem dX8_image_45 : decode cX8_image 45 = .ok (.putfield 258, 3) := by decide +kernel
theorem dX8_image_48 : decode cX8_image 48 = .ok (.aload_n 0, 1) := by decide +kernel
theorem dX8_image_49 : decode cX8_image 49 = .ok (.aload_n 0, 1) := by decide +kernel
theorem dX8_image_50 : decode cX8_image 50 = .ok (.getfield 109, 3) := by decide +kernel
theorem dX8_image_53 : decode cX8_image 53 = .ok (.putfield 261, 3) := by decide +kernel
theorem dX8_image_56 : decode cX8_image 56 = .ok (.aload_n 0, 1) := by decide +kernel
theorem dX8_image_57 : decode cX8_image 57 = .ok (.aload_n 0, 1) := by decide +kernel
theorem dX8_image_58 : decode cX8_image 58 = .ok (.getfield 115, 3) := by decide +kernel
theorem dX8_image_61 : decode cX8_image 61 = .ok (.putfield 264, 3) := by decide +kernel
theorem dX8_image_64 : decode cX8_image 64 = .ok (.aload_n 0, 1) := by decide +kernel
theorem dX8_image_65 : decode cX8_image 65 = .ok (.aload_n 0, 1) := by decide +kernel
theorem dX8_image_66 : decode cX8_image 66 = .ok (.getfield 118, 3) := by decide +kernel
theorem dX8_image_69 : decode cX8_image 69 = .ok (.putfield 267, 3) := by decide +kernel
theorem dX8_image_72 : decode cX8_image 72 = .ok (.aload_n 0, 1) := by decide +kernel
theorem dX8_image_73 : decode cX8_image 73 = .ok (.aload_n 0, 1) := by decide +kernel
theorem dX8_image_74 : decode cX8_image 74 = .ok (.getfield 121, 3) := by decide +kernel
theorem dX8_image_77 : decode cX8_image 77 = .ok (.putfield 52, 3) := by decide +kernel
theorem dX8_image_80 : decode cX8_image 80 = .ok (.aload_n 0, 1) := by decide +kernel
theorem dX8_image_81 : decode cX8_image 81 = .ok (.getfield 115, 3) := by decide +kernel
theorem dX8_image_84 : decode cX8_image 84 = .ok (.ireturn, 1) := by decide +kernel
set_option maxRecDepth 20000 in
theorem ggX8_restore_X8_copy : GoodIn wsX8_restore wsX8_copy := goodIn_r _ [20] (by decide +kernel) (by decide +kernel)
set_option maxRecDepth 20000 in
theorem gX8_restore_X8_copy : GoodIn wsX8_restore (va_wsS RX8 102 yX8_copy wsX8_copy) := goodIn_app (goodIn_of _ (by decide +kernel)) ggX8_restore_X8_copy
theorem dX8_restore_0 : decode cX8_restore 0 = .ok (.aload_n 0, 1) := by decide +kernel
theorem dX8_restore_1 : decode cX8_restore 1 = .ok (.getfield 52, 3) := by decide +kernel
theorem dX8_restore_4 : decode cX8_restore 4 = .ok (.aload_n 0, 1) := by decide +kernel
theorem dX8_restore_5 : decode cX8_restore 5 = .ok (.getfield 121, 3) := by decide +kernel
theorem dX8_restore_8 : decode cX8_restore 8 = .ok (.if_icmp .eq 6, 3) := by decide +kernel
theorem dX8_restore_11 : decode cX8_restore 11 = .ok (.bipush (-103), 2) := by decide +kernel
theorem dX8_restore_13 : decode cX8_restore 13 = .ok (.ireturn, 1) := by decide +kernel
theorem dX8_restore_14 : decode cX8_restore 14 = .ok (.aload_n 0, 1) := by decide +kernel
theorem dX8_restore_15 : decode cX8_restore 15 = .ok (.getfield 46, 3) := by decide +kernel
theorem dX8_restore_18 : decode cX8_restore 18 = .ok (.aload_n 0, 1) := by decide +kernel
theorem dX8_restore_19 : decode cX8_restore 19 = .ok (.getfield 19, 3) := by decide +kernel
theorem dX8_restore_22 : decode cX8_restore 22 = .ok (.invokestatic 102, 3) := by decide +kernel
theorem dX8_restore_25 : decode cX8_restore 25 = .ok (.aload_n 0, 1) := by decide +kernel
theorem dX8_restore_26 : decode cX8_restore 26 = .ok (.getfield 49, 3) := by decide +kernel
theorem dX8_restore_29 : decode cX8_restore 29 = .ok (.aload_n 0, 1) := by decide +kernel
theorem dX8_restore_30 : decode cX8_restore 30 = .ok (.getfield 43, 3) := by decide +kernel
theorem dX8_restore_33 : decode cX8_restore 33 = .ok (.invokestatic 102, 3) := by decide +kernel
theorem dX8_restore_36 : decode cX8_restore 36 = .ok (.aload_n 0, 1) := by decide +kernel
theorem dX8_restore_37 : decode cX8_restore 37 = .ok (.aload_n 0, 1) := by decide +kernel
theorem dX8_restore_38 : decode cX8_restore 38 = .ok (.getfield 255, 3) := by decide +kernel
theorem dX8_restore_41 : decode cX8_restore 41 = .ok (.putfield 112, 3) := by decide +kernel
theorem dX8_restore_44 : decode cX8_restore 44 = .ok (.aload_n 0, 1) := by decide +kernel
theorem dX8_restore_45 : decode cX8_restore 45 = .ok (.aload_n 0, 1) := by decide +kernel
theorem dX8_restore_46 : decode cX8_restore 46 = .ok (.getfield 258, 3) := by decide +kernel
theorem dX8_restore_49 : decode cX8_restore 49 = .ok (.putfield 106, 3) := by decide +kernel
theorem dX8_restore_52 : decode cX8_restore 52 = .ok (.aload_n 0, 1) := by decide +kernel
theorem dX8_restore_53 : decode cX8_restore 53 = .ok (.aload_n 0, 1) := by decide +kernel
theorem dX8_restore_54 : decode cX8_restore 54 = .ok (.getfield 261, 3) := by decide +kernel
theorem dX8_restore_57 : decode cX8_restore 57 = .ok (.putfield 109, 3) := by decide +kernel
theorem dX8_restore_60 : decode cX8_restore 60 = .ok (.aload_n 0, 1) := by decide +kernel
theorem dX8_restore_61 : decode cX8_restore 61 = .ok (.aload_n 0, 1) := by decide +kernel
theorem dX8_restore_62 : decode cX8_restore 62 = .ok (.getfield 264, 3) := by decide +kernel
theorem dX8_restore_65 : decode cX8_restore 65 = .ok (.putfield 115, 3) := by decide +kernel
theorem dX8_restore_68 : decode cX8_restore 68 = .ok (.aload_n 0, 1) := by decide +kernel
theorem dX8_restore_69 : decode cX8_restore 69 = .ok (.aload_n 0, 1) := by decide +kernel
theorem dX8_restore_70 : decode cX8_restore 70 = .ok (.getfield 267, 3) := by decide +kernel
theorem dX8_restore_73 : decode cX8_restore 73 = .ok (.putfield 118, 3) := by decide +kernel
theorem dX8_restore_76 : decode cX8_restore 76 = .ok (.aload_n 0, 1) := by decide +kernel
theorem dX8_restore_77 : decode cX8_restore 77 = .ok (.getfield 115, 3) := by decide +kernel
theorem dX8_restore_80 : decode cX8_restore 80 = .ok (.ireturn, 1) := by decide +kernel
set_option maxRecDepth 20000 in
theorem ggX8_countOf_X8_ones : GoodIn wsX8_countOf wsX8_ones := goodIn_r _ [13] (by decide +kernel) (by decide +kernel)
set_option maxRecDepth 20000 in
theorem gX8_countOf_X8_ones : GoodIn wsX8_countOf (va_wsS RX8 210 yX8_ones wsX8_ones) := goodIn_app (goodIn_of _ (by decide +kernel)) ggX8_countOf_X8_ones
set_option maxRecDepth 20000 in
theorem ggX8_countOf_X8_strikesOf : GoodIn wsX8_countOf wsX8_strikesOf := goodIn_r _ [17, 1, 18, 19, 20, 12, 21, 22, 23, 24, 25, 4, 26, 27, 28, 29, 30, 31, 32, 33, 34, 35, 36, 37, 38, 39, 40, 41, 42, 43, 44, 45, 46, 47, 48, 49, 50, 51, 52, 53, 54, 55, 56, 57, 58, 59, 60, 61, 62, 63, 64, 65, 66, 67, 68, 69, 70, 71, 72, 73, 74, 75, 76, 77, 78, 79, 80, 81] (by decide +kernel) (by decide +kernel)
set_option maxRecDepth 20000 in
theorem gX8_countOf_X8_strikesOf : GoodIn wsX8_countOf (wsV RX8 246 RX8 yX8_strikesOf wsX8_strikesOf) := goodIn_app (goodIn_of _ (by decide +kernel)) ggX8_countOf_X8_strikesOf
theorem dX8_countOf_0 : decode cX8_countOf 0 = .ok (.iload_n 1, 1) := by decide +kernel
theorem dX8_countOf_1 : decode cX8_countOf 1 = .ok (.tableswitch 112 0 9 #[55, 60, 65, 73, 78, 83, 92, 97, 102, 107], 55) := by decide +kernel
theorem dX8_countOf_56 : decode cX8_countOf 56 = .ok (.aload_n 0, 1) := by decide +kernel
theorem dX8_countOf_57 : decode cX8_countOf 57 = .ok (.getfield 96, 3) := by decide +kernel
theorem dX8_countOf_60 : decode cX8_countOf 60 = .ok (.ireturn, 1) := by decide +kernel
theorem dX8_countOf_61 : decode cX8_countOf 61 = .ok (.aload_n 0, 1) := by decide +kernel
theorem dX8_countOf_62 : decode cX8_countOf 62 = .ok (.getfield 99, 3) := by decide +kernel
theorem dX8_countOf_65 : decode cX8_countOf 65 = .ok (.ireturn, 1) := by decide +kernel
theorem dX8_countOf_66 : decode cX8_countOf 66 = .ok (.aload_n 0, 1) := by decide +kernel
theorem dX8_countOf_67 : decode cX8_countOf 67 = .ok (.getfield 112, 3) := by decide +kernel
theorem dX8_countOf_70 : decode cX8_countOf 70 = .ok (.invokestatic 210, 3) := by decide +kernel
theorem dX8_countOf_73 : decode cX8_countOf 73 = .ok (.ireturn, 1) := by decide +kernel
theorem dX8_countOf_74 : decode cX8_countOf 74 = .ok (.aload_n 0, 1) := by decide +kernel
theorem dX8_countOf_75 : decode cX8_countOf 75 = .ok (.getfield 106, 3) := by decide +kernel
theorem dX8_countOf_78 : decode cX8_countOf 78 = .ok (.ireturn, 1) := by decide +kernel
theorem dX8_countOf_79 : decode cX8_countOf 79 = .ok (.aload_n 0, 1) := by decide +kernel
theorem dX8_countOf_80 : decode cX8_countOf 80 = .ok (.getfield 109, 3) := by decide +kernel
theorem dX8_countOf_83 : decode cX8_countOf 83 = .ok (.ireturn, 1) := by decide +kernel
theorem dX8_countOf_84 : decode cX8_countOf 84 = .ok (.aload_n 0, 1) := by decide +kernel
theorem dX8_countOf_85 : decode cX8_countOf 85 = .ok (.aload_n 0, 1) := by decide +kernel
theorem dX8_countOf_86 : decode cX8_countOf 86 = .ok (.getfield 112, 3) := by decide +kernel
theorem dX8_countOf_89 : decode cX8_countOf 89 = .ok (.invokevirtual 246, 3) := by decide +kernel
theorem dX8_countOf_92 : decode cX8_countOf 92 = .ok (.ireturn, 1) := by decide +kernel
theorem dX8_countOf_93 : decode cX8_countOf 93 = .ok (.aload_n 0, 1) := by decide +kernel
theorem dX8_countOf_94 : decode cX8_countOf 94 = .ok (.getfield 115, 3) := by decide +kernel
theorem dX8_countOf_97 : decode cX8_countOf 97 = .ok (.ireturn, 1) := by decide +kernel
theorem dX8_countOf_98 : decode cX8_countOf 98 = .ok (.aload_n 0, 1) := by decide +kernel
theorem dX8_countOf_99 : decode cX8_countOf 99 = .ok (.getfield 118, 3) := by decide +kernel
theorem dX8_countOf_102 : decode cX8_countOf 102 = .ok (.ireturn, 1) := by decide +kernel
theorem dX8_countOf_103 : decode cX8_countOf 103 = .ok (.aload_n 0, 1) := by decide +kernel
theorem dX8_countOf_104 : decode cX8_countOf 104 = .ok (.getfield 62, 3) := by decide +kernel
theorem dX8_countOf_107 : decode cX8_countOf 107 = .ok (.ireturn, 1) := by decide +kernel
theorem dX8_countOf_108 : decode cX8_countOf 108 = .ok (.aload_n 0, 1) := by decide +kernel
theorem dX8_countOf_109 : decode cX8_countOf 109 = .ok (.getfield 121, 3) := by decide +kernel
theorem dX8_countOf_112 : decode cX8_countOf 112 = .ok (.ireturn, 1) := by decide +kernel
theorem dX8_countOf_113 : decode cX8_countOf 113 = .ok (.bipush (-102), 2) := by decide +kernel
theorem dX8_countOf_115 : decode cX8_countOf 115 = .ok (.ireturn, 1) := by decide +kernel
set_option maxRecDepth 20000 in
theorem ggX8_count_X8_countOf : GoodIn wsX8_count wsX8_countOf := goodIn_r _ [5, 6, 7, 8, 9, 10, 11, 12, 13, 14, 15, 16, 4, 17, 18, 19, 20, 21, 22, 23, 24, 25, 26, 27, 28, 29, 30, 31, 32, 33, 34, 35, 36, 37, 38, 39, 40, 41, 42, 43, 44, 45, 46, 47, 48, 49, 50, 51, 52, 53, 54, 55, 56, 57, 58, 59, 60, 61, 62, 63, 64, 65, 66, 67, 68, 69, 70, 71, 72, 73, 74, 75, 76, 77, 78, 79, 80, 81, 82, 83, 84, 85] (by decide +kernel) (by decide +kernel)
set_option maxRecDepth 20000 in
theorem gX8_count_X8_countOf : GoodIn wsX8_count (wsV RX8 270 RX8 yX8_countOf wsX8_countOf) := goodIn_app (goodIn_of _ (by decide +kernel)) ggX8_count_X8_countOf
theorem dX8_count_0 : decode cX8_count 0 = .ok (.aload_n 0, 1) := by decide +kernel
theorem dX8_count_1 : decode cX8_count 1 = .ok (.iload_n 1, 1) := by decide +kernel
theorem dX8_count_2 : decode cX8_count 2 = .ok (.invokevirtual 270, 3) := by decide +kernel
theorem dX8_count_5 : decode cX8_count 5 = .ok (.ireturn, 1) := by decide +kernel
theorem dX8_say_0 : decode cX8_say 0 = .ok (.aload_n 0, 1) := by decide +kernel
theorem dX8_say_1 : decode cX8_say 1 = .ok (.ldc2_w 273, 3) := by decide +kernel
theorem dX8_say_4 : decode cX8_say 4 = .ok (.aload_n 0, 1) := by decide +kernel
theorem dX8_say_5 : decode cX8_say 5 = .ok (.getfield 275, 3) := by decide +kernel
theorem dX8_say_8 : decode cX8_say 8 = .ok (.lmul, 1) := by decide +kernel
theorem dX8_say_9 : decode cX8_say 9 = .ok (.lload_n 1, 1) := by decide +kernel
theorem dX8_say_10 : decode cX8_say 10 = .ok (.ladd, 1) := by decide +kernel
theorem dX8_say_11 : decode cX8_say 11 = .ok (.putfield 275, 3) := by decide +kernel
theorem dX8_say_14 : decode cX8_say 14 = .ok (.return_, 1) := by decide +kernel
set_option maxRecDepth 20000 in
theorem ggX8_sayGreen_X8_numberOfAll : GoodIn wsX8_sayGreen wsX8_numberOfAll := goodIn_r _ [5, 6, 7, 8, 9, 4, 10, 11, 12, 13, 14, 15, 16, 17, 18, 19, 20, 21, 22, 23, 24, 25, 26, 27, 28, 29, 30, 31, 32, 33, 34, 35, 36, 37, 38, 39, 40, 41, 42, 43, 44, 45, 46, 47, 48, 49, 50, 100, 101, 102, 103, 104, 105, 106, 107, 108, 109, 110, 111, 112, 113, 114, 115, 116, 117, 118, 119, 120, 121, 122, 123, 124, 125, 126, 127, 128, 129, 130, 131, 132, 133, 134] (by decide +kernel) (by decide +kernel)
set_option maxRecDepth 20000 in
theorem gX8_sayGreen_X8_numberOfAll : GoodIn wsX8_sayGreen (wsV RX8 160 RX8 yX8_numberOfAll wsX8_numberOfAll) := goodIn_app (goodIn_of _ (by decide +kernel)) ggX8_sayGreen_X8_numberOfAll
set_option maxRecDepth 20000 in
theorem ggX8_sayGreen_X8_say : GoodIn wsX8_sayGreen wsX8_say := goodIn_r _ [54, 55, 56, 100, 101, 102, 103, 104, 105, 106, 107, 108, 109, 110, 111, 112, 113, 114, 115, 116, 117, 118, 119, 120, 121, 122, 123, 124, 125, 126, 127, 128, 129, 130, 131, 132, 133, 134] (by decide +kernel) (by decide +kernel)
set_option maxRecDepth 20000 in
theorem gX8_sayGreen_X8_say : GoodIn wsX8_sayGreen (wsV RX8 279 RX8 yX8_say wsX8_say) := goodIn_app (goodIn_of _ (by decide +kernel)) ggX8_sayGreen_X8_say
set_option maxRecDepth 20000 in
theorem ggX8_sayGreen_X8_winsOf : GoodIn wsX8_sayGreen wsX8_winsOf := goodIn_r _ [60, 61, 13, 62, 63, 64, 4, 65, 66, 67, 68, 69, 70, 71, 11, 72, 73, 74, 19, 20, 21, 22, 23, 24, 25, 26, 27, 18, 28, 29, 30, 31, 32, 33, 34, 35, 36, 37, 38, 39, 40, 41, 42, 43, 44, 45, 46, 47, 100, 101, 102, 103, 104, 105, 106, 107, 108, 109, 110, 111, 112, 113, 114, 115, 116, 117, 118, 119, 120, 121, 122, 123, 124, 125, 126, 127, 128, 129, 130, 131, 132, 133, 134] (by decide +kernel) (by decide +kernel)
set_option maxRecDepth 20000 in
theorem gX8_sayGreen_X8_winsOf : GoodIn wsX8_sayGreen (wsV RX8 185 RX8 yX8_winsOf wsX8_winsOf) := goodIn_app (goodIn_of _ (by decide +kernel)) ggX8_sayGreen_X8_winsOf
set_option maxRecDepth 20000 in
theorem ggX8_sayGreen_X8_bestOf : GoodIn wsX8_sayGreen wsX8_bestOf := goodIn_r _ [78, 11, 13, 61, 70, 71, 62, 63, 64, 4, 65, 66, 67, 68, 69, 72, 73, 74, 19, 20, 21, 22, 23, 24, 25, 26, 27, 18, 28, 29, 30, 31, 32, 33, 34, 35, 36, 37, 38, 39, 40, 41, 42, 43, 44, 45, 46, 47, 100, 101, 102, 103, 104, 105, 106, 107, 108, 109, 110, 111, 112, 113, 114, 115, 116, 117, 118, 119, 120, 121, 122, 123, 124, 125, 126, 127, 128, 129, 130, 131, 132, 133, 134] (by decide +kernel) (by decide +kernel)
set_option maxRecDepth 20000 in
theorem gX8_sayGreen_X8_bestOf : GoodIn wsX8_sayGreen (wsV RX8 193 RX8 yX8_bestOf wsX8_bestOf) := goodIn_app (goodIn_of _ (by decide +kernel)) ggX8_sayGreen_X8_bestOf
set_option maxRecDepth 20000 in
theorem ggX8_sayGreen_X8_rowOf : GoodIn wsX8_sayGreen wsX8_rowOf := goodIn_r _ [82, 83, 84, 85, 86, 4, 87, 27, 48, 49, 50, 100, 101, 102, 103, 104, 105, 106, 107, 108, 109, 110, 111, 112, 113, 114, 115, 116, 117, 118, 119, 120, 121, 122, 123, 124, 125, 126, 127, 128, 129, 130, 131, 132, 133, 134] (by decide +kernel) (by decide +kernel)
set_option maxRecDepth 20000 in
theorem gX8_sayGreen_X8_rowOf : GoodIn wsX8_sayGreen (wsV RX8 168 RX8 yX8_rowOf wsX8_rowOf) := goodIn_app (goodIn_of _ (by decide +kernel)) ggX8_sayGreen_X8_rowOf
set_option maxRecDepth 20000 in
theorem ggX8_sayGreen_X8_periodOf : GoodIn wsX8_sayGreen wsX8_periodOf := goodIn_r _ [91, 84, 85, 86, 4, 87, 27, 83, 48, 49, 50, 92, 93, 94, 95, 100, 101, 102, 103, 104, 105, 106, 107, 108, 109, 110, 111, 112, 113, 114, 115, 116, 117, 118, 119, 120, 121, 122, 123, 124, 125, 126, 127, 128, 129, 130, 131, 132, 133, 134] (by decide +kernel) (by decide +kernel)
set_option maxRecDepth 20000 in
theorem gX8_sayGreen_X8_periodOf : GoodIn wsX8_sayGreen (wsV RX8 174 RX8 yX8_periodOf wsX8_periodOf) := goodIn_app (goodIn_of _ (by decide +kernel)) ggX8_sayGreen_X8_periodOf
set_option maxRecDepth 20000 in
theorem ggX8_sayGreen_X8_likelyOf : GoodIn wsX8_sayGreen wsX8_likelyOf := goodIn_r _ [99, 73, 13, 62, 63, 64, 4, 65, 66, 67, 68, 69, 61, 70, 71, 11, 72, 74, 19, 20, 21, 22, 23, 24, 25, 26, 27, 18, 28, 29, 30, 31, 32, 33, 34, 35, 36, 37, 38, 39, 40, 41, 42, 43, 44, 45, 46, 47, 100, 101, 102, 103, 104, 105, 106, 107, 108, 109, 110, 111, 112, 113, 114, 115, 116, 117, 118, 119, 120, 121, 122, 123, 124, 125, 126, 127, 128, 129, 130, 131, 132, 133, 134] (by decide +kernel) (by decide +kernel)
set_option maxRecDepth 20000 in
theorem gX8_sayGreen_X8_likelyOf : GoodIn wsX8_sayGreen (wsV RX8 188 RX8 yX8_likelyOf wsX8_likelyOf) := goodIn_app (goodIn_of _ (by decide +kernel)) ggX8_sayGreen_X8_likelyOf
theorem dX8_sayGreen_0 : decode cX8_sayGreen 0 = .ok (.aload_n 0, 1) := by decide +kernel
theorem dX8_sayGreen_1 : decode cX8_sayGreen 1 = .ok (.aload_n 0, 1) := by decide +kernel
theorem dX8_sayGreen_2 : decode cX8_sayGreen 2 = .ok (.invokevirtual 160, 3) := by decide +kernel
theorem dX8_sayGreen_5 : decode cX8_sayGreen 5 = .ok (.i2l, 1) := by decide +kernel
theorem dX8_sayGreen_6 : decode cX8_sayGreen 6 = .ok (.invokevirtual 279, 3) := by decide +kernel
theorem dX8_sayGreen_9 : decode cX8_sayGreen 9 = .ok (.aload_n 0, 1) := by decide +kernel
theorem dX8_sayGreen_10 : decode cX8_sayGreen 10 = .ok (.aload_n 0, 1) := by decide +kernel
theorem dX8_sayGreen_11 : decode cX8_sayGreen 11 = .ok (.invokevirtual 185, 3) := by decide +kernel
theorem dX8_sayGreen_14 : decode cX8_sayGreen 14 = .ok (.i2l, 1) := by decide +kernel
theorem dX8_sayGreen_15 : decode cX8_sayGreen 15 = .ok (.invokevirtual 279, 3) := by decide +kernel
theorem dX8_sayGreen_18 : decode cX8_sayGreen 18 = .ok (.iconst 0, 1) := by decide +kernel
theorem dX8_sayGreen_19 : decode cX8_sayGreen 19 = .ok (.istore_n 1, 1) := by decide +kernel
theorem dX8_sayGreen_20 : decode cX8_sayGreen 20 = .ok (.iload_n 1, 1) := by decide +kernel
theorem dX8_sayGreen_21 : decode cX8_sayGreen 21 = .ok (.iconst 4, 1) := by decide +kernel
theorem dX8_sayGreen_22 : decode cX8_sayGreen 22 = .ok (.if_icmp .ge 19, 3) := by decide +kernel
theorem dX8_sayGreen_25 : decode cX8_sayGreen 25 = .ok (.aload_n 0, 1) := by decide +kernel
theorem dX8_sayGreen_26 : decode cX8_sayGreen 26 = .ok (.aload_n 0, 1) := by decide +kernel
theorem dX8_sayGreen_27 : decode cX8_sayGreen 27 = .ok (.iload_n 1, 1) := by decide +kernel
theorem dX8_sayGreen_28 : decode cX8_sayGreen 28 = .ok (.invokevirtual 193, 3) := by decide +kernel
theorem dX8_sayGreen_31 : decode cX8_sayGreen 31 = .ok (.i2l, 1) := by decide +kernel
theorem dX8_sayGreen_32 : decode cX8_sayGreen 32 = .ok (.invokevirtual 279, 3) := by decide +kernel
theorem dX8_sayGreen_35 : decode cX8_sayGreen 35 = .ok (.iinc 1 1, 3) := by decide +kernel
theorem dX8_sayGreen_38 : decode cX8_sayGreen 38 = .ok (.goto (-18), 3) := by decide +kernel
theorem dX8_sayGreen_41 : decode cX8_sayGreen 41 = .ok (.aload_n 0, 1) := by decide +kernel
theorem dX8_sayGreen_42 : decode cX8_sayGreen 42 = .ok (.aload_n 0, 1) := by decide +kernel
theorem dX8_sayGreen_43 : decode cX8_sayGreen 43 = .ok (.bipush 20, 2) := by decide +kernel
theorem dX8_sayGreen_45 : decode cX8_sayGreen 45 = .ok (.invokevirtual 168, 3) := by decide +kernel
theorem dX8_sayGreen_48 : decode cX8_sayGreen 48 = .ok (.i2l, 1) := by decide +kernel
theorem dX8_sayGreen_49 : decode cX8_sayGreen 49 = .ok (.invokevirtual 279, 3) := by decide +kernel
theorem dX8_sayGreen_52 : decode cX8_sayGreen 52 = .ok (.aload_n 0, 1) := by decide +kernel
theorem dX8_sayGreen_53 : decode cX8_sayGreen 53 = .ok (.aload_n 0, 1) := by decide +kernel
theorem dX8_sayGreen_54 : decode cX8_sayGreen 54 = .ok (.iconst 0, 1) := by decide +kernel
theorem dX8_sayGreen_55 : decode cX8_sayGreen 55 = .ok (.invokevirtual 174, 3) := by decide +kernel
theorem dX8_sayGreen_58 : decode cX8_sayGreen 58 = .ok (.i2l, 1) := by decide +kernel
theorem dX8_sayGreen_59 : decode cX8_sayGreen 59 = .ok (.invokevirtual 279, 3) := by decide +kernel
theorem dX8_sayGreen_62 : decode cX8_sayGreen 62 = .ok (.aload_n 0, 1) := by decide +kernel
theorem dX8_sayGreen_63 : decode cX8_sayGreen 63 = .ok (.aload_n 0, 1) := by decide +kernel
theorem dX8_sayGreen_64 : decode cX8_sayGreen 64 = .ok (.iconst 1, 1) := by decide +kernel
theorem dX8_sayGreen_65 : decode cX8_sayGreen 65 = .ok (.invokevirtual 174, 3) := by decide +kernel
theorem dX8_sayGreen_68 : decode cX8_sayGreen 68 = .ok (.i2l, 1) := by decide +kernel
theorem dX8_sayGreen_69 : decode cX8_sayGreen 69 = .ok (.invokevirtual 279, 3) := by decide +kernel
theorem dX8_sayGreen_72 : decode cX8_sayGreen 72 = .ok (.aload_n 0, 1) := by decide +kernel
theorem dX8_sayGreen_73 : decode cX8_sayGreen 73 = .ok (.aload_n 0, 1) := by decide +kernel
theorem dX8_sayGreen_74 : decode cX8_sayGreen 74 = .ok (.invokevirtual 188, 3) := by decide +kernel
theorem dX8_sayGreen_77 : decode cX8_sayGreen 77 = .ok (.i2l, 1) := by decide +kernel
theorem dX8_sayGreen_78 : decode cX8_sayGreen 78 = .ok (.invokevirtual 279, 3) := by decide +kernel
theorem dX8_sayGreen_81 : decode cX8_sayGreen 81 = .ok (.return_, 1) := by decide +kernel
set_option maxRecDepth 20000 in
theorem ggX8_digest_X8_tellPin : GoodIn wsX8_digest wsX8_tellPin := goodIn_r _ [11, 12, 13, 14, 15, 16, 17, 10, 18, 19, 3, 20, 21, 22, 23, 24, 25, 26, 27, 28, 29, 30, 31, 32, 33, 34, 35, 36, 37, 38, 39, 40, 41, 42, 43, 44, 45, 46, 47, 48, 49, 50, 51, 52, 53, 54, 156, 157, 158, 159, 160, 161, 162, 163, 164, 165, 166, 167, 168, 169, 170, 171, 172, 173, 174, 175, 176, 177, 178, 179, 180, 181, 182, 183, 184, 185, 186, 187, 188, 189, 190] (by decide +kernel) (by decide +kernel)
set_option maxRecDepth 20000 in
theorem gX8_digest_X8_tellPin : GoodIn wsX8_digest (wsV RX8 205 RX8 yX8_tellPin wsX8_tellPin) := goodIn_app (goodIn_of _ (by decide +kernel)) ggX8_digest_X8_tellPin
set_option maxRecDepth 20000 in
theorem ggX8_digest_X8_say : GoodIn wsX8_digest wsX8_say := goodIn_r _ [58, 59, 2, 156, 157, 158, 159, 160, 161, 162, 163, 164, 165, 166, 167, 168, 169, 170, 171, 172, 173, 174, 175, 176, 177, 178, 179, 180, 181, 182, 183, 184, 185, 186, 187, 188, 189, 190] (by decide +kernel) (by decide +kernel)
set_option maxRecDepth 20000 in
theorem gX8_digest_X8_say : GoodIn wsX8_digest (wsV RX8 279 RX8 yX8_say wsX8_say) := goodIn_app (goodIn_of _ (by decide +kernel)) ggX8_digest_X8_say
set_option maxRecDepth 20000 in
theorem ggX8_digest_X8_tellLane : GoodIn wsX8_digest wsX8_tellLane := goodIn_r _ [63, 14, 64, 65, 66, 10, 67, 3, 13, 68, 69, 70, 71, 72, 73, 74, 75, 76, 77, 78, 79, 80, 81, 82, 83, 15, 16, 17, 18, 19, 12, 20, 21, 22, 23, 24, 25, 26, 27, 28, 29, 30, 31, 32, 33, 34, 35, 36, 37, 38, 84, 85, 86, 87, 88, 89, 90, 91, 92, 93, 94, 95, 156, 157, 158, 159, 160, 161, 162, 163, 164, 165, 166, 167, 168, 169, 170, 171, 172, 173, 174, 175, 176, 177, 178, 179, 180, 181, 182, 183, 184, 185, 186, 187, 188, 189, 190] (by decide +kernel) (by decide +kernel)
set_option maxRecDepth 20000 in
theorem gX8_digest_X8_tellLane : GoodIn wsX8_digest (wsV RX8 222 RX8 yX8_tellLane wsX8_tellLane) := goodIn_app (goodIn_of _ (by decide +kernel)) ggX8_digest_X8_tellLane
set_option maxRecDepth 20000 in
theorem ggX8_digest_X8_lacks : GoodIn wsX8_digest wsX8_lacks := goodIn_r _ [99, 3, 156, 157, 158, 159, 160, 161, 162, 163, 164, 165, 166, 167, 168, 169, 170, 171, 172, 173, 174, 175, 176, 177, 178, 179, 180, 181, 182, 183, 184, 185, 186, 187, 188, 189, 190] (by decide +kernel) (by decide +kernel)
set_option maxRecDepth 20000 in
theorem gX8_digest_X8_lacks : GoodIn wsX8_digest (wsV RX8 156 RX8 yX8_lacks wsX8_lacks) := goodIn_app (goodIn_of _ (by decide +kernel)) ggX8_digest_X8_lacks
set_option maxRecDepth 20000 in
theorem ggX8_digest_X8_sayGreen : GoodIn wsX8_digest wsX8_sayGreen := goodIn_r _ [103, 104, 105, 106, 10, 107, 4, 75, 76, 77, 78, 3, 79, 14, 64, 65, 66, 67, 13, 80, 81, 82, 83, 15, 16, 17, 18, 19, 12, 20, 21, 22, 23, 24, 25, 26, 27, 28, 29, 30, 31, 32, 33, 34, 35, 36, 37, 38, 84, 85, 86, 55, 56, 57, 58, 59, 2, 108, 109, 110, 111, 112, 113, 114, 115, 116, 117, 118, 119, 120, 121, 122, 123, 124, 125, 126, 127, 128, 129, 130, 131, 132, 133, 91, 92, 93, 94, 95, 134, 135, 136, 137, 138, 139, 140, 141, 142, 143, 144, 145, 156, 157, 158, 159, 160, 161, 162, 163, 164, 165, 166, 167, 168, 169, 170, 171, 172, 173, 174, 175, 176, 177, 178, 179, 180, 181, 182, 183, 184, 185, 186, 187, 188, 189, 190] (by decide +kernel) (by decide +kernel)
set_option maxRecDepth 20000 in
theorem gX8_digest_X8_sayGreen : GoodIn wsX8_digest (wsV RX8 285 RX8 yX8_sayGreen wsX8_sayGreen) := goodIn_app (goodIn_of _ (by decide +kernel)) ggX8_digest_X8_sayGreen
set_option maxRecDepth 20000 in
theorem ggX8_digest_X8_countOf : GoodIn wsX8_digest wsX8_countOf := goodIn_r _ [149, 3, 4, 14, 19, 125, 150, 43, 5, 151, 68, 69, 10, 70, 152, 153, 154, 155, 80, 81, 82, 83, 15, 16, 17, 18, 13, 12, 20, 21, 22, 23, 24, 25, 26, 27, 28, 29, 30, 31, 32, 33, 34, 35, 36, 37, 38, 156, 157, 158, 159, 160, 161, 162, 163, 164, 165, 166, 167, 168, 169, 170, 171, 172, 173, 174, 175, 176, 177, 178, 179, 180, 181, 182, 183, 184, 185, 186, 187, 188, 189, 190] (by decide +kernel) (by decide +kernel)
set_option maxRecDepth 20000 in
theorem gX8_digest_X8_countOf : GoodIn wsX8_digest (wsV RX8 270 RX8 yX8_countOf wsX8_countOf) := goodIn_app (goodIn_of _ (by decide +kernel)) ggX8_digest_X8_countOf
theorem dX8_digest_0 : decode cX8_digest 0 = .ok (.aload_n 0, 1) := by decide +kernel
theorem dX8_digest_1 : decode cX8_digest 1 = .ok (.ldc2_w 283, 3) := by decide +kernel
theorem dX8_digest_4 : decode cX8_digest 4 = .ok (.putfield 275, 3) := by decide +kernel
theorem dX8_digest_7 : decode cX8_digest 7 = .ok (.iconst 0, 1) := by decide +kernel
theorem dX8_digest_8 : decode cX8_digest 8 = .ok (.istore_n 1, 1) := by decide +kernel
theorem dX8_digest_9 : decode cX8_digest 9 = .ok (.iload_n 1, 1) := by decide +kernel
theorem dX8_digest_10 : decode cX8_digest 10 = .ok (.aload_n 0, 1) := by decide +kernel
theorem dX8_digest_11 : decode cX8_digest 11 = .ok (.getfield 96, 3) := by decide +kernel
theorem dX8_digest_14 : decode cX8_digest 14 = .ok (.if_icmp .ge 34, 3) := by decide +kernel
theorem dX8_digest_17 : decode cX8_digest 17 = .ok (.iconst 0, 1) := by decide +kernel
theorem dX8_digest_18 : decode cX8_digest 18 = .ok (.istore_n 2, 1) := by decide +kernel
theorem dX8_digest_19 : decode cX8_digest 19 = .ok (.iload_n 2, 1) := by decide +kernel
theorem dX8_digest_20 : decode cX8_digest 20 = .ok (.bipush 6, 2) := by decide +kernel
theorem dX8_digest_22 : decode cX8_digest 22 = .ok (.if_icmp .ge 20, 3) := by decide +kernel
theorem dX8_digest_25 : decode cX8_digest 25 = .ok (.aload_n 0, 1) := by decide +kernel
theorem dX8_digest_26 : decode cX8_digest 26 = .ok (.aload_n 0, 1) := by decide +kernel
theorem dX8_digest_27 : decode cX8_digest 27 = .ok (.iload_n 1, 1) := by decide +kernel
theorem dX8_digest_28 : decode cX8_digest 28 = .ok (.iload_n 2, 1) := by decide +kernel
theorem dX8_digest_29 : decode cX8_digest 29 = .ok (.invokevirtual 205, 3) := by decide +kernel
theorem dX8_digest_32 : decode cX8_digest 32 = .ok (.i2l, 1) := by decide +kernel
theorem dX8_digest_33 : decode cX8_digest 33 = .ok (.invokevirtual 279, 3) := by decide +kernel
theorem dX8_digest_36 : decode cX8_digest 36 = .ok (.iinc 2 1, 3) := by decide +kernel
theorem dX8_digest_39 : decode cX8_digest 39 = .ok (.goto (-20), 3) := by decide +kernel
theorem dX8_digest_42 : decode cX8_digest 42 = .ok (.iinc 1 1, 3) := by decide +kernel
theorem dX8_digest_45 : decode cX8_digest 45 = .ok (.goto (-36), 3) := by decide +kernel
theorem dX8_digest_48 : decode cX8_digest 48 = .ok (.iconst 0, 1) := by decide +kernel
theorem dX8_digest_49 : decode cX8_digest 49 = .ok (.istore_n 1, 1) := by decide +kernel
theorem dX8_digest_50 : decode cX8_digest 50 = .ok (.iload_n 1, 1) := by decide +kernel
theorem dX8_digest_51 : decode cX8_digest 51 = .ok (.aload_n 0, 1) := by decide +kernel
theorem dX8_digest_52 : decode cX8_digest 52 = .ok (.getfield 99, 3) := by decide +kernel
theorem dX8_digest_55 : decode cX8_digest 55 = .ok (.if_icmp .ge 33, 3) := by decide +kernel
theorem dX8_digest_58 : decode cX8_digest 58 = .ok (.iconst 0, 1) := by decide +kernel
theorem dX8_digest_59 : decode cX8_digest 59 = .ok (.istore_n 2, 1) := by decide +kernel
theorem dX8_digest_60 : decode cX8_digest 60 = .ok (.iload_n 2, 1) := by decide +kernel
theorem dX8_digest_61 : decode cX8_digest 61 = .ok (.iconst 5, 1) := by decide +kernel
theorem dX8_digest_62 : decode cX8_digest 62 = .ok (.if_icmp .ge 20, 3) := by decide +kernel
theorem dX8_digest_65 : decode cX8_digest 65 = .ok (.aload_n 0, 1) := by decide +kernel
theorem dX8_digest_66 : decode cX8_digest 66 = .ok (.aload_n 0, 1) := by decide +kernel
theorem dX8_digest_67 : decode cX8_digest 67 = .ok (.iload_n 1, 1) := by decide +kernel
theorem dX8_digest_68 : decode cX8_digest 68 = .ok (.iload_n 2, 1) := by decide +kernel
theorem dX8_digest_69 : decode cX8_digest 69 = .ok (.invokevirtual 222, 3) := by decide +kernel
theorem dX8_digest_72 : decode cX8_digest 72 = .ok (.i2l, 1) := by decide +kernel
theorem dX8_digest_73 : decode cX8_digest 73 = .ok (.invokevirtual 279, 3) := by decide +kernel
theorem dX8_digest_76 : decode cX8_digest 76 = .ok (.iinc 2 1, 3) := by decide +kernel
theorem dX8_digest_79 : decode cX8_digest 79 = .ok (.goto (-19), 3) := by decide +kernel
theorem dX8_digest_82 : decode cX8_digest 82 = .ok (.iinc 1 1, 3) := by decide +kernel
theorem dX8_digest_85 : decode cX8_digest 85 = .ok (.goto (-35), 3) := by decide +kernel
theorem dX8_digest_88 : decode cX8_digest 88 = .ok (.aload_n 0, 1) := by decide +kernel
theorem dX8_digest_89 : decode cX8_digest 89 = .ok (.invokevirtual 156, 3) := by decide +kernel
theorem dX8_digest_92 : decode cX8_digest 92 = .ok (.ifCond .ne 7, 3) := by decide +kernel
theorem dX8_digest_95 : decode cX8_digest 95 = .ok (.aload_n 0, 1) := by decide +kernel
theorem dX8_digest_96 : decode cX8_digest 96 = .ok (.invokevirtual 285, 3) := by decide +kernel
theorem dX8_digest_99 : decode cX8_digest 99 = .ok (.iconst 0, 1) := by decide +kernel
theorem dX8_digest_100 : decode cX8_digest 100 = .ok (.istore_n 1, 1) := by decide +kernel
theorem dX8_digest_101 : decode cX8_digest 101 = .ok (.iload_n 1, 1) := by decide +kernel
theorem dX8_digest_102 : decode cX8_digest 102 = .ok (.aload_n 0, 1) := by decide +kernel
theorem dX8_digest_103 : decode cX8_digest 103 = .ok (.getfield 62, 3) := by decide +kernel
theorem dX8_digest_106 : decode cX8_digest 106 = .ok (.if_icmp .ge 20, 3) := by decide +kernel
theorem dX8_digest_109 : decode cX8_digest 109 = .ok (.aload_n 0, 1) := by decide +kernel
theorem dX8_digest_110 : decode cX8_digest 110 = .ok (.aload_n 0, 1) := by decide +kernel
theorem dX8_digest_111 : decode cX8_digest 111 = .ok (.getfield 7, 3) := by decide +kernel
theorem dX8_digest_114 : decode cX8_digest 114 = .ok (.iload_n 1, 1) := by decide +kernel
theorem dX8_digest_115 : decode cX8_digest 115 = .ok (.iaload, 1) := by decide +kernel
theorem dX8_digest_116 : decode cX8_digest 116 = .ok (.i2l, 1) := by decide +kernel
theorem dX8_digest_117 : decode cX8_digest 117 = .ok (.invokevirtual 279, 3) := by decide +kernel
theorem dX8_digest_120 : decode cX8_digest 120 = .ok (.iinc 1 1, 3) := by decide +kernel
theorem dX8_digest_123 : decode cX8_digest 123 = .ok (.goto (-22), 3) := by decide +kernel
theorem dX8_digest_126 : decode cX8_digest 126 = .ok (.iconst 0, 1) := by decide +kernel
theorem dX8_digest_127 : decode cX8_digest 127 = .ok (.istore_n 1, 1) := by decide +kernel
theorem dX8_digest_128 : decode cX8_digest 128 = .ok (.iload_n 1, 1) := by decide +kernel
theorem dX8_digest_129 : decode cX8_digest 129 = .ok (.bipush 10, 2) := by decide +kernel
theorem dX8_digest_131 : decode cX8_digest 131 = .ok (.if_icmp .ge 19, 3) := by decide +kernel
theorem dX8_digest_134 : decode cX8_digest 134 = .ok (.aload_n 0, 1) := by decide +kernel
theorem dX8_digest_135 : decode cX8_digest 135 = .ok (.aload_n 0, 1) := by decide +kernel
theorem dX8_digest_136 : decode cX8_digest 136 = .ok (.iload_n 1, 1) := by decide +kernel
theorem dX8_digest_137 : decode cX8_digest 137 = .ok (.invokevirtual 270, 3) := by decide +kernel
theorem dX8_digest_140 : decode cX8_digest 140 = .ok (.i2l, 1) := by decide +kernel
theorem dX8_digest_141 : decode cX8_digest 141 = .ok (.invokevirtual 279, 3) := by decide +kernel
theorem dX8_digest_144 : decode cX8_digest 144 = .ok (.iinc 1 1, 3) := by decide +kernel
theorem dX8_digest_147 : decode cX8_digest 147 = .ok (.goto (-19), 3) := by decide +kernel
theorem dX8_digest_150 : decode cX8_digest 150 = .ok (.aload_n 0, 1) := by decide +kernel
theorem dX8_digest_151 : decode cX8_digest 151 = .ok (.getfield 275, 3) := by decide +kernel
theorem dX8_digest_154 : decode cX8_digest 154 = .ok (.lreturn, 1) := by decide +kernel
