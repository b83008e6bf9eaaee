theorem dX1_init_0 : decode cX1_init 0 = .ok (.aload_n 0, 1) := by decide +kernel
theorem dX1_init_1 : decode cX1_init 1 = .ok (.invokespecial 3, 3) := by decide +kernel
theorem dX1_init_4 : decode cX1_init 4 = .ok (.return_, 1) := by decide +kernel
theorem dX1_take_0 : decode cX1_take 0 = .ok (.aload_n 0, 1) := by decide +kernel
theorem dX1_take_1 : decode cX1_take 1 = .ok (.aload_n 1, 1) := by decide +kernel
theorem dX1_take_2 : decode cX1_take 2 = .ok (.getfield 9, 3) := by decide +kernel
theorem dX1_take_5 : decode cX1_take 5 = .ok (.putfield 9, 3) := by decide +kernel
theorem dX1_take_8 : decode cX1_take 8 = .ok (.aload_n 0, 1) := by decide +kernel
theorem dX1_take_9 : decode cX1_take 9 = .ok (.aload_n 1, 1) := by decide +kernel
theorem dX1_take_10 : decode cX1_take 10 = .ok (.getfield 15, 3) := by decide +kernel
theorem dX1_take_13 : decode cX1_take 13 = .ok (.putfield 15, 3) := by decide +kernel
theorem dX1_take_16 : decode cX1_take 16 = .ok (.aload_n 0, 1) := by decide +kernel
theorem dX1_take_17 : decode cX1_take 17 = .ok (.aload_n 1, 1) := by decide +kernel
theorem dX1_take_18 : decode cX1_take 18 = .ok (.getfield 18, 3) := by decide +kernel
theorem dX1_take_21 : decode cX1_take 21 = .ok (.putfield 18, 3) := by decide +kernel
theorem dX1_take_24 : decode cX1_take 24 = .ok (.aload_n 0, 1) := by decide +kernel
theorem dX1_take_25 : decode cX1_take 25 = .ok (.aload_n 1, 1) := by decide +kernel
theorem dX1_take_26 : decode cX1_take 26 = .ok (.getfield 21, 3) := by decide +kernel
theorem dX1_take_29 : decode cX1_take 29 = .ok (.putfield 21, 3) := by decide +kernel
theorem dX1_take_32 : decode cX1_take 32 = .ok (.aload_n 0, 1) := by decide +kernel
theorem dX1_take_33 : decode cX1_take 33 = .ok (.aload_n 1, 1) := by decide +kernel
theorem dX1_take_34 : decode cX1_take 34 = .ok (.getfield 24, 3) := by decide +kernel
theorem dX1_take_37 : decode cX1_take 37 = .ok (.putfield 24, 3) := by decide +kernel
theorem dX1_take_40 : decode cX1_take 40 = .ok (.aload_n 0, 1) := by decide +kernel
theorem dX1_take_41 : decode cX1_take 41 = .ok (.aload_n 1, 1) := by decide +kernel
theorem dX1_take_42 : decode cX1_take 42 = .ok (.getfield 27, 3) := by decide +kernel
theorem dX1_take_45 : decode cX1_take 45 = .ok (.putfield 27, 3) := by decide +kernel
theorem dX1_take_48 : decode cX1_take 48 = .ok (.return_, 1) := by decide +kernel
theorem dX1_yieldsAt_0 : decode cX1_yieldsAt 0 = .ok (.iconst 0, 1) := by decide +kernel
theorem dX1_yieldsAt_1 : decode cX1_yieldsAt 1 = .ok (.aload_n 0, 1) := by decide +kernel
theorem dX1_yieldsAt_2 : decode cX1_yieldsAt 2 = .ok (.getfield 18, 3) := by decide +kernel
theorem dX1_yieldsAt_5 : decode cX1_yieldsAt 5 = .ok (.iload_n 1, 1) := by decide +kernel
theorem dX1_yieldsAt_6 : decode cX1_yieldsAt 6 = .ok (.isub, 1) := by decide +kernel
theorem dX1_yieldsAt_7 : decode cX1_yieldsAt 7 = .ok (.invokestatic 31, 3) := by decide +kernel
theorem dX1_yieldsAt_10 : decode cX1_yieldsAt 10 = .ok (.istore_n 3, 1) := by decide +kernel
theorem dX1_yieldsAt_11 : decode cX1_yieldsAt 11 = .ok (.aload_n 0, 1) := by decide +kernel
theorem dX1_yieldsAt_12 : decode cX1_yieldsAt 12 = .ok (.getfield 9, 3) := by decide +kernel
theorem dX1_yieldsAt_15 : decode cX1_yieldsAt 15 = .ok (.tableswitch 85 2 6 #[33, 39, 35, 71, 50], 33) := by decide +kernel
theorem dX1_yieldsAt_48 : decode cX1_yieldsAt 48 = .ok (.iconst 1, 1) := by decide +kernel
theorem dX1_yieldsAt_49 : decode cX1_yieldsAt 49 = .ok (.ireturn, 1) := by decide +kernel
theorem dX1_yieldsAt_50 : decode cX1_yieldsAt 50 = .ok (.iload_n 3, 1) := by decide +kernel
theorem dX1_yieldsAt_51 : decode cX1_yieldsAt 51 = .ok (.iconst 2, 1) := by decide +kernel
theorem dX1_yieldsAt_52 : decode cX1_yieldsAt 52 = .ok (.idiv, 1) := by decide +kernel
theorem dX1_yieldsAt_53 : decode cX1_yieldsAt 53 = .ok (.ireturn, 1) := by decide +kernel
theorem dX1_yieldsAt_54 : decode cX1_yieldsAt 54 = .ok (.iconst 0, 1) := by decide +kernel
theorem dX1_yieldsAt_55 : decode cX1_yieldsAt 55 = .ok (.iload_n 3, 1) := by decide +kernel
theorem dX1_yieldsAt_56 : decode cX1_yieldsAt 56 = .ok (.aload_n 0, 1) := by decide +kernel
theorem dX1_yieldsAt_57 : decode cX1_yieldsAt 57 = .ok (.getfield 24, 3) := by decide +kernel
theorem dX1_yieldsAt_60 : decode cX1_yieldsAt 60 = .ok (.isub, 1) := by decide +kernel
theorem dX1_yieldsAt_61 : decode cX1_yieldsAt 61 = .ok (.invokestatic 31, 3) := by decide +kernel
theorem dX1_yieldsAt_64 : decode cX1_yieldsAt 64 = .ok (.ireturn, 1) := by decide +kernel
theorem dX1_yieldsAt_65 : decode cX1_yieldsAt 65 = .ok (.iload_n 2, 1) := by decide +kernel
theorem dX1_yieldsAt_66 : decode cX1_yieldsAt 66 = .ok (.bipush 12, 2) := by decide +kernel
theorem dX1_yieldsAt_68 : decode cX1_yieldsAt 68 = .ok (.if_icmp .lt 7, 3) := by decide +kernel
theorem dX1_yieldsAt_71 : decode cX1_yieldsAt 71 = .ok (.iconst 0, 1) := by decide +kernel
theorem dX1_yieldsAt_72 : decode cX1_yieldsAt 72 = .ok (.goto 13, 3) := by decide +kernel
theorem dX1_yieldsAt_75 : decode cX1_yieldsAt 75 = .ok (.iconst 0, 1) := by decide +kernel
theorem dX1_yieldsAt_76 : decode cX1_yieldsAt 76 = .ok (.iload_n 3, 1) := by decide +kernel
theorem dX1_yieldsAt_77 : decode cX1_yieldsAt 77 = .ok (.aload_n 0, 1) := by decide +kernel
theorem dX1_yieldsAt_78 : decode cX1_yieldsAt 78 = .ok (.getfield 24, 3) := by decide +kernel
theorem dX1_yieldsAt_81 : decode cX1_yieldsAt 81 = .ok (.isub, 1) := by decide +kernel
theorem dX1_yieldsAt_82 : decode cX1_yieldsAt 82 = .ok (.invokestatic 31, 3) := by decide +kernel
theorem dX1_yieldsAt_85 : decode cX1_yieldsAt 85 = .ok (.ireturn, 1) := by decide +kernel
theorem dX1_yieldsAt_86 : decode cX1_yieldsAt 86 = .ok (.iload_n 2, 1) := by decide +kernel
theorem dX1_yieldsAt_87 : decode cX1_yieldsAt 87 = .ok (.bipush 9, 2) := by decide +kernel
theorem dX1_yieldsAt_89 : decode cX1_yieldsAt 89 = .ok (.if_icmp .ge 9, 3) := by decide +kernel
theorem dX1_yieldsAt_92 : decode cX1_yieldsAt 92 = .ok (.iload_n 3, 1) := by decide +kernel
theorem dX1_yieldsAt_93 : decode cX1_yieldsAt 93 = .ok (.iconst 3, 1) := by decide +kernel
theorem dX1_yieldsAt_94 : decode cX1_yieldsAt 94 = .ok (.iadd, 1) := by decide +kernel
theorem dX1_yieldsAt_95 : decode cX1_yieldsAt 95 = .ok (.goto 4, 3) := by decide +kernel
theorem dX1_yieldsAt_98 : decode cX1_yieldsAt 98 = .ok (.iload_n 3, 1) := by decide +kernel
theorem dX1_yieldsAt_99 : decode cX1_yieldsAt 99 = .ok (.ireturn, 1) := by decide +kernel
theorem dX1_yieldsAt_100 : decode cX1_yieldsAt 100 = .ok (.iload_n 3, 1) := by decide +kernel
theorem dX1_yieldsAt_101 : decode cX1_yieldsAt 101 = .ok (.ireturn, 1) := by decide +kernel
theorem dX1_needsFor_0 : decode cX1_needsFor 0 = .ok (.aload_n 0, 1) := by decide +kernel
theorem dX1_needsFor_1 : decode cX1_needsFor 1 = .ok (.getfield 9, 3) := by decide +kernel
theorem dX1_needsFor_4 : decode cX1_needsFor 4 = .ok (.tableswitch 56 1 6 #[42, 40, 56, 42, 56, 48], 40) := by decide +kernel
theorem dX1_needsFor_44 : decode cX1_needsFor 44 = .ok (.iconst 0, 1) := by decide +kernel
theorem dX1_needsFor_45 : decode cX1_needsFor 45 = .ok (.ireturn, 1) := by decide +kernel
theorem dX1_needsFor_46 : decode cX1_needsFor 46 = .ok (.iload_n 1, 1) := by decide +kernel
theorem dX1_needsFor_47 : decode cX1_needsFor 47 = .ok (.iconst 1, 1) := by decide +kernel
theorem dX1_needsFor_48 : decode cX1_needsFor 48 = .ok (.iadd, 1) := by decide +kernel
theorem dX1_needsFor_49 : decode cX1_needsFor 49 = .ok (.iconst 2, 1) := by decide +kernel
theorem dX1_needsFor_50 : decode cX1_needsFor 50 = .ok (.idiv, 1) := by decide +kernel
theorem dX1_needsFor_51 : decode cX1_needsFor 51 = .ok (.ireturn, 1) := by decide +kernel
theorem dX1_needsFor_52 : decode cX1_needsFor 52 = .ok (.iload_n 1, 1) := by decide +kernel
theorem dX1_needsFor_53 : decode cX1_needsFor 53 = .ok (.iconst 2, 1) := by decide +kernel
theorem dX1_needsFor_54 : decode cX1_needsFor 54 = .ok (.iadd, 1) := by decide +kernel
theorem dX1_needsFor_55 : decode cX1_needsFor 55 = .ok (.iconst 3, 1) := by decide +kernel
theorem dX1_needsFor_56 : decode cX1_needsFor 56 = .ok (.idiv, 1) := by decide +kernel
theorem dX1_needsFor_57 : decode cX1_needsFor 57 = .ok (.iconst 1, 1) := by decide +kernel
theorem dX1_needsFor_58 : decode cX1_needsFor 58 = .ok (.iadd, 1) := by decide +kernel
theorem dX1_needsFor_59 : decode cX1_needsFor 59 = .ok (.ireturn, 1) := by decide +kernel
theorem dX1_needsFor_60 : decode cX1_needsFor 60 = .ok (.iload_n 1, 1) := by decide +kernel
theorem dX1_needsFor_61 : decode cX1_needsFor 61 = .ok (.iconst 2, 1) := by decide +kernel
theorem dX1_needsFor_62 : decode cX1_needsFor 62 = .ok (.iadd, 1) := by decide +kernel
theorem dX1_needsFor_63 : decode cX1_needsFor 63 = .ok (.iconst 3, 1) := by decide +kernel
theorem dX1_needsFor_64 : decode cX1_needsFor 64 = .ok (.idiv, 1) := by decide +kernel
theorem dX1_needsFor_65 : decode cX1_needsFor 65 = .ok (.ireturn, 1) := by decide +kernel
theorem dX1_isOf_0 : decode cX1_isOf 0 = .ok (.aload_n 0, 1) := by decide +kernel
theorem dX1_isOf_1 : decode cX1_isOf 1 = .ok (.getfield 9, 3) := by decide +kernel
theorem dX1_isOf_4 : decode cX1_isOf 4 = .ok (.istore_n 2, 1) := by decide +kernel
theorem dX1_isOf_5 : decode cX1_isOf 5 = .ok (.iconst 0, 1) := by decide +kernel
theorem dX1_isOf_6 : decode cX1_isOf 6 = .ok (.istore_n 3, 1) := by decide +kernel
theorem dX1_isOf_7 : decode cX1_isOf 7 = .ok (.iload_n 3, 1) := by decide +kernel
theorem dX1_isOf_8 : decode cX1_isOf 8 = .ok (.bipush 6, 2) := by decide +kernel
theorem dX1_isOf_10 : decode cX1_isOf 10 = .ok (.if_icmp .gt 27, 3) := by decide +kernel
theorem dX1_isOf_13 : decode cX1_isOf 13 = .ok (.iload_n 2, 1) := by decide +kernel
theorem dX1_isOf_14 : decode cX1_isOf 14 = .ok (.iconst (-1), 1) := by decide +kernel
theorem dX1_isOf_15 : decode cX1_isOf 15 = .ok (.if_icmp .eq 22, 3) := by decide +kernel
theorem dX1_isOf_18 : decode cX1_isOf 18 = .ok (.iload_n 2, 1) := by decide +kernel
theorem dX1_isOf_19 : decode cX1_isOf 19 = .ok (.iload_n 1, 1) := by decide +kernel
theorem dX1_isOf_20 : decode cX1_isOf 20 = .ok (.if_icmp .ne 5, 3) := by decide +kernel
theorem dX1_isOf_23 : decode cX1_isOf 23 = .ok (.iconst 1, 1) := by decide +kernel
theorem dX1_isOf_24 : decode cX1_isOf 24 = .ok (.ireturn, 1) := by decide +kernel
theorem dX1_isOf_25 : decode cX1_isOf 25 = .ok (.getstatic 37, 3) := by decide +kernel
theorem dX1_isOf_28 : decode cX1_isOf 28 = .ok (.iload_n 2, 1) := by decide +kernel
theorem dX1_isOf_29 : decode cX1_isOf 29 = .ok (.iaload, 1) := by decide +kernel
theorem dX1_isOf_30 : decode cX1_isOf 30 = .ok (.istore_n 2, 1) := by decide +kernel
theorem dX1_isOf_31 : decode cX1_isOf 31 = .ok (.iinc 3 1, 3) := by decide +kernel
theorem dX1_isOf_34 : decode cX1_isOf 34 = .ok (.goto (-27), 3) := by decide +kernel
theorem dX1_isOf_37 : decode cX1_isOf 37 = .ok (.iconst 0, 1) := by decide +kernel
theorem dX1_isOf_38 : decode cX1_isOf 38 = .ok (.ireturn, 1) := by decide +kernel
theorem dX2_init_0 : decode cX2_init 0 = .ok (.aload_n 0, 1) := by decide +kernel
theorem dX2_init_1 : decode cX2_init 1 = .ok (.invokespecial 3, 3) := by decide +kernel
theorem dX2_init_4 : decode cX2_init 4 = .ok (.aload_n 0, 1) := by decide +kernel
theorem dX2_init_5 : decode cX2_init 5 = .ok (.bipush 8, 2) := by decide +kernel
theorem dX2_init_7 : decode cX2_init 7 = .ok (.anewarray 9, 3) := by decide +kernel
theorem dX2_init_10 : decode cX2_init 10 = .ok (.putfield 11, 3) := by decide +kernel
theorem dX2_init_13 : decode cX2_init 13 = .ok (.aload_n 0, 1) := by decide +kernel
theorem dX2_init_14 : decode cX2_init 14 = .ok (.bipush 10, 2) := by decide +kernel
theorem dX2_init_16 : decode cX2_init 16 = .ok (.newarray .int, 2) := by decide +kernel
theorem dX2_init_18 : decode cX2_init 18 = .ok (.putfield 17, 3) := by decide +kernel
theorem dX2_init_21 : decode cX2_init 21 = .ok (.aload_n 0, 1) := by decide +kernel
theorem dX2_init_22 : decode cX2_init 22 = .ok (.iconst 0, 1) := by decide +kernel
theorem dX2_init_23 : decode cX2_init 23 = .ok (.putfield 21, 3) := by decide +kernel
theorem dX2_init_26 : decode cX2_init 26 = .ok (.aload_n 0, 1) := by decide +kernel
theorem dX2_init_27 : decode cX2_init 27 = .ok (.iconst 0, 1) := by decide +kernel
theorem dX2_init_28 : decode cX2_init 28 = .ok (.putfield 25, 3) := by decide +kernel
theorem dX2_init_31 : decode cX2_init 31 = .ok (.aload_n 0, 1) := by decide +kernel
theorem dX2_init_32 : decode cX2_init 32 = .ok (.iconst 0, 1) := by decide +kernel
theorem dX2_init_33 : decode cX2_init 33 = .ok (.putfield 28, 3) := by decide +kernel
theorem dX2_init_36 : decode cX2_init 36 = .ok (.aload_n 0, 1) := by decide +kernel
theorem dX2_init_37 : decode cX2_init 37 = .ok (.iconst 0, 1) := by decide +kernel
theorem dX2_init_38 : decode cX2_init 38 = .ok (.putfield 31, 3) := by decide +kernel
theorem dX2_init_41 : decode cX2_init 41 = .ok (.aload_n 0, 1) := by decide +kernel
theorem dX2_init_42 : decode cX2_init 42 = .ok (.bipush 40, 2) := by decide +kernel
theorem dX2_init_44 : decode cX2_init 44 = .ok (.putfield 34, 3) := by decide +kernel
theorem dX2_init_47 : decode cX2_init 47 = .ok (.aload_n 0, 1) := by decide +kernel
theorem dX2_init_48 : decode cX2_init 48 = .ok (.iconst 5, 1) := by decide +kernel
theorem dX2_init_49 : decode cX2_init 49 = .ok (.putfield 37, 3) := by decide +kernel
theorem dX2_init_52 : decode cX2_init 52 = .ok (.aload_n 0, 1) := by decide +kernel
theorem dX2_init_53 : decode cX2_init 53 = .ok (.iconst 0, 1) := by decide +kernel
theorem dX2_init_54 : decode cX2_init 54 = .ok (.putfield 40, 3) := by decide +kernel
theorem dX2_init_57 : decode cX2_init 57 = .ok (.aload_n 0, 1) := by decide +kernel
theorem dX2_init_58 : decode cX2_init 58 = .ok (.iconst 0, 1) := by decide +kernel
theorem dX2_init_59 : decode cX2_init 59 = .ok (.putfield 43, 3) := by decide +kernel
theorem dX2_init_62 : decode cX2_init 62 = .ok (.aload_n 0, 1) := by decide +kernel
theorem dX2_init_63 : decode cX2_init 63 = .ok (.iconst 0, 1) := by decide +kernel
theorem dX2_init_64 : decode cX2_init 64 = .ok (.putfield 46, 3) := by decide +kernel
theorem dX2_init_67 : decode cX2_init 67 = .ok (.aload_n 0, 1) := by decide +kernel
theorem dX2_init_68 : decode cX2_init 68 = .ok (.iconst 0, 1) := by decide +kernel
theorem dX2_init_69 : decode cX2_init 69 = .ok (.putfield 49, 3) := by decide +kernel
theorem dX2_init_72 : decode cX2_init 72 = .ok (.aload_n 0, 1) := by decide +kernel
theorem dX2_init_73 : decode cX2_init 73 = .ok (.iconst 0, 1) := by decide +kernel
theorem dX2_init_74 : decode cX2_init 74 = .ok (.putfield 52, 3) := by decide +kernel
theorem dX2_init_77 : decode cX2_init 77 = .ok (.aload_n 0, 1) := by decide +kernel
theorem dX2_init_78 : decode cX2_init 78 = .ok (.iconst 1, 1) := by decide +kernel
theorem dX2_init_79 : decode cX2_init 79 = .ok (.putfield 55, 3) := by decide +kernel
theorem dX2_init_82 : decode cX2_init 82 = .ok (.iconst 0, 1) := by decide +kernel
theorem dX2_init_83 : decode cX2_init 83 = .ok (.istore_n 1, 1) := by decide +kernel
theorem dX2_init_84 : decode cX2_init 84 = .ok (.iload_n 1, 1) := by decide +kernel
theorem dX2_init_85 : decode cX2_init 85 = .ok (.bipush 8, 2) := by decide +kernel
theorem dX2_init_87 : decode cX2_init 87 = .ok (.if_icmp .ge 22, 3) := by decide +kernel
theorem dX2_init_90 : decode cX2_init 90 = .ok (.aload_n 0, 1) := by decide +kernel
theorem dX2_init_91 : decode cX2_init 91 = .ok (.getfield 11, 3) := by decide +kernel
theorem dX2_init_94 : decode cX2_init 94 = .ok (.iload_n 1, 1) := by decide +kernel
theorem dX2_init_95 : decode cX2_init 95 = .ok (.new 9, 3) := by decide +kernel
theorem dX2_init_98 : decode cX2_init 98 = .ok (.dup, 1) := by decide +kernel
theorem dX2_init_99 : decode cX2_init 99 = .ok (.invokespecial 58, 3) := by decide +kernel
theorem dX2_init_102 : decode cX2_init 102 = .ok (.aastore, 1) := by decide +kernel
theorem dX2_init_103 : decode cX2_init 103 = .ok (.iinc 1 1, 3) := by decide +kernel
theorem dX2_init_106 : decode cX2_init 106 = .ok (.goto (-22), 3) := by decide +kernel
theorem dX2_init_109 : decode cX2_init 109 = .ok (.iconst 0, 1) := by decide +kernel
theorem dX2_init_110 : decode cX2_init 110 = .ok (.istore_n 1, 1) := by decide +kernel
theorem dX2_init_111 : decode cX2_init 111 = .ok (.iload_n 1, 1) := by decide +kernel
theorem dX2_init_112 : decode cX2_init 112 = .ok (.bipush 10, 2) := by decide +kernel
theorem dX2_init_114 : decode cX2_init 114 = .ok (.if_icmp .ge 16, 3) := by decide +kernel
theorem dX2_init_117 : decode cX2_init 117 = .ok (.aload_n 0, 1) := by decide +kernel
theorem dX2_init_118 : decode cX2_init 118 = .ok (.getfield 17, 3) := by decide +kernel
theorem dX2_init_121 : decode cX2_init 121 = .ok (.iload_n 1, 1) := by decide +kernel
theorem dX2_init_122 : decode cX2_init 122 = .ok (.iconst (-1), 1) := by decide +kernel
theorem dX2_init_123 : decode cX2_init 123 = .ok (.iastore, 1) := by decide +kernel
theorem dX2_init_124 : decode cX2_init 124 = .ok (.iinc 1 1, 3) := by decide +kernel
theorem dX2_init_127 : decode cX2_init 127 = .ok (.goto (-16), 3) := by decide +kernel
theorem dX2_init_130 : decode cX2_init 130 = .ok (.return_, 1) := by decide +kernel
theorem dX2_take_0 : decode cX2_take 0 = .ok (.iconst 0, 1) := by decide +kernel
theorem dX2_take_1 : decode cX2_take 1 = .ok (.istore_n 2, 1) := by decide +kernel
theorem dX2_take_2 : decode cX2_take 2 = .ok (.iload_n 2, 1) := by decide +kernel
theorem dX2_take_3 : decode cX2_take 3 = .ok (.bipush 8, 2) := by decide +kernel
theorem dX2_take_5 : decode cX2_take 5 = .ok (.if_icmp .ge 24, 3) := by decide +kernel
theorem dX2_take_8 : decode cX2_take 8 = .ok (.aload_n 0, 1) := by decide +kernel
theorem dX2_take_9 : decode cX2_take 9 = .ok (.getfield 11, 3) := by decide +kernel
theorem dX2_take_12 : decode cX2_take 12 = .ok (.iload_n 2, 1) := by decide +kernel
theorem dX2_take_13 : decode cX2_take 13 = .ok (.aaload, 1) := by decide +kernel
theorem dX2_take_14 : decode cX2_take 14 = .ok (.aload_n 1, 1) := by decide +kernel
theorem dX2_take_15 : decode cX2_take 15 = .ok (.getfield 11, 3) := by decide +kernel
theorem dX2_take_18 : decode cX2_take 18 = .ok (.iload_n 2, 1) := by decide +kernel
theorem dX2_take_19 : decode cX2_take 19 = .ok (.aaload, 1) := by decide +kernel
theorem dX2_take_20 : decode cX2_take 20 = .ok (.invokevirtual 59, 3) := by decide +kernel
theorem dX2_take_23 : decode cX2_take 23 = .ok (.iinc 2 1, 3) := by decide +kernel
theorem dX2_take_26 : decode cX2_take 26 = .ok (.goto (-24), 3) := by decide +kernel
theorem dX2_take_29 : decode cX2_take 29 = .ok (.aload_n 1, 1) := by decide +kernel
theorem dX2_take_30 : decode cX2_take 30 = .ok (.getfield 17, 3) := by decide +kernel
theorem dX2_take_33 : decode cX2_take 33 = .ok (.iconst 0, 1) := by decide +kernel
theorem dX2_take_34 : decode cX2_take 34 = .ok (.aload_n 0, 1) := by decide +kernel
theorem dX2_take_35 : decode cX2_take 35 = .ok (.getfield 17, 3) := by decide +kernel
theorem dX2_take_38 : decode cX2_take 38 = .ok (.iconst 0, 1) := by decide +kernel
theorem dX2_take_39 : decode cX2_take 39 = .ok (.bipush 10, 2) := by decide +kernel
theorem dX2_take_41 : decode cX2_take 41 = .ok (.invokestatic 63, 3) := by decide +kernel
theorem dX2_take_44 : decode cX2_take 44 = .ok (.aload_n 0, 1) := by decide +kernel
theorem dX2_take_45 : decode cX2_take 45 = .ok (.aload_n 1, 1) := by decide +kernel
theorem dX2_take_46 : decode cX2_take 46 = .ok (.getfield 21, 3) := by decide +kernel
theorem dX2_take_49 : decode cX2_take 49 = .ok (.putfield 21, 3) := by decide +kernel
theorem dX2_take_52 : decode cX2_take 52 = .ok (.aload_n 0, 1) := by decide +kernel
theorem dX2_take_53 : decode cX2_take 53 = .ok (.aload_n 1, 1) := by decide +kernel
theorem dX2_take_54 : decode cX2_take 54 = .ok (.getfield 25, 3) := by decide +kernel
theorem dX2_take_57 : decode cX2_take 57 = .ok (.putfield 25, 3) := by decide +kernel
theorem dX2_take_60 : decode cX2_take 60 = .ok (.aload_n 0, 1) := by decide +kernel
theorem dX2_take_61 : decode cX2_take 61 = .ok (.aload_n 1, 1) := by decide +kernel
theorem dX2_take_62 : decode cX2_take 62 = .ok (.getfield 28, 3) := by decide +kernel
theorem dX2_take_65 : decode cX2_take 65 = .ok (.putfield 28, 3) := by decide +kernel
theorem dX2_take_68 : decode cX2_take 68 = .ok (.aload_n 0, 1) := by decide +kernel
theorem dX2_take_69 : decode cX2_take 69 = .ok (.aload_n 1, 1) := by decide +kernel
theorem dX2_take_70 : decode cX2_take 70 = .ok (.getfield 31, 3) := by decide +kernel
theorem dX2_take_73 : decode cX2_take 73 = .ok (.putfield 31, 3) := by decide +kernel
theorem dX2_take_76 : decode cX2_take 76 = .ok (.aload_n 0, 1) := by decide +kernel
theorem dX2_take_77 : decode cX2_take 77 = .ok (.aload_n 1, 1) := by decide +kernel
theorem dX2_take_78 : decode cX2_take 78 = .ok (.getfield 34, 3) := by decide +kernel
theorem dX2_take_81 : decode cX2_take 81 = .ok (.putfield 34, 3) := by decide +kernel
theorem dX2_take_84 : decode cX2_take 84 = .ok (.aload_n 0, 1) := by decide +kernel
theorem dX2_take_85 : decode cX2_take 85 = .ok (.aload_n 1, 1) := by decide +kernel
theorem dX2_take_86 : decode cX2_take 86 = .ok (.getfield 37, 3) := by decide +kernel
theorem dX2_take_89 : decode cX2_take 89 = .ok (.putfield 37, 3) := by decide +kernel
theorem dX2_take_92 : decode cX2_take 92 = .ok (.aload_n 0, 1) := by decide +kernel
theorem dX2_take_93 : decode cX2_take 93 = .ok (.aload_n 1, 1) := by decide +kernel
theorem dX2_take_94 : decode cX2_take 94 = .ok (.getfield 40, 3) := by decide +kernel
theorem dX2_take_97 : decode cX2_take 97 = .ok (.putfield 40, 3) := by decide +kernel
theorem dX2_take_100 : decode cX2_take 100 = .ok (.aload_n 0, 1) := by decide +kernel
theorem dX2_take_101 : decode cX2_take 101 = .ok (.aload_n 1, 1) := by decide +kernel
theorem dX2_take_102 : decode cX2_take 102 = .ok (.getfield 43, 3) := by decide +kernel
theorem dX2_take_105 : decode cX2_take 105 = .ok (.putfield 43, 3) := by decide +kernel
theorem dX2_take_108 : decode cX2_take 108 = .ok (.aload_n 0, 1) := by decide +kernel
theorem dX2_take_109 : decode cX2_take 109 = .ok (.aload_n 1, 1) := by decide +kernel
theorem dX2_take_110 : decode cX2_take 110 = .ok (.getfield 46, 3) := by decide +kernel
theorem dX2_take_113 : decode cX2_take 113 = .ok (.putfield 46, 3) := by decide +kernel
theorem dX2_take_116 : decode cX2_take 116 = .ok (.aload_n 0, 1) := by decide +kernel
theorem dX2_take_117 : decode cX2_take 117 = .ok (.aload_n 1, 1) := by decide +kernel
theorem dX2_take_118 : decode cX2_take 118 = .ok (.getfield 49, 3) := by decide +kernel
theorem dX2_take_121 : decode cX2_take 121 = .ok (.putfield 49, 3) := by decide +kernel
theorem dX2_take_124 : decode cX2_take 124 = .ok (.aload_n 0, 1) := by decide +kernel
theorem dX2_take_125 : decode cX2_take 125 = .ok (.aload_n 1, 1) := by decide +kernel
theorem dX2_take_126 : decode cX2_take 126 = .ok (.getfield 52, 3) := by decide +kernel
theorem dX2_take_129 : decode cX2_take 129 = .ok (.putfield 52, 3) := by decide +kernel
theorem dX2_take_132 : decode cX2_take 132 = .ok (.aload_n 0, 1) := by decide +kernel
theorem dX2_take_133 : decode cX2_take 133 = .ok (.aload_n 1, 1) := by decide +kernel
theorem dX2_take_134 : decode cX2_take 134 = .ok (.getfield 55, 3) := by decide +kernel
theorem dX2_take_137 : decode cX2_take 137 = .ok (.putfield 55, 3) := by decide +kernel
theorem dX2_take_140 : decode cX2_take 140 = .ok (.return_, 1) := by decide +kernel
theorem dX2_has_0 : decode cX2_has 0 = .ok (.iload_n 1, 1) := by decide +kernel
theorem dX2_has_1 : decode cX2_has 1 = .ok (.ifCond .lt 15, 3) := by decide +kernel
theorem dX2_has_4 : decode cX2_has 4 = .ok (.iload_n 1, 1) := by decide +kernel
theorem dX2_has_5 : decode cX2_has 5 = .ok (.aload_n 0, 1) := by decide +kernel
theorem dX2_has_6 : decode cX2_has 6 = .ok (.getfield 21, 3) := by decide +kernel
theorem dX2_has_9 : decode cX2_has 9 = .ok (.if_icmp .ge 7, 3) := by decide +kernel
theorem dX2_has_12 : decode cX2_has 12 = .ok (.iconst 1, 1) := by decide +kernel
theorem dX2_has_13 : decode cX2_has 13 = .ok (.goto 4, 3) := by decide +kernel
theorem dX2_has_16 : decode cX2_has 16 = .ok (.iconst 0, 1) := by decide +kernel
theorem dX2_has_17 : decode cX2_has 17 = .ok (.ireturn, 1) := by decide +kernel
theorem dX2_isFull_0 : decode cX2_isFull 0 = .ok (.aload_n 0, 1) := by decide +kernel
theorem dX2_isFull_1 : decode cX2_isFull 1 = .ok (.getfield 21, 3) := by decide +kernel
theorem dX2_isFull_4 : decode cX2_isFull 4 = .ok (.bipush 8, 2) := by decide +kernel
theorem dX2_isFull_6 : decode cX2_isFull 6 = .ok (.if_icmp .lt 7, 3) := by decide +kernel
theorem dX2_isFull_9 : decode cX2_isFull 9 = .ok (.iconst 1, 1) := by decide +kernel
theorem dX2_isFull_10 : decode cX2_isFull 10 = .ok (.goto 4, 3) := by decide +kernel
theorem dX2_isFull_13 : decode cX2_isFull 13 = .ok (.iconst 0, 1) := by decide +kernel
theorem dX2_isFull_14 : decode cX2_isFull 14 = .ok (.ireturn, 1) := by decide +kernel
theorem dX2_leastRoom_0 : decode cX2_leastRoom 0 = .ok (.iconst 1, 1) := by decide +kernel
theorem dX2_leastRoom_1 : decode cX2_leastRoom 1 = .ok (.aload_n 0, 1) := by decide +kernel
theorem dX2_leastRoom_2 : decode cX2_leastRoom 2 = .ok (.getfield 28, 3) := by decide +kernel
theorem dX2_leastRoom_5 : decode cX2_leastRoom 5 = .ok (.invokestatic 69, 3) := by decide +kernel
theorem dX2_leastRoom_8 : decode cX2_leastRoom 8 = .ok (.ireturn, 1) := by decide +kernel
theorem dX2_add_0 : decode cX2_add 0 = .ok (.aload_n 0, 1) := by decide +kernel
theorem dX2_add_1 : decode cX2_add 1 = .ok (.getfield 11, 3) := by decide +kernel
theorem dX2_add_4 : decode cX2_add 4 = .ok (.aload_n 0, 1) := by decide +kernel
theorem dX2_add_5 : decode cX2_add 5 = .ok (.getfield 21, 3) := by decide +kernel
theorem dX2_add_8 : decode cX2_add 8 = .ok (.aaload, 1) := by decide +kernel
theorem dX2_add_9 : decode cX2_add 9 = .ok (.astore 5, 2) := by decide +kernel
theorem dX2_add_11 : decode cX2_add 11 = .ok (.aload 5, 2) := by decide +kernel
theorem dX2_add_13 : decode cX2_add 13 = .ok (.iload_n 1, 1) := by decide +kernel
theorem dX2_add_14 : decode cX2_add 14 = .ok (.putfield 75, 3) := by decide +kernel
theorem dX2_add_17 : decode cX2_add 17 = .ok (.aload 5, 2) := by decide +kernel
theorem dX2_add_19 : decode cX2_add 19 = .ok (.iload_n 2, 1) := by decide +kernel
theorem dX2_add_20 : decode cX2_add 20 = .ok (.putfield 78, 3) := by decide +kernel
theorem dX2_add_23 : decode cX2_add 23 = .ok (.aload 5, 2) := by decide +kernel
theorem dX2_add_25 : decode cX2_add 25 = .ok (.iload_n 3, 1) := by decide +kernel
theorem dX2_add_26 : decode cX2_add 26 = .ok (.putfield 81, 3) := by decide +kernel
theorem dX2_add_29 : decode cX2_add 29 = .ok (.aload 5, 2) := by decide +kernel
theorem dX2_add_31 : decode cX2_add 31 = .ok (.iload 4, 2) := by decide +kernel
theorem dX2_add_33 : decode cX2_add 33 = .ok (.putfield 84, 3) := by decide +kernel
theorem dX2_add_36 : decode cX2_add 36 = .ok (.aload 5, 2) := by decide +kernel
theorem dX2_add_38 : decode cX2_add 38 = .ok (.iconst 0, 1) := by decide +kernel
theorem dX2_add_39 : decode cX2_add 39 = .ok (.putfield 87, 3) := by decide +kernel
theorem dX2_add_42 : decode cX2_add 42 = .ok (.aload 5, 2) := by decide +kernel
theorem dX2_add_44 : decode cX2_add 44 = .ok (.iconst 0, 1) := by decide +kernel
theorem dX2_add_45 : decode cX2_add 45 = .ok (.putfield 90, 3) := by decide +kernel
theorem dX2_add_48 : decode cX2_add 48 = .ok (.aload_n 0, 1) := by decide +kernel
theorem dX2_add_49 : decode cX2_add 49 = .ok (.dup, 1) := by decide +kernel
theorem dX2_add_50 : decode cX2_add 50 = .ok (.getfield 21, 3) := by decide +kernel
theorem dX2_add_53 : decode cX2_add 53 = .ok (.iconst 1, 1) := by decide +kernel
theorem dX2_add_54 : decode cX2_add 54 = .ok (.iadd, 1) := by decide +kernel
theorem dX2_add_55 : decode cX2_add 55 = .ok (.putfield 21, 3) := by decide +kernel
theorem dX2_add_58 : decode cX2_add 58 = .ok (.return_, 1) := by decide +kernel
theorem dX2_yieldOf_0 : decode cX2_yieldOf 0 = .ok (.aload_n 0, 1) := by decide +kernel
theorem dX2_yieldOf_1 : decode cX2_yieldOf 1 = .ok (.getfield 11, 3) := by decide +kernel
theorem dX2_yieldOf_4 : decode cX2_yieldOf 4 = .ok (.iload_n 1, 1) := by decide +kernel
theorem dX2_yieldOf_5 : decode cX2_yieldOf 5 = .ok (.aaload, 1) := by decide +kernel
theorem dX2_yieldOf_6 : decode cX2_yieldOf 6 = .ok (.aload_n 0, 1) := by decide +kernel
theorem dX2_yieldOf_7 : decode cX2_yieldOf 7 = .ok (.getfield 40, 3) := by decide +kernel
theorem dX2_yieldOf_10 : decode cX2_yieldOf 10 = .ok (.aload_n 0, 1) := by decide +kernel
theorem dX2_yieldOf_11 : decode cX2_yieldOf 11 = .ok (.getfield 43, 3) := by decide +kernel
theorem dX2_yieldOf_14 : decode cX2_yieldOf 14 = .ok (.invokevirtual 94, 3) := by decide +kernel
theorem dX2_yieldOf_17 : decode cX2_yieldOf 17 = .ok (.ireturn, 1) := by decide +kernel
theorem dX2_needOf_0 : decode cX2_needOf 0 = .ok (.aload_n 0, 1) := by decide +kernel
theorem dX2_needOf_1 : decode cX2_needOf 1 = .ok (.getfield 11, 3) := by decide +kernel
theorem dX2_needOf_4 : decode cX2_needOf 4 = .ok (.iload_n 1, 1) := by decide +kernel
theorem dX2_needOf_5 : decode cX2_needOf 5 = .ok (.aaload, 1) := by decide +kernel
theorem dX2_needOf_6 : decode cX2_needOf 6 = .ok (.aload_n 0, 1) := by decide +kernel
theorem dX2_needOf_7 : decode cX2_needOf 7 = .ok (.iload_n 1, 1) := by decide +kernel
theorem dX2_needOf_8 : decode cX2_needOf 8 = .ok (.invokevirtual 97, 3) := by decide +kernel
theorem dX2_needOf_11 : decode cX2_needOf 11 = .ok (.invokevirtual 101, 3) := by decide +kernel
theorem dX2_needOf_14 : decode cX2_needOf 14 = .ok (.ireturn, 1) := by decide +kernel
theorem dX2_canRun_0 : decode cX2_canRun 0 = .ok (.aload_n 0, 1) := by decide +kernel
theorem dX2_canRun_1 : decode cX2_canRun 1 = .ok (.getfield 11, 3) := by decide +kernel
theorem dX2_canRun_4 : decode cX2_canRun 4 = .ok (.iload_n 1, 1) := by decide +kernel
theorem dX2_canRun_5 : decode cX2_canRun 5 = .ok (.aaload, 1) := by decide +kernel
theorem dX2_canRun_6 : decode cX2_canRun 6 = .ok (.getfield 90, 3) := by decide +kernel
theorem dX2_canRun_9 : decode cX2_canRun 9 = .ok (.ifCond .ne 27, 3) := by decide +kernel
theorem dX2_canRun_12 : decode cX2_canRun 12 = .ok (.aload_n 0, 1) := by decide +kernel
theorem dX2_canRun_13 : decode cX2_canRun 13 = .ok (.iload_n 1, 1) := by decide +kernel
theorem dX2_canRun_14 : decode cX2_canRun 14 = .ok (.invokevirtual 97, 3) := by decide +kernel
theorem dX2_canRun_17 : decode cX2_canRun 17 = .ok (.ifCond .le 19, 3) := by decide +kernel
theorem dX2_canRun_20 : decode cX2_canRun 20 = .ok (.aload_n 0, 1) := by decide +kernel
theorem dX2_canRun_21 : decode cX2_canRun 21 = .ok (.getfield 28, 3) := by decide +kernel
theorem dX2_canRun_24 : decode cX2_canRun 24 = .ok (.aload_n 0, 1) := by decide +kernel
theorem dX2_canRun_25 : decode cX2_canRun 25 = .ok (.iload_n 1, 1) := by decide +kernel
theorem dX2_canRun_26 : decode cX2_canRun 26 = .ok (.invokevirtual 104, 3) := by decide +kernel
theorem dX2_canRun_29 : decode cX2_canRun 29 = .ok (.if_icmp .lt 7, 3) := by decide +kernel
theorem dX2_canRun_32 : decode cX2_canRun 32 = .ok (.iconst 1, 1) := by decide +kernel
theorem dX2_canRun_33 : decode cX2_canRun 33 = .ok (.goto 4, 3) := by decide +kernel
theorem dX2_canRun_36 : decode cX2_canRun 36 = .ok (.iconst 0, 1) := by decide +kernel
theorem dX2_canRun_37 : decode cX2_canRun 37 = .ok (.ireturn, 1) := by decide +kernel
theorem dX2_draw_0 : decode cX2_draw 0 = .ok (.aload_n 0, 1) := by decide +kernel
theorem dX2_draw_1 : decode cX2_draw 1 = .ok (.aload_n 0, 1) := by decide +kernel
theorem dX2_draw_2 : decode cX2_draw 2 = .ok (.getfield 55, 3) := by decide +kernel
theorem dX2_draw_5 : decode cX2_draw 5 = .ok (.ldc 107, 2) := by decide +kernel
theorem dX2_draw_7 : decode cX2_draw 7 = .ok (.imul, 1) := by decide +kernel
theorem dX2_draw_8 : decode cX2_draw 8 = .ok (.sipush 12345, 3) := by decide +kernel
theorem dX2_draw_11 : decode cX2_draw 11 = .ok (.iadd, 1) := by decide +kernel
theorem dX2_draw_12 : decode cX2_draw 12 = .ok (.putfield 55, 3) := by decide +kernel
theorem dX2_draw_15 : decode cX2_draw 15 = .ok (.aload_n 0, 1) := by decide +kernel
theorem dX2_draw_16 : decode cX2_draw 16 = .ok (.getfield 55, 3) := by decide +kernel
theorem dX2_draw_19 : decode cX2_draw 19 = .ok (.bipush 8, 2) := by decide +kernel
theorem dX2_draw_21 : decode cX2_draw 21 = .ok (.iushr, 1) := by decide +kernel
theorem dX2_draw_22 : decode cX2_draw 22 = .ok (.ireturn, 1) := by decide +kernel
theorem dX2_carryTo_0 : decode cX2_carryTo 0 = .ok (.aload_n 0, 1) := by decide +kernel
theorem dX2_carryTo_1 : decode cX2_carryTo 1 = .ok (.getfield 28, 3) := by decide +kernel
theorem dX2_carryTo_4 : decode cX2_carryTo 4 = .ok (.aload_n 0, 1) := by decide +kernel
theorem dX2_carryTo_5 : decode cX2_carryTo 5 = .ok (.getfield 25, 3) := by decide +kernel
theorem dX2_carryTo_8 : decode cX2_carryTo 8 = .ok (.iload_n 1, 1) := by decide +kernel
theorem dX2_carryTo_9 : decode cX2_carryTo 9 = .ok (.aload_n 0, 1) := by decide +kernel
theorem dX2_carryTo_10 : decode cX2_carryTo 10 = .ok (.getfield 37, 3) := by decide +kernel
theorem dX2_carryTo_13 : decode cX2_carryTo 13 = .ok (.invokestatic 108, 3) := by decide +kernel
theorem dX2_carryTo_16 : decode cX2_carryTo 16 = .ok (.invokestatic 112, 3) := by decide +kernel
theorem dX2_carryTo_19 : decode cX2_carryTo 19 = .ok (.istore_n 2, 1) := by decide +kernel
theorem dX2_carryTo_20 : decode cX2_carryTo 20 = .ok (.aload_n 0, 1) := by decide +kernel
theorem dX2_carryTo_21 : decode cX2_carryTo 21 = .ok (.dup, 1) := by decide +kernel
theorem dX2_carryTo_22 : decode cX2_carryTo 22 = .ok (.getfield 28, 3) := by decide +kernel
theorem dX2_carryTo_25 : decode cX2_carryTo 25 = .ok (.iload_n 2, 1) := by decide +kernel
theorem dX2_carryTo_26 : decode cX2_carryTo 26 = .ok (.isub, 1) := by decide +kernel
theorem dX2_carryTo_27 : decode cX2_carryTo 27 = .ok (.putfield 28, 3) := by decide +kernel
theorem dX2_carryTo_30 : decode cX2_carryTo 30 = .ok (.aload_n 0, 1) := by decide +kernel
theorem dX2_carryTo_31 : decode cX2_carryTo 31 = .ok (.dup, 1) := by decide +kernel
theorem dX2_carryTo_32 : decode cX2_carryTo 32 = .ok (.getfield 49, 3) := by decide +kernel
theorem dX2_carryTo_35 : decode cX2_carryTo 35 = .ok (.iload_n 2, 1) := by decide +kernel
theorem dX2_carryTo_36 : decode cX2_carryTo 36 = .ok (.iadd, 1) := by decide +kernel
theorem dX2_carryTo_37 : decode cX2_carryTo 37 = .ok (.putfield 49, 3) := by decide +kernel
theorem dX2_carryTo_40 : decode cX2_carryTo 40 = .ok (.aload_n 0, 1) := by decide +kernel
theorem dX2_carryTo_41 : decode cX2_carryTo 41 = .ok (.iload_n 1, 1) := by decide +kernel
theorem dX2_carryTo_42 : decode cX2_carryTo 42 = .ok (.putfield 25, 3) := by decide +kernel
theorem dX2_carryTo_45 : decode cX2_carryTo 45 = .ok (.return_, 1) := by decide +kernel
theorem dX2_beginDay_0 : decode cX2_beginDay 0 = .ok (.aload_n 0, 1) := by decide +kernel
theorem dX2_beginDay_1 : decode cX2_beginDay 1 = .ok (.dup, 1) := by decide +kernel
theorem dX2_beginDay_2 : decode cX2_beginDay 2 = .ok (.getfield 46, 3) := by decide +kernel
theorem dX2_beginDay_5 : decode cX2_beginDay 5 = .ok (.iconst 1, 1) := by decide +kernel
theorem dX2_beginDay_6 : decode cX2_beginDay 6 = .ok (.iadd, 1) := by decide +kernel
theorem dX2_beginDay_7 : decode cX2_beginDay 7 = .ok (.putfield 46, 3) := by decide +kernel
theorem dX2_beginDay_10 : decode cX2_beginDay 10 = .ok (.aload_n 0, 1) := by decide +kernel
theorem dX2_beginDay_11 : decode cX2_beginDay 11 = .ok (.iload_n 1, 1) := by decide +kernel
theorem dX2_beginDay_12 : decode cX2_beginDay 12 = .ok (.putfield 43, 3) := by decide +kernel
theorem dX2_beginDay_15 : decode cX2_beginDay 15 = .ok (.iconst 0, 1) := by decide +kernel
theorem dX2_beginDay_16 : decode cX2_beginDay 16 = .ok (.istore_n 2, 1) := by decide +kernel
theorem dX2_beginDay_17 : decode cX2_beginDay 17 = .ok (.iload_n 2, 1) := by decide +kernel
theorem dX2_beginDay_18 : decode cX2_beginDay 18 = .ok (.aload_n 0, 1) := by decide +kernel
theorem dX2_beginDay_19 : decode cX2_beginDay 19 = .ok (.getfield 21, 3) := by decide +kernel
theorem dX2_beginDay_22 : decode cX2_beginDay 22 = .ok (.if_icmp .ge 19, 3) := by decide +kernel
theorem dX2_beginDay_25 : decode cX2_beginDay 25 = .ok (.aload_n 0, 1) := by decide +kernel
theorem dX2_beginDay_26 : decode cX2_beginDay 26 = .ok (.getfield 11, 3) := by decide +kernel
theorem dX2_beginDay_29 : decode cX2_beginDay 29 = .ok (.iload_n 2, 1) := by decide +kernel
theorem dX2_beginDay_30 : decode cX2_beginDay 30 = .ok (.aaload, 1) := by decide +kernel
theorem dX2_beginDay_31 : decode cX2_beginDay 31 = .ok (.iconst 0, 1) := by decide +kernel
theorem dX2_beginDay_32 : decode cX2_beginDay 32 = .ok (.putfield 90, 3) := by decide +kernel
theorem dX2_beginDay_35 : decode cX2_beginDay 35 = .ok (.iinc 2 1, 3) := by decide +kernel
theorem dX2_beginDay_38 : decode cX2_beginDay 38 = .ok (.goto (-21), 3) := by decide +kernel
theorem dX2_beginDay_41 : decode cX2_beginDay 41 = .ok (.return_, 1) := by decide +kernel
theorem dX2_tryPump_0 : decode cX2_tryPump 0 = .ok (.aload_n 0, 1) := by decide +kernel
theorem dX2_tryPump_1 : decode cX2_tryPump 1 = .ok (.getfield 11, 3) := by decide +kernel
theorem dX2_tryPump_4 : decode cX2_tryPump 4 = .ok (.iload_n 1, 1) := by decide +kernel
theorem dX2_tryPump_5 : decode cX2_tryPump 5 = .ok (.aaload, 1) := by decide +kernel
theorem dX2_tryPump_6 : decode cX2_tryPump 6 = .ok (.astore_n 2, 1) := by decide +kernel
theorem dX2_tryPump_7 : decode cX2_tryPump 7 = .ok (.aload_n 0, 1) := by decide +kernel
theorem dX2_tryPump_8 : decode cX2_tryPump 8 = .ok (.iload_n 1, 1) := by decide +kernel
theorem dX2_tryPump_9 : decode cX2_tryPump 9 = .ok (.invokevirtual 97, 3) := by decide +kernel
theorem dX2_tryPump_12 : decode cX2_tryPump 12 = .ok (.istore_n 3, 1) := by decide +kernel
theorem dX2_tryPump_13 : decode cX2_tryPump 13 = .ok (.aload_n 0, 1) := by decide +kernel
theorem dX2_tryPump_14 : decode cX2_tryPump 14 = .ok (.dup, 1) := by decide +kernel
theorem dX2_tryPump_15 : decode cX2_tryPump 15 = .ok (.getfield 28, 3) := by decide +kernel
theorem dX2_tryPump_18 : decode cX2_tryPump 18 = .ok (.aload_n 0, 1) := by decide +kernel
theorem dX2_tryPump_19 : decode cX2_tryPump 19 = .ok (.iload_n 1, 1) := by decide +kernel
theorem dX2_tryPump_20 : decode cX2_tryPump 20 = .ok (.invokevirtual 104, 3) := by decide +kernel
theorem dX2_tryPump_23 : decode cX2_tryPump 23 = .ok (.isub, 1) := by decide +kernel
theorem dX2_tryPump_24 : decode cX2_tryPump 24 = .ok (.putfield 28, 3) := by decide +kernel
theorem dX2_tryPump_27 : decode cX2_tryPump 27 = .ok (.aload_n 2, 1) := by decide +kernel
theorem dX2_tryPump_28 : decode cX2_tryPump 28 = .ok (.getfield 84, 3) := by decide +kernel
theorem dX2_tryPump_31 : decode cX2_tryPump 31 = .ok (.ifCond .le 18, 3) := by decide +kernel
theorem dX2_tryPump_34 : decode cX2_tryPump 34 = .ok (.aload_n 0, 1) := by decide +kernel
theorem dX2_tryPump_35 : decode cX2_tryPump 35 = .ok (.invokevirtual 115, 3) := by decide +kernel
theorem dX2_tryPump_38 : decode cX2_tryPump 38 = .ok (.bipush 12, 2) := by decide +kernel
theorem dX2_tryPump_40 : decode cX2_tryPump 40 = .ok (.irem, 1) := by decide +kernel
theorem dX2_tryPump_41 : decode cX2_tryPump 41 = .ok (.aload_n 2, 1) := by decide +kernel
theorem dX2_tryPump_42 : decode cX2_tryPump 42 = .ok (.getfield 84, 3) := by decide +kernel
theorem dX2_tryPump_45 : decode cX2_tryPump 45 = .ok (.if_icmp .ge 4, 3) := by decide +kernel
theorem dX2_tryPump_48 : decode cX2_tryPump 48 = .ok (.return_, 1) := by decide +kernel
theorem dX2_tryPump_49 : decode cX2_tryPump 49 = .ok (.iconst 0, 1) := by decide +kernel
theorem dX2_tryPump_50 : decode cX2_tryPump 50 = .ok (.aload_n 0, 1) := by decide +kernel
theorem dX2_tryPump_51 : decode cX2_tryPump 51 = .ok (.getfield 28, 3) := by decide +kernel
theorem dX2_tryPump_54 : decode cX2_tryPump 54 = .ok (.iload_n 3, 1) := by decide +kernel
theorem dX2_tryPump_55 : decode cX2_tryPump 55 = .ok (.iadd, 1) := by decide +kernel
theorem dX2_tryPump_56 : decode cX2_tryPump 56 = .ok (.aload_n 0, 1) := by decide +kernel
theorem dX2_tryPump_57 : decode cX2_tryPump 57 = .ok (.getfield 34, 3) := by decide +kernel
theorem dX2_tryPump_60 : decode cX2_tryPump 60 = .ok (.isub, 1) := by decide +kernel
theorem dX2_tryPump_61 : decode cX2_tryPump 61 = .ok (.invokestatic 69, 3) := by decide +kernel
theorem dX2_tryPump_64 : decode cX2_tryPump 64 = .ok (.istore 4, 2) := by decide +kernel
theorem dX2_tryPump_66 : decode cX2_tryPump 66 = .ok (.aload_n 0, 1) := by decide +kernel
theorem dX2_tryPump_67 : decode cX2_tryPump 67 = .ok (.dup, 1) := by decide +kernel
theorem dX2_tryPump_68 : decode cX2_tryPump 68 = .ok (.getfield 28, 3) := by decide +kernel
theorem dX2_tryPump_71 : decode cX2_tryPump 71 = .ok (.iload_n 3, 1) := by decide +kernel
theorem dX2_tryPump_72 : decode cX2_tryPump 72 = .ok (.iload 4, 2) := by decide +kernel
theorem dX2_tryPump_74 : decode cX2_tryPump 74 = .ok (.isub, 1) := by decide +kernel
theorem dX2_tryPump_75 : decode cX2_tryPump 75 = .ok (.iadd, 1) := by decide +kernel
theorem dX2_tryPump_76 : decode cX2_tryPump 76 = .ok (.putfield 28, 3) := by decide +kernel
theorem dX2_tryPump_79 : decode cX2_tryPump 79 = .ok (.aload_n 0, 1) := by decide +kernel
theorem dX2_tryPump_80 : decode cX2_tryPump 80 = .ok (.dup, 1) := by decide +kernel
theorem dX2_tryPump_81 : decode cX2_tryPump 81 = .ok (.getfield 52, 3) := by decide +kernel
theorem dX2_tryPump_84 : decode cX2_tryPump 84 = .ok (.iload 4, 2) := by decide +kernel
theorem dX2_tryPump_86 : decode cX2_tryPump 86 = .ok (.iadd, 1) := by decide +kernel
theorem dX2_tryPump_87 : decode cX2_tryPump 87 = .ok (.putfield 52, 3) := by decide +kernel
theorem dX2_tryPump_90 : decode cX2_tryPump 90 = .ok (.aload_n 2, 1) := by decide +kernel
theorem dX2_tryPump_91 : decode cX2_tryPump 91 = .ok (.dup, 1) := by decide +kernel
theorem dX2_tryPump_92 : decode cX2_tryPump 92 = .ok (.getfield 87, 3) := by decide +kernel
theorem dX2_tryPump_95 : decode cX2_tryPump 95 = .ok (.iconst 1, 1) := by decide +kernel
theorem dX2_tryPump_96 : decode cX2_tryPump 96 = .ok (.iadd, 1) := by decide +kernel
theorem dX2_tryPump_97 : decode cX2_tryPump 97 = .ok (.putfield 87, 3) := by decide +kernel
theorem dX2_tryPump_100 : decode cX2_tryPump 100 = .ok (.aload_n 2, 1) := by decide +kernel
theorem dX2_tryPump_101 : decode cX2_tryPump 101 = .ok (.iconst 1, 1) := by decide +kernel
theorem dX2_tryPump_102 : decode cX2_tryPump 102 = .ok (.putfield 90, 3) := by decide +kernel
theorem dX2_tryPump_105 : decode cX2_tryPump 105 = .ok (.return_, 1) := by decide +kernel
theorem dX2_sumOf_0 : decode cX2_sumOf 0 = .ok (.iconst 0, 1) := by decide +kernel
theorem dX2_sumOf_1 : decode cX2_sumOf 1 = .ok (.istore_n 2, 1) := by decide +kernel
theorem dX2_sumOf_2 : decode cX2_sumOf 2 = .ok (.iconst 0, 1) := by decide +kernel
theorem dX2_sumOf_3 : decode cX2_sumOf 3 = .ok (.istore_n 3, 1) := by decide +kernel
theorem dX2_sumOf_4 : decode cX2_sumOf 4 = .ok (.iload_n 3, 1) := by decide +kernel
theorem dX2_sumOf_5 : decode cX2_sumOf 5 = .ok (.aload_n 0, 1) := by decide +kernel
theorem dX2_sumOf_6 : decode cX2_sumOf 6 = .ok (.getfield 21, 3) := by decide +kernel
theorem dX2_sumOf_9 : decode cX2_sumOf 9 = .ok (.if_icmp .ge 94, 3) := by decide +kernel
theorem dX2_sumOf_12 : decode cX2_sumOf 12 = .ok (.iload_n 1, 1) := by decide +kernel
theorem dX2_sumOf_13 : decode cX2_sumOf 13 = .ok (.tableswitch 76 1 3 #[27, 50, 65], 27) := by decide +kernel
theorem dX2_sumOf_40 : decode cX2_sumOf 40 = .ok (.iload_n 2, 1) := by decide +kernel
theorem dX2_sumOf_41 : decode cX2_sumOf 41 = .ok (.aload_n 0, 1) := by decide +kernel
theorem dX2_sumOf_42 : decode cX2_sumOf 42 = .ok (.getfield 11, 3) := by decide +kernel
theorem dX2_sumOf_45 : decode cX2_sumOf 45 = .ok (.iload_n 3, 1) := by decide +kernel
theorem dX2_sumOf_46 : decode cX2_sumOf 46 = .ok (.aaload, 1) := by decide +kernel
theorem dX2_sumOf_47 : decode cX2_sumOf 47 = .ok (.getfield 90, 3) := by decide +kernel
theorem dX2_sumOf_50 : decode cX2_sumOf 50 = .ok (.ifCond .eq 7, 3) := by decide +kernel
theorem dX2_sumOf_53 : decode cX2_sumOf 53 = .ok (.iconst 1, 1) := by decide +kernel
theorem dX2_sumOf_54 : decode cX2_sumOf 54 = .ok (.goto 4, 3) := by decide +kernel
theorem dX2_sumOf_57 : decode cX2_sumOf 57 = .ok (.iconst 0, 1) := by decide +kernel
theorem dX2_sumOf_58 : decode cX2_sumOf 58 = .ok (.iadd, 1) := by decide +kernel
theorem dX2_sumOf_59 : decode cX2_sumOf 59 = .ok (.istore_n 2, 1) := by decide +kernel
theorem dX2_sumOf_60 : decode cX2_sumOf 60 = .ok (.goto 37, 3) := by decide +kernel
theorem dX2_sumOf_63 : decode cX2_sumOf 63 = .ok (.iload_n 2, 1) := by decide +kernel
theorem dX2_sumOf_64 : decode cX2_sumOf 64 = .ok (.aload_n 0, 1) := by decide +kernel
theorem dX2_sumOf_65 : decode cX2_sumOf 65 = .ok (.getfield 11, 3) := by decide +kernel
theorem dX2_sumOf_68 : decode cX2_sumOf 68 = .ok (.iload_n 3, 1) := by decide +kernel
theorem dX2_sumOf_69 : decode cX2_sumOf 69 = .ok (.aaload, 1) := by decide +kernel
theorem dX2_sumOf_70 : decode cX2_sumOf 70 = .ok (.getfield 87, 3) := by decide +kernel
theorem dX2_sumOf_73 : decode cX2_sumOf 73 = .ok (.iadd, 1) := by decide +kernel
theorem dX2_sumOf_74 : decode cX2_sumOf 74 = .ok (.istore_n 2, 1) := by decide +kernel
theorem dX2_sumOf_75 : decode cX2_sumOf 75 = .ok (.goto 22, 3) := by decide +kernel
theorem dX2_sumOf_78 : decode cX2_sumOf 78 = .ok (.iload_n 2, 1) := by decide +kernel
theorem dX2_sumOf_79 : decode cX2_sumOf 79 = .ok (.aload_n 0, 1) := by decide +kernel
theorem dX2_sumOf_80 : decode cX2_sumOf 80 = .ok (.iload_n 3, 1) := by decide +kernel
theorem dX2_sumOf_81 : decode cX2_sumOf 81 = .ok (.invokevirtual 97, 3) := by decide +kernel
theorem dX2_sumOf_84 : decode cX2_sumOf 84 = .ok (.iadd, 1) := by decide +kernel
theorem dX2_sumOf_85 : decode cX2_sumOf 85 = .ok (.istore_n 2, 1) := by decide +kernel
theorem dX2_sumOf_86 : decode cX2_sumOf 86 = .ok (.goto 11, 3) := by decide +kernel
theorem dX2_sumOf_89 : decode cX2_sumOf 89 = .ok (.iload_n 2, 1) := by decide +kernel
theorem dX2_sumOf_90 : decode cX2_sumOf 90 = .ok (.aload_n 0, 1) := by decide +kernel
theorem dX2_sumOf_91 : decode cX2_sumOf 91 = .ok (.iload_n 3, 1) := by decide +kernel
theorem dX2_sumOf_92 : decode cX2_sumOf 92 = .ok (.invokevirtual 104, 3) := by decide +kernel
theorem dX2_sumOf_95 : decode cX2_sumOf 95 = .ok (.iadd, 1) := by decide +kernel
theorem dX2_sumOf_96 : decode cX2_sumOf 96 = .ok (.istore_n 2, 1) := by decide +kernel
theorem dX2_sumOf_97 : decode cX2_sumOf 97 = .ok (.iinc 3 1, 3) := by decide +kernel
theorem dX2_sumOf_100 : decode cX2_sumOf 100 = .ok (.goto (-96), 3) := by decide +kernel
theorem dX2_sumOf_103 : decode cX2_sumOf 103 = .ok (.iload_n 2, 1) := by decide +kernel
theorem dX2_sumOf_104 : decode cX2_sumOf 104 = .ok (.ireturn, 1) := by decide +kernel
theorem dX2_heldSpots_0 : decode cX2_heldSpots 0 = .ok (.iconst 0, 1) := by decide +kernel
theorem dX2_heldSpots_1 : decode cX2_heldSpots 1 = .ok (.istore_n 1, 1) := by decide +kernel
theorem dX2_heldSpots_2 : decode cX2_heldSpots 2 = .ok (.iconst 0, 1) := by decide +kernel
theorem dX2_heldSpots_3 : decode cX2_heldSpots 3 = .ok (.istore_n 2, 1) := by decide +kernel
theorem dX2_heldSpots_4 : decode cX2_heldSpots 4 = .ok (.iload_n 2, 1) := by decide +kernel
theorem dX2_heldSpots_5 : decode cX2_heldSpots 5 = .ok (.bipush 10, 2) := by decide +kernel
theorem dX2_heldSpots_7 : decode cX2_heldSpots 7 = .ok (.if_icmp .ge 22, 3) := by decide +kernel
theorem dX2_heldSpots_10 : decode cX2_heldSpots 10 = .ok (.aload_n 0, 1) := by decide +kernel
theorem dX2_heldSpots_11 : decode cX2_heldSpots 11 = .ok (.getfield 17, 3) := by decide +kernel
theorem dX2_heldSpots_14 : decode cX2_heldSpots 14 = .ok (.iload_n 2, 1) := by decide +kernel
theorem dX2_heldSpots_15 : decode cX2_heldSpots 15 = .ok (.iaload, 1) := by decide +kernel
theorem dX2_heldSpots_16 : decode cX2_heldSpots 16 = .ok (.iconst (-1), 1) := by decide +kernel
theorem dX2_heldSpots_17 : decode cX2_heldSpots 17 = .ok (.if_icmp .eq 6, 3) := by decide +kernel
theorem dX2_heldSpots_20 : decode cX2_heldSpots 20 = .ok (.iinc 1 1, 3) := by decide +kernel
theorem dX2_heldSpots_23 : decode cX2_heldSpots 23 = .ok (.iinc 2 1, 3) := by decide +kernel
theorem dX2_heldSpots_26 : decode cX2_heldSpots 26 = .ok (.goto (-22), 3) := by decide +kernel
theorem dX2_heldSpots_29 : decode cX2_heldSpots 29 = .ok (.iload_n 1, 1) := by decide +kernel
theorem dX2_heldSpots_30 : decode cX2_heldSpots 30 = .ok (.ireturn, 1) := by decide +kernel
theorem dX3_init_0 : decode cX3_init 0 = .ok (.aload_n 0, 1) := by decide +kernel
theorem dX3_init_1 : decode cX3_init 1 = .ok (.invokespecial 3, 3) := by decide +kernel
theorem dX3_init_4 : decode cX3_init 4 = .ok (.aload_n 0, 1) := by decide +kernel
theorem dX3_init_5 : decode cX3_init 5 = .ok (.bipush 40, 2) := by decide +kernel
theorem dX3_init_7 : decode cX3_init 7 = .ok (.newarray .int, 2) := by decide +kernel
theorem dX3_init_9 : decode cX3_init 9 = .ok (.putfield 9, 3) := by decide +kernel
theorem dX3_init_12 : decode cX3_init 12 = .ok (.aload_n 0, 1) := by decide +kernel
theorem dX3_init_13 : decode cX3_init 13 = .ok (.iconst 0, 1) := by decide +kernel
theorem dX3_init_14 : decode cX3_init 14 = .ok (.putfield 15, 3) := by decide +kernel
theorem dX3_init_17 : decode cX3_init 17 = .ok (.aload_n 0, 1) := by decide +kernel
theorem dX3_init_18 : decode cX3_init 18 = .ok (.iconst 0, 1) := by decide +kernel
theorem dX3_init_19 : decode cX3_init 19 = .ok (.putfield 19, 3) := by decide +kernel
theorem dX3_init_22 : decode cX3_init 22 = .ok (.return_, 1) := by decide +kernel
theorem dX3_isMissing_0 : decode cX3_isMissing 0 = .ok (.aload_n 0, 1) := by decide +kernel
theorem dX3_isMissing_1 : decode cX3_isMissing 1 = .ok (.getfield 15, 3) := by decide +kernel
theorem dX3_isMissing_4 : decode cX3_isMissing 4 = .ok (.ifCond .ne 7, 3) := by decide +kernel
theorem dX3_isMissing_7 : decode cX3_isMissing 7 = .ok (.iconst 1, 1) := by decide +kernel
theorem dX3_isMissing_8 : decode cX3_isMissing 8 = .ok (.goto 4, 3) := by decide +kernel
theorem dX3_isMissing_11 : decode cX3_isMissing 11 = .ok (.iconst 0, 1) := by decide +kernel
theorem dX3_isMissing_12 : decode cX3_isMissing 12 = .ok (.ireturn, 1) := by decide +kernel
theorem dX3_begin_0 : decode cX3_begin 0 = .ok (.aload_n 0, 1) := by decide +kernel
theorem dX3_begin_1 : decode cX3_begin 1 = .ok (.iload_n 1, 1) := by decide +kernel
theorem dX3_begin_2 : decode cX3_begin 2 = .ok (.putfield 15, 3) := by decide +kernel
theorem dX3_begin_5 : decode cX3_begin 5 = .ok (.aload_n 0, 1) := by decide +kernel
theorem dX3_begin_6 : decode cX3_begin 6 = .ok (.iload_n 2, 1) := by decide +kernel
theorem dX3_begin_7 : decode cX3_begin 7 = .ok (.putfield 19, 3) := by decide +kernel
theorem dX3_begin_10 : decode cX3_begin 10 = .ok (.iconst 0, 1) := by decide +kernel
theorem dX3_begin_11 : decode cX3_begin 11 = .ok (.istore_n 3, 1) := by decide +kernel
theorem dX3_begin_12 : decode cX3_begin 12 = .ok (.iload_n 3, 1) := by decide +kernel
theorem dX3_begin_13 : decode cX3_begin 13 = .ok (.bipush 40, 2) := by decide +kernel
theorem dX3_begin_15 : decode cX3_begin 15 = .ok (.if_icmp .ge 16, 3) := by decide +kernel
theorem dX3_begin_18 : decode cX3_begin 18 = .ok (.aload_n 0, 1) := by decide +kernel
theorem dX3_begin_19 : decode cX3_begin 19 = .ok (.getfield 9, 3) := by decide +kernel
theorem dX3_begin_22 : decode cX3_begin 22 = .ok (.iload_n 3, 1) := by decide +kernel
theorem dX3_begin_23 : decode cX3_begin 23 = .ok (.iconst 0, 1) := by decide +kernel
theorem dX3_begin_24 : decode cX3_begin 24 = .ok (.iastore, 1) := by decide +kernel
theorem dX3_begin_25 : decode cX3_begin 25 = .ok (.iinc 3 1, 3) := by decide +kernel
theorem dX3_begin_28 : decode cX3_begin 28 = .ok (.goto (-16), 3) := by decide +kernel
theorem dX3_begin_31 : decode cX3_begin 31 = .ok (.return_, 1) := by decide +kernel
theorem dX3_put_0 : decode cX3_put 0 = .ok (.aload_n 0, 1) := by decide +kernel
theorem dX3_put_1 : decode cX3_put 1 = .ok (.getfield 15, 3) := by decide +kernel
theorem dX3_put_4 : decode cX3_put 4 = .ok (.bipush 8, 2) := by decide +kernel
theorem dX3_put_6 : decode cX3_put 6 = .ok (.if_icmp .ne 14, 3) := by decide +kernel
theorem dX3_put_9 : decode cX3_put 9 = .ok (.aload_n 0, 1) := by decide +kernel
theorem dX3_put_10 : decode cX3_put 10 = .ok (.getfield 9, 3) := by decide +kernel
theorem dX3_put_13 : decode cX3_put 13 = .ok (.iload_n 1, 1) := by decide +kernel
theorem dX3_put_14 : decode cX3_put 14 = .ok (.iload_n 2, 1) := by decide +kernel
theorem dX3_put_15 : decode cX3_put 15 = .ok (.i2b, 1) := by decide +kernel
theorem dX3_put_16 : decode cX3_put 16 = .ok (.iastore, 1) := by decide +kernel
theorem dX3_put_17 : decode cX3_put 17 = .ok (.goto 30, 3) := by decide +kernel
theorem dX3_put_20 : decode cX3_put 20 = .ok (.aload_n 0, 1) := by decide +kernel
theorem dX3_put_21 : decode cX3_put 21 = .ok (.getfield 15, 3) := by decide +kernel
theorem dX3_put_24 : decode cX3_put 24 = .ok (.bipush 16, 2) := by decide +kernel
theorem dX3_put_26 : decode cX3_put 26 = .ok (.if_icmp .ne 14, 3) := by decide +kernel
theorem dX3_put_29 : decode cX3_put 29 = .ok (.aload_n 0, 1) := by decide +kernel
theorem dX3_put_30 : decode cX3_put 30 = .ok (.getfield 9, 3) := by decide +kernel
theorem dX3_put_33 : decode cX3_put 33 = .ok (.iload_n 1, 1) := by decide +kernel
theorem dX3_put_34 : decode cX3_put 34 = .ok (.iload_n 2, 1) := by decide +kernel
theorem dX3_put_35 : decode cX3_put 35 = .ok (.i2s, 1) := by decide +kernel
theorem dX3_put_36 : decode cX3_put 36 = .ok (.iastore, 1) := by decide +kernel
theorem dX3_put_37 : decode cX3_put 37 = .ok (.goto 10, 3) := by decide +kernel
theorem dX3_put_40 : decode cX3_put 40 = .ok (.aload_n 0, 1) := by decide +kernel
theorem dX3_put_41 : decode cX3_put 41 = .ok (.getfield 9, 3) := by decide +kernel
theorem dX3_put_44 : decode cX3_put 44 = .ok (.iload_n 1, 1) := by decide +kernel
theorem dX3_put_45 : decode cX3_put 45 = .ok (.iload_n 2, 1) := by decide +kernel
theorem dX3_put_46 : decode cX3_put 46 = .ok (.iastore, 1) := by decide +kernel
theorem dX3_put_47 : decode cX3_put 47 = .ok (.return_, 1) := by decide +kernel
theorem dX3_hasRun_0 : decode cX3_hasRun 0 = .ok (.iload_n 1, 1) := by decide +kernel
theorem dX3_hasRun_1 : decode cX3_hasRun 1 = .ok (.ifCond .lt 21, 3) := by decide +kernel
theorem dX3_hasRun_4 : decode cX3_hasRun 4 = .ok (.iload_n 2, 1) := by decide +kernel
theorem dX3_hasRun_5 : decode cX3_hasRun 5 = .ok (.ifCond .lt 17, 3) := by decide +kernel
theorem dX3_hasRun_8 : decode cX3_hasRun 8 = .ok (.iload_n 2, 1) := by decide +kernel
theorem dX3_hasRun_9 : decode cX3_hasRun 9 = .ok (.aload_n 0, 1) := by decide +kernel
theorem dX3_hasRun_10 : decode cX3_hasRun 10 = .ok (.getfield 19, 3) := by decide +kernel
theorem dX3_hasRun_13 : decode cX3_hasRun 13 = .ok (.iload_n 1, 1) := by decide +kernel
theorem dX3_hasRun_14 : decode cX3_hasRun 14 = .ok (.isub, 1) := by decide +kernel
theorem dX3_hasRun_15 : decode cX3_hasRun 15 = .ok (.if_icmp .gt 7, 3) := by decide +kernel
theorem dX3_hasRun_18 : decode cX3_hasRun 18 = .ok (.iconst 1, 1) := by decide +kernel
theorem dX3_hasRun_19 : decode cX3_hasRun 19 = .ok (.goto 4, 3) := by decide +kernel
theorem dX3_hasRun_22 : decode cX3_hasRun 22 = .ok (.iconst 0, 1) := by decide +kernel
theorem dX3_hasRun_23 : decode cX3_hasRun 23 = .ok (.ireturn, 1) := by decide +kernel
theorem dX4_init_0 : decode cX4_init 0 = .ok (.aload_n 0, 1) := by decide +kernel
theorem dX4_init_1 : decode cX4_init 1 = .ok (.invokespecial 3, 3) := by decide +kernel
theorem dX4_init_4 : decode cX4_init 4 = .ok (.aload_n 0, 1) := by decide +kernel
theorem dX4_init_5 : decode cX4_init 5 = .ok (.bipush 120, 2) := by decide +kernel
theorem dX4_init_7 : decode cX4_init 7 = .ok (.newarray .int, 2) := by decide +kernel
theorem dX4_init_9 : decode cX4_init 9 = .ok (.putfield 9, 3) := by decide +kernel
theorem dX4_init_12 : decode cX4_init 12 = .ok (.aload_n 0, 1) := by decide +kernel
theorem dX4_init_13 : decode cX4_init 13 = .ok (.iconst 0, 1) := by decide +kernel
theorem dX4_init_14 : decode cX4_init 14 = .ok (.putfield 15, 3) := by decide +kernel
theorem dX4_init_17 : decode cX4_init 17 = .ok (.aload_n 0, 1) := by decide +kernel
theorem dX4_init_18 : decode cX4_init 18 = .ok (.iconst 3, 1) := by decide +kernel
theorem dX4_init_19 : decode cX4_init 19 = .ok (.putfield 19, 3) := by decide +kernel
theorem dX4_init_22 : decode cX4_init 22 = .ok (.aload_n 0, 1) := by decide +kernel
theorem dX4_init_23 : decode cX4_init 23 = .ok (.iconst 0, 1) := by decide +kernel
theorem dX4_init_24 : decode cX4_init 24 = .ok (.putfield 22, 3) := by decide +kernel
theorem dX4_init_27 : decode cX4_init 27 = .ok (.aload_n 0, 1) := by decide +kernel
theorem dX4_init_28 : decode cX4_init 28 = .ok (.iconst 0, 1) := by decide +kernel
theorem dX4_init_29 : decode cX4_init 29 = .ok (.putfield 25, 3) := by decide +kernel
theorem dX4_init_32 : decode cX4_init 32 = .ok (.aload_n 0, 1) := by decide +kernel
theorem dX4_init_33 : decode cX4_init 33 = .ok (.iconst 0, 1) := by decide +kernel
theorem dX4_init_34 : decode cX4_init 34 = .ok (.putfield 28, 3) := by decide +kernel
theorem dX4_init_37 : decode cX4_init 37 = .ok (.return_, 1) := by decide +kernel
theorem dX4_add_0 : decode cX4_add 0 = .ok (.aload_n 0, 1) := by decide +kernel
theorem dX4_add_1 : decode cX4_add 1 = .ok (.getfield 9, 3) := by decide +kernel
theorem dX4_add_4 : decode cX4_add 4 = .ok (.aload_n 0, 1) := by decide +kernel
theorem dX4_add_5 : decode cX4_add 5 = .ok (.getfield 15, 3) := by decide +kernel
theorem dX4_add_8 : decode cX4_add 8 = .ok (.iload_n 1, 1) := by decide +kernel
theorem dX4_add_9 : decode cX4_add 9 = .ok (.sipush 255, 3) := by decide +kernel
theorem dX4_add_12 : decode cX4_add 12 = .ok (.iand, 1) := by decide +kernel
theorem dX4_add_13 : decode cX4_add 13 = .ok (.iastore, 1) := by decide +kernel
theorem dX4_add_14 : decode cX4_add 14 = .ok (.aload_n 0, 1) := by decide +kernel
theorem dX4_add_15 : decode cX4_add 15 = .ok (.dup, 1) := by decide +kernel
theorem dX4_add_16 : decode cX4_add 16 = .ok (.getfield 15, 3) := by decide +kernel
theorem dX4_add_19 : decode cX4_add 19 = .ok (.iconst 1, 1) := by decide +kernel
theorem dX4_add_20 : decode cX4_add 20 = .ok (.iadd, 1) := by decide +kernel
theorem dX4_add_21 : decode cX4_add 21 = .ok (.putfield 15, 3) := by decide +kernel
theorem dX4_add_24 : decode cX4_add 24 = .ok (.return_, 1) := by decide +kernel
theorem dX4_readOnto_0 : decode cX4_readOnto 0 = .ok (.aload_n 0, 1) := by decide +kernel
theorem dX4_readOnto_1 : decode cX4_readOnto 1 = .ok (.iconst 0, 1) := by decide +kernel
theorem dX4_readOnto_2 : decode cX4_readOnto 2 = .ok (.putfield 25, 3) := by decide +kernel
theorem dX4_readOnto_5 : decode cX4_readOnto 5 = .ok (.aload_n 0, 1) := by decide +kernel
theorem dX4_readOnto_6 : decode cX4_readOnto 6 = .ok (.invokevirtual 31, 3) := by decide +kernel
theorem dX4_readOnto_9 : decode cX4_readOnto 9 = .ok (.iconst 1, 1) := by decide +kernel
theorem dX4_readOnto_10 : decode cX4_readOnto 10 = .ok (.istore_n 2, 1) := by decide +kernel
theorem dX4_readOnto_11 : decode cX4_readOnto 11 = .ok (.iload_n 2, 1) := by decide +kernel
theorem dX4_readOnto_12 : decode cX4_readOnto 12 = .ok (.bipush 120, 2) := by decide +kernel
theorem dX4_readOnto_14 : decode cX4_readOnto 14 = .ok (.if_icmp .gt 53, 3) := by decide +kernel
theorem dX4_readOnto_17 : decode cX4_readOnto 17 = .ok (.aload_n 0, 1) := by decide +kernel
theorem dX4_readOnto_18 : decode cX4_readOnto 18 = .ok (.aload_n 1, 1) := by decide +kernel
theorem dX4_readOnto_19 : decode cX4_readOnto 19 = .ok (.invokevirtual 34, 3) := by decide +kernel
theorem dX4_readOnto_22 : decode cX4_readOnto 22 = .ok (.ifCond .ne 10, 3) := by decide +kernel
theorem dX4_readOnto_25 : decode cX4_readOnto 25 = .ok (.iconst (-1), 1) := by decide +kernel
theorem dX4_readOnto_26 : decode cX4_readOnto 26 = .ok (.aload_n 0, 1) := by decide +kernel
theorem dX4_readOnto_27 : decode cX4_readOnto 27 = .ok (.getfield 22, 3) := by decide +kernel
theorem dX4_readOnto_30 : decode cX4_readOnto 30 = .ok (.isub, 1) := by decide +kernel
theorem dX4_readOnto_31 : decode cX4_readOnto 31 = .ok (.ireturn, 1) := by decide +kernel
theorem dX4_readOnto_32 : decode cX4_readOnto 32 = .ok (.aload_n 0, 1) := by decide +kernel
theorem dX4_readOnto_33 : decode cX4_readOnto 33 = .ok (.getfield 19, 3) := by decide +kernel
theorem dX4_readOnto_36 : decode cX4_readOnto 36 = .ok (.iconst 3, 1) := by decide +kernel
theorem dX4_readOnto_37 : decode cX4_readOnto 37 = .ok (.if_icmp .ne 5, 3) := by decide +kernel
theorem dX4_readOnto_40 : decode cX4_readOnto 40 = .ok (.iload_n 2, 1) := by decide +kernel
theorem dX4_readOnto_41 : decode cX4_readOnto 41 = .ok (.ireturn, 1) := by decide +kernel
theorem dX4_readOnto_42 : decode cX4_readOnto 42 = .ok (.aload_n 0, 1) := by decide +kernel
theorem dX4_readOnto_43 : decode cX4_readOnto 43 = .ok (.getfield 19, 3) := by decide +kernel
theorem dX4_readOnto_46 : decode cX4_readOnto 46 = .ok (.iconst 2, 1) := by decide +kernel
theorem dX4_readOnto_47 : decode cX4_readOnto 47 = .ok (.if_icmp .eq 10, 3) := by decide +kernel
theorem dX4_readOnto_50 : decode cX4_readOnto 50 = .ok (.iconst (-1), 1) := by decide +kernel
theorem dX4_readOnto_51 : decode cX4_readOnto 51 = .ok (.aload_n 0, 1) := by decide +kernel
theorem dX4_readOnto_52 : decode cX4_readOnto 52 = .ok (.getfield 22, 3) := by decide +kernel
theorem dX4_readOnto_55 : decode cX4_readOnto 55 = .ok (.isub, 1) := by decide +kernel
theorem dX4_readOnto_56 : decode cX4_readOnto 56 = .ok (.ireturn, 1) := by decide +kernel
theorem dX4_readOnto_57 : decode cX4_readOnto 57 = .ok (.aload_n 0, 1) := by decide +kernel
theorem dX4_readOnto_58 : decode cX4_readOnto 58 = .ok (.invokevirtual 31, 3) := by decide +kernel
theorem dX4_readOnto_61 : decode cX4_readOnto 61 = .ok (.iinc 2 1, 3) := by decide +kernel
theorem dX4_readOnto_64 : decode cX4_readOnto 64 = .ok (.goto (-53), 3) := by decide +kernel
theorem dX4_readOnto_67 : decode cX4_readOnto 67 = .ok (.iconst (-1), 1) := by decide +kernel
theorem dX4_readOnto_68 : decode cX4_readOnto 68 = .ok (.aload_n 0, 1) := by decide +kernel
theorem dX4_readOnto_69 : decode cX4_readOnto 69 = .ok (.getfield 22, 3) := by decide +kernel
theorem dX4_readOnto_72 : decode cX4_readOnto 72 = .ok (.isub, 1) := by decide +kernel
theorem dX4_readOnto_73 : decode cX4_readOnto 73 = .ok (.ireturn, 1) := by decide +kernel
theorem dX4_readItem_0 : decode cX4_readItem 0 = .ok (.aload_n 0, 1) := by decide +kernel
theorem dX4_readItem_1 : decode cX4_readItem 1 = .ok (.invokevirtual 38, 3) := by decide +kernel
theorem dX4_readItem_4 : decode cX4_readItem 4 = .ok (.istore_n 2, 1) := by decide +kernel
theorem dX4_readItem_5 : decode cX4_readItem 5 = .ok (.iload_n 2, 1) := by decide +kernel
theorem dX4_readItem_6 : decode cX4_readItem 6 = .ok (.iconst (-1), 1) := by decide +kernel
theorem dX4_readItem_7 : decode cX4_readItem 7 = .ok (.if_icmp .eq 25, 3) := by decide +kernel
theorem dX4_readItem_10 : decode cX4_readItem 10 = .ok (.aload_n 1, 1) := by decide +kernel
theorem dX4_readItem_11 : decode cX4_readItem 11 = .ok (.invokevirtual 42, 3) := by decide +kernel
theorem dX4_readItem_14 : decode cX4_readItem 14 = .ok (.ifCond .ne 16, 3) := by decide +kernel
theorem dX4_readItem_17 : decode cX4_readItem 17 = .ok (.aload_n 0, 1) := by decide +kernel
theorem dX4_readItem_18 : decode cX4_readItem 18 = .ok (.aload_n 1, 1) := by decide +kernel
theorem dX4_readItem_19 : decode cX4_readItem 19 = .ok (.iload_n 2, 1) := by decide +kernel
theorem dX4_readItem_20 : decode cX4_readItem 20 = .ok (.invokevirtual 48, 3) := by decide +kernel
theorem dX4_readItem_23 : decode cX4_readItem 23 = .ok (.ifCond .eq 7, 3) := by decide +kernel
theorem dX4_readItem_26 : decode cX4_readItem 26 = .ok (.iconst 1, 1) := by decide +kernel
theorem dX4_readItem_27 : decode cX4_readItem 27 = .ok (.goto 4, 3) := by decide +kernel
theorem dX4_readItem_30 : decode cX4_readItem 30 = .ok (.iconst 0, 1) := by decide +kernel
theorem dX4_readItem_31 : decode cX4_readItem 31 = .ok (.ireturn, 1) := by decide +kernel
theorem dX4_readItem_32 : decode cX4_readItem 32 = .ok (.aload_n 0, 1) := by decide +kernel
theorem dX4_readItem_33 : decode cX4_readItem 33 = .ok (.ldc 52, 2) := by decide +kernel
theorem dX4_readItem_35 : decode cX4_readItem 35 = .ok (.invokevirtual 54, 3) := by decide +kernel
theorem dX4_readItem_38 : decode cX4_readItem 38 = .ok (.ifCond .eq 30, 3) := by decide +kernel
theorem dX4_readItem_41 : decode cX4_readItem 41 = .ok (.aload_n 0, 1) := by decide +kernel
theorem dX4_readItem_42 : decode cX4_readItem 42 = .ok (.aload_n 1, 1) := by decide +kernel
theorem dX4_readItem_43 : decode cX4_readItem 43 = .ok (.invokevirtual 58, 3) := by decide +kernel
theorem dX4_readItem_46 : decode cX4_readItem 46 = .ok (.sipush 999, 3) := by decide +kernel
theorem dX4_readItem_49 : decode cX4_readItem 49 = .ok (.invokevirtual 61, 3) := by decide +kernel
theorem dX4_readItem_52 : decode cX4_readItem 52 = .ok (.ifCond .ne 5, 3) := by decide +kernel
theorem dX4_readItem_55 : decode cX4_readItem 55 = .ok (.iconst 0, 1) := by decide +kernel
theorem dX4_readItem_56 : decode cX4_readItem 56 = .ok (.ireturn, 1) := by decide +kernel
theorem dX4_readItem_57 : decode cX4_readItem 57 = .ok (.aload_n 1, 1) := by decide +kernel
theorem dX4_readItem_58 : decode cX4_readItem 58 = .ok (.aload_n 0, 1) := by decide +kernel
theorem dX4_readItem_59 : decode cX4_readItem 59 = .ok (.getfield 28, 3) := by decide +kernel
theorem dX4_readItem_62 : decode cX4_readItem 62 = .ok (.putfield 65, 3) := by decide +kernel
theorem dX4_readItem_65 : decode cX4_readItem 65 = .ok (.goto 103, 3) := by decide +kernel
theorem dX4_readItem_68 : decode cX4_readItem 68 = .ok (.aload_n 0, 1) := by decide +kernel
theorem dX4_readItem_69 : decode cX4_readItem 69 = .ok (.ldc 67, 2) := by decide +kernel
theorem dX4_readItem_71 : decode cX4_readItem 71 = .ok (.invokevirtual 54, 3) := by decide +kernel
theorem dX4_readItem_74 : decode cX4_readItem 74 = .ok (.ifCond .eq 26, 3) := by decide +kernel
theorem dX4_readItem_77 : decode cX4_readItem 77 = .ok (.aload_n 0, 1) := by decide +kernel
theorem dX4_readItem_78 : decode cX4_readItem 78 = .ok (.iconst 0, 1) := by decide +kernel
theorem dX4_readItem_79 : decode cX4_readItem 79 = .ok (.bipush 99, 2) := by decide +kernel
theorem dX4_readItem_81 : decode cX4_readItem 81 = .ok (.invokevirtual 61, 3) := by decide +kernel
theorem dX4_readItem_84 : decode cX4_readItem 84 = .ok (.ifCond .ne 5, 3) := by decide +kernel
theorem dX4_readItem_87 : decode cX4_readItem 87 = .ok (.iconst 0, 1) := by decide +kernel
theorem dX4_readItem_88 : decode cX4_readItem 88 = .ok (.ireturn, 1) := by decide +kernel
theorem dX4_readItem_89 : decode cX4_readItem 89 = .ok (.aload_n 1, 1) := by decide +kernel
theorem dX4_readItem_90 : decode cX4_readItem 90 = .ok (.aload_n 0, 1) := by decide +kernel
theorem dX4_readItem_91 : decode cX4_readItem 91 = .ok (.getfield 28, 3) := by decide +kernel
theorem dX4_readItem_94 : decode cX4_readItem 94 = .ok (.putfield 69, 3) := by decide +kernel
theorem dX4_readItem_97 : decode cX4_readItem 97 = .ok (.goto 71, 3) := by decide +kernel
theorem dX4_readItem_100 : decode cX4_readItem 100 = .ok (.aload_n 0, 1) := by decide +kernel
theorem dX4_readItem_101 : decode cX4_readItem 101 = .ok (.ldc 71, 2) := by decide +kernel
theorem dX4_readItem_103 : decode cX4_readItem 103 = .ok (.invokevirtual 54, 3) := by decide +kernel
theorem dX4_readItem_106 : decode cX4_readItem 106 = .ok (.ifCond .eq 28, 3) := by decide +kernel
theorem dX4_readItem_109 : decode cX4_readItem 109 = .ok (.aload_n 0, 1) := by decide +kernel
theorem dX4_readItem_110 : decode cX4_readItem 110 = .ok (.iconst 0, 1) := by decide +kernel
theorem dX4_readItem_111 : decode cX4_readItem 111 = .ok (.aload_n 1, 1) := by decide +kernel
theorem dX4_readItem_112 : decode cX4_readItem 112 = .ok (.getfield 65, 3) := by decide +kernel
theorem dX4_readItem_115 : decode cX4_readItem 115 = .ok (.invokevirtual 61, 3) := by decide +kernel
theorem dX4_readItem_118 : decode cX4_readItem 118 = .ok (.ifCond .ne 5, 3) := by decide +kernel
theorem dX4_readItem_121 : decode cX4_readItem 121 = .ok (.iconst 0, 1) := by decide +kernel
theorem dX4_readItem_122 : decode cX4_readItem 122 = .ok (.ireturn, 1) := by decide +kernel
theorem dX4_readItem_123 : decode cX4_readItem 123 = .ok (.aload_n 1, 1) := by decide +kernel
theorem dX4_readItem_124 : decode cX4_readItem 124 = .ok (.aload_n 0, 1) := by decide +kernel
theorem dX4_readItem_125 : decode cX4_readItem 125 = .ok (.getfield 28, 3) := by decide +kernel
theorem dX4_readItem_128 : decode cX4_readItem 128 = .ok (.putfield 73, 3) := by decide +kernel
theorem dX4_readItem_131 : decode cX4_readItem 131 = .ok (.goto 37, 3) := by decide +kernel
theorem dX4_readItem_134 : decode cX4_readItem 134 = .ok (.aload_n 0, 1) := by decide +kernel
theorem dX4_readItem_135 : decode cX4_readItem 135 = .ok (.ldc 75, 2) := by decide +kernel
theorem dX4_readItem_137 : decode cX4_readItem 137 = .ok (.invokevirtual 54, 3) := by decide +kernel
theorem dX4_readItem_140 : decode cX4_readItem 140 = .ok (.ifCond .eq 26, 3) := by decide +kernel
theorem dX4_readItem_143 : decode cX4_readItem 143 = .ok (.aload_n 0, 1) := by decide +kernel
theorem dX4_readItem_144 : decode cX4_readItem 144 = .ok (.iconst 0, 1) := by decide +kernel
theorem dX4_readItem_145 : decode cX4_readItem 145 = .ok (.bipush 9, 2) := by decide +kernel
theorem dX4_readItem_147 : decode cX4_readItem 147 = .ok (.invokevirtual 61, 3) := by decide +kernel
theorem dX4_readItem_150 : decode cX4_readItem 150 = .ok (.ifCond .ne 5, 3) := by decide +kernel
theorem dX4_readItem_153 : decode cX4_readItem 153 = .ok (.iconst 0, 1) := by decide +kernel
theorem dX4_readItem_154 : decode cX4_readItem 154 = .ok (.ireturn, 1) := by decide +kernel
theorem dX4_readItem_155 : decode cX4_readItem 155 = .ok (.aload_n 1, 1) := by decide +kernel
theorem dX4_readItem_156 : decode cX4_readItem 156 = .ok (.aload_n 0, 1) := by decide +kernel
theorem dX4_readItem_157 : decode cX4_readItem 157 = .ok (.getfield 28, 3) := by decide +kernel
theorem dX4_readItem_160 : decode cX4_readItem 160 = .ok (.putfield 77, 3) := by decide +kernel
theorem dX4_readItem_163 : decode cX4_readItem 163 = .ok (.goto 5, 3) := by decide +kernel
theorem dX4_readItem_166 : decode cX4_readItem 166 = .ok (.iconst 0, 1) := by decide +kernel
theorem dX4_readItem_167 : decode cX4_readItem 167 = .ok (.ireturn, 1) := by decide +kernel
theorem dX4_readItem_168 : decode cX4_readItem 168 = .ok (.aload_n 0, 1) := by decide +kernel
theorem dX4_readItem_169 : decode cX4_readItem 169 = .ok (.invokevirtual 31, 3) := by decide +kernel
theorem dX4_readItem_172 : decode cX4_readItem 172 = .ok (.iconst 1, 1) := by decide +kernel
theorem dX4_readItem_173 : decode cX4_readItem 173 = .ok (.ireturn, 1) := by decide +kernel
theorem dX4_readPump_0 : decode cX4_readPump 0 = .ok (.aload_n 0, 1) := by decide +kernel
theorem dX4_readPump_1 : decode cX4_readPump 1 = .ok (.invokevirtual 31, 3) := by decide +kernel
theorem dX4_readPump_4 : decode cX4_readPump 4 = .ok (.aload_n 0, 1) := by decide +kernel
theorem dX4_readPump_5 : decode cX4_readPump 5 = .ok (.ldc 79, 2) := by decide +kernel
theorem dX4_readPump_7 : decode cX4_readPump 7 = .ok (.invokevirtual 54, 3) := by decide +kernel
theorem dX4_readPump_10 : decode cX4_readPump 10 = .ok (.ifCond .eq 13, 3) := by decide +kernel
theorem dX4_readPump_13 : decode cX4_readPump 13 = .ok (.aload_n 0, 1) := by decide +kernel
theorem dX4_readPump_14 : decode cX4_readPump 14 = .ok (.iconst 0, 1) := by decide +kernel
theorem dX4_readPump_15 : decode cX4_readPump 15 = .ok (.bipush 99, 2) := by decide +kernel
theorem dX4_readPump_17 : decode cX4_readPump 17 = .ok (.invokevirtual 61, 3) := by decide +kernel
theorem dX4_readPump_20 : decode cX4_readPump 20 = .ok (.ifCond .ne 5, 3) := by decide +kernel
theorem dX4_readPump_23 : decode cX4_readPump 23 = .ok (.iconst 0, 1) := by decide +kernel
theorem dX4_readPump_24 : decode cX4_readPump 24 = .ok (.ireturn, 1) := by decide +kernel
theorem dX4_readPump_25 : decode cX4_readPump 25 = .ok (.aload_n 0, 1) := by decide +kernel
theorem dX4_readPump_26 : decode cX4_readPump 26 = .ok (.getfield 28, 3) := by decide +kernel
theorem dX4_readPump_29 : decode cX4_readPump 29 = .ok (.istore_n 3, 1) := by decide +kernel
theorem dX4_readPump_30 : decode cX4_readPump 30 = .ok (.bipush 9, 2) := by decide +kernel
theorem dX4_readPump_32 : decode cX4_readPump 32 = .ok (.istore 4, 2) := by decide +kernel
theorem dX4_readPump_34 : decode cX4_readPump 34 = .ok (.iconst 0, 1) := by decide +kernel
theorem dX4_readPump_35 : decode cX4_readPump 35 = .ok (.istore 5, 2) := by decide +kernel
theorem dX4_readPump_37 : decode cX4_readPump 37 = .ok (.aload_n 0, 1) := by decide +kernel
theorem dX4_readPump_38 : decode cX4_readPump 38 = .ok (.invokevirtual 31, 3) := by decide +kernel
theorem dX4_readPump_41 : decode cX4_readPump 41 = .ok (.aload_n 0, 1) := by decide +kernel
theorem dX4_readPump_42 : decode cX4_readPump 42 = .ok (.ldc 81, 2) := by decide +kernel
theorem dX4_readPump_44 : decode cX4_readPump 44 = .ok (.invokevirtual 54, 3) := by decide +kernel
theorem dX4_readPump_47 : decode cX4_readPump 47 = .ok (.ifCond .eq 25, 3) := by decide +kernel
theorem dX4_readPump_50 : decode cX4_readPump 50 = .ok (.aload_n 0, 1) := by decide +kernel
theorem dX4_readPump_51 : decode cX4_readPump 51 = .ok (.iconst 1, 1) := by decide +kernel
theorem dX4_readPump_52 : decode cX4_readPump 52 = .ok (.bipush 60, 2) := by decide +kernel
theorem dX4_readPump_54 : decode cX4_readPump 54 = .ok (.invokevirtual 61, 3) := by decide +kernel
theorem dX4_readPump_57 : decode cX4_readPump 57 = .ok (.ifCond .ne 5, 3) := by decide +kernel
theorem dX4_readPump_60 : decode cX4_readPump 60 = .ok (.iconst 0, 1) := by decide +kernel
theorem dX4_readPump_61 : decode cX4_readPump 61 = .ok (.ireturn, 1) := by decide +kernel
theorem dX4_readPump_62 : decode cX4_readPump 62 = .ok (.aload_n 0, 1) := by decide +kernel
theorem dX4_readPump_63 : decode cX4_readPump 63 = .ok (.getfield 28, 3) := by decide +kernel
theorem dX4_readPump_66 : decode cX4_readPump 66 = .ok (.istore 4, 2) := by decide +kernel
theorem dX4_readPump_68 : decode cX4_readPump 68 = .ok (.aload_n 0, 1) := by decide +kernel
theorem dX4_readPump_69 : decode cX4_readPump 69 = .ok (.invokevirtual 31, 3) := by decide +kernel
theorem dX4_readPump_72 : decode cX4_readPump 72 = .ok (.aload_n 0, 1) := by decide +kernel
theorem dX4_readPump_73 : decode cX4_readPump 73 = .ok (.ldc 83, 2) := by decide +kernel
theorem dX4_readPump_75 : decode cX4_readPump 75 = .ok (.invokevirtual 54, 3) := by decide +kernel
theorem dX4_readPump_78 : decode cX4_readPump 78 = .ok (.ifCond .eq 25, 3) := by decide +kernel
theorem dX4_readPump_81 : decode cX4_readPump 81 = .ok (.aload_n 0, 1) := by decide +kernel
theorem dX4_readPump_82 : decode cX4_readPump 82 = .ok (.iconst 0, 1) := by decide +kernel
theorem dX4_readPump_83 : decode cX4_readPump 83 = .ok (.bipush 11, 2) := by decide +kernel
theorem dX4_readPump_85 : decode cX4_readPump 85 = .ok (.invokevirtual 61, 3) := by decide +kernel
theorem dX4_readPump_88 : decode cX4_readPump 88 = .ok (.ifCond .ne 5, 3) := by decide +kernel
theorem dX4_readPump_91 : decode cX4_readPump 91 = .ok (.iconst 0, 1) := by decide +kernel
theorem dX4_readPump_92 : decode cX4_readPump 92 = .ok (.ireturn, 1) := by decide +kernel
theorem dX4_readPump_93 : decode cX4_readPump 93 = .ok (.aload_n 0, 1) := by decide +kernel
theorem dX4_readPump_94 : decode cX4_readPump 94 = .ok (.getfield 28, 3) := by decide +kernel
theorem dX4_readPump_97 : decode cX4_readPump 97 = .ok (.istore 5, 2) := by decide +kernel
theorem dX4_readPump_99 : decode cX4_readPump 99 = .ok (.aload_n 0, 1) := by decide +kernel
theorem dX4_readPump_100 : decode cX4_readPump 100 = .ok (.invokevirtual 31, 3) := by decide +kernel
theorem dX4_readPump_103 : decode cX4_readPump 103 = .ok (.aload_n 1, 1) := by decide +kernel
theorem dX4_readPump_104 : decode cX4_readPump 104 = .ok (.iload_n 2, 1) := by decide +kernel
theorem dX4_readPump_105 : decode cX4_readPump 105 = .ok (.iload_n 3, 1) := by decide +kernel
theorem dX4_readPump_106 : decode cX4_readPump 106 = .ok (.iload 4, 2) := by decide +kernel
theorem dX4_readPump_108 : decode cX4_readPump 108 = .ok (.iload 5, 2) := by decide +kernel
theorem dX4_readPump_110 : decode cX4_readPump 110 = .ok (.invokevirtual 85, 3) := by decide +kernel
theorem dX4_readPump_113 : decode cX4_readPump 113 = .ok (.iconst 1, 1) := by decide +kernel
theorem dX4_readPump_114 : decode cX4_readPump 114 = .ok (.ireturn, 1) := by decide +kernel
theorem dX4_readNumber_0 : decode cX4_readNumber 0 = .ok (.aload_n 0, 1) := by decide +kernel
theorem dX4_readNumber_1 : decode cX4_readNumber 1 = .ok (.invokevirtual 31, 3) := by decide +kernel
theorem dX4_readNumber_4 : decode cX4_readNumber 4 = .ok (.aload_n 0, 1) := by decide +kernel
theorem dX4_readNumber_5 : decode cX4_readNumber 5 = .ok (.getfield 19, 3) := by decide +kernel
theorem dX4_readNumber_8 : decode cX4_readNumber 8 = .ok (.iconst 1, 1) := by decide +kernel
theorem dX4_readNumber_9 : decode cX4_readNumber 9 = .ok (.if_icmp .ne 23, 3) := by decide +kernel
theorem dX4_readNumber_12 : decode cX4_readNumber 12 = .ok (.aload_n 0, 1) := by decide +kernel
theorem dX4_readNumber_13 : decode cX4_readNumber 13 = .ok (.getfield 28, 3) := by decide +kernel
theorem dX4_readNumber_16 : decode cX4_readNumber 16 = .ok (.iload_n 1, 1) := by decide +kernel
theorem dX4_readNumber_17 : decode cX4_readNumber 17 = .ok (.if_icmp .lt 15, 3) := by decide +kernel
theorem dX4_readNumber_20 : decode cX4_readNumber 20 = .ok (.aload_n 0, 1) := by decide +kernel
theorem dX4_readNumber_21 : decode cX4_readNumber 21 = .ok (.getfield 28, 3) := by decide +kernel
theorem dX4_readNumber_24 : decode cX4_readNumber 24 = .ok (.iload_n 2, 1) := by decide +kernel
theorem dX4_readNumber_25 : decode cX4_readNumber 25 = .ok (.if_icmp .gt 7, 3) := by decide +kernel
theorem dX4_readNumber_28 : decode cX4_readNumber 28 = .ok (.iconst 1, 1) := by decide +kernel
theorem dX4_readNumber_29 : decode cX4_readNumber 29 = .ok (.goto 4, 3) := by decide +kernel
theorem dX4_readNumber_32 : decode cX4_readNumber 32 = .ok (.iconst 0, 1) := by decide +kernel
theorem dX4_readNumber_33 : decode cX4_readNumber 33 = .ok (.ireturn, 1) := by decide +kernel
theorem dX4_kindTold_0 : decode cX4_kindTold 0 = .ok (.iconst 0, 1) := by decide +kernel
theorem dX4_kindTold_1 : decode cX4_kindTold 1 = .ok (.istore_n 1, 1) := by decide +kernel
theorem dX4_kindTold_2 : decode cX4_kindTold 2 = .ok (.iload_n 1, 1) := by decide +kernel
theorem dX4_kindTold_3 : decode cX4_kindTold 3 = .ok (.bipush 6, 2) := by decide +kernel
theorem dX4_kindTold_5 : decode cX4_kindTold 5 = .ok (.if_icmp .gt 22, 3) := by decide +kernel
theorem dX4_kindTold_8 : decode cX4_kindTold 8 = .ok (.aload_n 0, 1) := by decide +kernel
theorem dX4_kindTold_9 : decode cX4_kindTold 9 = .ok (.iload_n 1, 1) := by decide +kernel
theorem dX4_kindTold_10 : decode cX4_kindTold 10 = .ok (.invokestatic 89, 3) := by decide +kernel
theorem dX4_kindTold_13 : decode cX4_kindTold 13 = .ok (.invokevirtual 54, 3) := by decide +kernel
theorem dX4_kindTold_16 : decode cX4_kindTold 16 = .ok (.ifCond .eq 5, 3) := by decide +kernel
theorem dX4_kindTold_19 : decode cX4_kindTold 19 = .ok (.iload_n 1, 1) := by decide +kernel
theorem dX4_kindTold_20 : decode cX4_kindTold 20 = .ok (.ireturn, 1) := by decide +kernel
theorem dX4_kindTold_21 : decode cX4_kindTold 21 = .ok (.iinc 1 1, 3) := by decide +kernel
theorem dX4_kindTold_24 : decode cX4_kindTold 24 = .ok (.goto (-22), 3) := by decide +kernel
theorem dX4_kindTold_27 : decode cX4_kindTold 27 = .ok (.iconst (-1), 1) := by decide +kernel
theorem dX4_kindTold_28 : decode cX4_kindTold 28 = .ok (.ireturn, 1) := by decide +kernel
theorem dX4_wordOf_0 : decode cX4_wordOf 0 = .ok (.iload_n 0, 1) := by decide +kernel
theorem dX4_wordOf_1 : decode cX4_wordOf 1 = .ok (.tableswitch 57 1 6 #[39, 42, 45, 48, 51, 54], 39) := by decide +kernel
theorem dX4_wordOf_40 : decode cX4_wordOf 40 = .ok (.ldc 93, 2) := by decide +kernel
theorem dX4_wordOf_42 : decode cX4_wordOf 42 = .ok (.areturn, 1) := by decide +kernel
theorem dX4_wordOf_43 : decode cX4_wordOf 43 = .ok (.ldc 95, 2) := by decide +kernel
theorem dX4_wordOf_45 : decode cX4_wordOf 45 = .ok (.areturn, 1) := by decide +kernel
theorem dX4_wordOf_46 : decode cX4_wordOf 46 = .ok (.ldc 97, 2) := by decide +kernel
theorem dX4_wordOf_48 : decode cX4_wordOf 48 = .ok (.areturn, 1) := by decide +kernel
theorem dX4_wordOf_49 : decode cX4_wordOf 49 = .ok (.ldc 99, 2) := by decide +kernel
theorem dX4_wordOf_51 : decode cX4_wordOf 51 = .ok (.areturn, 1) := by decide +kernel
theorem dX4_wordOf_52 : decode cX4_wordOf 52 = .ok (.ldc 101, 2) := by decide +kernel
theorem dX4_wordOf_54 : decode cX4_wordOf 54 = .ok (.areturn, 1) := by decide +kernel
theorem dX4_wordOf_55 : decode cX4_wordOf 55 = .ok (.ldc 103, 2) := by decide +kernel
theorem dX4_wordOf_57 : decode cX4_wordOf 57 = .ok (.areturn, 1) := by decide +kernel
theorem dX4_wordOf_58 : decode cX4_wordOf 58 = .ok (.ldc 105, 2) := by decide +kernel
theorem dX4_wordOf_60 : decode cX4_wordOf 60 = .ok (.areturn, 1) := by decide +kernel
theorem dX4_isWord_0 : decode cX4_isWord 0 = .ok (.aload_n 0, 1) := by decide +kernel
theorem dX4_isWord_1 : decode cX4_isWord 1 = .ok (.getfield 19, 3) := by decide +kernel
theorem dX4_isWord_4 : decode cX4_isWord 4 = .ok (.ifCond .ne 19, 3) := by decide +kernel
theorem dX4_isWord_7 : decode cX4_isWord 7 = .ok (.aload_n 0, 1) := by decide +kernel
theorem dX4_isWord_8 : decode cX4_isWord 8 = .ok (.getfield 25, 3) := by decide +kernel
theorem dX4_isWord_11 : decode cX4_isWord 11 = .ok (.aload_n 0, 1) := by decide +kernel
theorem dX4_isWord_12 : decode cX4_isWord 12 = .ok (.getfield 22, 3) := by decide +kernel
theorem dX4_isWord_15 : decode cX4_isWord 15 = .ok (.isub, 1) := by decide +kernel
theorem dX4_isWord_16 : decode cX4_isWord 16 = .ok (.aload_n 1, 1) := by decide +kernel
theorem dX4_isWord_17 : decode cX4_isWord 17 = .ok (.invokevirtual 107, 3) := by decide +kernel
theorem dX4_isWord_20 : decode cX4_isWord 20 = .ok (.if_icmp .eq 5, 3) := by decide +kernel
theorem dX4_isWord_23 : decode cX4_isWord 23 = .ok (.iconst 0, 1) := by decide +kernel
theorem dX4_isWord_24 : decode cX4_isWord 24 = .ok (.ireturn, 1) := by decide +kernel
theorem dX4_isWord_25 : decode cX4_isWord 25 = .ok (.iconst 0, 1) := by decide +kernel
theorem dX4_isWord_26 : decode cX4_isWord 26 = .ok (.istore_n 2, 1) := by decide +kernel
theorem dX4_isWord_27 : decode cX4_isWord 27 = .ok (.iload_n 2, 1) := by decide +kernel
theorem dX4_isWord_28 : decode cX4_isWord 28 = .ok (.aload_n 1, 1) := by decide +kernel
theorem dX4_isWord_29 : decode cX4_isWord 29 = .ok (.invokevirtual 107, 3) := by decide +kernel
theorem dX4_isWord_32 : decode cX4_isWord 32 = .ok (.if_icmp .ge 30, 3) := by decide +kernel
theorem dX4_isWord_35 : decode cX4_isWord 35 = .ok (.aload_n 0, 1) := by decide +kernel
theorem dX4_isWord_36 : decode cX4_isWord 36 = .ok (.getfield 9, 3) := by decide +kernel
theorem dX4_isWord_39 : decode cX4_isWord 39 = .ok (.aload_n 0, 1) := by decide +kernel
theorem dX4_isWord_40 : decode cX4_isWord 40 = .ok (.getfield 22, 3) := by decide +kernel
theorem dX4_isWord_43 : decode cX4_isWord 43 = .ok (.iload_n 2, 1) := by decide +kernel
theorem dX4_isWord_44 : decode cX4_isWord 44 = .ok (.iadd, 1) := by decide +kernel
theorem dX4_isWord_45 : decode cX4_isWord 45 = .ok (.iaload, 1) := by decide +kernel
theorem dX4_isWord_46 : decode cX4_isWord 46 = .ok (.aload_n 1, 1) := by decide +kernel
theorem dX4_isWord_47 : decode cX4_isWord 47 = .ok (.iload_n 2, 1) := by decide +kernel
theorem dX4_isWord_48 : decode cX4_isWord 48 = .ok (.invokevirtual 111, 3) := by decide +kernel
theorem dX4_isWord_51 : decode cX4_isWord 51 = .ok (.if_icmp .eq 5, 3) := by decide +kernel
theorem dX4_isWord_54 : decode cX4_isWord 54 = .ok (.iconst 0, 1) := by decide +kernel
theorem dX4_isWord_55 : decode cX4_isWord 55 = .ok (.ireturn, 1) := by decide +kernel
theorem dX4_isWord_56 : decode cX4_isWord 56 = .ok (.iinc 2 1, 3) := by decide +kernel
theorem dX4_isWord_59 : decode cX4_isWord 59 = .ok (.goto (-32), 3) := by decide +kernel
theorem dX4_isWord_62 : decode cX4_isWord 62 = .ok (.iconst 1, 1) := by decide +kernel
theorem dX4_isWord_63 : decode cX4_isWord 63 = .ok (.ireturn, 1) := by decide +kernel
theorem dX4_next_0 : decode cX4_next 0 = .ok (.aload_n 0, 1) := by decide +kernel
theorem dX4_next_1 : decode cX4_next 1 = .ok (.aload_n 0, 1) := by decide +kernel
theorem dX4_next_2 : decode cX4_next 2 = .ok (.getfield 25, 3) := by decide +kernel
theorem dX4_next_5 : decode cX4_next 5 = .ok (.putfield 22, 3) := by decide +kernel
theorem dX4_next_8 : decode cX4_next 8 = .ok (.aload_n 0, 1) := by decide +kernel
theorem dX4_next_9 : decode cX4_next 9 = .ok (.getfield 22, 3) := by decide +kernel
theorem dX4_next_12 : decode cX4_next 12 = .ok (.aload_n 0, 1) := by decide +kernel
theorem dX4_next_13 : decode cX4_next 13 = .ok (.getfield 15, 3) := by decide +kernel
theorem dX4_next_16 : decode cX4_next 16 = .ok (.if_icmp .ge 30, 3) := by decide +kernel
theorem dX4_next_19 : decode cX4_next 19 = .ok (.aload_n 0, 1) := by decide +kernel
theorem dX4_next_20 : decode cX4_next 20 = .ok (.getfield 9, 3) := by decide +kernel
theorem dX4_next_23 : decode cX4_next 23 = .ok (.aload_n 0, 1) := by decide +kernel
theorem dX4_next_24 : decode cX4_next 24 = .ok (.getfield 22, 3) := by decide +kernel
theorem dX4_next_27 : decode cX4_next 27 = .ok (.iaload, 1) := by decide +kernel
theorem dX4_next_28 : decode cX4_next 28 = .ok (.bipush 32, 2) := by decide +kernel
theorem dX4_next_30 : decode cX4_next 30 = .ok (.if_icmp .ne 16, 3) := by decide +kernel
theorem dX4_next_33 : decode cX4_next 33 = .ok (.aload_n 0, 1) := by decide +kernel
theorem dX4_next_34 : decode cX4_next 34 = .ok (.dup, 1) := by decide +kernel
theorem dX4_next_35 : decode cX4_next 35 = .ok (.getfield 22, 3) := by decide +kernel
theorem dX4_next_38 : decode cX4_next 38 = .ok (.iconst 1, 1) := by decide +kernel
theorem dX4_next_39 : decode cX4_next 39 = .ok (.iadd, 1) := by decide +kernel
theorem dX4_next_40 : decode cX4_next 40 = .ok (.putfield 22, 3) := by decide +kernel
theorem dX4_next_43 : decode cX4_next 43 = .ok (.goto (-35), 3) := by decide +kernel
theorem dX4_next_46 : decode cX4_next 46 = .ok (.aload_n 0, 1) := by decide +kernel
theorem dX4_next_47 : decode cX4_next 47 = .ok (.aload_n 0, 1) := by decide +kernel
theorem dX4_next_48 : decode cX4_next 48 = .ok (.getfield 22, 3) := by decide +kernel
theorem dX4_next_51 : decode cX4_next 51 = .ok (.putfield 25, 3) := by decide +kernel
theorem dX4_next_54 : decode cX4_next 54 = .ok (.aload_n 0, 1) := by decide +kernel
theorem dX4_next_55 : decode cX4_next 55 = .ok (.getfield 22, 3) := by decide +kernel
theorem dX4_next_58 : decode cX4_next 58 = .ok (.aload_n 0, 1) := by decide +kernel
theorem dX4_next_59 : decode cX4_next 59 = .ok (.getfield 15, 3) := by decide +kernel
theorem dX4_next_62 : decode cX4_next 62 = .ok (.if_icmp .lt 11, 3) := by decide +kernel
theorem dX4_next_65 : decode cX4_next 65 = .ok (.aload_n 0, 1) := by decide +kernel
theorem dX4_next_66 : decode cX4_next 66 = .ok (.iconst 3, 1) := by decide +kernel
theorem dX4_next_67 : decode cX4_next 67 = .ok (.putfield 19, 3) := by decide +kernel
theorem dX4_next_70 : decode cX4_next 70 = .ok (.goto 110, 3) := by decide +kernel
theorem dX4_next_73 : decode cX4_next 73 = .ok (.aload_n 0, 1) := by decide +kernel
theorem dX4_next_74 : decode cX4_next 74 = .ok (.aload_n 0, 1) := by decide +kernel
theorem dX4_next_75 : decode cX4_next 75 = .ok (.getfield 22, 3) := by decide +kernel
theorem dX4_next_78 : decode cX4_next 78 = .ok (.invokevirtual 115, 3) := by decide +kernel
theorem dX4_next_81 : decode cX4_next 81 = .ok (.ifCond .eq 43, 3) := by decide +kernel
theorem dX4_next_84 : decode cX4_next 84 = .ok (.aload_n 0, 1) := by decide +kernel
theorem dX4_next_85 : decode cX4_next 85 = .ok (.iconst 0, 1) := by decide +kernel
theorem dX4_next_86 : decode cX4_next 86 = .ok (.putfield 19, 3) := by decide +kernel
theorem dX4_next_89 : decode cX4_next 89 = .ok (.aload_n 0, 1) := by decide +kernel
theorem dX4_next_90 : decode cX4_next 90 = .ok (.getfield 25, 3) := by decide +kernel
theorem dX4_next_93 : decode cX4_next 93 = .ok (.aload_n 0, 1) := by decide +kernel
theorem dX4_next_94 : decode cX4_next 94 = .ok (.getfield 15, 3) := by decide +kernel
theorem dX4_next_97 : decode cX4_next 97 = .ok (.if_icmp .ge 83, 3) := by decide +kernel
theorem dX4_next_100 : decode cX4_next 100 = .ok (.aload_n 0, 1) := by decide +kernel
theorem dX4_next_101 : decode cX4_next 101 = .ok (.aload_n 0, 1) := by decide +kernel
theorem dX4_next_102 : decode cX4_next 102 = .ok (.getfield 25, 3) := by decide +kernel
theorem dX4_next_105 : decode cX4_next 105 = .ok (.invokevirtual 115, 3) := by decide +kernel
theorem dX4_next_108 : decode cX4_next 108 = .ok (.ifCond .eq 72, 3) := by decide +kernel
theorem dX4_next_111 : decode cX4_next 111 = .ok (.aload_n 0, 1) := by decide +kernel
theorem dX4_next_112 : decode cX4_next 112 = .ok (.dup, 1) := by decide +kernel
theorem dX4_next_113 : decode cX4_next 113 = .ok (.getfield 25, 3) := by decide +kernel
theorem dX4_next_116 : decode cX4_next 116 = .ok (.iconst 1, 1) := by decide +kernel
theorem dX4_next_117 : decode cX4_next 117 = .ok (.iadd, 1) := by decide +kernel
theorem dX4_next_118 : decode cX4_next 118 = .ok (.putfield 25, 3) := by decide +kernel
theorem dX4_next_121 : decode cX4_next 121 = .ok (.goto (-32), 3) := by decide +kernel
theorem dX4_next_124 : decode cX4_next 124 = .ok (.aload_n 0, 1) := by decide +kernel
theorem dX4_next_125 : decode cX4_next 125 = .ok (.aload_n 0, 1) := by decide +kernel
theorem dX4_next_126 : decode cX4_next 126 = .ok (.getfield 22, 3) := by decide +kernel
theorem dX4_next_129 : decode cX4_next 129 = .ok (.invokevirtual 119, 3) := by decide +kernel
theorem dX4_next_132 : decode cX4_next 132 = .ok (.ifCond .eq 15, 3) := by decide +kernel
theorem dX4_next_135 : decode cX4_next 135 = .ok (.aload_n 0, 1) := by decide +kernel
theorem dX4_next_136 : decode cX4_next 136 = .ok (.iconst 1, 1) := by decide +kernel
theorem dX4_next_137 : decode cX4_next 137 = .ok (.putfield 19, 3) := by decide +kernel
theorem dX4_next_140 : decode cX4_next 140 = .ok (.aload_n 0, 1) := by decide +kernel
theorem dX4_next_141 : decode cX4_next 141 = .ok (.invokevirtual 122, 3) := by decide +kernel
theorem dX4_next_144 : decode cX4_next 144 = .ok (.goto 36, 3) := by decide +kernel
theorem dX4_next_147 : decode cX4_next 147 = .ok (.aload_n 0, 1) := by decide +kernel
theorem dX4_next_148 : decode cX4_next 148 = .ok (.aload_n 0, 1) := by decide +kernel
theorem dX4_next_149 : decode cX4_next 149 = .ok (.getfield 9, 3) := by decide +kernel
theorem dX4_next_152 : decode cX4_next 152 = .ok (.aload_n 0, 1) := by decide +kernel
theorem dX4_next_153 : decode cX4_next 153 = .ok (.getfield 22, 3) := by decide +kernel
theorem dX4_next_156 : decode cX4_next 156 = .ok (.iaload, 1) := by decide +kernel
theorem dX4_next_157 : decode cX4_next 157 = .ok (.bipush 59, 2) := by decide +kernel
theorem dX4_next_159 : decode cX4_next 159 = .ok (.if_icmp .ne 7, 3) := by decide +kernel
theorem dX4_next_162 : decode cX4_next 162 = .ok (.iconst 2, 1) := by decide +kernel
theorem dX4_next_163 : decode cX4_next 163 = .ok (.goto 4, 3) := by decide +kernel
theorem dX4_next_166 : decode cX4_next 166 = .ok (.iconst 4, 1) := by decide +kernel
theorem dX4_next_167 : decode cX4_next 167 = .ok (.putfield 19, 3) := by decide +kernel
theorem dX4_next_170 : decode cX4_next 170 = .ok (.aload_n 0, 1) := by decide +kernel
theorem dX4_next_171 : decode cX4_next 171 = .ok (.dup, 1) := by decide +kernel
theorem dX4_next_172 : decode cX4_next 172 = .ok (.getfield 25, 3) := by decide +kernel
theorem dX4_next_175 : decode cX4_next 175 = .ok (.iconst 1, 1) := by decide +kernel
theorem dX4_next_176 : decode cX4_next 176 = .ok (.iadd, 1) := by decide +kernel
theorem dX4_next_177 : decode cX4_next 177 = .ok (.putfield 25, 3) := by decide +kernel
theorem dX4_next_180 : decode cX4_next 180 = .ok (.return_, 1) := by decide +kernel
theorem dX4_nextNumber_0 : decode cX4_nextNumber 0 = .ok (.aload_n 0, 1) := by decide +kernel
theorem dX4_nextNumber_1 : decode cX4_nextNumber 1 = .ok (.iconst 0, 1) := by decide +kernel
theorem dX4_nextNumber_2 : decode cX4_nextNumber 2 = .ok (.putfield 28, 3) := by decide +kernel
theorem dX4_nextNumber_5 : decode cX4_nextNumber 5 = .ok (.aload_n 0, 1) := by decide +kernel
theorem dX4_nextNumber_6 : decode cX4_nextNumber 6 = .ok (.getfield 25, 3) := by decide +kernel
theorem dX4_nextNumber_9 : decode cX4_nextNumber 9 = .ok (.aload_n 0, 1) := by decide +kernel
theorem dX4_nextNumber_10 : decode cX4_nextNumber 10 = .ok (.getfield 15, 3) := by decide +kernel
theorem dX4_nextNumber_13 : decode cX4_nextNumber 13 = .ok (.if_icmp .ge 57, 3) := by decide +kernel
theorem dX4_nextNumber_16 : decode cX4_nextNumber 16 = .ok (.aload_n 0, 1) := by decide +kernel
theorem dX4_nextNumber_17 : decode cX4_nextNumber 17 = .ok (.aload_n 0, 1) := by decide +kernel
theorem dX4_nextNumber_18 : decode cX4_nextNumber 18 = .ok (.getfield 25, 3) := by decide +kernel
theorem dX4_nextNumber_21 : decode cX4_nextNumber 21 = .ok (.invokevirtual 119, 3) := by decide +kernel
theorem dX4_nextNumber_24 : decode cX4_nextNumber 24 = .ok (.ifCond .eq 46, 3) := by decide +kernel
theorem dX4_nextNumber_27 : decode cX4_nextNumber 27 = .ok (.aload_n 0, 1) := by decide +kernel
theorem dX4_nextNumber_28 : decode cX4_nextNumber 28 = .ok (.sipush 1000, 3) := by decide +kernel
theorem dX4_nextNumber_31 : decode cX4_nextNumber 31 = .ok (.aload_n 0, 1) := by decide +kernel
theorem dX4_nextNumber_32 : decode cX4_nextNumber 32 = .ok (.getfield 28, 3) := by decide +kernel
theorem dX4_nextNumber_35 : decode cX4_nextNumber 35 = .ok (.bipush 10, 2) := by decide +kernel
theorem dX4_nextNumber_37 : decode cX4_nextNumber 37 = .ok (.imul, 1) := by decide +kernel
theorem dX4_nextNumber_38 : decode cX4_nextNumber 38 = .ok (.aload_n 0, 1) := by decide +kernel
theorem dX4_nextNumber_39 : decode cX4_nextNumber 39 = .ok (.getfield 9, 3) := by decide +kernel
theorem dX4_nextNumber_42 : decode cX4_nextNumber 42 = .ok (.aload_n 0, 1) := by decide +kernel
theorem dX4_nextNumber_43 : decode cX4_nextNumber 43 = .ok (.getfield 25, 3) := by decide +kernel
theorem dX4_nextNumber_46 : decode cX4_nextNumber 46 = .ok (.iaload, 1) := by decide +kernel
theorem dX4_nextNumber_47 : decode cX4_nextNumber 47 = .ok (.iadd, 1) := by decide +kernel
theorem dX4_nextNumber_48 : decode cX4_nextNumber 48 = .ok (.bipush 48, 2) := by decide +kernel
theorem dX4_nextNumber_50 : decode cX4_nextNumber 50 = .ok (.isub, 1) := by decide +kernel
theorem dX4_nextNumber_51 : decode cX4_nextNumber 51 = .ok (.invokestatic 125, 3) := by decide +kernel
theorem dX4_nextNumber_54 : decode cX4_nextNumber 54 = .ok (.putfield 28, 3) := by decide +kernel
theorem dX4_nextNumber_57 : decode cX4_nextNumber 57 = .ok (.aload_n 0, 1) := by decide +kernel
theorem dX4_nextNumber_58 : decode cX4_nextNumber 58 = .ok (.dup, 1) := by decide +kernel
theorem dX4_nextNumber_59 : decode cX4_nextNumber 59 = .ok (.getfield 25, 3) := by decide +kernel
theorem dX4_nextNumber_62 : decode cX4_nextNumber 62 = .ok (.iconst 1, 1) := by decide +kernel
theorem dX4_nextNumber_63 : decode cX4_nextNumber 63 = .ok (.iadd, 1) := by decide +kernel
theorem dX4_nextNumber_64 : decode cX4_nextNumber 64 = .ok (.putfield 25, 3) := by decide +kernel
theorem dX4_nextNumber_67 : decode cX4_nextNumber 67 = .ok (.goto (-62), 3) := by decide +kernel
theorem dX4_nextNumber_70 : decode cX4_nextNumber 70 = .ok (.return_, 1) := by decide +kernel
theorem dX4_isLetter_0 : decode cX4_isLetter 0 = .ok (.aload_n 0, 1) := by decide +kernel
theorem dX4_isLetter_1 : decode cX4_isLetter 1 = .ok (.getfield 9, 3) := by decide +kernel
theorem dX4_isLetter_4 : decode cX4_isLetter 4 = .ok (.iload_n 1, 1) := by decide +kernel
theorem dX4_isLetter_5 : decode cX4_isLetter 5 = .ok (.iaload, 1) := by decide +kernel
theorem dX4_isLetter_6 : decode cX4_isLetter 6 = .ok (.bipush 97, 2) := by decide +kernel
theorem dX4_isLetter_8 : decode cX4_isLetter 8 = .ok (.if_icmp .lt 18, 3) := by decide +kernel
theorem dX4_isLetter_11 : decode cX4_isLetter 11 = .ok (.aload_n 0, 1) := by decide +kernel
theorem dX4_isLetter_12 : decode cX4_isLetter 12 = .ok (.getfield 9, 3) := by decide +kernel
theorem dX4_isLetter_15 : decode cX4_isLetter 15 = .ok (.iload_n 1, 1) := by decide +kernel
theorem dX4_isLetter_16 : decode cX4_isLetter 16 = .ok (.iaload, 1) := by decide +kernel
theorem dX4_isLetter_17 : decode cX4_isLetter 17 = .ok (.bipush 122, 2) := by decide +kernel
theorem dX4_isLetter_19 : decode cX4_isLetter 19 = .ok (.if_icmp .gt 7, 3) := by decide +kernel
theorem dX4_isLetter_22 : decode cX4_isLetter 22 = .ok (.iconst 1, 1) := by decide +kernel
theorem dX4_isLetter_23 : decode cX4_isLetter 23 = .ok (.goto 4, 3) := by decide +kernel
theorem dX4_isLetter_26 : decode cX4_isLetter 26 = .ok (.iconst 0, 1) := by decide +kernel
theorem dX4_isLetter_27 : decode cX4_isLetter 27 = .ok (.ireturn, 1) := by decide +kernel
theorem dX4_isDigit_0 : decode cX4_isDigit 0 = .ok (.aload_n 0, 1) := by decide +kernel
theorem dX4_isDigit_1 : decode cX4_isDigit 1 = .ok (.getfield 9, 3) := by decide +kernel
theorem dX4_isDigit_4 : decode cX4_isDigit 4 = .ok (.iload_n 1, 1) := by decide +kernel
theorem dX4_isDigit_5 : decode cX4_isDigit 5 = .ok (.iaload, 1) := by decide +kernel
theorem dX4_isDigit_6 : decode cX4_isDigit 6 = .ok (.bipush 48, 2) := by decide +kernel
theorem dX4_isDigit_8 : decode cX4_isDigit 8 = .ok (.if_icmp .lt 18, 3) := by decide +kernel
theorem dX4_isDigit_11 : decode cX4_isDigit 11 = .ok (.aload_n 0, 1) := by decide +kernel
theorem dX4_isDigit_12 : decode cX4_isDigit 12 = .ok (.getfield 9, 3) := by decide +kernel
theorem dX4_isDigit_15 : decode cX4_isDigit 15 = .ok (.iload_n 1, 1) := by decide +kernel
theorem dX4_isDigit_16 : decode cX4_isDigit 16 = .ok (.iaload, 1) := by decide +kernel
theorem dX4_isDigit_17 : decode cX4_isDigit 17 = .ok (.bipush 57, 2) := by decide +kernel
theorem dX4_isDigit_19 : decode cX4_isDigit 19 = .ok (.if_icmp .gt 7, 3) := by decide +kernel
theorem dX4_isDigit_22 : decode cX4_isDigit 22 = .ok (.iconst 1, 1) := by decide +kernel
theorem dX4_isDigit_23 : decode cX4_isDigit 23 = .ok (.goto 4, 3) := by decide +kernel
theorem dX4_isDigit_26 : decode cX4_isDigit 26 = .ok (.iconst 0, 1) := by decide +kernel
theorem dX4_isDigit_27 : decode cX4_isDigit 27 = .ok (.ireturn, 1) := by decide +kernel
theorem dX5_init_0 : decode cX5_init 0 = .ok (.aload_n 0, 1) := by decide +kernel
theorem dX5_init_1 : decode cX5_init 1 = .ok (.invokespecial 1, 3) := by decide +kernel
theorem dX5_init_4 : decode cX5_init 4 = .ok (.aload_n 0, 1) := by decide +kernel
theorem dX5_init_5 : decode cX5_init 5 = .ok (.new 7, 3) := by decide +kernel
theorem dX5_init_8 : decode cX5_init 8 = .ok (.dup, 1) := by decide +kernel
theorem dX5_init_9 : decode cX5_init 9 = .ok (.invokespecial 9, 3) := by decide +kernel
theorem dX5_init_12 : decode cX5_init 12 = .ok (.putfield 10, 3) := by decide +kernel
theorem dX5_init_15 : decode cX5_init 15 = .ok (.aload_n 0, 1) := by decide +kernel
theorem dX5_init_16 : decode cX5_init 16 = .ok (.new 7, 3) := by decide +kernel
theorem dX5_init_19 : decode cX5_init 19 = .ok (.dup, 1) := by decide +kernel
theorem dX5_init_20 : decode cX5_init 20 = .ok (.invokespecial 9, 3) := by decide +kernel
theorem dX5_init_23 : decode cX5_init 23 = .ok (.putfield 16, 3) := by decide +kernel
theorem dX5_init_26 : decode cX5_init 26 = .ok (.aload_n 0, 1) := by decide +kernel
theorem dX5_init_27 : decode cX5_init 27 = .ok (.new 7, 3) := by decide +kernel
theorem dX5_init_30 : decode cX5_init 30 = .ok (.dup, 1) := by decide +kernel
theorem dX5_init_31 : decode cX5_init 31 = .ok (.invokespecial 9, 3) := by decide +kernel
theorem dX5_init_34 : decode cX5_init 34 = .ok (.putfield 19, 3) := by decide +kernel
theorem dX5_init_37 : decode cX5_init 37 = .ok (.aload_n 0, 1) := by decide +kernel
theorem dX5_init_38 : decode cX5_init 38 = .ok (.iconst 0, 1) := by decide +kernel
theorem dX5_init_39 : decode cX5_init 39 = .ok (.putfield 22, 3) := by decide +kernel
theorem dX5_init_42 : decode cX5_init 42 = .ok (.aload_n 0, 1) := by decide +kernel
theorem dX5_init_43 : decode cX5_init 43 = .ok (.new 26, 3) := by decide +kernel
theorem dX5_init_46 : decode cX5_init 46 = .ok (.dup, 1) := by decide +kernel
theorem dX5_init_47 : decode cX5_init 47 = .ok (.invokespecial 28, 3) := by decide +kernel
theorem dX5_init_50 : decode cX5_init 50 = .ok (.putfield 29, 3) := by decide +kernel
theorem dX5_init_53 : decode cX5_init 53 = .ok (.aload_n 0, 1) := by decide +kernel
theorem dX5_init_54 : decode cX5_init 54 = .ok (.iconst 4, 1) := by decide +kernel
theorem dX5_init_55 : decode cX5_init 55 = .ok (.anewarray 33, 3) := by decide +kernel
theorem dX5_init_58 : decode cX5_init 58 = .ok (.putfield 35, 3) := by decide +kernel
theorem dX5_init_61 : decode cX5_init 61 = .ok (.aload_n 0, 1) := by decide +kernel
theorem dX5_init_62 : decode cX5_init 62 = .ok (.bipush 7, 2) := by decide +kernel
theorem dX5_init_64 : decode cX5_init 64 = .ok (.newarray .int, 2) := by decide +kernel
theorem dX5_init_66 : decode cX5_init 66 = .ok (.putfield 39, 3) := by decide +kernel
theorem dX5_init_69 : decode cX5_init 69 = .ok (.aload_n 0, 1) := by decide +kernel
theorem dX5_init_70 : decode cX5_init 70 = .ok (.new 43, 3) := by decide +kernel
theorem dX5_init_73 : decode cX5_init 73 = .ok (.dup, 1) := by decide +kernel
theorem dX5_init_74 : decode cX5_init 74 = .ok (.invokespecial 45, 3) := by decide +kernel
theorem dX5_init_77 : decode cX5_init 77 = .ok (.putfield 46, 3) := by decide +kernel
theorem dX5_init_80 : decode cX5_init 80 = .ok (.iconst 0, 1) := by decide +kernel
theorem dX5_init_81 : decode cX5_init 81 = .ok (.istore_n 1, 1) := by decide +kernel
theorem dX5_init_82 : decode cX5_init 82 = .ok (.iload_n 1, 1) := by decide +kernel
theorem dX5_init_83 : decode cX5_init 83 = .ok (.iconst 4, 1) := by decide +kernel
theorem dX5_init_84 : decode cX5_init 84 = .ok (.if_icmp .ge 22, 3) := by decide +kernel
theorem dX5_init_87 : decode cX5_init 87 = .ok (.aload_n 0, 1) := by decide +kernel
theorem dX5_init_88 : decode cX5_init 88 = .ok (.getfield 35, 3) := by decide +kernel
theorem dX5_init_91 : decode cX5_init 91 = .ok (.iload_n 1, 1) := by decide +kernel
theorem dX5_init_92 : decode cX5_init 92 = .ok (.new 33, 3) := by decide +kernel
theorem dX5_init_95 : decode cX5_init 95 = .ok (.dup, 1) := by decide +kernel
theorem dX5_init_96 : decode cX5_init 96 = .ok (.invokespecial 50, 3) := by decide +kernel
theorem dX5_init_99 : decode cX5_init 99 = .ok (.aastore, 1) := by decide +kernel
theorem dX5_init_100 : decode cX5_init 100 = .ok (.iinc 1 1, 3) := by decide +kernel
theorem dX5_init_103 : decode cX5_init 103 = .ok (.goto (-21), 3) := by decide +kernel
theorem dX5_init_106 : decode cX5_init 106 = .ok (.return_, 1) := by decide +kernel
theorem dX5_pump_0 : decode cX5_pump 0 = .ok (.iload_n 1, 1) := by decide +kernel
theorem dX5_pump_1 : decode cX5_pump 1 = .ok (.iconst 0, 1) := by decide +kernel
theorem dX5_pump_2 : decode cX5_pump 2 = .ok (.bipush 6, 2) := by decide +kernel
theorem dX5_pump_4 : decode cX5_pump 4 = .ok (.invokestatic 51, 3) := by decide +kernel
theorem dX5_pump_7 : decode cX5_pump 7 = .ok (.ifCond .ne 23, 3) := by decide +kernel
theorem dX5_pump_10 : decode cX5_pump 10 = .ok (.iload_n 2, 1) := by decide +kernel
theorem dX5_pump_11 : decode cX5_pump 11 = .ok (.iconst 0, 1) := by decide +kernel
theorem dX5_pump_12 : decode cX5_pump 12 = .ok (.bipush 99, 2) := by decide +kernel
theorem dX5_pump_14 : decode cX5_pump 14 = .ok (.invokestatic 51, 3) := by decide +kernel
theorem dX5_pump_17 : decode cX5_pump 17 = .ok (.ifCond .ne 13, 3) := by decide +kernel
theorem dX5_pump_20 : decode cX5_pump 20 = .ok (.iload_n 3, 1) := by decide +kernel
theorem dX5_pump_21 : decode cX5_pump 21 = .ok (.iconst 1, 1) := by decide +kernel
theorem dX5_pump_22 : decode cX5_pump 22 = .ok (.bipush 60, 2) := by decide +kernel
theorem dX5_pump_24 : decode cX5_pump 24 = .ok (.invokestatic 51, 3) := by decide +kernel
theorem dX5_pump_27 : decode cX5_pump 27 = .ok (.ifCond .eq 9, 3) := by decide +kernel
theorem dX5_pump_30 : decode cX5_pump 30 = .ok (.aload_n 0, 1) := by decide +kernel
theorem dX5_pump_31 : decode cX5_pump 31 = .ok (.iconst 0, 1) := by decide +kernel
theorem dX5_pump_32 : decode cX5_pump 32 = .ok (.invokevirtual 55, 3) := by decide +kernel
theorem dX5_pump_35 : decode cX5_pump 35 = .ok (.ireturn, 1) := by decide +kernel
theorem dX5_pump_36 : decode cX5_pump 36 = .ok (.aload_n 0, 1) := by decide +kernel
theorem dX5_pump_37 : decode cX5_pump 37 = .ok (.getfield 10, 3) := by decide +kernel
theorem dX5_pump_40 : decode cX5_pump 40 = .ok (.invokevirtual 59, 3) := by decide +kernel
theorem dX5_pump_43 : decode cX5_pump 43 = .ok (.ifCond .eq 9, 3) := by decide +kernel
theorem dX5_pump_46 : decode cX5_pump 46 = .ok (.aload_n 0, 1) := by decide +kernel
theorem dX5_pump_47 : decode cX5_pump 47 = .ok (.iconst 1, 1) := by decide +kernel
theorem dX5_pump_48 : decode cX5_pump 48 = .ok (.invokevirtual 55, 3) := by decide +kernel
theorem dX5_pump_51 : decode cX5_pump 51 = .ok (.ireturn, 1) := by decide +kernel
theorem dX5_pump_52 : decode cX5_pump 52 = .ok (.aload_n 0, 1) := by decide +kernel
theorem dX5_pump_53 : decode cX5_pump 53 = .ok (.getfield 10, 3) := by decide +kernel
theorem dX5_pump_56 : decode cX5_pump 56 = .ok (.iload_n 1, 1) := by decide +kernel
theorem dX5_pump_57 : decode cX5_pump 57 = .ok (.iload_n 2, 1) := by decide +kernel
theorem dX5_pump_58 : decode cX5_pump 58 = .ok (.iload_n 3, 1) := by decide +kernel
theorem dX5_pump_59 : decode cX5_pump 59 = .ok (.iconst 0, 1) := by decide +kernel
theorem dX5_pump_60 : decode cX5_pump 60 = .ok (.invokevirtual 63, 3) := by decide +kernel
theorem dX5_pump_63 : decode cX5_pump 63 = .ok (.aload_n 0, 1) := by decide +kernel
theorem dX5_pump_64 : decode cX5_pump 64 = .ok (.getfield 10, 3) := by decide +kernel
theorem dX5_pump_67 : decode cX5_pump 67 = .ok (.getfield 67, 3) := by decide +kernel
theorem dX5_pump_70 : decode cX5_pump 70 = .ok (.iconst 1, 1) := by decide +kernel
theorem dX5_pump_71 : decode cX5_pump 71 = .ok (.isub, 1) := by decide +kernel
theorem dX5_pump_72 : decode cX5_pump 72 = .ok (.ireturn, 1) := by decide +kernel
theorem dX5_of_0 : decode cX5_of 0 = .ok (.aload_n 0, 1) := by decide +kernel
theorem dX5_of_1 : decode cX5_of 1 = .ok (.getfield 10, 3) := by decide +kernel
theorem dX5_of_4 : decode cX5_of 4 = .ok (.iload_n 1, 1) := by decide +kernel
theorem dX5_of_5 : decode cX5_of 5 = .ok (.invokevirtual 71, 3) := by decide +kernel
theorem dX5_of_8 : decode cX5_of 8 = .ok (.ifCond .ne 9, 3) := by decide +kernel
theorem dX5_of_11 : decode cX5_of 11 = .ok (.aload_n 0, 1) := by decide +kernel
theorem dX5_of_12 : decode cX5_of 12 = .ok (.iconst 0, 1) := by decide +kernel
theorem dX5_of_13 : decode cX5_of 13 = .ok (.invokevirtual 55, 3) := by decide +kernel
theorem dX5_of_16 : decode cX5_of 16 = .ok (.ireturn, 1) := by decide +kernel
theorem dX5_of_17 : decode cX5_of 17 = .ok (.aload_n 0, 1) := by decide +kernel
theorem dX5_of_18 : decode cX5_of 18 = .ok (.getfield 10, 3) := by decide +kernel
theorem dX5_of_21 : decode cX5_of 21 = .ok (.getfield 75, 3) := by decide +kernel
theorem dX5_of_24 : decode cX5_of 24 = .ok (.iload_n 1, 1) := by decide +kernel
theorem dX5_of_25 : decode cX5_of 25 = .ok (.aaload, 1) := by decide +kernel
theorem dX5_of_26 : decode cX5_of 26 = .ok (.astore_n 3, 1) := by decide +kernel
theorem dX5_of_27 : decode cX5_of 27 = .ok (.iload_n 2, 1) := by decide +kernel
theorem dX5_of_28 : decode cX5_of 28 = .ok (.tableswitch 104 0 7 #[48, 53, 58, 63, 68, 73, 86, 95], 48) := by decide +kernel
theorem dX5_of_76 : decode cX5_of 76 = .ok (.aload_n 3, 1) := by decide +kernel
theorem dX5_of_77 : decode cX5_of 77 = .ok (.getfield 79, 3) := by decide +kernel
theorem dX5_of_80 : decode cX5_of 80 = .ok (.ireturn, 1) := by decide +kernel
theorem dX5_of_81 : decode cX5_of 81 = .ok (.aload_n 3, 1) := by decide +kernel
theorem dX5_of_82 : decode cX5_of 82 = .ok (.getfield 84, 3) := by decide +kernel
theorem dX5_of_85 : decode cX5_of 85 = .ok (.ireturn, 1) := by decide +kernel
theorem dX5_of_86 : decode cX5_of 86 = .ok (.aload_n 3, 1) := by decide +kernel
theorem dX5_of_87 : decode cX5_of 87 = .ok (.getfield 87, 3) := by decide +kernel
theorem dX5_of_90 : decode cX5_of 90 = .ok (.ireturn, 1) := by decide +kernel
theorem dX5_of_91 : decode cX5_of 91 = .ok (.aload_n 3, 1) := by decide +kernel
theorem dX5_of_92 : decode cX5_of 92 = .ok (.getfield 90, 3) := by decide +kernel
theorem dX5_of_95 : decode cX5_of 95 = .ok (.ireturn, 1) := by decide +kernel
theorem dX5_of_96 : decode cX5_of 96 = .ok (.aload_n 3, 1) := by decide +kernel
theorem dX5_of_97 : decode cX5_of 97 = .ok (.getfield 93, 3) := by decide +kernel
theorem dX5_of_100 : decode cX5_of 100 = .ok (.ireturn, 1) := by decide +kernel
theorem dX5_of_101 : decode cX5_of 101 = .ok (.aload_n 3, 1) := by decide +kernel
theorem dX5_of_102 : decode cX5_of 102 = .ok (.getfield 96, 3) := by decide +kernel
theorem dX5_of_105 : decode cX5_of 105 = .ok (.ifCond .eq 7, 3) := by decide +kernel
theorem dX5_of_108 : decode cX5_of 108 = .ok (.iconst 1, 1) := by decide +kernel
theorem dX5_of_109 : decode cX5_of 109 = .ok (.goto 4, 3) := by decide +kernel
theorem dX5_of_112 : decode cX5_of 112 = .ok (.iconst 0, 1) := by decide +kernel
theorem dX5_of_113 : decode cX5_of 113 = .ok (.ireturn, 1) := by decide +kernel
theorem dX5_of_114 : decode cX5_of 114 = .ok (.aload_n 0, 1) := by decide +kernel
theorem dX5_of_115 : decode cX5_of 115 = .ok (.getfield 10, 3) := by decide +kernel
theorem dX5_of_118 : decode cX5_of 118 = .ok (.iload_n 1, 1) := by decide +kernel
theorem dX5_of_119 : decode cX5_of 119 = .ok (.invokevirtual 99, 3) := by decide +kernel
theorem dX5_of_122 : decode cX5_of 122 = .ok (.ireturn, 1) := by decide +kernel
theorem dX5_of_123 : decode cX5_of 123 = .ok (.aload_n 0, 1) := by decide +kernel
theorem dX5_of_124 : decode cX5_of 124 = .ok (.getfield 10, 3) := by decide +kernel
theorem dX5_of_127 : decode cX5_of 127 = .ok (.iload_n 1, 1) := by decide +kernel
theorem dX5_of_128 : decode cX5_of 128 = .ok (.invokevirtual 102, 3) := by decide +kernel
theorem dX5_of_131 : decode cX5_of 131 = .ok (.ireturn, 1) := by decide +kernel
theorem dX5_of_132 : decode cX5_of 132 = .ok (.aload_n 0, 1) := by decide +kernel
theorem dX5_of_133 : decode cX5_of 133 = .ok (.iconst 0, 1) := by decide +kernel
theorem dX5_of_134 : decode cX5_of 134 = .ok (.invokevirtual 55, 3) := by decide +kernel
theorem dX5_of_137 : decode cX5_of 137 = .ok (.ireturn, 1) := by decide +kernel
theorem dX5_change_0 : decode cX5_change 0 = .ok (.aload_n 0, 1) := by decide +kernel
theorem dX5_change_1 : decode cX5_change 1 = .ok (.getfield 10, 3) := by decide +kernel
theorem dX5_change_4 : decode cX5_change 4 = .ok (.iload_n 1, 1) := by decide +kernel
theorem dX5_change_5 : decode cX5_change 5 = .ok (.invokevirtual 71, 3) := by decide +kernel
theorem dX5_change_8 : decode cX5_change 8 = .ok (.ifCond .eq 27, 3) := by decide +kernel
theorem dX5_change_11 : decode cX5_change 11 = .ok (.iload_n 2, 1) := by decide +kernel
theorem dX5_change_12 : decode cX5_change 12 = .ok (.iconst 0, 1) := by decide +kernel
theorem dX5_change_13 : decode cX5_change 13 = .ok (.iconst 3, 1) := by decide +kernel
theorem dX5_change_14 : decode cX5_change 14 = .ok (.invokestatic 51, 3) := by decide +kernel
theorem dX5_change_17 : decode cX5_change 17 = .ok (.ifCond .ne 18, 3) := by decide +kernel
theorem dX5_change_20 : decode cX5_change 20 = .ok (.iload_n 3, 1) := by decide +kernel
theorem dX5_change_21 : decode cX5_change 21 = .ok (.iload_n 2, 1) := by decide +kernel
theorem dX5_change_22 : decode cX5_change 22 = .ok (.invokestatic 105, 3) := by decide +kernel
theorem dX5_change_25 : decode cX5_change 25 = .ok (.iload_n 2, 1) := by decide +kernel
theorem dX5_change_26 : decode cX5_change 26 = .ok (.invokestatic 108, 3) := by decide +kernel
theorem dX5_change_29 : decode cX5_change 29 = .ok (.invokestatic 51, 3) := by decide +kernel
theorem dX5_change_32 : decode cX5_change 32 = .ok (.ifCond .eq 9, 3) := by decide +kernel
theorem dX5_change_35 : decode cX5_change 35 = .ok (.aload_n 0, 1) := by decide +kernel
theorem dX5_change_36 : decode cX5_change 36 = .ok (.iconst 0, 1) := by decide +kernel
theorem dX5_change_37 : decode cX5_change 37 = .ok (.invokevirtual 55, 3) := by decide +kernel
theorem dX5_change_40 : decode cX5_change 40 = .ok (.ireturn, 1) := by decide +kernel
theorem dX5_change_41 : decode cX5_change 41 = .ok (.aload_n 0, 1) := by decide +kernel
theorem dX5_change_42 : decode cX5_change 42 = .ok (.getfield 10, 3) := by decide +kernel
theorem dX5_change_45 : decode cX5_change 45 = .ok (.getfield 75, 3) := by decide +kernel
theorem dX5_change_48 : decode cX5_change 48 = .ok (.iload_n 1, 1) := by decide +kernel
theorem dX5_change_49 : decode cX5_change 49 = .ok (.aaload, 1) := by decide +kernel
theorem dX5_change_50 : decode cX5_change 50 = .ok (.astore 4, 2) := by decide +kernel
theorem dX5_change_52 : decode cX5_change 52 = .ok (.iload_n 2, 1) := by decide +kernel
theorem dX5_change_53 : decode cX5_change 53 = .ok (.ifCond .ne 19, 3) := by decide +kernel
theorem dX5_change_56 : decode cX5_change 56 = .ok (.aload 4, 2) := by decide +kernel
theorem dX5_change_58 : decode cX5_change 58 = .ok (.getfield 79, 3) := by decide +kernel
theorem dX5_change_61 : decode cX5_change 61 = .ok (.istore 5, 2) := by decide +kernel
theorem dX5_change_63 : decode cX5_change 63 = .ok (.aload 4, 2) := by decide +kernel
theorem dX5_change_65 : decode cX5_change 65 = .ok (.iload_n 3, 1) := by decide +kernel
theorem dX5_change_66 : decode cX5_change 66 = .ok (.putfield 79, 3) := by decide +kernel
theorem dX5_change_69 : decode cX5_change 69 = .ok (.goto 58, 3) := by decide +kernel
theorem dX5_change_72 : decode cX5_change 72 = .ok (.iload_n 2, 1) := by decide +kernel
theorem dX5_change_73 : decode cX5_change 73 = .ok (.iconst 1, 1) := by decide +kernel
theorem dX5_change_74 : decode cX5_change 74 = .ok (.if_icmp .ne 19, 3) := by decide +kernel
theorem dX5_change_77 : decode cX5_change 77 = .ok (.aload 4, 2) := by decide +kernel
theorem dX5_change_79 : decode cX5_change 79 = .ok (.getfield 84, 3) := by decide +kernel
theorem dX5_change_82 : decode cX5_change 82 = .ok (.istore 5, 2) := by decide +kernel
theorem dX5_change_84 : decode cX5_change 84 = .ok (.aload 4, 2) := by decide +kernel
theorem dX5_change_86 : decode cX5_change 86 = .ok (.iload_n 3, 1) := by decide +kernel
theorem dX5_change_87 : decode cX5_change 87 = .ok (.putfield 84, 3) := by decide +kernel
theorem dX5_change_90 : decode cX5_change 90 = .ok (.goto 37, 3) := by decide +kernel
theorem dX5_change_93 : decode cX5_change 93 = .ok (.iload_n 2, 1) := by decide +kernel
theorem dX5_change_94 : decode cX5_change 94 = .ok (.iconst 2, 1) := by decide +kernel
theorem dX5_change_95 : decode cX5_change 95 = .ok (.if_icmp .ne 19, 3) := by decide +kernel
theorem dX5_change_98 : decode cX5_change 98 = .ok (.aload 4, 2) := by decide +kernel
theorem dX5_change_100 : decode cX5_change 100 = .ok (.getfield 87, 3) := by decide +kernel
theorem dX5_change_103 : decode cX5_change 103 = .ok (.istore 5, 2) := by decide +kernel
theorem dX5_change_105 : decode cX5_change 105 = .ok (.aload 4, 2) := by decide +kernel
theorem dX5_change_107 : decode cX5_change 107 = .ok (.iload_n 3, 1) := by decide +kernel
theorem dX5_change_108 : decode cX5_change 108 = .ok (.putfield 87, 3) := by decide +kernel
theorem dX5_change_111 : decode cX5_change 111 = .ok (.goto 16, 3) := by decide +kernel
theorem dX5_change_114 : decode cX5_change 114 = .ok (.aload 4, 2) := by decide +kernel
theorem dX5_change_116 : decode cX5_change 116 = .ok (.getfield 90, 3) := by decide +kernel
theorem dX5_change_119 : decode cX5_change 119 = .ok (.istore 5, 2) := by decide +kernel
theorem dX5_change_121 : decode cX5_change 121 = .ok (.aload 4, 2) := by decide +kernel
theorem dX5_change_123 : decode cX5_change 123 = .ok (.iload_n 3, 1) := by decide +kernel
theorem dX5_change_124 : decode cX5_change 124 = .ok (.putfield 90, 3) := by decide +kernel
theorem dX5_change_127 : decode cX5_change 127 = .ok (.iload 5, 2) := by decide +kernel
theorem dX5_change_129 : decode cX5_change 129 = .ok (.ireturn, 1) := by decide +kernel
theorem dX5_leastTrait_0 : decode cX5_leastTrait 0 = .ok (.iload_n 0, 1) := by decide +kernel
theorem dX5_leastTrait_1 : decode cX5_leastTrait 1 = .ok (.iconst 2, 1) := by decide +kernel
theorem dX5_leastTrait_2 : decode cX5_leastTrait 2 = .ok (.if_icmp .ne 7, 3) := by decide +kernel
theorem dX5_leastTrait_5 : decode cX5_leastTrait 5 = .ok (.iconst 1, 1) := by decide +kernel
theorem dX5_leastTrait_6 : decode cX5_leastTrait 6 = .ok (.goto 4, 3) := by decide +kernel
theorem dX5_leastTrait_9 : decode cX5_leastTrait 9 = .ok (.iconst 0, 1) := by decide +kernel
theorem dX5_leastTrait_10 : decode cX5_leastTrait 10 = .ok (.ireturn, 1) := by decide +kernel
theorem dX5_mostTrait_0 : decode cX5_mostTrait 0 = .ok (.iload_n 0, 1) := by decide +kernel
theorem dX5_mostTrait_1 : decode cX5_mostTrait 1 = .ok (.tableswitch 36 0 2 #[27, 30, 33], 27) := by decide +kernel
theorem dX5_mostTrait_28 : decode cX5_mostTrait 28 = .ok (.bipush 6, 2) := by decide +kernel
theorem dX5_mostTrait_30 : decode cX5_mostTrait 30 = .ok (.ireturn, 1) := by decide +kernel
theorem dX5_mostTrait_31 : decode cX5_mostTrait 31 = .ok (.bipush 99, 2) := by decide +kernel
theorem dX5_mostTrait_33 : decode cX5_mostTrait 33 = .ok (.ireturn, 1) := by decide +kernel
theorem dX5_mostTrait_34 : decode cX5_mostTrait 34 = .ok (.bipush 60, 2) := by decide +kernel
theorem dX5_mostTrait_36 : decode cX5_mostTrait 36 = .ok (.ireturn, 1) := by decide +kernel
theorem dX5_mostTrait_37 : decode cX5_mostTrait 37 = .ok (.bipush 11, 2) := by decide +kernel
theorem dX5_mostTrait_39 : decode cX5_mostTrait 39 = .ok (.ireturn, 1) := by decide +kernel
theorem dX5_rule_0 : decode cX5_rule 0 = .ok (.iload_n 1, 1) := by decide +kernel
theorem dX5_rule_1 : decode cX5_rule 1 = .ok (.iconst 0, 1) := by decide +kernel
theorem dX5_rule_2 : decode cX5_rule 2 = .ok (.iconst 3, 1) := by decide +kernel
theorem dX5_rule_3 : decode cX5_rule 3 = .ok (.invokestatic 51, 3) := by decide +kernel
theorem dX5_rule_6 : decode cX5_rule 6 = .ok (.ifCond .ne 19, 3) := by decide +kernel
theorem dX5_rule_9 : decode cX5_rule 9 = .ok (.iload_n 2, 1) := by decide +kernel
theorem dX5_rule_10 : decode cX5_rule 10 = .ok (.aload_n 0, 1) := by decide +kernel
theorem dX5_rule_11 : decode cX5_rule 11 = .ok (.iload_n 1, 1) := by decide +kernel
theorem dX5_rule_12 : decode cX5_rule 12 = .ok (.invokevirtual 111, 3) := by decide +kernel
theorem dX5_rule_15 : decode cX5_rule 15 = .ok (.iload_n 1, 1) := by decide +kernel
theorem dX5_rule_16 : decode cX5_rule 16 = .ok (.invokestatic 114, 3) := by decide +kernel
theorem dX5_rule_19 : decode cX5_rule 19 = .ok (.invokestatic 51, 3) := by decide +kernel
theorem dX5_rule_22 : decode cX5_rule 22 = .ok (.ifCond .eq 9, 3) := by decide +kernel
theorem dX5_rule_25 : decode cX5_rule 25 = .ok (.aload_n 0, 1) := by decide +kernel
theorem dX5_rule_26 : decode cX5_rule 26 = .ok (.iconst 0, 1) := by decide +kernel
theorem dX5_rule_27 : decode cX5_rule 27 = .ok (.invokevirtual 55, 3) := by decide +kernel
theorem dX5_rule_30 : decode cX5_rule 30 = .ok (.ireturn, 1) := by decide +kernel
theorem dX5_rule_31 : decode cX5_rule 31 = .ok (.iload_n 1, 1) := by decide +kernel
theorem dX5_rule_32 : decode cX5_rule 32 = .ok (.ifCond .ne 22, 3) := by decide +kernel
theorem dX5_rule_35 : decode cX5_rule 35 = .ok (.aload_n 0, 1) := by decide +kernel
theorem dX5_rule_36 : decode cX5_rule 36 = .ok (.getfield 10, 3) := by decide +kernel
theorem dX5_rule_39 : decode cX5_rule 39 = .ok (.getfield 117, 3) := by decide +kernel
theorem dX5_rule_42 : decode cX5_rule 42 = .ok (.istore_n 3, 1) := by decide +kernel
theorem dX5_rule_43 : decode cX5_rule 43 = .ok (.aload_n 0, 1) := by decide +kernel
theorem dX5_rule_44 : decode cX5_rule 44 = .ok (.getfield 10, 3) := by decide +kernel
theorem dX5_rule_47 : decode cX5_rule 47 = .ok (.iload_n 2, 1) := by decide +kernel
theorem dX5_rule_48 : decode cX5_rule 48 = .ok (.putfield 117, 3) := by decide +kernel
theorem dX5_rule_51 : decode cX5_rule 51 = .ok (.goto 67, 3) := by decide +kernel
theorem dX5_rule_54 : decode cX5_rule 54 = .ok (.iload_n 1, 1) := by decide +kernel
theorem dX5_rule_55 : decode cX5_rule 55 = .ok (.iconst 1, 1) := by decide +kernel
theorem dX5_rule_56 : decode cX5_rule 56 = .ok (.if_icmp .ne 22, 3) := by decide +kernel
theorem dX5_rule_59 : decode cX5_rule 59 = .ok (.aload_n 0, 1) := by decide +kernel
theorem dX5_rule_60 : decode cX5_rule 60 = .ok (.getfield 10, 3) := by decide +kernel
theorem dX5_rule_63 : decode cX5_rule 63 = .ok (.getfield 120, 3) := by decide +kernel
theorem dX5_rule_66 : decode cX5_rule 66 = .ok (.istore_n 3, 1) := by decide +kernel
theorem dX5_rule_67 : decode cX5_rule 67 = .ok (.aload_n 0, 1) := by decide +kernel
theorem dX5_rule_68 : decode cX5_rule 68 = .ok (.getfield 10, 3) := by decide +kernel
theorem dX5_rule_71 : decode cX5_rule 71 = .ok (.iload_n 2, 1) := by decide +kernel
theorem dX5_rule_72 : decode cX5_rule 72 = .ok (.putfield 120, 3) := by decide +kernel
theorem dX5_rule_75 : decode cX5_rule 75 = .ok (.goto 43, 3) := by decide +kernel
theorem dX5_rule_78 : decode cX5_rule 78 = .ok (.iload_n 1, 1) := by decide +kernel
theorem dX5_rule_79 : decode cX5_rule 79 = .ok (.iconst 2, 1) := by decide +kernel
theorem dX5_rule_80 : decode cX5_rule 80 = .ok (.if_icmp .ne 22, 3) := by decide +kernel
theorem dX5_rule_83 : decode cX5_rule 83 = .ok (.aload_n 0, 1) := by decide +kernel
theorem dX5_rule_84 : decode cX5_rule 84 = .ok (.getfield 10, 3) := by decide +kernel
theorem dX5_rule_87 : decode cX5_rule 87 = .ok (.getfield 123, 3) := by decide +kernel
theorem dX5_rule_90 : decode cX5_rule 90 = .ok (.istore_n 3, 1) := by decide +kernel
theorem dX5_rule_91 : decode cX5_rule 91 = .ok (.aload_n 0, 1) := by decide +kernel
theorem dX5_rule_92 : decode cX5_rule 92 = .ok (.getfield 10, 3) := by decide +kernel
theorem dX5_rule_95 : decode cX5_rule 95 = .ok (.iload_n 2, 1) := by decide +kernel
theorem dX5_rule_96 : decode cX5_rule 96 = .ok (.putfield 123, 3) := by decide +kernel
theorem dX5_rule_99 : decode cX5_rule 99 = .ok (.goto 19, 3) := by decide +kernel
theorem dX5_rule_102 : decode cX5_rule 102 = .ok (.aload_n 0, 1) := by decide +kernel
theorem dX5_rule_103 : decode cX5_rule 103 = .ok (.getfield 10, 3) := by decide +kernel
theorem dX5_rule_106 : decode cX5_rule 106 = .ok (.getfield 126, 3) := by decide +kernel
theorem dX5_rule_109 : decode cX5_rule 109 = .ok (.istore_n 3, 1) := by decide +kernel
theorem dX5_rule_110 : decode cX5_rule 110 = .ok (.aload_n 0, 1) := by decide +kernel
theorem dX5_rule_111 : decode cX5_rule 111 = .ok (.getfield 10, 3) := by decide +kernel
theorem dX5_rule_114 : decode cX5_rule 114 = .ok (.iload_n 2, 1) := by decide +kernel
theorem dX5_rule_115 : decode cX5_rule 115 = .ok (.putfield 126, 3) := by decide +kernel
theorem dX5_rule_118 : decode cX5_rule 118 = .ok (.iload_n 3, 1) := by decide +kernel
theorem dX5_rule_119 : decode cX5_rule 119 = .ok (.ireturn, 1) := by decide +kernel
theorem dX5_leastRule_0 : decode cX5_leastRule 0 = .ok (.iload_n 1, 1) := by decide +kernel
theorem dX5_leastRule_1 : decode cX5_leastRule 1 = .ok (.ifCond .ne 13, 3) := by decide +kernel
theorem dX5_leastRule_4 : decode cX5_leastRule 4 = .ok (.aload_n 0, 1) := by decide +kernel
theorem dX5_leastRule_5 : decode cX5_leastRule 5 = .ok (.getfield 10, 3) := by decide +kernel
theorem dX5_leastRule_8 : decode cX5_leastRule 8 = .ok (.invokevirtual 129, 3) := by decide +kernel
theorem dX5_leastRule_11 : decode cX5_leastRule 11 = .ok (.goto 4, 3) := by decide +kernel
theorem dX5_leastRule_14 : decode cX5_leastRule 14 = .ok (.iconst 0, 1) := by decide +kernel
theorem dX5_leastRule_15 : decode cX5_leastRule 15 = .ok (.ireturn, 1) := by decide +kernel
theorem dX5_mostRule_0 : decode cX5_mostRule 0 = .ok (.iload_n 0, 1) := by decide +kernel
theorem dX5_mostRule_1 : decode cX5_mostRule 1 = .ok (.tableswitch 37 0 2 #[27, 31, 34], 27) := by decide +kernel
theorem dX5_mostRule_28 : decode cX5_mostRule 28 = .ok (.sipush 999, 3) := by decide +kernel
theorem dX5_mostRule_31 : decode cX5_mostRule 31 = .ok (.ireturn, 1) := by decide +kernel
theorem dX5_mostRule_32 : decode cX5_mostRule 32 = .ok (.bipush 99, 2) := by decide +kernel
theorem dX5_mostRule_34 : decode cX5_mostRule 34 = .ok (.ireturn, 1) := by decide +kernel
theorem dX5_mostRule_35 : decode cX5_mostRule 35 = .ok (.bipush 9, 2) := by decide +kernel
theorem dX5_mostRule_37 : decode cX5_mostRule 37 = .ok (.ireturn, 1) := by decide +kernel
theorem dX5_mostRule_38 : decode cX5_mostRule 38 = .ok (.bipush 23, 2) := by decide +kernel
theorem dX5_mostRule_40 : decode cX5_mostRule 40 = .ok (.ireturn, 1) := by decide +kernel
theorem dX5_water_0 : decode cX5_water 0 = .ok (.aload_n 0, 1) := by decide +kernel
theorem dX5_water_1 : decode cX5_water 1 = .ok (.iload_n 1, 1) := by decide +kernel
theorem dX5_water_2 : decode cX5_water 2 = .ok (.invokevirtual 133, 3) := by decide +kernel
theorem dX5_water_5 : decode cX5_water 5 = .ok (.ifCond .eq 9, 3) := by decide +kernel
theorem dX5_water_8 : decode cX5_water 8 = .ok (.aload_n 0, 1) := by decide +kernel
theorem dX5_water_9 : decode cX5_water 9 = .ok (.iconst 0, 1) := by decide +kernel
theorem dX5_water_10 : decode cX5_water 10 = .ok (.invokevirtual 55, 3) := by decide +kernel
theorem dX5_water_13 : decode cX5_water 13 = .ok (.ireturn, 1) := by decide +kernel
theorem dX5_water_14 : decode cX5_water 14 = .ok (.aload_n 0, 1) := by decide +kernel
theorem dX5_water_15 : decode cX5_water 15 = .ok (.getfield 10, 3) := by decide +kernel
theorem dX5_water_18 : decode cX5_water 18 = .ok (.getfield 136, 3) := by decide +kernel
theorem dX5_water_21 : decode cX5_water 21 = .ok (.istore_n 2, 1) := by decide +kernel
theorem dX5_water_22 : decode cX5_water 22 = .ok (.aload_n 0, 1) := by decide +kernel
theorem dX5_water_23 : decode cX5_water 23 = .ok (.getfield 10, 3) := by decide +kernel
theorem dX5_water_26 : decode cX5_water 26 = .ok (.iload_n 1, 1) := by decide +kernel
theorem dX5_water_27 : decode cX5_water 27 = .ok (.putfield 136, 3) := by decide +kernel
theorem dX5_water_30 : decode cX5_water 30 = .ok (.iload_n 2, 1) := by decide +kernel
theorem dX5_water_31 : decode cX5_water 31 = .ok (.ireturn, 1) := by decide +kernel
theorem dX5_now_0 : decode cX5_now 0 = .ok (.iload_n 1, 1) := by decide +kernel
theorem dX5_now_1 : decode cX5_now 1 = .ok (.tableswitch 99 0 6 #[43, 51, 59, 67, 75, 83, 91], 43) := by decide +kernel
theorem dX5_now_44 : decode cX5_now 44 = .ok (.aload_n 0, 1) := by decide +kernel
theorem dX5_now_45 : decode cX5_now 45 = .ok (.getfield 10, 3) := by decide +kernel
theorem dX5_now_48 : decode cX5_now 48 = .ok (.getfield 139, 3) := by decide +kernel
theorem dX5_now_51 : decode cX5_now 51 = .ok (.ireturn, 1) := by decide +kernel
theorem dX5_now_52 : decode cX5_now 52 = .ok (.aload_n 0, 1) := by decide +kernel
theorem dX5_now_53 : decode cX5_now 53 = .ok (.getfield 10, 3) := by decide +kernel
theorem dX5_now_56 : decode cX5_now 56 = .ok (.getfield 136, 3) := by decide +kernel
theorem dX5_now_59 : decode cX5_now 59 = .ok (.ireturn, 1) := by decide +kernel
theorem dX5_now_60 : decode cX5_now 60 = .ok (.aload_n 0, 1) := by decide +kernel
theorem dX5_now_61 : decode cX5_now 61 = .ok (.getfield 10, 3) := by decide +kernel
theorem dX5_now_64 : decode cX5_now 64 = .ok (.getfield 142, 3) := by decide +kernel
theorem dX5_now_67 : decode cX5_now 67 = .ok (.ireturn, 1) := by decide +kernel
theorem dX5_now_68 : decode cX5_now 68 = .ok (.aload_n 0, 1) := by decide +kernel
theorem dX5_now_69 : decode cX5_now 69 = .ok (.getfield 10, 3) := by decide +kernel
theorem dX5_now_72 : decode cX5_now 72 = .ok (.getfield 126, 3) := by decide +kernel
theorem dX5_now_75 : decode cX5_now 75 = .ok (.ireturn, 1) := by decide +kernel
theorem dX5_now_76 : decode cX5_now 76 = .ok (.aload_n 0, 1) := by decide +kernel
theorem dX5_now_77 : decode cX5_now 77 = .ok (.getfield 10, 3) := by decide +kernel
theorem dX5_now_80 : decode cX5_now 80 = .ok (.getfield 145, 3) := by decide +kernel
theorem dX5_now_83 : decode cX5_now 83 = .ok (.ireturn, 1) := by decide +kernel
theorem dX5_now_84 : decode cX5_now 84 = .ok (.aload_n 0, 1) := by decide +kernel
theorem dX5_now_85 : decode cX5_now 85 = .ok (.getfield 10, 3) := by decide +kernel
theorem dX5_now_88 : decode cX5_now 88 = .ok (.getfield 148, 3) := by decide +kernel
theorem dX5_now_91 : decode cX5_now 91 = .ok (.ireturn, 1) := by decide +kernel
theorem dX5_now_92 : decode cX5_now 92 = .ok (.aload_n 0, 1) := by decide +kernel
theorem dX5_now_93 : decode cX5_now 93 = .ok (.getfield 10, 3) := by decide +kernel
theorem dX5_now_96 : decode cX5_now 96 = .ok (.getfield 151, 3) := by decide +kernel
theorem dX5_now_99 : decode cX5_now 99 = .ok (.ireturn, 1) := by decide +kernel
theorem dX5_now_100 : decode cX5_now 100 = .ok (.aload_n 0, 1) := by decide +kernel
theorem dX5_now_101 : decode cX5_now 101 = .ok (.iconst 0, 1) := by decide +kernel
theorem dX5_now_102 : decode cX5_now 102 = .ok (.invokevirtual 55, 3) := by decide +kernel
theorem dX5_now_105 : decode cX5_now 105 = .ok (.ireturn, 1) := by decide +kernel
theorem dX5_go_0 : decode cX5_go 0 = .ok (.iload_n 1, 1) := by decide +kernel
theorem dX5_go_1 : decode cX5_go 1 = .ok (.iconst 0, 1) := by decide +kernel
theorem dX5_go_2 : decode cX5_go 2 = .ok (.bipush 99, 2) := by decide +kernel
theorem dX5_go_4 : decode cX5_go 4 = .ok (.invokestatic 51, 3) := by decide +kernel
theorem dX5_go_7 : decode cX5_go 7 = .ok (.ifCond .eq 9, 3) := by decide +kernel
theorem dX5_go_10 : decode cX5_go 10 = .ok (.aload_n 0, 1) := by decide +kernel
theorem dX5_go_11 : decode cX5_go 11 = .ok (.iconst 0, 1) := by decide +kernel
theorem dX5_go_12 : decode cX5_go 12 = .ok (.invokevirtual 55, 3) := by decide +kernel
theorem dX5_go_15 : decode cX5_go 15 = .ok (.ireturn, 1) := by decide +kernel
theorem dX5_go_16 : decode cX5_go 16 = .ok (.aload_n 0, 1) := by decide +kernel
theorem dX5_go_17 : decode cX5_go 17 = .ok (.getfield 10, 3) := by decide +kernel
theorem dX5_go_20 : decode cX5_go 20 = .ok (.getfield 126, 3) := by decide +kernel
theorem dX5_go_23 : decode cX5_go 23 = .ok (.aload_n 0, 1) := by decide +kernel
theorem dX5_go_24 : decode cX5_go 24 = .ok (.getfield 10, 3) := by decide +kernel
theorem dX5_go_27 : decode cX5_go 27 = .ok (.getfield 139, 3) := by decide +kernel
theorem dX5_go_30 : decode cX5_go 30 = .ok (.iload_n 1, 1) := by decide +kernel
theorem dX5_go_31 : decode cX5_go 31 = .ok (.isub, 1) := by decide +kernel
theorem dX5_go_32 : decode cX5_go 32 = .ok (.invokestatic 154, 3) := by decide +kernel
theorem dX5_go_35 : decode cX5_go 35 = .ok (.bipush 10, 2) := by decide +kernel
theorem dX5_go_37 : decode cX5_go 37 = .ok (.idiv, 1) := by decide +kernel
theorem dX5_go_38 : decode cX5_go 38 = .ok (.iadd, 1) := by decide +kernel
theorem dX5_go_39 : decode cX5_go 39 = .ok (.istore_n 2, 1) := by decide +kernel
theorem dX5_go_40 : decode cX5_go 40 = .ok (.iload_n 2, 1) := by decide +kernel
theorem dX5_go_41 : decode cX5_go 41 = .ok (.bipush 24, 2) := by decide +kernel
theorem dX5_go_43 : decode cX5_go 43 = .ok (.if_icmp .lt 22, 3) := by decide +kernel
theorem dX5_go_46 : decode cX5_go 46 = .ok (.aload_n 0, 1) := by decide +kernel
theorem dX5_go_47 : decode cX5_go 47 = .ok (.getfield 10, 3) := by decide +kernel
theorem dX5_go_50 : decode cX5_go 50 = .ok (.getfield 145, 3) := by decide +kernel
theorem dX5_go_53 : decode cX5_go 53 = .ok (.sipush 999, 3) := by decide +kernel
theorem dX5_go_56 : decode cX5_go 56 = .ok (.if_icmp .lt 9, 3) := by decide +kernel
theorem dX5_go_59 : decode cX5_go 59 = .ok (.aload_n 0, 1) := by decide +kernel
theorem dX5_go_60 : decode cX5_go 60 = .ok (.iconst 4, 1) := by decide +kernel
theorem dX5_go_61 : decode cX5_go 61 = .ok (.invokevirtual 55, 3) := by decide +kernel
theorem dX5_go_64 : decode cX5_go 64 = .ok (.ireturn, 1) := by decide +kernel
theorem dX5_go_65 : decode cX5_go 65 = .ok (.aload_n 0, 1) := by decide +kernel
theorem dX5_go_66 : decode cX5_go 66 = .ok (.getfield 10, 3) := by decide +kernel
theorem dX5_go_69 : decode cX5_go 69 = .ok (.iload_n 1, 1) := by decide +kernel
theorem dX5_go_70 : decode cX5_go 70 = .ok (.invokevirtual 159, 3) := by decide +kernel
theorem dX5_go_73 : decode cX5_go 73 = .ok (.iload_n 2, 1) := by decide +kernel
theorem dX5_go_74 : decode cX5_go 74 = .ok (.bipush 24, 2) := by decide +kernel
theorem dX5_go_76 : decode cX5_go 76 = .ok (.if_icmp .lt 17, 3) := by decide +kernel
theorem dX5_go_79 : decode cX5_go 79 = .ok (.aload_n 0, 1) := by decide +kernel
theorem dX5_go_80 : decode cX5_go 80 = .ok (.getfield 10, 3) := by decide +kernel
theorem dX5_go_83 : decode cX5_go 83 = .ok (.iload_n 2, 1) := by decide +kernel
theorem dX5_go_84 : decode cX5_go 84 = .ok (.bipush 24, 2) := by decide +kernel
theorem dX5_go_86 : decode cX5_go 86 = .ok (.isub, 1) := by decide +kernel
theorem dX5_go_87 : decode cX5_go 87 = .ok (.invokevirtual 163, 3) := by decide +kernel
theorem dX5_go_90 : decode cX5_go 90 = .ok (.goto 11, 3) := by decide +kernel
theorem dX5_go_93 : decode cX5_go 93 = .ok (.aload_n 0, 1) := by decide +kernel
theorem dX5_go_94 : decode cX5_go 94 = .ok (.getfield 10, 3) := by decide +kernel
theorem dX5_go_97 : decode cX5_go 97 = .ok (.iload_n 2, 1) := by decide +kernel
theorem dX5_go_98 : decode cX5_go 98 = .ok (.putfield 126, 3) := by decide +kernel
theorem dX5_go_101 : decode cX5_go 101 = .ok (.aload_n 0, 1) := by decide +kernel
theorem dX5_go_102 : decode cX5_go 102 = .ok (.getfield 10, 3) := by decide +kernel
theorem dX5_go_105 : decode cX5_go 105 = .ok (.getfield 136, 3) := by decide +kernel
theorem dX5_go_108 : decode cX5_go 108 = .ok (.ireturn, 1) := by decide +kernel
theorem dX5_run_0 : decode cX5_run 0 = .ok (.aload_n 0, 1) := by decide +kernel
theorem dX5_run_1 : decode cX5_run 1 = .ok (.getfield 10, 3) := by decide +kernel
theorem dX5_run_4 : decode cX5_run 4 = .ok (.iload_n 1, 1) := by decide +kernel
theorem dX5_run_5 : decode cX5_run 5 = .ok (.invokevirtual 71, 3) := by decide +kernel
theorem dX5_run_8 : decode cX5_run 8 = .ok (.ifCond .ne 9, 3) := by decide +kernel
theorem dX5_run_11 : decode cX5_run 11 = .ok (.aload_n 0, 1) := by decide +kernel
theorem dX5_run_12 : decode cX5_run 12 = .ok (.iconst 0, 1) := by decide +kernel
theorem dX5_run_13 : decode cX5_run 13 = .ok (.invokevirtual 55, 3) := by decide +kernel
theorem dX5_run_16 : decode cX5_run 16 = .ok (.ireturn, 1) := by decide +kernel
theorem dX5_run_17 : decode cX5_run 17 = .ok (.aload_n 0, 1) := by decide +kernel
theorem dX5_run_18 : decode cX5_run 18 = .ok (.getfield 10, 3) := by decide +kernel
theorem dX5_run_21 : decode cX5_run 21 = .ok (.getfield 75, 3) := by decide +kernel
theorem dX5_run_24 : decode cX5_run 24 = .ok (.iload_n 1, 1) := by decide +kernel
theorem dX5_run_25 : decode cX5_run 25 = .ok (.aaload, 1) := by decide +kernel
theorem dX5_run_26 : decode cX5_run 26 = .ok (.getfield 84, 3) := by decide +kernel
theorem dX5_run_29 : decode cX5_run 29 = .ok (.aload_n 0, 1) := by decide +kernel
theorem dX5_run_30 : decode cX5_run 30 = .ok (.getfield 10, 3) := by decide +kernel
theorem dX5_run_33 : decode cX5_run 33 = .ok (.getfield 139, 3) := by decide +kernel
theorem dX5_run_36 : decode cX5_run 36 = .ok (.if_icmp .ne 14, 3) := by decide +kernel
theorem dX5_run_39 : decode cX5_run 39 = .ok (.aload_n 0, 1) := by decide +kernel
theorem dX5_run_40 : decode cX5_run 40 = .ok (.getfield 10, 3) := by decide +kernel
theorem dX5_run_43 : decode cX5_run 43 = .ok (.iload_n 1, 1) := by decide +kernel
theorem dX5_run_44 : decode cX5_run 44 = .ok (.invokevirtual 166, 3) := by decide +kernel
theorem dX5_run_47 : decode cX5_run 47 = .ok (.ifCond .ne 9, 3) := by decide +kernel
theorem dX5_run_50 : decode cX5_run 50 = .ok (.aload_n 0, 1) := by decide +kernel
theorem dX5_run_51 : decode cX5_run 51 = .ok (.iconst 4, 1) := by decide +kernel
theorem dX5_run_52 : decode cX5_run 52 = .ok (.invokevirtual 55, 3) := by decide +kernel
theorem dX5_run_55 : decode cX5_run 55 = .ok (.ireturn, 1) := by decide +kernel
theorem dX5_run_56 : decode cX5_run 56 = .ok (.aload_n 0, 1) := by decide +kernel
theorem dX5_run_57 : decode cX5_run 57 = .ok (.getfield 10, 3) := by decide +kernel
theorem dX5_run_60 : decode cX5_run 60 = .ok (.iload_n 1, 1) := by decide +kernel
theorem dX5_run_61 : decode cX5_run 61 = .ok (.invokevirtual 169, 3) := by decide +kernel
theorem dX5_run_64 : decode cX5_run 64 = .ok (.aload_n 0, 1) := by decide +kernel
theorem dX5_run_65 : decode cX5_run 65 = .ok (.getfield 10, 3) := by decide +kernel
theorem dX5_run_68 : decode cX5_run 68 = .ok (.getfield 136, 3) := by decide +kernel
theorem dX5_run_71 : decode cX5_run 71 = .ok (.ireturn, 1) := by decide +kernel
theorem dX5_can_0 : decode cX5_can 0 = .ok (.aload_n 0, 1) := by decide +kernel
theorem dX5_can_1 : decode cX5_can 1 = .ok (.getfield 10, 3) := by decide +kernel
theorem dX5_can_4 : decode cX5_can 4 = .ok (.iload_n 1, 1) := by decide +kernel
theorem dX5_can_5 : decode cX5_can 5 = .ok (.invokevirtual 71, 3) := by decide +kernel
theorem dX5_can_8 : decode cX5_can 8 = .ok (.ifCond .ne 9, 3) := by decide +kernel
theorem dX5_can_11 : decode cX5_can 11 = .ok (.aload_n 0, 1) := by decide +kernel
theorem dX5_can_12 : decode cX5_can 12 = .ok (.iconst 0, 1) := by decide +kernel
theorem dX5_can_13 : decode cX5_can 13 = .ok (.invokevirtual 55, 3) := by decide +kernel
theorem dX5_can_16 : decode cX5_can 16 = .ok (.ireturn, 1) := by decide +kernel
theorem dX5_can_17 : decode cX5_can 17 = .ok (.aload_n 0, 1) := by decide +kernel
theorem dX5_can_18 : decode cX5_can 18 = .ok (.getfield 10, 3) := by decide +kernel
theorem dX5_can_21 : decode cX5_can 21 = .ok (.iload_n 1, 1) := by decide +kernel
theorem dX5_can_22 : decode cX5_can 22 = .ok (.invokevirtual 166, 3) := by decide +kernel
theorem dX5_can_25 : decode cX5_can 25 = .ok (.ifCond .eq 7, 3) := by decide +kernel
theorem dX5_can_28 : decode cX5_can 28 = .ok (.iconst 1, 1) := by decide +kernel
theorem dX5_can_29 : decode cX5_can 29 = .ok (.goto 4, 3) := by decide +kernel
theorem dX5_can_32 : decode cX5_can 32 = .ok (.iconst 0, 1) := by decide +kernel
theorem dX5_can_33 : decode cX5_can 33 = .ok (.ireturn, 1) := by decide +kernel
theorem dX5_pour_0 : decode cX5_pour 0 = .ok (.aload_n 0, 1) := by decide +kernel
theorem dX5_pour_1 : decode cX5_pour 1 = .ok (.getfield 10, 3) := by decide +kernel
theorem dX5_pour_4 : decode cX5_pour 4 = .ok (.getfield 139, 3) := by decide +kernel
theorem dX5_pour_7 : decode cX5_pour 7 = .ok (.ifCond .eq 9, 3) := by decide +kernel
theorem dX5_pour_10 : decode cX5_pour 10 = .ok (.aload_n 0, 1) := by decide +kernel
theorem dX5_pour_11 : decode cX5_pour 11 = .ok (.iconst 4, 1) := by decide +kernel
theorem dX5_pour_12 : decode cX5_pour 12 = .ok (.invokevirtual 55, 3) := by decide +kernel
theorem dX5_pour_15 : decode cX5_pour 15 = .ok (.ireturn, 1) := by decide +kernel
theorem dX5_pour_16 : decode cX5_pour 16 = .ok (.aload_n 0, 1) := by decide +kernel
theorem dX5_pour_17 : decode cX5_pour 17 = .ok (.getfield 10, 3) := by decide +kernel
theorem dX5_pour_20 : decode cX5_pour 20 = .ok (.getfield 136, 3) := by decide +kernel
theorem dX5_pour_23 : decode cX5_pour 23 = .ok (.istore_n 1, 1) := by decide +kernel
theorem dX5_pour_24 : decode cX5_pour 24 = .ok (.aload_n 0, 1) := by decide +kernel
theorem dX5_pour_25 : decode cX5_pour 25 = .ok (.getfield 10, 3) := by decide +kernel
theorem dX5_pour_28 : decode cX5_pour 28 = .ok (.dup, 1) := by decide +kernel
theorem dX5_pour_29 : decode cX5_pour 29 = .ok (.getfield 142, 3) := by decide +kernel
theorem dX5_pour_32 : decode cX5_pour 32 = .ok (.iload_n 1, 1) := by decide +kernel
theorem dX5_pour_33 : decode cX5_pour 33 = .ok (.iadd, 1) := by decide +kernel
theorem dX5_pour_34 : decode cX5_pour 34 = .ok (.putfield 142, 3) := by decide +kernel
theorem dX5_pour_37 : decode cX5_pour 37 = .ok (.aload_n 0, 1) := by decide +kernel
theorem dX5_pour_38 : decode cX5_pour 38 = .ok (.getfield 10, 3) := by decide +kernel
theorem dX5_pour_41 : decode cX5_pour 41 = .ok (.iconst 0, 1) := by decide +kernel
theorem dX5_pour_42 : decode cX5_pour 42 = .ok (.putfield 136, 3) := by decide +kernel
theorem dX5_pour_45 : decode cX5_pour 45 = .ok (.iload_n 1, 1) := by decide +kernel
theorem dX5_pour_46 : decode cX5_pour 46 = .ok (.ireturn, 1) := by decide +kernel
theorem dX5_fill_0 : decode cX5_fill 0 = .ok (.iload_n 1, 1) := by decide +kernel
theorem dX5_fill_1 : decode cX5_fill 1 = .ok (.iconst 1, 1) := by decide +kernel
theorem dX5_fill_2 : decode cX5_fill 2 = .ok (.sipush 999, 3) := by decide +kernel
theorem dX5_fill_5 : decode cX5_fill 5 = .ok (.invokestatic 51, 3) := by decide +kernel
theorem dX5_fill_8 : decode cX5_fill 8 = .ok (.ifCond .eq 9, 3) := by decide +kernel
theorem dX5_fill_11 : decode cX5_fill 11 = .ok (.aload_n 0, 1) := by decide +kernel
theorem dX5_fill_12 : decode cX5_fill 12 = .ok (.iconst 0, 1) := by decide +kernel
theorem dX5_fill_13 : decode cX5_fill 13 = .ok (.invokevirtual 55, 3) := by decide +kernel
theorem dX5_fill_16 : decode cX5_fill 16 = .ok (.ireturn, 1) := by decide +kernel
theorem dX5_fill_17 : decode cX5_fill 17 = .ok (.aload_n 0, 1) := by decide +kernel
theorem dX5_fill_18 : decode cX5_fill 18 = .ok (.getfield 10, 3) := by decide +kernel
theorem dX5_fill_21 : decode cX5_fill 21 = .ok (.getfield 139, 3) := by decide +kernel
theorem dX5_fill_24 : decode cX5_fill 24 = .ok (.ifCond .ne 33, 3) := by decide +kernel
theorem dX5_fill_27 : decode cX5_fill 27 = .ok (.aload_n 0, 1) := by decide +kernel
theorem dX5_fill_28 : decode cX5_fill 28 = .ok (.getfield 10, 3) := by decide +kernel
theorem dX5_fill_31 : decode cX5_fill 31 = .ok (.getfield 142, 3) := by decide +kernel
theorem dX5_fill_34 : decode cX5_fill 34 = .ok (.iload_n 1, 1) := by decide +kernel
theorem dX5_fill_35 : decode cX5_fill 35 = .ok (.if_icmp .lt 22, 3) := by decide +kernel
theorem dX5_fill_38 : decode cX5_fill 38 = .ok (.aload_n 0, 1) := by decide +kernel
theorem dX5_fill_39 : decode cX5_fill 39 = .ok (.getfield 10, 3) := by decide +kernel
theorem dX5_fill_42 : decode cX5_fill 42 = .ok (.getfield 136, 3) := by decide +kernel
theorem dX5_fill_45 : decode cX5_fill 45 = .ok (.iload_n 1, 1) := by decide +kernel
theorem dX5_fill_46 : decode cX5_fill 46 = .ok (.iadd, 1) := by decide +kernel
theorem dX5_fill_47 : decode cX5_fill 47 = .ok (.aload_n 0, 1) := by decide +kernel
theorem dX5_fill_48 : decode cX5_fill 48 = .ok (.getfield 10, 3) := by decide +kernel
theorem dX5_fill_51 : decode cX5_fill 51 = .ok (.getfield 117, 3) := by decide +kernel
theorem dX5_fill_54 : decode cX5_fill 54 = .ok (.if_icmp .le 9, 3) := by decide +kernel
theorem dX5_fill_57 : decode cX5_fill 57 = .ok (.aload_n 0, 1) := by decide +kernel
theorem dX5_fill_58 : decode cX5_fill 58 = .ok (.iconst 4, 1) := by decide +kernel
theorem dX5_fill_59 : decode cX5_fill 59 = .ok (.invokevirtual 55, 3) := by decide +kernel
theorem dX5_fill_62 : decode cX5_fill 62 = .ok (.ireturn, 1) := by decide +kernel
theorem dX5_fill_63 : decode cX5_fill 63 = .ok (.aload_n 0, 1) := by decide +kernel
theorem dX5_fill_64 : decode cX5_fill 64 = .ok (.getfield 10, 3) := by decide +kernel
theorem dX5_fill_67 : decode cX5_fill 67 = .ok (.dup, 1) := by decide +kernel
theorem dX5_fill_68 : decode cX5_fill 68 = .ok (.getfield 142, 3) := by decide +kernel
theorem dX5_fill_71 : decode cX5_fill 71 = .ok (.iload_n 1, 1) := by decide +kernel
theorem dX5_fill_72 : decode cX5_fill 72 = .ok (.isub, 1) := by decide +kernel
theorem dX5_fill_73 : decode cX5_fill 73 = .ok (.putfield 142, 3) := by decide +kernel
theorem dX5_fill_76 : decode cX5_fill 76 = .ok (.aload_n 0, 1) := by decide +kernel
theorem dX5_fill_77 : decode cX5_fill 77 = .ok (.getfield 10, 3) := by decide +kernel
theorem dX5_fill_80 : decode cX5_fill 80 = .ok (.dup, 1) := by decide +kernel
theorem dX5_fill_81 : decode cX5_fill 81 = .ok (.getfield 136, 3) := by decide +kernel
theorem dX5_fill_84 : decode cX5_fill 84 = .ok (.iload_n 1, 1) := by decide +kernel
theorem dX5_fill_85 : decode cX5_fill 85 = .ok (.iadd, 1) := by decide +kernel
theorem dX5_fill_86 : decode cX5_fill 86 = .ok (.putfield 136, 3) := by decide +kernel
theorem dX5_fill_89 : decode cX5_fill 89 = .ok (.aload_n 0, 1) := by decide +kernel
theorem dX5_fill_90 : decode cX5_fill 90 = .ok (.getfield 10, 3) := by decide +kernel
theorem dX5_fill_93 : decode cX5_fill 93 = .ok (.getfield 136, 3) := by decide +kernel
theorem dX5_fill_96 : decode cX5_fill 96 = .ok (.ireturn, 1) := by decide +kernel
theorem dX5_night_0 : decode cX5_night 0 = .ok (.aload_n 0, 1) := by decide +kernel
theorem dX5_night_1 : decode cX5_night 1 = .ok (.getfield 10, 3) := by decide +kernel
theorem dX5_night_4 : decode cX5_night 4 = .ok (.getfield 145, 3) := by decide +kernel
theorem dX5_night_7 : decode cX5_night 7 = .ok (.sipush 999, 3) := by decide +kernel
theorem dX5_night_10 : decode cX5_night 10 = .ok (.if_icmp .lt 9, 3) := by decide +kernel
theorem dX5_night_13 : decode cX5_night 13 = .ok (.aload_n 0, 1) := by decide +kernel
theorem dX5_night_14 : decode cX5_night 14 = .ok (.iconst 4, 1) := by decide +kernel
theorem dX5_night_15 : decode cX5_night 15 = .ok (.invokevirtual 55, 3) := by decide +kernel
theorem dX5_night_18 : decode cX5_night 18 = .ok (.ireturn, 1) := by decide +kernel
theorem dX5_night_19 : decode cX5_night 19 = .ok (.aload_n 0, 1) := by decide +kernel
theorem dX5_night_20 : decode cX5_night 20 = .ok (.getfield 10, 3) := by decide +kernel
theorem dX5_night_23 : decode cX5_night 23 = .ok (.iconst 0, 1) := by decide +kernel
theorem dX5_night_24 : decode cX5_night 24 = .ok (.invokevirtual 163, 3) := by decide +kernel
theorem dX5_night_27 : decode cX5_night 27 = .ok (.aload_n 0, 1) := by decide +kernel
theorem dX5_night_28 : decode cX5_night 28 = .ok (.getfield 10, 3) := by decide +kernel
theorem dX5_night_31 : decode cX5_night 31 = .ok (.getfield 145, 3) := by decide +kernel
theorem dX5_night_34 : decode cX5_night 34 = .ok (.ireturn, 1) := by decide +kernel
theorem dX5_row_0 : decode cX5_row 0 = .ok (.aload_n 0, 1) := by decide +kernel
theorem dX5_row_1 : decode cX5_row 1 = .ok (.iload_n 1, 1) := by decide +kernel
theorem dX5_row_2 : decode cX5_row 2 = .ok (.invokevirtual 133, 3) := by decide +kernel
theorem dX5_row_5 : decode cX5_row 5 = .ok (.ifCond .eq 9, 3) := by decide +kernel
theorem dX5_row_8 : decode cX5_row 8 = .ok (.aload_n 0, 1) := by decide +kernel
theorem dX5_row_9 : decode cX5_row 9 = .ok (.iconst 0, 1) := by decide +kernel
theorem dX5_row_10 : decode cX5_row 10 = .ok (.invokevirtual 55, 3) := by decide +kernel
theorem dX5_row_13 : decode cX5_row 13 = .ok (.ireturn, 1) := by decide +kernel
theorem dX5_row_14 : decode cX5_row 14 = .ok (.aload_n 0, 1) := by decide +kernel
theorem dX5_row_15 : decode cX5_row 15 = .ok (.getfield 46, 3) := by decide +kernel
theorem dX5_row_18 : decode cX5_row 18 = .ok (.aload_n 0, 1) := by decide +kernel
theorem dX5_row_19 : decode cX5_row 19 = .ok (.getfield 10, 3) := by decide +kernel
theorem dX5_row_22 : decode cX5_row 22 = .ok (.aload_n 0, 1) := by decide +kernel
theorem dX5_row_23 : decode cX5_row 23 = .ok (.getfield 10, 3) := by decide +kernel
theorem dX5_row_26 : decode cX5_row 26 = .ok (.getfield 123, 3) := by decide +kernel
theorem dX5_row_29 : decode cX5_row 29 = .ok (.invokevirtual 172, 3) := by decide +kernel
theorem dX5_row_32 : decode cX5_row 32 = .ok (.aload_n 0, 1) := by decide +kernel
theorem dX5_row_33 : decode cX5_row 33 = .ok (.getfield 46, 3) := by decide +kernel
theorem dX5_row_36 : decode cX5_row 36 = .ok (.invokevirtual 176, 3) := by decide +kernel
theorem dX5_row_39 : decode cX5_row 39 = .ok (.aload_n 0, 1) := by decide +kernel
theorem dX5_row_40 : decode cX5_row 40 = .ok (.getfield 46, 3) := by decide +kernel
theorem dX5_row_43 : decode cX5_row 43 = .ok (.iload_n 1, 1) := by decide +kernel
theorem dX5_row_44 : decode cX5_row 44 = .ok (.iconst (-1), 1) := by decide +kernel
theorem dX5_row_45 : decode cX5_row 45 = .ok (.invokevirtual 179, 3) := by decide +kernel
theorem dX5_row_48 : decode cX5_row 48 = .ok (.ireturn, 1) := by decide +kernel
theorem dX5_most_0 : decode cX5_most 0 = .ok (.aload_n 0, 1) := by decide +kernel
theorem dX5_most_1 : decode cX5_most 1 = .ok (.iload_n 1, 1) := by decide +kernel
theorem dX5_most_2 : decode cX5_most 2 = .ok (.invokevirtual 133, 3) := by decide +kernel
theorem dX5_most_5 : decode cX5_most 5 = .ok (.ifCond .eq 9, 3) := by decide +kernel
theorem dX5_most_8 : decode cX5_most 8 = .ok (.aload_n 0, 1) := by decide +kernel
theorem dX5_most_9 : decode cX5_most 9 = .ok (.iconst 0, 1) := by decide +kernel
theorem dX5_most_10 : decode cX5_most 10 = .ok (.invokevirtual 55, 3) := by decide +kernel
theorem dX5_most_13 : decode cX5_most 13 = .ok (.ireturn, 1) := by decide +kernel
theorem dX5_most_14 : decode cX5_most 14 = .ok (.aload_n 0, 1) := by decide +kernel
theorem dX5_most_15 : decode cX5_most 15 = .ok (.getfield 46, 3) := by decide +kernel
theorem dX5_most_18 : decode cX5_most 18 = .ok (.aload_n 0, 1) := by decide +kernel
theorem dX5_most_19 : decode cX5_most 19 = .ok (.getfield 10, 3) := by decide +kernel
theorem dX5_most_22 : decode cX5_most 22 = .ok (.aload_n 0, 1) := by decide +kernel
theorem dX5_most_23 : decode cX5_most 23 = .ok (.getfield 10, 3) := by decide +kernel
theorem dX5_most_26 : decode cX5_most 26 = .ok (.getfield 123, 3) := by decide +kernel
theorem dX5_most_29 : decode cX5_most 29 = .ok (.invokevirtual 172, 3) := by decide +kernel
theorem dX5_most_32 : decode cX5_most 32 = .ok (.aload_n 0, 1) := by decide +kernel
theorem dX5_most_33 : decode cX5_most 33 = .ok (.getfield 46, 3) := by decide +kernel
theorem dX5_most_36 : decode cX5_most 36 = .ok (.iload_n 1, 1) := by decide +kernel
theorem dX5_most_37 : decode cX5_most 37 = .ok (.invokevirtual 183, 3) := by decide +kernel
theorem dX5_most_40 : decode cX5_most 40 = .ok (.ireturn, 1) := by decide +kernel
theorem dX5_order_0 : decode cX5_order 0 = .ok (.aload_n 0, 1) := by decide +kernel
theorem dX5_order_1 : decode cX5_order 1 = .ok (.iload_n 1, 1) := by decide +kernel
theorem dX5_order_2 : decode cX5_order 2 = .ok (.invokevirtual 133, 3) := by decide +kernel
theorem dX5_order_5 : decode cX5_order 5 = .ok (.ifCond .ne 13, 3) := by decide +kernel
theorem dX5_order_8 : decode cX5_order 8 = .ok (.iload_n 2, 1) := by decide +kernel
theorem dX5_order_9 : decode cX5_order 9 = .ok (.iconst 0, 1) := by decide +kernel
theorem dX5_order_10 : decode cX5_order 10 = .ok (.bipush 7, 2) := by decide +kernel
theorem dX5_order_12 : decode cX5_order 12 = .ok (.invokestatic 51, 3) := by decide +kernel
theorem dX5_order_15 : decode cX5_order 15 = .ok (.ifCond .eq 9, 3) := by decide +kernel
theorem dX5_order_18 : decode cX5_order 18 = .ok (.aload_n 0, 1) := by decide +kernel
theorem dX5_order_19 : decode cX5_order 19 = .ok (.iconst 0, 1) := by decide +kernel
theorem dX5_order_20 : decode cX5_order 20 = .ok (.invokevirtual 55, 3) := by decide +kernel
theorem dX5_order_23 : decode cX5_order 23 = .ok (.ireturn, 1) := by decide +kernel
theorem dX5_order_24 : decode cX5_order 24 = .ok (.aload_n 0, 1) := by decide +kernel
theorem dX5_order_25 : decode cX5_order 25 = .ok (.getfield 46, 3) := by decide +kernel
theorem dX5_order_28 : decode cX5_order 28 = .ok (.aload_n 0, 1) := by decide +kernel
theorem dX5_order_29 : decode cX5_order 29 = .ok (.getfield 10, 3) := by decide +kernel
theorem dX5_order_32 : decode cX5_order 32 = .ok (.aload_n 0, 1) := by decide +kernel
theorem dX5_order_33 : decode cX5_order 33 = .ok (.getfield 10, 3) := by decide +kernel
theorem dX5_order_36 : decode cX5_order 36 = .ok (.getfield 123, 3) := by decide +kernel
theorem dX5_order_39 : decode cX5_order 39 = .ok (.invokevirtual 172, 3) := by decide +kernel
theorem dX5_order_42 : decode cX5_order 42 = .ok (.aload_n 0, 1) := by decide +kernel
theorem dX5_order_43 : decode cX5_order 43 = .ok (.getfield 46, 3) := by decide +kernel
theorem dX5_order_46 : decode cX5_order 46 = .ok (.iload_n 1, 1) := by decide +kernel
theorem dX5_order_47 : decode cX5_order 47 = .ok (.invokevirtual 186, 3) := by decide +kernel
theorem dX5_order_50 : decode cX5_order 50 = .ok (.iload_n 2, 1) := by decide +kernel
theorem dX5_order_51 : decode cX5_order 51 = .ok (.aload_n 0, 1) := by decide +kernel
theorem dX5_order_52 : decode cX5_order 52 = .ok (.getfield 46, 3) := by decide +kernel
theorem dX5_order_55 : decode cX5_order 55 = .ok (.getfield 189, 3) := by decide +kernel
theorem dX5_order_58 : decode cX5_order 58 = .ok (.if_icmp .ge 15, 3) := by decide +kernel
theorem dX5_order_61 : decode cX5_order 61 = .ok (.aload_n 0, 1) := by decide +kernel
theorem dX5_order_62 : decode cX5_order 62 = .ok (.getfield 46, 3) := by decide +kernel
theorem dX5_order_65 : decode cX5_order 65 = .ok (.getfield 192, 3) := by decide +kernel
theorem dX5_order_68 : decode cX5_order 68 = .ok (.iload_n 2, 1) := by decide +kernel
theorem dX5_order_69 : decode cX5_order 69 = .ok (.iaload, 1) := by decide +kernel
theorem dX5_order_70 : decode cX5_order 70 = .ok (.goto 8, 3) := by decide +kernel
theorem dX5_order_73 : decode cX5_order 73 = .ok (.aload_n 0, 1) := by decide +kernel
theorem dX5_order_74 : decode cX5_order 74 = .ok (.iconst 3, 1) := by decide +kernel
theorem dX5_order_75 : decode cX5_order 75 = .ok (.invokevirtual 55, 3) := by decide +kernel
theorem dX5_order_78 : decode cX5_order 78 = .ok (.ireturn, 1) := by decide +kernel
theorem dX5_least_0 : decode cX5_least 0 = .ok (.aload_n 0, 1) := by decide +kernel
theorem dX5_least_1 : decode cX5_least 1 = .ok (.getfield 46, 3) := by decide +kernel
theorem dX5_least_4 : decode cX5_least 4 = .ok (.aload_n 0, 1) := by decide +kernel
theorem dX5_least_5 : decode cX5_least 5 = .ok (.getfield 10, 3) := by decide +kernel
theorem dX5_least_8 : decode cX5_least 8 = .ok (.aload_n 0, 1) := by decide +kernel
theorem dX5_least_9 : decode cX5_least 9 = .ok (.getfield 10, 3) := by decide +kernel
theorem dX5_least_12 : decode cX5_least 12 = .ok (.getfield 123, 3) := by decide +kernel
theorem dX5_least_15 : decode cX5_least 15 = .ok (.invokevirtual 172, 3) := by decide +kernel
theorem dX5_least_18 : decode cX5_least 18 = .ok (.aload_n 0, 1) := by decide +kernel
theorem dX5_least_19 : decode cX5_least 19 = .ok (.aload_n 0, 1) := by decide +kernel
theorem dX5_least_20 : decode cX5_least 20 = .ok (.getfield 46, 3) := by decide +kernel
theorem dX5_least_23 : decode cX5_least 23 = .ok (.iconst 0, 1) := by decide +kernel
theorem dX5_least_24 : decode cX5_least 24 = .ok (.aload_n 0, 1) := by decide +kernel
theorem dX5_least_25 : decode cX5_least 25 = .ok (.getfield 10, 3) := by decide +kernel
theorem dX5_least_28 : decode cX5_least 28 = .ok (.getfield 67, 3) := by decide +kernel
theorem dX5_least_31 : decode cX5_least 31 = .ok (.invokevirtual 195, 3) := by decide +kernel
theorem dX5_least_34 : decode cX5_least 34 = .ok (.invokevirtual 198, 3) := by decide +kernel
theorem dX5_least_37 : decode cX5_least 37 = .ok (.ireturn, 1) := by decide +kernel
theorem dX5_leastFor_0 : decode cX5_leastFor 0 = .ok (.iload_n 1, 1) := by decide +kernel
theorem dX5_leastFor_1 : decode cX5_leastFor 1 = .ok (.iconst 0, 1) := by decide +kernel
theorem dX5_leastFor_2 : decode cX5_leastFor 2 = .ok (.sipush 999, 3) := by decide +kernel
theorem dX5_leastFor_5 : decode cX5_leastFor 5 = .ok (.invokestatic 51, 3) := by decide +kernel
theorem dX5_leastFor_8 : decode cX5_leastFor 8 = .ok (.ifCond .eq 9, 3) := by decide +kernel
theorem dX5_leastFor_11 : decode cX5_leastFor 11 = .ok (.aload_n 0, 1) := by decide +kernel
theorem dX5_leastFor_12 : decode cX5_leastFor 12 = .ok (.iconst 0, 1) := by decide +kernel
theorem dX5_leastFor_13 : decode cX5_leastFor 13 = .ok (.invokevirtual 55, 3) := by decide +kernel
theorem dX5_leastFor_16 : decode cX5_leastFor 16 = .ok (.ireturn, 1) := by decide +kernel
theorem dX5_leastFor_17 : decode cX5_leastFor 17 = .ok (.aload_n 0, 1) := by decide +kernel
theorem dX5_leastFor_18 : decode cX5_leastFor 18 = .ok (.getfield 46, 3) := by decide +kernel
theorem dX5_leastFor_21 : decode cX5_leastFor 21 = .ok (.aload_n 0, 1) := by decide +kernel
theorem dX5_leastFor_22 : decode cX5_leastFor 22 = .ok (.getfield 10, 3) := by decide +kernel
theorem dX5_leastFor_25 : decode cX5_leastFor 25 = .ok (.aload_n 0, 1) := by decide +kernel
theorem dX5_leastFor_26 : decode cX5_leastFor 26 = .ok (.getfield 10, 3) := by decide +kernel
theorem dX5_leastFor_29 : decode cX5_leastFor 29 = .ok (.getfield 123, 3) := by decide +kernel
theorem dX5_leastFor_32 : decode cX5_leastFor 32 = .ok (.invokevirtual 172, 3) := by decide +kernel
theorem dX5_leastFor_35 : decode cX5_leastFor 35 = .ok (.aload_n 0, 1) := by decide +kernel
theorem dX5_leastFor_36 : decode cX5_leastFor 36 = .ok (.aload_n 0, 1) := by decide +kernel
theorem dX5_leastFor_37 : decode cX5_leastFor 37 = .ok (.getfield 46, 3) := by decide +kernel
theorem dX5_leastFor_40 : decode cX5_leastFor 40 = .ok (.iload_n 1, 1) := by decide +kernel
theorem dX5_leastFor_41 : decode cX5_leastFor 41 = .ok (.iconst (-1), 1) := by decide +kernel
theorem dX5_leastFor_42 : decode cX5_leastFor 42 = .ok (.invokevirtual 195, 3) := by decide +kernel
theorem dX5_leastFor_45 : decode cX5_leastFor 45 = .ok (.invokevirtual 198, 3) := by decide +kernel
theorem dX5_leastFor_48 : decode cX5_leastFor 48 = .ok (.ireturn, 1) := by decide +kernel
theorem dX5_keep_0 : decode cX5_keep 0 = .ok (.aload_n 0, 1) := by decide +kernel
theorem dX5_keep_1 : decode cX5_keep 1 = .ok (.getfield 46, 3) := by decide +kernel
theorem dX5_keep_4 : decode cX5_keep 4 = .ok (.aload_n 0, 1) := by decide +kernel
theorem dX5_keep_5 : decode cX5_keep 5 = .ok (.getfield 10, 3) := by decide +kernel
theorem dX5_keep_8 : decode cX5_keep 8 = .ok (.aload_n 0, 1) := by decide +kernel
theorem dX5_keep_9 : decode cX5_keep 9 = .ok (.getfield 10, 3) := by decide +kernel
theorem dX5_keep_12 : decode cX5_keep 12 = .ok (.getfield 123, 3) := by decide +kernel
theorem dX5_keep_15 : decode cX5_keep 15 = .ok (.invokevirtual 172, 3) := by decide +kernel
theorem dX5_keep_18 : decode cX5_keep 18 = .ok (.aload_n 0, 1) := by decide +kernel
theorem dX5_keep_19 : decode cX5_keep 19 = .ok (.aload_n 0, 1) := by decide +kernel
theorem dX5_keep_20 : decode cX5_keep 20 = .ok (.getfield 46, 3) := by decide +kernel
theorem dX5_keep_23 : decode cX5_keep 23 = .ok (.invokevirtual 201, 3) := by decide +kernel
theorem dX5_keep_26 : decode cX5_keep 26 = .ok (.invokevirtual 198, 3) := by decide +kernel
theorem dX5_keep_29 : decode cX5_keep 29 = .ok (.ireturn, 1) := by decide +kernel
theorem dX5_starts_0 : decode cX5_starts 0 = .ok (.aload_n 0, 1) := by decide +kernel
theorem dX5_starts_1 : decode cX5_starts 1 = .ok (.iload_n 1, 1) := by decide +kernel
theorem dX5_starts_2 : decode cX5_starts 2 = .ok (.invokevirtual 133, 3) := by decide +kernel
theorem dX5_starts_5 : decode cX5_starts 5 = .ok (.ifCond .eq 9, 3) := by decide +kernel
theorem dX5_starts_8 : decode cX5_starts 8 = .ok (.aload_n 0, 1) := by decide +kernel
theorem dX5_starts_9 : decode cX5_starts 9 = .ok (.iconst 0, 1) := by decide +kernel
theorem dX5_starts_10 : decode cX5_starts 10 = .ok (.invokevirtual 55, 3) := by decide +kernel
theorem dX5_starts_13 : decode cX5_starts 13 = .ok (.ireturn, 1) := by decide +kernel
theorem dX5_starts_14 : decode cX5_starts 14 = .ok (.aload_n 0, 1) := by decide +kernel
theorem dX5_starts_15 : decode cX5_starts 15 = .ok (.getfield 46, 3) := by decide +kernel
theorem dX5_starts_18 : decode cX5_starts 18 = .ok (.aload_n 0, 1) := by decide +kernel
theorem dX5_starts_19 : decode cX5_starts 19 = .ok (.getfield 10, 3) := by decide +kernel
theorem dX5_starts_22 : decode cX5_starts 22 = .ok (.aload_n 0, 1) := by decide +kernel
theorem dX5_starts_23 : decode cX5_starts 23 = .ok (.getfield 10, 3) := by decide +kernel
theorem dX5_starts_26 : decode cX5_starts 26 = .ok (.getfield 123, 3) := by decide +kernel
theorem dX5_starts_29 : decode cX5_starts 29 = .ok (.invokevirtual 172, 3) := by decide +kernel
theorem dX5_starts_32 : decode cX5_starts 32 = .ok (.aload_n 0, 1) := by decide +kernel
theorem dX5_starts_33 : decode cX5_starts 33 = .ok (.getfield 46, 3) := by decide +kernel
theorem dX5_starts_36 : decode cX5_starts 36 = .ok (.iload_n 1, 1) := by decide +kernel
theorem dX5_starts_37 : decode cX5_starts 37 = .ok (.invokevirtual 204, 3) := by decide +kernel
theorem dX5_starts_40 : decode cX5_starts 40 = .ok (.ireturn, 1) := by decide +kernel
theorem dX5_ring_0 : decode cX5_ring 0 = .ok (.aload_n 0, 1) := by decide +kernel
theorem dX5_ring_1 : decode cX5_ring 1 = .ok (.getfield 46, 3) := by decide +kernel
theorem dX5_ring_4 : decode cX5_ring 4 = .ok (.aload_n 0, 1) := by decide +kernel
theorem dX5_ring_5 : decode cX5_ring 5 = .ok (.getfield 10, 3) := by decide +kernel
theorem dX5_ring_8 : decode cX5_ring 8 = .ok (.aload_n 0, 1) := by decide +kernel
theorem dX5_ring_9 : decode cX5_ring 9 = .ok (.getfield 10, 3) := by decide +kernel
theorem dX5_ring_12 : decode cX5_ring 12 = .ok (.getfield 123, 3) := by decide +kernel
theorem dX5_ring_15 : decode cX5_ring 15 = .ok (.invokevirtual 172, 3) := by decide +kernel
theorem dX5_ring_18 : decode cX5_ring 18 = .ok (.aload_n 0, 1) := by decide +kernel
theorem dX5_ring_19 : decode cX5_ring 19 = .ok (.getfield 46, 3) := by decide +kernel
theorem dX5_ring_22 : decode cX5_ring 22 = .ok (.invokevirtual 207, 3) := by decide +kernel
theorem dX5_ring_25 : decode cX5_ring 25 = .ok (.istore_n 1, 1) := by decide +kernel
theorem dX5_ring_26 : decode cX5_ring 26 = .ok (.iload_n 1, 1) := by decide +kernel
theorem dX5_ring_27 : decode cX5_ring 27 = .ok (.ifCond .ne 11, 3) := by decide +kernel
theorem dX5_ring_30 : decode cX5_ring 30 = .ok (.aload_n 0, 1) := by decide +kernel
theorem dX5_ring_31 : decode cX5_ring 31 = .ok (.iconst 3, 1) := by decide +kernel
theorem dX5_ring_32 : decode cX5_ring 32 = .ok (.invokevirtual 55, 3) := by decide +kernel
theorem dX5_ring_35 : decode cX5_ring 35 = .ok (.goto 4, 3) := by decide +kernel
theorem dX5_ring_38 : decode cX5_ring 38 = .ok (.iload_n 1, 1) := by decide +kernel
theorem dX5_ring_39 : decode cX5_ring 39 = .ok (.ireturn, 1) := by decide +kernel
theorem dX5_mistake_0 : decode cX5_mistake 0 = .ok (.aload_n 0, 1) := by decide +kernel
theorem dX5_mistake_1 : decode cX5_mistake 1 = .ok (.iload_n 1, 1) := by decide +kernel
theorem dX5_mistake_2 : decode cX5_mistake 2 = .ok (.invokevirtual 133, 3) := by decide +kernel
theorem dX5_mistake_5 : decode cX5_mistake 5 = .ok (.ifCond .ne 13, 3) := by decide +kernel
theorem dX5_mistake_8 : decode cX5_mistake 8 = .ok (.iload_n 2, 1) := by decide +kernel
theorem dX5_mistake_9 : decode cX5_mistake 9 = .ok (.iconst 0, 1) := by decide +kernel
theorem dX5_mistake_10 : decode cX5_mistake 10 = .ok (.bipush 7, 2) := by decide +kernel
theorem dX5_mistake_12 : decode cX5_mistake 12 = .ok (.invokestatic 51, 3) := by decide +kernel
theorem dX5_mistake_15 : decode cX5_mistake 15 = .ok (.ifCond .eq 9, 3) := by decide +kernel
theorem dX5_mistake_18 : decode cX5_mistake 18 = .ok (.aload_n 0, 1) := by decide +kernel
theorem dX5_mistake_19 : decode cX5_mistake 19 = .ok (.iconst 0, 1) := by decide +kernel
theorem dX5_mistake_20 : decode cX5_mistake 20 = .ok (.invokevirtual 55, 3) := by decide +kernel
theorem dX5_mistake_23 : decode cX5_mistake 23 = .ok (.ireturn, 1) := by decide +kernel
theorem dX5_mistake_24 : decode cX5_mistake 24 = .ok (.aload_n 0, 1) := by decide +kernel
theorem dX5_mistake_25 : decode cX5_mistake 25 = .ok (.getfield 46, 3) := by decide +kernel
theorem dX5_mistake_28 : decode cX5_mistake 28 = .ok (.aload_n 0, 1) := by decide +kernel
theorem dX5_mistake_29 : decode cX5_mistake 29 = .ok (.getfield 10, 3) := by decide +kernel
theorem dX5_mistake_32 : decode cX5_mistake 32 = .ok (.aload_n 0, 1) := by decide +kernel
theorem dX5_mistake_33 : decode cX5_mistake 33 = .ok (.getfield 10, 3) := by decide +kernel
theorem dX5_mistake_36 : decode cX5_mistake 36 = .ok (.getfield 123, 3) := by decide +kernel
theorem dX5_mistake_39 : decode cX5_mistake 39 = .ok (.invokevirtual 172, 3) := by decide +kernel
theorem dX5_mistake_42 : decode cX5_mistake 42 = .ok (.aload_n 0, 1) := by decide +kernel
theorem dX5_mistake_43 : decode cX5_mistake 43 = .ok (.getfield 46, 3) := by decide +kernel
theorem dX5_mistake_46 : decode cX5_mistake 46 = .ok (.iload_n 1, 1) := by decide +kernel
theorem dX5_mistake_47 : decode cX5_mistake 47 = .ok (.invokevirtual 186, 3) := by decide +kernel
theorem dX5_mistake_50 : decode cX5_mistake 50 = .ok (.iload_n 2, 1) := by decide +kernel
theorem dX5_mistake_51 : decode cX5_mistake 51 = .ok (.aload_n 0, 1) := by decide +kernel
theorem dX5_mistake_52 : decode cX5_mistake 52 = .ok (.getfield 46, 3) := by decide +kernel
theorem dX5_mistake_55 : decode cX5_mistake 55 = .ok (.getfield 189, 3) := by decide +kernel
theorem dX5_mistake_58 : decode cX5_mistake 58 = .ok (.if_icmp .lt 9, 3) := by decide +kernel
theorem dX5_mistake_61 : decode cX5_mistake 61 = .ok (.aload_n 0, 1) := by decide +kernel
theorem dX5_mistake_62 : decode cX5_mistake 62 = .ok (.iconst 3, 1) := by decide +kernel
theorem dX5_mistake_63 : decode cX5_mistake 63 = .ok (.invokevirtual 55, 3) := by decide +kernel
theorem dX5_mistake_66 : decode cX5_mistake 66 = .ok (.ireturn, 1) := by decide +kernel
theorem dX5_mistake_67 : decode cX5_mistake 67 = .ok (.aload_n 0, 1) := by decide +kernel
theorem dX5_mistake_68 : decode cX5_mistake 68 = .ok (.getfield 46, 3) := by decide +kernel
theorem dX5_mistake_71 : decode cX5_mistake 71 = .ok (.iload_n 1, 1) := by decide +kernel
theorem dX5_mistake_72 : decode cX5_mistake 72 = .ok (.iconst (-1), 1) := by decide +kernel
theorem dX5_mistake_73 : decode cX5_mistake 73 = .ok (.invokevirtual 179, 3) := by decide +kernel
theorem dX5_mistake_76 : decode cX5_mistake 76 = .ok (.aload_n 0, 1) := by decide +kernel
theorem dX5_mistake_77 : decode cX5_mistake 77 = .ok (.getfield 46, 3) := by decide +kernel
theorem dX5_mistake_80 : decode cX5_mistake 80 = .ok (.iload_n 1, 1) := by decide +kernel
theorem dX5_mistake_81 : decode cX5_mistake 81 = .ok (.iload_n 2, 1) := by decide +kernel
theorem dX5_mistake_82 : decode cX5_mistake 82 = .ok (.invokevirtual 179, 3) := by decide +kernel
theorem dX5_mistake_85 : decode cX5_mistake 85 = .ok (.isub, 1) := by decide +kernel
theorem dX5_mistake_86 : decode cX5_mistake 86 = .ok (.ireturn, 1) := by decide +kernel
theorem dX5_dear_0 : decode cX5_dear 0 = .ok (.aload_n 0, 1) := by decide +kernel
theorem dX5_dear_1 : decode cX5_dear 1 = .ok (.iload_n 1, 1) := by decide +kernel
theorem dX5_dear_2 : decode cX5_dear 2 = .ok (.invokevirtual 133, 3) := by decide +kernel
theorem dX5_dear_5 : decode cX5_dear 5 = .ok (.ifCond .eq 9, 3) := by decide +kernel
theorem dX5_dear_8 : decode cX5_dear 8 = .ok (.aload_n 0, 1) := by decide +kernel
theorem dX5_dear_9 : decode cX5_dear 9 = .ok (.iconst 0, 1) := by decide +kernel
theorem dX5_dear_10 : decode cX5_dear 10 = .ok (.invokevirtual 55, 3) := by decide +kernel
theorem dX5_dear_13 : decode cX5_dear 13 = .ok (.ireturn, 1) := by decide +kernel
theorem dX5_dear_14 : decode cX5_dear 14 = .ok (.aload_n 0, 1) := by decide +kernel
theorem dX5_dear_15 : decode cX5_dear 15 = .ok (.getfield 10, 3) := by decide +kernel
theorem dX5_dear_18 : decode cX5_dear 18 = .ok (.getfield 67, 3) := by decide +kernel
theorem dX5_dear_21 : decode cX5_dear 21 = .ok (.ifCond .ne 9, 3) := by decide +kernel
theorem dX5_dear_24 : decode cX5_dear 24 = .ok (.aload_n 0, 1) := by decide +kernel
theorem dX5_dear_25 : decode cX5_dear 25 = .ok (.iconst 3, 1) := by decide +kernel
theorem dX5_dear_26 : decode cX5_dear 26 = .ok (.invokevirtual 55, 3) := by decide +kernel
theorem dX5_dear_29 : decode cX5_dear 29 = .ok (.ireturn, 1) := by decide +kernel
theorem dX5_dear_30 : decode cX5_dear 30 = .ok (.aload_n 0, 1) := by decide +kernel
theorem dX5_dear_31 : decode cX5_dear 31 = .ok (.getfield 46, 3) := by decide +kernel
theorem dX5_dear_34 : decode cX5_dear 34 = .ok (.aload_n 0, 1) := by decide +kernel
theorem dX5_dear_35 : decode cX5_dear 35 = .ok (.getfield 10, 3) := by decide +kernel
theorem dX5_dear_38 : decode cX5_dear 38 = .ok (.aload_n 0, 1) := by decide +kernel
theorem dX5_dear_39 : decode cX5_dear 39 = .ok (.getfield 10, 3) := by decide +kernel
theorem dX5_dear_42 : decode cX5_dear 42 = .ok (.getfield 123, 3) := by decide +kernel
theorem dX5_dear_45 : decode cX5_dear 45 = .ok (.invokevirtual 172, 3) := by decide +kernel
theorem dX5_dear_48 : decode cX5_dear 48 = .ok (.aload_n 0, 1) := by decide +kernel
theorem dX5_dear_49 : decode cX5_dear 49 = .ok (.getfield 46, 3) := by decide +kernel
theorem dX5_dear_52 : decode cX5_dear 52 = .ok (.iload_n 1, 1) := by decide +kernel
theorem dX5_dear_53 : decode cX5_dear 53 = .ok (.invokevirtual 210, 3) := by decide +kernel
theorem dX5_dear_56 : decode cX5_dear 56 = .ok (.ireturn, 1) := by decide +kernel
theorem dX5_spring_0 : decode cX5_spring 0 = .ok (.aload_n 0, 1) := by decide +kernel
theorem dX5_spring_1 : decode cX5_spring 1 = .ok (.iload_n 1, 1) := by decide +kernel
theorem dX5_spring_2 : decode cX5_spring 2 = .ok (.invokevirtual 133, 3) := by decide +kernel
theorem dX5_spring_5 : decode cX5_spring 5 = .ok (.ifCond .eq 9, 3) := by decide +kernel
theorem dX5_spring_8 : decode cX5_spring 8 = .ok (.aload_n 0, 1) := by decide +kernel
theorem dX5_spring_9 : decode cX5_spring 9 = .ok (.iconst 0, 1) := by decide +kernel
theorem dX5_spring_10 : decode cX5_spring 10 = .ok (.invokevirtual 55, 3) := by decide +kernel
theorem dX5_spring_13 : decode cX5_spring 13 = .ok (.ireturn, 1) := by decide +kernel
theorem dX5_spring_14 : decode cX5_spring 14 = .ok (.aload_n 0, 1) := by decide +kernel
theorem dX5_spring_15 : decode cX5_spring 15 = .ok (.getfield 10, 3) := by decide +kernel
theorem dX5_spring_18 : decode cX5_spring 18 = .ok (.invokevirtual 59, 3) := by decide +kernel
theorem dX5_spring_21 : decode cX5_spring 21 = .ok (.ifCond .eq 9, 3) := by decide +kernel
theorem dX5_spring_24 : decode cX5_spring 24 = .ok (.aload_n 0, 1) := by decide +kernel
theorem dX5_spring_25 : decode cX5_spring 25 = .ok (.iconst 1, 1) := by decide +kernel
theorem dX5_spring_26 : decode cX5_spring 26 = .ok (.invokevirtual 55, 3) := by decide +kernel
theorem dX5_spring_29 : decode cX5_spring 29 = .ok (.ireturn, 1) := by decide +kernel
theorem dX5_spring_30 : decode cX5_spring 30 = .ok (.aload_n 0, 1) := by decide +kernel
theorem dX5_spring_31 : decode cX5_spring 31 = .ok (.getfield 46, 3) := by decide +kernel
theorem dX5_spring_34 : decode cX5_spring 34 = .ok (.aload_n 0, 1) := by decide +kernel
theorem dX5_spring_35 : decode cX5_spring 35 = .ok (.getfield 10, 3) := by decide +kernel
theorem dX5_spring_38 : decode cX5_spring 38 = .ok (.aload_n 0, 1) := by decide +kernel
theorem dX5_spring_39 : decode cX5_spring 39 = .ok (.getfield 10, 3) := by decide +kernel
theorem dX5_spring_42 : decode cX5_spring 42 = .ok (.getfield 123, 3) := by decide +kernel
theorem dX5_spring_45 : decode cX5_spring 45 = .ok (.invokevirtual 172, 3) := by decide +kernel
theorem dX5_spring_48 : decode cX5_spring 48 = .ok (.aload_n 0, 1) := by decide +kernel
theorem dX5_spring_49 : decode cX5_spring 49 = .ok (.getfield 46, 3) := by decide +kernel
theorem dX5_spring_52 : decode cX5_spring 52 = .ok (.iload_n 1, 1) := by decide +kernel
theorem dX5_spring_53 : decode cX5_spring 53 = .ok (.invokevirtual 213, 3) := by decide +kernel
theorem dX5_spring_56 : decode cX5_spring 56 = .ok (.ireturn, 1) := by decide +kernel
theorem dX5_matters_0 : decode cX5_matters 0 = .ok (.aload_n 0, 1) := by decide +kernel
theorem dX5_matters_1 : decode cX5_matters 1 = .ok (.iload_n 1, 1) := by decide +kernel
theorem dX5_matters_2 : decode cX5_matters 2 = .ok (.invokevirtual 133, 3) := by decide +kernel
theorem dX5_matters_5 : decode cX5_matters 5 = .ok (.ifCond .eq 9, 3) := by decide +kernel
theorem dX5_matters_8 : decode cX5_matters 8 = .ok (.aload_n 0, 1) := by decide +kernel
theorem dX5_matters_9 : decode cX5_matters 9 = .ok (.iconst 0, 1) := by decide +kernel
theorem dX5_matters_10 : decode cX5_matters 10 = .ok (.invokevirtual 55, 3) := by decide +kernel
theorem dX5_matters_13 : decode cX5_matters 13 = .ok (.ireturn, 1) := by decide +kernel
theorem dX5_matters_14 : decode cX5_matters 14 = .ok (.aload_n 0, 1) := by decide +kernel
theorem dX5_matters_15 : decode cX5_matters 15 = .ok (.getfield 46, 3) := by decide +kernel
theorem dX5_matters_18 : decode cX5_matters 18 = .ok (.aload_n 0, 1) := by decide +kernel
theorem dX5_matters_19 : decode cX5_matters 19 = .ok (.getfield 10, 3) := by decide +kernel
theorem dX5_matters_22 : decode cX5_matters 22 = .ok (.aload_n 0, 1) := by decide +kernel
theorem dX5_matters_23 : decode cX5_matters 23 = .ok (.getfield 10, 3) := by decide +kernel
theorem dX5_matters_26 : decode cX5_matters 26 = .ok (.getfield 123, 3) := by decide +kernel
theorem dX5_matters_29 : decode cX5_matters 29 = .ok (.invokevirtual 172, 3) := by decide +kernel
theorem dX5_matters_32 : decode cX5_matters 32 = .ok (.aload_n 0, 1) := by decide +kernel
theorem dX5_matters_33 : decode cX5_matters 33 = .ok (.getfield 46, 3) := by decide +kernel
theorem dX5_matters_36 : decode cX5_matters 36 = .ok (.iload_n 1, 1) := by decide +kernel
theorem dX5_matters_37 : decode cX5_matters 37 = .ok (.invokevirtual 216, 3) := by decide +kernel
theorem dX5_matters_40 : decode cX5_matters 40 = .ok (.istore_n 2, 1) := by decide +kernel
theorem dX5_matters_41 : decode cX5_matters 41 = .ok (.iload_n 2, 1) := by decide +kernel
theorem dX5_matters_42 : decode cX5_matters 42 = .ok (.ifCond .ne 11, 3) := by decide +kernel
theorem dX5_matters_45 : decode cX5_matters 45 = .ok (.aload_n 0, 1) := by decide +kernel
theorem dX5_matters_46 : decode cX5_matters 46 = .ok (.iconst 3, 1) := by decide +kernel
theorem dX5_matters_47 : decode cX5_matters 47 = .ok (.invokevirtual 55, 3) := by decide +kernel
theorem dX5_matters_50 : decode cX5_matters 50 = .ok (.goto 4, 3) := by decide +kernel
theorem dX5_matters_53 : decode cX5_matters 53 = .ok (.iload_n 2, 1) := by decide +kernel
theorem dX5_matters_54 : decode cX5_matters 54 = .ok (.ireturn, 1) := by decide +kernel
theorem dX5_room_0 : decode cX5_room 0 = .ok (.aload_n 0, 1) := by decide +kernel
theorem dX5_room_1 : decode cX5_room 1 = .ok (.iload_n 1, 1) := by decide +kernel
theorem dX5_room_2 : decode cX5_room 2 = .ok (.invokevirtual 133, 3) := by decide +kernel
theorem dX5_room_5 : decode cX5_room 5 = .ok (.ifCond .eq 9, 3) := by decide +kernel
theorem dX5_room_8 : decode cX5_room 8 = .ok (.aload_n 0, 1) := by decide +kernel
theorem dX5_room_9 : decode cX5_room 9 = .ok (.iconst 0, 1) := by decide +kernel
theorem dX5_room_10 : decode cX5_room 10 = .ok (.invokevirtual 55, 3) := by decide +kernel
theorem dX5_room_13 : decode cX5_room 13 = .ok (.ireturn, 1) := by decide +kernel
theorem dX5_room_14 : decode cX5_room 14 = .ok (.aload_n 0, 1) := by decide +kernel
theorem dX5_room_15 : decode cX5_room 15 = .ok (.getfield 46, 3) := by decide +kernel
theorem dX5_room_18 : decode cX5_room 18 = .ok (.aload_n 0, 1) := by decide +kernel
theorem dX5_room_19 : decode cX5_room 19 = .ok (.getfield 10, 3) := by decide +kernel
theorem dX5_room_22 : decode cX5_room 22 = .ok (.aload_n 0, 1) := by decide +kernel
theorem dX5_room_23 : decode cX5_room 23 = .ok (.getfield 10, 3) := by decide +kernel
theorem dX5_room_26 : decode cX5_room 26 = .ok (.getfield 123, 3) := by decide +kernel
theorem dX5_room_29 : decode cX5_room 29 = .ok (.invokevirtual 172, 3) := by decide +kernel
theorem dX5_room_32 : decode cX5_room 32 = .ok (.aload_n 0, 1) := by decide +kernel
theorem dX5_room_33 : decode cX5_room 33 = .ok (.getfield 46, 3) := by decide +kernel
theorem dX5_room_36 : decode cX5_room 36 = .ok (.iload_n 1, 1) := by decide +kernel
theorem dX5_room_37 : decode cX5_room 37 = .ok (.invokevirtual 219, 3) := by decide +kernel
theorem dX5_room_40 : decode cX5_room 40 = .ok (.ireturn, 1) := by decide +kernel
theorem dX5_bears_0 : decode cX5_bears 0 = .ok (.aload_n 0, 1) := by decide +kernel
theorem dX5_bears_1 : decode cX5_bears 1 = .ok (.iload_n 1, 1) := by decide +kernel
theorem dX5_bears_2 : decode cX5_bears 2 = .ok (.invokevirtual 133, 3) := by decide +kernel
theorem dX5_bears_5 : decode cX5_bears 5 = .ok (.ifCond .eq 9, 3) := by decide +kernel
theorem dX5_bears_8 : decode cX5_bears 8 = .ok (.aload_n 0, 1) := by decide +kernel
theorem dX5_bears_9 : decode cX5_bears 9 = .ok (.iconst 0, 1) := by decide +kernel
theorem dX5_bears_10 : decode cX5_bears 10 = .ok (.invokevirtual 55, 3) := by decide +kernel
theorem dX5_bears_13 : decode cX5_bears 13 = .ok (.ireturn, 1) := by decide +kernel
theorem dX5_bears_14 : decode cX5_bears 14 = .ok (.bipush 9, 2) := by decide +kernel
theorem dX5_bears_16 : decode cX5_bears 16 = .ok (.istore_n 2, 1) := by decide +kernel
theorem dX5_bears_17 : decode cX5_bears 17 = .ok (.iload_n 2, 1) := by decide +kernel
theorem dX5_bears_18 : decode cX5_bears 18 = .ok (.ifCond .lt 35, 3) := by decide +kernel
theorem dX5_bears_21 : decode cX5_bears 21 = .ok (.aload_n 0, 1) := by decide +kernel
theorem dX5_bears_22 : decode cX5_bears 22 = .ok (.getfield 46, 3) := by decide +kernel
theorem dX5_bears_25 : decode cX5_bears 25 = .ok (.aload_n 0, 1) := by decide +kernel
theorem dX5_bears_26 : decode cX5_bears 26 = .ok (.getfield 10, 3) := by decide +kernel
theorem dX5_bears_29 : decode cX5_bears 29 = .ok (.iload_n 2, 1) := by decide +kernel
theorem dX5_bears_30 : decode cX5_bears 30 = .ok (.invokevirtual 172, 3) := by decide +kernel
theorem dX5_bears_33 : decode cX5_bears 33 = .ok (.aload_n 0, 1) := by decide +kernel
theorem dX5_bears_34 : decode cX5_bears 34 = .ok (.getfield 46, 3) := by decide +kernel
theorem dX5_bears_37 : decode cX5_bears 37 = .ok (.iload_n 1, 1) := by decide +kernel
theorem dX5_bears_38 : decode cX5_bears 38 = .ok (.invokevirtual 183, 3) := by decide +kernel
theorem dX5_bears_41 : decode cX5_bears 41 = .ok (.iload_n 1, 1) := by decide +kernel
theorem dX5_bears_42 : decode cX5_bears 42 = .ok (.if_icmp .lt 5, 3) := by decide +kernel
theorem dX5_bears_45 : decode cX5_bears 45 = .ok (.iload_n 2, 1) := by decide +kernel
theorem dX5_bears_46 : decode cX5_bears 46 = .ok (.ireturn, 1) := by decide +kernel
theorem dX5_bears_47 : decode cX5_bears 47 = .ok (.iinc 2 (-1), 3) := by decide +kernel
theorem dX5_bears_50 : decode cX5_bears 50 = .ok (.goto (-33), 3) := by decide +kernel
theorem dX5_bears_53 : decode cX5_bears 53 = .ok (.aload_n 0, 1) := by decide +kernel
theorem dX5_bears_54 : decode cX5_bears 54 = .ok (.iconst 3, 1) := by decide +kernel
theorem dX5_bears_55 : decode cX5_bears 55 = .ok (.invokevirtual 55, 3) := by decide +kernel
theorem dX5_bears_58 : decode cX5_bears 58 = .ok (.ireturn, 1) := by decide +kernel
theorem dX5_odds_0 : decode cX5_odds 0 = .ok (.aload_n 0, 1) := by decide +kernel
theorem dX5_odds_1 : decode cX5_odds 1 = .ok (.iload_n 1, 1) := by decide +kernel
theorem dX5_odds_2 : decode cX5_odds 2 = .ok (.invokevirtual 133, 3) := by decide +kernel
theorem dX5_odds_5 : decode cX5_odds 5 = .ok (.ifCond .ne 14, 3) := by decide +kernel
theorem dX5_odds_8 : decode cX5_odds 8 = .ok (.iload_n 2, 1) := by decide +kernel
theorem dX5_odds_9 : decode cX5_odds 9 = .ok (.iconst 0, 1) := by decide +kernel
theorem dX5_odds_10 : decode cX5_odds 10 = .ok (.sipush 999, 3) := by decide +kernel
theorem dX5_odds_13 : decode cX5_odds 13 = .ok (.invokestatic 51, 3) := by decide +kernel
theorem dX5_odds_16 : decode cX5_odds 16 = .ok (.ifCond .eq 10, 3) := by decide +kernel
theorem dX5_odds_19 : decode cX5_odds 19 = .ok (.aload_n 0, 1) := by decide +kernel
theorem dX5_odds_20 : decode cX5_odds 20 = .ok (.iconst 0, 1) := by decide +kernel
theorem dX5_odds_21 : decode cX5_odds 21 = .ok (.invokevirtual 55, 3) := by decide +kernel
theorem dX5_odds_24 : decode cX5_odds 24 = .ok (.i2l, 1) := by decide +kernel
theorem dX5_odds_25 : decode cX5_odds 25 = .ok (.lreturn, 1) := by decide +kernel
theorem dX5_odds_26 : decode cX5_odds 26 = .ok (.aload_n 0, 1) := by decide +kernel
theorem dX5_odds_27 : decode cX5_odds 27 = .ok (.getfield 46, 3) := by decide +kernel
theorem dX5_odds_30 : decode cX5_odds 30 = .ok (.aload_n 0, 1) := by decide +kernel
theorem dX5_odds_31 : decode cX5_odds 31 = .ok (.getfield 10, 3) := by decide +kernel
theorem dX5_odds_34 : decode cX5_odds 34 = .ok (.aload_n 0, 1) := by decide +kernel
theorem dX5_odds_35 : decode cX5_odds 35 = .ok (.getfield 10, 3) := by decide +kernel
theorem dX5_odds_38 : decode cX5_odds 38 = .ok (.getfield 123, 3) := by decide +kernel
theorem dX5_odds_41 : decode cX5_odds 41 = .ok (.invokevirtual 172, 3) := by decide +kernel
theorem dX5_odds_44 : decode cX5_odds 44 = .ok (.aload_n 0, 1) := by decide +kernel
theorem dX5_odds_45 : decode cX5_odds 45 = .ok (.getfield 46, 3) := by decide +kernel
theorem dX5_odds_48 : decode cX5_odds 48 = .ok (.iload_n 1, 1) := by decide +kernel
theorem dX5_odds_49 : decode cX5_odds 49 = .ok (.invokevirtual 186, 3) := by decide +kernel
theorem dX5_odds_52 : decode cX5_odds 52 = .ok (.aload_n 0, 1) := by decide +kernel
theorem dX5_odds_53 : decode cX5_odds 53 = .ok (.getfield 46, 3) := by decide +kernel
theorem dX5_odds_56 : decode cX5_odds 56 = .ok (.iload_n 1, 1) := by decide +kernel
theorem dX5_odds_57 : decode cX5_odds 57 = .ok (.iload_n 2, 1) := by decide +kernel
theorem dX5_odds_58 : decode cX5_odds 58 = .ok (.invokevirtual 222, 3) := by decide +kernel
theorem dX5_odds_61 : decode cX5_odds 61 = .ok (.lreturn, 1) := by decide +kernel
theorem dX5_mean_0 : decode cX5_mean 0 = .ok (.aload_n 0, 1) := by decide +kernel
theorem dX5_mean_1 : decode cX5_mean 1 = .ok (.iload_n 1, 1) := by decide +kernel
theorem dX5_mean_2 : decode cX5_mean 2 = .ok (.invokevirtual 133, 3) := by decide +kernel
theorem dX5_mean_5 : decode cX5_mean 5 = .ok (.ifCond .eq 10, 3) := by decide +kernel
theorem dX5_mean_8 : decode cX5_mean 8 = .ok (.aload_n 0, 1) := by decide +kernel
theorem dX5_mean_9 : decode cX5_mean 9 = .ok (.iconst 0, 1) := by decide +kernel
theorem dX5_mean_10 : decode cX5_mean 10 = .ok (.invokevirtual 55, 3) := by decide +kernel
theorem dX5_mean_13 : decode cX5_mean 13 = .ok (.i2l, 1) := by decide +kernel
theorem dX5_mean_14 : decode cX5_mean 14 = .ok (.lreturn, 1) := by decide +kernel
theorem dX5_mean_15 : decode cX5_mean 15 = .ok (.aload_n 0, 1) := by decide +kernel
theorem dX5_mean_16 : decode cX5_mean 16 = .ok (.getfield 46, 3) := by decide +kernel
theorem dX5_mean_19 : decode cX5_mean 19 = .ok (.aload_n 0, 1) := by decide +kernel
theorem dX5_mean_20 : decode cX5_mean 20 = .ok (.getfield 10, 3) := by decide +kernel
theorem dX5_mean_23 : decode cX5_mean 23 = .ok (.aload_n 0, 1) := by decide +kernel
theorem dX5_mean_24 : decode cX5_mean 24 = .ok (.getfield 10, 3) := by decide +kernel
theorem dX5_mean_27 : decode cX5_mean 27 = .ok (.getfield 123, 3) := by decide +kernel
theorem dX5_mean_30 : decode cX5_mean 30 = .ok (.invokevirtual 172, 3) := by decide +kernel
theorem dX5_mean_33 : decode cX5_mean 33 = .ok (.aload_n 0, 1) := by decide +kernel
theorem dX5_mean_34 : decode cX5_mean 34 = .ok (.getfield 46, 3) := by decide +kernel
theorem dX5_mean_37 : decode cX5_mean 37 = .ok (.iload_n 1, 1) := by decide +kernel
theorem dX5_mean_38 : decode cX5_mean 38 = .ok (.invokevirtual 186, 3) := by decide +kernel
theorem dX5_mean_41 : decode cX5_mean 41 = .ok (.aload_n 0, 1) := by decide +kernel
theorem dX5_mean_42 : decode cX5_mean 42 = .ok (.getfield 46, 3) := by decide +kernel
theorem dX5_mean_45 : decode cX5_mean 45 = .ok (.iload_n 1, 1) := by decide +kernel
theorem dX5_mean_46 : decode cX5_mean 46 = .ok (.invokevirtual 226, 3) := by decide +kernel
theorem dX5_mean_49 : decode cX5_mean 49 = .ok (.lreturn, 1) := by decide +kernel
theorem dX5_rust_0 : decode cX5_rust 0 = .ok (.iload_n 1, 1) := by decide +kernel
theorem dX5_rust_1 : decode cX5_rust 1 = .ok (.iconst 1, 1) := by decide +kernel
theorem dX5_rust_2 : decode cX5_rust 2 = .ok (.bipush 12, 2) := by decide +kernel
theorem dX5_rust_4 : decode cX5_rust 4 = .ok (.invokestatic 51, 3) := by decide +kernel
theorem dX5_rust_7 : decode cX5_rust 7 = .ok (.ifCond .eq 9, 3) := by decide +kernel
theorem dX5_rust_10 : decode cX5_rust 10 = .ok (.aload_n 0, 1) := by decide +kernel
theorem dX5_rust_11 : decode cX5_rust 11 = .ok (.iconst 0, 1) := by decide +kernel
theorem dX5_rust_12 : decode cX5_rust 12 = .ok (.invokevirtual 55, 3) := by decide +kernel
theorem dX5_rust_15 : decode cX5_rust 15 = .ok (.ireturn, 1) := by decide +kernel
theorem dX5_rust_16 : decode cX5_rust 16 = .ok (.aload_n 0, 1) := by decide +kernel
theorem dX5_rust_17 : decode cX5_rust 17 = .ok (.getfield 10, 3) := by decide +kernel
theorem dX5_rust_20 : decode cX5_rust 20 = .ok (.getfield 67, 3) := by decide +kernel
theorem dX5_rust_23 : decode cX5_rust 23 = .ok (.ifCond .ne 9, 3) := by decide +kernel
theorem dX5_rust_26 : decode cX5_rust 26 = .ok (.aload_n 0, 1) := by decide +kernel
theorem dX5_rust_27 : decode cX5_rust 27 = .ok (.iconst 4, 1) := by decide +kernel
theorem dX5_rust_28 : decode cX5_rust 28 = .ok (.invokevirtual 55, 3) := by decide +kernel
theorem dX5_rust_31 : decode cX5_rust 31 = .ok (.ireturn, 1) := by decide +kernel
theorem dX5_rust_32 : decode cX5_rust 32 = .ok (.iconst 0, 1) := by decide +kernel
theorem dX5_rust_33 : decode cX5_rust 33 = .ok (.istore_n 2, 1) := by decide +kernel
theorem dX5_rust_34 : decode cX5_rust 34 = .ok (.iload_n 2, 1) := by decide +kernel
theorem dX5_rust_35 : decode cX5_rust 35 = .ok (.iload_n 1, 1) := by decide +kernel
theorem dX5_rust_36 : decode cX5_rust 36 = .ok (.if_icmp .ge 47, 3) := by decide +kernel
theorem dX5_rust_39 : decode cX5_rust 39 = .ok (.aload_n 0, 1) := by decide +kernel
theorem dX5_rust_40 : decode cX5_rust 40 = .ok (.getfield 10, 3) := by decide +kernel
theorem dX5_rust_43 : decode cX5_rust 43 = .ok (.invokevirtual 230, 3) := by decide +kernel
theorem dX5_rust_46 : decode cX5_rust 46 = .ok (.aload_n 0, 1) := by decide +kernel
theorem dX5_rust_47 : decode cX5_rust 47 = .ok (.getfield 10, 3) := by decide +kernel
theorem dX5_rust_50 : decode cX5_rust 50 = .ok (.getfield 67, 3) := by decide +kernel
theorem dX5_rust_53 : decode cX5_rust 53 = .ok (.irem, 1) := by decide +kernel
theorem dX5_rust_54 : decode cX5_rust 54 = .ok (.istore_n 3, 1) := by decide +kernel
theorem dX5_rust_55 : decode cX5_rust 55 = .ok (.aload_n 0, 1) := by decide +kernel
theorem dX5_rust_56 : decode cX5_rust 56 = .ok (.getfield 10, 3) := by decide +kernel
theorem dX5_rust_59 : decode cX5_rust 59 = .ok (.getfield 75, 3) := by decide +kernel
theorem dX5_rust_62 : decode cX5_rust 62 = .ok (.iload_n 3, 1) := by decide +kernel
theorem dX5_rust_63 : decode cX5_rust 63 = .ok (.aaload, 1) := by decide +kernel
theorem dX5_rust_64 : decode cX5_rust 64 = .ok (.aload_n 0, 1) := by decide +kernel
theorem dX5_rust_65 : decode cX5_rust 65 = .ok (.getfield 10, 3) := by decide +kernel
theorem dX5_rust_68 : decode cX5_rust 68 = .ok (.invokevirtual 230, 3) := by decide +kernel
theorem dX5_rust_71 : decode cX5_rust 71 = .ok (.bipush 12, 2) := by decide +kernel
theorem dX5_rust_73 : decode cX5_rust 73 = .ok (.irem, 1) := by decide +kernel
theorem dX5_rust_74 : decode cX5_rust 74 = .ok (.putfield 90, 3) := by decide +kernel
theorem dX5_rust_77 : decode cX5_rust 77 = .ok (.iinc 2 1, 3) := by decide +kernel
theorem dX5_rust_80 : decode cX5_rust 80 = .ok (.goto (-46), 3) := by decide +kernel
theorem dX5_rust_83 : decode cX5_rust 83 = .ok (.iconst 0, 1) := by decide +kernel
theorem dX5_rust_84 : decode cX5_rust 84 = .ok (.istore_n 2, 1) := by decide +kernel
theorem dX5_rust_85 : decode cX5_rust 85 = .ok (.iconst 0, 1) := by decide +kernel
theorem dX5_rust_86 : decode cX5_rust 86 = .ok (.istore_n 3, 1) := by decide +kernel
theorem dX5_rust_87 : decode cX5_rust 87 = .ok (.iload_n 3, 1) := by decide +kernel
theorem dX5_rust_88 : decode cX5_rust 88 = .ok (.aload_n 0, 1) := by decide +kernel
theorem dX5_rust_89 : decode cX5_rust 89 = .ok (.getfield 10, 3) := by decide +kernel
theorem dX5_rust_92 : decode cX5_rust 92 = .ok (.getfield 67, 3) := by decide +kernel
theorem dX5_rust_95 : decode cX5_rust 95 = .ok (.if_icmp .ge 27, 3) := by decide +kernel
theorem dX5_rust_98 : decode cX5_rust 98 = .ok (.aload_n 0, 1) := by decide +kernel
theorem dX5_rust_99 : decode cX5_rust 99 = .ok (.getfield 10, 3) := by decide +kernel
theorem dX5_rust_102 : decode cX5_rust 102 = .ok (.getfield 75, 3) := by decide +kernel
theorem dX5_rust_105 : decode cX5_rust 105 = .ok (.iload_n 3, 1) := by decide +kernel
theorem dX5_rust_106 : decode cX5_rust 106 = .ok (.aaload, 1) := by decide +kernel
theorem dX5_rust_107 : decode cX5_rust 107 = .ok (.getfield 90, 3) := by decide +kernel
theorem dX5_rust_110 : decode cX5_rust 110 = .ok (.ifCond .le 6, 3) := by decide +kernel
theorem dX5_rust_113 : decode cX5_rust 113 = .ok (.iinc 2 1, 3) := by decide +kernel
theorem dX5_rust_116 : decode cX5_rust 116 = .ok (.iinc 3 1, 3) := by decide +kernel
theorem dX5_rust_119 : decode cX5_rust 119 = .ok (.goto (-32), 3) := by decide +kernel
theorem dX5_rust_122 : decode cX5_rust 122 = .ok (.iload_n 2, 1) := by decide +kernel
theorem dX5_rust_123 : decode cX5_rust 123 = .ok (.ireturn, 1) := by decide +kernel
theorem dX5_seed_0 : decode cX5_seed 0 = .ok (.aload_n 0, 1) := by decide +kernel
theorem dX5_seed_1 : decode cX5_seed 1 = .ok (.getfield 10, 3) := by decide +kernel
theorem dX5_seed_4 : decode cX5_seed 4 = .ok (.getfield 233, 3) := by decide +kernel
theorem dX5_seed_7 : decode cX5_seed 7 = .ok (.istore_n 2, 1) := by decide +kernel
theorem dX5_seed_8 : decode cX5_seed 8 = .ok (.aload_n 0, 1) := by decide +kernel
theorem dX5_seed_9 : decode cX5_seed 9 = .ok (.getfield 10, 3) := by decide +kernel
theorem dX5_seed_12 : decode cX5_seed 12 = .ok (.iload_n 1, 1) := by decide +kernel
theorem dX5_seed_13 : decode cX5_seed 13 = .ok (.putfield 233, 3) := by decide +kernel
theorem dX5_seed_16 : decode cX5_seed 16 = .ok (.iload_n 2, 1) := by decide +kernel
theorem dX5_seed_17 : decode cX5_seed 17 = .ok (.ireturn, 1) := by decide +kernel
theorem dX5_barrel_0 : decode cX5_barrel 0 = .ok (.iload_n 1, 1) := by decide +kernel
theorem dX5_barrel_1 : decode cX5_barrel 1 = .ok (.invokestatic 236, 3) := by decide +kernel
theorem dX5_barrel_4 : decode cX5_barrel 4 = .ok (.ifCond .eq 9, 3) := by decide +kernel
theorem dX5_barrel_7 : decode cX5_barrel 7 = .ok (.aload_n 0, 1) := by decide +kernel
theorem dX5_barrel_8 : decode cX5_barrel 8 = .ok (.iconst 0, 1) := by decide +kernel
theorem dX5_barrel_9 : decode cX5_barrel 9 = .ok (.invokevirtual 55, 3) := by decide +kernel
theorem dX5_barrel_12 : decode cX5_barrel 12 = .ok (.ireturn, 1) := by decide +kernel
theorem dX5_barrel_13 : decode cX5_barrel 13 = .ok (.aload_n 0, 1) := by decide +kernel
theorem dX5_barrel_14 : decode cX5_barrel 14 = .ok (.getfield 35, 3) := by decide +kernel
theorem dX5_barrel_17 : decode cX5_barrel 17 = .ok (.iload_n 1, 1) := by decide +kernel
theorem dX5_barrel_18 : decode cX5_barrel 18 = .ok (.aaload, 1) := by decide +kernel
theorem dX5_barrel_19 : decode cX5_barrel 19 = .ok (.invokevirtual 239, 3) := by decide +kernel
theorem dX5_barrel_22 : decode cX5_barrel 22 = .ok (.ifCond .eq 9, 3) := by decide +kernel
theorem dX5_barrel_25 : decode cX5_barrel 25 = .ok (.aload_n 0, 1) := by decide +kernel
theorem dX5_barrel_26 : decode cX5_barrel 26 = .ok (.iconst 5, 1) := by decide +kernel
theorem dX5_barrel_27 : decode cX5_barrel 27 = .ok (.invokevirtual 55, 3) := by decide +kernel
theorem dX5_barrel_30 : decode cX5_barrel 30 = .ok (.ireturn, 1) := by decide +kernel
theorem dX5_barrel_31 : decode cX5_barrel 31 = .ok (.aload_n 0, 1) := by decide +kernel
theorem dX5_barrel_32 : decode cX5_barrel 32 = .ok (.getfield 46, 3) := by decide +kernel
theorem dX5_barrel_35 : decode cX5_barrel 35 = .ok (.aload_n 0, 1) := by decide +kernel
theorem dX5_barrel_36 : decode cX5_barrel 36 = .ok (.getfield 10, 3) := by decide +kernel
theorem dX5_barrel_39 : decode cX5_barrel 39 = .ok (.aload_n 0, 1) := by decide +kernel
theorem dX5_barrel_40 : decode cX5_barrel 40 = .ok (.getfield 10, 3) := by decide +kernel
theorem dX5_barrel_43 : decode cX5_barrel 43 = .ok (.getfield 123, 3) := by decide +kernel
theorem dX5_barrel_46 : decode cX5_barrel 46 = .ok (.invokevirtual 172, 3) := by decide +kernel
theorem dX5_barrel_49 : decode cX5_barrel 49 = .ok (.aload_n 0, 1) := by decide +kernel
theorem dX5_barrel_50 : decode cX5_barrel 50 = .ok (.getfield 46, 3) := by decide +kernel
theorem dX5_barrel_53 : decode cX5_barrel 53 = .ok (.aload_n 0, 1) := by decide +kernel
theorem dX5_barrel_54 : decode cX5_barrel 54 = .ok (.getfield 35, 3) := by decide +kernel
theorem dX5_barrel_57 : decode cX5_barrel 57 = .ok (.iload_n 1, 1) := by decide +kernel
theorem dX5_barrel_58 : decode cX5_barrel 58 = .ok (.aaload, 1) := by decide +kernel
theorem dX5_barrel_59 : decode cX5_barrel 59 = .ok (.invokevirtual 242, 3) := by decide +kernel
theorem dX5_barrel_62 : decode cX5_barrel 62 = .ok (.ifCond .ne 9, 3) := by decide +kernel
theorem dX5_barrel_65 : decode cX5_barrel 65 = .ok (.aload_n 0, 1) := by decide +kernel
theorem dX5_barrel_66 : decode cX5_barrel 66 = .ok (.iconst 4, 1) := by decide +kernel
theorem dX5_barrel_67 : decode cX5_barrel 67 = .ok (.invokevirtual 55, 3) := by decide +kernel
theorem dX5_barrel_70 : decode cX5_barrel 70 = .ok (.ireturn, 1) := by decide +kernel
theorem dX5_barrel_71 : decode cX5_barrel 71 = .ok (.iload_n 2, 1) := by decide +kernel
theorem dX5_barrel_72 : decode cX5_barrel 72 = .ok (.iconst 0, 1) := by decide +kernel
theorem dX5_barrel_73 : decode cX5_barrel 73 = .ok (.sipush 999, 3) := by decide +kernel
theorem dX5_barrel_76 : decode cX5_barrel 76 = .ok (.invokestatic 51, 3) := by decide +kernel
theorem dX5_barrel_79 : decode cX5_barrel 79 = .ok (.ifCond .eq 9, 3) := by decide +kernel
theorem dX5_barrel_82 : decode cX5_barrel 82 = .ok (.aload_n 0, 1) := by decide +kernel
theorem dX5_barrel_83 : decode cX5_barrel 83 = .ok (.iconst 0, 1) := by decide +kernel
theorem dX5_barrel_84 : decode cX5_barrel 84 = .ok (.invokevirtual 55, 3) := by decide +kernel
theorem dX5_barrel_87 : decode cX5_barrel 87 = .ok (.ireturn, 1) := by decide +kernel
theorem dX5_barrel_88 : decode cX5_barrel 88 = .ok (.iconst 0, 1) := by decide +kernel
theorem dX5_barrel_89 : decode cX5_barrel 89 = .ok (.istore_n 3, 1) := by decide +kernel
theorem dX5_barrel_90 : decode cX5_barrel 90 = .ok (.iload_n 3, 1) := by decide +kernel
theorem dX5_barrel_91 : decode cX5_barrel 91 = .ok (.aload_n 0, 1) := by decide +kernel
theorem dX5_barrel_92 : decode cX5_barrel 92 = .ok (.getfield 10, 3) := by decide +kernel
theorem dX5_barrel_95 : decode cX5_barrel 95 = .ok (.getfield 117, 3) := by decide +kernel
theorem dX5_barrel_98 : decode cX5_barrel 98 = .ok (.if_icmp .gt 24, 3) := by decide +kernel
theorem dX5_barrel_101 : decode cX5_barrel 101 = .ok (.aload_n 0, 1) := by decide +kernel
theorem dX5_barrel_102 : decode cX5_barrel 102 = .ok (.getfield 46, 3) := by decide +kernel
theorem dX5_barrel_105 : decode cX5_barrel 105 = .ok (.iload_n 3, 1) := by decide +kernel
theorem dX5_barrel_106 : decode cX5_barrel 106 = .ok (.iconst (-1), 1) := by decide +kernel
theorem dX5_barrel_107 : decode cX5_barrel 107 = .ok (.invokevirtual 179, 3) := by decide +kernel
theorem dX5_barrel_110 : decode cX5_barrel 110 = .ok (.iload_n 2, 1) := by decide +kernel
theorem dX5_barrel_111 : decode cX5_barrel 111 = .ok (.if_icmp .ne 5, 3) := by decide +kernel
theorem dX5_barrel_114 : decode cX5_barrel 114 = .ok (.iload_n 3, 1) := by decide +kernel
theorem dX5_barrel_115 : decode cX5_barrel 115 = .ok (.ireturn, 1) := by decide +kernel
theorem dX5_barrel_116 : decode cX5_barrel 116 = .ok (.iinc 3 1, 3) := by decide +kernel
theorem dX5_barrel_119 : decode cX5_barrel 119 = .ok (.goto (-29), 3) := by decide +kernel
theorem dX5_barrel_122 : decode cX5_barrel 122 = .ok (.aload_n 0, 1) := by decide +kernel
theorem dX5_barrel_123 : decode cX5_barrel 123 = .ok (.iconst 3, 1) := by decide +kernel
theorem dX5_barrel_124 : decode cX5_barrel 124 = .ok (.invokevirtual 55, 3) := by decide +kernel
theorem dX5_barrel_127 : decode cX5_barrel 127 = .ok (.ireturn, 1) := by decide +kernel
theorem dX5_judge_0 : decode cX5_judge 0 = .ok (.iload_n 1, 1) := by decide +kernel
theorem dX5_judge_1 : decode cX5_judge 1 = .ok (.invokestatic 236, 3) := by decide +kernel
theorem dX5_judge_4 : decode cX5_judge 4 = .ok (.ifCond .eq 9, 3) := by decide +kernel
theorem dX5_judge_7 : decode cX5_judge 7 = .ok (.aload_n 0, 1) := by decide +kernel
theorem dX5_judge_8 : decode cX5_judge 8 = .ok (.iconst 0, 1) := by decide +kernel
theorem dX5_judge_9 : decode cX5_judge 9 = .ok (.invokevirtual 55, 3) := by decide +kernel
theorem dX5_judge_12 : decode cX5_judge 12 = .ok (.ireturn, 1) := by decide +kernel
theorem dX5_judge_13 : decode cX5_judge 13 = .ok (.aload_n 0, 1) := by decide +kernel
theorem dX5_judge_14 : decode cX5_judge 14 = .ok (.getfield 35, 3) := by decide +kernel
theorem dX5_judge_17 : decode cX5_judge 17 = .ok (.iload_n 1, 1) := by decide +kernel
theorem dX5_judge_18 : decode cX5_judge 18 = .ok (.aaload, 1) := by decide +kernel
theorem dX5_judge_19 : decode cX5_judge 19 = .ok (.invokevirtual 239, 3) := by decide +kernel
theorem dX5_judge_22 : decode cX5_judge 22 = .ok (.ifCond .eq 9, 3) := by decide +kernel
theorem dX5_judge_25 : decode cX5_judge 25 = .ok (.aload_n 0, 1) := by decide +kernel
theorem dX5_judge_26 : decode cX5_judge 26 = .ok (.iconst 5, 1) := by decide +kernel
theorem dX5_judge_27 : decode cX5_judge 27 = .ok (.invokevirtual 55, 3) := by decide +kernel
theorem dX5_judge_30 : decode cX5_judge 30 = .ok (.ireturn, 1) := by decide +kernel
theorem dX5_judge_31 : decode cX5_judge 31 = .ok (.aload_n 0, 1) := by decide +kernel
theorem dX5_judge_32 : decode cX5_judge 32 = .ok (.iload_n 2, 1) := by decide +kernel
theorem dX5_judge_33 : decode cX5_judge 33 = .ok (.invokevirtual 133, 3) := by decide +kernel
theorem dX5_judge_36 : decode cX5_judge 36 = .ok (.ifCond .eq 9, 3) := by decide +kernel
theorem dX5_judge_39 : decode cX5_judge 39 = .ok (.aload_n 0, 1) := by decide +kernel
theorem dX5_judge_40 : decode cX5_judge 40 = .ok (.iconst 0, 1) := by decide +kernel
theorem dX5_judge_41 : decode cX5_judge 41 = .ok (.invokevirtual 55, 3) := by decide +kernel
theorem dX5_judge_44 : decode cX5_judge 44 = .ok (.ireturn, 1) := by decide +kernel
theorem dX5_judge_45 : decode cX5_judge 45 = .ok (.aload_n 0, 1) := by decide +kernel
theorem dX5_judge_46 : decode cX5_judge 46 = .ok (.getfield 46, 3) := by decide +kernel
theorem dX5_judge_49 : decode cX5_judge 49 = .ok (.aload_n 0, 1) := by decide +kernel
theorem dX5_judge_50 : decode cX5_judge 50 = .ok (.getfield 10, 3) := by decide +kernel
theorem dX5_judge_53 : decode cX5_judge 53 = .ok (.aload_n 0, 1) := by decide +kernel
theorem dX5_judge_54 : decode cX5_judge 54 = .ok (.getfield 10, 3) := by decide +kernel
theorem dX5_judge_57 : decode cX5_judge 57 = .ok (.getfield 123, 3) := by decide +kernel
theorem dX5_judge_60 : decode cX5_judge 60 = .ok (.invokevirtual 172, 3) := by decide +kernel
theorem dX5_judge_63 : decode cX5_judge 63 = .ok (.aload_n 0, 1) := by decide +kernel
theorem dX5_judge_64 : decode cX5_judge 64 = .ok (.getfield 46, 3) := by decide +kernel
theorem dX5_judge_67 : decode cX5_judge 67 = .ok (.aload_n 0, 1) := by decide +kernel
theorem dX5_judge_68 : decode cX5_judge 68 = .ok (.getfield 35, 3) := by decide +kernel
theorem dX5_judge_71 : decode cX5_judge 71 = .ok (.iload_n 1, 1) := by decide +kernel
theorem dX5_judge_72 : decode cX5_judge 72 = .ok (.aaload, 1) := by decide +kernel
theorem dX5_judge_73 : decode cX5_judge 73 = .ok (.iload_n 2, 1) := by decide +kernel
theorem dX5_judge_74 : decode cX5_judge 74 = .ok (.invokevirtual 246, 3) := by decide +kernel
theorem dX5_judge_77 : decode cX5_judge 77 = .ok (.istore_n 3, 1) := by decide +kernel
theorem dX5_judge_78 : decode cX5_judge 78 = .ok (.iload_n 3, 1) := by decide +kernel
theorem dX5_judge_79 : decode cX5_judge 79 = .ok (.aload_n 0, 1) := by decide +kernel
theorem dX5_judge_80 : decode cX5_judge 80 = .ok (.getfield 35, 3) := by decide +kernel
theorem dX5_judge_83 : decode cX5_judge 83 = .ok (.iload_n 1, 1) := by decide +kernel
theorem dX5_judge_84 : decode cX5_judge 84 = .ok (.aaload, 1) := by decide +kernel
theorem dX5_judge_85 : decode cX5_judge 85 = .ok (.getfield 250, 3) := by decide +kernel
theorem dX5_judge_88 : decode cX5_judge 88 = .ok (.if_icmp .ne 7, 3) := by decide +kernel
theorem dX5_judge_91 : decode cX5_judge 91 = .ok (.iconst 0, 1) := by decide +kernel
theorem dX5_judge_92 : decode cX5_judge 92 = .ok (.goto 6, 3) := by decide +kernel
theorem dX5_judge_95 : decode cX5_judge 95 = .ok (.iconst 1, 1) := by decide +kernel
theorem dX5_judge_96 : decode cX5_judge 96 = .ok (.iload_n 3, 1) := by decide +kernel
theorem dX5_judge_97 : decode cX5_judge 97 = .ok (.iadd, 1) := by decide +kernel
theorem dX5_judge_98 : decode cX5_judge 98 = .ok (.ireturn, 1) := by decide +kernel
theorem dX5_feed_0 : decode cX5_feed 0 = .ok (.iload_n 2, 1) := by decide +kernel
theorem dX5_feed_1 : decode cX5_feed 1 = .ok (.iconst 1, 1) := by decide +kernel
theorem dX5_feed_2 : decode cX5_feed 2 = .ok (.iconst 4, 1) := by decide +kernel
theorem dX5_feed_3 : decode cX5_feed 3 = .ok (.invokestatic 51, 3) := by decide +kernel
theorem dX5_feed_6 : decode cX5_feed 6 = .ok (.ifCond .eq 9, 3) := by decide +kernel
theorem dX5_feed_9 : decode cX5_feed 9 = .ok (.aload_n 0, 1) := by decide +kernel
theorem dX5_feed_10 : decode cX5_feed 10 = .ok (.iconst 0, 1) := by decide +kernel
theorem dX5_feed_11 : decode cX5_feed 11 = .ok (.invokevirtual 55, 3) := by decide +kernel
theorem dX5_feed_14 : decode cX5_feed 14 = .ok (.ireturn, 1) := by decide +kernel
theorem dX5_feed_15 : decode cX5_feed 15 = .ok (.aload_n 0, 1) := by decide +kernel
theorem dX5_feed_16 : decode cX5_feed 16 = .ok (.getfield 29, 3) := by decide +kernel
theorem dX5_feed_19 : decode cX5_feed 19 = .ok (.getfield 253, 3) := by decide +kernel
theorem dX5_feed_22 : decode cX5_feed 22 = .ok (.iload_n 2, 1) := by decide +kernel
theorem dX5_feed_23 : decode cX5_feed 23 = .ok (.iadd, 1) := by decide +kernel
theorem dX5_feed_24 : decode cX5_feed 24 = .ok (.bipush 120, 2) := by decide +kernel
theorem dX5_feed_26 : decode cX5_feed 26 = .ok (.if_icmp .le 9, 3) := by decide +kernel
theorem dX5_feed_29 : decode cX5_feed 29 = .ok (.aload_n 0, 1) := by decide +kernel
theorem dX5_feed_30 : decode cX5_feed 30 = .ok (.iconst 1, 1) := by decide +kernel
theorem dX5_feed_31 : decode cX5_feed 31 = .ok (.invokevirtual 55, 3) := by decide +kernel
theorem dX5_feed_34 : decode cX5_feed 34 = .ok (.ireturn, 1) := by decide +kernel
theorem dX5_feed_35 : decode cX5_feed 35 = .ok (.iload_n 2, 1) := by decide +kernel
theorem dX5_feed_36 : decode cX5_feed 36 = .ok (.iconst 1, 1) := by decide +kernel
theorem dX5_feed_37 : decode cX5_feed 37 = .ok (.isub, 1) := by decide +kernel
theorem dX5_feed_38 : decode cX5_feed 38 = .ok (.istore_n 3, 1) := by decide +kernel
theorem dX5_feed_39 : decode cX5_feed 39 = .ok (.iload_n 3, 1) := by decide +kernel
theorem dX5_feed_40 : decode cX5_feed 40 = .ok (.ifCond .lt 22, 3) := by decide +kernel
theorem dX5_feed_43 : decode cX5_feed 43 = .ok (.aload_n 0, 1) := by decide +kernel
theorem dX5_feed_44 : decode cX5_feed 44 = .ok (.getfield 29, 3) := by decide +kernel
theorem dX5_feed_47 : decode cX5_feed 47 = .ok (.iload_n 1, 1) := by decide +kernel
theorem dX5_feed_48 : decode cX5_feed 48 = .ok (.bipush 8, 2) := by decide +kernel
theorem dX5_feed_50 : decode cX5_feed 50 = .ok (.iload_n 3, 1) := by decide +kernel
theorem dX5_feed_51 : decode cX5_feed 51 = .ok (.imul, 1) := by decide +kernel
theorem dX5_feed_52 : decode cX5_feed 52 = .ok (.iushr, 1) := by decide +kernel
theorem dX5_feed_53 : decode cX5_feed 53 = .ok (.invokevirtual 254, 3) := by decide +kernel
theorem dX5_feed_56 : decode cX5_feed 56 = .ok (.iinc 3 (-1), 3) := by decide +kernel
theorem dX5_feed_59 : decode cX5_feed 59 = .ok (.goto (-20), 3) := by decide +kernel
theorem dX5_feed_62 : decode cX5_feed 62 = .ok (.aload_n 0, 1) := by decide +kernel
theorem dX5_feed_63 : decode cX5_feed 63 = .ok (.getfield 29, 3) := by decide +kernel
theorem dX5_feed_66 : decode cX5_feed 66 = .ok (.getfield 253, 3) := by decide +kernel
theorem dX5_feed_69 : decode cX5_feed 69 = .ok (.ireturn, 1) := by decide +kernel
theorem dX5_wipe_0 : decode cX5_wipe 0 = .ok (.aload_n 0, 1) := by decide +kernel
theorem dX5_wipe_1 : decode cX5_wipe 1 = .ok (.getfield 29, 3) := by decide +kernel
theorem dX5_wipe_4 : decode cX5_wipe 4 = .ok (.getfield 253, 3) := by decide +kernel
theorem dX5_wipe_7 : decode cX5_wipe 7 = .ok (.istore_n 1, 1) := by decide +kernel
theorem dX5_wipe_8 : decode cX5_wipe 8 = .ok (.aload_n 0, 1) := by decide +kernel
theorem dX5_wipe_9 : decode cX5_wipe 9 = .ok (.getfield 29, 3) := by decide +kernel
theorem dX5_wipe_12 : decode cX5_wipe 12 = .ok (.iconst 0, 1) := by decide +kernel
theorem dX5_wipe_13 : decode cX5_wipe 13 = .ok (.putfield 253, 3) := by decide +kernel
theorem dX5_wipe_16 : decode cX5_wipe 16 = .ok (.iload_n 1, 1) := by decide +kernel
theorem dX5_wipe_17 : decode cX5_wipe 17 = .ok (.ireturn, 1) := by decide +kernel
theorem dX5_text_0 : decode cX5_text 0 = .ok (.aload_n 0, 1) := by decide +kernel
theorem dX5_text_1 : decode cX5_text 1 = .ok (.getfield 19, 3) := by decide +kernel
theorem dX5_text_4 : decode cX5_text 4 = .ok (.aload_n 0, 1) := by decide +kernel
theorem dX5_text_5 : decode cX5_text 5 = .ok (.getfield 10, 3) := by decide +kernel
theorem dX5_text_8 : decode cX5_text 8 = .ok (.invokevirtual 256, 3) := by decide +kernel
theorem dX5_text_11 : decode cX5_text 11 = .ok (.aload_n 0, 1) := by decide +kernel
theorem dX5_text_12 : decode cX5_text 12 = .ok (.getfield 29, 3) := by decide +kernel
theorem dX5_text_15 : decode cX5_text 15 = .ok (.aload_n 0, 1) := by decide +kernel
theorem dX5_text_16 : decode cX5_text 16 = .ok (.getfield 19, 3) := by decide +kernel
theorem dX5_text_19 : decode cX5_text 19 = .ok (.invokevirtual 260, 3) := by decide +kernel
theorem dX5_text_22 : decode cX5_text 22 = .ok (.istore_n 1, 1) := by decide +kernel
theorem dX5_text_23 : decode cX5_text 23 = .ok (.aload_n 0, 1) := by decide +kernel
theorem dX5_text_24 : decode cX5_text 24 = .ok (.getfield 29, 3) := by decide +kernel
theorem dX5_text_27 : decode cX5_text 27 = .ok (.iconst 0, 1) := by decide +kernel
theorem dX5_text_28 : decode cX5_text 28 = .ok (.putfield 253, 3) := by decide +kernel
theorem dX5_text_31 : decode cX5_text 31 = .ok (.iload_n 1, 1) := by decide +kernel
theorem dX5_text_32 : decode cX5_text 32 = .ok (.ifCond .lt 14, 3) := by decide +kernel
theorem dX5_text_35 : decode cX5_text 35 = .ok (.aload_n 0, 1) := by decide +kernel
theorem dX5_text_36 : decode cX5_text 36 = .ok (.getfield 10, 3) := by decide +kernel
theorem dX5_text_39 : decode cX5_text 39 = .ok (.aload_n 0, 1) := by decide +kernel
theorem dX5_text_40 : decode cX5_text 40 = .ok (.getfield 19, 3) := by decide +kernel
theorem dX5_text_43 : decode cX5_text 43 = .ok (.invokevirtual 256, 3) := by decide +kernel
theorem dX5_text_46 : decode cX5_text 46 = .ok (.iload_n 1, 1) := by decide +kernel
theorem dX5_text_47 : decode cX5_text 47 = .ok (.ireturn, 1) := by decide +kernel
theorem dX5_hold_0 : decode cX5_hold 0 = .ok (.iload_n 1, 1) := by decide +kernel
theorem dX5_hold_1 : decode cX5_hold 1 = .ok (.iconst 0, 1) := by decide +kernel
theorem dX5_hold_2 : decode cX5_hold 2 = .ok (.bipush 9, 2) := by decide +kernel
theorem dX5_hold_4 : decode cX5_hold 4 = .ok (.invokestatic 51, 3) := by decide +kernel
theorem dX5_hold_7 : decode cX5_hold 7 = .ok (.ifCond .ne 19, 3) := by decide +kernel
theorem dX5_hold_10 : decode cX5_hold 10 = .ok (.iload_n 2, 1) := by decide +kernel
theorem dX5_hold_11 : decode cX5_hold 11 = .ok (.iconst (-1), 1) := by decide +kernel
theorem dX5_hold_12 : decode cX5_hold 12 = .ok (.if_icmp .eq 20, 3) := by decide +kernel
theorem dX5_hold_15 : decode cX5_hold 15 = .ok (.aload_n 0, 1) := by decide +kernel
theorem dX5_hold_16 : decode cX5_hold 16 = .ok (.getfield 10, 3) := by decide +kernel
theorem dX5_hold_19 : decode cX5_hold 19 = .ok (.iload_n 2, 1) := by decide +kernel
theorem dX5_hold_20 : decode cX5_hold 20 = .ok (.invokevirtual 71, 3) := by decide +kernel
theorem dX5_hold_23 : decode cX5_hold 23 = .ok (.ifCond .ne 9, 3) := by decide +kernel
theorem dX5_hold_26 : decode cX5_hold 26 = .ok (.aload_n 0, 1) := by decide +kernel
theorem dX5_hold_27 : decode cX5_hold 27 = .ok (.iconst 0, 1) := by decide +kernel
theorem dX5_hold_28 : decode cX5_hold 28 = .ok (.invokevirtual 55, 3) := by decide +kernel
theorem dX5_hold_31 : decode cX5_hold 31 = .ok (.ireturn, 1) := by decide +kernel
theorem dX5_hold_32 : decode cX5_hold 32 = .ok (.aload_n 0, 1) := by decide +kernel
theorem dX5_hold_33 : decode cX5_hold 33 = .ok (.getfield 10, 3) := by decide +kernel
theorem dX5_hold_36 : decode cX5_hold 36 = .ok (.getfield 264, 3) := by decide +kernel
theorem dX5_hold_39 : decode cX5_hold 39 = .ok (.iload_n 1, 1) := by decide +kernel
theorem dX5_hold_40 : decode cX5_hold 40 = .ok (.iload_n 2, 1) := by decide +kernel
theorem dX5_hold_41 : decode cX5_hold 41 = .ok (.iastore, 1) := by decide +kernel
theorem dX5_hold_42 : decode cX5_hold 42 = .ok (.iconst 1, 1) := by decide +kernel
theorem dX5_hold_43 : decode cX5_hold 43 = .ok (.ireturn, 1) := by decide +kernel
theorem dX5_as_0 : decode cX5_as 0 = .ok (.iload_n 1, 1) := by decide +kernel
theorem dX5_as_1 : decode cX5_as 1 = .ok (.iconst 0, 1) := by decide +kernel
theorem dX5_as_2 : decode cX5_as 2 = .ok (.bipush 9, 2) := by decide +kernel
theorem dX5_as_4 : decode cX5_as 4 = .ok (.invokestatic 51, 3) := by decide +kernel
theorem dX5_as_7 : decode cX5_as 7 = .ok (.ifCond .ne 13, 3) := by decide +kernel
theorem dX5_as_10 : decode cX5_as 10 = .ok (.iload_n 2, 1) := by decide +kernel
theorem dX5_as_11 : decode cX5_as 11 = .ok (.iconst 0, 1) := by decide +kernel
theorem dX5_as_12 : decode cX5_as 12 = .ok (.bipush 6, 2) := by decide +kernel
theorem dX5_as_14 : decode cX5_as 14 = .ok (.invokestatic 51, 3) := by decide +kernel
theorem dX5_as_17 : decode cX5_as 17 = .ok (.ifCond .eq 9, 3) := by decide +kernel
theorem dX5_as_20 : decode cX5_as 20 = .ok (.aload_n 0, 1) := by decide +kernel
theorem dX5_as_21 : decode cX5_as 21 = .ok (.iconst 0, 1) := by decide +kernel
theorem dX5_as_22 : decode cX5_as 22 = .ok (.invokevirtual 55, 3) := by decide +kernel
theorem dX5_as_25 : decode cX5_as 25 = .ok (.ireturn, 1) := by decide +kernel
theorem dX5_as_26 : decode cX5_as 26 = .ok (.aload_n 0, 1) := by decide +kernel
theorem dX5_as_27 : decode cX5_as 27 = .ok (.getfield 10, 3) := by decide +kernel
theorem dX5_as_30 : decode cX5_as 30 = .ok (.getfield 264, 3) := by decide +kernel
theorem dX5_as_33 : decode cX5_as 33 = .ok (.iload_n 1, 1) := by decide +kernel
theorem dX5_as_34 : decode cX5_as 34 = .ok (.iaload, 1) := by decide +kernel
theorem dX5_as_35 : decode cX5_as 35 = .ok (.istore_n 3, 1) := by decide +kernel
theorem dX5_as_36 : decode cX5_as 36 = .ok (.aload_n 0, 1) := by decide +kernel
theorem dX5_as_37 : decode cX5_as 37 = .ok (.getfield 10, 3) := by decide +kernel
theorem dX5_as_40 : decode cX5_as 40 = .ok (.iload_n 3, 1) := by decide +kernel
theorem dX5_as_41 : decode cX5_as 41 = .ok (.invokevirtual 71, 3) := by decide +kernel
theorem dX5_as_44 : decode cX5_as 44 = .ok (.ifCond .ne 9, 3) := by decide +kernel
theorem dX5_as_47 : decode cX5_as 47 = .ok (.aload_n 0, 1) := by decide +kernel
theorem dX5_as_48 : decode cX5_as 48 = .ok (.iconst 5, 1) := by decide +kernel
theorem dX5_as_49 : decode cX5_as 49 = .ok (.invokevirtual 55, 3) := by decide +kernel
theorem dX5_as_52 : decode cX5_as 52 = .ok (.ireturn, 1) := by decide +kernel
theorem dX5_as_53 : decode cX5_as 53 = .ok (.aload_n 0, 1) := by decide +kernel
theorem dX5_as_54 : decode cX5_as 54 = .ok (.getfield 10, 3) := by decide +kernel
theorem dX5_as_57 : decode cX5_as 57 = .ok (.getfield 75, 3) := by decide +kernel
theorem dX5_as_60 : decode cX5_as 60 = .ok (.iload_n 3, 1) := by decide +kernel
theorem dX5_as_61 : decode cX5_as 61 = .ok (.aaload, 1) := by decide +kernel
theorem dX5_as_62 : decode cX5_as 62 = .ok (.iload_n 2, 1) := by decide +kernel
theorem dX5_as_63 : decode cX5_as 63 = .ok (.invokevirtual 267, 3) := by decide +kernel
theorem dX5_as_66 : decode cX5_as 66 = .ok (.ifCond .eq 7, 3) := by decide +kernel
theorem dX5_as_69 : decode cX5_as 69 = .ok (.iload_n 3, 1) := by decide +kernel
theorem dX5_as_70 : decode cX5_as 70 = .ok (.goto 8, 3) := by decide +kernel
theorem dX5_as_73 : decode cX5_as 73 = .ok (.aload_n 0, 1) := by decide +kernel
theorem dX5_as_74 : decode cX5_as 74 = .ok (.iconst 2, 1) := by decide +kernel
theorem dX5_as_75 : decode cX5_as 75 = .ok (.invokevirtual 55, 3) := by decide +kernel
theorem dX5_as_78 : decode cX5_as 78 = .ok (.ireturn, 1) := by decide +kernel
theorem dX5_sheet_0 : decode cX5_sheet 0 = .ok (.iload_n 1, 1) := by decide +kernel
theorem dX5_sheet_1 : decode cX5_sheet 1 = .ok (.invokestatic 236, 3) := by decide +kernel
theorem dX5_sheet_4 : decode cX5_sheet 4 = .ok (.ifCond .ne 25, 3) := by decide +kernel
theorem dX5_sheet_7 : decode cX5_sheet 7 = .ok (.iload_n 2, 1) := by decide +kernel
theorem dX5_sheet_8 : decode cX5_sheet 8 = .ok (.ifCond .eq 27, 3) := by decide +kernel
theorem dX5_sheet_11 : decode cX5_sheet 11 = .ok (.iload_n 2, 1) := by decide +kernel
theorem dX5_sheet_12 : decode cX5_sheet 12 = .ok (.bipush 8, 2) := by decide +kernel
theorem dX5_sheet_14 : decode cX5_sheet 14 = .ok (.if_icmp .eq 21, 3) := by decide +kernel
theorem dX5_sheet_17 : decode cX5_sheet 17 = .ok (.iload_n 2, 1) := by decide +kernel
theorem dX5_sheet_18 : decode cX5_sheet 18 = .ok (.bipush 16, 2) := by decide +kernel
theorem dX5_sheet_20 : decode cX5_sheet 20 = .ok (.if_icmp .eq 15, 3) := by decide +kernel
theorem dX5_sheet_23 : decode cX5_sheet 23 = .ok (.iload_n 2, 1) := by decide +kernel
theorem dX5_sheet_24 : decode cX5_sheet 24 = .ok (.bipush 32, 2) := by decide +kernel
theorem dX5_sheet_26 : decode cX5_sheet 26 = .ok (.if_icmp .eq 9, 3) := by decide +kernel
theorem dX5_sheet_29 : decode cX5_sheet 29 = .ok (.aload_n 0, 1) := by decide +kernel
theorem dX5_sheet_30 : decode cX5_sheet 30 = .ok (.iconst 0, 1) := by decide +kernel
theorem dX5_sheet_31 : decode cX5_sheet 31 = .ok (.invokevirtual 55, 3) := by decide +kernel
theorem dX5_sheet_34 : decode cX5_sheet 34 = .ok (.ireturn, 1) := by decide +kernel
theorem dX5_sheet_35 : decode cX5_sheet 35 = .ok (.iload_n 3, 1) := by decide +kernel
theorem dX5_sheet_36 : decode cX5_sheet 36 = .ok (.ifCond .ge 10, 3) := by decide +kernel
theorem dX5_sheet_39 : decode cX5_sheet 39 = .ok (.aload_n 0, 1) := by decide +kernel
theorem dX5_sheet_40 : decode cX5_sheet 40 = .ok (.bipush 6, 2) := by decide +kernel
theorem dX5_sheet_42 : decode cX5_sheet 42 = .ok (.invokevirtual 55, 3) := by decide +kernel
theorem dX5_sheet_45 : decode cX5_sheet 45 = .ok (.ireturn, 1) := by decide +kernel
theorem dX5_sheet_46 : decode cX5_sheet 46 = .ok (.iload_n 3, 1) := by decide +kernel
theorem dX5_sheet_47 : decode cX5_sheet 47 = .ok (.bipush 40, 2) := by decide +kernel
theorem dX5_sheet_49 : decode cX5_sheet 49 = .ok (.if_icmp .le 9, 3) := by decide +kernel
theorem dX5_sheet_52 : decode cX5_sheet 52 = .ok (.aload_n 0, 1) := by decide +kernel
theorem dX5_sheet_53 : decode cX5_sheet 53 = .ok (.iconst 0, 1) := by decide +kernel
theorem dX5_sheet_54 : decode cX5_sheet 54 = .ok (.invokevirtual 55, 3) := by decide +kernel
theorem dX5_sheet_57 : decode cX5_sheet 57 = .ok (.ireturn, 1) := by decide +kernel
theorem dX5_sheet_58 : decode cX5_sheet 58 = .ok (.aload_n 0, 1) := by decide +kernel
theorem dX5_sheet_59 : decode cX5_sheet 59 = .ok (.getfield 35, 3) := by decide +kernel
theorem dX5_sheet_62 : decode cX5_sheet 62 = .ok (.iload_n 1, 1) := by decide +kernel
theorem dX5_sheet_63 : decode cX5_sheet 63 = .ok (.aaload, 1) := by decide +kernel
theorem dX5_sheet_64 : decode cX5_sheet 64 = .ok (.iload_n 2, 1) := by decide +kernel
theorem dX5_sheet_65 : decode cX5_sheet 65 = .ok (.iload_n 2, 1) := by decide +kernel
theorem dX5_sheet_66 : decode cX5_sheet 66 = .ok (.ifCond .ne 7, 3) := by decide +kernel
theorem dX5_sheet_69 : decode cX5_sheet 69 = .ok (.iconst 0, 1) := by decide +kernel
theorem dX5_sheet_70 : decode cX5_sheet 70 = .ok (.goto 4, 3) := by decide +kernel
theorem dX5_sheet_73 : decode cX5_sheet 73 = .ok (.iload_n 3, 1) := by decide +kernel
theorem dX5_sheet_74 : decode cX5_sheet 74 = .ok (.invokevirtual 270, 3) := by decide +kernel
theorem dX5_sheet_77 : decode cX5_sheet 77 = .ok (.aload_n 0, 1) := by decide +kernel
theorem dX5_sheet_78 : decode cX5_sheet 78 = .ok (.getfield 35, 3) := by decide +kernel
theorem dX5_sheet_81 : decode cX5_sheet 81 = .ok (.iload_n 1, 1) := by decide +kernel
theorem dX5_sheet_82 : decode cX5_sheet 82 = .ok (.aaload, 1) := by decide +kernel
theorem dX5_sheet_83 : decode cX5_sheet 83 = .ok (.getfield 250, 3) := by decide +kernel
theorem dX5_sheet_86 : decode cX5_sheet 86 = .ok (.ireturn, 1) := by decide +kernel
theorem dX5_write_0 : decode cX5_write 0 = .ok (.iload_n 1, 1) := by decide +kernel
theorem dX5_write_1 : decode cX5_write 1 = .ok (.invokestatic 236, 3) := by decide +kernel
theorem dX5_write_4 : decode cX5_write 4 = .ok (.ifCond .eq 9, 3) := by decide +kernel
theorem dX5_write_7 : decode cX5_write 7 = .ok (.aload_n 0, 1) := by decide +kernel
theorem dX5_write_8 : decode cX5_write 8 = .ok (.iconst 0, 1) := by decide +kernel
theorem dX5_write_9 : decode cX5_write 9 = .ok (.invokevirtual 55, 3) := by decide +kernel
theorem dX5_write_12 : decode cX5_write 12 = .ok (.ireturn, 1) := by decide +kernel
theorem dX5_write_13 : decode cX5_write 13 = .ok (.aload_n 0, 1) := by decide +kernel
theorem dX5_write_14 : decode cX5_write 14 = .ok (.getfield 35, 3) := by decide +kernel
theorem dX5_write_17 : decode cX5_write 17 = .ok (.iload_n 1, 1) := by decide +kernel
theorem dX5_write_18 : decode cX5_write 18 = .ok (.aaload, 1) := by decide +kernel
theorem dX5_write_19 : decode cX5_write 19 = .ok (.invokevirtual 239, 3) := by decide +kernel
theorem dX5_write_22 : decode cX5_write 22 = .ok (.ifCond .eq 9, 3) := by decide +kernel
theorem dX5_write_25 : decode cX5_write 25 = .ok (.aload_n 0, 1) := by decide +kernel
theorem dX5_write_26 : decode cX5_write 26 = .ok (.iconst 5, 1) := by decide +kernel
theorem dX5_write_27 : decode cX5_write 27 = .ok (.invokevirtual 55, 3) := by decide +kernel
theorem dX5_write_30 : decode cX5_write 30 = .ok (.ireturn, 1) := by decide +kernel
theorem dX5_write_31 : decode cX5_write 31 = .ok (.iload_n 2, 1) := by decide +kernel
theorem dX5_write_32 : decode cX5_write 32 = .ok (.iconst 0, 1) := by decide +kernel
theorem dX5_write_33 : decode cX5_write 33 = .ok (.aload_n 0, 1) := by decide +kernel
theorem dX5_write_34 : decode cX5_write 34 = .ok (.getfield 35, 3) := by decide +kernel
theorem dX5_write_37 : decode cX5_write 37 = .ok (.iload_n 1, 1) := by decide +kernel
theorem dX5_write_38 : decode cX5_write 38 = .ok (.aaload, 1) := by decide +kernel
theorem dX5_write_39 : decode cX5_write 39 = .ok (.getfield 250, 3) := by decide +kernel
theorem dX5_write_42 : decode cX5_write 42 = .ok (.iconst 1, 1) := by decide +kernel
theorem dX5_write_43 : decode cX5_write 43 = .ok (.isub, 1) := by decide +kernel
theorem dX5_write_44 : decode cX5_write 44 = .ok (.invokestatic 51, 3) := by decide +kernel
theorem dX5_write_47 : decode cX5_write 47 = .ok (.ifCond .eq 9, 3) := by decide +kernel
theorem dX5_write_50 : decode cX5_write 50 = .ok (.aload_n 0, 1) := by decide +kernel
theorem dX5_write_51 : decode cX5_write 51 = .ok (.iconst 0, 1) := by decide +kernel
theorem dX5_write_52 : decode cX5_write 52 = .ok (.invokevirtual 55, 3) := by decide +kernel
theorem dX5_write_55 : decode cX5_write 55 = .ok (.ireturn, 1) := by decide +kernel
theorem dX5_write_56 : decode cX5_write 56 = .ok (.aload_n 0, 1) := by decide +kernel
theorem dX5_write_57 : decode cX5_write 57 = .ok (.getfield 35, 3) := by decide +kernel
theorem dX5_write_60 : decode cX5_write 60 = .ok (.iload_n 1, 1) := by decide +kernel
theorem dX5_write_61 : decode cX5_write 61 = .ok (.aaload, 1) := by decide +kernel
theorem dX5_write_62 : decode cX5_write 62 = .ok (.iload_n 2, 1) := by decide +kernel
theorem dX5_write_63 : decode cX5_write 63 = .ok (.iload_n 3, 1) := by decide +kernel
theorem dX5_write_64 : decode cX5_write 64 = .ok (.invokevirtual 274, 3) := by decide +kernel
theorem dX5_write_67 : decode cX5_write 67 = .ok (.iconst 1, 1) := by decide +kernel
theorem dX5_write_68 : decode cX5_write 68 = .ok (.ireturn, 1) := by decide +kernel
theorem dX5_copy_0 : decode cX5_copy 0 = .ok (.iload_n 1, 1) := by decide +kernel
theorem dX5_copy_1 : decode cX5_copy 1 = .ok (.invokestatic 236, 3) := by decide +kernel
theorem dX5_copy_4 : decode cX5_copy 4 = .ok (.ifCond .ne 10, 3) := by decide +kernel
theorem dX5_copy_7 : decode cX5_copy 7 = .ok (.iload_n 3, 1) := by decide +kernel
theorem dX5_copy_8 : decode cX5_copy 8 = .ok (.invokestatic 236, 3) := by decide +kernel
theorem dX5_copy_11 : decode cX5_copy 11 = .ok (.ifCond .eq 9, 3) := by decide +kernel
theorem dX5_copy_14 : decode cX5_copy 14 = .ok (.aload_n 0, 1) := by decide +kernel
theorem dX5_copy_15 : decode cX5_copy 15 = .ok (.iconst 0, 1) := by decide +kernel
theorem dX5_copy_16 : decode cX5_copy 16 = .ok (.invokevirtual 55, 3) := by decide +kernel
theorem dX5_copy_19 : decode cX5_copy 19 = .ok (.ireturn, 1) := by decide +kernel
theorem dX5_copy_20 : decode cX5_copy 20 = .ok (.aload_n 0, 1) := by decide +kernel
theorem dX5_copy_21 : decode cX5_copy 21 = .ok (.getfield 35, 3) := by decide +kernel
theorem dX5_copy_24 : decode cX5_copy 24 = .ok (.iload_n 1, 1) := by decide +kernel
theorem dX5_copy_25 : decode cX5_copy 25 = .ok (.aaload, 1) := by decide +kernel
theorem dX5_copy_26 : decode cX5_copy 26 = .ok (.invokevirtual 239, 3) := by decide +kernel
theorem dX5_copy_29 : decode cX5_copy 29 = .ok (.ifCond .ne 15, 3) := by decide +kernel
theorem dX5_copy_32 : decode cX5_copy 32 = .ok (.aload_n 0, 1) := by decide +kernel
theorem dX5_copy_33 : decode cX5_copy 33 = .ok (.getfield 35, 3) := by decide +kernel
theorem dX5_copy_36 : decode cX5_copy 36 = .ok (.iload_n 3, 1) := by decide +kernel
theorem dX5_copy_37 : decode cX5_copy 37 = .ok (.aaload, 1) := by decide +kernel
theorem dX5_copy_38 : decode cX5_copy 38 = .ok (.invokevirtual 239, 3) := by decide +kernel
theorem dX5_copy_41 : decode cX5_copy 41 = .ok (.ifCond .eq 9, 3) := by decide +kernel
theorem dX5_copy_44 : decode cX5_copy 44 = .ok (.aload_n 0, 1) := by decide +kernel
theorem dX5_copy_45 : decode cX5_copy 45 = .ok (.iconst 5, 1) := by decide +kernel
theorem dX5_copy_46 : decode cX5_copy 46 = .ok (.invokevirtual 55, 3) := by decide +kernel
theorem dX5_copy_49 : decode cX5_copy 49 = .ok (.ireturn, 1) := by decide +kernel
theorem dX5_copy_50 : decode cX5_copy 50 = .ok (.aload_n 0, 1) := by decide +kernel
theorem dX5_copy_51 : decode cX5_copy 51 = .ok (.getfield 35, 3) := by decide +kernel
theorem dX5_copy_54 : decode cX5_copy 54 = .ok (.iload_n 1, 1) := by decide +kernel
theorem dX5_copy_55 : decode cX5_copy 55 = .ok (.aaload, 1) := by decide +kernel
theorem dX5_copy_56 : decode cX5_copy 56 = .ok (.getfield 277, 3) := by decide +kernel
theorem dX5_copy_59 : decode cX5_copy 59 = .ok (.aload_n 0, 1) := by decide +kernel
theorem dX5_copy_60 : decode cX5_copy 60 = .ok (.getfield 35, 3) := by decide +kernel
theorem dX5_copy_63 : decode cX5_copy 63 = .ok (.iload_n 3, 1) := by decide +kernel
theorem dX5_copy_64 : decode cX5_copy 64 = .ok (.aaload, 1) := by decide +kernel
theorem dX5_copy_65 : decode cX5_copy 65 = .ok (.getfield 277, 3) := by decide +kernel
theorem dX5_copy_68 : decode cX5_copy 68 = .ok (.if_icmp .eq 9, 3) := by decide +kernel
theorem dX5_copy_71 : decode cX5_copy 71 = .ok (.aload_n 0, 1) := by decide +kernel
theorem dX5_copy_72 : decode cX5_copy 72 = .ok (.iconst 2, 1) := by decide +kernel
theorem dX5_copy_73 : decode cX5_copy 73 = .ok (.invokevirtual 55, 3) := by decide +kernel
theorem dX5_copy_76 : decode cX5_copy 76 = .ok (.ireturn, 1) := by decide +kernel
theorem dX5_copy_77 : decode cX5_copy 77 = .ok (.aload_n 0, 1) := by decide +kernel
theorem dX5_copy_78 : decode cX5_copy 78 = .ok (.getfield 35, 3) := by decide +kernel
theorem dX5_copy_81 : decode cX5_copy 81 = .ok (.iload_n 1, 1) := by decide +kernel
theorem dX5_copy_82 : decode cX5_copy 82 = .ok (.aaload, 1) := by decide +kernel
theorem dX5_copy_83 : decode cX5_copy 83 = .ok (.iload_n 2, 1) := by decide +kernel
theorem dX5_copy_84 : decode cX5_copy 84 = .ok (.iload 5, 2) := by decide +kernel
theorem dX5_copy_86 : decode cX5_copy 86 = .ok (.invokevirtual 280, 3) := by decide +kernel
theorem dX5_copy_89 : decode cX5_copy 89 = .ok (.ifCond .eq 19, 3) := by decide +kernel
theorem dX5_copy_92 : decode cX5_copy 92 = .ok (.aload_n 0, 1) := by decide +kernel
theorem dX5_copy_93 : decode cX5_copy 93 = .ok (.getfield 35, 3) := by decide +kernel
theorem dX5_copy_96 : decode cX5_copy 96 = .ok (.iload_n 3, 1) := by decide +kernel
theorem dX5_copy_97 : decode cX5_copy 97 = .ok (.aaload, 1) := by decide +kernel
theorem dX5_copy_98 : decode cX5_copy 98 = .ok (.iload 4, 2) := by decide +kernel
theorem dX5_copy_100 : decode cX5_copy 100 = .ok (.iload 5, 2) := by decide +kernel
theorem dX5_copy_102 : decode cX5_copy 102 = .ok (.invokevirtual 280, 3) := by decide +kernel
theorem dX5_copy_105 : decode cX5_copy 105 = .ok (.ifCond .ne 9, 3) := by decide +kernel
theorem dX5_copy_108 : decode cX5_copy 108 = .ok (.aload_n 0, 1) := by decide +kernel
theorem dX5_copy_109 : decode cX5_copy 109 = .ok (.iconst 0, 1) := by decide +kernel
theorem dX5_copy_110 : decode cX5_copy 110 = .ok (.invokevirtual 55, 3) := by decide +kernel
theorem dX5_copy_113 : decode cX5_copy 113 = .ok (.ireturn, 1) := by decide +kernel
theorem dX5_copy_114 : decode cX5_copy 114 = .ok (.aload_n 0, 1) := by decide +kernel
theorem dX5_copy_115 : decode cX5_copy 115 = .ok (.getfield 35, 3) := by decide +kernel
theorem dX5_copy_118 : decode cX5_copy 118 = .ok (.iload_n 1, 1) := by decide +kernel
theorem dX5_copy_119 : decode cX5_copy 119 = .ok (.aaload, 1) := by decide +kernel
theorem dX5_copy_120 : decode cX5_copy 120 = .ok (.getfield 284, 3) := by decide +kernel
theorem dX5_copy_123 : decode cX5_copy 123 = .ok (.iload_n 2, 1) := by decide +kernel
theorem dX5_copy_124 : decode cX5_copy 124 = .ok (.aload_n 0, 1) := by decide +kernel
theorem dX5_copy_125 : decode cX5_copy 125 = .ok (.getfield 35, 3) := by decide +kernel
theorem dX5_copy_128 : decode cX5_copy 128 = .ok (.iload_n 3, 1) := by decide +kernel
theorem dX5_copy_129 : decode cX5_copy 129 = .ok (.aaload, 1) := by decide +kernel
theorem dX5_copy_130 : decode cX5_copy 130 = .ok (.getfield 284, 3) := by decide +kernel
theorem dX5_copy_133 : decode cX5_copy 133 = .ok (.iload 4, 2) := by decide +kernel
theorem dX5_copy_135 : decode cX5_copy 135 = .ok (.iload 5, 2) := by decide +kernel
theorem dX5_copy_137 : decode cX5_copy 137 = .ok (.invokestatic 287, 3) := by decide +kernel
theorem dX5_copy_140 : decode cX5_copy 140 = .ok (.iload 5, 2) := by decide +kernel
theorem dX5_copy_142 : decode cX5_copy 142 = .ok (.ireturn, 1) := by decide +kernel
theorem dX5_load_0 : decode cX5_load 0 = .ok (.iload_n 1, 1) := by decide +kernel
theorem dX5_load_1 : decode cX5_load 1 = .ok (.invokestatic 236, 3) := by decide +kernel
theorem dX5_load_4 : decode cX5_load 4 = .ok (.ifCond .eq 9, 3) := by decide +kernel
theorem dX5_load_7 : decode cX5_load 7 = .ok (.aload_n 0, 1) := by decide +kernel
theorem dX5_load_8 : decode cX5_load 8 = .ok (.iconst 0, 1) := by decide +kernel
theorem dX5_load_9 : decode cX5_load 9 = .ok (.invokevirtual 55, 3) := by decide +kernel
theorem dX5_load_12 : decode cX5_load 12 = .ok (.ireturn, 1) := by decide +kernel
theorem dX5_load_13 : decode cX5_load 13 = .ok (.aload_n 0, 1) := by decide +kernel
theorem dX5_load_14 : decode cX5_load 14 = .ok (.getfield 35, 3) := by decide +kernel
theorem dX5_load_17 : decode cX5_load 17 = .ok (.iload_n 1, 1) := by decide +kernel
theorem dX5_load_18 : decode cX5_load 18 = .ok (.aaload, 1) := by decide +kernel
theorem dX5_load_19 : decode cX5_load 19 = .ok (.invokevirtual 239, 3) := by decide +kernel
theorem dX5_load_22 : decode cX5_load 22 = .ok (.ifCond .eq 9, 3) := by decide +kernel
theorem dX5_load_25 : decode cX5_load 25 = .ok (.aload_n 0, 1) := by decide +kernel
theorem dX5_load_26 : decode cX5_load 26 = .ok (.iconst 5, 1) := by decide +kernel
theorem dX5_load_27 : decode cX5_load 27 = .ok (.invokevirtual 55, 3) := by decide +kernel
theorem dX5_load_30 : decode cX5_load 30 = .ok (.ireturn, 1) := by decide +kernel
theorem dX5_load_31 : decode cX5_load 31 = .ok (.iconst 0, 1) := by decide +kernel
theorem dX5_load_32 : decode cX5_load 32 = .ok (.istore_n 2, 1) := by decide +kernel
theorem dX5_load_33 : decode cX5_load 33 = .ok (.aload_n 0, 1) := by decide +kernel
theorem dX5_load_34 : decode cX5_load 34 = .ok (.getfield 35, 3) := by decide +kernel
theorem dX5_load_37 : decode cX5_load 37 = .ok (.iload_n 1, 1) := by decide +kernel
theorem dX5_load_38 : decode cX5_load 38 = .ok (.aaload, 1) := by decide +kernel
theorem dX5_load_39 : decode cX5_load 39 = .ok (.getfield 250, 3) := by decide +kernel
theorem dX5_load_42 : decode cX5_load 42 = .ok (.aload_n 0, 1) := by decide +kernel
theorem dX5_load_43 : decode cX5_load 43 = .ok (.getfield 10, 3) := by decide +kernel
theorem dX5_load_46 : decode cX5_load 46 = .ok (.getfield 67, 3) := by decide +kernel
theorem dX5_load_49 : decode cX5_load 49 = .ok (.invokestatic 293, 3) := by decide +kernel
theorem dX5_load_52 : decode cX5_load 52 = .ok (.istore_n 3, 1) := by decide +kernel
theorem dX5_load_53 : decode cX5_load 53 = .ok (.iconst 0, 1) := by decide +kernel
theorem dX5_load_54 : decode cX5_load 54 = .ok (.istore 4, 2) := by decide +kernel
theorem dX5_load_56 : decode cX5_load 56 = .ok (.iload 4, 2) := by decide +kernel
theorem dX5_load_58 : decode cX5_load 58 = .ok (.iload_n 3, 1) := by decide +kernel
theorem dX5_load_59 : decode cX5_load 59 = .ok (.if_icmp .ge 58, 3) := by decide +kernel
theorem dX5_load_62 : decode cX5_load 62 = .ok (.aload_n 0, 1) := by decide +kernel
theorem dX5_load_63 : decode cX5_load 63 = .ok (.getfield 35, 3) := by decide +kernel
theorem dX5_load_66 : decode cX5_load 66 = .ok (.iload_n 1, 1) := by decide +kernel
theorem dX5_load_67 : decode cX5_load 67 = .ok (.aaload, 1) := by decide +kernel
theorem dX5_load_68 : decode cX5_load 68 = .ok (.getfield 284, 3) := by decide +kernel
theorem dX5_load_71 : decode cX5_load 71 = .ok (.iload 4, 2) := by decide +kernel
theorem dX5_load_73 : decode cX5_load 73 = .ok (.iaload, 1) := by decide +kernel
theorem dX5_load_74 : decode cX5_load 74 = .ok (.iconst 1, 1) := by decide +kernel
theorem dX5_load_75 : decode cX5_load 75 = .ok (.bipush 60, 2) := by decide +kernel
theorem dX5_load_77 : decode cX5_load 77 = .ok (.invokestatic 51, 3) := by decide +kernel
theorem dX5_load_80 : decode cX5_load 80 = .ok (.ifCond .ne 37, 3) := by decide +kernel
theorem dX5_load_83 : decode cX5_load 83 = .ok (.aload_n 0, 1) := by decide +kernel
theorem dX5_load_84 : decode cX5_load 84 = .ok (.getfield 10, 3) := by decide +kernel
theorem dX5_load_87 : decode cX5_load 87 = .ok (.getfield 75, 3) := by decide +kernel
theorem dX5_load_90 : decode cX5_load 90 = .ok (.iload 4, 2) := by decide +kernel
theorem dX5_load_92 : decode cX5_load 92 = .ok (.aaload, 1) := by decide +kernel
theorem dX5_load_93 : decode cX5_load 93 = .ok (.aload_n 0, 1) := by decide +kernel
theorem dX5_load_94 : decode cX5_load 94 = .ok (.getfield 35, 3) := by decide +kernel
theorem dX5_load_97 : decode cX5_load 97 = .ok (.iload_n 1, 1) := by decide +kernel
theorem dX5_load_98 : decode cX5_load 98 = .ok (.aaload, 1) := by decide +kernel
theorem dX5_load_99 : decode cX5_load 99 = .ok (.getfield 284, 3) := by decide +kernel
theorem dX5_load_102 : decode cX5_load 102 = .ok (.iload 4, 2) := by decide +kernel
theorem dX5_load_104 : decode cX5_load 104 = .ok (.iaload, 1) := by decide +kernel
theorem dX5_load_105 : decode cX5_load 105 = .ok (.putfield 87, 3) := by decide +kernel
theorem dX5_load_108 : decode cX5_load 108 = .ok (.iinc 2 1, 3) := by decide +kernel
theorem dX5_load_111 : decode cX5_load 111 = .ok (.iinc 4 1, 3) := by decide +kernel
theorem dX5_load_114 : decode cX5_load 114 = .ok (.goto (-58), 3) := by decide +kernel
theorem dX5_load_117 : decode cX5_load 117 = .ok (.iload_n 2, 1) := by decide +kernel
theorem dX5_load_118 : decode cX5_load 118 = .ok (.ireturn, 1) := by decide +kernel
theorem dX5_image_0 : decode cX5_image 0 = .ok (.aload_n 0, 1) := by decide +kernel
theorem dX5_image_1 : decode cX5_image 1 = .ok (.getfield 16, 3) := by decide +kernel
theorem dX5_image_4 : decode cX5_image 4 = .ok (.aload_n 0, 1) := by decide +kernel
theorem dX5_image_5 : decode cX5_image 5 = .ok (.getfield 10, 3) := by decide +kernel
theorem dX5_image_8 : decode cX5_image 8 = .ok (.invokevirtual 256, 3) := by decide +kernel
theorem dX5_image_11 : decode cX5_image 11 = .ok (.aload_n 0, 1) := by decide +kernel
theorem dX5_image_12 : decode cX5_image 12 = .ok (.iconst 1, 1) := by decide +kernel
theorem dX5_image_13 : decode cX5_image 13 = .ok (.putfield 22, 3) := by decide +kernel
theorem dX5_image_16 : decode cX5_image 16 = .ok (.iconst 1, 1) := by decide +kernel
theorem dX5_image_17 : decode cX5_image 17 = .ok (.ireturn, 1) := by decide +kernel
theorem dX5_undo_0 : decode cX5_undo 0 = .ok (.aload_n 0, 1) := by decide +kernel
theorem dX5_undo_1 : decode cX5_undo 1 = .ok (.getfield 22, 3) := by decide +kernel
theorem dX5_undo_4 : decode cX5_undo 4 = .ok (.ifCond .ne 9, 3) := by decide +kernel
theorem dX5_undo_7 : decode cX5_undo 7 = .ok (.aload_n 0, 1) := by decide +kernel
theorem dX5_undo_8 : decode cX5_undo 8 = .ok (.iconst 3, 1) := by decide +kernel
theorem dX5_undo_9 : decode cX5_undo 9 = .ok (.invokevirtual 55, 3) := by decide +kernel
theorem dX5_undo_12 : decode cX5_undo 12 = .ok (.ireturn, 1) := by decide +kernel
theorem dX5_undo_13 : decode cX5_undo 13 = .ok (.aload_n 0, 1) := by decide +kernel
theorem dX5_undo_14 : decode cX5_undo 14 = .ok (.getfield 10, 3) := by decide +kernel
theorem dX5_undo_17 : decode cX5_undo 17 = .ok (.aload_n 0, 1) := by decide +kernel
theorem dX5_undo_18 : decode cX5_undo 18 = .ok (.getfield 16, 3) := by decide +kernel
theorem dX5_undo_21 : decode cX5_undo 21 = .ok (.invokevirtual 256, 3) := by decide +kernel
theorem dX5_undo_24 : decode cX5_undo 24 = .ok (.aload_n 0, 1) := by decide +kernel
theorem dX5_undo_25 : decode cX5_undo 25 = .ok (.getfield 10, 3) := by decide +kernel
theorem dX5_undo_28 : decode cX5_undo 28 = .ok (.getfield 67, 3) := by decide +kernel
theorem dX5_undo_31 : decode cX5_undo 31 = .ok (.ireturn, 1) := by decide +kernel
theorem dX5_tear_0 : decode cX5_tear 0 = .ok (.aload_n 0, 1) := by decide +kernel
theorem dX5_tear_1 : decode cX5_tear 1 = .ok (.getfield 22, 3) := by decide +kernel
theorem dX5_tear_4 : decode cX5_tear 4 = .ok (.ifCond .eq 7, 3) := by decide +kernel
theorem dX5_tear_7 : decode cX5_tear 7 = .ok (.iconst 1, 1) := by decide +kernel
theorem dX5_tear_8 : decode cX5_tear 8 = .ok (.goto 4, 3) := by decide +kernel
theorem dX5_tear_11 : decode cX5_tear 11 = .ok (.iconst 0, 1) := by decide +kernel
theorem dX5_tear_12 : decode cX5_tear 12 = .ok (.istore_n 1, 1) := by decide +kernel
theorem dX5_tear_13 : decode cX5_tear 13 = .ok (.aload_n 0, 1) := by decide +kernel
theorem dX5_tear_14 : decode cX5_tear 14 = .ok (.iconst 0, 1) := by decide +kernel
theorem dX5_tear_15 : decode cX5_tear 15 = .ok (.putfield 22, 3) := by decide +kernel
theorem dX5_tear_18 : decode cX5_tear 18 = .ok (.iload_n 1, 1) := by decide +kernel
theorem dX5_tear_19 : decode cX5_tear 19 = .ok (.ireturn, 1) := by decide +kernel
theorem dX5_count_0 : decode cX5_count 0 = .ok (.iload_n 1, 1) := by decide +kernel
theorem dX5_count_1 : decode cX5_count 1 = .ok (.tableswitch 88 0 7 #[47, 55, 55, 55, 55, 64, 72, 80], 47) := by decide +kernel
theorem dX5_count_48 : decode cX5_count 48 = .ok (.aload_n 0, 1) := by decide +kernel
theorem dX5_count_49 : decode cX5_count 49 = .ok (.getfield 10, 3) := by decide +kernel
theorem dX5_count_52 : decode cX5_count 52 = .ok (.getfield 67, 3) := by decide +kernel
theorem dX5_count_55 : decode cX5_count 55 = .ok (.ireturn, 1) := by decide +kernel
theorem dX5_count_56 : decode cX5_count 56 = .ok (.aload_n 0, 1) := by decide +kernel
theorem dX5_count_57 : decode cX5_count 57 = .ok (.getfield 10, 3) := by decide +kernel
theorem dX5_count_60 : decode cX5_count 60 = .ok (.iload_n 1, 1) := by decide +kernel
theorem dX5_count_61 : decode cX5_count 61 = .ok (.invokevirtual 296, 3) := by decide +kernel
theorem dX5_count_64 : decode cX5_count 64 = .ok (.ireturn, 1) := by decide +kernel
theorem dX5_count_65 : decode cX5_count 65 = .ok (.aload_n 0, 1) := by decide +kernel
theorem dX5_count_66 : decode cX5_count 66 = .ok (.getfield 29, 3) := by decide +kernel
theorem dX5_count_69 : decode cX5_count 69 = .ok (.getfield 253, 3) := by decide +kernel
theorem dX5_count_72 : decode cX5_count 72 = .ok (.ireturn, 1) := by decide +kernel
theorem dX5_count_73 : decode cX5_count 73 = .ok (.aload_n 0, 1) := by decide +kernel
theorem dX5_count_74 : decode cX5_count 74 = .ok (.getfield 10, 3) := by decide +kernel
theorem dX5_count_77 : decode cX5_count 77 = .ok (.getfield 233, 3) := by decide +kernel
theorem dX5_count_80 : decode cX5_count 80 = .ok (.ireturn, 1) := by decide +kernel
theorem dX5_count_81 : decode cX5_count 81 = .ok (.aload_n 0, 1) := by decide +kernel
theorem dX5_count_82 : decode cX5_count 82 = .ok (.getfield 10, 3) := by decide +kernel
theorem dX5_count_85 : decode cX5_count 85 = .ok (.invokevirtual 299, 3) := by decide +kernel
theorem dX5_count_88 : decode cX5_count 88 = .ok (.ireturn, 1) := by decide +kernel
theorem dX5_count_89 : decode cX5_count 89 = .ok (.aload_n 0, 1) := by decide +kernel
theorem dX5_count_90 : decode cX5_count 90 = .ok (.iconst 0, 1) := by decide +kernel
theorem dX5_count_91 : decode cX5_count 91 = .ok (.invokevirtual 55, 3) := by decide +kernel
theorem dX5_count_94 : decode cX5_count 94 = .ok (.ireturn, 1) := by decide +kernel
theorem dX5_status_0 : decode cX5_status 0 = .ok (.iload_n 1, 1) := by decide +kernel
theorem dX5_status_1 : decode cX5_status 1 = .ok (.iconst (-1), 1) := by decide +kernel
theorem dX5_status_2 : decode cX5_status 2 = .ok (.bipush 6, 2) := by decide +kernel
theorem dX5_status_4 : decode cX5_status 4 = .ok (.invokestatic 51, 3) := by decide +kernel
theorem dX5_status_7 : decode cX5_status 7 = .ok (.ifCond .eq 9, 3) := by decide +kernel
theorem dX5_status_10 : decode cX5_status 10 = .ok (.aload_n 0, 1) := by decide +kernel
theorem dX5_status_11 : decode cX5_status 11 = .ok (.iconst 0, 1) := by decide +kernel
theorem dX5_status_12 : decode cX5_status 12 = .ok (.invokevirtual 55, 3) := by decide +kernel
theorem dX5_status_15 : decode cX5_status 15 = .ok (.ireturn, 1) := by decide +kernel
theorem dX5_status_16 : decode cX5_status 16 = .ok (.iload_n 1, 1) := by decide +kernel
theorem dX5_status_17 : decode cX5_status 17 = .ok (.ifCond .lt 10, 3) := by decide +kernel
theorem dX5_status_20 : decode cX5_status 20 = .ok (.aload_n 0, 1) := by decide +kernel
theorem dX5_status_21 : decode cX5_status 21 = .ok (.getfield 39, 3) := by decide +kernel
theorem dX5_status_24 : decode cX5_status 24 = .ok (.iload_n 1, 1) := by decide +kernel
theorem dX5_status_25 : decode cX5_status 25 = .ok (.iaload, 1) := by decide +kernel
theorem dX5_status_26 : decode cX5_status 26 = .ok (.ireturn, 1) := by decide +kernel
theorem dX5_status_27 : decode cX5_status 27 = .ok (.iconst 0, 1) := by decide +kernel
theorem dX5_status_28 : decode cX5_status 28 = .ok (.istore_n 2, 1) := by decide +kernel
theorem dX5_status_29 : decode cX5_status 29 = .ok (.iconst 0, 1) := by decide +kernel
theorem dX5_status_30 : decode cX5_status 30 = .ok (.istore_n 3, 1) := by decide +kernel
theorem dX5_status_31 : decode cX5_status 31 = .ok (.iload_n 3, 1) := by decide +kernel
theorem dX5_status_32 : decode cX5_status 32 = .ok (.bipush 7, 2) := by decide +kernel
theorem dX5_status_34 : decode cX5_status 34 = .ok (.if_icmp .ge 18, 3) := by decide +kernel
theorem dX5_status_37 : decode cX5_status 37 = .ok (.iload_n 2, 1) := by decide +kernel
theorem dX5_status_38 : decode cX5_status 38 = .ok (.aload_n 0, 1) := by decide +kernel
theorem dX5_status_39 : decode cX5_status 39 = .ok (.getfield 39, 3) := by decide +kernel
theorem dX5_status_42 : decode cX5_status 42 = .ok (.iload_n 3, 1) := by decide +kernel
theorem dX5_status_43 : decode cX5_status 43 = .ok (.iaload, 1) := by decide +kernel
theorem dX5_status_44 : decode cX5_status 44 = .ok (.iadd, 1) := by decide +kernel
theorem dX5_status_45 : decode cX5_status 45 = .ok (.istore_n 2, 1) := by decide +kernel
theorem dX5_status_46 : decode cX5_status 46 = .ok (.iinc 3 1, 3) := by decide +kernel
theorem dX5_status_49 : decode cX5_status 49 = .ok (.goto (-18), 3) := by decide +kernel
theorem dX5_status_52 : decode cX5_status 52 = .ok (.iload_n 2, 1) := by decide +kernel
theorem dX5_status_53 : decode cX5_status 53 = .ok (.ireturn, 1) := by decide +kernel
theorem dX5_finding_0 : decode cX5_finding 0 = .ok (.aload_n 0, 1) := by decide +kernel
theorem dX5_finding_1 : decode cX5_finding 1 = .ok (.getfield 39, 3) := by decide +kernel
theorem dX5_finding_4 : decode cX5_finding 4 = .ok (.iload_n 1, 1) := by decide +kernel
theorem dX5_finding_5 : decode cX5_finding 5 = .ok (.dup2, 1) := by decide +kernel
theorem dX5_finding_6 : decode cX5_finding 6 = .ok (.iaload, 1) := by decide +kernel
theorem dX5_finding_7 : decode cX5_finding 7 = .ok (.iconst 1, 1) := by decide +kernel
theorem dX5_finding_8 : decode cX5_finding 8 = .ok (.iadd, 1) := by decide +kernel
theorem dX5_finding_9 : decode cX5_finding 9 = .ok (.iastore, 1) := by decide +kernel
theorem dX5_finding_10 : decode cX5_finding 10 = .ok (.ldc_w 302, 3) := by decide +kernel
theorem dX5_finding_13 : decode cX5_finding 13 = .ok (.iload_n 1, 1) := by decide +kernel
theorem dX5_finding_14 : decode cX5_finding 14 = .ok (.isub, 1) := by decide +kernel
theorem dX5_finding_15 : decode cX5_finding 15 = .ok (.ireturn, 1) := by decide +kernel
theorem dX5_outside_0 : decode cX5_outside 0 = .ok (.iload_n 0, 1) := by decide +kernel
theorem dX5_outside_1 : decode cX5_outside 1 = .ok (.iload_n 1, 1) := by decide +kernel
theorem dX5_outside_2 : decode cX5_outside 2 = .ok (.if_icmp .lt 8, 3) := by decide +kernel
theorem dX5_outside_5 : decode cX5_outside 5 = .ok (.iload_n 0, 1) := by decide +kernel
theorem dX5_outside_6 : decode cX5_outside 6 = .ok (.iload_n 2, 1) := by decide +kernel
theorem dX5_outside_7 : decode cX5_outside 7 = .ok (.if_icmp .le 7, 3) := by decide +kernel
theorem dX5_outside_10 : decode cX5_outside 10 = .ok (.iconst 1, 1) := by decide +kernel
theorem dX5_outside_11 : decode cX5_outside 11 = .ok (.goto 4, 3) := by decide +kernel
theorem dX5_outside_14 : decode cX5_outside 14 = .ok (.iconst 0, 1) := by decide +kernel
theorem dX5_outside_15 : decode cX5_outside 15 = .ok (.ireturn, 1) := by decide +kernel
theorem dX5_notCarried_0 : decode cX5_notCarried 0 = .ok (.iload_n 1, 1) := by decide +kernel
theorem dX5_notCarried_1 : decode cX5_notCarried 1 = .ok (.iconst 0, 1) := by decide +kernel
theorem dX5_notCarried_2 : decode cX5_notCarried 2 = .ok (.aload_n 0, 1) := by decide +kernel
theorem dX5_notCarried_3 : decode cX5_notCarried 3 = .ok (.getfield 10, 3) := by decide +kernel
theorem dX5_notCarried_6 : decode cX5_notCarried 6 = .ok (.getfield 117, 3) := by decide +kernel
theorem dX5_notCarried_9 : decode cX5_notCarried 9 = .ok (.invokestatic 51, 3) := by decide +kernel
theorem dX5_notCarried_12 : decode cX5_notCarried 12 = .ok (.ireturn, 1) := by decide +kernel
theorem dX5_carriedOrNone_0 : decode cX5_carriedOrNone 0 = .ok (.iload_n 1, 1) := by decide +kernel
theorem dX5_carriedOrNone_1 : decode cX5_carriedOrNone 1 = .ok (.aload_n 0, 1) := by decide +kernel
theorem dX5_carriedOrNone_2 : decode cX5_carriedOrNone 2 = .ok (.getfield 10, 3) := by decide +kernel
theorem dX5_carriedOrNone_5 : decode cX5_carriedOrNone 5 = .ok (.getfield 117, 3) := by decide +kernel
theorem dX5_carriedOrNone_8 : decode cX5_carriedOrNone 8 = .ok (.if_icmp .le 11, 3) := by decide +kernel
theorem dX5_carriedOrNone_11 : decode cX5_carriedOrNone 11 = .ok (.aload_n 0, 1) := by decide +kernel
theorem dX5_carriedOrNone_12 : decode cX5_carriedOrNone 12 = .ok (.iconst 3, 1) := by decide +kernel
theorem dX5_carriedOrNone_13 : decode cX5_carriedOrNone 13 = .ok (.invokevirtual 55, 3) := by decide +kernel
theorem dX5_carriedOrNone_16 : decode cX5_carriedOrNone 16 = .ok (.goto 4, 3) := by decide +kernel
theorem dX5_carriedOrNone_19 : decode cX5_carriedOrNone 19 = .ok (.iload_n 1, 1) := by decide +kernel
theorem dX5_carriedOrNone_20 : decode cX5_carriedOrNone 20 = .ok (.ireturn, 1) := by decide +kernel
theorem dX5_noSuchSheet_0 : decode cX5_noSuchSheet 0 = .ok (.iload_n 0, 1) := by decide +kernel
theorem dX5_noSuchSheet_1 : decode cX5_noSuchSheet 1 = .ok (.iconst 0, 1) := by decide +kernel
theorem dX5_noSuchSheet_2 : decode cX5_noSuchSheet 2 = .ok (.iconst 3, 1) := by decide +kernel
theorem dX5_noSuchSheet_3 : decode cX5_noSuchSheet 3 = .ok (.invokestatic 51, 3) := by decide +kernel
theorem dX5_noSuchSheet_6 : decode cX5_noSuchSheet 6 = .ok (.ireturn, 1) := by decide +kernel
theorem dX5_spiltBetween_0 : decode cX5_spiltBetween 0 = .ok (.iload_n 2, 1) := by decide +kernel
theorem dX5_spiltBetween_1 : decode cX5_spiltBetween 1 = .ok (.ifCond .ne 7, 3) := by decide +kernel
theorem dX5_spiltBetween_4 : decode cX5_spiltBetween 4 = .ok (.iconst 0, 1) := by decide +kernel
theorem dX5_spiltBetween_5 : decode cX5_spiltBetween 5 = .ok (.goto 11, 3) := by decide +kernel
theorem dX5_spiltBetween_8 : decode cX5_spiltBetween 8 = .ok (.iload_n 0, 1) := by decide +kernel
theorem dX5_spiltBetween_9 : decode cX5_spiltBetween 9 = .ok (.iload_n 1, 1) := by decide +kernel
theorem dX5_spiltBetween_10 : decode cX5_spiltBetween 10 = .ok (.isub, 1) := by decide +kernel
theorem dX5_spiltBetween_11 : decode cX5_spiltBetween 11 = .ok (.invokestatic 154, 3) := by decide +kernel
theorem dX5_spiltBetween_14 : decode cX5_spiltBetween 14 = .ok (.iload_n 2, 1) := by decide +kernel
theorem dX5_spiltBetween_15 : decode cX5_spiltBetween 15 = .ok (.idiv, 1) := by decide +kernel
theorem dX5_spiltBetween_16 : decode cX5_spiltBetween 16 = .ok (.ireturn, 1) := by decide +kernel
