theorem dX0_init_0 : decode cX0_init 0 = .ok (.aload_n 0, 1) := by decide +kernel
theorem dX0_init_1 : decode cX0_init 1 = .ok (.invokespecial 3, 3) := by decide +kernel
theorem dX0_init_4 : decode cX0_init 4 = .ok (.aload_n 0, 1) := by decide +kernel
theorem dX0_init_5 : decode cX0_init 5 = .ok (.bipush 8, 2) := by decide +kernel
theorem dX0_init_7 : decode cX0_init 7 = .ok (.newarray .int, 2) := by decide +kernel
theorem dX0_init_9 : decode cX0_init 9 = .ok (.putfield 9, 3) := by decide +kernel
theorem dX0_init_12 : decode cX0_init 12 = .ok (.aload_n 0, 1) := by decide +kernel
theorem dX0_init_13 : decode cX0_init 13 = .ok (.iconst 0, 1) := by decide +kernel
theorem dX0_init_14 : decode cX0_init 14 = .ok (.putfield 15, 3) := by decide +kernel
theorem dX0_init_17 : decode cX0_init 17 = .ok (.aload_n 0, 1) := by decide +kernel
theorem dX0_init_18 : decode cX0_init 18 = .ok (.iconst 0, 1) := by decide +kernel
theorem dX0_init_19 : decode cX0_init 19 = .ok (.putfield 19, 3) := by decide +kernel
theorem dX0_init_22 : decode cX0_init 22 = .ok (.aload_n 0, 1) := by decide +kernel
theorem dX0_init_23 : decode cX0_init 23 = .ok (.iconst 0, 1) := by decide +kernel
theorem dX0_init_24 : decode cX0_init 24 = .ok (.putfield 22, 3) := by decide +kernel
theorem dX0_init_27 : decode cX0_init 27 = .ok (.aload_n 0, 1) := by decide +kernel
theorem dX0_init_28 : decode cX0_init 28 = .ok (.iconst 1, 1) := by decide +kernel
theorem dX0_init_29 : decode cX0_init 29 = .ok (.putfield 25, 3) := by decide +kernel
theorem dX0_init_32 : decode cX0_init 32 = .ok (.aload_n 0, 1) := by decide +kernel
theorem dX0_init_33 : decode cX0_init 33 = .ok (.iconst 0, 1) := by decide +kernel
theorem dX0_init_34 : decode cX0_init 34 = .ok (.putfield 28, 3) := by decide +kernel
theorem dX0_init_37 : decode cX0_init 37 = .ok (.aload_n 0, 1) := by decide +kernel
theorem dX0_init_38 : decode cX0_init 38 = .ok (.bipush 10, 2) := by decide +kernel
theorem dX0_init_40 : decode cX0_init 40 = .ok (.newarray .int, 2) := by decide +kernel
theorem dX0_init_42 : decode cX0_init 42 = .ok (.putfield 31, 3) := by decide +kernel
theorem dX0_init_45 : decode cX0_init 45 = .ok (.aload_n 0, 1) := by decide +kernel
theorem dX0_init_46 : decode cX0_init 46 = .ok (.bipush 100, 2) := by decide +kernel
theorem dX0_init_48 : decode cX0_init 48 = .ok (.newarray .int, 2) := by decide +kernel
theorem dX0_init_50 : decode cX0_init 50 = .ok (.putfield 34, 3) := by decide +kernel
theorem dX0_init_53 : decode cX0_init 53 = .ok (.aload_n 0, 1) := by decide +kernel
theorem dX0_init_54 : decode cX0_init 54 = .ok (.bipush 8, 2) := by decide +kernel
theorem dX0_init_56 : decode cX0_init 56 = .ok (.newarray .int, 2) := by decide +kernel
theorem dX0_init_58 : decode cX0_init 58 = .ok (.putfield 37, 3) := by decide +kernel
theorem dX0_init_61 : decode cX0_init 61 = .ok (.aload_n 0, 1) := by decide +kernel
theorem dX0_init_62 : decode cX0_init 62 = .ok (.bipush 8, 2) := by decide +kernel
theorem dX0_init_64 : decode cX0_init 64 = .ok (.newarray .int, 2) := by decide +kernel
theorem dX0_init_66 : decode cX0_init 66 = .ok (.putfield 40, 3) := by decide +kernel
theorem dX0_init_69 : decode cX0_init 69 = .ok (.aload_n 0, 1) := by decide +kernel
theorem dX0_init_70 : decode cX0_init 70 = .ok (.bipush 8, 2) := by decide +kernel
theorem dX0_init_72 : decode cX0_init 72 = .ok (.newarray .int, 2) := by decide +kernel
theorem dX0_init_74 : decode cX0_init 74 = .ok (.putfield 43, 3) := by decide +kernel
theorem dX0_init_77 : decode cX0_init 77 = .ok (.aload_n 0, 1) := by decide +kernel
theorem dX0_init_78 : decode cX0_init 78 = .ok (.sipush 2048, 3) := by decide +kernel
theorem dX0_init_81 : decode cX0_init 81 = .ok (.newarray .int, 2) := by decide +kernel
theorem dX0_init_83 : decode cX0_init 83 = .ok (.putfield 46, 3) := by decide +kernel
theorem dX0_init_86 : decode cX0_init 86 = .ok (.aload_n 0, 1) := by decide +kernel
theorem dX0_init_87 : decode cX0_init 87 = .ok (.sipush 2048, 3) := by decide +kernel
theorem dX0_init_90 : decode cX0_init 90 = .ok (.newarray .int, 2) := by decide +kernel
theorem dX0_init_92 : decode cX0_init 92 = .ok (.putfield 49, 3) := by decide +kernel
theorem dX0_init_95 : decode cX0_init 95 = .ok (.iconst 0, 1) := by decide +kernel
theorem dX0_init_96 : decode cX0_init 96 = .ok (.istore_n 1, 1) := by decide +kernel
theorem dX0_init_97 : decode cX0_init 97 = .ok (.iload_n 1, 1) := by decide +kernel
theorem dX0_init_98 : decode cX0_init 98 = .ok (.sipush 2048, 3) := by decide +kernel
theorem dX0_init_101 : decode cX0_init 101 = .ok (.if_icmp .ge 16, 3) := by decide +kernel
theorem dX0_init_104 : decode cX0_init 104 = .ok (.aload_n 0, 1) := by decide +kernel
theorem dX0_init_105 : decode cX0_init 105 = .ok (.getfield 46, 3) := by decide +kernel
theorem dX0_init_108 : decode cX0_init 108 = .ok (.iload_n 1, 1) := by decide +kernel
theorem dX0_init_109 : decode cX0_init 109 = .ok (.iconst (-1), 1) := by decide +kernel
theorem dX0_init_110 : decode cX0_init 110 = .ok (.iastore, 1) := by decide +kernel
theorem dX0_init_111 : decode cX0_init 111 = .ok (.iinc 1 1, 3) := by decide +kernel
theorem dX0_init_114 : decode cX0_init 114 = .ok (.goto (-17), 3) := by decide +kernel
theorem dX0_init_117 : decode cX0_init 117 = .ok (.return_, 1) := by decide +kernel
theorem dX0_lay_0 : decode cX0_lay 0 = .ok (.aload_n 0, 1) := by decide +kernel
theorem dX0_lay_1 : decode cX0_lay 1 = .ok (.aload_n 1, 1) := by decide +kernel
theorem dX0_lay_2 : decode cX0_lay 2 = .ok (.getfield 52, 3) := by decide +kernel
theorem dX0_lay_5 : decode cX0_lay 5 = .ok (.putfield 19, 3) := by decide +kernel
theorem dX0_lay_8 : decode cX0_lay 8 = .ok (.aload_n 0, 1) := by decide +kernel
theorem dX0_lay_9 : decode cX0_lay 9 = .ok (.aload_n 1, 1) := by decide +kernel
theorem dX0_lay_10 : decode cX0_lay 10 = .ok (.getfield 57, 3) := by decide +kernel
theorem dX0_lay_13 : decode cX0_lay 13 = .ok (.putfield 25, 3) := by decide +kernel
theorem dX0_lay_16 : decode cX0_lay 16 = .ok (.aload_n 0, 1) := by decide +kernel
theorem dX0_lay_17 : decode cX0_lay 17 = .ok (.iconst 0, 1) := by decide +kernel
theorem dX0_lay_18 : decode cX0_lay 18 = .ok (.putfield 22, 3) := by decide +kernel
theorem dX0_lay_21 : decode cX0_lay 21 = .ok (.iconst 0, 1) := by decide +kernel
theorem dX0_lay_22 : decode cX0_lay 22 = .ok (.istore_n 3, 1) := by decide +kernel
theorem dX0_lay_23 : decode cX0_lay 23 = .ok (.iload_n 3, 1) := by decide +kernel
theorem dX0_lay_24 : decode cX0_lay 24 = .ok (.aload_n 0, 1) := by decide +kernel
theorem dX0_lay_25 : decode cX0_lay 25 = .ok (.getfield 19, 3) := by decide +kernel
theorem dX0_lay_28 : decode cX0_lay 28 = .ok (.if_icmp .ge 101, 3) := by decide +kernel
theorem dX0_lay_31 : decode cX0_lay 31 = .ok (.aload_n 1, 1) := by decide +kernel
theorem dX0_lay_32 : decode cX0_lay 32 = .ok (.getfield 58, 3) := by decide +kernel
theorem dX0_lay_35 : decode cX0_lay 35 = .ok (.iload_n 3, 1) := by decide +kernel
theorem dX0_lay_36 : decode cX0_lay 36 = .ok (.aaload, 1) := by decide +kernel
theorem dX0_lay_37 : decode cX0_lay 37 = .ok (.astore 4, 2) := by decide +kernel
theorem dX0_lay_39 : decode cX0_lay 39 = .ok (.aload_n 0, 1) := by decide +kernel
theorem dX0_lay_40 : decode cX0_lay 40 = .ok (.getfield 31, 3) := by decide +kernel
theorem dX0_lay_43 : decode cX0_lay 43 = .ok (.iload_n 3, 1) := by decide +kernel
theorem dX0_lay_44 : decode cX0_lay 44 = .ok (.aload 4, 2) := by decide +kernel
theorem dX0_lay_46 : decode cX0_lay 46 = .ok (.getfield 61, 3) := by decide +kernel
theorem dX0_lay_49 : decode cX0_lay 49 = .ok (.iastore, 1) := by decide +kernel
theorem dX0_lay_50 : decode cX0_lay 50 = .ok (.aload_n 0, 1) := by decide +kernel
theorem dX0_lay_51 : decode cX0_lay 51 = .ok (.getfield 40, 3) := by decide +kernel
theorem dX0_lay_54 : decode cX0_lay 54 = .ok (.iload_n 3, 1) := by decide +kernel
theorem dX0_lay_55 : decode cX0_lay 55 = .ok (.aload 4, 2) := by decide +kernel
theorem dX0_lay_57 : decode cX0_lay 57 = .ok (.iload_n 2, 1) := by decide +kernel
theorem dX0_lay_58 : decode cX0_lay 58 = .ok (.aload_n 1, 1) := by decide +kernel
theorem dX0_lay_59 : decode cX0_lay 59 = .ok (.getfield 65, 3) := by decide +kernel
theorem dX0_lay_62 : decode cX0_lay 62 = .ok (.invokevirtual 68, 3) := by decide +kernel
theorem dX0_lay_65 : decode cX0_lay 65 = .ok (.iastore, 1) := by decide +kernel
theorem dX0_lay_66 : decode cX0_lay 66 = .ok (.aload_n 0, 1) := by decide +kernel
theorem dX0_lay_67 : decode cX0_lay 67 = .ok (.getfield 37, 3) := by decide +kernel
theorem dX0_lay_70 : decode cX0_lay 70 = .ok (.iload_n 3, 1) := by decide +kernel
theorem dX0_lay_71 : decode cX0_lay 71 = .ok (.aload 4, 2) := by decide +kernel
theorem dX0_lay_73 : decode cX0_lay 73 = .ok (.aload_n 0, 1) := by decide +kernel
theorem dX0_lay_74 : decode cX0_lay 74 = .ok (.getfield 40, 3) := by decide +kernel
theorem dX0_lay_77 : decode cX0_lay 77 = .ok (.iload_n 3, 1) := by decide +kernel
theorem dX0_lay_78 : decode cX0_lay 78 = .ok (.iaload, 1) := by decide +kernel
theorem dX0_lay_79 : decode cX0_lay 79 = .ok (.invokevirtual 72, 3) := by decide +kernel
theorem dX0_lay_82 : decode cX0_lay 82 = .ok (.iastore, 1) := by decide +kernel
theorem dX0_lay_83 : decode cX0_lay 83 = .ok (.aload_n 0, 1) := by decide +kernel
theorem dX0_lay_84 : decode cX0_lay 84 = .ok (.getfield 43, 3) := by decide +kernel
theorem dX0_lay_87 : decode cX0_lay 87 = .ok (.iload_n 3, 1) := by decide +kernel
theorem dX0_lay_88 : decode cX0_lay 88 = .ok (.aload 4, 2) := by decide +kernel
theorem dX0_lay_90 : decode cX0_lay 90 = .ok (.getfield 76, 3) := by decide +kernel
theorem dX0_lay_93 : decode cX0_lay 93 = .ok (.iastore, 1) := by decide +kernel
theorem dX0_lay_94 : decode cX0_lay 94 = .ok (.aload 4, 2) := by decide +kernel
theorem dX0_lay_96 : decode cX0_lay 96 = .ok (.getfield 78, 3) := by decide +kernel
theorem dX0_lay_99 : decode cX0_lay 99 = .ok (.ifCond .ne 24, 3) := by decide +kernel
theorem dX0_lay_102 : decode cX0_lay 102 = .ok (.aload_n 0, 1) := by decide +kernel
theorem dX0_lay_103 : decode cX0_lay 103 = .ok (.getfield 40, 3) := by decide +kernel
theorem dX0_lay_106 : decode cX0_lay 106 = .ok (.iload_n 3, 1) := by decide +kernel
theorem dX0_lay_107 : decode cX0_lay 107 = .ok (.iaload, 1) := by decide +kernel
theorem dX0_lay_108 : decode cX0_lay 108 = .ok (.ifCond .le 15, 3) := by decide +kernel
theorem dX0_lay_111 : decode cX0_lay 111 = .ok (.aload_n 0, 1) := by decide +kernel
theorem dX0_lay_112 : decode cX0_lay 112 = .ok (.dup, 1) := by decide +kernel
theorem dX0_lay_113 : decode cX0_lay 113 = .ok (.getfield 22, 3) := by decide +kernel
theorem dX0_lay_116 : decode cX0_lay 116 = .ok (.iconst 1, 1) := by decide +kernel
theorem dX0_lay_117 : decode cX0_lay 117 = .ok (.iload_n 3, 1) := by decide +kernel
theorem dX0_lay_118 : decode cX0_lay 118 = .ok (.ishl, 1) := by decide +kernel
theorem dX0_lay_119 : decode cX0_lay 119 = .ok (.ior, 1) := by decide +kernel
theorem dX0_lay_120 : decode cX0_lay 120 = .ok (.putfield 22, 3) := by decide +kernel
theorem dX0_lay_123 : decode cX0_lay 123 = .ok (.iinc 3 1, 3) := by decide +kernel
theorem dX0_lay_126 : decode cX0_lay 126 = .ok (.goto (-103), 3) := by decide +kernel
theorem dX0_lay_129 : decode cX0_lay 129 = .ok (.aload_n 0, 1) := by decide +kernel
theorem dX0_lay_130 : decode cX0_lay 130 = .ok (.getfield 31, 3) := by decide +kernel
theorem dX0_lay_133 : decode cX0_lay 133 = .ok (.bipush 8, 2) := by decide +kernel
theorem dX0_lay_135 : decode cX0_lay 135 = .ok (.aload_n 1, 1) := by decide +kernel
theorem dX0_lay_136 : decode cX0_lay 136 = .ok (.getfield 82, 3) := by decide +kernel
theorem dX0_lay_139 : decode cX0_lay 139 = .ok (.iastore, 1) := by decide +kernel
theorem dX0_lay_140 : decode cX0_lay 140 = .ok (.aload_n 0, 1) := by decide +kernel
theorem dX0_lay_141 : decode cX0_lay 141 = .ok (.getfield 31, 3) := by decide +kernel
theorem dX0_lay_144 : decode cX0_lay 144 = .ok (.bipush 9, 2) := by decide +kernel
theorem dX0_lay_146 : decode cX0_lay 146 = .ok (.iconst 0, 1) := by decide +kernel
theorem dX0_lay_147 : decode cX0_lay 147 = .ok (.iastore, 1) := by decide +kernel
theorem dX0_lay_148 : decode cX0_lay 148 = .ok (.aload_n 0, 1) := by decide +kernel
theorem dX0_lay_149 : decode cX0_lay 149 = .ok (.aload_n 1, 1) := by decide +kernel
theorem dX0_lay_150 : decode cX0_lay 150 = .ok (.getfield 85, 3) := by decide +kernel
theorem dX0_lay_153 : decode cX0_lay 153 = .ok (.putfield 28, 3) := by decide +kernel
theorem dX0_lay_156 : decode cX0_lay 156 = .ok (.aload_n 0, 1) := by decide +kernel
theorem dX0_lay_157 : decode cX0_lay 157 = .ok (.invokevirtual 86, 3) := by decide +kernel
theorem dX0_lay_160 : decode cX0_lay 160 = .ok (.return_, 1) := by decide +kernel
theorem dX0_measure_0 : decode cX0_measure 0 = .ok (.iconst 0, 1) := by decide +kernel
theorem dX0_measure_1 : decode cX0_measure 1 = .ok (.istore_n 1, 1) := by decide +kernel
theorem dX0_measure_2 : decode cX0_measure 2 = .ok (.iload_n 1, 1) := by decide +kernel
theorem dX0_measure_3 : decode cX0_measure 3 = .ok (.bipush 10, 2) := by decide +kernel
theorem dX0_measure_5 : decode cX0_measure 5 = .ok (.if_icmp .ge 53, 3) := by decide +kernel
theorem dX0_measure_8 : decode cX0_measure 8 = .ok (.iconst 0, 1) := by decide +kernel
theorem dX0_measure_9 : decode cX0_measure 9 = .ok (.istore_n 2, 1) := by decide +kernel
theorem dX0_measure_10 : decode cX0_measure 10 = .ok (.iload_n 2, 1) := by decide +kernel
theorem dX0_measure_11 : decode cX0_measure 11 = .ok (.bipush 10, 2) := by decide +kernel
theorem dX0_measure_13 : decode cX0_measure 13 = .ok (.if_icmp .ge 39, 3) := by decide +kernel
theorem dX0_measure_16 : decode cX0_measure 16 = .ok (.aload_n 0, 1) := by decide +kernel
theorem dX0_measure_17 : decode cX0_measure 17 = .ok (.getfield 34, 3) := by decide +kernel
theorem dX0_measure_20 : decode cX0_measure 20 = .ok (.iload_n 1, 1) := by decide +kernel
theorem dX0_measure_21 : decode cX0_measure 21 = .ok (.bipush 10, 2) := by decide +kernel
theorem dX0_measure_23 : decode cX0_measure 23 = .ok (.imul, 1) := by decide +kernel
theorem dX0_measure_24 : decode cX0_measure 24 = .ok (.iload_n 2, 1) := by decide +kernel
theorem dX0_measure_25 : decode cX0_measure 25 = .ok (.iadd, 1) := by decide +kernel
theorem dX0_measure_26 : decode cX0_measure 26 = .ok (.aload_n 0, 1) := by decide +kernel
theorem dX0_measure_27 : decode cX0_measure 27 = .ok (.getfield 31, 3) := by decide +kernel
theorem dX0_measure_30 : decode cX0_measure 30 = .ok (.iload_n 1, 1) := by decide +kernel
theorem dX0_measure_31 : decode cX0_measure 31 = .ok (.iaload, 1) := by decide +kernel
theorem dX0_measure_32 : decode cX0_measure 32 = .ok (.aload_n 0, 1) := by decide +kernel
theorem dX0_measure_33 : decode cX0_measure 33 = .ok (.getfield 31, 3) := by decide +kernel
theorem dX0_measure_36 : decode cX0_measure 36 = .ok (.iload_n 2, 1) := by decide +kernel
theorem dX0_measure_37 : decode cX0_measure 37 = .ok (.iaload, 1) := by decide +kernel
theorem dX0_measure_38 : decode cX0_measure 38 = .ok (.aload_n 0, 1) := by decide +kernel
theorem dX0_measure_39 : decode cX0_measure 39 = .ok (.getfield 28, 3) := by decide +kernel
theorem dX0_measure_42 : decode cX0_measure 42 = .ok (.invokestatic 89, 3) := by decide +kernel
theorem dX0_measure_45 : decode cX0_measure 45 = .ok (.iastore, 1) := by decide +kernel
theorem dX0_measure_46 : decode cX0_measure 46 = .ok (.iinc 2 1, 3) := by decide +kernel
theorem dX0_measure_49 : decode cX0_measure 49 = .ok (.goto (-39), 3) := by decide +kernel
theorem dX0_measure_52 : decode cX0_measure 52 = .ok (.iinc 1 1, 3) := by decide +kernel
theorem dX0_measure_55 : decode cX0_measure 55 = .ok (.goto (-53), 3) := by decide +kernel
theorem dX0_measure_58 : decode cX0_measure 58 = .ok (.return_, 1) := by decide +kernel
theorem dX0_isIn_0 : decode cX0_isIn 0 = .ok (.iload_n 1, 1) := by decide +kernel
theorem dX0_isIn_1 : decode cX0_isIn 1 = .ok (.iload_n 0, 1) := by decide +kernel
theorem dX0_isIn_2 : decode cX0_isIn 2 = .ok (.ishr, 1) := by decide +kernel
theorem dX0_isIn_3 : decode cX0_isIn 3 = .ok (.iconst 1, 1) := by decide +kernel
theorem dX0_isIn_4 : decode cX0_isIn 4 = .ok (.iand, 1) := by decide +kernel
theorem dX0_isIn_5 : decode cX0_isIn 5 = .ok (.iconst 1, 1) := by decide +kernel
theorem dX0_isIn_6 : decode cX0_isIn 6 = .ok (.if_icmp .ne 7, 3) := by decide +kernel
theorem dX0_isIn_9 : decode cX0_isIn 9 = .ok (.iconst 1, 1) := by decide +kernel
theorem dX0_isIn_10 : decode cX0_isIn 10 = .ok (.goto 4, 3) := by decide +kernel
theorem dX0_isIn_13 : decode cX0_isIn 13 = .ok (.iconst 0, 1) := by decide +kernel
theorem dX0_isIn_14 : decode cX0_isIn 14 = .ok (.ireturn, 1) := by decide +kernel
theorem dX0_carried_0 : decode cX0_carried 0 = .ok (.iconst 0, 1) := by decide +kernel
theorem dX0_carried_1 : decode cX0_carried 1 = .ok (.iload_n 1, 1) := by decide +kernel
theorem dX0_carried_2 : decode cX0_carried 2 = .ok (.aload_n 0, 1) := by decide +kernel
theorem dX0_carried_3 : decode cX0_carried 3 = .ok (.getfield 34, 3) := by decide +kernel
theorem dX0_carried_6 : decode cX0_carried 6 = .ok (.iload_n 2, 1) := by decide +kernel
theorem dX0_carried_7 : decode cX0_carried 7 = .ok (.bipush 10, 2) := by decide +kernel
theorem dX0_carried_9 : decode cX0_carried 9 = .ok (.imul, 1) := by decide +kernel
theorem dX0_carried_10 : decode cX0_carried 10 = .ok (.iload_n 3, 1) := by decide +kernel
theorem dX0_carried_11 : decode cX0_carried 11 = .ok (.iadd, 1) := by decide +kernel
theorem dX0_carried_12 : decode cX0_carried 12 = .ok (.iaload, 1) := by decide +kernel
theorem dX0_carried_13 : decode cX0_carried 13 = .ok (.isub, 1) := by decide +kernel
theorem dX0_carried_14 : decode cX0_carried 14 = .ok (.invokestatic 93, 3) := by decide +kernel
theorem dX0_carried_17 : decode cX0_carried 17 = .ok (.ireturn, 1) := by decide +kernel
theorem dX0_ran_0 : decode cX0_ran 0 = .ok (.iload_n 1, 1) := by decide +kernel
theorem dX0_ran_1 : decode cX0_ran 1 = .ok (.aload_n 0, 1) := by decide +kernel
theorem dX0_ran_2 : decode cX0_ran 2 = .ok (.getfield 22, 3) := by decide +kernel
theorem dX0_ran_5 : decode cX0_ran 5 = .ok (.invokestatic 98, 3) := by decide +kernel
theorem dX0_ran_8 : decode cX0_ran 8 = .ok (.ifCond .eq 13, 3) := by decide +kernel
theorem dX0_ran_11 : decode cX0_ran 11 = .ok (.iload_n 2, 1) := by decide +kernel
theorem dX0_ran_12 : decode cX0_ran 12 = .ok (.aload_n 0, 1) := by decide +kernel
theorem dX0_ran_13 : decode cX0_ran 13 = .ok (.getfield 37, 3) := by decide +kernel
theorem dX0_ran_16 : decode cX0_ran 16 = .ok (.iload_n 1, 1) := by decide +kernel
theorem dX0_ran_17 : decode cX0_ran 17 = .ok (.iaload, 1) := by decide +kernel
theorem dX0_ran_18 : decode cX0_ran 18 = .ok (.if_icmp .ge 5, 3) := by decide +kernel
theorem dX0_ran_21 : decode cX0_ran 21 = .ok (.iconst (-1), 1) := by decide +kernel
theorem dX0_ran_22 : decode cX0_ran 22 = .ok (.ireturn, 1) := by decide +kernel
theorem dX0_ran_23 : decode cX0_ran 23 = .ok (.aload_n 0, 1) := by decide +kernel
theorem dX0_ran_24 : decode cX0_ran 24 = .ok (.getfield 25, 3) := by decide +kernel
theorem dX0_ran_27 : decode cX0_ran 27 = .ok (.iload_n 2, 1) := by decide +kernel
theorem dX0_ran_28 : decode cX0_ran 28 = .ok (.aload_n 0, 1) := by decide +kernel
theorem dX0_ran_29 : decode cX0_ran 29 = .ok (.getfield 37, 3) := by decide +kernel
theorem dX0_ran_32 : decode cX0_ran 32 = .ok (.iload_n 1, 1) := by decide +kernel
theorem dX0_ran_33 : decode cX0_ran 33 = .ok (.iaload, 1) := by decide +kernel
theorem dX0_ran_34 : decode cX0_ran 34 = .ok (.isub, 1) := by decide +kernel
theorem dX0_ran_35 : decode cX0_ran 35 = .ok (.aload_n 0, 1) := by decide +kernel
theorem dX0_ran_36 : decode cX0_ran 36 = .ok (.getfield 40, 3) := by decide +kernel
theorem dX0_ran_39 : decode cX0_ran 39 = .ok (.iload_n 1, 1) := by decide +kernel
theorem dX0_ran_40 : decode cX0_ran 40 = .ok (.iaload, 1) := by decide +kernel
theorem dX0_ran_41 : decode cX0_ran 41 = .ok (.iadd, 1) := by decide +kernel
theorem dX0_ran_42 : decode cX0_ran 42 = .ok (.invokestatic 102, 3) := by decide +kernel
theorem dX0_ran_45 : decode cX0_ran 45 = .ok (.ireturn, 1) := by decide +kernel
theorem dX0_planAll_0 : decode cX0_planAll 0 = .ok (.iconst 0, 1) := by decide +kernel
theorem dX0_planAll_1 : decode cX0_planAll 1 = .ok (.istore_n 1, 1) := by decide +kernel
theorem dX0_planAll_2 : decode cX0_planAll 2 = .ok (.iload_n 1, 1) := by decide +kernel
theorem dX0_planAll_3 : decode cX0_planAll 3 = .ok (.aload_n 0, 1) := by decide +kernel
theorem dX0_planAll_4 : decode cX0_planAll 4 = .ok (.getfield 19, 3) := by decide +kernel
theorem dX0_planAll_7 : decode cX0_planAll 7 = .ok (.if_icmp .ge 16, 3) := by decide +kernel
theorem dX0_planAll_10 : decode cX0_planAll 10 = .ok (.aload_n 0, 1) := by decide +kernel
theorem dX0_planAll_11 : decode cX0_planAll 11 = .ok (.getfield 9, 3) := by decide +kernel
theorem dX0_planAll_14 : decode cX0_planAll 14 = .ok (.iload_n 1, 1) := by decide +kernel
theorem dX0_planAll_15 : decode cX0_planAll 15 = .ok (.iload_n 1, 1) := by decide +kernel
theorem dX0_planAll_16 : decode cX0_planAll 16 = .ok (.iastore, 1) := by decide +kernel
theorem dX0_planAll_17 : decode cX0_planAll 17 = .ok (.iinc 1 1, 3) := by decide +kernel
theorem dX0_planAll_20 : decode cX0_planAll 20 = .ok (.goto (-18), 3) := by decide +kernel
theorem dX0_planAll_23 : decode cX0_planAll 23 = .ok (.aload_n 0, 1) := by decide +kernel
theorem dX0_planAll_24 : decode cX0_planAll 24 = .ok (.aload_n 0, 1) := by decide +kernel
theorem dX0_planAll_25 : decode cX0_planAll 25 = .ok (.getfield 19, 3) := by decide +kernel
theorem dX0_planAll_28 : decode cX0_planAll 28 = .ok (.putfield 15, 3) := by decide +kernel
theorem dX0_planAll_31 : decode cX0_planAll 31 = .ok (.return_, 1) := by decide +kernel
theorem dX0_planFrom_0 : decode cX0_planFrom 0 = .ok (.iconst 0, 1) := by decide +kernel
theorem dX0_planFrom_1 : decode cX0_planFrom 1 = .ok (.istore_n 2, 1) := by decide +kernel
theorem dX0_planFrom_2 : decode cX0_planFrom 2 = .ok (.aload_n 0, 1) := by decide +kernel
theorem dX0_planFrom_3 : decode cX0_planFrom 3 = .ok (.iconst 0, 1) := by decide +kernel
theorem dX0_planFrom_4 : decode cX0_planFrom 4 = .ok (.putfield 15, 3) := by decide +kernel
theorem dX0_planFrom_7 : decode cX0_planFrom 7 = .ok (.iconst 0, 1) := by decide +kernel
theorem dX0_planFrom_8 : decode cX0_planFrom 8 = .ok (.istore_n 3, 1) := by decide +kernel
theorem dX0_planFrom_9 : decode cX0_planFrom 9 = .ok (.iload_n 3, 1) := by decide +kernel
theorem dX0_planFrom_10 : decode cX0_planFrom 10 = .ok (.aload_n 1, 1) := by decide +kernel
theorem dX0_planFrom_11 : decode cX0_planFrom 11 = .ok (.getfield 105, 3) := by decide +kernel
theorem dX0_planFrom_14 : decode cX0_planFrom 14 = .ok (.if_icmp .ge 70, 3) := by decide +kernel
theorem dX0_planFrom_17 : decode cX0_planFrom 17 = .ok (.aload_n 1, 1) := by decide +kernel
theorem dX0_planFrom_18 : decode cX0_planFrom 18 = .ok (.getfield 110, 3) := by decide +kernel
theorem dX0_planFrom_21 : decode cX0_planFrom 21 = .ok (.iload_n 3, 1) := by decide +kernel
theorem dX0_planFrom_22 : decode cX0_planFrom 22 = .ok (.iaload, 1) := by decide +kernel
theorem dX0_planFrom_23 : decode cX0_planFrom 23 = .ok (.istore 4, 2) := by decide +kernel
theorem dX0_planFrom_25 : decode cX0_planFrom 25 = .ok (.iload 4, 2) := by decide +kernel
theorem dX0_planFrom_27 : decode cX0_planFrom 27 = .ok (.ifCond .lt 21, 3) := by decide +kernel
theorem dX0_planFrom_30 : decode cX0_planFrom 30 = .ok (.iload 4, 2) := by decide +kernel
theorem dX0_planFrom_32 : decode cX0_planFrom 32 = .ok (.aload_n 0, 1) := by decide +kernel
theorem dX0_planFrom_33 : decode cX0_planFrom 33 = .ok (.getfield 19, 3) := by decide +kernel
theorem dX0_planFrom_36 : decode cX0_planFrom 36 = .ok (.if_icmp .ge 12, 3) := by decide +kernel
theorem dX0_planFrom_39 : decode cX0_planFrom 39 = .ok (.iload 4, 2) := by decide +kernel
theorem dX0_planFrom_41 : decode cX0_planFrom 41 = .ok (.iload_n 2, 1) := by decide +kernel
theorem dX0_planFrom_42 : decode cX0_planFrom 42 = .ok (.invokestatic 98, 3) := by decide +kernel
theorem dX0_planFrom_45 : decode cX0_planFrom 45 = .ok (.ifCond .eq 5, 3) := by decide +kernel
theorem dX0_planFrom_48 : decode cX0_planFrom 48 = .ok (.iconst 0, 1) := by decide +kernel
theorem dX0_planFrom_49 : decode cX0_planFrom 49 = .ok (.ireturn, 1) := by decide +kernel
theorem dX0_planFrom_50 : decode cX0_planFrom 50 = .ok (.iload_n 2, 1) := by decide +kernel
theorem dX0_planFrom_51 : decode cX0_planFrom 51 = .ok (.iconst 1, 1) := by decide +kernel
theorem dX0_planFrom_52 : decode cX0_planFrom 52 = .ok (.iload 4, 2) := by decide +kernel
theorem dX0_planFrom_54 : decode cX0_planFrom 54 = .ok (.ishl, 1) := by decide +kernel
theorem dX0_planFrom_55 : decode cX0_planFrom 55 = .ok (.ior, 1) := by decide +kernel
theorem dX0_planFrom_56 : decode cX0_planFrom 56 = .ok (.istore_n 2, 1) := by decide +kernel
theorem dX0_planFrom_57 : decode cX0_planFrom 57 = .ok (.aload_n 0, 1) := by decide +kernel
theorem dX0_planFrom_58 : decode cX0_planFrom 58 = .ok (.getfield 9, 3) := by decide +kernel
theorem dX0_planFrom_61 : decode cX0_planFrom 61 = .ok (.aload_n 0, 1) := by decide +kernel
theorem dX0_planFrom_62 : decode cX0_planFrom 62 = .ok (.getfield 15, 3) := by decide +kernel
theorem dX0_planFrom_65 : decode cX0_planFrom 65 = .ok (.iload 4, 2) := by decide +kernel
theorem dX0_planFrom_67 : decode cX0_planFrom 67 = .ok (.iastore, 1) := by decide +kernel
theorem dX0_planFrom_68 : decode cX0_planFrom 68 = .ok (.aload_n 0, 1) := by decide +kernel
theorem dX0_planFrom_69 : decode cX0_planFrom 69 = .ok (.dup, 1) := by decide +kernel
theorem dX0_planFrom_70 : decode cX0_planFrom 70 = .ok (.getfield 15, 3) := by decide +kernel
theorem dX0_planFrom_73 : decode cX0_planFrom 73 = .ok (.iconst 1, 1) := by decide +kernel
theorem dX0_planFrom_74 : decode cX0_planFrom 74 = .ok (.iadd, 1) := by decide +kernel
theorem dX0_planFrom_75 : decode cX0_planFrom 75 = .ok (.putfield 15, 3) := by decide +kernel
theorem dX0_planFrom_78 : decode cX0_planFrom 78 = .ok (.iinc 3 1, 3) := by decide +kernel
theorem dX0_planFrom_81 : decode cX0_planFrom 81 = .ok (.goto (-72), 3) := by decide +kernel
theorem dX0_planFrom_84 : decode cX0_planFrom 84 = .ok (.iconst 1, 1) := by decide +kernel
theorem dX0_planFrom_85 : decode cX0_planFrom 85 = .ok (.ireturn, 1) := by decide +kernel
theorem dX0_planBrings_0 : decode cX0_planBrings 0 = .ok (.bipush 8, 2) := by decide +kernel
theorem dX0_planBrings_2 : decode cX0_planBrings 2 = .ok (.istore_n 3, 1) := by decide +kernel
theorem dX0_planBrings_3 : decode cX0_planBrings 3 = .ok (.iload_n 1, 1) := by decide +kernel
theorem dX0_planBrings_4 : decode cX0_planBrings 4 = .ok (.istore 4, 2) := by decide +kernel
theorem dX0_planBrings_6 : decode cX0_planBrings 6 = .ok (.iconst 0, 1) := by decide +kernel
theorem dX0_planBrings_7 : decode cX0_planBrings 7 = .ok (.istore 5, 2) := by decide +kernel
theorem dX0_planBrings_9 : decode cX0_planBrings 9 = .ok (.iload 5, 2) := by decide +kernel
theorem dX0_planBrings_11 : decode cX0_planBrings 11 = .ok (.aload_n 0, 1) := by decide +kernel
theorem dX0_planBrings_12 : decode cX0_planBrings 12 = .ok (.getfield 15, 3) := by decide +kernel
theorem dX0_planBrings_15 : decode cX0_planBrings 15 = .ok (.if_icmp .ge 63, 3) := by decide +kernel
theorem dX0_planBrings_18 : decode cX0_planBrings 18 = .ok (.iload 5, 2) := by decide +kernel
theorem dX0_planBrings_20 : decode cX0_planBrings 20 = .ok (.iload_n 2, 1) := by decide +kernel
theorem dX0_planBrings_21 : decode cX0_planBrings 21 = .ok (.if_icmp .eq 51, 3) := by decide +kernel
theorem dX0_planBrings_24 : decode cX0_planBrings 24 = .ok (.aload_n 0, 1) := by decide +kernel
theorem dX0_planBrings_25 : decode cX0_planBrings 25 = .ok (.getfield 9, 3) := by decide +kernel
theorem dX0_planBrings_28 : decode cX0_planBrings 28 = .ok (.iload 5, 2) := by decide +kernel
theorem dX0_planBrings_30 : decode cX0_planBrings 30 = .ok (.iaload, 1) := by decide +kernel
theorem dX0_planBrings_31 : decode cX0_planBrings 31 = .ok (.istore 6, 2) := by decide +kernel
theorem dX0_planBrings_33 : decode cX0_planBrings 33 = .ok (.aload_n 0, 1) := by decide +kernel
theorem dX0_planBrings_34 : decode cX0_planBrings 34 = .ok (.iload 4, 2) := by decide +kernel
theorem dX0_planBrings_36 : decode cX0_planBrings 36 = .ok (.iload_n 3, 1) := by decide +kernel
theorem dX0_planBrings_37 : decode cX0_planBrings 37 = .ok (.iload 6, 2) := by decide +kernel
theorem dX0_planBrings_39 : decode cX0_planBrings 39 = .ok (.invokevirtual 113, 3) := by decide +kernel
theorem dX0_planBrings_42 : decode cX0_planBrings 42 = .ok (.istore 4, 2) := by decide +kernel
theorem dX0_planBrings_44 : decode cX0_planBrings 44 = .ok (.aload_n 0, 1) := by decide +kernel
theorem dX0_planBrings_45 : decode cX0_planBrings 45 = .ok (.iload 6, 2) := by decide +kernel
theorem dX0_planBrings_47 : decode cX0_planBrings 47 = .ok (.iload 4, 2) := by decide +kernel
theorem dX0_planBrings_49 : decode cX0_planBrings 49 = .ok (.invokevirtual 116, 3) := by decide +kernel
theorem dX0_planBrings_52 : decode cX0_planBrings 52 = .ok (.istore 7, 2) := by decide +kernel
theorem dX0_planBrings_54 : decode cX0_planBrings 54 = .ok (.iload 7, 2) := by decide +kernel
theorem dX0_planBrings_56 : decode cX0_planBrings 56 = .ok (.iconst (-1), 1) := by decide +kernel
theorem dX0_planBrings_57 : decode cX0_planBrings 57 = .ok (.if_icmp .ne 8, 3) := by decide +kernel
theorem dX0_planBrings_60 : decode cX0_planBrings 60 = .ok (.iload 4, 2) := by decide +kernel
theorem dX0_planBrings_62 : decode cX0_planBrings 62 = .ok (.goto 5, 3) := by decide +kernel
theorem dX0_planBrings_65 : decode cX0_planBrings 65 = .ok (.iload 7, 2) := by decide +kernel
theorem dX0_planBrings_67 : decode cX0_planBrings 67 = .ok (.istore 4, 2) := by decide +kernel
theorem dX0_planBrings_69 : decode cX0_planBrings 69 = .ok (.iload 6, 2) := by decide +kernel
theorem dX0_planBrings_71 : decode cX0_planBrings 71 = .ok (.istore_n 3, 1) := by decide +kernel
theorem dX0_planBrings_72 : decode cX0_planBrings 72 = .ok (.iinc 5 1, 3) := by decide +kernel
theorem dX0_planBrings_75 : decode cX0_planBrings 75 = .ok (.goto (-66), 3) := by decide +kernel
theorem dX0_planBrings_78 : decode cX0_planBrings 78 = .ok (.aload_n 0, 1) := by decide +kernel
theorem dX0_planBrings_79 : decode cX0_planBrings 79 = .ok (.iload 4, 2) := by decide +kernel
theorem dX0_planBrings_81 : decode cX0_planBrings 81 = .ok (.iload_n 3, 1) := by decide +kernel
theorem dX0_planBrings_82 : decode cX0_planBrings 82 = .ok (.bipush 9, 2) := by decide +kernel
theorem dX0_planBrings_84 : decode cX0_planBrings 84 = .ok (.invokevirtual 113, 3) := by decide +kernel
theorem dX0_planBrings_87 : decode cX0_planBrings 87 = .ok (.ireturn, 1) := by decide +kernel
theorem dX0_runsInARow_0 : decode cX0_runsInARow 0 = .ok (.iconst 0, 1) := by decide +kernel
theorem dX0_runsInARow_1 : decode cX0_runsInARow 1 = .ok (.istore_n 3, 1) := by decide +kernel
theorem dX0_runsInARow_2 : decode cX0_runsInARow 2 = .ok (.bipush 8, 2) := by decide +kernel
theorem dX0_runsInARow_4 : decode cX0_runsInARow 4 = .ok (.istore 4, 2) := by decide +kernel
theorem dX0_runsInARow_6 : decode cX0_runsInARow 6 = .ok (.iload_n 2, 1) := by decide +kernel
theorem dX0_runsInARow_7 : decode cX0_runsInARow 7 = .ok (.istore 5, 2) := by decide +kernel
theorem dX0_runsInARow_9 : decode cX0_runsInARow 9 = .ok (.iconst 0, 1) := by decide +kernel
theorem dX0_runsInARow_10 : decode cX0_runsInARow 10 = .ok (.istore 6, 2) := by decide +kernel
theorem dX0_runsInARow_12 : decode cX0_runsInARow 12 = .ok (.iload 6, 2) := by decide +kernel
theorem dX0_runsInARow_14 : decode cX0_runsInARow 14 = .ok (.aload_n 1, 1) := by decide +kernel
theorem dX0_runsInARow_15 : decode cX0_runsInARow 15 = .ok (.getfield 105, 3) := by decide +kernel
theorem dX0_runsInARow_18 : decode cX0_runsInARow 18 = .ok (.if_icmp .ge 82, 3) := by decide +kernel
theorem dX0_runsInARow_21 : decode cX0_runsInARow 21 = .ok (.aload_n 1, 1) := by decide +kernel
theorem dX0_runsInARow_22 : decode cX0_runsInARow 22 = .ok (.getfield 110, 3) := by decide +kernel
theorem dX0_runsInARow_25 : decode cX0_runsInARow 25 = .ok (.iload 6, 2) := by decide +kernel
theorem dX0_runsInARow_27 : decode cX0_runsInARow 27 = .ok (.iaload, 1) := by decide +kernel
theorem dX0_runsInARow_28 : decode cX0_runsInARow 28 = .ok (.istore 7, 2) := by decide +kernel
theorem dX0_runsInARow_30 : decode cX0_runsInARow 30 = .ok (.iload 7, 2) := by decide +kernel
theorem dX0_runsInARow_32 : decode cX0_runsInARow 32 = .ok (.ifCond .lt 21, 3) := by decide +kernel
theorem dX0_runsInARow_35 : decode cX0_runsInARow 35 = .ok (.iload 7, 2) := by decide +kernel
theorem dX0_runsInARow_37 : decode cX0_runsInARow 37 = .ok (.aload_n 0, 1) := by decide +kernel
theorem dX0_runsInARow_38 : decode cX0_runsInARow 38 = .ok (.getfield 19, 3) := by decide +kernel
theorem dX0_runsInARow_41 : decode cX0_runsInARow 41 = .ok (.if_icmp .ge 12, 3) := by decide +kernel
theorem dX0_runsInARow_44 : decode cX0_runsInARow 44 = .ok (.iload 7, 2) := by decide +kernel
theorem dX0_runsInARow_46 : decode cX0_runsInARow 46 = .ok (.iload_n 3, 1) := by decide +kernel
theorem dX0_runsInARow_47 : decode cX0_runsInARow 47 = .ok (.invokestatic 98, 3) := by decide +kernel
theorem dX0_runsInARow_50 : decode cX0_runsInARow 50 = .ok (.ifCond .eq 6, 3) := by decide +kernel
theorem dX0_runsInARow_53 : decode cX0_runsInARow 53 = .ok (.iload 6, 2) := by decide +kernel
theorem dX0_runsInARow_55 : decode cX0_runsInARow 55 = .ok (.ireturn, 1) := by decide +kernel
theorem dX0_runsInARow_56 : decode cX0_runsInARow 56 = .ok (.aload_n 0, 1) := by decide +kernel
theorem dX0_runsInARow_57 : decode cX0_runsInARow 57 = .ok (.iload 7, 2) := by decide +kernel
theorem dX0_runsInARow_59 : decode cX0_runsInARow 59 = .ok (.aload_n 0, 1) := by decide +kernel
theorem dX0_runsInARow_60 : decode cX0_runsInARow 60 = .ok (.iload 5, 2) := by decide +kernel
theorem dX0_runsInARow_62 : decode cX0_runsInARow 62 = .ok (.iload 4, 2) := by decide +kernel
theorem dX0_runsInARow_64 : decode cX0_runsInARow 64 = .ok (.iload 7, 2) := by decide +kernel
theorem dX0_runsInARow_66 : decode cX0_runsInARow 66 = .ok (.invokevirtual 113, 3) := by decide +kernel
theorem dX0_runsInARow_69 : decode cX0_runsInARow 69 = .ok (.invokevirtual 116, 3) := by decide +kernel
theorem dX0_runsInARow_72 : decode cX0_runsInARow 72 = .ok (.istore 5, 2) := by decide +kernel
theorem dX0_runsInARow_74 : decode cX0_runsInARow 74 = .ok (.iload 5, 2) := by decide +kernel
theorem dX0_runsInARow_76 : decode cX0_runsInARow 76 = .ok (.iconst (-1), 1) := by decide +kernel
theorem dX0_runsInARow_77 : decode cX0_runsInARow 77 = .ok (.if_icmp .ne 6, 3) := by decide +kernel
theorem dX0_runsInARow_80 : decode cX0_runsInARow 80 = .ok (.iload 6, 2) := by decide +kernel
theorem dX0_runsInARow_82 : decode cX0_runsInARow 82 = .ok (.ireturn, 1) := by decide +kernel
theorem dX0_runsInARow_83 : decode cX0_runsInARow 83 = .ok (.iload_n 3, 1) := by decide +kernel
theorem dX0_runsInARow_84 : decode cX0_runsInARow 84 = .ok (.iconst 1, 1) := by decide +kernel
theorem dX0_runsInARow_85 : decode cX0_runsInARow 85 = .ok (.iload 7, 2) := by decide +kernel
theorem dX0_runsInARow_87 : decode cX0_runsInARow 87 = .ok (.ishl, 1) := by decide +kernel
theorem dX0_runsInARow_88 : decode cX0_runsInARow 88 = .ok (.ior, 1) := by decide +kernel
theorem dX0_runsInARow_89 : decode cX0_runsInARow 89 = .ok (.istore_n 3, 1) := by decide +kernel
theorem dX0_runsInARow_90 : decode cX0_runsInARow 90 = .ok (.iload 7, 2) := by decide +kernel
theorem dX0_runsInARow_92 : decode cX0_runsInARow 92 = .ok (.istore 4, 2) := by decide +kernel
theorem dX0_runsInARow_94 : decode cX0_runsInARow 94 = .ok (.iinc 6 1, 3) := by decide +kernel
theorem dX0_runsInARow_97 : decode cX0_runsInARow 97 = .ok (.goto (-85), 3) := by decide +kernel
theorem dX0_runsInARow_100 : decode cX0_runsInARow 100 = .ok (.aload_n 1, 1) := by decide +kernel
theorem dX0_runsInARow_101 : decode cX0_runsInARow 101 = .ok (.getfield 105, 3) := by decide +kernel
theorem dX0_runsInARow_104 : decode cX0_runsInARow 104 = .ok (.ireturn, 1) := by decide +kernel
theorem dX0_mostWith_0 : decode cX0_mostWith 0 = .ok (.aload_n 0, 1) := by decide +kernel
theorem dX0_mostWith_1 : decode cX0_mostWith 1 = .ok (.iconst 1, 1) := by decide +kernel
theorem dX0_mostWith_2 : decode cX0_mostWith 2 = .ok (.iload_n 1, 1) := by decide +kernel
theorem dX0_mostWith_3 : decode cX0_mostWith 3 = .ok (.aload_n 0, 1) := by decide +kernel
theorem dX0_mostWith_4 : decode cX0_mostWith 4 = .ok (.iload_n 1, 1) := by decide +kernel
theorem dX0_mostWith_5 : decode cX0_mostWith 5 = .ok (.bipush 8, 2) := by decide +kernel
theorem dX0_mostWith_7 : decode cX0_mostWith 7 = .ok (.bipush 9, 2) := by decide +kernel
theorem dX0_mostWith_9 : decode cX0_mostWith 9 = .ok (.invokevirtual 113, 3) := by decide +kernel
theorem dX0_mostWith_12 : decode cX0_mostWith 12 = .ok (.invokevirtual 119, 3) := by decide +kernel
theorem dX0_mostWith_15 : decode cX0_mostWith 15 = .ok (.ireturn, 1) := by decide +kernel
theorem dX0_mostFrom_0 : decode cX0_mostFrom 0 = .ok (.aload_n 0, 1) := by decide +kernel
theorem dX0_mostFrom_1 : decode cX0_mostFrom 1 = .ok (.iload_n 1, 1) := by decide +kernel
theorem dX0_mostFrom_2 : decode cX0_mostFrom 2 = .ok (.bipush 8, 2) := by decide +kernel
theorem dX0_mostFrom_4 : decode cX0_mostFrom 4 = .ok (.iload_n 2, 1) := by decide +kernel
theorem dX0_mostFrom_5 : decode cX0_mostFrom 5 = .ok (.aload_n 0, 1) := by decide +kernel
theorem dX0_mostFrom_6 : decode cX0_mostFrom 6 = .ok (.getfield 22, 3) := by decide +kernel
theorem dX0_mostFrom_9 : decode cX0_mostFrom 9 = .ok (.invokevirtual 122, 3) := by decide +kernel
theorem dX0_mostFrom_12 : decode cX0_mostFrom 12 = .ok (.iload_n 3, 1) := by decide +kernel
theorem dX0_mostFrom_13 : decode cX0_mostFrom 13 = .ok (.istore 4, 2) := by decide +kernel
theorem dX0_mostFrom_15 : decode cX0_mostFrom 15 = .ok (.iload_n 1, 1) := by decide +kernel
theorem dX0_mostFrom_16 : decode cX0_mostFrom 16 = .ok (.istore 5, 2) := by decide +kernel
theorem dX0_mostFrom_18 : decode cX0_mostFrom 18 = .ok (.iload 5, 2) := by decide +kernel
theorem dX0_mostFrom_20 : decode cX0_mostFrom 20 = .ok (.iconst 1, 1) := by decide +kernel
theorem dX0_mostFrom_21 : decode cX0_mostFrom 21 = .ok (.aload_n 0, 1) := by decide +kernel
theorem dX0_mostFrom_22 : decode cX0_mostFrom 22 = .ok (.getfield 19, 3) := by decide +kernel
theorem dX0_mostFrom_25 : decode cX0_mostFrom 25 = .ok (.ishl, 1) := by decide +kernel
theorem dX0_mostFrom_26 : decode cX0_mostFrom 26 = .ok (.if_icmp .ge 22, 3) := by decide +kernel
theorem dX0_mostFrom_29 : decode cX0_mostFrom 29 = .ok (.iload 4, 2) := by decide +kernel
theorem dX0_mostFrom_31 : decode cX0_mostFrom 31 = .ok (.aload_n 0, 1) := by decide +kernel
theorem dX0_mostFrom_32 : decode cX0_mostFrom 32 = .ok (.iload 5, 2) := by decide +kernel
theorem dX0_mostFrom_34 : decode cX0_mostFrom 34 = .ok (.invokevirtual 126, 3) := by decide +kernel
theorem dX0_mostFrom_37 : decode cX0_mostFrom 37 = .ok (.invokestatic 93, 3) := by decide +kernel
theorem dX0_mostFrom_40 : decode cX0_mostFrom 40 = .ok (.istore 4, 2) := by decide +kernel
theorem dX0_mostFrom_42 : decode cX0_mostFrom 42 = .ok (.iinc 5 1, 3) := by decide +kernel
theorem dX0_mostFrom_45 : decode cX0_mostFrom 45 = .ok (.goto (-27), 3) := by decide +kernel
theorem dX0_mostFrom_48 : decode cX0_mostFrom 48 = .ok (.iload 4, 2) := by decide +kernel
theorem dX0_mostFrom_50 : decode cX0_mostFrom 50 = .ok (.ireturn, 1) := by decide +kernel
theorem dX0_spread_0 : decode cX0_spread 0 = .ok (.iload_n 1, 1) := by decide +kernel
theorem dX0_spread_1 : decode cX0_spread 1 = .ok (.istore 5, 2) := by decide +kernel
theorem dX0_spread_3 : decode cX0_spread 3 = .ok (.iload 5, 2) := by decide +kernel
theorem dX0_spread_5 : decode cX0_spread 5 = .ok (.iconst 1, 1) := by decide +kernel
theorem dX0_spread_6 : decode cX0_spread 6 = .ok (.aload_n 0, 1) := by decide +kernel
theorem dX0_spread_7 : decode cX0_spread 7 = .ok (.getfield 19, 3) := by decide +kernel
theorem dX0_spread_10 : decode cX0_spread 10 = .ok (.ishl, 1) := by decide +kernel
theorem dX0_spread_11 : decode cX0_spread 11 = .ok (.if_icmp .ge 121, 3) := by decide +kernel
theorem dX0_spread_14 : decode cX0_spread 14 = .ok (.iload 5, 2) := by decide +kernel
theorem dX0_spread_16 : decode cX0_spread 16 = .ok (.aload_n 0, 1) := by decide +kernel
theorem dX0_spread_17 : decode cX0_spread 17 = .ok (.getfield 22, 3) := by decide +kernel
theorem dX0_spread_20 : decode cX0_spread 20 = .ok (.iconst (-1), 1) := by decide +kernel
theorem dX0_spread_21 : decode cX0_spread 21 = .ok (.ixor, 1) := by decide +kernel
theorem dX0_spread_22 : decode cX0_spread 22 = .ok (.iand, 1) := by decide +kernel
theorem dX0_spread_23 : decode cX0_spread 23 = .ok (.ifCond .ne 103, 3) := by decide +kernel
theorem dX0_spread_26 : decode cX0_spread 26 = .ok (.iconst 0, 1) := by decide +kernel
theorem dX0_spread_27 : decode cX0_spread 27 = .ok (.istore 6, 2) := by decide +kernel
theorem dX0_spread_29 : decode cX0_spread 29 = .ok (.iload 6, 2) := by decide +kernel
theorem dX0_spread_31 : decode cX0_spread 31 = .ok (.aload_n 0, 1) := by decide +kernel
theorem dX0_spread_32 : decode cX0_spread 32 = .ok (.getfield 19, 3) := by decide +kernel
theorem dX0_spread_35 : decode cX0_spread 35 = .ok (.if_icmp .ge 91, 3) := by decide +kernel
theorem dX0_spread_38 : decode cX0_spread 38 = .ok (.iload 6, 2) := by decide +kernel
theorem dX0_spread_40 : decode cX0_spread 40 = .ok (.iload 5, 2) := by decide +kernel
theorem dX0_spread_42 : decode cX0_spread 42 = .ok (.invokestatic 98, 3) := by decide +kernel
theorem dX0_spread_45 : decode cX0_spread 45 = .ok (.ifCond .eq 75, 3) := by decide +kernel
theorem dX0_spread_48 : decode cX0_spread 48 = .ok (.iload 5, 2) := by decide +kernel
theorem dX0_spread_50 : decode cX0_spread 50 = .ok (.iconst 1, 1) := by decide +kernel
theorem dX0_spread_51 : decode cX0_spread 51 = .ok (.iload 6, 2) := by decide +kernel
theorem dX0_spread_53 : decode cX0_spread 53 = .ok (.ishl, 1) := by decide +kernel
theorem dX0_spread_54 : decode cX0_spread 54 = .ok (.iconst (-1), 1) := by decide +kernel
theorem dX0_spread_55 : decode cX0_spread 55 = .ok (.ixor, 1) := by decide +kernel
theorem dX0_spread_56 : decode cX0_spread 56 = .ok (.iand, 1) := by decide +kernel
theorem dX0_spread_57 : decode cX0_spread 57 = .ok (.istore 7, 2) := by decide +kernel
theorem dX0_spread_59 : decode cX0_spread 59 = .ok (.iload 7, 2) := by decide +kernel
theorem dX0_spread_61 : decode cX0_spread 61 = .ok (.ifCond .eq 14, 3) := by decide +kernel
theorem dX0_spread_64 : decode cX0_spread 64 = .ok (.aload_n 0, 1) := by decide +kernel
theorem dX0_spread_65 : decode cX0_spread 65 = .ok (.iload 7, 2) := by decide +kernel
theorem dX0_spread_67 : decode cX0_spread 67 = .ok (.iload 6, 2) := by decide +kernel
theorem dX0_spread_69 : decode cX0_spread 69 = .ok (.invokevirtual 129, 3) := by decide +kernel
theorem dX0_spread_72 : decode cX0_spread 72 = .ok (.goto 25, 3) := by decide +kernel
theorem dX0_spread_75 : decode cX0_spread 75 = .ok (.iload 6, 2) := by decide +kernel
theorem dX0_spread_77 : decode cX0_spread 77 = .ok (.iload 4, 2) := by decide +kernel
theorem dX0_spread_79 : decode cX0_spread 79 = .ok (.invokestatic 98, 3) := by decide +kernel
theorem dX0_spread_82 : decode cX0_spread 82 = .ok (.ifCond .eq 14, 3) := by decide +kernel
theorem dX0_spread_85 : decode cX0_spread 85 = .ok (.aload_n 0, 1) := by decide +kernel
theorem dX0_spread_86 : decode cX0_spread 86 = .ok (.iload_n 3, 1) := by decide +kernel
theorem dX0_spread_87 : decode cX0_spread 87 = .ok (.iload_n 2, 1) := by decide +kernel
theorem dX0_spread_88 : decode cX0_spread 88 = .ok (.iload 6, 2) := by decide +kernel
theorem dX0_spread_90 : decode cX0_spread 90 = .ok (.invokevirtual 113, 3) := by decide +kernel
theorem dX0_spread_93 : decode cX0_spread 93 = .ok (.goto 4, 3) := by decide +kernel
theorem dX0_spread_96 : decode cX0_spread 96 = .ok (.iconst (-1), 1) := by decide +kernel
theorem dX0_spread_97 : decode cX0_spread 97 = .ok (.istore 8, 2) := by decide +kernel
theorem dX0_spread_99 : decode cX0_spread 99 = .ok (.aload_n 0, 1) := by decide +kernel
theorem dX0_spread_100 : decode cX0_spread 100 = .ok (.getfield 46, 3) := by decide +kernel
theorem dX0_spread_103 : decode cX0_spread 103 = .ok (.iload 5, 2) := by decide +kernel
theorem dX0_spread_105 : decode cX0_spread 105 = .ok (.bipush 8, 2) := by decide +kernel
theorem dX0_spread_107 : decode cX0_spread 107 = .ok (.imul, 1) := by decide +kernel
theorem dX0_spread_108 : decode cX0_spread 108 = .ok (.iload 6, 2) := by decide +kernel
theorem dX0_spread_110 : decode cX0_spread 110 = .ok (.iadd, 1) := by decide +kernel
theorem dX0_spread_111 : decode cX0_spread 111 = .ok (.aload_n 0, 1) := by decide +kernel
theorem dX0_spread_112 : decode cX0_spread 112 = .ok (.iload 6, 2) := by decide +kernel
theorem dX0_spread_114 : decode cX0_spread 114 = .ok (.iload 8, 2) := by decide +kernel
theorem dX0_spread_116 : decode cX0_spread 116 = .ok (.invokevirtual 116, 3) := by decide +kernel
theorem dX0_spread_119 : decode cX0_spread 119 = .ok (.iastore, 1) := by decide +kernel
theorem dX0_spread_120 : decode cX0_spread 120 = .ok (.iinc 6 1, 3) := by decide +kernel
theorem dX0_spread_123 : decode cX0_spread 123 = .ok (.goto (-94), 3) := by decide +kernel
theorem dX0_spread_126 : decode cX0_spread 126 = .ok (.iinc 5 1, 3) := by decide +kernel
theorem dX0_spread_129 : decode cX0_spread 129 = .ok (.goto (-126), 3) := by decide +kernel
theorem dX0_spread_132 : decode cX0_spread 132 = .ok (.return_, 1) := by decide +kernel
theorem dX0_mostComing_0 : decode cX0_mostComing 0 = .ok (.iconst (-1), 1) := by decide +kernel
theorem dX0_mostComing_1 : decode cX0_mostComing 1 = .ok (.istore_n 3, 1) := by decide +kernel
theorem dX0_mostComing_2 : decode cX0_mostComing 2 = .ok (.iconst 0, 1) := by decide +kernel
theorem dX0_mostComing_3 : decode cX0_mostComing 3 = .ok (.istore 4, 2) := by decide +kernel
theorem dX0_mostComing_5 : decode cX0_mostComing 5 = .ok (.iload 4, 2) := by decide +kernel
theorem dX0_mostComing_7 : decode cX0_mostComing 7 = .ok (.aload_n 0, 1) := by decide +kernel
theorem dX0_mostComing_8 : decode cX0_mostComing 8 = .ok (.getfield 19, 3) := by decide +kernel
theorem dX0_mostComing_11 : decode cX0_mostComing 11 = .ok (.if_icmp .ge 43, 3) := by decide +kernel
theorem dX0_mostComing_14 : decode cX0_mostComing 14 = .ok (.aload_n 0, 1) := by decide +kernel
theorem dX0_mostComing_15 : decode cX0_mostComing 15 = .ok (.getfield 46, 3) := by decide +kernel
theorem dX0_mostComing_18 : decode cX0_mostComing 18 = .ok (.iload_n 1, 1) := by decide +kernel
theorem dX0_mostComing_19 : decode cX0_mostComing 19 = .ok (.bipush 8, 2) := by decide +kernel
theorem dX0_mostComing_21 : decode cX0_mostComing 21 = .ok (.imul, 1) := by decide +kernel
theorem dX0_mostComing_22 : decode cX0_mostComing 22 = .ok (.iload 4, 2) := by decide +kernel
theorem dX0_mostComing_24 : decode cX0_mostComing 24 = .ok (.iadd, 1) := by decide +kernel
theorem dX0_mostComing_25 : decode cX0_mostComing 25 = .ok (.iaload, 1) := by decide +kernel
theorem dX0_mostComing_26 : decode cX0_mostComing 26 = .ok (.istore 5, 2) := by decide +kernel
theorem dX0_mostComing_28 : decode cX0_mostComing 28 = .ok (.iload 5, 2) := by decide +kernel
theorem dX0_mostComing_30 : decode cX0_mostComing 30 = .ok (.iload_n 3, 1) := by decide +kernel
theorem dX0_mostComing_31 : decode cX0_mostComing 31 = .ok (.if_icmp .le 17, 3) := by decide +kernel
theorem dX0_mostComing_34 : decode cX0_mostComing 34 = .ok (.iload_n 3, 1) := by decide +kernel
theorem dX0_mostComing_35 : decode cX0_mostComing 35 = .ok (.aload_n 0, 1) := by decide +kernel
theorem dX0_mostComing_36 : decode cX0_mostComing 36 = .ok (.iload 5, 2) := by decide +kernel
theorem dX0_mostComing_38 : decode cX0_mostComing 38 = .ok (.iload 4, 2) := by decide +kernel
theorem dX0_mostComing_40 : decode cX0_mostComing 40 = .ok (.iload_n 2, 1) := by decide +kernel
theorem dX0_mostComing_41 : decode cX0_mostComing 41 = .ok (.invokevirtual 113, 3) := by decide +kernel
theorem dX0_mostComing_44 : decode cX0_mostComing 44 = .ok (.invokestatic 93, 3) := by decide +kernel
theorem dX0_mostComing_47 : decode cX0_mostComing 47 = .ok (.istore_n 3, 1) := by decide +kernel
theorem dX0_mostComing_48 : decode cX0_mostComing 48 = .ok (.iinc 4 1, 3) := by decide +kernel
theorem dX0_mostComing_51 : decode cX0_mostComing 51 = .ok (.goto (-46), 3) := by decide +kernel
theorem dX0_mostComing_54 : decode cX0_mostComing 54 = .ok (.iload_n 3, 1) := by decide +kernel
theorem dX0_mostComing_55 : decode cX0_mostComing 55 = .ok (.ireturn, 1) := by decide +kernel
theorem dX0_mostHome_0 : decode cX0_mostHome 0 = .ok (.iload_n 1, 1) := by decide +kernel
theorem dX0_mostHome_1 : decode cX0_mostHome 1 = .ok (.aload_n 0, 1) := by decide +kernel
theorem dX0_mostHome_2 : decode cX0_mostHome 2 = .ok (.getfield 22, 3) := by decide +kernel
theorem dX0_mostHome_5 : decode cX0_mostHome 5 = .ok (.iconst (-1), 1) := by decide +kernel
theorem dX0_mostHome_6 : decode cX0_mostHome 6 = .ok (.ixor, 1) := by decide +kernel
theorem dX0_mostHome_7 : decode cX0_mostHome 7 = .ok (.iand, 1) := by decide +kernel
theorem dX0_mostHome_8 : decode cX0_mostHome 8 = .ok (.ifCond .ne 13, 3) := by decide +kernel
theorem dX0_mostHome_11 : decode cX0_mostHome 11 = .ok (.aload_n 0, 1) := by decide +kernel
theorem dX0_mostHome_12 : decode cX0_mostHome 12 = .ok (.iload_n 1, 1) := by decide +kernel
theorem dX0_mostHome_13 : decode cX0_mostHome 13 = .ok (.bipush 9, 2) := by decide +kernel
theorem dX0_mostHome_15 : decode cX0_mostHome 15 = .ok (.invokevirtual 129, 3) := by decide +kernel
theorem dX0_mostHome_18 : decode cX0_mostHome 18 = .ok (.goto 4, 3) := by decide +kernel
theorem dX0_mostHome_21 : decode cX0_mostHome 21 = .ok (.iconst (-1), 1) := by decide +kernel
theorem dX0_mostHome_22 : decode cX0_mostHome 22 = .ok (.ireturn, 1) := by decide +kernel
theorem dX0_planBest_0 : decode cX0_planBest 0 = .ok (.aload_n 0, 1) := by decide +kernel
theorem dX0_planBest_1 : decode cX0_planBest 1 = .ok (.iload_n 1, 1) := by decide +kernel
theorem dX0_planBest_2 : decode cX0_planBest 2 = .ok (.invokevirtual 132, 3) := by decide +kernel
theorem dX0_planBest_5 : decode cX0_planBest 5 = .ok (.istore_n 2, 1) := by decide +kernel
theorem dX0_planBest_6 : decode cX0_planBest 6 = .ok (.aload_n 0, 1) := by decide +kernel
theorem dX0_planBest_7 : decode cX0_planBest 7 = .ok (.aload_n 0, 1) := by decide +kernel
theorem dX0_planBest_8 : decode cX0_planBest 8 = .ok (.iload_n 2, 1) := by decide +kernel
theorem dX0_planBest_9 : decode cX0_planBest 9 = .ok (.iload_n 1, 1) := by decide +kernel
theorem dX0_planBest_10 : decode cX0_planBest 10 = .ok (.invokevirtual 135, 3) := by decide +kernel
theorem dX0_planBest_13 : decode cX0_planBest 13 = .ok (.putfield 15, 3) := by decide +kernel
theorem dX0_planBest_16 : decode cX0_planBest 16 = .ok (.aload_n 0, 1) := by decide +kernel
theorem dX0_planBest_17 : decode cX0_planBest 17 = .ok (.iload_n 2, 1) := by decide +kernel
theorem dX0_planBest_18 : decode cX0_planBest 18 = .ok (.aload_n 0, 1) := by decide +kernel
theorem dX0_planBest_19 : decode cX0_planBest 19 = .ok (.getfield 15, 3) := by decide +kernel
theorem dX0_planBest_22 : decode cX0_planBest 22 = .ok (.invokevirtual 138, 3) := by decide +kernel
theorem dX0_planBest_25 : decode cX0_planBest 25 = .ok (.pop, 1) := by decide +kernel
theorem dX0_planBest_26 : decode cX0_planBest 26 = .ok (.iconst 0, 1) := by decide +kernel
theorem dX0_planBest_27 : decode cX0_planBest 27 = .ok (.istore_n 3, 1) := by decide +kernel
theorem dX0_planBest_28 : decode cX0_planBest 28 = .ok (.bipush 8, 2) := by decide +kernel
theorem dX0_planBest_30 : decode cX0_planBest 30 = .ok (.istore 4, 2) := by decide +kernel
theorem dX0_planBest_32 : decode cX0_planBest 32 = .ok (.iload_n 1, 1) := by decide +kernel
theorem dX0_planBest_33 : decode cX0_planBest 33 = .ok (.istore 5, 2) := by decide +kernel
theorem dX0_planBest_35 : decode cX0_planBest 35 = .ok (.iconst 0, 1) := by decide +kernel
theorem dX0_planBest_36 : decode cX0_planBest 36 = .ok (.istore 6, 2) := by decide +kernel
theorem dX0_planBest_38 : decode cX0_planBest 38 = .ok (.iload 6, 2) := by decide +kernel
theorem dX0_planBest_40 : decode cX0_planBest 40 = .ok (.aload_n 0, 1) := by decide +kernel
theorem dX0_planBest_41 : decode cX0_planBest 41 = .ok (.getfield 15, 3) := by decide +kernel
theorem dX0_planBest_44 : decode cX0_planBest 44 = .ok (.if_icmp .ge 71, 3) := by decide +kernel
theorem dX0_planBest_47 : decode cX0_planBest 47 = .ok (.aload_n 0, 1) := by decide +kernel
theorem dX0_planBest_48 : decode cX0_planBest 48 = .ok (.iload_n 3, 1) := by decide +kernel
theorem dX0_planBest_49 : decode cX0_planBest 49 = .ok (.iload 4, 2) := by decide +kernel
theorem dX0_planBest_51 : decode cX0_planBest 51 = .ok (.iload 5, 2) := by decide +kernel
theorem dX0_planBest_53 : decode cX0_planBest 53 = .ok (.invokevirtual 141, 3) := by decide +kernel
theorem dX0_planBest_56 : decode cX0_planBest 56 = .ok (.istore 7, 2) := by decide +kernel
theorem dX0_planBest_58 : decode cX0_planBest 58 = .ok (.iload 7, 2) := by decide +kernel
theorem dX0_planBest_60 : decode cX0_planBest 60 = .ok (.iconst (-1), 1) := by decide +kernel
theorem dX0_planBest_61 : decode cX0_planBest 61 = .ok (.if_icmp .ne 10, 3) := by decide +kernel
theorem dX0_planBest_64 : decode cX0_planBest 64 = .ok (.aload_n 0, 1) := by decide +kernel
theorem dX0_planBest_65 : decode cX0_planBest 65 = .ok (.iload 6, 2) := by decide +kernel
theorem dX0_planBest_67 : decode cX0_planBest 67 = .ok (.putfield 15, 3) := by decide +kernel
theorem dX0_planBest_70 : decode cX0_planBest 70 = .ok (.return_, 1) := by decide +kernel
theorem dX0_planBest_71 : decode cX0_planBest 71 = .ok (.aload_n 0, 1) := by decide +kernel
theorem dX0_planBest_72 : decode cX0_planBest 72 = .ok (.getfield 9, 3) := by decide +kernel
theorem dX0_planBest_75 : decode cX0_planBest 75 = .ok (.iload 6, 2) := by decide +kernel
theorem dX0_planBest_77 : decode cX0_planBest 77 = .ok (.iload 7, 2) := by decide +kernel
theorem dX0_planBest_79 : decode cX0_planBest 79 = .ok (.iastore, 1) := by decide +kernel
theorem dX0_planBest_80 : decode cX0_planBest 80 = .ok (.aload_n 0, 1) := by decide +kernel
theorem dX0_planBest_81 : decode cX0_planBest 81 = .ok (.iload 7, 2) := by decide +kernel
theorem dX0_planBest_83 : decode cX0_planBest 83 = .ok (.aload_n 0, 1) := by decide +kernel
theorem dX0_planBest_84 : decode cX0_planBest 84 = .ok (.iload 5, 2) := by decide +kernel
theorem dX0_planBest_86 : decode cX0_planBest 86 = .ok (.iload 4, 2) := by decide +kernel
theorem dX0_planBest_88 : decode cX0_planBest 88 = .ok (.iload 7, 2) := by decide +kernel
theorem dX0_planBest_90 : decode cX0_planBest 90 = .ok (.invokevirtual 113, 3) := by decide +kernel
theorem dX0_planBest_93 : decode cX0_planBest 93 = .ok (.invokevirtual 116, 3) := by decide +kernel
theorem dX0_planBest_96 : decode cX0_planBest 96 = .ok (.istore 5, 2) := by decide +kernel
theorem dX0_planBest_98 : decode cX0_planBest 98 = .ok (.iload_n 3, 1) := by decide +kernel
theorem dX0_planBest_99 : decode cX0_planBest 99 = .ok (.iconst 1, 1) := by decide +kernel
theorem dX0_planBest_100 : decode cX0_planBest 100 = .ok (.iload 7, 2) := by decide +kernel
theorem dX0_planBest_102 : decode cX0_planBest 102 = .ok (.ishl, 1) := by decide +kernel
theorem dX0_planBest_103 : decode cX0_planBest 103 = .ok (.ior, 1) := by decide +kernel
theorem dX0_planBest_104 : decode cX0_planBest 104 = .ok (.istore_n 3, 1) := by decide +kernel
theorem dX0_planBest_105 : decode cX0_planBest 105 = .ok (.iload 7, 2) := by decide +kernel
theorem dX0_planBest_107 : decode cX0_planBest 107 = .ok (.istore 4, 2) := by decide +kernel
theorem dX0_planBest_109 : decode cX0_planBest 109 = .ok (.iinc 6 1, 3) := by decide +kernel
theorem dX0_planBest_112 : decode cX0_planBest 112 = .ok (.goto (-74), 3) := by decide +kernel
theorem dX0_planBest_115 : decode cX0_planBest 115 = .ok (.return_, 1) := by decide +kernel
theorem dX0_fewestBringing_0 : decode cX0_fewestBringing 0 = .ok (.aload_n 0, 1) := by decide +kernel
theorem dX0_fewestBringing_1 : decode cX0_fewestBringing 1 = .ok (.iload_n 2, 1) := by decide +kernel
theorem dX0_fewestBringing_2 : decode cX0_fewestBringing 2 = .ok (.bipush 8, 2) := by decide +kernel
theorem dX0_fewestBringing_4 : decode cX0_fewestBringing 4 = .ok (.bipush 9, 2) := by decide +kernel
theorem dX0_fewestBringing_6 : decode cX0_fewestBringing 6 = .ok (.invokevirtual 113, 3) := by decide +kernel
theorem dX0_fewestBringing_9 : decode cX0_fewestBringing 9 = .ok (.iload_n 1, 1) := by decide +kernel
theorem dX0_fewestBringing_10 : decode cX0_fewestBringing 10 = .ok (.if_icmp .ne 5, 3) := by decide +kernel
theorem dX0_fewestBringing_13 : decode cX0_fewestBringing 13 = .ok (.iconst 0, 1) := by decide +kernel
theorem dX0_fewestBringing_14 : decode cX0_fewestBringing 14 = .ok (.ireturn, 1) := by decide +kernel
theorem dX0_fewestBringing_15 : decode cX0_fewestBringing 15 = .ok (.aload_n 0, 1) := by decide +kernel
theorem dX0_fewestBringing_16 : decode cX0_fewestBringing 16 = .ok (.getfield 19, 3) := by decide +kernel
theorem dX0_fewestBringing_19 : decode cX0_fewestBringing 19 = .ok (.istore_n 3, 1) := by decide +kernel
theorem dX0_fewestBringing_20 : decode cX0_fewestBringing 20 = .ok (.iconst 1, 1) := by decide +kernel
theorem dX0_fewestBringing_21 : decode cX0_fewestBringing 21 = .ok (.istore 4, 2) := by decide +kernel
theorem dX0_fewestBringing_23 : decode cX0_fewestBringing 23 = .ok (.iload 4, 2) := by decide +kernel
theorem dX0_fewestBringing_25 : decode cX0_fewestBringing 25 = .ok (.iconst 1, 1) := by decide +kernel
theorem dX0_fewestBringing_26 : decode cX0_fewestBringing 26 = .ok (.aload_n 0, 1) := by decide +kernel
theorem dX0_fewestBringing_27 : decode cX0_fewestBringing 27 = .ok (.getfield 19, 3) := by decide +kernel
theorem dX0_fewestBringing_30 : decode cX0_fewestBringing 30 = .ok (.ishl, 1) := by decide +kernel
theorem dX0_fewestBringing_31 : decode cX0_fewestBringing 31 = .ok (.if_icmp .ge 29, 3) := by decide +kernel
theorem dX0_fewestBringing_34 : decode cX0_fewestBringing 34 = .ok (.aload_n 0, 1) := by decide +kernel
theorem dX0_fewestBringing_35 : decode cX0_fewestBringing 35 = .ok (.iload 4, 2) := by decide +kernel
theorem dX0_fewestBringing_37 : decode cX0_fewestBringing 37 = .ok (.invokevirtual 126, 3) := by decide +kernel
theorem dX0_fewestBringing_40 : decode cX0_fewestBringing 40 = .ok (.iload_n 1, 1) := by decide +kernel
theorem dX0_fewestBringing_41 : decode cX0_fewestBringing 41 = .ok (.if_icmp .ne 13, 3) := by decide +kernel
theorem dX0_fewestBringing_44 : decode cX0_fewestBringing 44 = .ok (.iload_n 3, 1) := by decide +kernel
theorem dX0_fewestBringing_45 : decode cX0_fewestBringing 45 = .ok (.iload 4, 2) := by decide +kernel
theorem dX0_fewestBringing_47 : decode cX0_fewestBringing 47 = .ok (.invokestatic 144, 3) := by decide +kernel
theorem dX0_fewestBringing_50 : decode cX0_fewestBringing 50 = .ok (.invokestatic 102, 3) := by decide +kernel
theorem dX0_fewestBringing_53 : decode cX0_fewestBringing 53 = .ok (.istore_n 3, 1) := by decide +kernel
theorem dX0_fewestBringing_54 : decode cX0_fewestBringing 54 = .ok (.iinc 4 1, 3) := by decide +kernel
theorem dX0_fewestBringing_57 : decode cX0_fewestBringing 57 = .ok (.goto (-34), 3) := by decide +kernel
theorem dX0_fewestBringing_60 : decode cX0_fewestBringing 60 = .ok (.iload_n 3, 1) := by decide +kernel
theorem dX0_fewestBringing_61 : decode cX0_fewestBringing 61 = .ok (.ireturn, 1) := by decide +kernel
theorem dX0_leastNext_0 : decode cX0_leastNext 0 = .ok (.iconst 0, 1) := by decide +kernel
theorem dX0_leastNext_1 : decode cX0_leastNext 1 = .ok (.istore 4, 2) := by decide +kernel
theorem dX0_leastNext_3 : decode cX0_leastNext 3 = .ok (.iload 4, 2) := by decide +kernel
theorem dX0_leastNext_5 : decode cX0_leastNext 5 = .ok (.aload_n 0, 1) := by decide +kernel
theorem dX0_leastNext_6 : decode cX0_leastNext 6 = .ok (.getfield 19, 3) := by decide +kernel
theorem dX0_leastNext_9 : decode cX0_leastNext 9 = .ok (.if_icmp .ge 72, 3) := by decide +kernel
theorem dX0_leastNext_12 : decode cX0_leastNext 12 = .ok (.iload 4, 2) := by decide +kernel
theorem dX0_leastNext_14 : decode cX0_leastNext 14 = .ok (.aload_n 0, 1) := by decide +kernel
theorem dX0_leastNext_15 : decode cX0_leastNext 15 = .ok (.getfield 22, 3) := by decide +kernel
theorem dX0_leastNext_18 : decode cX0_leastNext 18 = .ok (.iload_n 1, 1) := by decide +kernel
theorem dX0_leastNext_19 : decode cX0_leastNext 19 = .ok (.iconst (-1), 1) := by decide +kernel
theorem dX0_leastNext_20 : decode cX0_leastNext 20 = .ok (.ixor, 1) := by decide +kernel
theorem dX0_leastNext_21 : decode cX0_leastNext 21 = .ok (.iand, 1) := by decide +kernel
theorem dX0_leastNext_22 : decode cX0_leastNext 22 = .ok (.invokestatic 98, 3) := by decide +kernel
theorem dX0_leastNext_25 : decode cX0_leastNext 25 = .ok (.ifCond .eq 50, 3) := by decide +kernel
theorem dX0_leastNext_28 : decode cX0_leastNext 28 = .ok (.aload_n 0, 1) := by decide +kernel
theorem dX0_leastNext_29 : decode cX0_leastNext 29 = .ok (.iload 4, 2) := by decide +kernel
theorem dX0_leastNext_31 : decode cX0_leastNext 31 = .ok (.aload_n 0, 1) := by decide +kernel
theorem dX0_leastNext_32 : decode cX0_leastNext 32 = .ok (.iload_n 3, 1) := by decide +kernel
theorem dX0_leastNext_33 : decode cX0_leastNext 33 = .ok (.iload_n 2, 1) := by decide +kernel
theorem dX0_leastNext_34 : decode cX0_leastNext 34 = .ok (.iload 4, 2) := by decide +kernel
theorem dX0_leastNext_36 : decode cX0_leastNext 36 = .ok (.invokevirtual 113, 3) := by decide +kernel
theorem dX0_leastNext_39 : decode cX0_leastNext 39 = .ok (.invokevirtual 116, 3) := by decide +kernel
theorem dX0_leastNext_42 : decode cX0_leastNext 42 = .ok (.istore 5, 2) := by decide +kernel
theorem dX0_leastNext_44 : decode cX0_leastNext 44 = .ok (.iload 5, 2) := by decide +kernel
theorem dX0_leastNext_46 : decode cX0_leastNext 46 = .ok (.iconst (-1), 1) := by decide +kernel
theorem dX0_leastNext_47 : decode cX0_leastNext 47 = .ok (.if_icmp .eq 28, 3) := by decide +kernel
theorem dX0_leastNext_50 : decode cX0_leastNext 50 = .ok (.iload 5, 2) := by decide +kernel
theorem dX0_leastNext_52 : decode cX0_leastNext 52 = .ok (.aload_n 0, 1) := by decide +kernel
theorem dX0_leastNext_53 : decode cX0_leastNext 53 = .ok (.getfield 49, 3) := by decide +kernel
theorem dX0_leastNext_56 : decode cX0_leastNext 56 = .ok (.iload_n 1, 1) := by decide +kernel
theorem dX0_leastNext_57 : decode cX0_leastNext 57 = .ok (.iconst 1, 1) := by decide +kernel
theorem dX0_leastNext_58 : decode cX0_leastNext 58 = .ok (.iload 4, 2) := by decide +kernel
theorem dX0_leastNext_60 : decode cX0_leastNext 60 = .ok (.ishl, 1) := by decide +kernel
theorem dX0_leastNext_61 : decode cX0_leastNext 61 = .ok (.ior, 1) := by decide +kernel
theorem dX0_leastNext_62 : decode cX0_leastNext 62 = .ok (.bipush 8, 2) := by decide +kernel
theorem dX0_leastNext_64 : decode cX0_leastNext 64 = .ok (.imul, 1) := by decide +kernel
theorem dX0_leastNext_65 : decode cX0_leastNext 65 = .ok (.iload 4, 2) := by decide +kernel
theorem dX0_leastNext_67 : decode cX0_leastNext 67 = .ok (.iadd, 1) := by decide +kernel
theorem dX0_leastNext_68 : decode cX0_leastNext 68 = .ok (.iaload, 1) := by decide +kernel
theorem dX0_leastNext_69 : decode cX0_leastNext 69 = .ok (.if_icmp .lt 6, 3) := by decide +kernel
theorem dX0_leastNext_72 : decode cX0_leastNext 72 = .ok (.iload 4, 2) := by decide +kernel
theorem dX0_leastNext_74 : decode cX0_leastNext 74 = .ok (.ireturn, 1) := by decide +kernel
theorem dX0_leastNext_75 : decode cX0_leastNext 75 = .ok (.iinc 4 1, 3) := by decide +kernel
theorem dX0_leastNext_78 : decode cX0_leastNext 78 = .ok (.goto (-75), 3) := by decide +kernel
theorem dX0_leastNext_81 : decode cX0_leastNext 81 = .ok (.iconst (-1), 1) := by decide +kernel
theorem dX0_leastNext_82 : decode cX0_leastNext 82 = .ok (.ireturn, 1) := by decide +kernel
theorem dX0_leastStart_0 : decode cX0_leastStart 0 = .ok (.iconst 1, 1) := by decide +kernel
theorem dX0_leastStart_1 : decode cX0_leastStart 1 = .ok (.aload_n 0, 1) := by decide +kernel
theorem dX0_leastStart_2 : decode cX0_leastStart 2 = .ok (.getfield 19, 3) := by decide +kernel
theorem dX0_leastStart_5 : decode cX0_leastStart 5 = .ok (.ishl, 1) := by decide +kernel
theorem dX0_leastStart_6 : decode cX0_leastStart 6 = .ok (.iconst 1, 1) := by decide +kernel
theorem dX0_leastStart_7 : decode cX0_leastStart 7 = .ok (.isub, 1) := by decide +kernel
theorem dX0_leastStart_8 : decode cX0_leastStart 8 = .ok (.istore_n 3, 1) := by decide +kernel
theorem dX0_leastStart_9 : decode cX0_leastStart 9 = .ok (.iload_n 3, 1) := by decide +kernel
theorem dX0_leastStart_10 : decode cX0_leastStart 10 = .ok (.ifCond .le 68, 3) := by decide +kernel
theorem dX0_leastStart_13 : decode cX0_leastStart 13 = .ok (.iload_n 3, 1) := by decide +kernel
theorem dX0_leastStart_14 : decode cX0_leastStart 14 = .ok (.aload_n 0, 1) := by decide +kernel
theorem dX0_leastStart_15 : decode cX0_leastStart 15 = .ok (.getfield 22, 3) := by decide +kernel
theorem dX0_leastStart_18 : decode cX0_leastStart 18 = .ok (.iconst (-1), 1) := by decide +kernel
theorem dX0_leastStart_19 : decode cX0_leastStart 19 = .ok (.ixor, 1) := by decide +kernel
theorem dX0_leastStart_20 : decode cX0_leastStart 20 = .ok (.iand, 1) := by decide +kernel
theorem dX0_leastStart_21 : decode cX0_leastStart 21 = .ok (.ifCond .ne 51, 3) := by decide +kernel
theorem dX0_leastStart_24 : decode cX0_leastStart 24 = .ok (.iconst 0, 1) := by decide +kernel
theorem dX0_leastStart_25 : decode cX0_leastStart 25 = .ok (.istore 4, 2) := by decide +kernel
theorem dX0_leastStart_27 : decode cX0_leastStart 27 = .ok (.iload 4, 2) := by decide +kernel
theorem dX0_leastStart_29 : decode cX0_leastStart 29 = .ok (.aload_n 0, 1) := by decide +kernel
theorem dX0_leastStart_30 : decode cX0_leastStart 30 = .ok (.getfield 19, 3) := by decide +kernel
theorem dX0_leastStart_33 : decode cX0_leastStart 33 = .ok (.if_icmp .ge 39, 3) := by decide +kernel
theorem dX0_leastStart_36 : decode cX0_leastStart 36 = .ok (.iload 4, 2) := by decide +kernel
theorem dX0_leastStart_38 : decode cX0_leastStart 38 = .ok (.iload_n 3, 1) := by decide +kernel
theorem dX0_leastStart_39 : decode cX0_leastStart 39 = .ok (.invokestatic 98, 3) := by decide +kernel
theorem dX0_leastStart_42 : decode cX0_leastStart 42 = .ok (.ifCond .eq 24, 3) := by decide +kernel
theorem dX0_leastStart_45 : decode cX0_leastStart 45 = .ok (.aload_n 0, 1) := by decide +kernel
theorem dX0_leastStart_46 : decode cX0_leastStart 46 = .ok (.getfield 49, 3) := by decide +kernel
theorem dX0_leastStart_49 : decode cX0_leastStart 49 = .ok (.iload_n 3, 1) := by decide +kernel
theorem dX0_leastStart_50 : decode cX0_leastStart 50 = .ok (.bipush 8, 2) := by decide +kernel
theorem dX0_leastStart_52 : decode cX0_leastStart 52 = .ok (.imul, 1) := by decide +kernel
theorem dX0_leastStart_53 : decode cX0_leastStart 53 = .ok (.iload 4, 2) := by decide +kernel
theorem dX0_leastStart_55 : decode cX0_leastStart 55 = .ok (.iadd, 1) := by decide +kernel
theorem dX0_leastStart_56 : decode cX0_leastStart 56 = .ok (.aload_n 0, 1) := by decide +kernel
theorem dX0_leastStart_57 : decode cX0_leastStart 57 = .ok (.iload 4, 2) := by decide +kernel
theorem dX0_leastStart_59 : decode cX0_leastStart 59 = .ok (.iload_n 3, 1) := by decide +kernel
theorem dX0_leastStart_60 : decode cX0_leastStart 60 = .ok (.iload_n 1, 1) := by decide +kernel
theorem dX0_leastStart_61 : decode cX0_leastStart 61 = .ok (.iload_n 2, 1) := by decide +kernel
theorem dX0_leastStart_62 : decode cX0_leastStart 62 = .ok (.invokevirtual 149, 3) := by decide +kernel
theorem dX0_leastStart_65 : decode cX0_leastStart 65 = .ok (.iastore, 1) := by decide +kernel
theorem dX0_leastStart_66 : decode cX0_leastStart 66 = .ok (.iinc 4 1, 3) := by decide +kernel
theorem dX0_leastStart_69 : decode cX0_leastStart 69 = .ok (.goto (-42), 3) := by decide +kernel
theorem dX0_leastStart_72 : decode cX0_leastStart 72 = .ok (.iinc 3 (-1), 3) := by decide +kernel
theorem dX0_leastStart_75 : decode cX0_leastStart 75 = .ok (.goto (-66), 3) := by decide +kernel
theorem dX0_leastStart_78 : decode cX0_leastStart 78 = .ok (.aload_n 0, 1) := by decide +kernel
theorem dX0_leastStart_79 : decode cX0_leastStart 79 = .ok (.bipush 8, 2) := by decide +kernel
theorem dX0_leastStart_81 : decode cX0_leastStart 81 = .ok (.iconst 0, 1) := by decide +kernel
theorem dX0_leastStart_82 : decode cX0_leastStart 82 = .ok (.iload_n 1, 1) := by decide +kernel
theorem dX0_leastStart_83 : decode cX0_leastStart 83 = .ok (.iload_n 2, 1) := by decide +kernel
theorem dX0_leastStart_84 : decode cX0_leastStart 84 = .ok (.invokevirtual 149, 3) := by decide +kernel
theorem dX0_leastStart_87 : decode cX0_leastStart 87 = .ok (.ireturn, 1) := by decide +kernel
theorem dX0_wantedAt_0 : decode cX0_wantedAt 0 = .ok (.iload 4, 2) := by decide +kernel
theorem dX0_wantedAt_2 : decode cX0_wantedAt 2 = .ok (.iload_n 2, 1) := by decide +kernel
theorem dX0_wantedAt_3 : decode cX0_wantedAt 3 = .ok (.invokestatic 144, 3) := by decide +kernel
theorem dX0_wantedAt_6 : decode cX0_wantedAt 6 = .ok (.isub, 1) := by decide +kernel
theorem dX0_wantedAt_7 : decode cX0_wantedAt 7 = .ok (.istore 5, 2) := by decide +kernel
theorem dX0_wantedAt_9 : decode cX0_wantedAt 9 = .ok (.ldc 153, 2) := by decide +kernel
theorem dX0_wantedAt_11 : decode cX0_wantedAt 11 = .ok (.istore 6, 2) := by decide +kernel
theorem dX0_wantedAt_13 : decode cX0_wantedAt 13 = .ok (.iload 4, 2) := by decide +kernel
theorem dX0_wantedAt_15 : decode cX0_wantedAt 15 = .ok (.iconst (-1), 1) := by decide +kernel
theorem dX0_wantedAt_16 : decode cX0_wantedAt 16 = .ok (.if_icmp .eq 8, 3) := by decide +kernel
theorem dX0_wantedAt_19 : decode cX0_wantedAt 19 = .ok (.iload 5, 2) := by decide +kernel
theorem dX0_wantedAt_21 : decode cX0_wantedAt 21 = .ok (.ifCond .ne 13, 3) := by decide +kernel
theorem dX0_wantedAt_24 : decode cX0_wantedAt 24 = .ok (.aload_n 0, 1) := by decide +kernel
theorem dX0_wantedAt_25 : decode cX0_wantedAt 25 = .ok (.iload_n 3, 1) := by decide +kernel
theorem dX0_wantedAt_26 : decode cX0_wantedAt 26 = .ok (.iload_n 1, 1) := by decide +kernel
theorem dX0_wantedAt_27 : decode cX0_wantedAt 27 = .ok (.bipush 9, 2) := by decide +kernel
theorem dX0_wantedAt_29 : decode cX0_wantedAt 29 = .ok (.invokevirtual 154, 3) := by decide +kernel
theorem dX0_wantedAt_32 : decode cX0_wantedAt 32 = .ok (.istore 6, 2) := by decide +kernel
theorem dX0_wantedAt_34 : decode cX0_wantedAt 34 = .ok (.iload 4, 2) := by decide +kernel
theorem dX0_wantedAt_36 : decode cX0_wantedAt 36 = .ok (.iconst (-1), 1) := by decide +kernel
theorem dX0_wantedAt_37 : decode cX0_wantedAt 37 = .ok (.if_icmp .eq 8, 3) := by decide +kernel
theorem dX0_wantedAt_40 : decode cX0_wantedAt 40 = .ok (.iload 5, 2) := by decide +kernel
theorem dX0_wantedAt_42 : decode cX0_wantedAt 42 = .ok (.ifCond .le 78, 3) := by decide +kernel
theorem dX0_wantedAt_45 : decode cX0_wantedAt 45 = .ok (.iconst 0, 1) := by decide +kernel
theorem dX0_wantedAt_46 : decode cX0_wantedAt 46 = .ok (.istore 7, 2) := by decide +kernel
theorem dX0_wantedAt_48 : decode cX0_wantedAt 48 = .ok (.iload 7, 2) := by decide +kernel
theorem dX0_wantedAt_50 : decode cX0_wantedAt 50 = .ok (.aload_n 0, 1) := by decide +kernel
theorem dX0_wantedAt_51 : decode cX0_wantedAt 51 = .ok (.getfield 19, 3) := by decide +kernel
theorem dX0_wantedAt_54 : decode cX0_wantedAt 54 = .ok (.if_icmp .ge 66, 3) := by decide +kernel
theorem dX0_wantedAt_57 : decode cX0_wantedAt 57 = .ok (.iload 7, 2) := by decide +kernel
theorem dX0_wantedAt_59 : decode cX0_wantedAt 59 = .ok (.aload_n 0, 1) := by decide +kernel
theorem dX0_wantedAt_60 : decode cX0_wantedAt 60 = .ok (.getfield 22, 3) := by decide +kernel
theorem dX0_wantedAt_63 : decode cX0_wantedAt 63 = .ok (.iload_n 2, 1) := by decide +kernel
theorem dX0_wantedAt_64 : decode cX0_wantedAt 64 = .ok (.iconst (-1), 1) := by decide +kernel
theorem dX0_wantedAt_65 : decode cX0_wantedAt 65 = .ok (.ixor, 1) := by decide +kernel
theorem dX0_wantedAt_66 : decode cX0_wantedAt 66 = .ok (.iand, 1) := by decide +kernel
theorem dX0_wantedAt_67 : decode cX0_wantedAt 67 = .ok (.invokestatic 98, 3) := by decide +kernel
theorem dX0_wantedAt_70 : decode cX0_wantedAt 70 = .ok (.ifCond .eq 44, 3) := by decide +kernel
theorem dX0_wantedAt_73 : decode cX0_wantedAt 73 = .ok (.aload_n 0, 1) := by decide +kernel
theorem dX0_wantedAt_74 : decode cX0_wantedAt 74 = .ok (.getfield 49, 3) := by decide +kernel
theorem dX0_wantedAt_77 : decode cX0_wantedAt 77 = .ok (.iload_n 2, 1) := by decide +kernel
theorem dX0_wantedAt_78 : decode cX0_wantedAt 78 = .ok (.iconst 1, 1) := by decide +kernel
theorem dX0_wantedAt_79 : decode cX0_wantedAt 79 = .ok (.iload 7, 2) := by decide +kernel
theorem dX0_wantedAt_81 : decode cX0_wantedAt 81 = .ok (.ishl, 1) := by decide +kernel
theorem dX0_wantedAt_82 : decode cX0_wantedAt 82 = .ok (.ior, 1) := by decide +kernel
theorem dX0_wantedAt_83 : decode cX0_wantedAt 83 = .ok (.bipush 8, 2) := by decide +kernel
theorem dX0_wantedAt_85 : decode cX0_wantedAt 85 = .ok (.imul, 1) := by decide +kernel
theorem dX0_wantedAt_86 : decode cX0_wantedAt 86 = .ok (.iload 7, 2) := by decide +kernel
theorem dX0_wantedAt_88 : decode cX0_wantedAt 88 = .ok (.iadd, 1) := by decide +kernel
theorem dX0_wantedAt_89 : decode cX0_wantedAt 89 = .ok (.iaload, 1) := by decide +kernel
theorem dX0_wantedAt_90 : decode cX0_wantedAt 90 = .ok (.istore 8, 2) := by decide +kernel
theorem dX0_wantedAt_92 : decode cX0_wantedAt 92 = .ok (.iload 6, 2) := by decide +kernel
theorem dX0_wantedAt_94 : decode cX0_wantedAt 94 = .ok (.aload_n 0, 1) := by decide +kernel
theorem dX0_wantedAt_95 : decode cX0_wantedAt 95 = .ok (.aload_n 0, 1) := by decide +kernel
theorem dX0_wantedAt_96 : decode cX0_wantedAt 96 = .ok (.iload 7, 2) := by decide +kernel
theorem dX0_wantedAt_98 : decode cX0_wantedAt 98 = .ok (.iload 8, 2) := by decide +kernel
theorem dX0_wantedAt_100 : decode cX0_wantedAt 100 = .ok (.invokevirtual 157, 3) := by decide +kernel
theorem dX0_wantedAt_103 : decode cX0_wantedAt 103 = .ok (.iload_n 1, 1) := by decide +kernel
theorem dX0_wantedAt_104 : decode cX0_wantedAt 104 = .ok (.iload 7, 2) := by decide +kernel
theorem dX0_wantedAt_106 : decode cX0_wantedAt 106 = .ok (.invokevirtual 154, 3) := by decide +kernel
theorem dX0_wantedAt_109 : decode cX0_wantedAt 109 = .ok (.invokestatic 102, 3) := by decide +kernel
theorem dX0_wantedAt_112 : decode cX0_wantedAt 112 = .ok (.istore 6, 2) := by decide +kernel
theorem dX0_wantedAt_114 : decode cX0_wantedAt 114 = .ok (.iinc 7 1, 3) := by decide +kernel
theorem dX0_wantedAt_117 : decode cX0_wantedAt 117 = .ok (.goto (-69), 3) := by decide +kernel
theorem dX0_wantedAt_120 : decode cX0_wantedAt 120 = .ok (.iload 6, 2) := by decide +kernel
theorem dX0_wantedAt_122 : decode cX0_wantedAt 122 = .ok (.ireturn, 1) := by decide +kernel
theorem dX0_wantedToRun_0 : decode cX0_wantedToRun 0 = .ok (.iload_n 2, 1) := by decide +kernel
theorem dX0_wantedToRun_1 : decode cX0_wantedToRun 1 = .ok (.aload_n 0, 1) := by decide +kernel
theorem dX0_wantedToRun_2 : decode cX0_wantedToRun 2 = .ok (.getfield 25, 3) := by decide +kernel
theorem dX0_wantedToRun_5 : decode cX0_wantedToRun 5 = .ok (.if_icmp .le 8, 3) := by decide +kernel
theorem dX0_wantedToRun_8 : decode cX0_wantedToRun 8 = .ok (.ldc 153, 2) := by decide +kernel
theorem dX0_wantedToRun_10 : decode cX0_wantedToRun 10 = .ok (.goto 27, 3) := by decide +kernel
theorem dX0_wantedToRun_13 : decode cX0_wantedToRun 13 = .ok (.aload_n 0, 1) := by decide +kernel
theorem dX0_wantedToRun_14 : decode cX0_wantedToRun 14 = .ok (.getfield 37, 3) := by decide +kernel
theorem dX0_wantedToRun_17 : decode cX0_wantedToRun 17 = .ok (.iload_n 1, 1) := by decide +kernel
theorem dX0_wantedToRun_18 : decode cX0_wantedToRun 18 = .ok (.iaload, 1) := by decide +kernel
theorem dX0_wantedToRun_19 : decode cX0_wantedToRun 19 = .ok (.iload_n 2, 1) := by decide +kernel
theorem dX0_wantedToRun_20 : decode cX0_wantedToRun 20 = .ok (.aload_n 0, 1) := by decide +kernel
theorem dX0_wantedToRun_21 : decode cX0_wantedToRun 21 = .ok (.getfield 37, 3) := by decide +kernel
theorem dX0_wantedToRun_24 : decode cX0_wantedToRun 24 = .ok (.iload_n 1, 1) := by decide +kernel
theorem dX0_wantedToRun_25 : decode cX0_wantedToRun 25 = .ok (.iaload, 1) := by decide +kernel
theorem dX0_wantedToRun_26 : decode cX0_wantedToRun 26 = .ok (.iadd, 1) := by decide +kernel
theorem dX0_wantedToRun_27 : decode cX0_wantedToRun 27 = .ok (.aload_n 0, 1) := by decide +kernel
theorem dX0_wantedToRun_28 : decode cX0_wantedToRun 28 = .ok (.getfield 40, 3) := by decide +kernel
theorem dX0_wantedToRun_31 : decode cX0_wantedToRun 31 = .ok (.iload_n 1, 1) := by decide +kernel
theorem dX0_wantedToRun_32 : decode cX0_wantedToRun 32 = .ok (.iaload, 1) := by decide +kernel
theorem dX0_wantedToRun_33 : decode cX0_wantedToRun 33 = .ok (.isub, 1) := by decide +kernel
theorem dX0_wantedToRun_34 : decode cX0_wantedToRun 34 = .ok (.invokestatic 93, 3) := by decide +kernel
theorem dX0_wantedToRun_37 : decode cX0_wantedToRun 37 = .ok (.ireturn, 1) := by decide +kernel
theorem dX0_wantedBefore_0 : decode cX0_wantedBefore 0 = .ok (.iload_n 1, 1) := by decide +kernel
theorem dX0_wantedBefore_1 : decode cX0_wantedBefore 1 = .ok (.ifCond .ne 7, 3) := by decide +kernel
theorem dX0_wantedBefore_4 : decode cX0_wantedBefore 4 = .ok (.iconst 0, 1) := by decide +kernel
theorem dX0_wantedBefore_5 : decode cX0_wantedBefore 5 = .ok (.goto 16, 3) := by decide +kernel
theorem dX0_wantedBefore_8 : decode cX0_wantedBefore 8 = .ok (.iload_n 1, 1) := by decide +kernel
theorem dX0_wantedBefore_9 : decode cX0_wantedBefore 9 = .ok (.aload_n 0, 1) := by decide +kernel
theorem dX0_wantedBefore_10 : decode cX0_wantedBefore 10 = .ok (.getfield 34, 3) := by decide +kernel
theorem dX0_wantedBefore_13 : decode cX0_wantedBefore 13 = .ok (.iload_n 2, 1) := by decide +kernel
theorem dX0_wantedBefore_14 : decode cX0_wantedBefore 14 = .ok (.bipush 10, 2) := by decide +kernel
theorem dX0_wantedBefore_16 : decode cX0_wantedBefore 16 = .ok (.imul, 1) := by decide +kernel
theorem dX0_wantedBefore_17 : decode cX0_wantedBefore 17 = .ok (.iload_n 3, 1) := by decide +kernel
theorem dX0_wantedBefore_18 : decode cX0_wantedBefore 18 = .ok (.iadd, 1) := by decide +kernel
theorem dX0_wantedBefore_19 : decode cX0_wantedBefore 19 = .ok (.iaload, 1) := by decide +kernel
theorem dX0_wantedBefore_20 : decode cX0_wantedBefore 20 = .ok (.iadd, 1) := by decide +kernel
theorem dX0_wantedBefore_21 : decode cX0_wantedBefore 21 = .ok (.ireturn, 1) := by decide +kernel
theorem dX0_leastGaining_0 : decode cX0_leastGaining 0 = .ok (.aload_n 0, 1) := by decide +kernel
theorem dX0_leastGaining_1 : decode cX0_leastGaining 1 = .ok (.getfield 25, 3) := by decide +kernel
theorem dX0_leastGaining_4 : decode cX0_leastGaining 4 = .ok (.aload_n 0, 1) := by decide +kernel
theorem dX0_leastGaining_5 : decode cX0_leastGaining 5 = .ok (.invokevirtual 160, 3) := by decide +kernel
theorem dX0_leastGaining_8 : decode cX0_leastGaining 8 = .ok (.invokestatic 102, 3) := by decide +kernel
theorem dX0_leastGaining_11 : decode cX0_leastGaining 11 = .ok (.istore_n 1, 1) := by decide +kernel
theorem dX0_leastGaining_12 : decode cX0_leastGaining 12 = .ok (.iconst 0, 1) := by decide +kernel
theorem dX0_leastGaining_13 : decode cX0_leastGaining 13 = .ok (.istore_n 2, 1) := by decide +kernel
theorem dX0_leastGaining_14 : decode cX0_leastGaining 14 = .ok (.iconst 0, 1) := by decide +kernel
theorem dX0_leastGaining_15 : decode cX0_leastGaining 15 = .ok (.istore_n 3, 1) := by decide +kernel
theorem dX0_leastGaining_16 : decode cX0_leastGaining 16 = .ok (.iload_n 3, 1) := by decide +kernel
theorem dX0_leastGaining_17 : decode cX0_leastGaining 17 = .ok (.sipush 999, 3) := by decide +kernel
theorem dX0_leastGaining_20 : decode cX0_leastGaining 20 = .ok (.if_icmp .gt 35, 3) := by decide +kernel
theorem dX0_leastGaining_23 : decode cX0_leastGaining 23 = .ok (.iload_n 2, 1) := by decide +kernel
theorem dX0_leastGaining_24 : decode cX0_leastGaining 24 = .ok (.iload_n 1, 1) := by decide +kernel
theorem dX0_leastGaining_25 : decode cX0_leastGaining 25 = .ok (.if_icmp .gt 30, 3) := by decide +kernel
theorem dX0_leastGaining_28 : decode cX0_leastGaining 28 = .ok (.aload_n 0, 1) := by decide +kernel
theorem dX0_leastGaining_29 : decode cX0_leastGaining 29 = .ok (.iload_n 2, 1) := by decide +kernel
theorem dX0_leastGaining_30 : decode cX0_leastGaining 30 = .ok (.iconst 1, 1) := by decide +kernel
theorem dX0_leastGaining_31 : decode cX0_leastGaining 31 = .ok (.iadd, 1) := by decide +kernel
theorem dX0_leastGaining_32 : decode cX0_leastGaining 32 = .ok (.iconst (-1), 1) := by decide +kernel
theorem dX0_leastGaining_33 : decode cX0_leastGaining 33 = .ok (.invokevirtual 138, 3) := by decide +kernel
theorem dX0_leastGaining_36 : decode cX0_leastGaining 36 = .ok (.istore 4, 2) := by decide +kernel
theorem dX0_leastGaining_38 : decode cX0_leastGaining 38 = .ok (.iload 4, 2) := by decide +kernel
theorem dX0_leastGaining_40 : decode cX0_leastGaining 40 = .ok (.iload_n 2, 1) := by decide +kernel
theorem dX0_leastGaining_41 : decode cX0_leastGaining 41 = .ok (.if_icmp .gt 5, 3) := by decide +kernel
theorem dX0_leastGaining_44 : decode cX0_leastGaining 44 = .ok (.iload_n 2, 1) := by decide +kernel
theorem dX0_leastGaining_45 : decode cX0_leastGaining 45 = .ok (.ireturn, 1) := by decide +kernel
theorem dX0_leastGaining_46 : decode cX0_leastGaining 46 = .ok (.iload 4, 2) := by decide +kernel
theorem dX0_leastGaining_48 : decode cX0_leastGaining 48 = .ok (.istore_n 2, 1) := by decide +kernel
theorem dX0_leastGaining_49 : decode cX0_leastGaining 49 = .ok (.iinc 3 1, 3) := by decide +kernel
theorem dX0_leastGaining_52 : decode cX0_leastGaining 52 = .ok (.goto (-36), 3) := by decide +kernel
theorem dX0_leastGaining_55 : decode cX0_leastGaining 55 = .ok (.ldc 153, 2) := by decide +kernel
theorem dX0_leastGaining_57 : decode cX0_leastGaining 57 = .ok (.ireturn, 1) := by decide +kernel
theorem dX0_enoughForAll_0 : decode cX0_enoughForAll 0 = .ok (.iconst 0, 1) := by decide +kernel
theorem dX0_enoughForAll_1 : decode cX0_enoughForAll 1 = .ok (.istore_n 1, 1) := by decide +kernel
theorem dX0_enoughForAll_2 : decode cX0_enoughForAll 2 = .ok (.iconst 0, 1) := by decide +kernel
theorem dX0_enoughForAll_3 : decode cX0_enoughForAll 3 = .ok (.istore_n 2, 1) := by decide +kernel
theorem dX0_enoughForAll_4 : decode cX0_enoughForAll 4 = .ok (.iconst 0, 1) := by decide +kernel
theorem dX0_enoughForAll_5 : decode cX0_enoughForAll 5 = .ok (.istore_n 3, 1) := by decide +kernel
theorem dX0_enoughForAll_6 : decode cX0_enoughForAll 6 = .ok (.iconst 0, 1) := by decide +kernel
theorem dX0_enoughForAll_7 : decode cX0_enoughForAll 7 = .ok (.istore 4, 2) := by decide +kernel
theorem dX0_enoughForAll_9 : decode cX0_enoughForAll 9 = .ok (.iload 4, 2) := by decide +kernel
theorem dX0_enoughForAll_11 : decode cX0_enoughForAll 11 = .ok (.aload_n 0, 1) := by decide +kernel
theorem dX0_enoughForAll_12 : decode cX0_enoughForAll 12 = .ok (.getfield 19, 3) := by decide +kernel
theorem dX0_enoughForAll_15 : decode cX0_enoughForAll 15 = .ok (.if_icmp .ge 93, 3) := by decide +kernel
theorem dX0_enoughForAll_18 : decode cX0_enoughForAll 18 = .ok (.iconst 0, 1) := by decide +kernel
theorem dX0_enoughForAll_19 : decode cX0_enoughForAll 19 = .ok (.istore 5, 2) := by decide +kernel
theorem dX0_enoughForAll_21 : decode cX0_enoughForAll 21 = .ok (.iload 5, 2) := by decide +kernel
theorem dX0_enoughForAll_23 : decode cX0_enoughForAll 23 = .ok (.bipush 8, 2) := by decide +kernel
theorem dX0_enoughForAll_25 : decode cX0_enoughForAll 25 = .ok (.if_icmp .gt 43, 3) := by decide +kernel
theorem dX0_enoughForAll_28 : decode cX0_enoughForAll 28 = .ok (.iload 5, 2) := by decide +kernel
theorem dX0_enoughForAll_30 : decode cX0_enoughForAll 30 = .ok (.aload_n 0, 1) := by decide +kernel
theorem dX0_enoughForAll_31 : decode cX0_enoughForAll 31 = .ok (.getfield 19, 3) := by decide +kernel
theorem dX0_enoughForAll_34 : decode cX0_enoughForAll 34 = .ok (.if_icmp .lt 10, 3) := by decide +kernel
theorem dX0_enoughForAll_37 : decode cX0_enoughForAll 37 = .ok (.iload 5, 2) := by decide +kernel
theorem dX0_enoughForAll_39 : decode cX0_enoughForAll 39 = .ok (.bipush 8, 2) := by decide +kernel
theorem dX0_enoughForAll_41 : decode cX0_enoughForAll 41 = .ok (.if_icmp .ne 21, 3) := by decide +kernel
theorem dX0_enoughForAll_44 : decode cX0_enoughForAll 44 = .ok (.iload_n 1, 1) := by decide +kernel
theorem dX0_enoughForAll_45 : decode cX0_enoughForAll 45 = .ok (.aload_n 0, 1) := by decide +kernel
theorem dX0_enoughForAll_46 : decode cX0_enoughForAll 46 = .ok (.getfield 34, 3) := by decide +kernel
theorem dX0_enoughForAll_49 : decode cX0_enoughForAll 49 = .ok (.iload 5, 2) := by decide +kernel
theorem dX0_enoughForAll_51 : decode cX0_enoughForAll 51 = .ok (.bipush 10, 2) := by decide +kernel
theorem dX0_enoughForAll_53 : decode cX0_enoughForAll 53 = .ok (.imul, 1) := by decide +kernel
theorem dX0_enoughForAll_54 : decode cX0_enoughForAll 54 = .ok (.iload 4, 2) := by decide +kernel
theorem dX0_enoughForAll_56 : decode cX0_enoughForAll 56 = .ok (.iadd, 1) := by decide +kernel
theorem dX0_enoughForAll_57 : decode cX0_enoughForAll 57 = .ok (.iaload, 1) := by decide +kernel
theorem dX0_enoughForAll_58 : decode cX0_enoughForAll 58 = .ok (.invokestatic 93, 3) := by decide +kernel
theorem dX0_enoughForAll_61 : decode cX0_enoughForAll 61 = .ok (.istore_n 1, 1) := by decide +kernel
theorem dX0_enoughForAll_62 : decode cX0_enoughForAll 62 = .ok (.iinc 5 1, 3) := by decide +kernel
theorem dX0_enoughForAll_65 : decode cX0_enoughForAll 65 = .ok (.goto (-44), 3) := by decide +kernel
theorem dX0_enoughForAll_68 : decode cX0_enoughForAll 68 = .ok (.iload_n 2, 1) := by decide +kernel
theorem dX0_enoughForAll_69 : decode cX0_enoughForAll 69 = .ok (.aload_n 0, 1) := by decide +kernel
theorem dX0_enoughForAll_70 : decode cX0_enoughForAll 70 = .ok (.getfield 37, 3) := by decide +kernel
theorem dX0_enoughForAll_73 : decode cX0_enoughForAll 73 = .ok (.iload 4, 2) := by decide +kernel
theorem dX0_enoughForAll_75 : decode cX0_enoughForAll 75 = .ok (.iaload, 1) := by decide +kernel
theorem dX0_enoughForAll_76 : decode cX0_enoughForAll 76 = .ok (.invokestatic 93, 3) := by decide +kernel
theorem dX0_enoughForAll_79 : decode cX0_enoughForAll 79 = .ok (.istore_n 2, 1) := by decide +kernel
theorem dX0_enoughForAll_80 : decode cX0_enoughForAll 80 = .ok (.iload_n 3, 1) := by decide +kernel
theorem dX0_enoughForAll_81 : decode cX0_enoughForAll 81 = .ok (.iconst 0, 1) := by decide +kernel
theorem dX0_enoughForAll_82 : decode cX0_enoughForAll 82 = .ok (.aload_n 0, 1) := by decide +kernel
theorem dX0_enoughForAll_83 : decode cX0_enoughForAll 83 = .ok (.getfield 37, 3) := by decide +kernel
theorem dX0_enoughForAll_86 : decode cX0_enoughForAll 86 = .ok (.iload 4, 2) := by decide +kernel
theorem dX0_enoughForAll_88 : decode cX0_enoughForAll 88 = .ok (.iaload, 1) := by decide +kernel
theorem dX0_enoughForAll_89 : decode cX0_enoughForAll 89 = .ok (.aload_n 0, 1) := by decide +kernel
theorem dX0_enoughForAll_90 : decode cX0_enoughForAll 90 = .ok (.getfield 40, 3) := by decide +kernel
theorem dX0_enoughForAll_93 : decode cX0_enoughForAll 93 = .ok (.iload 4, 2) := by decide +kernel
theorem dX0_enoughForAll_95 : decode cX0_enoughForAll 95 = .ok (.iaload, 1) := by decide +kernel
theorem dX0_enoughForAll_96 : decode cX0_enoughForAll 96 = .ok (.isub, 1) := by decide +kernel
theorem dX0_enoughForAll_97 : decode cX0_enoughForAll 97 = .ok (.invokestatic 93, 3) := by decide +kernel
theorem dX0_enoughForAll_100 : decode cX0_enoughForAll 100 = .ok (.iadd, 1) := by decide +kernel
theorem dX0_enoughForAll_101 : decode cX0_enoughForAll 101 = .ok (.istore_n 3, 1) := by decide +kernel
theorem dX0_enoughForAll_102 : decode cX0_enoughForAll 102 = .ok (.iinc 4 1, 3) := by decide +kernel
theorem dX0_enoughForAll_105 : decode cX0_enoughForAll 105 = .ok (.goto (-96), 3) := by decide +kernel
theorem dX0_enoughForAll_108 : decode cX0_enoughForAll 108 = .ok (.aload_n 0, 1) := by decide +kernel
theorem dX0_enoughForAll_109 : decode cX0_enoughForAll 109 = .ok (.getfield 19, 3) := by decide +kernel
theorem dX0_enoughForAll_112 : decode cX0_enoughForAll 112 = .ok (.iload_n 1, 1) := by decide +kernel
theorem dX0_enoughForAll_113 : decode cX0_enoughForAll 113 = .ok (.imul, 1) := by decide +kernel
theorem dX0_enoughForAll_114 : decode cX0_enoughForAll 114 = .ok (.iload_n 2, 1) := by decide +kernel
theorem dX0_enoughForAll_115 : decode cX0_enoughForAll 115 = .ok (.iadd, 1) := by decide +kernel
theorem dX0_enoughForAll_116 : decode cX0_enoughForAll 116 = .ok (.iload_n 3, 1) := by decide +kernel
theorem dX0_enoughForAll_117 : decode cX0_enoughForAll 117 = .ok (.iadd, 1) := by decide +kernel
theorem dX0_enoughForAll_118 : decode cX0_enoughForAll 118 = .ok (.ireturn, 1) := by decide +kernel
theorem dX0_firsts_0 : decode cX0_firsts 0 = .ok (.iconst 0, 1) := by decide +kernel
theorem dX0_firsts_1 : decode cX0_firsts 1 = .ok (.istore_n 2, 1) := by decide +kernel
theorem dX0_firsts_2 : decode cX0_firsts 2 = .ok (.iconst 0, 1) := by decide +kernel
theorem dX0_firsts_3 : decode cX0_firsts 3 = .ok (.istore_n 3, 1) := by decide +kernel
theorem dX0_firsts_4 : decode cX0_firsts 4 = .ok (.iload_n 3, 1) := by decide +kernel
theorem dX0_firsts_5 : decode cX0_firsts 5 = .ok (.aload_n 0, 1) := by decide +kernel
theorem dX0_firsts_6 : decode cX0_firsts 6 = .ok (.getfield 19, 3) := by decide +kernel
theorem dX0_firsts_9 : decode cX0_firsts 9 = .ok (.if_icmp .ge 32, 3) := by decide +kernel
theorem dX0_firsts_12 : decode cX0_firsts 12 = .ok (.aload_n 0, 1) := by decide +kernel
theorem dX0_firsts_13 : decode cX0_firsts 13 = .ok (.iload_n 3, 1) := by decide +kernel
theorem dX0_firsts_14 : decode cX0_firsts 14 = .ok (.aload_n 0, 1) := by decide +kernel
theorem dX0_firsts_15 : decode cX0_firsts 15 = .ok (.iload_n 1, 1) := by decide +kernel
theorem dX0_firsts_16 : decode cX0_firsts 16 = .ok (.bipush 8, 2) := by decide +kernel
theorem dX0_firsts_18 : decode cX0_firsts 18 = .ok (.iload_n 3, 1) := by decide +kernel
theorem dX0_firsts_19 : decode cX0_firsts 19 = .ok (.invokevirtual 113, 3) := by decide +kernel
theorem dX0_firsts_22 : decode cX0_firsts 22 = .ok (.invokevirtual 116, 3) := by decide +kernel
theorem dX0_firsts_25 : decode cX0_firsts 25 = .ok (.iconst (-1), 1) := by decide +kernel
theorem dX0_firsts_26 : decode cX0_firsts 26 = .ok (.if_icmp .eq 9, 3) := by decide +kernel
theorem dX0_firsts_29 : decode cX0_firsts 29 = .ok (.iload_n 2, 1) := by decide +kernel
theorem dX0_firsts_30 : decode cX0_firsts 30 = .ok (.iconst 1, 1) := by decide +kernel
theorem dX0_firsts_31 : decode cX0_firsts 31 = .ok (.iload_n 3, 1) := by decide +kernel
theorem dX0_firsts_32 : decode cX0_firsts 32 = .ok (.ishl, 1) := by decide +kernel
theorem dX0_firsts_33 : decode cX0_firsts 33 = .ok (.ior, 1) := by decide +kernel
theorem dX0_firsts_34 : decode cX0_firsts 34 = .ok (.istore_n 2, 1) := by decide +kernel
theorem dX0_firsts_35 : decode cX0_firsts 35 = .ok (.iinc 3 1, 3) := by decide +kernel
theorem dX0_firsts_38 : decode cX0_firsts 38 = .ok (.goto (-34), 3) := by decide +kernel
theorem dX0_firsts_41 : decode cX0_firsts 41 = .ok (.iload_n 2, 1) := by decide +kernel
theorem dX0_firsts_42 : decode cX0_firsts 42 = .ok (.ireturn, 1) := by decide +kernel
theorem dX0_smallestRing_0 : decode cX0_smallestRing 0 = .ok (.iconst 0, 1) := by decide +kernel
theorem dX0_smallestRing_1 : decode cX0_smallestRing 1 = .ok (.istore_n 1, 1) := by decide +kernel
theorem dX0_smallestRing_2 : decode cX0_smallestRing 2 = .ok (.iconst 0, 1) := by decide +kernel
theorem dX0_smallestRing_3 : decode cX0_smallestRing 3 = .ok (.istore_n 2, 1) := by decide +kernel
theorem dX0_smallestRing_4 : decode cX0_smallestRing 4 = .ok (.iload_n 2, 1) := by decide +kernel
theorem dX0_smallestRing_5 : decode cX0_smallestRing 5 = .ok (.aload_n 0, 1) := by decide +kernel
theorem dX0_smallestRing_6 : decode cX0_smallestRing 6 = .ok (.getfield 19, 3) := by decide +kernel
theorem dX0_smallestRing_9 : decode cX0_smallestRing 9 = .ok (.if_icmp .ge 72, 3) := by decide +kernel
theorem dX0_smallestRing_12 : decode cX0_smallestRing 12 = .ok (.iload_n 2, 1) := by decide +kernel
theorem dX0_smallestRing_13 : decode cX0_smallestRing 13 = .ok (.aload_n 0, 1) := by decide +kernel
theorem dX0_smallestRing_14 : decode cX0_smallestRing 14 = .ok (.getfield 22, 3) := by decide +kernel
theorem dX0_smallestRing_17 : decode cX0_smallestRing 17 = .ok (.invokestatic 98, 3) := by decide +kernel
theorem dX0_smallestRing_20 : decode cX0_smallestRing 20 = .ok (.ifCond .eq 55, 3) := by decide +kernel
theorem dX0_smallestRing_23 : decode cX0_smallestRing 23 = .ok (.aload_n 0, 1) := by decide +kernel
theorem dX0_smallestRing_24 : decode cX0_smallestRing 24 = .ok (.iconst 1, 1) := by decide +kernel
theorem dX0_smallestRing_25 : decode cX0_smallestRing 25 = .ok (.iload_n 2, 1) := by decide +kernel
theorem dX0_smallestRing_26 : decode cX0_smallestRing 26 = .ok (.aload_n 0, 1) := by decide +kernel
theorem dX0_smallestRing_27 : decode cX0_smallestRing 27 = .ok (.getfield 37, 3) := by decide +kernel
theorem dX0_smallestRing_30 : decode cX0_smallestRing 30 = .ok (.iload_n 2, 1) := by decide +kernel
theorem dX0_smallestRing_31 : decode cX0_smallestRing 31 = .ok (.iaload, 1) := by decide +kernel
theorem dX0_smallestRing_32 : decode cX0_smallestRing 32 = .ok (.iconst 1, 1) := by decide +kernel
theorem dX0_smallestRing_33 : decode cX0_smallestRing 33 = .ok (.iload_n 2, 1) := by decide +kernel
theorem dX0_smallestRing_34 : decode cX0_smallestRing 34 = .ok (.ishl, 1) := by decide +kernel
theorem dX0_smallestRing_35 : decode cX0_smallestRing 35 = .ok (.invokevirtual 122, 3) := by decide +kernel
theorem dX0_smallestRing_38 : decode cX0_smallestRing 38 = .ok (.iconst 1, 1) := by decide +kernel
theorem dX0_smallestRing_39 : decode cX0_smallestRing 39 = .ok (.istore_n 3, 1) := by decide +kernel
theorem dX0_smallestRing_40 : decode cX0_smallestRing 40 = .ok (.iload_n 3, 1) := by decide +kernel
theorem dX0_smallestRing_41 : decode cX0_smallestRing 41 = .ok (.iconst 1, 1) := by decide +kernel
theorem dX0_smallestRing_42 : decode cX0_smallestRing 42 = .ok (.aload_n 0, 1) := by decide +kernel
theorem dX0_smallestRing_43 : decode cX0_smallestRing 43 = .ok (.getfield 19, 3) := by decide +kernel
theorem dX0_smallestRing_46 : decode cX0_smallestRing 46 = .ok (.ishl, 1) := by decide +kernel
theorem dX0_smallestRing_47 : decode cX0_smallestRing 47 = .ok (.if_icmp .ge 28, 3) := by decide +kernel
theorem dX0_smallestRing_50 : decode cX0_smallestRing 50 = .ok (.aload_n 0, 1) := by decide +kernel
theorem dX0_smallestRing_51 : decode cX0_smallestRing 51 = .ok (.iload_n 3, 1) := by decide +kernel
theorem dX0_smallestRing_52 : decode cX0_smallestRing 52 = .ok (.iload_n 2, 1) := by decide +kernel
theorem dX0_smallestRing_53 : decode cX0_smallestRing 53 = .ok (.invokevirtual 164, 3) := by decide +kernel
theorem dX0_smallestRing_56 : decode cX0_smallestRing 56 = .ok (.ifCond .eq 13, 3) := by decide +kernel
theorem dX0_smallestRing_59 : decode cX0_smallestRing 59 = .ok (.iload_n 3, 1) := by decide +kernel
theorem dX0_smallestRing_60 : decode cX0_smallestRing 60 = .ok (.iload_n 1, 1) := by decide +kernel
theorem dX0_smallestRing_61 : decode cX0_smallestRing 61 = .ok (.invokestatic 167, 3) := by decide +kernel
theorem dX0_smallestRing_64 : decode cX0_smallestRing 64 = .ok (.ifCond .eq 5, 3) := by decide +kernel
theorem dX0_smallestRing_67 : decode cX0_smallestRing 67 = .ok (.iload_n 3, 1) := by decide +kernel
theorem dX0_smallestRing_68 : decode cX0_smallestRing 68 = .ok (.istore_n 1, 1) := by decide +kernel
theorem dX0_smallestRing_69 : decode cX0_smallestRing 69 = .ok (.iinc 3 1, 3) := by decide +kernel
theorem dX0_smallestRing_72 : decode cX0_smallestRing 72 = .ok (.goto (-32), 3) := by decide +kernel
theorem dX0_smallestRing_75 : decode cX0_smallestRing 75 = .ok (.iinc 2 1, 3) := by decide +kernel
theorem dX0_smallestRing_78 : decode cX0_smallestRing 78 = .ok (.goto (-74), 3) := by decide +kernel
theorem dX0_smallestRing_81 : decode cX0_smallestRing 81 = .ok (.iload_n 1, 1) := by decide +kernel
theorem dX0_smallestRing_82 : decode cX0_smallestRing 82 = .ok (.ireturn, 1) := by decide +kernel
theorem dX0_isRing_0 : decode cX0_isRing 0 = .ok (.iload_n 1, 1) := by decide +kernel
theorem dX0_isRing_1 : decode cX0_isRing 1 = .ok (.aload_n 0, 1) := by decide +kernel
theorem dX0_isRing_2 : decode cX0_isRing 2 = .ok (.getfield 22, 3) := by decide +kernel
theorem dX0_isRing_5 : decode cX0_isRing 5 = .ok (.iconst (-1), 1) := by decide +kernel
theorem dX0_isRing_6 : decode cX0_isRing 6 = .ok (.ixor, 1) := by decide +kernel
theorem dX0_isRing_7 : decode cX0_isRing 7 = .ok (.iand, 1) := by decide +kernel
theorem dX0_isRing_8 : decode cX0_isRing 8 = .ok (.ifCond .ne 38, 3) := by decide +kernel
theorem dX0_isRing_11 : decode cX0_isRing 11 = .ok (.iload_n 2, 1) := by decide +kernel
theorem dX0_isRing_12 : decode cX0_isRing 12 = .ok (.iload_n 1, 1) := by decide +kernel
theorem dX0_isRing_13 : decode cX0_isRing 13 = .ok (.invokestatic 98, 3) := by decide +kernel
theorem dX0_isRing_16 : decode cX0_isRing 16 = .ok (.ifCond .eq 30, 3) := by decide +kernel
theorem dX0_isRing_19 : decode cX0_isRing 19 = .ok (.iload_n 1, 1) := by decide +kernel
theorem dX0_isRing_20 : decode cX0_isRing 20 = .ok (.invokestatic 144, 3) := by decide +kernel
theorem dX0_isRing_23 : decode cX0_isRing 23 = .ok (.iconst 2, 1) := by decide +kernel
theorem dX0_isRing_24 : decode cX0_isRing 24 = .ok (.if_icmp .lt 22, 3) := by decide +kernel
theorem dX0_isRing_27 : decode cX0_isRing 27 = .ok (.aload_n 0, 1) := by decide +kernel
theorem dX0_isRing_28 : decode cX0_isRing 28 = .ok (.iload_n 1, 1) := by decide +kernel
theorem dX0_isRing_29 : decode cX0_isRing 29 = .ok (.iload_n 2, 1) := by decide +kernel
theorem dX0_isRing_30 : decode cX0_isRing 30 = .ok (.invokevirtual 129, 3) := by decide +kernel
theorem dX0_isRing_33 : decode cX0_isRing 33 = .ok (.aload_n 0, 1) := by decide +kernel
theorem dX0_isRing_34 : decode cX0_isRing 34 = .ok (.getfield 37, 3) := by decide +kernel
theorem dX0_isRing_37 : decode cX0_isRing 37 = .ok (.iload_n 2, 1) := by decide +kernel
theorem dX0_isRing_38 : decode cX0_isRing 38 = .ok (.iaload, 1) := by decide +kernel
theorem dX0_isRing_39 : decode cX0_isRing 39 = .ok (.if_icmp .lt 7, 3) := by decide +kernel
theorem dX0_isRing_42 : decode cX0_isRing 42 = .ok (.iconst 1, 1) := by decide +kernel
theorem dX0_isRing_43 : decode cX0_isRing 43 = .ok (.goto 4, 3) := by decide +kernel
theorem dX0_isRing_46 : decode cX0_isRing 46 = .ok (.iconst 0, 1) := by decide +kernel
theorem dX0_isRing_47 : decode cX0_isRing 47 = .ok (.ireturn, 1) := by decide +kernel
theorem dX0_comesBefore_0 : decode cX0_comesBefore 0 = .ok (.iload_n 0, 1) := by decide +kernel
theorem dX0_comesBefore_1 : decode cX0_comesBefore 1 = .ok (.invokestatic 144, 3) := by decide +kernel
theorem dX0_comesBefore_4 : decode cX0_comesBefore 4 = .ok (.iload_n 1, 1) := by decide +kernel
theorem dX0_comesBefore_5 : decode cX0_comesBefore 5 = .ok (.invokestatic 144, 3) := by decide +kernel
theorem dX0_comesBefore_8 : decode cX0_comesBefore 8 = .ok (.isub, 1) := by decide +kernel
theorem dX0_comesBefore_9 : decode cX0_comesBefore 9 = .ok (.istore_n 2, 1) := by decide +kernel
theorem dX0_comesBefore_10 : decode cX0_comesBefore 10 = .ok (.iload_n 1, 1) := by decide +kernel
theorem dX0_comesBefore_11 : decode cX0_comesBefore 11 = .ok (.ifCond .eq 16, 3) := by decide +kernel
theorem dX0_comesBefore_14 : decode cX0_comesBefore 14 = .ok (.iload_n 2, 1) := by decide +kernel
theorem dX0_comesBefore_15 : decode cX0_comesBefore 15 = .ok (.ifCond .lt 12, 3) := by decide +kernel
theorem dX0_comesBefore_18 : decode cX0_comesBefore 18 = .ok (.iload_n 2, 1) := by decide +kernel
theorem dX0_comesBefore_19 : decode cX0_comesBefore 19 = .ok (.ifCond .ne 12, 3) := by decide +kernel
theorem dX0_comesBefore_22 : decode cX0_comesBefore 22 = .ok (.iload_n 0, 1) := by decide +kernel
theorem dX0_comesBefore_23 : decode cX0_comesBefore 23 = .ok (.iload_n 1, 1) := by decide +kernel
theorem dX0_comesBefore_24 : decode cX0_comesBefore 24 = .ok (.if_icmp .ge 7, 3) := by decide +kernel
theorem dX0_comesBefore_27 : decode cX0_comesBefore 27 = .ok (.iconst 1, 1) := by decide +kernel
theorem dX0_comesBefore_28 : decode cX0_comesBefore 28 = .ok (.goto 4, 3) := by decide +kernel
theorem dX0_comesBefore_31 : decode cX0_comesBefore 31 = .ok (.iconst 0, 1) := by decide +kernel
theorem dX0_comesBefore_32 : decode cX0_comesBefore 32 = .ok (.ireturn, 1) := by decide +kernel
theorem dX0_dearest_0 : decode cX0_dearest 0 = .ok (.aload_n 0, 1) := by decide +kernel
theorem dX0_dearest_1 : decode cX0_dearest 1 = .ok (.getfield 22, 3) := by decide +kernel
theorem dX0_dearest_4 : decode cX0_dearest 4 = .ok (.istore_n 2, 1) := by decide +kernel
theorem dX0_dearest_5 : decode cX0_dearest 5 = .ok (.iconst 0, 1) := by decide +kernel
theorem dX0_dearest_6 : decode cX0_dearest 6 = .ok (.istore_n 3, 1) := by decide +kernel
theorem dX0_dearest_7 : decode cX0_dearest 7 = .ok (.ldc 153, 2) := by decide +kernel
theorem dX0_dearest_9 : decode cX0_dearest 9 = .ok (.istore 4, 2) := by decide +kernel
theorem dX0_dearest_11 : decode cX0_dearest 11 = .ok (.iconst 0, 1) := by decide +kernel
theorem dX0_dearest_12 : decode cX0_dearest 12 = .ok (.istore 5, 2) := by decide +kernel
theorem dX0_dearest_14 : decode cX0_dearest 14 = .ok (.iload 5, 2) := by decide +kernel
theorem dX0_dearest_16 : decode cX0_dearest 16 = .ok (.aload_n 0, 1) := by decide +kernel
theorem dX0_dearest_17 : decode cX0_dearest 17 = .ok (.getfield 19, 3) := by decide +kernel
theorem dX0_dearest_20 : decode cX0_dearest 20 = .ok (.if_icmp .ge 42, 3) := by decide +kernel
theorem dX0_dearest_23 : decode cX0_dearest 23 = .ok (.aload_n 0, 1) := by decide +kernel
theorem dX0_dearest_24 : decode cX0_dearest 24 = .ok (.iload_n 2, 1) := by decide +kernel
theorem dX0_dearest_25 : decode cX0_dearest 25 = .ok (.iconst 1, 1) := by decide +kernel
theorem dX0_dearest_26 : decode cX0_dearest 26 = .ok (.iload 5, 2) := by decide +kernel
theorem dX0_dearest_28 : decode cX0_dearest 28 = .ok (.ishl, 1) := by decide +kernel
theorem dX0_dearest_29 : decode cX0_dearest 29 = .ok (.iconst (-1), 1) := by decide +kernel
theorem dX0_dearest_30 : decode cX0_dearest 30 = .ok (.ixor, 1) := by decide +kernel
theorem dX0_dearest_31 : decode cX0_dearest 31 = .ok (.iand, 1) := by decide +kernel
theorem dX0_dearest_32 : decode cX0_dearest 32 = .ok (.putfield 22, 3) := by decide +kernel
theorem dX0_dearest_35 : decode cX0_dearest 35 = .ok (.aload_n 0, 1) := by decide +kernel
theorem dX0_dearest_36 : decode cX0_dearest 36 = .ok (.iload_n 1, 1) := by decide +kernel
theorem dX0_dearest_37 : decode cX0_dearest 37 = .ok (.invokevirtual 132, 3) := by decide +kernel
theorem dX0_dearest_40 : decode cX0_dearest 40 = .ok (.istore 6, 2) := by decide +kernel
theorem dX0_dearest_42 : decode cX0_dearest 42 = .ok (.iload 6, 2) := by decide +kernel
theorem dX0_dearest_44 : decode cX0_dearest 44 = .ok (.iload 4, 2) := by decide +kernel
theorem dX0_dearest_46 : decode cX0_dearest 46 = .ok (.if_icmp .ge 10, 3) := by decide +kernel
theorem dX0_dearest_49 : decode cX0_dearest 49 = .ok (.iload 6, 2) := by decide +kernel
theorem dX0_dearest_51 : decode cX0_dearest 51 = .ok (.istore 4, 2) := by decide +kernel
theorem dX0_dearest_53 : decode cX0_dearest 53 = .ok (.iload 5, 2) := by decide +kernel
theorem dX0_dearest_55 : decode cX0_dearest 55 = .ok (.istore_n 3, 1) := by decide +kernel
theorem dX0_dearest_56 : decode cX0_dearest 56 = .ok (.iinc 5 1, 3) := by decide +kernel
theorem dX0_dearest_59 : decode cX0_dearest 59 = .ok (.goto (-45), 3) := by decide +kernel
theorem dX0_dearest_62 : decode cX0_dearest 62 = .ok (.aload_n 0, 1) := by decide +kernel
theorem dX0_dearest_63 : decode cX0_dearest 63 = .ok (.iload_n 2, 1) := by decide +kernel
theorem dX0_dearest_64 : decode cX0_dearest 64 = .ok (.putfield 22, 3) := by decide +kernel
theorem dX0_dearest_67 : decode cX0_dearest 67 = .ok (.iload_n 3, 1) := by decide +kernel
theorem dX0_dearest_68 : decode cX0_dearest 68 = .ok (.ireturn, 1) := by decide +kernel
theorem dX0_bestSpring_0 : decode cX0_bestSpring 0 = .ok (.aload_n 0, 1) := by decide +kernel
theorem dX0_bestSpring_1 : decode cX0_bestSpring 1 = .ok (.iload_n 1, 1) := by decide +kernel
theorem dX0_bestSpring_2 : decode cX0_bestSpring 2 = .ok (.invokevirtual 132, 3) := by decide +kernel
theorem dX0_bestSpring_5 : decode cX0_bestSpring 5 = .ok (.istore_n 2, 1) := by decide +kernel
theorem dX0_bestSpring_6 : decode cX0_bestSpring 6 = .ok (.aload_n 0, 1) := by decide +kernel
theorem dX0_bestSpring_7 : decode cX0_bestSpring 7 = .ok (.getfield 19, 3) := by decide +kernel
theorem dX0_bestSpring_10 : decode cX0_bestSpring 10 = .ok (.istore_n 3, 1) := by decide +kernel
theorem dX0_bestSpring_11 : decode cX0_bestSpring 11 = .ok (.aload_n 0, 1) := by decide +kernel
theorem dX0_bestSpring_12 : decode cX0_bestSpring 12 = .ok (.dup, 1) := by decide +kernel
theorem dX0_bestSpring_13 : decode cX0_bestSpring 13 = .ok (.getfield 19, 3) := by decide +kernel
theorem dX0_bestSpring_16 : decode cX0_bestSpring 16 = .ok (.iconst 1, 1) := by decide +kernel
theorem dX0_bestSpring_17 : decode cX0_bestSpring 17 = .ok (.iadd, 1) := by decide +kernel
theorem dX0_bestSpring_18 : decode cX0_bestSpring 18 = .ok (.putfield 19, 3) := by decide +kernel
theorem dX0_bestSpring_21 : decode cX0_bestSpring 21 = .ok (.aload_n 0, 1) := by decide +kernel
theorem dX0_bestSpring_22 : decode cX0_bestSpring 22 = .ok (.dup, 1) := by decide +kernel
theorem dX0_bestSpring_23 : decode cX0_bestSpring 23 = .ok (.getfield 22, 3) := by decide +kernel
theorem dX0_bestSpring_26 : decode cX0_bestSpring 26 = .ok (.iconst 1, 1) := by decide +kernel
theorem dX0_bestSpring_27 : decode cX0_bestSpring 27 = .ok (.iload_n 3, 1) := by decide +kernel
theorem dX0_bestSpring_28 : decode cX0_bestSpring 28 = .ok (.ishl, 1) := by decide +kernel
theorem dX0_bestSpring_29 : decode cX0_bestSpring 29 = .ok (.ior, 1) := by decide +kernel
theorem dX0_bestSpring_30 : decode cX0_bestSpring 30 = .ok (.putfield 22, 3) := by decide +kernel
theorem dX0_bestSpring_33 : decode cX0_bestSpring 33 = .ok (.aload_n 0, 1) := by decide +kernel
theorem dX0_bestSpring_34 : decode cX0_bestSpring 34 = .ok (.getfield 37, 3) := by decide +kernel
theorem dX0_bestSpring_37 : decode cX0_bestSpring 37 = .ok (.iload_n 3, 1) := by decide +kernel
theorem dX0_bestSpring_38 : decode cX0_bestSpring 38 = .ok (.iconst 0, 1) := by decide +kernel
theorem dX0_bestSpring_39 : decode cX0_bestSpring 39 = .ok (.iastore, 1) := by decide +kernel
theorem dX0_bestSpring_40 : decode cX0_bestSpring 40 = .ok (.aload_n 0, 1) := by decide +kernel
theorem dX0_bestSpring_41 : decode cX0_bestSpring 41 = .ok (.getfield 40, 3) := by decide +kernel
theorem dX0_bestSpring_44 : decode cX0_bestSpring 44 = .ok (.iload_n 3, 1) := by decide +kernel
theorem dX0_bestSpring_45 : decode cX0_bestSpring 45 = .ok (.iconst 1, 1) := by decide +kernel
theorem dX0_bestSpring_46 : decode cX0_bestSpring 46 = .ok (.iastore, 1) := by decide +kernel
theorem dX0_bestSpring_47 : decode cX0_bestSpring 47 = .ok (.iconst 0, 1) := by decide +kernel
theorem dX0_bestSpring_48 : decode cX0_bestSpring 48 = .ok (.istore 4, 2) := by decide +kernel
theorem dX0_bestSpring_50 : decode cX0_bestSpring 50 = .ok (.iconst (-1), 1) := by decide +kernel
theorem dX0_bestSpring_51 : decode cX0_bestSpring 51 = .ok (.istore 5, 2) := by decide +kernel
theorem dX0_bestSpring_53 : decode cX0_bestSpring 53 = .ok (.iconst 0, 1) := by decide +kernel
theorem dX0_bestSpring_54 : decode cX0_bestSpring 54 = .ok (.istore 6, 2) := by decide +kernel
theorem dX0_bestSpring_56 : decode cX0_bestSpring 56 = .ok (.iload 6, 2) := by decide +kernel
theorem dX0_bestSpring_58 : decode cX0_bestSpring 58 = .ok (.bipush 99, 2) := by decide +kernel
theorem dX0_bestSpring_60 : decode cX0_bestSpring 60 = .ok (.if_icmp .gt 47, 3) := by decide +kernel
theorem dX0_bestSpring_63 : decode cX0_bestSpring 63 = .ok (.aload_n 0, 1) := by decide +kernel
theorem dX0_bestSpring_64 : decode cX0_bestSpring 64 = .ok (.getfield 31, 3) := by decide +kernel
theorem dX0_bestSpring_67 : decode cX0_bestSpring 67 = .ok (.iload_n 3, 1) := by decide +kernel
theorem dX0_bestSpring_68 : decode cX0_bestSpring 68 = .ok (.iload 6, 2) := by decide +kernel
theorem dX0_bestSpring_70 : decode cX0_bestSpring 70 = .ok (.iastore, 1) := by decide +kernel
theorem dX0_bestSpring_71 : decode cX0_bestSpring 71 = .ok (.aload_n 0, 1) := by decide +kernel
theorem dX0_bestSpring_72 : decode cX0_bestSpring 72 = .ok (.invokevirtual 86, 3) := by decide +kernel
theorem dX0_bestSpring_75 : decode cX0_bestSpring 75 = .ok (.aload_n 0, 1) := by decide +kernel
theorem dX0_bestSpring_76 : decode cX0_bestSpring 76 = .ok (.iconst 1, 1) := by decide +kernel
theorem dX0_bestSpring_77 : decode cX0_bestSpring 77 = .ok (.iload_n 3, 1) := by decide +kernel
theorem dX0_bestSpring_78 : decode cX0_bestSpring 78 = .ok (.ishl, 1) := by decide +kernel
theorem dX0_bestSpring_79 : decode cX0_bestSpring 79 = .ok (.iload_n 1, 1) := by decide +kernel
theorem dX0_bestSpring_80 : decode cX0_bestSpring 80 = .ok (.iload_n 2, 1) := by decide +kernel
theorem dX0_bestSpring_81 : decode cX0_bestSpring 81 = .ok (.invokevirtual 119, 3) := by decide +kernel
theorem dX0_bestSpring_84 : decode cX0_bestSpring 84 = .ok (.istore 7, 2) := by decide +kernel
theorem dX0_bestSpring_86 : decode cX0_bestSpring 86 = .ok (.iload 7, 2) := by decide +kernel
theorem dX0_bestSpring_88 : decode cX0_bestSpring 88 = .ok (.iload 5, 2) := by decide +kernel
theorem dX0_bestSpring_90 : decode cX0_bestSpring 90 = .ok (.if_icmp .le 11, 3) := by decide +kernel
theorem dX0_bestSpring_93 : decode cX0_bestSpring 93 = .ok (.iload 7, 2) := by decide +kernel
theorem dX0_bestSpring_95 : decode cX0_bestSpring 95 = .ok (.istore 5, 2) := by decide +kernel
theorem dX0_bestSpring_97 : decode cX0_bestSpring 97 = .ok (.iload 6, 2) := by decide +kernel
theorem dX0_bestSpring_99 : decode cX0_bestSpring 99 = .ok (.istore 4, 2) := by decide +kernel
theorem dX0_bestSpring_101 : decode cX0_bestSpring 101 = .ok (.iinc 6 1, 3) := by decide +kernel
theorem dX0_bestSpring_104 : decode cX0_bestSpring 104 = .ok (.goto (-48), 3) := by decide +kernel
theorem dX0_bestSpring_107 : decode cX0_bestSpring 107 = .ok (.iload 4, 2) := by decide +kernel
theorem dX0_bestSpring_109 : decode cX0_bestSpring 109 = .ok (.ireturn, 1) := by decide +kernel
theorem dX0_leastRoomForMost_0 : decode cX0_leastRoomForMost 0 = .ok (.aload_n 0, 1) := by decide +kernel
theorem dX0_leastRoomForMost_1 : decode cX0_leastRoomForMost 1 = .ok (.sipush 999, 3) := by decide +kernel
theorem dX0_leastRoomForMost_4 : decode cX0_leastRoomForMost 4 = .ok (.putfield 25, 3) := by decide +kernel
theorem dX0_leastRoomForMost_7 : decode cX0_leastRoomForMost 7 = .ok (.aload_n 0, 1) := by decide +kernel
theorem dX0_leastRoomForMost_8 : decode cX0_leastRoomForMost 8 = .ok (.iload_n 1, 1) := by decide +kernel
theorem dX0_leastRoomForMost_9 : decode cX0_leastRoomForMost 9 = .ok (.invokevirtual 132, 3) := by decide +kernel
theorem dX0_leastRoomForMost_12 : decode cX0_leastRoomForMost 12 = .ok (.istore_n 2, 1) := by decide +kernel
theorem dX0_leastRoomForMost_13 : decode cX0_leastRoomForMost 13 = .ok (.iload_n 1, 1) := by decide +kernel
theorem dX0_leastRoomForMost_14 : decode cX0_leastRoomForMost 14 = .ok (.iconst 1, 1) := by decide +kernel
theorem dX0_leastRoomForMost_15 : decode cX0_leastRoomForMost 15 = .ok (.invokestatic 93, 3) := by decide +kernel
theorem dX0_leastRoomForMost_18 : decode cX0_leastRoomForMost 18 = .ok (.iconst 1, 1) := by decide +kernel
theorem dX0_leastRoomForMost_19 : decode cX0_leastRoomForMost 19 = .ok (.isub, 1) := by decide +kernel
theorem dX0_leastRoomForMost_20 : decode cX0_leastRoomForMost 20 = .ok (.istore_n 3, 1) := by decide +kernel
theorem dX0_leastRoomForMost_21 : decode cX0_leastRoomForMost 21 = .ok (.sipush 512, 3) := by decide +kernel
theorem dX0_leastRoomForMost_24 : decode cX0_leastRoomForMost 24 = .ok (.istore 4, 2) := by decide +kernel
theorem dX0_leastRoomForMost_26 : decode cX0_leastRoomForMost 26 = .ok (.iload 4, 2) := by decide +kernel
theorem dX0_leastRoomForMost_28 : decode cX0_leastRoomForMost 28 = .ok (.ifCond .le 44, 3) := by decide +kernel
theorem dX0_leastRoomForMost_31 : decode cX0_leastRoomForMost 31 = .ok (.iload_n 3, 1) := by decide +kernel
theorem dX0_leastRoomForMost_32 : decode cX0_leastRoomForMost 32 = .ok (.iload 4, 2) := by decide +kernel
theorem dX0_leastRoomForMost_34 : decode cX0_leastRoomForMost 34 = .ok (.iadd, 1) := by decide +kernel
theorem dX0_leastRoomForMost_35 : decode cX0_leastRoomForMost 35 = .ok (.sipush 999, 3) := by decide +kernel
theorem dX0_leastRoomForMost_38 : decode cX0_leastRoomForMost 38 = .ok (.if_icmp .ge 25, 3) := by decide +kernel
theorem dX0_leastRoomForMost_41 : decode cX0_leastRoomForMost 41 = .ok (.aload_n 0, 1) := by decide +kernel
theorem dX0_leastRoomForMost_42 : decode cX0_leastRoomForMost 42 = .ok (.iload_n 3, 1) := by decide +kernel
theorem dX0_leastRoomForMost_43 : decode cX0_leastRoomForMost 43 = .ok (.iload 4, 2) := by decide +kernel
theorem dX0_leastRoomForMost_45 : decode cX0_leastRoomForMost 45 = .ok (.iadd, 1) := by decide +kernel
theorem dX0_leastRoomForMost_46 : decode cX0_leastRoomForMost 46 = .ok (.putfield 25, 3) := by decide +kernel
theorem dX0_leastRoomForMost_49 : decode cX0_leastRoomForMost 49 = .ok (.aload_n 0, 1) := by decide +kernel
theorem dX0_leastRoomForMost_50 : decode cX0_leastRoomForMost 50 = .ok (.iload_n 1, 1) := by decide +kernel
theorem dX0_leastRoomForMost_51 : decode cX0_leastRoomForMost 51 = .ok (.invokevirtual 132, 3) := by decide +kernel
theorem dX0_leastRoomForMost_54 : decode cX0_leastRoomForMost 54 = .ok (.iload_n 2, 1) := by decide +kernel
theorem dX0_leastRoomForMost_55 : decode cX0_leastRoomForMost 55 = .ok (.if_icmp .ge 8, 3) := by decide +kernel
theorem dX0_leastRoomForMost_58 : decode cX0_leastRoomForMost 58 = .ok (.aload_n 0, 1) := by decide +kernel
theorem dX0_leastRoomForMost_59 : decode cX0_leastRoomForMost 59 = .ok (.getfield 25, 3) := by decide +kernel
theorem dX0_leastRoomForMost_62 : decode cX0_leastRoomForMost 62 = .ok (.istore_n 3, 1) := by decide +kernel
theorem dX0_leastRoomForMost_63 : decode cX0_leastRoomForMost 63 = .ok (.iload 4, 2) := by decide +kernel
theorem dX0_leastRoomForMost_65 : decode cX0_leastRoomForMost 65 = .ok (.iconst 2, 1) := by decide +kernel
theorem dX0_leastRoomForMost_66 : decode cX0_leastRoomForMost 66 = .ok (.idiv, 1) := by decide +kernel
theorem dX0_leastRoomForMost_67 : decode cX0_leastRoomForMost 67 = .ok (.istore 4, 2) := by decide +kernel
theorem dX0_leastRoomForMost_69 : decode cX0_leastRoomForMost 69 = .ok (.goto (-43), 3) := by decide +kernel
theorem dX0_leastRoomForMost_72 : decode cX0_leastRoomForMost 72 = .ok (.iload_n 3, 1) := by decide +kernel
theorem dX0_leastRoomForMost_73 : decode cX0_leastRoomForMost 73 = .ok (.iconst 1, 1) := by decide +kernel
theorem dX0_leastRoomForMost_74 : decode cX0_leastRoomForMost 74 = .ok (.iadd, 1) := by decide +kernel
theorem dX0_leastRoomForMost_75 : decode cX0_leastRoomForMost 75 = .ok (.ireturn, 1) := by decide +kernel
theorem dX0_greatestSpillsThatCost_0 : decode cX0_greatestSpillsThatCost 0 = .ok (.aload_n 0, 1) := by decide +kernel
theorem dX0_greatestSpillsThatCost_1 : decode cX0_greatestSpillsThatCost 1 = .ok (.iconst 0, 1) := by decide +kernel
theorem dX0_greatestSpillsThatCost_2 : decode cX0_greatestSpillsThatCost 2 = .ok (.putfield 28, 3) := by decide +kernel
theorem dX0_greatestSpillsThatCost_5 : decode cX0_greatestSpillsThatCost 5 = .ok (.aload_n 0, 1) := by decide +kernel
theorem dX0_greatestSpillsThatCost_6 : decode cX0_greatestSpillsThatCost 6 = .ok (.invokevirtual 86, 3) := by decide +kernel
theorem dX0_greatestSpillsThatCost_9 : decode cX0_greatestSpillsThatCost 9 = .ok (.aload_n 0, 1) := by decide +kernel
theorem dX0_greatestSpillsThatCost_10 : decode cX0_greatestSpillsThatCost 10 = .ok (.iload_n 1, 1) := by decide +kernel
theorem dX0_greatestSpillsThatCost_11 : decode cX0_greatestSpillsThatCost 11 = .ok (.invokevirtual 132, 3) := by decide +kernel
theorem dX0_greatestSpillsThatCost_14 : decode cX0_greatestSpillsThatCost 14 = .ok (.istore_n 2, 1) := by decide +kernel
theorem dX0_greatestSpillsThatCost_15 : decode cX0_greatestSpillsThatCost 15 = .ok (.iconst 0, 1) := by decide +kernel
theorem dX0_greatestSpillsThatCost_16 : decode cX0_greatestSpillsThatCost 16 = .ok (.istore_n 3, 1) := by decide +kernel
theorem dX0_greatestSpillsThatCost_17 : decode cX0_greatestSpillsThatCost 17 = .ok (.bipush 64, 2) := by decide +kernel
theorem dX0_greatestSpillsThatCost_19 : decode cX0_greatestSpillsThatCost 19 = .ok (.istore 4, 2) := by decide +kernel
theorem dX0_greatestSpillsThatCost_21 : decode cX0_greatestSpillsThatCost 21 = .ok (.iload 4, 2) := by decide +kernel
theorem dX0_greatestSpillsThatCost_23 : decode cX0_greatestSpillsThatCost 23 = .ok (.ifCond .le 47, 3) := by decide +kernel
theorem dX0_greatestSpillsThatCost_26 : decode cX0_greatestSpillsThatCost 26 = .ok (.iload_n 3, 1) := by decide +kernel
theorem dX0_greatestSpillsThatCost_27 : decode cX0_greatestSpillsThatCost 27 = .ok (.iload 4, 2) := by decide +kernel
theorem dX0_greatestSpillsThatCost_29 : decode cX0_greatestSpillsThatCost 29 = .ok (.iadd, 1) := by decide +kernel
theorem dX0_greatestSpillsThatCost_30 : decode cX0_greatestSpillsThatCost 30 = .ok (.bipush 99, 2) := by decide +kernel
theorem dX0_greatestSpillsThatCost_32 : decode cX0_greatestSpillsThatCost 32 = .ok (.if_icmp .gt 29, 3) := by decide +kernel
theorem dX0_greatestSpillsThatCost_35 : decode cX0_greatestSpillsThatCost 35 = .ok (.aload_n 0, 1) := by decide +kernel
theorem dX0_greatestSpillsThatCost_36 : decode cX0_greatestSpillsThatCost 36 = .ok (.iload_n 3, 1) := by decide +kernel
theorem dX0_greatestSpillsThatCost_37 : decode cX0_greatestSpillsThatCost 37 = .ok (.iload 4, 2) := by decide +kernel
theorem dX0_greatestSpillsThatCost_39 : decode cX0_greatestSpillsThatCost 39 = .ok (.iadd, 1) := by decide +kernel
theorem dX0_greatestSpillsThatCost_40 : decode cX0_greatestSpillsThatCost 40 = .ok (.putfield 28, 3) := by decide +kernel
theorem dX0_greatestSpillsThatCost_43 : decode cX0_greatestSpillsThatCost 43 = .ok (.aload_n 0, 1) := by decide +kernel
theorem dX0_greatestSpillsThatCost_44 : decode cX0_greatestSpillsThatCost 44 = .ok (.invokevirtual 86, 3) := by decide +kernel
theorem dX0_greatestSpillsThatCost_47 : decode cX0_greatestSpillsThatCost 47 = .ok (.aload_n 0, 1) := by decide +kernel
theorem dX0_greatestSpillsThatCost_48 : decode cX0_greatestSpillsThatCost 48 = .ok (.iload_n 1, 1) := by decide +kernel
theorem dX0_greatestSpillsThatCost_49 : decode cX0_greatestSpillsThatCost 49 = .ok (.invokevirtual 132, 3) := by decide +kernel
theorem dX0_greatestSpillsThatCost_52 : decode cX0_greatestSpillsThatCost 52 = .ok (.iload_n 2, 1) := by decide +kernel
theorem dX0_greatestSpillsThatCost_53 : decode cX0_greatestSpillsThatCost 53 = .ok (.if_icmp .ge 8, 3) := by decide +kernel
theorem dX0_greatestSpillsThatCost_56 : decode cX0_greatestSpillsThatCost 56 = .ok (.aload_n 0, 1) := by decide +kernel
theorem dX0_greatestSpillsThatCost_57 : decode cX0_greatestSpillsThatCost 57 = .ok (.getfield 28, 3) := by decide +kernel
theorem dX0_greatestSpillsThatCost_60 : decode cX0_greatestSpillsThatCost 60 = .ok (.istore_n 3, 1) := by decide +kernel
theorem dX0_greatestSpillsThatCost_61 : decode cX0_greatestSpillsThatCost 61 = .ok (.iload 4, 2) := by decide +kernel
theorem dX0_greatestSpillsThatCost_63 : decode cX0_greatestSpillsThatCost 63 = .ok (.iconst 2, 1) := by decide +kernel
theorem dX0_greatestSpillsThatCost_64 : decode cX0_greatestSpillsThatCost 64 = .ok (.idiv, 1) := by decide +kernel
theorem dX0_greatestSpillsThatCost_65 : decode cX0_greatestSpillsThatCost 65 = .ok (.istore 4, 2) := by decide +kernel
theorem dX0_greatestSpillsThatCost_67 : decode cX0_greatestSpillsThatCost 67 = .ok (.goto (-46), 3) := by decide +kernel
theorem dX0_greatestSpillsThatCost_70 : decode cX0_greatestSpillsThatCost 70 = .ok (.iload_n 3, 1) := by decide +kernel
theorem dX0_greatestSpillsThatCost_71 : decode cX0_greatestSpillsThatCost 71 = .ok (.ireturn, 1) := by decide +kernel
theorem dX0_partsBringing_0 : decode cX0_partsBringing 0 = .ok (.lconst 0, 1) := by decide +kernel
theorem dX0_partsBringing_1 : decode cX0_partsBringing 1 = .ok (.lstore_n 3, 1) := by decide +kernel
theorem dX0_partsBringing_2 : decode cX0_partsBringing 2 = .ok (.iconst 0, 1) := by decide +kernel
theorem dX0_partsBringing_3 : decode cX0_partsBringing 3 = .ok (.istore 5, 2) := by decide +kernel
theorem dX0_partsBringing_5 : decode cX0_partsBringing 5 = .ok (.iload 5, 2) := by decide +kernel
theorem dX0_partsBringing_7 : decode cX0_partsBringing 7 = .ok (.iconst 1, 1) := by decide +kernel
theorem dX0_partsBringing_8 : decode cX0_partsBringing 8 = .ok (.aload_n 0, 1) := by decide +kernel
theorem dX0_partsBringing_9 : decode cX0_partsBringing 9 = .ok (.getfield 15, 3) := by decide +kernel
theorem dX0_partsBringing_12 : decode cX0_partsBringing 12 = .ok (.ishl, 1) := by decide +kernel
theorem dX0_partsBringing_13 : decode cX0_partsBringing 13 = .ok (.if_icmp .ge 20, 3) := by decide +kernel
theorem dX0_partsBringing_16 : decode cX0_partsBringing 16 = .ok (.lload_n 3, 1) := by decide +kernel
theorem dX0_partsBringing_17 : decode cX0_partsBringing 17 = .ok (.aload_n 0, 1) := by decide +kernel
theorem dX0_partsBringing_18 : decode cX0_partsBringing 18 = .ok (.iload 5, 2) := by decide +kernel
theorem dX0_partsBringing_20 : decode cX0_partsBringing 20 = .ok (.iload_n 1, 1) := by decide +kernel
theorem dX0_partsBringing_21 : decode cX0_partsBringing 21 = .ok (.iload_n 2, 1) := by decide +kernel
theorem dX0_partsBringing_22 : decode cX0_partsBringing 22 = .ok (.invokevirtual 170, 3) := by decide +kernel
theorem dX0_partsBringing_25 : decode cX0_partsBringing 25 = .ok (.ladd, 1) := by decide +kernel
theorem dX0_partsBringing_26 : decode cX0_partsBringing 26 = .ok (.lstore_n 3, 1) := by decide +kernel
theorem dX0_partsBringing_27 : decode cX0_partsBringing 27 = .ok (.iinc 5 1, 3) := by decide +kernel
theorem dX0_partsBringing_30 : decode cX0_partsBringing 30 = .ok (.goto (-25), 3) := by decide +kernel
theorem dX0_partsBringing_33 : decode cX0_partsBringing 33 = .ok (.lload_n 3, 1) := by decide +kernel
theorem dX0_partsBringing_34 : decode cX0_partsBringing 34 = .ok (.lreturn, 1) := by decide +kernel
theorem dX0_sumBrought_0 : decode cX0_sumBrought 0 = .ok (.aload_n 0, 1) := by decide +kernel
theorem dX0_sumBrought_1 : decode cX0_sumBrought 1 = .ok (.iload_n 1, 1) := by decide +kernel
theorem dX0_sumBrought_2 : decode cX0_sumBrought 2 = .ok (.iconst (-1), 1) := by decide +kernel
theorem dX0_sumBrought_3 : decode cX0_sumBrought 3 = .ok (.invokevirtual 174, 3) := by decide +kernel
theorem dX0_sumBrought_6 : decode cX0_sumBrought 6 = .ok (.lreturn, 1) := by decide +kernel
theorem dX0_weighed_0 : decode cX0_weighed 0 = .ok (.lconst 1, 1) := by decide +kernel
theorem dX0_weighed_1 : decode cX0_weighed 1 = .ok (.lstore 4, 2) := by decide +kernel
theorem dX0_weighed_3 : decode cX0_weighed 3 = .ok (.bipush 8, 2) := by decide +kernel
theorem dX0_weighed_5 : decode cX0_weighed 5 = .ok (.istore 6, 2) := by decide +kernel
theorem dX0_weighed_7 : decode cX0_weighed 7 = .ok (.iload_n 2, 1) := by decide +kernel
theorem dX0_weighed_8 : decode cX0_weighed 8 = .ok (.istore 7, 2) := by decide +kernel
theorem dX0_weighed_10 : decode cX0_weighed 10 = .ok (.iconst 0, 1) := by decide +kernel
theorem dX0_weighed_11 : decode cX0_weighed 11 = .ok (.istore 8, 2) := by decide +kernel
theorem dX0_weighed_13 : decode cX0_weighed 13 = .ok (.iload 8, 2) := by decide +kernel
theorem dX0_weighed_15 : decode cX0_weighed 15 = .ok (.aload_n 0, 1) := by decide +kernel
theorem dX0_weighed_16 : decode cX0_weighed 16 = .ok (.getfield 15, 3) := by decide +kernel
theorem dX0_weighed_19 : decode cX0_weighed 19 = .ok (.if_icmp .ge 121, 3) := by decide +kernel
theorem dX0_weighed_22 : decode cX0_weighed 22 = .ok (.aload_n 0, 1) := by decide +kernel
theorem dX0_weighed_23 : decode cX0_weighed 23 = .ok (.getfield 9, 3) := by decide +kernel
theorem dX0_weighed_26 : decode cX0_weighed 26 = .ok (.iload 8, 2) := by decide +kernel
theorem dX0_weighed_28 : decode cX0_weighed 28 = .ok (.iaload, 1) := by decide +kernel
theorem dX0_weighed_29 : decode cX0_weighed 29 = .ok (.istore 9, 2) := by decide +kernel
theorem dX0_weighed_31 : decode cX0_weighed 31 = .ok (.aload_n 0, 1) := by decide +kernel
theorem dX0_weighed_32 : decode cX0_weighed 32 = .ok (.iload 7, 2) := by decide +kernel
theorem dX0_weighed_34 : decode cX0_weighed 34 = .ok (.iload 6, 2) := by decide +kernel
theorem dX0_weighed_36 : decode cX0_weighed 36 = .ok (.iload 9, 2) := by decide +kernel
theorem dX0_weighed_38 : decode cX0_weighed 38 = .ok (.invokevirtual 113, 3) := by decide +kernel
theorem dX0_weighed_41 : decode cX0_weighed 41 = .ok (.istore 7, 2) := by decide +kernel
theorem dX0_weighed_43 : decode cX0_weighed 43 = .ok (.iload 9, 2) := by decide +kernel
theorem dX0_weighed_45 : decode cX0_weighed 45 = .ok (.istore 6, 2) := by decide +kernel
theorem dX0_weighed_47 : decode cX0_weighed 47 = .ok (.aload_n 0, 1) := by decide +kernel
theorem dX0_weighed_48 : decode cX0_weighed 48 = .ok (.iload 9, 2) := by decide +kernel
theorem dX0_weighed_50 : decode cX0_weighed 50 = .ok (.iload 7, 2) := by decide +kernel
theorem dX0_weighed_52 : decode cX0_weighed 52 = .ok (.invokevirtual 116, 3) := by decide +kernel
theorem dX0_weighed_55 : decode cX0_weighed 55 = .ok (.istore 10, 2) := by decide +kernel
theorem dX0_weighed_57 : decode cX0_weighed 57 = .ok (.iload 10, 2) := by decide +kernel
theorem dX0_weighed_59 : decode cX0_weighed 59 = .ok (.iconst (-1), 1) := by decide +kernel
theorem dX0_weighed_60 : decode cX0_weighed 60 = .ok (.if_icmp .ne 7, 3) := by decide +kernel
theorem dX0_weighed_63 : decode cX0_weighed 63 = .ok (.iconst 0, 1) := by decide +kernel
theorem dX0_weighed_64 : decode cX0_weighed 64 = .ok (.goto 10, 3) := by decide +kernel
theorem dX0_weighed_67 : decode cX0_weighed 67 = .ok (.aload_n 0, 1) := by decide +kernel
theorem dX0_weighed_68 : decode cX0_weighed 68 = .ok (.getfield 43, 3) := by decide +kernel
theorem dX0_weighed_71 : decode cX0_weighed 71 = .ok (.iload 9, 2) := by decide +kernel
theorem dX0_weighed_73 : decode cX0_weighed 73 = .ok (.iaload, 1) := by decide +kernel
theorem dX0_weighed_74 : decode cX0_weighed 74 = .ok (.istore 11, 2) := by decide +kernel
theorem dX0_weighed_76 : decode cX0_weighed 76 = .ok (.lload 4, 2) := by decide +kernel
theorem dX0_weighed_78 : decode cX0_weighed 78 = .ok (.iload 8, 2) := by decide +kernel
theorem dX0_weighed_80 : decode cX0_weighed 80 = .ok (.iload_n 1, 1) := by decide +kernel
theorem dX0_weighed_81 : decode cX0_weighed 81 = .ok (.invokestatic 98, 3) := by decide +kernel
theorem dX0_weighed_84 : decode cX0_weighed 84 = .ok (.ifCond .eq 9, 3) := by decide +kernel
theorem dX0_weighed_87 : decode cX0_weighed 87 = .ok (.iload 11, 2) := by decide +kernel
theorem dX0_weighed_89 : decode cX0_weighed 89 = .ok (.i2l, 1) := by decide +kernel
theorem dX0_weighed_90 : decode cX0_weighed 90 = .ok (.goto 9, 3) := by decide +kernel
theorem dX0_weighed_93 : decode cX0_weighed 93 = .ok (.bipush 12, 2) := by decide +kernel
theorem dX0_weighed_95 : decode cX0_weighed 95 = .ok (.iload 11, 2) := by decide +kernel
theorem dX0_weighed_97 : decode cX0_weighed 97 = .ok (.isub, 1) := by decide +kernel
theorem dX0_weighed_98 : decode cX0_weighed 98 = .ok (.i2l, 1) := by decide +kernel
theorem dX0_weighed_99 : decode cX0_weighed 99 = .ok (.lmul, 1) := by decide +kernel
theorem dX0_weighed_100 : decode cX0_weighed 100 = .ok (.lstore 4, 2) := by decide +kernel
theorem dX0_weighed_102 : decode cX0_weighed 102 = .ok (.iload 10, 2) := by decide +kernel
theorem dX0_weighed_104 : decode cX0_weighed 104 = .ok (.iconst (-1), 1) := by decide +kernel
theorem dX0_weighed_105 : decode cX0_weighed 105 = .ok (.if_icmp .eq 29, 3) := by decide +kernel
theorem dX0_weighed_108 : decode cX0_weighed 108 = .ok (.iload 8, 2) := by decide +kernel
theorem dX0_weighed_110 : decode cX0_weighed 110 = .ok (.iload_n 1, 1) := by decide +kernel
theorem dX0_weighed_111 : decode cX0_weighed 111 = .ok (.invokestatic 98, 3) := by decide +kernel
theorem dX0_weighed_114 : decode cX0_weighed 114 = .ok (.ifCond .eq 16, 3) := by decide +kernel
theorem dX0_weighed_117 : decode cX0_weighed 117 = .ok (.iload 7, 2) := by decide +kernel
theorem dX0_weighed_119 : decode cX0_weighed 119 = .ok (.aload_n 0, 1) := by decide +kernel
theorem dX0_weighed_120 : decode cX0_weighed 120 = .ok (.getfield 37, 3) := by decide +kernel
theorem dX0_weighed_123 : decode cX0_weighed 123 = .ok (.iload 9, 2) := by decide +kernel
theorem dX0_weighed_125 : decode cX0_weighed 125 = .ok (.iaload, 1) := by decide +kernel
theorem dX0_weighed_126 : decode cX0_weighed 126 = .ok (.isub, 1) := by decide +kernel
theorem dX0_weighed_127 : decode cX0_weighed 127 = .ok (.goto 5, 3) := by decide +kernel
theorem dX0_weighed_130 : decode cX0_weighed 130 = .ok (.iload 10, 2) := by decide +kernel
theorem dX0_weighed_132 : decode cX0_weighed 132 = .ok (.istore 7, 2) := by decide +kernel
theorem dX0_weighed_134 : decode cX0_weighed 134 = .ok (.iinc 8 1, 3) := by decide +kernel
theorem dX0_weighed_137 : decode cX0_weighed 137 = .ok (.goto (-124), 3) := by decide +kernel
theorem dX0_weighed_140 : decode cX0_weighed 140 = .ok (.aload_n 0, 1) := by decide +kernel
theorem dX0_weighed_141 : decode cX0_weighed 141 = .ok (.iload 7, 2) := by decide +kernel
theorem dX0_weighed_143 : decode cX0_weighed 143 = .ok (.iload 6, 2) := by decide +kernel
theorem dX0_weighed_145 : decode cX0_weighed 145 = .ok (.bipush 9, 2) := by decide +kernel
theorem dX0_weighed_147 : decode cX0_weighed 147 = .ok (.invokevirtual 113, 3) := by decide +kernel
theorem dX0_weighed_150 : decode cX0_weighed 150 = .ok (.istore 8, 2) := by decide +kernel
theorem dX0_weighed_152 : decode cX0_weighed 152 = .ok (.iload_n 3, 1) := by decide +kernel
theorem dX0_weighed_153 : decode cX0_weighed 153 = .ok (.iconst (-1), 1) := by decide +kernel
theorem dX0_weighed_154 : decode cX0_weighed 154 = .ok (.if_icmp .ne 10, 3) := by decide +kernel
theorem dX0_weighed_157 : decode cX0_weighed 157 = .ok (.lload 4, 2) := by decide +kernel
theorem dX0_weighed_159 : decode cX0_weighed 159 = .ok (.iload 8, 2) := by decide +kernel
theorem dX0_weighed_161 : decode cX0_weighed 161 = .ok (.i2l, 1) := by decide +kernel
theorem dX0_weighed_162 : decode cX0_weighed 162 = .ok (.lmul, 1) := by decide +kernel
theorem dX0_weighed_163 : decode cX0_weighed 163 = .ok (.lreturn, 1) := by decide +kernel
theorem dX0_weighed_164 : decode cX0_weighed 164 = .ok (.iload 8, 2) := by decide +kernel
theorem dX0_weighed_166 : decode cX0_weighed 166 = .ok (.iload_n 3, 1) := by decide +kernel
theorem dX0_weighed_167 : decode cX0_weighed 167 = .ok (.if_icmp .lt 8, 3) := by decide +kernel
theorem dX0_weighed_170 : decode cX0_weighed 170 = .ok (.lload 4, 2) := by decide +kernel
theorem dX0_weighed_172 : decode cX0_weighed 172 = .ok (.goto 4, 3) := by decide +kernel
theorem dX0_weighed_175 : decode cX0_weighed 175 = .ok (.lconst 0, 1) := by decide +kernel
theorem dX0_weighed_176 : decode cX0_weighed 176 = .ok (.lreturn, 1) := by decide +kernel
theorem dJ6_bitCount_0f7a4_0 : decode cJ6_bitCount_0f7a4 0 = .ok (.iload_n 0, 1) := by decide +kernel
theorem dJ6_bitCount_0f7a4_1 : decode cJ6_bitCount_0f7a4 1 = .ok (.iload_n 0, 1) := by decide +kernel
theorem dJ6_bitCount_0f7a4_2 : decode cJ6_bitCount_0f7a4 2 = .ok (.iconst 1, 1) := by decide +kernel
theorem dJ6_bitCount_0f7a4_3 : decode cJ6_bitCount_0f7a4 3 = .ok (.iushr, 1) := by decide +kernel
theorem dJ6_bitCount_0f7a4_4 : decode cJ6_bitCount_0f7a4 4 = .ok (.ldc_w 265, 3) := by decide +kernel
theorem dJ6_bitCount_0f7a4_7 : decode cJ6_bitCount_0f7a4 7 = .ok (.iand, 1) := by decide +kernel
theorem dJ6_bitCount_0f7a4_8 : decode cJ6_bitCount_0f7a4 8 = .ok (.isub, 1) := by decide +kernel
theorem dJ6_bitCount_0f7a4_9 : decode cJ6_bitCount_0f7a4 9 = .ok (.istore_n 0, 1) := by decide +kernel
theorem dJ6_bitCount_0f7a4_10 : decode cJ6_bitCount_0f7a4 10 = .ok (.iload_n 0, 1) := by decide +kernel
theorem dJ6_bitCount_0f7a4_11 : decode cJ6_bitCount_0f7a4 11 = .ok (.ldc_w 266, 3) := by decide +kernel
theorem dJ6_bitCount_0f7a4_14 : decode cJ6_bitCount_0f7a4 14 = .ok (.iand, 1) := by decide +kernel
theorem dJ6_bitCount_0f7a4_15 : decode cJ6_bitCount_0f7a4 15 = .ok (.iload_n 0, 1) := by decide +kernel
theorem dJ6_bitCount_0f7a4_16 : decode cJ6_bitCount_0f7a4 16 = .ok (.iconst 2, 1) := by decide +kernel
theorem dJ6_bitCount_0f7a4_17 : decode cJ6_bitCount_0f7a4 17 = .ok (.iushr, 1) := by decide +kernel
theorem dJ6_bitCount_0f7a4_18 : decode cJ6_bitCount_0f7a4 18 = .ok (.ldc_w 266, 3) := by decide +kernel
theorem dJ6_bitCount_0f7a4_21 : decode cJ6_bitCount_0f7a4 21 = .ok (.iand, 1) := by decide +kernel
theorem dJ6_bitCount_0f7a4_22 : decode cJ6_bitCount_0f7a4 22 = .ok (.iadd, 1) := by decide +kernel
theorem dJ6_bitCount_0f7a4_23 : decode cJ6_bitCount_0f7a4 23 = .ok (.istore_n 0, 1) := by decide +kernel
theorem dJ6_bitCount_0f7a4_24 : decode cJ6_bitCount_0f7a4 24 = .ok (.iload_n 0, 1) := by decide +kernel
theorem dJ6_bitCount_0f7a4_25 : decode cJ6_bitCount_0f7a4 25 = .ok (.iload_n 0, 1) := by decide +kernel
theorem dJ6_bitCount_0f7a4_26 : decode cJ6_bitCount_0f7a4 26 = .ok (.iconst 4, 1) := by decide +kernel
theorem dJ6_bitCount_0f7a4_27 : decode cJ6_bitCount_0f7a4 27 = .ok (.iushr, 1) := by decide +kernel
theorem dJ6_bitCount_0f7a4_28 : decode cJ6_bitCount_0f7a4 28 = .ok (.iadd, 1) := by decide +kernel
theorem dJ6_bitCount_0f7a4_29 : decode cJ6_bitCount_0f7a4 29 = .ok (.ldc_w 267, 3) := by decide +kernel
theorem dJ6_bitCount_0f7a4_32 : decode cJ6_bitCount_0f7a4 32 = .ok (.iand, 1) := by decide +kernel
theorem dJ6_bitCount_0f7a4_33 : decode cJ6_bitCount_0f7a4 33 = .ok (.istore_n 0, 1) := by decide +kernel
theorem dJ6_bitCount_0f7a4_34 : decode cJ6_bitCount_0f7a4 34 = .ok (.iload_n 0, 1) := by decide +kernel
theorem dJ6_bitCount_0f7a4_35 : decode cJ6_bitCount_0f7a4 35 = .ok (.iload_n 0, 1) := by decide +kernel
theorem dJ6_bitCount_0f7a4_36 : decode cJ6_bitCount_0f7a4 36 = .ok (.bipush 8, 2) := by decide +kernel
theorem dJ6_bitCount_0f7a4_38 : decode cJ6_bitCount_0f7a4 38 = .ok (.iushr, 1) := by decide +kernel
theorem dJ6_bitCount_0f7a4_39 : decode cJ6_bitCount_0f7a4 39 = .ok (.iadd, 1) := by decide +kernel
theorem dJ6_bitCount_0f7a4_40 : decode cJ6_bitCount_0f7a4 40 = .ok (.istore_n 0, 1) := by decide +kernel
theorem dJ6_bitCount_0f7a4_41 : decode cJ6_bitCount_0f7a4 41 = .ok (.iload_n 0, 1) := by decide +kernel
theorem dJ6_bitCount_0f7a4_42 : decode cJ6_bitCount_0f7a4 42 = .ok (.iload_n 0, 1) := by decide +kernel
theorem dJ6_bitCount_0f7a4_43 : decode cJ6_bitCount_0f7a4 43 = .ok (.bipush 16, 2) := by decide +kernel
theorem dJ6_bitCount_0f7a4_45 : decode cJ6_bitCount_0f7a4 45 = .ok (.iushr, 1) := by decide +kernel
theorem dJ6_bitCount_0f7a4_46 : decode cJ6_bitCount_0f7a4 46 = .ok (.iadd, 1) := by decide +kernel
theorem dJ6_bitCount_0f7a4_47 : decode cJ6_bitCount_0f7a4 47 = .ok (.istore_n 0, 1) := by decide +kernel
theorem dJ6_bitCount_0f7a4_48 : decode cJ6_bitCount_0f7a4 48 = .ok (.iload_n 0, 1) := by decide +kernel
theorem dJ6_bitCount_0f7a4_49 : decode cJ6_bitCount_0f7a4 49 = .ok (.bipush 63, 2) := by decide +kernel
theorem dJ6_bitCount_0f7a4_51 : decode cJ6_bitCount_0f7a4 51 = .ok (.iand, 1) := by decide +kernel
theorem dJ6_bitCount_0f7a4_52 : decode cJ6_bitCount_0f7a4 52 = .ok (.ireturn, 1) := by decide +kernel
theorem dJ9_abs_0f7a4_0 : decode cJ9_abs_0f7a4 0 = .ok (.iload_n 0, 1) := by decide +kernel
theorem dJ9_abs_0f7a4_1 : decode cJ9_abs_0f7a4 1 = .ok (.ifCond .ge 8, 3) := by decide +kernel
theorem dJ9_abs_0f7a4_4 : decode cJ9_abs_0f7a4 4 = .ok (.iload_n 0, 1) := by decide +kernel
theorem dJ9_abs_0f7a4_5 : decode cJ9_abs_0f7a4 5 = .ok (.ineg, 1) := by decide +kernel
theorem dJ9_abs_0f7a4_6 : decode cJ9_abs_0f7a4 6 = .ok (.goto 4, 3) := by decide +kernel
theorem dJ9_abs_0f7a4_9 : decode cJ9_abs_0f7a4 9 = .ok (.iload_n 0, 1) := by decide +kernel
theorem dJ9_abs_0f7a4_10 : decode cJ9_abs_0f7a4 10 = .ok (.ireturn, 1) := by decide +kernel
theorem dJ9_max_7cf53_0 : decode cJ9_max_7cf53 0 = .ok (.iload_n 0, 1) := by decide +kernel
theorem dJ9_max_7cf53_1 : decode cJ9_max_7cf53 1 = .ok (.iload_n 1, 1) := by decide +kernel
theorem dJ9_max_7cf53_2 : decode cJ9_max_7cf53 2 = .ok (.if_icmp .lt 7, 3) := by decide +kernel
theorem dJ9_max_7cf53_5 : decode cJ9_max_7cf53 5 = .ok (.iload_n 0, 1) := by decide +kernel
theorem dJ9_max_7cf53_6 : decode cJ9_max_7cf53 6 = .ok (.goto 4, 3) := by decide +kernel
theorem dJ9_max_7cf53_9 : decode cJ9_max_7cf53 9 = .ok (.iload_n 1, 1) := by decide +kernel
theorem dJ9_max_7cf53_10 : decode cJ9_max_7cf53 10 = .ok (.ireturn, 1) := by decide +kernel
theorem dJ9_min_7cf53_0 : decode cJ9_min_7cf53 0 = .ok (.iload_n 0, 1) := by decide +kernel
theorem dJ9_min_7cf53_1 : decode cJ9_min_7cf53 1 = .ok (.iload_n 1, 1) := by decide +kernel
theorem dJ9_min_7cf53_2 : decode cJ9_min_7cf53 2 = .ok (.if_icmp .gt 7, 3) := by decide +kernel
theorem dJ9_min_7cf53_5 : decode cJ9_min_7cf53 5 = .ok (.iload_n 0, 1) := by decide +kernel
theorem dJ9_min_7cf53_6 : decode cJ9_min_7cf53 6 = .ok (.goto 4, 3) := by decide +kernel
theorem dJ9_min_7cf53_9 : decode cJ9_min_7cf53 9 = .ok (.iload_n 1, 1) := by decide +kernel
theorem dJ9_min_7cf53_10 : decode cJ9_min_7cf53 10 = .ok (.ireturn, 1) := by decide +kernel
theorem dJ0_length_8abf5_0 : decode cJ0_length_8abf5 0 = .ok (.aload_n 0, 1) := by decide +kernel
theorem dJ0_length_8abf5_1 : decode cJ0_length_8abf5 1 = .ok (.getfield 9, 3) := by decide +kernel
theorem dJ0_length_8abf5_4 : decode cJ0_length_8abf5 4 = .ok (.arraylength, 1) := by decide +kernel
theorem dJ0_length_8abf5_5 : decode cJ0_length_8abf5 5 = .ok (.aload_n 0, 1) := by decide +kernel
theorem dJ0_length_8abf5_6 : decode cJ0_length_8abf5 6 = .ok (.invokevirtual 335, 3) := by decide +kernel
theorem dJ0_length_8abf5_9 : decode cJ0_length_8abf5 9 = .ok (.ishr, 1) := by decide +kernel
theorem dJ0_length_8abf5_10 : decode cJ0_length_8abf5 10 = .ok (.ireturn, 1) := by decide +kernel
theorem dJ0_charAt_5068e_0 : decode cJ0_charAt_5068e 0 = .ok (.aload_n 0, 1) := by decide +kernel
theorem dJ0_charAt_5068e_1 : decode cJ0_charAt_5068e 1 = .ok (.invokevirtual 492, 3) := by decide +kernel
theorem dJ0_charAt_5068e_4 : decode cJ0_charAt_5068e 4 = .ok (.ifCond .eq 12, 3) := by decide +kernel
theorem dJ0_charAt_5068e_7 : decode cJ0_charAt_5068e 7 = .ok (.aload_n 0, 1) := by decide +kernel
theorem dJ0_charAt_5068e_8 : decode cJ0_charAt_5068e 8 = .ok (.getfield 9, 3) := by decide +kernel
theorem dJ0_charAt_5068e_11 : decode cJ0_charAt_5068e 11 = .ok (.iload_n 1, 1) := by decide +kernel
theorem dJ0_charAt_5068e_12 : decode cJ0_charAt_5068e 12 = .ok (.invokestatic 495, 3) := by decide +kernel
theorem dJ0_charAt_5068e_15 : decode cJ0_charAt_5068e 15 = .ok (.ireturn, 1) := by decide +kernel
theorem dJ0_charAt_5068e_16 : decode cJ0_charAt_5068e 16 = .ok (.aload_n 0, 1) := by decide +kernel
theorem dJ0_charAt_5068e_17 : decode cJ0_charAt_5068e 17 = .ok (.getfield 9, 3) := by decide +kernel
theorem dJ0_charAt_5068e_20 : decode cJ0_charAt_5068e 20 = .ok (.iload_n 1, 1) := by decide +kernel
theorem dJ0_charAt_5068e_21 : decode cJ0_charAt_5068e 21 = .ok (.invokestatic 498, 3) := by decide +kernel
theorem dJ0_charAt_5068e_24 : decode cJ0_charAt_5068e 24 = .ok (.ireturn, 1) := by decide +kernel
theorem dJ0_coder_7d493_0 : decode cJ0_coder_7d493 0 = .ok (.getstatic 38, 3) := by decide +kernel
theorem dJ0_coder_7d493_3 : decode cJ0_coder_7d493 3 = .ok (.ifCond .eq 10, 3) := by decide +kernel
theorem dJ0_coder_7d493_6 : decode cJ0_coder_7d493 6 = .ok (.aload_n 0, 1) := by decide +kernel
theorem dJ0_coder_7d493_7 : decode cJ0_coder_7d493 7 = .ok (.getfield 15, 3) := by decide +kernel
theorem dJ0_coder_7d493_10 : decode cJ0_coder_7d493 10 = .ok (.goto 4, 3) := by decide +kernel
theorem dJ0_coder_7d493_13 : decode cJ0_coder_7d493 13 = .ok (.iconst 1, 1) := by decide +kernel
theorem dJ0_coder_7d493_14 : decode cJ0_coder_7d493 14 = .ok (.ireturn, 1) := by decide +kernel
theorem dJ0_isLatin1_aae02_0 : decode cJ0_isLatin1_aae02 0 = .ok (.getstatic 38, 3) := by decide +kernel
theorem dJ0_isLatin1_aae02_3 : decode cJ0_isLatin1_aae02 3 = .ok (.ifCond .eq 14, 3) := by decide +kernel
theorem dJ0_isLatin1_aae02_6 : decode cJ0_isLatin1_aae02 6 = .ok (.aload_n 0, 1) := by decide +kernel
theorem dJ0_isLatin1_aae02_7 : decode cJ0_isLatin1_aae02 7 = .ok (.getfield 15, 3) := by decide +kernel
theorem dJ0_isLatin1_aae02_10 : decode cJ0_isLatin1_aae02 10 = .ok (.ifCond .ne 7, 3) := by decide +kernel
theorem dJ0_isLatin1_aae02_13 : decode cJ0_isLatin1_aae02 13 = .ok (.iconst 1, 1) := by decide +kernel
theorem dJ0_isLatin1_aae02_14 : decode cJ0_isLatin1_aae02 14 = .ok (.goto 4, 3) := by decide +kernel
theorem dJ0_isLatin1_aae02_17 : decode cJ0_isLatin1_aae02 17 = .ok (.iconst 0, 1) := by decide +kernel
theorem dJ0_isLatin1_aae02_18 : decode cJ0_isLatin1_aae02 18 = .ok (.ireturn, 1) := by decide +kernel
theorem dJ0_checkIndex_df160_0 : decode cJ0_checkIndex_df160 0 = .ok (.iload_n 0, 1) := by decide +kernel
theorem dJ0_checkIndex_df160_1 : decode cJ0_checkIndex_df160 1 = .ok (.iload_n 1, 1) := by decide +kernel
theorem dJ0_checkIndex_df160_2 : decode cJ0_checkIndex_df160 2 = .ok (.getstatic 1053, 3) := by decide +kernel
theorem dJ0_checkIndex_df160_5 : decode cJ0_checkIndex_df160 5 = .ok (.invokestatic 1059, 3) := by decide +kernel
theorem dJ0_checkIndex_df160_8 : decode cJ0_checkIndex_df160 8 = .ok (.pop, 1) := by decide +kernel
theorem dJ0_checkIndex_df160_9 : decode cJ0_checkIndex_df160 9 = .ok (.return_, 1) := by decide +kernel
theorem dJ1_charAt_3b067_0 : decode cJ1_charAt_3b067 0 = .ok (.iload_n 1, 1) := by decide +kernel
theorem dJ1_charAt_3b067_1 : decode cJ1_charAt_3b067 1 = .ok (.aload_n 0, 1) := by decide +kernel
theorem dJ1_charAt_3b067_2 : decode cJ1_charAt_3b067 2 = .ok (.arraylength, 1) := by decide +kernel
theorem dJ1_charAt_3b067_3 : decode cJ1_charAt_3b067 3 = .ok (.invokestatic 9, 3) := by decide +kernel
theorem dJ1_charAt_3b067_6 : decode cJ1_charAt_3b067 6 = .ok (.aload_n 0, 1) := by decide +kernel
theorem dJ1_charAt_3b067_7 : decode cJ1_charAt_3b067 7 = .ok (.iload_n 1, 1) := by decide +kernel
theorem dJ1_charAt_3b067_8 : decode cJ1_charAt_3b067 8 = .ok (.baload, 1) := by decide +kernel
theorem dJ1_charAt_3b067_9 : decode cJ1_charAt_3b067 9 = .ok (.sipush 255, 3) := by decide +kernel
theorem dJ1_charAt_3b067_12 : decode cJ1_charAt_3b067 12 = .ok (.iand, 1) := by decide +kernel
theorem dJ1_charAt_3b067_13 : decode cJ1_charAt_3b067 13 = .ok (.i2c, 1) := by decide +kernel
theorem dJ1_charAt_3b067_14 : decode cJ1_charAt_3b067 14 = .ok (.ireturn, 1) := by decide +kernel
theorem dJ3_checkIndex_8e157_0 : decode cJ3_checkIndex_8e157 0 = .ok (.iload_n 0, 1) := by decide +kernel
theorem dJ3_checkIndex_8e157_1 : decode cJ3_checkIndex_8e157 1 = .ok (.ifCond .lt 8, 3) := by decide +kernel
theorem dJ3_checkIndex_8e157_4 : decode cJ3_checkIndex_8e157 4 = .ok (.iload_n 0, 1) := by decide +kernel
theorem dJ3_checkIndex_8e157_5 : decode cJ3_checkIndex_8e157 5 = .ok (.iload_n 1, 1) := by decide +kernel
theorem dJ3_checkIndex_8e157_6 : decode cJ3_checkIndex_8e157 6 = .ok (.if_icmp .lt 10, 3) := by decide +kernel
theorem dJ3_checkIndex_8e157_9 : decode cJ3_checkIndex_8e157 9 = .ok (.aload_n 2, 1) := by decide +kernel
theorem dJ3_checkIndex_8e157_10 : decode cJ3_checkIndex_8e157 10 = .ok (.iload_n 0, 1) := by decide +kernel
theorem dJ3_checkIndex_8e157_11 : decode cJ3_checkIndex_8e157 11 = .ok (.iload_n 1, 1) := by decide +kernel
theorem dJ3_checkIndex_8e157_12 : decode cJ3_checkIndex_8e157 12 = .ok (.invokestatic 95, 3) := by decide +kernel
theorem dJ3_checkIndex_8e157_15 : decode cJ3_checkIndex_8e157 15 = .ok (.athrow, 1) := by decide +kernel
theorem dJ3_checkIndex_8e157_16 : decode cJ3_checkIndex_8e157 16 = .ok (.iload_n 0, 1) := by decide +kernel
theorem dJ3_checkIndex_8e157_17 : decode cJ3_checkIndex_8e157 17 = .ok (.ireturn, 1) := by decide +kernel
