theorem dX6_init_0 : decode cX6_init 0 = .ok (.aload_n 0, 1) := by decide +kernel
theorem dX6_init_1 : decode cX6_init 1 = .ok (.invokespecial 1, 3) := by decide +kernel
theorem dX6_init_4 : decode cX6_init 4 = .ok (.aload_n 0, 1) := by decide +kernel
theorem dX6_init_5 : decode cX6_init 5 = .ok (.bipush 70, 2) := by decide +kernel
theorem dX6_init_7 : decode cX6_init 7 = .ok (.newarray .int, 2) := by decide +kernel
theorem dX6_init_9 : decode cX6_init 9 = .ok (.putfield 7, 3) := by decide +kernel
theorem dX6_init_12 : decode cX6_init 12 = .ok (.aload_n 0, 1) := by decide +kernel
theorem dX6_init_13 : decode cX6_init 13 = .ok (.bipush 70, 2) := by decide +kernel
theorem dX6_init_15 : decode cX6_init 15 = .ok (.newarray .int, 2) := by decide +kernel
theorem dX6_init_17 : decode cX6_init 17 = .ok (.putfield 13, 3) := by decide +kernel
theorem dX6_init_20 : decode cX6_init 20 = .ok (.aload_n 0, 1) := by decide +kernel
theorem dX6_init_21 : decode cX6_init 21 = .ok (.bipush 70, 2) := by decide +kernel
theorem dX6_init_23 : decode cX6_init 23 = .ok (.newarray .int, 2) := by decide +kernel
theorem dX6_init_25 : decode cX6_init 25 = .ok (.putfield 16, 3) := by decide +kernel
theorem dX6_init_28 : decode cX6_init 28 = .ok (.aload_n 0, 1) := by decide +kernel
theorem dX6_init_29 : decode cX6_init 29 = .ok (.bipush 7, 2) := by decide +kernel
theorem dX6_init_31 : decode cX6_init 31 = .ok (.newarray .int, 2) := by decide +kernel
theorem dX6_init_33 : decode cX6_init 33 = .ok (.putfield 19, 3) := by decide +kernel
theorem dX6_init_36 : decode cX6_init 36 = .ok (.aload_n 0, 1) := by decide +kernel
theorem dX6_init_37 : decode cX6_init 37 = .ok (.bipush 8, 2) := by decide +kernel
theorem dX6_init_39 : decode cX6_init 39 = .ok (.newarray .int, 2) := by decide +kernel
theorem dX6_init_41 : decode cX6_init 41 = .ok (.putfield 22, 3) := by decide +kernel
theorem dX6_init_44 : decode cX6_init 44 = .ok (.aload_n 0, 1) := by decide +kernel
theorem dX6_init_45 : decode cX6_init 45 = .ok (.bipush 8, 2) := by decide +kernel
theorem dX6_init_47 : decode cX6_init 47 = .ok (.newarray .int, 2) := by decide +kernel
theorem dX6_init_49 : decode cX6_init 49 = .ok (.putfield 25, 3) := by decide +kernel
theorem dX6_init_52 : decode cX6_init 52 = .ok (.aload_n 0, 1) := by decide +kernel
theorem dX6_init_53 : decode cX6_init 53 = .ok (.bipush 64, 2) := by decide +kernel
theorem dX6_init_55 : decode cX6_init 55 = .ok (.newarray .int, 2) := by decide +kernel
theorem dX6_init_57 : decode cX6_init 57 = .ok (.putfield 28, 3) := by decide +kernel
theorem dX6_init_60 : decode cX6_init 60 = .ok (.aload_n 0, 1) := by decide +kernel
theorem dX6_init_61 : decode cX6_init 61 = .ok (.sipush 2048, 3) := by decide +kernel
theorem dX6_init_64 : decode cX6_init 64 = .ok (.newarray .int, 2) := by decide +kernel
theorem dX6_init_66 : decode cX6_init 66 = .ok (.putfield 31, 3) := by decide +kernel
theorem dX6_init_69 : decode cX6_init 69 = .ok (.aload_n 0, 1) := by decide +kernel
theorem dX6_init_70 : decode cX6_init 70 = .ok (.bipush 40, 2) := by decide +kernel
theorem dX6_init_72 : decode cX6_init 72 = .ok (.newarray .int, 2) := by decide +kernel
theorem dX6_init_74 : decode cX6_init 74 = .ok (.putfield 34, 3) := by decide +kernel
theorem dX6_init_77 : decode cX6_init 77 = .ok (.aload_n 0, 1) := by decide +kernel
theorem dX6_init_78 : decode cX6_init 78 = .ok (.bipush 8, 2) := by decide +kernel
theorem dX6_init_80 : decode cX6_init 80 = .ok (.newarray .int, 2) := by decide +kernel
theorem dX6_init_82 : decode cX6_init 82 = .ok (.putfield 37, 3) := by decide +kernel
theorem dX6_init_85 : decode cX6_init 85 = .ok (.aload_n 0, 1) := by decide +kernel
theorem dX6_init_86 : decode cX6_init 86 = .ok (.bipush 120, 2) := by decide +kernel
theorem dX6_init_88 : decode cX6_init 88 = .ok (.newarray .int, 2) := by decide +kernel
theorem dX6_init_90 : decode cX6_init 90 = .ok (.putfield 40, 3) := by decide +kernel
theorem dX6_init_93 : decode cX6_init 93 = .ok (.aload_n 0, 1) := by decide +kernel
theorem dX6_init_94 : decode cX6_init 94 = .ok (.iconst 4, 1) := by decide +kernel
theorem dX6_init_95 : decode cX6_init 95 = .ok (.newarray .int, 2) := by decide +kernel
theorem dX6_init_97 : decode cX6_init 97 = .ok (.putfield 43, 3) := by decide +kernel
theorem dX6_init_100 : decode cX6_init 100 = .ok (.aload_n 0, 1) := by decide +kernel
theorem dX6_init_101 : decode cX6_init 101 = .ok (.iconst 4, 1) := by decide +kernel
theorem dX6_init_102 : decode cX6_init 102 = .ok (.newarray .int, 2) := by decide +kernel
theorem dX6_init_104 : decode cX6_init 104 = .ok (.putfield 46, 3) := by decide +kernel
theorem dX6_init_107 : decode cX6_init 107 = .ok (.aload_n 0, 1) := by decide +kernel
theorem dX6_init_108 : decode cX6_init 108 = .ok (.sipush 160, 3) := by decide +kernel
theorem dX6_init_111 : decode cX6_init 111 = .ok (.newarray .int, 2) := by decide +kernel
theorem dX6_init_113 : decode cX6_init 113 = .ok (.putfield 49, 3) := by decide +kernel
theorem dX6_init_116 : decode cX6_init 116 = .ok (.aload_n 0, 1) := by decide +kernel
theorem dX6_init_117 : decode cX6_init 117 = .ok (.bipush 40, 2) := by decide +kernel
theorem dX6_init_119 : decode cX6_init 119 = .ok (.newarray .int, 2) := by decide +kernel
theorem dX6_init_121 : decode cX6_init 121 = .ok (.putfield 52, 3) := by decide +kernel
theorem dX6_init_124 : decode cX6_init 124 = .ok (.aload_n 0, 1) := by decide +kernel
theorem dX6_init_125 : decode cX6_init 125 = .ok (.getfield 7, 3) := by decide +kernel
theorem dX6_init_128 : decode cX6_init 128 = .ok (.iconst 1, 1) := by decide +kernel
theorem dX6_init_129 : decode cX6_init 129 = .ok (.iconst 1, 1) := by decide +kernel
theorem dX6_init_130 : decode cX6_init 130 = .ok (.iastore, 1) := by decide +kernel
theorem dX6_init_131 : decode cX6_init 131 = .ok (.aload_n 0, 1) := by decide +kernel
theorem dX6_init_132 : decode cX6_init 132 = .ok (.getfield 7, 3) := by decide +kernel
theorem dX6_init_135 : decode cX6_init 135 = .ok (.iconst 2, 1) := by decide +kernel
theorem dX6_init_136 : decode cX6_init 136 = .ok (.bipush 40, 2) := by decide +kernel
theorem dX6_init_138 : decode cX6_init 138 = .ok (.iastore, 1) := by decide +kernel
theorem dX6_init_139 : decode cX6_init 139 = .ok (.aload_n 0, 1) := by decide +kernel
theorem dX6_init_140 : decode cX6_init 140 = .ok (.getfield 7, 3) := by decide +kernel
theorem dX6_init_143 : decode cX6_init 143 = .ok (.iconst 3, 1) := by decide +kernel
theorem dX6_init_144 : decode cX6_init 144 = .ok (.iconst 5, 1) := by decide +kernel
theorem dX6_init_145 : decode cX6_init 145 = .ok (.iastore, 1) := by decide +kernel
theorem dX6_init_146 : decode cX6_init 146 = .ok (.iconst 0, 1) := by decide +kernel
theorem dX6_init_147 : decode cX6_init 147 = .ok (.istore_n 1, 1) := by decide +kernel
theorem dX6_init_148 : decode cX6_init 148 = .ok (.iload_n 1, 1) := by decide +kernel
theorem dX6_init_149 : decode cX6_init 149 = .ok (.bipush 10, 2) := by decide +kernel
theorem dX6_init_151 : decode cX6_init 151 = .ok (.if_icmp .ge 19, 3) := by decide +kernel
theorem dX6_init_154 : decode cX6_init 154 = .ok (.aload_n 0, 1) := by decide +kernel
theorem dX6_init_155 : decode cX6_init 155 = .ok (.getfield 7, 3) := by decide +kernel
theorem dX6_init_158 : decode cX6_init 158 = .ok (.bipush 60, 2) := by decide +kernel
theorem dX6_init_160 : decode cX6_init 160 = .ok (.iload_n 1, 1) := by decide +kernel
theorem dX6_init_161 : decode cX6_init 161 = .ok (.iadd, 1) := by decide +kernel
theorem dX6_init_162 : decode cX6_init 162 = .ok (.iconst (-1), 1) := by decide +kernel
theorem dX6_init_163 : decode cX6_init 163 = .ok (.iastore, 1) := by decide +kernel
theorem dX6_init_164 : decode cX6_init 164 = .ok (.iinc 1 1, 3) := by decide +kernel
theorem dX6_init_167 : decode cX6_init 167 = .ok (.goto (-19), 3) := by decide +kernel
theorem dX6_init_170 : decode cX6_init 170 = .ok (.return_, 1) := by decide +kernel
theorem dX6_in_0 : decode cX6_in 0 = .ok (.lload_n 0, 1) := by decide +kernel
theorem dX6_in_1 : decode cX6_in 1 = .ok (.lload_n 2, 1) := by decide +kernel
theorem dX6_in_2 : decode cX6_in 2 = .ok (.lcmp, 1) := by decide +kernel
theorem dX6_in_3 : decode cX6_in 3 = .ok (.ifCond .lt 14, 3) := by decide +kernel
theorem dX6_in_6 : decode cX6_in 6 = .ok (.lload_n 0, 1) := by decide +kernel
theorem dX6_in_7 : decode cX6_in 7 = .ok (.lload 4, 2) := by decide +kernel
theorem dX6_in_9 : decode cX6_in 9 = .ok (.lcmp, 1) := by decide +kernel
theorem dX6_in_10 : decode cX6_in 10 = .ok (.ifCond .gt 7, 3) := by decide +kernel
theorem dX6_in_13 : decode cX6_in 13 = .ok (.iconst 1, 1) := by decide +kernel
theorem dX6_in_14 : decode cX6_in 14 = .ok (.goto 4, 3) := by decide +kernel
theorem dX6_in_17 : decode cX6_in 17 = .ok (.iconst 0, 1) := by decide +kernel
theorem dX6_in_18 : decode cX6_in 18 = .ok (.ireturn, 1) := by decide +kernel
theorem dX6_finds_0 : decode cX6_finds 0 = .ok (.aload_n 0, 1) := by decide +kernel
theorem dX6_finds_1 : decode cX6_finds 1 = .ok (.getfield 19, 3) := by decide +kernel
theorem dX6_finds_4 : decode cX6_finds 4 = .ok (.ldc 55, 2) := by decide +kernel
theorem dX6_finds_6 : decode cX6_finds 6 = .ok (.iload_n 1, 1) := by decide +kernel
theorem dX6_finds_7 : decode cX6_finds 7 = .ok (.isub, 1) := by decide +kernel
theorem dX6_finds_8 : decode cX6_finds 8 = .ok (.dup2, 1) := by decide +kernel
theorem dX6_finds_9 : decode cX6_finds 9 = .ok (.iaload, 1) := by decide +kernel
theorem dX6_finds_10 : decode cX6_finds 10 = .ok (.iconst 1, 1) := by decide +kernel
theorem dX6_finds_11 : decode cX6_finds 11 = .ok (.iadd, 1) := by decide +kernel
theorem dX6_finds_12 : decode cX6_finds 12 = .ok (.iastore, 1) := by decide +kernel
theorem dX6_finds_13 : decode cX6_finds 13 = .ok (.iload_n 1, 1) := by decide +kernel
theorem dX6_finds_14 : decode cX6_finds 14 = .ok (.ireturn, 1) := by decide +kernel
theorem dX6_isMile_0 : decode cX6_isMile 0 = .ok (.iload_n 0, 1) := by decide +kernel
theorem dX6_isMile_1 : decode cX6_isMile 1 = .ok (.i2l, 1) := by decide +kernel
theorem dX6_isMile_2 : decode cX6_isMile 2 = .ok (.lconst 0, 1) := by decide +kernel
theorem dX6_isMile_3 : decode cX6_isMile 3 = .ok (.ldc2_w 56, 3) := by decide +kernel
theorem dX6_isMile_6 : decode cX6_isMile 6 = .ok (.invokestatic 58, 3) := by decide +kernel
theorem dX6_isMile_9 : decode cX6_isMile 9 = .ok (.ireturn, 1) := by decide +kernel
theorem dX6_isPump_0 : decode cX6_isPump 0 = .ok (.iload_n 1, 1) := by decide +kernel
theorem dX6_isPump_1 : decode cX6_isPump 1 = .ok (.i2l, 1) := by decide +kernel
theorem dX6_isPump_2 : decode cX6_isPump 2 = .ok (.lconst 0, 1) := by decide +kernel
theorem dX6_isPump_3 : decode cX6_isPump 3 = .ok (.aload_n 0, 1) := by decide +kernel
theorem dX6_isPump_4 : decode cX6_isPump 4 = .ok (.getfield 7, 3) := by decide +kernel
theorem dX6_isPump_7 : decode cX6_isPump 7 = .ok (.iconst 0, 1) := by decide +kernel
theorem dX6_isPump_8 : decode cX6_isPump 8 = .ok (.iaload, 1) := by decide +kernel
theorem dX6_isPump_9 : decode cX6_isPump 9 = .ok (.iconst 1, 1) := by decide +kernel
theorem dX6_isPump_10 : decode cX6_isPump 10 = .ok (.isub, 1) := by decide +kernel
theorem dX6_isPump_11 : decode cX6_isPump 11 = .ok (.i2l, 1) := by decide +kernel
theorem dX6_isPump_12 : decode cX6_isPump 12 = .ok (.invokestatic 58, 3) := by decide +kernel
theorem dX6_isPump_15 : decode cX6_isPump 15 = .ok (.ireturn, 1) := by decide +kernel
theorem dX6_isWater_0 : decode cX6_isWater 0 = .ok (.iload_n 1, 1) := by decide +kernel
theorem dX6_isWater_1 : decode cX6_isWater 1 = .ok (.i2l, 1) := by decide +kernel
theorem dX6_isWater_2 : decode cX6_isWater 2 = .ok (.lconst 0, 1) := by decide +kernel
theorem dX6_isWater_3 : decode cX6_isWater 3 = .ok (.aload_n 0, 1) := by decide +kernel
theorem dX6_isWater_4 : decode cX6_isWater 4 = .ok (.getfield 7, 3) := by decide +kernel
theorem dX6_isWater_7 : decode cX6_isWater 7 = .ok (.iconst 2, 1) := by decide +kernel
theorem dX6_isWater_8 : decode cX6_isWater 8 = .ok (.iaload, 1) := by decide +kernel
theorem dX6_isWater_9 : decode cX6_isWater 9 = .ok (.i2l, 1) := by decide +kernel
theorem dX6_isWater_10 : decode cX6_isWater 10 = .ok (.invokestatic 58, 3) := by decide +kernel
theorem dX6_isWater_13 : decode cX6_isWater 13 = .ok (.ireturn, 1) := by decide +kernel
theorem dX6_has_0 : decode cX6_has 0 = .ok (.iload_n 0, 1) := by decide +kernel
theorem dX6_has_1 : decode cX6_has 1 = .ok (.iload_n 1, 1) := by decide +kernel
theorem dX6_has_2 : decode cX6_has 2 = .ok (.ishr, 1) := by decide +kernel
theorem dX6_has_3 : decode cX6_has 3 = .ok (.iconst 1, 1) := by decide +kernel
theorem dX6_has_4 : decode cX6_has 4 = .ok (.iand, 1) := by decide +kernel
theorem dX6_has_5 : decode cX6_has 5 = .ok (.iconst 1, 1) := by decide +kernel
theorem dX6_has_6 : decode cX6_has 6 = .ok (.if_icmp .ne 7, 3) := by decide +kernel
theorem dX6_has_9 : decode cX6_has 9 = .ok (.iconst 1, 1) := by decide +kernel
theorem dX6_has_10 : decode cX6_has 10 = .ok (.goto 4, 3) := by decide +kernel
theorem dX6_has_13 : decode cX6_has 13 = .ok (.iconst 0, 1) := by decide +kernel
theorem dX6_has_14 : decode cX6_has 14 = .ok (.ireturn, 1) := by decide +kernel
theorem dX6_ones_0 : decode cX6_ones 0 = .ok (.iconst 0, 1) := by decide +kernel
theorem dX6_ones_1 : decode cX6_ones 1 = .ok (.istore_n 1, 1) := by decide +kernel
theorem dX6_ones_2 : decode cX6_ones 2 = .ok (.iload_n 0, 1) := by decide +kernel
theorem dX6_ones_3 : decode cX6_ones 3 = .ok (.istore_n 2, 1) := by decide +kernel
theorem dX6_ones_4 : decode cX6_ones 4 = .ok (.iload_n 2, 1) := by decide +kernel
theorem dX6_ones_5 : decode cX6_ones 5 = .ok (.ifCond .eq 15, 3) := by decide +kernel
theorem dX6_ones_8 : decode cX6_ones 8 = .ok (.iinc 1 1, 3) := by decide +kernel
theorem dX6_ones_11 : decode cX6_ones 11 = .ok (.iload_n 2, 1) := by decide +kernel
theorem dX6_ones_12 : decode cX6_ones 12 = .ok (.iload_n 2, 1) := by decide +kernel
theorem dX6_ones_13 : decode cX6_ones 13 = .ok (.iconst 1, 1) := by decide +kernel
theorem dX6_ones_14 : decode cX6_ones 14 = .ok (.isub, 1) := by decide +kernel
theorem dX6_ones_15 : decode cX6_ones 15 = .ok (.iand, 1) := by decide +kernel
theorem dX6_ones_16 : decode cX6_ones 16 = .ok (.istore_n 2, 1) := by decide +kernel
theorem dX6_ones_17 : decode cX6_ones 17 = .ok (.goto (-13), 3) := by decide +kernel
theorem dX6_ones_20 : decode cX6_ones 20 = .ok (.iload_n 1, 1) := by decide +kernel
theorem dX6_ones_21 : decode cX6_ones 21 = .ok (.ireturn, 1) := by decide +kernel
theorem dX6_draw_0 : decode cX6_draw 0 = .ok (.aload_n 0, 1) := by decide +kernel
theorem dX6_draw_1 : decode cX6_draw 1 = .ok (.getfield 7, 3) := by decide +kernel
theorem dX6_draw_4 : decode cX6_draw 4 = .ok (.iconst 1, 1) := by decide +kernel
theorem dX6_draw_5 : decode cX6_draw 5 = .ok (.aload_n 0, 1) := by decide +kernel
theorem dX6_draw_6 : decode cX6_draw 6 = .ok (.getfield 7, 3) := by decide +kernel
theorem dX6_draw_9 : decode cX6_draw 9 = .ok (.iconst 1, 1) := by decide +kernel
theorem dX6_draw_10 : decode cX6_draw 10 = .ok (.iaload, 1) := by decide +kernel
theorem dX6_draw_11 : decode cX6_draw 11 = .ok (.ldc 62, 2) := by decide +kernel
theorem dX6_draw_13 : decode cX6_draw 13 = .ok (.imul, 1) := by decide +kernel
theorem dX6_draw_14 : decode cX6_draw 14 = .ok (.sipush 12345, 3) := by decide +kernel
theorem dX6_draw_17 : decode cX6_draw 17 = .ok (.iadd, 1) := by decide +kernel
theorem dX6_draw_18 : decode cX6_draw 18 = .ok (.iastore, 1) := by decide +kernel
theorem dX6_draw_19 : decode cX6_draw 19 = .ok (.aload_n 0, 1) := by decide +kernel
theorem dX6_draw_20 : decode cX6_draw 20 = .ok (.getfield 7, 3) := by decide +kernel
theorem dX6_draw_23 : decode cX6_draw 23 = .ok (.iconst 1, 1) := by decide +kernel
theorem dX6_draw_24 : decode cX6_draw 24 = .ok (.iaload, 1) := by decide +kernel
theorem dX6_draw_25 : decode cX6_draw 25 = .ok (.bipush 8, 2) := by decide +kernel
theorem dX6_draw_27 : decode cX6_draw 27 = .ok (.iushr, 1) := by decide +kernel
theorem dX6_draw_28 : decode cX6_draw 28 = .ok (.ireturn, 1) := by decide +kernel
theorem dX6_puts_0 : decode cX6_puts 0 = .ok (.iconst 0, 1) := by decide +kernel
theorem dX6_puts_1 : decode cX6_puts 1 = .ok (.istore_n 1, 1) := by decide +kernel
theorem dX6_puts_2 : decode cX6_puts 2 = .ok (.iload_n 1, 1) := by decide +kernel
theorem dX6_puts_3 : decode cX6_puts 3 = .ok (.bipush 70, 2) := by decide +kernel
theorem dX6_puts_5 : decode cX6_puts 5 = .ok (.if_icmp .ge 21, 3) := by decide +kernel
theorem dX6_puts_8 : decode cX6_puts 8 = .ok (.aload_n 0, 1) := by decide +kernel
theorem dX6_puts_9 : decode cX6_puts 9 = .ok (.getfield 16, 3) := by decide +kernel
theorem dX6_puts_12 : decode cX6_puts 12 = .ok (.iload_n 1, 1) := by decide +kernel
theorem dX6_puts_13 : decode cX6_puts 13 = .ok (.aload_n 0, 1) := by decide +kernel
theorem dX6_puts_14 : decode cX6_puts 14 = .ok (.getfield 7, 3) := by decide +kernel
theorem dX6_puts_17 : decode cX6_puts 17 = .ok (.iload_n 1, 1) := by decide +kernel
theorem dX6_puts_18 : decode cX6_puts 18 = .ok (.iaload, 1) := by decide +kernel
theorem dX6_puts_19 : decode cX6_puts 19 = .ok (.iastore, 1) := by decide +kernel
theorem dX6_puts_20 : decode cX6_puts 20 = .ok (.iinc 1 1, 3) := by decide +kernel
theorem dX6_puts_23 : decode cX6_puts 23 = .ok (.goto (-21), 3) := by decide +kernel
theorem dX6_puts_26 : decode cX6_puts 26 = .ok (.return_, 1) := by decide +kernel
theorem dX6_putsBack_0 : decode cX6_putsBack 0 = .ok (.iconst 0, 1) := by decide +kernel
theorem dX6_putsBack_1 : decode cX6_putsBack 1 = .ok (.istore_n 1, 1) := by decide +kernel
theorem dX6_putsBack_2 : decode cX6_putsBack 2 = .ok (.iload_n 1, 1) := by decide +kernel
theorem dX6_putsBack_3 : decode cX6_putsBack 3 = .ok (.bipush 70, 2) := by decide +kernel
theorem dX6_putsBack_5 : decode cX6_putsBack 5 = .ok (.if_icmp .ge 21, 3) := by decide +kernel
theorem dX6_putsBack_8 : decode cX6_putsBack 8 = .ok (.aload_n 0, 1) := by decide +kernel
theorem dX6_putsBack_9 : decode cX6_putsBack 9 = .ok (.getfield 7, 3) := by decide +kernel
theorem dX6_putsBack_12 : decode cX6_putsBack 12 = .ok (.iload_n 1, 1) := by decide +kernel
theorem dX6_putsBack_13 : decode cX6_putsBack 13 = .ok (.aload_n 0, 1) := by decide +kernel
theorem dX6_putsBack_14 : decode cX6_putsBack 14 = .ok (.getfield 16, 3) := by decide +kernel
theorem dX6_putsBack_17 : decode cX6_putsBack 17 = .ok (.iload_n 1, 1) := by decide +kernel
theorem dX6_putsBack_18 : decode cX6_putsBack 18 = .ok (.iaload, 1) := by decide +kernel
theorem dX6_putsBack_19 : decode cX6_putsBack 19 = .ok (.iastore, 1) := by decide +kernel
theorem dX6_putsBack_20 : decode cX6_putsBack 20 = .ok (.iinc 1 1, 3) := by decide +kernel
theorem dX6_putsBack_23 : decode cX6_putsBack 23 = .ok (.goto (-21), 3) := by decide +kernel
theorem dX6_putsBack_26 : decode cX6_putsBack 26 = .ok (.return_, 1) := by decide +kernel
theorem dX6_at_0 : decode cX6_at 0 = .ok (.bipush 12, 2) := by decide +kernel
theorem dX6_at_2 : decode cX6_at 2 = .ok (.bipush 6, 2) := by decide +kernel
theorem dX6_at_4 : decode cX6_at 4 = .ok (.iload_n 0, 1) := by decide +kernel
theorem dX6_at_5 : decode cX6_at 5 = .ok (.imul, 1) := by decide +kernel
theorem dX6_at_6 : decode cX6_at 6 = .ok (.iadd, 1) := by decide +kernel
theorem dX6_at_7 : decode cX6_at 7 = .ok (.iload_n 1, 1) := by decide +kernel
theorem dX6_at_8 : decode cX6_at 8 = .ok (.iadd, 1) := by decide +kernel
theorem dX6_at_9 : decode cX6_at 9 = .ok (.ireturn, 1) := by decide +kernel
theorem dX6_its_0 : decode cX6_its 0 = .ok (.aload_n 0, 1) := by decide +kernel
theorem dX6_its_1 : decode cX6_its 1 = .ok (.getfield 7, 3) := by decide +kernel
theorem dX6_its_4 : decode cX6_its 4 = .ok (.iload_n 1, 1) := by decide +kernel
theorem dX6_its_5 : decode cX6_its 5 = .ok (.iload_n 2, 1) := by decide +kernel
theorem dX6_its_6 : decode cX6_its 6 = .ok (.invokestatic 63, 3) := by decide +kernel
theorem dX6_its_9 : decode cX6_its 9 = .ok (.iaload, 1) := by decide +kernel
theorem dX6_its_10 : decode cX6_its 10 = .ok (.ireturn, 1) := by decide +kernel
theorem dX6_isPart_0 : decode cX6_isPart 0 = .ok (.iload_n 0, 1) := by decide +kernel
theorem dX6_isPart_1 : decode cX6_isPart 1 = .ok (.tableswitch 52 0 2 #[27, 37, 42], 27) := by decide +kernel
theorem dX6_isPart_28 : decode cX6_isPart 28 = .ok (.iload_n 1, 1) := by decide +kernel
theorem dX6_isPart_29 : decode cX6_isPart 29 = .ok (.i2l, 1) := by decide +kernel
theorem dX6_isPart_30 : decode cX6_isPart 30 = .ok (.lconst 0, 1) := by decide +kernel
theorem dX6_isPart_31 : decode cX6_isPart 31 = .ok (.ldc2_w 67, 3) := by decide +kernel
theorem dX6_isPart_34 : decode cX6_isPart 34 = .ok (.invokestatic 58, 3) := by decide +kernel
theorem dX6_isPart_37 : decode cX6_isPart 37 = .ok (.ireturn, 1) := by decide +kernel
theorem dX6_isPart_38 : decode cX6_isPart 38 = .ok (.iload_n 1, 1) := by decide +kernel
theorem dX6_isPart_39 : decode cX6_isPart 39 = .ok (.invokestatic 69, 3) := by decide +kernel
theorem dX6_isPart_42 : decode cX6_isPart 42 = .ok (.ireturn, 1) := by decide +kernel
theorem dX6_isPart_43 : decode cX6_isPart 43 = .ok (.iload_n 1, 1) := by decide +kernel
theorem dX6_isPart_44 : decode cX6_isPart 44 = .ok (.i2l, 1) := by decide +kernel
theorem dX6_isPart_45 : decode cX6_isPart 45 = .ok (.lconst 1, 1) := by decide +kernel
theorem dX6_isPart_46 : decode cX6_isPart 46 = .ok (.ldc2_w 73, 3) := by decide +kernel
theorem dX6_isPart_49 : decode cX6_isPart 49 = .ok (.invokestatic 58, 3) := by decide +kernel
theorem dX6_isPart_52 : decode cX6_isPart 52 = .ok (.ireturn, 1) := by decide +kernel
theorem dX6_isPart_53 : decode cX6_isPart 53 = .ok (.iload_n 0, 1) := by decide +kernel
theorem dX6_isPart_54 : decode cX6_isPart 54 = .ok (.iconst 3, 1) := by decide +kernel
theorem dX6_isPart_55 : decode cX6_isPart 55 = .ok (.if_icmp .ne 19, 3) := by decide +kernel
theorem dX6_isPart_58 : decode cX6_isPart 58 = .ok (.iload_n 1, 1) := by decide +kernel
theorem dX6_isPart_59 : decode cX6_isPart 59 = .ok (.i2l, 1) := by decide +kernel
theorem dX6_isPart_60 : decode cX6_isPart 60 = .ok (.lconst 0, 1) := by decide +kernel
theorem dX6_isPart_61 : decode cX6_isPart 61 = .ok (.ldc2_w 75, 3) := by decide +kernel
theorem dX6_isPart_64 : decode cX6_isPart 64 = .ok (.invokestatic 58, 3) := by decide +kernel
theorem dX6_isPart_67 : decode cX6_isPart 67 = .ok (.ifCond .eq 7, 3) := by decide +kernel
theorem dX6_isPart_70 : decode cX6_isPart 70 = .ok (.iconst 1, 1) := by decide +kernel
theorem dX6_isPart_71 : decode cX6_isPart 71 = .ok (.goto 4, 3) := by decide +kernel
theorem dX6_isPart_74 : decode cX6_isPart 74 = .ok (.iconst 0, 1) := by decide +kernel
theorem dX6_isPart_75 : decode cX6_isPart 75 = .ok (.ireturn, 1) := by decide +kernel
theorem dX6_newPump_0 : decode cX6_newPump 0 = .ok (.aload_n 0, 1) := by decide +kernel
theorem dX6_newPump_1 : decode cX6_newPump 1 = .ok (.getfield 7, 3) := by decide +kernel
theorem dX6_newPump_4 : decode cX6_newPump 4 = .ok (.iconst 0, 1) := by decide +kernel
theorem dX6_newPump_5 : decode cX6_newPump 5 = .ok (.iaload, 1) := by decide +kernel
theorem dX6_newPump_6 : decode cX6_newPump 6 = .ok (.istore 5, 2) := by decide +kernel
theorem dX6_newPump_8 : decode cX6_newPump 8 = .ok (.aload_n 0, 1) := by decide +kernel
theorem dX6_newPump_9 : decode cX6_newPump 9 = .ok (.getfield 7, 3) := by decide +kernel
theorem dX6_newPump_12 : decode cX6_newPump 12 = .ok (.iload 5, 2) := by decide +kernel
theorem dX6_newPump_14 : decode cX6_newPump 14 = .ok (.iconst 0, 1) := by decide +kernel
theorem dX6_newPump_15 : decode cX6_newPump 15 = .ok (.invokestatic 63, 3) := by decide +kernel
theorem dX6_newPump_18 : decode cX6_newPump 18 = .ok (.iload_n 1, 1) := by decide +kernel
theorem dX6_newPump_19 : decode cX6_newPump 19 = .ok (.iastore, 1) := by decide +kernel
theorem dX6_newPump_20 : decode cX6_newPump 20 = .ok (.aload_n 0, 1) := by decide +kernel
theorem dX6_newPump_21 : decode cX6_newPump 21 = .ok (.getfield 7, 3) := by decide +kernel
theorem dX6_newPump_24 : decode cX6_newPump 24 = .ok (.iload 5, 2) := by decide +kernel
theorem dX6_newPump_26 : decode cX6_newPump 26 = .ok (.iconst 1, 1) := by decide +kernel
theorem dX6_newPump_27 : decode cX6_newPump 27 = .ok (.invokestatic 63, 3) := by decide +kernel
theorem dX6_newPump_30 : decode cX6_newPump 30 = .ok (.iload_n 2, 1) := by decide +kernel
theorem dX6_newPump_31 : decode cX6_newPump 31 = .ok (.iastore, 1) := by decide +kernel
theorem dX6_newPump_32 : decode cX6_newPump 32 = .ok (.aload_n 0, 1) := by decide +kernel
theorem dX6_newPump_33 : decode cX6_newPump 33 = .ok (.getfield 7, 3) := by decide +kernel
theorem dX6_newPump_36 : decode cX6_newPump 36 = .ok (.iload 5, 2) := by decide +kernel
theorem dX6_newPump_38 : decode cX6_newPump 38 = .ok (.iconst 2, 1) := by decide +kernel
theorem dX6_newPump_39 : decode cX6_newPump 39 = .ok (.invokestatic 63, 3) := by decide +kernel
theorem dX6_newPump_42 : decode cX6_newPump 42 = .ok (.iload_n 3, 1) := by decide +kernel
theorem dX6_newPump_43 : decode cX6_newPump 43 = .ok (.iastore, 1) := by decide +kernel
theorem dX6_newPump_44 : decode cX6_newPump 44 = .ok (.aload_n 0, 1) := by decide +kernel
theorem dX6_newPump_45 : decode cX6_newPump 45 = .ok (.getfield 7, 3) := by decide +kernel
theorem dX6_newPump_48 : decode cX6_newPump 48 = .ok (.iload 5, 2) := by decide +kernel
theorem dX6_newPump_50 : decode cX6_newPump 50 = .ok (.iconst 3, 1) := by decide +kernel
theorem dX6_newPump_51 : decode cX6_newPump 51 = .ok (.invokestatic 63, 3) := by decide +kernel
theorem dX6_newPump_54 : decode cX6_newPump 54 = .ok (.iload 4, 2) := by decide +kernel
theorem dX6_newPump_56 : decode cX6_newPump 56 = .ok (.iastore, 1) := by decide +kernel
theorem dX6_newPump_57 : decode cX6_newPump 57 = .ok (.aload_n 0, 1) := by decide +kernel
theorem dX6_newPump_58 : decode cX6_newPump 58 = .ok (.getfield 7, 3) := by decide +kernel
theorem dX6_newPump_61 : decode cX6_newPump 61 = .ok (.iload 5, 2) := by decide +kernel
theorem dX6_newPump_63 : decode cX6_newPump 63 = .ok (.iconst 4, 1) := by decide +kernel
theorem dX6_newPump_64 : decode cX6_newPump 64 = .ok (.invokestatic 63, 3) := by decide +kernel
theorem dX6_newPump_67 : decode cX6_newPump 67 = .ok (.iconst 0, 1) := by decide +kernel
theorem dX6_newPump_68 : decode cX6_newPump 68 = .ok (.iastore, 1) := by decide +kernel
theorem dX6_newPump_69 : decode cX6_newPump 69 = .ok (.aload_n 0, 1) := by decide +kernel
theorem dX6_newPump_70 : decode cX6_newPump 70 = .ok (.getfield 7, 3) := by decide +kernel
theorem dX6_newPump_73 : decode cX6_newPump 73 = .ok (.iload 5, 2) := by decide +kernel
theorem dX6_newPump_75 : decode cX6_newPump 75 = .ok (.iconst 5, 1) := by decide +kernel
theorem dX6_newPump_76 : decode cX6_newPump 76 = .ok (.invokestatic 63, 3) := by decide +kernel
theorem dX6_newPump_79 : decode cX6_newPump 79 = .ok (.iconst 0, 1) := by decide +kernel
theorem dX6_newPump_80 : decode cX6_newPump 80 = .ok (.iastore, 1) := by decide +kernel
theorem dX6_newPump_81 : decode cX6_newPump 81 = .ok (.aload_n 0, 1) := by decide +kernel
theorem dX6_newPump_82 : decode cX6_newPump 82 = .ok (.getfield 7, 3) := by decide +kernel
theorem dX6_newPump_85 : decode cX6_newPump 85 = .ok (.iconst 0, 1) := by decide +kernel
theorem dX6_newPump_86 : decode cX6_newPump 86 = .ok (.dup2, 1) := by decide +kernel
theorem dX6_newPump_87 : decode cX6_newPump 87 = .ok (.iaload, 1) := by decide +kernel
theorem dX6_newPump_88 : decode cX6_newPump 88 = .ok (.iconst 1, 1) := by decide +kernel
theorem dX6_newPump_89 : decode cX6_newPump 89 = .ok (.iadd, 1) := by decide +kernel
theorem dX6_newPump_90 : decode cX6_newPump 90 = .ok (.iastore, 1) := by decide +kernel
theorem dX6_newPump_91 : decode cX6_newPump 91 = .ok (.iload 5, 2) := by decide +kernel
theorem dX6_newPump_93 : decode cX6_newPump 93 = .ok (.ireturn, 1) := by decide +kernel
theorem dX6_pump_0 : decode cX6_pump 0 = .ok (.iconst 0, 1) := by decide +kernel
theorem dX6_pump_1 : decode cX6_pump 1 = .ok (.iload_n 1, 1) := by decide +kernel
theorem dX6_pump_2 : decode cX6_pump 2 = .ok (.invokestatic 77, 3) := by decide +kernel
theorem dX6_pump_5 : decode cX6_pump 5 = .ok (.ifCond .eq 18, 3) := by decide +kernel
theorem dX6_pump_8 : decode cX6_pump 8 = .ok (.iload_n 2, 1) := by decide +kernel
theorem dX6_pump_9 : decode cX6_pump 9 = .ok (.invokestatic 69, 3) := by decide +kernel
theorem dX6_pump_12 : decode cX6_pump 12 = .ok (.ifCond .eq 11, 3) := by decide +kernel
theorem dX6_pump_15 : decode cX6_pump 15 = .ok (.iconst 2, 1) := by decide +kernel
theorem dX6_pump_16 : decode cX6_pump 16 = .ok (.iload_n 3, 1) := by decide +kernel
theorem dX6_pump_17 : decode cX6_pump 17 = .ok (.invokestatic 77, 3) := by decide +kernel
theorem dX6_pump_20 : decode cX6_pump 20 = .ok (.ifCond .ne 10, 3) := by decide +kernel
theorem dX6_pump_23 : decode cX6_pump 23 = .ok (.aload_n 0, 1) := by decide +kernel
theorem dX6_pump_24 : decode cX6_pump 24 = .ok (.ldc 55, 2) := by decide +kernel
theorem dX6_pump_26 : decode cX6_pump 26 = .ok (.invokevirtual 81, 3) := by decide +kernel
theorem dX6_pump_29 : decode cX6_pump 29 = .ok (.ireturn, 1) := by decide +kernel
theorem dX6_pump_30 : decode cX6_pump 30 = .ok (.aload_n 0, 1) := by decide +kernel
theorem dX6_pump_31 : decode cX6_pump 31 = .ok (.getfield 7, 3) := by decide +kernel
theorem dX6_pump_34 : decode cX6_pump 34 = .ok (.iconst 0, 1) := by decide +kernel
theorem dX6_pump_35 : decode cX6_pump 35 = .ok (.iaload, 1) := by decide +kernel
theorem dX6_pump_36 : decode cX6_pump 36 = .ok (.bipush 8, 2) := by decide +kernel
theorem dX6_pump_38 : decode cX6_pump 38 = .ok (.if_icmp .ne 12, 3) := by decide +kernel
theorem dX6_pump_41 : decode cX6_pump 41 = .ok (.aload_n 0, 1) := by decide +kernel
theorem dX6_pump_42 : decode cX6_pump 42 = .ok (.ldc 85, 2) := by decide +kernel
theorem dX6_pump_44 : decode cX6_pump 44 = .ok (.invokevirtual 81, 3) := by decide +kernel
theorem dX6_pump_47 : decode cX6_pump 47 = .ok (.goto 11, 3) := by decide +kernel
theorem dX6_pump_50 : decode cX6_pump 50 = .ok (.aload_n 0, 1) := by decide +kernel
theorem dX6_pump_51 : decode cX6_pump 51 = .ok (.iload_n 1, 1) := by decide +kernel
theorem dX6_pump_52 : decode cX6_pump 52 = .ok (.iload_n 2, 1) := by decide +kernel
theorem dX6_pump_53 : decode cX6_pump 53 = .ok (.iload_n 3, 1) := by decide +kernel
theorem dX6_pump_54 : decode cX6_pump 54 = .ok (.iconst 0, 1) := by decide +kernel
theorem dX6_pump_55 : decode cX6_pump 55 = .ok (.invokevirtual 86, 3) := by decide +kernel
theorem dX6_pump_58 : decode cX6_pump 58 = .ok (.ireturn, 1) := by decide +kernel
theorem dX6_least0_0 : decode cX6_least0 0 = .ok (.iload_n 0, 1) := by decide +kernel
theorem dX6_least0_1 : decode cX6_least0 1 = .ok (.ifCond .ge 7, 3) := by decide +kernel
theorem dX6_least0_4 : decode cX6_least0 4 = .ok (.iconst 0, 1) := by decide +kernel
theorem dX6_least0_5 : decode cX6_least0 5 = .ok (.goto 4, 3) := by decide +kernel
theorem dX6_least0_8 : decode cX6_least0 8 = .ok (.iload_n 0, 1) := by decide +kernel
theorem dX6_least0_9 : decode cX6_least0 9 = .ok (.ireturn, 1) := by decide +kernel
theorem dX6_yieldOf_0 : decode cX6_yieldOf 0 = .ok (.aload_n 0, 1) := by decide +kernel
theorem dX6_yieldOf_1 : decode cX6_yieldOf 1 = .ok (.iload_n 1, 1) := by decide +kernel
theorem dX6_yieldOf_2 : decode cX6_yieldOf 2 = .ok (.iconst 2, 1) := by decide +kernel
theorem dX6_yieldOf_3 : decode cX6_yieldOf 3 = .ok (.invokevirtual 90, 3) := by decide +kernel
theorem dX6_yieldOf_6 : decode cX6_yieldOf 6 = .ok (.aload_n 0, 1) := by decide +kernel
theorem dX6_yieldOf_7 : decode cX6_yieldOf 7 = .ok (.getfield 7, 3) := by decide +kernel
theorem dX6_yieldOf_10 : decode cX6_yieldOf 10 = .ok (.iconst 4, 1) := by decide +kernel
theorem dX6_yieldOf_11 : decode cX6_yieldOf 11 = .ok (.iaload, 1) := by decide +kernel
theorem dX6_yieldOf_12 : decode cX6_yieldOf 12 = .ok (.isub, 1) := by decide +kernel
theorem dX6_yieldOf_13 : decode cX6_yieldOf 13 = .ok (.invokestatic 93, 3) := by decide +kernel
theorem dX6_yieldOf_16 : decode cX6_yieldOf 16 = .ok (.istore_n 2, 1) := by decide +kernel
theorem dX6_yieldOf_17 : decode cX6_yieldOf 17 = .ok (.iload_n 2, 1) := by decide +kernel
theorem dX6_yieldOf_18 : decode cX6_yieldOf 18 = .ok (.aload_n 0, 1) := by decide +kernel
theorem dX6_yieldOf_19 : decode cX6_yieldOf 19 = .ok (.iload_n 1, 1) := by decide +kernel
theorem dX6_yieldOf_20 : decode cX6_yieldOf 20 = .ok (.iconst 4, 1) := by decide +kernel
theorem dX6_yieldOf_21 : decode cX6_yieldOf 21 = .ok (.invokevirtual 90, 3) := by decide +kernel
theorem dX6_yieldOf_24 : decode cX6_yieldOf 24 = .ok (.isub, 1) := by decide +kernel
theorem dX6_yieldOf_25 : decode cX6_yieldOf 25 = .ok (.invokestatic 93, 3) := by decide +kernel
theorem dX6_yieldOf_28 : decode cX6_yieldOf 28 = .ok (.istore_n 3, 1) := by decide +kernel
theorem dX6_yieldOf_29 : decode cX6_yieldOf 29 = .ok (.aload_n 0, 1) := by decide +kernel
theorem dX6_yieldOf_30 : decode cX6_yieldOf 30 = .ok (.iload_n 1, 1) := by decide +kernel
theorem dX6_yieldOf_31 : decode cX6_yieldOf 31 = .ok (.iconst 0, 1) := by decide +kernel
theorem dX6_yieldOf_32 : decode cX6_yieldOf 32 = .ok (.invokevirtual 90, 3) := by decide +kernel
theorem dX6_yieldOf_35 : decode cX6_yieldOf 35 = .ok (.tableswitch 77 2 6 #[33, 35, 37, 41, 60], 33) := by decide +kernel
theorem dX6_yieldOf_68 : decode cX6_yieldOf 68 = .ok (.iconst 1, 1) := by decide +kernel
theorem dX6_yieldOf_69 : decode cX6_yieldOf 69 = .ok (.ireturn, 1) := by decide +kernel
theorem dX6_yieldOf_70 : decode cX6_yieldOf 70 = .ok (.iload_n 3, 1) := by decide +kernel
theorem dX6_yieldOf_71 : decode cX6_yieldOf 71 = .ok (.ireturn, 1) := by decide +kernel
theorem dX6_yieldOf_72 : decode cX6_yieldOf 72 = .ok (.iload_n 2, 1) := by decide +kernel
theorem dX6_yieldOf_73 : decode cX6_yieldOf 73 = .ok (.iconst 2, 1) := by decide +kernel
theorem dX6_yieldOf_74 : decode cX6_yieldOf 74 = .ok (.idiv, 1) := by decide +kernel
theorem dX6_yieldOf_75 : decode cX6_yieldOf 75 = .ok (.ireturn, 1) := by decide +kernel
theorem dX6_yieldOf_76 : decode cX6_yieldOf 76 = .ok (.aload_n 0, 1) := by decide +kernel
theorem dX6_yieldOf_77 : decode cX6_yieldOf 77 = .ok (.getfield 7, 3) := by decide +kernel
theorem dX6_yieldOf_80 : decode cX6_yieldOf 80 = .ok (.iconst 5, 1) := by decide +kernel
theorem dX6_yieldOf_81 : decode cX6_yieldOf 81 = .ok (.iaload, 1) := by decide +kernel
theorem dX6_yieldOf_82 : decode cX6_yieldOf 82 = .ok (.bipush 9, 2) := by decide +kernel
theorem dX6_yieldOf_84 : decode cX6_yieldOf 84 = .ok (.if_icmp .ge 9, 3) := by decide +kernel
theorem dX6_yieldOf_87 : decode cX6_yieldOf 87 = .ok (.iload_n 2, 1) := by decide +kernel
theorem dX6_yieldOf_88 : decode cX6_yieldOf 88 = .ok (.iconst 3, 1) := by decide +kernel
theorem dX6_yieldOf_89 : decode cX6_yieldOf 89 = .ok (.iadd, 1) := by decide +kernel
theorem dX6_yieldOf_90 : decode cX6_yieldOf 90 = .ok (.goto 4, 3) := by decide +kernel
theorem dX6_yieldOf_93 : decode cX6_yieldOf 93 = .ok (.iload_n 2, 1) := by decide +kernel
theorem dX6_yieldOf_94 : decode cX6_yieldOf 94 = .ok (.ireturn, 1) := by decide +kernel
theorem dX6_yieldOf_95 : decode cX6_yieldOf 95 = .ok (.aload_n 0, 1) := by decide +kernel
theorem dX6_yieldOf_96 : decode cX6_yieldOf 96 = .ok (.getfield 7, 3) := by decide +kernel
theorem dX6_yieldOf_99 : decode cX6_yieldOf 99 = .ok (.iconst 5, 1) := by decide +kernel
theorem dX6_yieldOf_100 : decode cX6_yieldOf 100 = .ok (.iaload, 1) := by decide +kernel
theorem dX6_yieldOf_101 : decode cX6_yieldOf 101 = .ok (.bipush 12, 2) := by decide +kernel
theorem dX6_yieldOf_103 : decode cX6_yieldOf 103 = .ok (.if_icmp .ge 7, 3) := by decide +kernel
theorem dX6_yieldOf_106 : decode cX6_yieldOf 106 = .ok (.iload_n 3, 1) := by decide +kernel
theorem dX6_yieldOf_107 : decode cX6_yieldOf 107 = .ok (.goto 4, 3) := by decide +kernel
theorem dX6_yieldOf_110 : decode cX6_yieldOf 110 = .ok (.iconst 0, 1) := by decide +kernel
theorem dX6_yieldOf_111 : decode cX6_yieldOf 111 = .ok (.ireturn, 1) := by decide +kernel
theorem dX6_yieldOf_112 : decode cX6_yieldOf 112 = .ok (.iload_n 2, 1) := by decide +kernel
theorem dX6_yieldOf_113 : decode cX6_yieldOf 113 = .ok (.ireturn, 1) := by decide +kernel
theorem dX6_needOf_0 : decode cX6_needOf 0 = .ok (.aload_n 0, 1) := by decide +kernel
theorem dX6_needOf_1 : decode cX6_needOf 1 = .ok (.iload_n 1, 1) := by decide +kernel
theorem dX6_needOf_2 : decode cX6_needOf 2 = .ok (.invokevirtual 96, 3) := by decide +kernel
theorem dX6_needOf_5 : decode cX6_needOf 5 = .ok (.istore_n 2, 1) := by decide +kernel
theorem dX6_needOf_6 : decode cX6_needOf 6 = .ok (.iload_n 2, 1) := by decide +kernel
theorem dX6_needOf_7 : decode cX6_needOf 7 = .ok (.iconst 2, 1) := by decide +kernel
theorem dX6_needOf_8 : decode cX6_needOf 8 = .ok (.iadd, 1) := by decide +kernel
theorem dX6_needOf_9 : decode cX6_needOf 9 = .ok (.iconst 3, 1) := by decide +kernel
theorem dX6_needOf_10 : decode cX6_needOf 10 = .ok (.idiv, 1) := by decide +kernel
theorem dX6_needOf_11 : decode cX6_needOf 11 = .ok (.istore_n 3, 1) := by decide +kernel
theorem dX6_needOf_12 : decode cX6_needOf 12 = .ok (.aload_n 0, 1) := by decide +kernel
theorem dX6_needOf_13 : decode cX6_needOf 13 = .ok (.iload_n 1, 1) := by decide +kernel
theorem dX6_needOf_14 : decode cX6_needOf 14 = .ok (.iconst 0, 1) := by decide +kernel
theorem dX6_needOf_15 : decode cX6_needOf 15 = .ok (.invokevirtual 90, 3) := by decide +kernel
theorem dX6_needOf_18 : decode cX6_needOf 18 = .ok (.tableswitch 50 1 6 #[38, 44, 50, 38, 50, 46], 38) := by decide +kernel
theorem dX6_needOf_56 : decode cX6_needOf 56 = .ok (.iload_n 2, 1) := by decide +kernel
theorem dX6_needOf_57 : decode cX6_needOf 57 = .ok (.iconst 1, 1) := by decide +kernel
theorem dX6_needOf_58 : decode cX6_needOf 58 = .ok (.iadd, 1) := by decide +kernel
theorem dX6_needOf_59 : decode cX6_needOf 59 = .ok (.iconst 2, 1) := by decide +kernel
theorem dX6_needOf_60 : decode cX6_needOf 60 = .ok (.idiv, 1) := by decide +kernel
theorem dX6_needOf_61 : decode cX6_needOf 61 = .ok (.ireturn, 1) := by decide +kernel
theorem dX6_needOf_62 : decode cX6_needOf 62 = .ok (.iconst 0, 1) := by decide +kernel
theorem dX6_needOf_63 : decode cX6_needOf 63 = .ok (.ireturn, 1) := by decide +kernel
theorem dX6_needOf_64 : decode cX6_needOf 64 = .ok (.iload_n 3, 1) := by decide +kernel
theorem dX6_needOf_65 : decode cX6_needOf 65 = .ok (.iconst 1, 1) := by decide +kernel
theorem dX6_needOf_66 : decode cX6_needOf 66 = .ok (.iadd, 1) := by decide +kernel
theorem dX6_needOf_67 : decode cX6_needOf 67 = .ok (.ireturn, 1) := by decide +kernel
theorem dX6_needOf_68 : decode cX6_needOf 68 = .ok (.iload_n 3, 1) := by decide +kernel
theorem dX6_needOf_69 : decode cX6_needOf 69 = .ok (.ireturn, 1) := by decide +kernel
theorem dX6_of_0 : decode cX6_of 0 = .ok (.aload_n 0, 1) := by decide +kernel
theorem dX6_of_1 : decode cX6_of 1 = .ok (.iload_n 1, 1) := by decide +kernel
theorem dX6_of_2 : decode cX6_of 2 = .ok (.invokevirtual 99, 3) := by decide +kernel
theorem dX6_of_5 : decode cX6_of 5 = .ok (.ifCond .eq 15, 3) := by decide +kernel
theorem dX6_of_8 : decode cX6_of 8 = .ok (.iload_n 2, 1) := by decide +kernel
theorem dX6_of_9 : decode cX6_of 9 = .ok (.i2l, 1) := by decide +kernel
theorem dX6_of_10 : decode cX6_of 10 = .ok (.lconst 0, 1) := by decide +kernel
theorem dX6_of_11 : decode cX6_of 11 = .ok (.ldc2_w 102, 3) := by decide +kernel
theorem dX6_of_14 : decode cX6_of 14 = .ok (.invokestatic 58, 3) := by decide +kernel
theorem dX6_of_17 : decode cX6_of 17 = .ok (.ifCond .ne 10, 3) := by decide +kernel
theorem dX6_of_20 : decode cX6_of 20 = .ok (.aload_n 0, 1) := by decide +kernel
theorem dX6_of_21 : decode cX6_of 21 = .ok (.ldc 55, 2) := by decide +kernel
theorem dX6_of_23 : decode cX6_of 23 = .ok (.invokevirtual 81, 3) := by decide +kernel
theorem dX6_of_26 : decode cX6_of 26 = .ok (.ireturn, 1) := by decide +kernel
theorem dX6_of_27 : decode cX6_of 27 = .ok (.iload_n 2, 1) := by decide +kernel
theorem dX6_of_28 : decode cX6_of 28 = .ok (.bipush 6, 2) := by decide +kernel
theorem dX6_of_30 : decode cX6_of 30 = .ok (.if_icmp .ge 12, 3) := by decide +kernel
theorem dX6_of_33 : decode cX6_of 33 = .ok (.aload_n 0, 1) := by decide +kernel
theorem dX6_of_34 : decode cX6_of 34 = .ok (.iload_n 1, 1) := by decide +kernel
theorem dX6_of_35 : decode cX6_of 35 = .ok (.iload_n 2, 1) := by decide +kernel
theorem dX6_of_36 : decode cX6_of 36 = .ok (.invokevirtual 90, 3) := by decide +kernel
theorem dX6_of_39 : decode cX6_of 39 = .ok (.goto 22, 3) := by decide +kernel
theorem dX6_of_42 : decode cX6_of 42 = .ok (.iload_n 2, 1) := by decide +kernel
theorem dX6_of_43 : decode cX6_of 43 = .ok (.bipush 6, 2) := by decide +kernel
theorem dX6_of_45 : decode cX6_of 45 = .ok (.if_icmp .ne 11, 3) := by decide +kernel
theorem dX6_of_48 : decode cX6_of 48 = .ok (.aload_n 0, 1) := by decide +kernel
theorem dX6_of_49 : decode cX6_of 49 = .ok (.iload_n 1, 1) := by decide +kernel
theorem dX6_of_50 : decode cX6_of 50 = .ok (.invokevirtual 96, 3) := by decide +kernel
theorem dX6_of_53 : decode cX6_of 53 = .ok (.goto 8, 3) := by decide +kernel
theorem dX6_of_56 : decode cX6_of 56 = .ok (.aload_n 0, 1) := by decide +kernel
theorem dX6_of_57 : decode cX6_of 57 = .ok (.iload_n 1, 1) := by decide +kernel
theorem dX6_of_58 : decode cX6_of 58 = .ok (.invokevirtual 104, 3) := by decide +kernel
theorem dX6_of_61 : decode cX6_of 61 = .ok (.ireturn, 1) := by decide +kernel
theorem dX6_change_0 : decode cX6_change 0 = .ok (.aload_n 0, 1) := by decide +kernel
theorem dX6_change_1 : decode cX6_change 1 = .ok (.iload_n 1, 1) := by decide +kernel
theorem dX6_change_2 : decode cX6_change 2 = .ok (.invokevirtual 99, 3) := by decide +kernel
theorem dX6_change_5 : decode cX6_change 5 = .ok (.ifCond .eq 11, 3) := by decide +kernel
theorem dX6_change_8 : decode cX6_change 8 = .ok (.iload_n 2, 1) := by decide +kernel
theorem dX6_change_9 : decode cX6_change 9 = .ok (.iload_n 3, 1) := by decide +kernel
theorem dX6_change_10 : decode cX6_change 10 = .ok (.invokestatic 77, 3) := by decide +kernel
theorem dX6_change_13 : decode cX6_change 13 = .ok (.ifCond .ne 10, 3) := by decide +kernel
theorem dX6_change_16 : decode cX6_change 16 = .ok (.aload_n 0, 1) := by decide +kernel
theorem dX6_change_17 : decode cX6_change 17 = .ok (.ldc 55, 2) := by decide +kernel
theorem dX6_change_19 : decode cX6_change 19 = .ok (.invokevirtual 81, 3) := by decide +kernel
theorem dX6_change_22 : decode cX6_change 22 = .ok (.ireturn, 1) := by decide +kernel
theorem dX6_change_23 : decode cX6_change 23 = .ok (.aload_n 0, 1) := by decide +kernel
theorem dX6_change_24 : decode cX6_change 24 = .ok (.iload_n 1, 1) := by decide +kernel
theorem dX6_change_25 : decode cX6_change 25 = .ok (.iload_n 2, 1) := by decide +kernel
theorem dX6_change_26 : decode cX6_change 26 = .ok (.invokevirtual 90, 3) := by decide +kernel
theorem dX6_change_29 : decode cX6_change 29 = .ok (.istore 4, 2) := by decide +kernel
theorem dX6_change_31 : decode cX6_change 31 = .ok (.aload_n 0, 1) := by decide +kernel
theorem dX6_change_32 : decode cX6_change 32 = .ok (.getfield 7, 3) := by decide +kernel
theorem dX6_change_35 : decode cX6_change 35 = .ok (.iload_n 1, 1) := by decide +kernel
theorem dX6_change_36 : decode cX6_change 36 = .ok (.iload_n 2, 1) := by decide +kernel
theorem dX6_change_37 : decode cX6_change 37 = .ok (.invokestatic 63, 3) := by decide +kernel
theorem dX6_change_40 : decode cX6_change 40 = .ok (.iload_n 3, 1) := by decide +kernel
theorem dX6_change_41 : decode cX6_change 41 = .ok (.iastore, 1) := by decide +kernel
theorem dX6_change_42 : decode cX6_change 42 = .ok (.iload 4, 2) := by decide +kernel
theorem dX6_change_44 : decode cX6_change 44 = .ok (.ireturn, 1) := by decide +kernel
theorem dX6_isRule_0 : decode cX6_isRule 0 = .ok (.iload_n 1, 1) := by decide +kernel
theorem dX6_isRule_1 : decode cX6_isRule 1 = .ok (.tableswitch 76 0 2 #[27, 56, 66], 27) := by decide +kernel
theorem dX6_isRule_28 : decode cX6_isRule 28 = .ok (.iload_n 2, 1) := by decide +kernel
theorem dX6_isRule_29 : decode cX6_isRule 29 = .ok (.i2l, 1) := by decide +kernel
theorem dX6_isRule_30 : decode cX6_isRule 30 = .ok (.lconst 1, 1) := by decide +kernel
theorem dX6_isRule_31 : decode cX6_isRule 31 = .ok (.ldc2_w 107, 3) := by decide +kernel
theorem dX6_isRule_34 : decode cX6_isRule 34 = .ok (.invokestatic 58, 3) := by decide +kernel
theorem dX6_isRule_37 : decode cX6_isRule 37 = .ok (.ifCond .eq 18, 3) := by decide +kernel
theorem dX6_isRule_40 : decode cX6_isRule 40 = .ok (.iload_n 2, 1) := by decide +kernel
theorem dX6_isRule_41 : decode cX6_isRule 41 = .ok (.aload_n 0, 1) := by decide +kernel
theorem dX6_isRule_42 : decode cX6_isRule 42 = .ok (.getfield 7, 3) := by decide +kernel
theorem dX6_isRule_45 : decode cX6_isRule 45 = .ok (.bipush 8, 2) := by decide +kernel
theorem dX6_isRule_47 : decode cX6_isRule 47 = .ok (.iaload, 1) := by decide +kernel
theorem dX6_isRule_48 : decode cX6_isRule 48 = .ok (.if_icmp .lt 7, 3) := by decide +kernel
theorem dX6_isRule_51 : decode cX6_isRule 51 = .ok (.iconst 1, 1) := by decide +kernel
theorem dX6_isRule_52 : decode cX6_isRule 52 = .ok (.goto 4, 3) := by decide +kernel
theorem dX6_isRule_55 : decode cX6_isRule 55 = .ok (.iconst 0, 1) := by decide +kernel
theorem dX6_isRule_56 : decode cX6_isRule 56 = .ok (.ireturn, 1) := by decide +kernel
theorem dX6_isRule_57 : decode cX6_isRule 57 = .ok (.iload_n 2, 1) := by decide +kernel
theorem dX6_isRule_58 : decode cX6_isRule 58 = .ok (.i2l, 1) := by decide +kernel
theorem dX6_isRule_59 : decode cX6_isRule 59 = .ok (.lconst 0, 1) := by decide +kernel
theorem dX6_isRule_60 : decode cX6_isRule 60 = .ok (.ldc2_w 56, 3) := by decide +kernel
theorem dX6_isRule_63 : decode cX6_isRule 63 = .ok (.invokestatic 58, 3) := by decide +kernel
theorem dX6_isRule_66 : decode cX6_isRule 66 = .ok (.ireturn, 1) := by decide +kernel
theorem dX6_isRule_67 : decode cX6_isRule 67 = .ok (.iload_n 2, 1) := by decide +kernel
theorem dX6_isRule_68 : decode cX6_isRule 68 = .ok (.i2l, 1) := by decide +kernel
theorem dX6_isRule_69 : decode cX6_isRule 69 = .ok (.lconst 0, 1) := by decide +kernel
theorem dX6_isRule_70 : decode cX6_isRule 70 = .ok (.ldc2_w 109, 3) := by decide +kernel
theorem dX6_isRule_73 : decode cX6_isRule 73 = .ok (.invokestatic 58, 3) := by decide +kernel
theorem dX6_isRule_76 : decode cX6_isRule 76 = .ok (.ireturn, 1) := by decide +kernel
theorem dX6_isRule_77 : decode cX6_isRule 77 = .ok (.iload_n 1, 1) := by decide +kernel
theorem dX6_isRule_78 : decode cX6_isRule 78 = .ok (.iconst 3, 1) := by decide +kernel
theorem dX6_isRule_79 : decode cX6_isRule 79 = .ok (.if_icmp .ne 19, 3) := by decide +kernel
theorem dX6_isRule_82 : decode cX6_isRule 82 = .ok (.iload_n 2, 1) := by decide +kernel
theorem dX6_isRule_83 : decode cX6_isRule 83 = .ok (.i2l, 1) := by decide +kernel
theorem dX6_isRule_84 : decode cX6_isRule 84 = .ok (.lconst 0, 1) := by decide +kernel
theorem dX6_isRule_85 : decode cX6_isRule 85 = .ok (.ldc2_w 111, 3) := by decide +kernel
theorem dX6_isRule_88 : decode cX6_isRule 88 = .ok (.invokestatic 58, 3) := by decide +kernel
theorem dX6_isRule_91 : decode cX6_isRule 91 = .ok (.ifCond .eq 7, 3) := by decide +kernel
theorem dX6_isRule_94 : decode cX6_isRule 94 = .ok (.iconst 1, 1) := by decide +kernel
theorem dX6_isRule_95 : decode cX6_isRule 95 = .ok (.goto 4, 3) := by decide +kernel
theorem dX6_isRule_98 : decode cX6_isRule 98 = .ok (.iconst 0, 1) := by decide +kernel
theorem dX6_isRule_99 : decode cX6_isRule 99 = .ok (.ireturn, 1) := by decide +kernel
theorem dX6_rule_0 : decode cX6_rule 0 = .ok (.aload_n 0, 1) := by decide +kernel
theorem dX6_rule_1 : decode cX6_rule 1 = .ok (.iload_n 1, 1) := by decide +kernel
theorem dX6_rule_2 : decode cX6_rule 2 = .ok (.iload_n 2, 1) := by decide +kernel
theorem dX6_rule_3 : decode cX6_rule 3 = .ok (.invokevirtual 113, 3) := by decide +kernel
theorem dX6_rule_6 : decode cX6_rule 6 = .ok (.ifCond .ne 10, 3) := by decide +kernel
theorem dX6_rule_9 : decode cX6_rule 9 = .ok (.aload_n 0, 1) := by decide +kernel
theorem dX6_rule_10 : decode cX6_rule 10 = .ok (.ldc 55, 2) := by decide +kernel
theorem dX6_rule_12 : decode cX6_rule 12 = .ok (.invokevirtual 81, 3) := by decide +kernel
theorem dX6_rule_15 : decode cX6_rule 15 = .ok (.ireturn, 1) := by decide +kernel
theorem dX6_rule_16 : decode cX6_rule 16 = .ok (.aload_n 0, 1) := by decide +kernel
theorem dX6_rule_17 : decode cX6_rule 17 = .ok (.getfield 7, 3) := by decide +kernel
theorem dX6_rule_20 : decode cX6_rule 20 = .ok (.iconst 2, 1) := by decide +kernel
theorem dX6_rule_21 : decode cX6_rule 21 = .ok (.iload_n 1, 1) := by decide +kernel
theorem dX6_rule_22 : decode cX6_rule 22 = .ok (.iadd, 1) := by decide +kernel
theorem dX6_rule_23 : decode cX6_rule 23 = .ok (.iaload, 1) := by decide +kernel
theorem dX6_rule_24 : decode cX6_rule 24 = .ok (.istore_n 3, 1) := by decide +kernel
theorem dX6_rule_25 : decode cX6_rule 25 = .ok (.aload_n 0, 1) := by decide +kernel
theorem dX6_rule_26 : decode cX6_rule 26 = .ok (.getfield 7, 3) := by decide +kernel
theorem dX6_rule_29 : decode cX6_rule 29 = .ok (.iconst 2, 1) := by decide +kernel
theorem dX6_rule_30 : decode cX6_rule 30 = .ok (.iload_n 1, 1) := by decide +kernel
theorem dX6_rule_31 : decode cX6_rule 31 = .ok (.iadd, 1) := by decide +kernel
theorem dX6_rule_32 : decode cX6_rule 32 = .ok (.iload_n 2, 1) := by decide +kernel
theorem dX6_rule_33 : decode cX6_rule 33 = .ok (.iastore, 1) := by decide +kernel
theorem dX6_rule_34 : decode cX6_rule 34 = .ok (.iload_n 3, 1) := by decide +kernel
theorem dX6_rule_35 : decode cX6_rule 35 = .ok (.ireturn, 1) := by decide +kernel
theorem dX6_water_0 : decode cX6_water 0 = .ok (.aload_n 0, 1) := by decide +kernel
theorem dX6_water_1 : decode cX6_water 1 = .ok (.iload_n 1, 1) := by decide +kernel
theorem dX6_water_2 : decode cX6_water 2 = .ok (.invokevirtual 116, 3) := by decide +kernel
theorem dX6_water_5 : decode cX6_water 5 = .ok (.ifCond .ne 10, 3) := by decide +kernel
theorem dX6_water_8 : decode cX6_water 8 = .ok (.aload_n 0, 1) := by decide +kernel
theorem dX6_water_9 : decode cX6_water 9 = .ok (.ldc 55, 2) := by decide +kernel
theorem dX6_water_11 : decode cX6_water 11 = .ok (.invokevirtual 81, 3) := by decide +kernel
theorem dX6_water_14 : decode cX6_water 14 = .ok (.ireturn, 1) := by decide +kernel
theorem dX6_water_15 : decode cX6_water 15 = .ok (.aload_n 0, 1) := by decide +kernel
theorem dX6_water_16 : decode cX6_water 16 = .ok (.getfield 7, 3) := by decide +kernel
theorem dX6_water_19 : decode cX6_water 19 = .ok (.bipush 8, 2) := by decide +kernel
theorem dX6_water_21 : decode cX6_water 21 = .ok (.iaload, 1) := by decide +kernel
theorem dX6_water_22 : decode cX6_water 22 = .ok (.istore_n 2, 1) := by decide +kernel
theorem dX6_water_23 : decode cX6_water 23 = .ok (.aload_n 0, 1) := by decide +kernel
theorem dX6_water_24 : decode cX6_water 24 = .ok (.getfield 7, 3) := by decide +kernel
theorem dX6_water_27 : decode cX6_water 27 = .ok (.bipush 8, 2) := by decide +kernel
theorem dX6_water_29 : decode cX6_water 29 = .ok (.iload_n 1, 1) := by decide +kernel
theorem dX6_water_30 : decode cX6_water 30 = .ok (.iastore, 1) := by decide +kernel
theorem dX6_water_31 : decode cX6_water 31 = .ok (.iload_n 2, 1) := by decide +kernel
theorem dX6_water_32 : decode cX6_water 32 = .ok (.ireturn, 1) := by decide +kernel
theorem dX6_now_0 : decode cX6_now 0 = .ok (.iload_n 1, 1) := by decide +kernel
theorem dX6_now_1 : decode cX6_now 1 = .ok (.tableswitch 98 0 6 #[43, 51, 59, 67, 74, 82, 90], 43) := by decide +kernel
theorem dX6_now_44 : decode cX6_now 44 = .ok (.aload_n 0, 1) := by decide +kernel
theorem dX6_now_45 : decode cX6_now 45 = .ok (.getfield 7, 3) := by decide +kernel
theorem dX6_now_48 : decode cX6_now 48 = .ok (.bipush 7, 2) := by decide +kernel
theorem dX6_now_50 : decode cX6_now 50 = .ok (.iaload, 1) := by decide +kernel
theorem dX6_now_51 : decode cX6_now 51 = .ok (.ireturn, 1) := by decide +kernel
theorem dX6_now_52 : decode cX6_now 52 = .ok (.aload_n 0, 1) := by decide +kernel
theorem dX6_now_53 : decode cX6_now 53 = .ok (.getfield 7, 3) := by decide +kernel
theorem dX6_now_56 : decode cX6_now 56 = .ok (.bipush 8, 2) := by decide +kernel
theorem dX6_now_58 : decode cX6_now 58 = .ok (.iaload, 1) := by decide +kernel
theorem dX6_now_59 : decode cX6_now 59 = .ok (.ireturn, 1) := by decide +kernel
theorem dX6_now_60 : decode cX6_now 60 = .ok (.aload_n 0, 1) := by decide +kernel
theorem dX6_now_61 : decode cX6_now 61 = .ok (.getfield 7, 3) := by decide +kernel
theorem dX6_now_64 : decode cX6_now 64 = .ok (.bipush 9, 2) := by decide +kernel
theorem dX6_now_66 : decode cX6_now 66 = .ok (.iaload, 1) := by decide +kernel
theorem dX6_now_67 : decode cX6_now 67 = .ok (.ireturn, 1) := by decide +kernel
theorem dX6_now_68 : decode cX6_now 68 = .ok (.aload_n 0, 1) := by decide +kernel
theorem dX6_now_69 : decode cX6_now 69 = .ok (.getfield 7, 3) := by decide +kernel
theorem dX6_now_72 : decode cX6_now 72 = .ok (.iconst 5, 1) := by decide +kernel
theorem dX6_now_73 : decode cX6_now 73 = .ok (.iaload, 1) := by decide +kernel
theorem dX6_now_74 : decode cX6_now 74 = .ok (.ireturn, 1) := by decide +kernel
theorem dX6_now_75 : decode cX6_now 75 = .ok (.aload_n 0, 1) := by decide +kernel
theorem dX6_now_76 : decode cX6_now 76 = .ok (.getfield 7, 3) := by decide +kernel
theorem dX6_now_79 : decode cX6_now 79 = .ok (.bipush 6, 2) := by decide +kernel
theorem dX6_now_81 : decode cX6_now 81 = .ok (.iaload, 1) := by decide +kernel
theorem dX6_now_82 : decode cX6_now 82 = .ok (.ireturn, 1) := by decide +kernel
theorem dX6_now_83 : decode cX6_now 83 = .ok (.aload_n 0, 1) := by decide +kernel
theorem dX6_now_84 : decode cX6_now 84 = .ok (.getfield 7, 3) := by decide +kernel
theorem dX6_now_87 : decode cX6_now 87 = .ok (.bipush 10, 2) := by decide +kernel
theorem dX6_now_89 : decode cX6_now 89 = .ok (.iaload, 1) := by decide +kernel
theorem dX6_now_90 : decode cX6_now 90 = .ok (.ireturn, 1) := by decide +kernel
theorem dX6_now_91 : decode cX6_now 91 = .ok (.aload_n 0, 1) := by decide +kernel
theorem dX6_now_92 : decode cX6_now 92 = .ok (.getfield 7, 3) := by decide +kernel
theorem dX6_now_95 : decode cX6_now 95 = .ok (.bipush 11, 2) := by decide +kernel
theorem dX6_now_97 : decode cX6_now 97 = .ok (.iaload, 1) := by decide +kernel
theorem dX6_now_98 : decode cX6_now 98 = .ok (.ireturn, 1) := by decide +kernel
theorem dX6_now_99 : decode cX6_now 99 = .ok (.aload_n 0, 1) := by decide +kernel
theorem dX6_now_100 : decode cX6_now 100 = .ok (.ldc 55, 2) := by decide +kernel
theorem dX6_now_102 : decode cX6_now 102 = .ok (.invokevirtual 81, 3) := by decide +kernel
theorem dX6_now_105 : decode cX6_now 105 = .ok (.ireturn, 1) := by decide +kernel
theorem dX6_far_0 : decode cX6_far 0 = .ok (.iload_n 0, 1) := by decide +kernel
theorem dX6_far_1 : decode cX6_far 1 = .ok (.iload_n 1, 1) := by decide +kernel
theorem dX6_far_2 : decode cX6_far 2 = .ok (.if_icmp .ge 9, 3) := by decide +kernel
theorem dX6_far_5 : decode cX6_far 5 = .ok (.iload_n 1, 1) := by decide +kernel
theorem dX6_far_6 : decode cX6_far 6 = .ok (.iload_n 0, 1) := by decide +kernel
theorem dX6_far_7 : decode cX6_far 7 = .ok (.isub, 1) := by decide +kernel
theorem dX6_far_8 : decode cX6_far 8 = .ok (.goto 6, 3) := by decide +kernel
theorem dX6_far_11 : decode cX6_far 11 = .ok (.iload_n 0, 1) := by decide +kernel
theorem dX6_far_12 : decode cX6_far 12 = .ok (.iload_n 1, 1) := by decide +kernel
theorem dX6_far_13 : decode cX6_far 13 = .ok (.isub, 1) := by decide +kernel
theorem dX6_far_14 : decode cX6_far 14 = .ok (.ireturn, 1) := by decide +kernel
theorem dX6_left_0 : decode cX6_left 0 = .ok (.aload_n 0, 1) := by decide +kernel
theorem dX6_left_1 : decode cX6_left 1 = .ok (.getfield 7, 3) := by decide +kernel
theorem dX6_left_4 : decode cX6_left 4 = .ok (.iconst 3, 1) := by decide +kernel
theorem dX6_left_5 : decode cX6_left 5 = .ok (.iaload, 1) := by decide +kernel
theorem dX6_left_6 : decode cX6_left 6 = .ok (.ifCond .ne 7, 3) := by decide +kernel
theorem dX6_left_9 : decode cX6_left 9 = .ok (.iload_n 1, 1) := by decide +kernel
theorem dX6_left_10 : decode cX6_left 10 = .ok (.goto 20, 3) := by decide +kernel
theorem dX6_left_13 : decode cX6_left 13 = .ok (.iload_n 1, 1) := by decide +kernel
theorem dX6_left_14 : decode cX6_left 14 = .ok (.iload_n 2, 1) := by decide +kernel
theorem dX6_left_15 : decode cX6_left 15 = .ok (.iload_n 3, 1) := by decide +kernel
theorem dX6_left_16 : decode cX6_left 16 = .ok (.invokestatic 119, 3) := by decide +kernel
theorem dX6_left_19 : decode cX6_left 19 = .ok (.aload_n 0, 1) := by decide +kernel
theorem dX6_left_20 : decode cX6_left 20 = .ok (.getfield 7, 3) := by decide +kernel
theorem dX6_left_23 : decode cX6_left 23 = .ok (.iconst 3, 1) := by decide +kernel
theorem dX6_left_24 : decode cX6_left 24 = .ok (.iaload, 1) := by decide +kernel
theorem dX6_left_25 : decode cX6_left 25 = .ok (.idiv, 1) := by decide +kernel
theorem dX6_left_26 : decode cX6_left 26 = .ok (.isub, 1) := by decide +kernel
theorem dX6_left_27 : decode cX6_left 27 = .ok (.invokestatic 93, 3) := by decide +kernel
theorem dX6_left_30 : decode cX6_left 30 = .ok (.ireturn, 1) := by decide +kernel
theorem dX6_dawns_0 : decode cX6_dawns 0 = .ok (.aload_n 0, 1) := by decide +kernel
theorem dX6_dawns_1 : decode cX6_dawns 1 = .ok (.getfield 7, 3) := by decide +kernel
theorem dX6_dawns_4 : decode cX6_dawns 4 = .ok (.bipush 6, 2) := by decide +kernel
theorem dX6_dawns_6 : decode cX6_dawns 6 = .ok (.dup2, 1) := by decide +kernel
theorem dX6_dawns_7 : decode cX6_dawns 7 = .ok (.iaload, 1) := by decide +kernel
theorem dX6_dawns_8 : decode cX6_dawns 8 = .ok (.iconst 1, 1) := by decide +kernel
theorem dX6_dawns_9 : decode cX6_dawns 9 = .ok (.iadd, 1) := by decide +kernel
theorem dX6_dawns_10 : decode cX6_dawns 10 = .ok (.iastore, 1) := by decide +kernel
theorem dX6_dawns_11 : decode cX6_dawns 11 = .ok (.iconst 0, 1) := by decide +kernel
theorem dX6_dawns_12 : decode cX6_dawns 12 = .ok (.istore_n 1, 1) := by decide +kernel
theorem dX6_dawns_13 : decode cX6_dawns 13 = .ok (.iload_n 1, 1) := by decide +kernel
theorem dX6_dawns_14 : decode cX6_dawns 14 = .ok (.aload_n 0, 1) := by decide +kernel
theorem dX6_dawns_15 : decode cX6_dawns 15 = .ok (.getfield 7, 3) := by decide +kernel
theorem dX6_dawns_18 : decode cX6_dawns 18 = .ok (.iconst 0, 1) := by decide +kernel
theorem dX6_dawns_19 : decode cX6_dawns 19 = .ok (.iaload, 1) := by decide +kernel
theorem dX6_dawns_20 : decode cX6_dawns 20 = .ok (.if_icmp .ge 20, 3) := by decide +kernel
theorem dX6_dawns_23 : decode cX6_dawns 23 = .ok (.aload_n 0, 1) := by decide +kernel
theorem dX6_dawns_24 : decode cX6_dawns 24 = .ok (.getfield 7, 3) := by decide +kernel
theorem dX6_dawns_27 : decode cX6_dawns 27 = .ok (.iload_n 1, 1) := by decide +kernel
theorem dX6_dawns_28 : decode cX6_dawns 28 = .ok (.iconst 5, 1) := by decide +kernel
theorem dX6_dawns_29 : decode cX6_dawns 29 = .ok (.invokestatic 63, 3) := by decide +kernel
theorem dX6_dawns_32 : decode cX6_dawns 32 = .ok (.iconst 0, 1) := by decide +kernel
theorem dX6_dawns_33 : decode cX6_dawns 33 = .ok (.iastore, 1) := by decide +kernel
theorem dX6_dawns_34 : decode cX6_dawns 34 = .ok (.iinc 1 1, 3) := by decide +kernel
theorem dX6_dawns_37 : decode cX6_dawns 37 = .ok (.goto (-24), 3) := by decide +kernel
theorem dX6_dawns_40 : decode cX6_dawns 40 = .ok (.return_, 1) := by decide +kernel
theorem dX6_go_0 : decode cX6_go 0 = .ok (.iload_n 1, 1) := by decide +kernel
theorem dX6_go_1 : decode cX6_go 1 = .ok (.invokestatic 69, 3) := by decide +kernel
theorem dX6_go_4 : decode cX6_go 4 = .ok (.ifCond .ne 10, 3) := by decide +kernel
theorem dX6_go_7 : decode cX6_go 7 = .ok (.aload_n 0, 1) := by decide +kernel
theorem dX6_go_8 : decode cX6_go 8 = .ok (.ldc 55, 2) := by decide +kernel
theorem dX6_go_10 : decode cX6_go 10 = .ok (.invokevirtual 81, 3) := by decide +kernel
theorem dX6_go_13 : decode cX6_go 13 = .ok (.ireturn, 1) := by decide +kernel
theorem dX6_go_14 : decode cX6_go 14 = .ok (.aload_n 0, 1) := by decide +kernel
theorem dX6_go_15 : decode cX6_go 15 = .ok (.getfield 7, 3) := by decide +kernel
theorem dX6_go_18 : decode cX6_go 18 = .ok (.iconst 5, 1) := by decide +kernel
theorem dX6_go_19 : decode cX6_go 19 = .ok (.iaload, 1) := by decide +kernel
theorem dX6_go_20 : decode cX6_go 20 = .ok (.aload_n 0, 1) := by decide +kernel
theorem dX6_go_21 : decode cX6_go 21 = .ok (.getfield 7, 3) := by decide +kernel
theorem dX6_go_24 : decode cX6_go 24 = .ok (.bipush 7, 2) := by decide +kernel
theorem dX6_go_26 : decode cX6_go 26 = .ok (.iaload, 1) := by decide +kernel
theorem dX6_go_27 : decode cX6_go 27 = .ok (.iload_n 1, 1) := by decide +kernel
theorem dX6_go_28 : decode cX6_go 28 = .ok (.invokestatic 119, 3) := by decide +kernel
theorem dX6_go_31 : decode cX6_go 31 = .ok (.bipush 10, 2) := by decide +kernel
theorem dX6_go_33 : decode cX6_go 33 = .ok (.idiv, 1) := by decide +kernel
theorem dX6_go_34 : decode cX6_go 34 = .ok (.iadd, 1) := by decide +kernel
theorem dX6_go_35 : decode cX6_go 35 = .ok (.istore_n 2, 1) := by decide +kernel
theorem dX6_go_36 : decode cX6_go 36 = .ok (.iload_n 2, 1) := by decide +kernel
theorem dX6_go_37 : decode cX6_go 37 = .ok (.bipush 23, 2) := by decide +kernel
theorem dX6_go_39 : decode cX6_go 39 = .ok (.if_icmp .le 23, 3) := by decide +kernel
theorem dX6_go_42 : decode cX6_go 42 = .ok (.aload_n 0, 1) := by decide +kernel
theorem dX6_go_43 : decode cX6_go 43 = .ok (.getfield 7, 3) := by decide +kernel
theorem dX6_go_46 : decode cX6_go 46 = .ok (.bipush 6, 2) := by decide +kernel
theorem dX6_go_48 : decode cX6_go 48 = .ok (.iaload, 1) := by decide +kernel
theorem dX6_go_49 : decode cX6_go 49 = .ok (.sipush 999, 3) := by decide +kernel
theorem dX6_go_52 : decode cX6_go 52 = .ok (.if_icmp .ne 10, 3) := by decide +kernel
theorem dX6_go_55 : decode cX6_go 55 = .ok (.aload_n 0, 1) := by decide +kernel
theorem dX6_go_56 : decode cX6_go 56 = .ok (.ldc 122, 2) := by decide +kernel
theorem dX6_go_58 : decode cX6_go 58 = .ok (.invokevirtual 81, 3) := by decide +kernel
theorem dX6_go_61 : decode cX6_go 61 = .ok (.ireturn, 1) := by decide +kernel
theorem dX6_go_62 : decode cX6_go 62 = .ok (.aload_n 0, 1) := by decide +kernel
theorem dX6_go_63 : decode cX6_go 63 = .ok (.aload_n 0, 1) := by decide +kernel
theorem dX6_go_64 : decode cX6_go 64 = .ok (.getfield 7, 3) := by decide +kernel
theorem dX6_go_67 : decode cX6_go 67 = .ok (.bipush 8, 2) := by decide +kernel
theorem dX6_go_69 : decode cX6_go 69 = .ok (.iaload, 1) := by decide +kernel
theorem dX6_go_70 : decode cX6_go 70 = .ok (.aload_n 0, 1) := by decide +kernel
theorem dX6_go_71 : decode cX6_go 71 = .ok (.getfield 7, 3) := by decide +kernel
theorem dX6_go_74 : decode cX6_go 74 = .ok (.bipush 7, 2) := by decide +kernel
theorem dX6_go_76 : decode cX6_go 76 = .ok (.iaload, 1) := by decide +kernel
theorem dX6_go_77 : decode cX6_go 77 = .ok (.iload_n 1, 1) := by decide +kernel
theorem dX6_go_78 : decode cX6_go 78 = .ok (.invokevirtual 123, 3) := by decide +kernel
theorem dX6_go_81 : decode cX6_go 81 = .ok (.istore_n 3, 1) := by decide +kernel
theorem dX6_go_82 : decode cX6_go 82 = .ok (.aload_n 0, 1) := by decide +kernel
theorem dX6_go_83 : decode cX6_go 83 = .ok (.getfield 7, 3) := by decide +kernel
theorem dX6_go_86 : decode cX6_go 86 = .ok (.bipush 10, 2) := by decide +kernel
theorem dX6_go_88 : decode cX6_go 88 = .ok (.dup2, 1) := by decide +kernel
theorem dX6_go_89 : decode cX6_go 89 = .ok (.iaload, 1) := by decide +kernel
theorem dX6_go_90 : decode cX6_go 90 = .ok (.aload_n 0, 1) := by decide +kernel
theorem dX6_go_91 : decode cX6_go 91 = .ok (.getfield 7, 3) := by decide +kernel
theorem dX6_go_94 : decode cX6_go 94 = .ok (.bipush 8, 2) := by decide +kernel
theorem dX6_go_96 : decode cX6_go 96 = .ok (.iaload, 1) := by decide +kernel
theorem dX6_go_97 : decode cX6_go 97 = .ok (.iload_n 3, 1) := by decide +kernel
theorem dX6_go_98 : decode cX6_go 98 = .ok (.isub, 1) := by decide +kernel
theorem dX6_go_99 : decode cX6_go 99 = .ok (.iadd, 1) := by decide +kernel
theorem dX6_go_100 : decode cX6_go 100 = .ok (.iastore, 1) := by decide +kernel
theorem dX6_go_101 : decode cX6_go 101 = .ok (.aload_n 0, 1) := by decide +kernel
theorem dX6_go_102 : decode cX6_go 102 = .ok (.getfield 7, 3) := by decide +kernel
theorem dX6_go_105 : decode cX6_go 105 = .ok (.bipush 8, 2) := by decide +kernel
theorem dX6_go_107 : decode cX6_go 107 = .ok (.iload_n 3, 1) := by decide +kernel
theorem dX6_go_108 : decode cX6_go 108 = .ok (.iastore, 1) := by decide +kernel
theorem dX6_go_109 : decode cX6_go 109 = .ok (.aload_n 0, 1) := by decide +kernel
theorem dX6_go_110 : decode cX6_go 110 = .ok (.getfield 7, 3) := by decide +kernel
theorem dX6_go_113 : decode cX6_go 113 = .ok (.bipush 7, 2) := by decide +kernel
theorem dX6_go_115 : decode cX6_go 115 = .ok (.iload_n 1, 1) := by decide +kernel
theorem dX6_go_116 : decode cX6_go 116 = .ok (.iastore, 1) := by decide +kernel
theorem dX6_go_117 : decode cX6_go 117 = .ok (.aload_n 0, 1) := by decide +kernel
theorem dX6_go_118 : decode cX6_go 118 = .ok (.getfield 7, 3) := by decide +kernel
theorem dX6_go_121 : decode cX6_go 121 = .ok (.iconst 5, 1) := by decide +kernel
theorem dX6_go_122 : decode cX6_go 122 = .ok (.iload_n 2, 1) := by decide +kernel
theorem dX6_go_123 : decode cX6_go 123 = .ok (.bipush 24, 2) := by decide +kernel
theorem dX6_go_125 : decode cX6_go 125 = .ok (.irem, 1) := by decide +kernel
theorem dX6_go_126 : decode cX6_go 126 = .ok (.iastore, 1) := by decide +kernel
theorem dX6_go_127 : decode cX6_go 127 = .ok (.iload_n 2, 1) := by decide +kernel
theorem dX6_go_128 : decode cX6_go 128 = .ok (.bipush 23, 2) := by decide +kernel
theorem dX6_go_130 : decode cX6_go 130 = .ok (.if_icmp .le 7, 3) := by decide +kernel
theorem dX6_go_133 : decode cX6_go 133 = .ok (.aload_n 0, 1) := by decide +kernel
theorem dX6_go_134 : decode cX6_go 134 = .ok (.invokevirtual 127, 3) := by decide +kernel
theorem dX6_go_137 : decode cX6_go 137 = .ok (.iload_n 3, 1) := by decide +kernel
theorem dX6_go_138 : decode cX6_go 138 = .ok (.ireturn, 1) := by decide +kernel
theorem dX6_isReady_0 : decode cX6_isReady 0 = .ok (.aload_n 0, 1) := by decide +kernel
theorem dX6_isReady_1 : decode cX6_isReady 1 = .ok (.iload_n 1, 1) := by decide +kernel
theorem dX6_isReady_2 : decode cX6_isReady 2 = .ok (.iconst 5, 1) := by decide +kernel
theorem dX6_isReady_3 : decode cX6_isReady 3 = .ok (.invokevirtual 90, 3) := by decide +kernel
theorem dX6_isReady_6 : decode cX6_isReady 6 = .ok (.ifCond .ne 30, 3) := by decide +kernel
theorem dX6_isReady_9 : decode cX6_isReady 9 = .ok (.aload_n 0, 1) := by decide +kernel
theorem dX6_isReady_10 : decode cX6_isReady 10 = .ok (.iload_n 1, 1) := by decide +kernel
theorem dX6_isReady_11 : decode cX6_isReady 11 = .ok (.invokevirtual 96, 3) := by decide +kernel
theorem dX6_isReady_14 : decode cX6_isReady 14 = .ok (.ifCond .le 22, 3) := by decide +kernel
theorem dX6_isReady_17 : decode cX6_isReady 17 = .ok (.aload_n 0, 1) := by decide +kernel
theorem dX6_isReady_18 : decode cX6_isReady 18 = .ok (.getfield 7, 3) := by decide +kernel
theorem dX6_isReady_21 : decode cX6_isReady 21 = .ok (.bipush 8, 2) := by decide +kernel
theorem dX6_isReady_23 : decode cX6_isReady 23 = .ok (.iaload, 1) := by decide +kernel
theorem dX6_isReady_24 : decode cX6_isReady 24 = .ok (.aload_n 0, 1) := by decide +kernel
theorem dX6_isReady_25 : decode cX6_isReady 25 = .ok (.iload_n 1, 1) := by decide +kernel
theorem dX6_isReady_26 : decode cX6_isReady 26 = .ok (.invokevirtual 104, 3) := by decide +kernel
theorem dX6_isReady_29 : decode cX6_isReady 29 = .ok (.if_icmp .lt 7, 3) := by decide +kernel
theorem dX6_isReady_32 : decode cX6_isReady 32 = .ok (.iconst 1, 1) := by decide +kernel
theorem dX6_isReady_33 : decode cX6_isReady 33 = .ok (.goto 4, 3) := by decide +kernel
theorem dX6_isReady_36 : decode cX6_isReady 36 = .ok (.iconst 0, 1) := by decide +kernel
theorem dX6_isReady_37 : decode cX6_isReady 37 = .ok (.ireturn, 1) := by decide +kernel
theorem dX6_run_0 : decode cX6_run 0 = .ok (.aload_n 0, 1) := by decide +kernel
theorem dX6_run_1 : decode cX6_run 1 = .ok (.iload_n 1, 1) := by decide +kernel
theorem dX6_run_2 : decode cX6_run 2 = .ok (.invokevirtual 99, 3) := by decide +kernel
theorem dX6_run_5 : decode cX6_run 5 = .ok (.ifCond .ne 10, 3) := by decide +kernel
theorem dX6_run_8 : decode cX6_run 8 = .ok (.aload_n 0, 1) := by decide +kernel
theorem dX6_run_9 : decode cX6_run 9 = .ok (.ldc 55, 2) := by decide +kernel
theorem dX6_run_11 : decode cX6_run 11 = .ok (.invokevirtual 81, 3) := by decide +kernel
theorem dX6_run_14 : decode cX6_run 14 = .ok (.ireturn, 1) := by decide +kernel
theorem dX6_run_15 : decode cX6_run 15 = .ok (.aload_n 0, 1) := by decide +kernel
theorem dX6_run_16 : decode cX6_run 16 = .ok (.iload_n 1, 1) := by decide +kernel
theorem dX6_run_17 : decode cX6_run 17 = .ok (.iconst 1, 1) := by decide +kernel
theorem dX6_run_18 : decode cX6_run 18 = .ok (.invokevirtual 90, 3) := by decide +kernel
theorem dX6_run_21 : decode cX6_run 21 = .ok (.aload_n 0, 1) := by decide +kernel
theorem dX6_run_22 : decode cX6_run 22 = .ok (.getfield 7, 3) := by decide +kernel
theorem dX6_run_25 : decode cX6_run 25 = .ok (.bipush 7, 2) := by decide +kernel
theorem dX6_run_27 : decode cX6_run 27 = .ok (.iaload, 1) := by decide +kernel
theorem dX6_run_28 : decode cX6_run 28 = .ok (.if_icmp .ne 11, 3) := by decide +kernel
theorem dX6_run_31 : decode cX6_run 31 = .ok (.aload_n 0, 1) := by decide +kernel
theorem dX6_run_32 : decode cX6_run 32 = .ok (.iload_n 1, 1) := by decide +kernel
theorem dX6_run_33 : decode cX6_run 33 = .ok (.invokevirtual 130, 3) := by decide +kernel
theorem dX6_run_36 : decode cX6_run 36 = .ok (.ifCond .ne 10, 3) := by decide +kernel
theorem dX6_run_39 : decode cX6_run 39 = .ok (.aload_n 0, 1) := by decide +kernel
theorem dX6_run_40 : decode cX6_run 40 = .ok (.ldc 122, 2) := by decide +kernel
theorem dX6_run_42 : decode cX6_run 42 = .ok (.invokevirtual 81, 3) := by decide +kernel
theorem dX6_run_45 : decode cX6_run 45 = .ok (.ireturn, 1) := by decide +kernel
theorem dX6_run_46 : decode cX6_run 46 = .ok (.aload_n 0, 1) := by decide +kernel
theorem dX6_run_47 : decode cX6_run 47 = .ok (.iload_n 1, 1) := by decide +kernel
theorem dX6_run_48 : decode cX6_run 48 = .ok (.iconst 3, 1) := by decide +kernel
theorem dX6_run_49 : decode cX6_run 49 = .ok (.invokevirtual 90, 3) := by decide +kernel
theorem dX6_run_52 : decode cX6_run 52 = .ok (.ifCond .le 7, 3) := by decide +kernel
theorem dX6_run_55 : decode cX6_run 55 = .ok (.iconst 1, 1) := by decide +kernel
theorem dX6_run_56 : decode cX6_run 56 = .ok (.goto 4, 3) := by decide +kernel
theorem dX6_run_59 : decode cX6_run 59 = .ok (.iconst 0, 1) := by decide +kernel
theorem dX6_run_60 : decode cX6_run 60 = .ok (.istore_n 2, 1) := by decide +kernel
theorem dX6_run_61 : decode cX6_run 61 = .ok (.iload_n 2, 1) := by decide +kernel
theorem dX6_run_62 : decode cX6_run 62 = .ok (.ifCond .eq 25, 3) := by decide +kernel
theorem dX6_run_65 : decode cX6_run 65 = .ok (.aload_n 0, 1) := by decide +kernel
theorem dX6_run_66 : decode cX6_run 66 = .ok (.invokevirtual 133, 3) := by decide +kernel
theorem dX6_run_69 : decode cX6_run 69 = .ok (.bipush 12, 2) := by decide +kernel
theorem dX6_run_71 : decode cX6_run 71 = .ok (.irem, 1) := by decide +kernel
theorem dX6_run_72 : decode cX6_run 72 = .ok (.aload_n 0, 1) := by decide +kernel
theorem dX6_run_73 : decode cX6_run 73 = .ok (.iload_n 1, 1) := by decide +kernel
theorem dX6_run_74 : decode cX6_run 74 = .ok (.iconst 3, 1) := by decide +kernel
theorem dX6_run_75 : decode cX6_run 75 = .ok (.invokevirtual 90, 3) := by decide +kernel
theorem dX6_run_78 : decode cX6_run 78 = .ok (.if_icmp .ge 7, 3) := by decide +kernel
theorem dX6_run_81 : decode cX6_run 81 = .ok (.iconst 1, 1) := by decide +kernel
theorem dX6_run_82 : decode cX6_run 82 = .ok (.goto 4, 3) := by decide +kernel
theorem dX6_run_85 : decode cX6_run 85 = .ok (.iconst 0, 1) := by decide +kernel
theorem dX6_run_86 : decode cX6_run 86 = .ok (.istore_n 2, 1) := by decide +kernel
theorem dX6_run_87 : decode cX6_run 87 = .ok (.aload_n 0, 1) := by decide +kernel
theorem dX6_run_88 : decode cX6_run 88 = .ok (.getfield 7, 3) := by decide +kernel
theorem dX6_run_91 : decode cX6_run 91 = .ok (.bipush 8, 2) := by decide +kernel
theorem dX6_run_93 : decode cX6_run 93 = .ok (.iaload, 1) := by decide +kernel
theorem dX6_run_94 : decode cX6_run 94 = .ok (.aload_n 0, 1) := by decide +kernel
theorem dX6_run_95 : decode cX6_run 95 = .ok (.iload_n 1, 1) := by decide +kernel
theorem dX6_run_96 : decode cX6_run 96 = .ok (.invokevirtual 104, 3) := by decide +kernel
theorem dX6_run_99 : decode cX6_run 99 = .ok (.isub, 1) := by decide +kernel
theorem dX6_run_100 : decode cX6_run 100 = .ok (.iload_n 2, 1) := by decide +kernel
theorem dX6_run_101 : decode cX6_run 101 = .ok (.ifCond .eq 7, 3) := by decide +kernel
theorem dX6_run_104 : decode cX6_run 104 = .ok (.iconst 0, 1) := by decide +kernel
theorem dX6_run_105 : decode cX6_run 105 = .ok (.goto 8, 3) := by decide +kernel
theorem dX6_run_108 : decode cX6_run 108 = .ok (.aload_n 0, 1) := by decide +kernel
theorem dX6_run_109 : decode cX6_run 109 = .ok (.iload_n 1, 1) := by decide +kernel
theorem dX6_run_110 : decode cX6_run 110 = .ok (.invokevirtual 96, 3) := by decide +kernel
theorem dX6_run_113 : decode cX6_run 113 = .ok (.iadd, 1) := by decide +kernel
theorem dX6_run_114 : decode cX6_run 114 = .ok (.istore_n 3, 1) := by decide +kernel
theorem dX6_run_115 : decode cX6_run 115 = .ok (.iload_n 3, 1) := by decide +kernel
theorem dX6_run_116 : decode cX6_run 116 = .ok (.aload_n 0, 1) := by decide +kernel
theorem dX6_run_117 : decode cX6_run 117 = .ok (.getfield 7, 3) := by decide +kernel
theorem dX6_run_120 : decode cX6_run 120 = .ok (.iconst 2, 1) := by decide +kernel
theorem dX6_run_121 : decode cX6_run 121 = .ok (.iaload, 1) := by decide +kernel
theorem dX6_run_122 : decode cX6_run 122 = .ok (.isub, 1) := by decide +kernel
theorem dX6_run_123 : decode cX6_run 123 = .ok (.invokestatic 93, 3) := by decide +kernel
theorem dX6_run_126 : decode cX6_run 126 = .ok (.istore 4, 2) := by decide +kernel
theorem dX6_run_128 : decode cX6_run 128 = .ok (.aload_n 0, 1) := by decide +kernel
theorem dX6_run_129 : decode cX6_run 129 = .ok (.getfield 7, 3) := by decide +kernel
theorem dX6_run_132 : decode cX6_run 132 = .ok (.bipush 8, 2) := by decide +kernel
theorem dX6_run_134 : decode cX6_run 134 = .ok (.iload_n 3, 1) := by decide +kernel
theorem dX6_run_135 : decode cX6_run 135 = .ok (.iload 4, 2) := by decide +kernel
theorem dX6_run_137 : decode cX6_run 137 = .ok (.isub, 1) := by decide +kernel
theorem dX6_run_138 : decode cX6_run 138 = .ok (.iastore, 1) := by decide +kernel
theorem dX6_run_139 : decode cX6_run 139 = .ok (.aload_n 0, 1) := by decide +kernel
theorem dX6_run_140 : decode cX6_run 140 = .ok (.getfield 7, 3) := by decide +kernel
theorem dX6_run_143 : decode cX6_run 143 = .ok (.bipush 11, 2) := by decide +kernel
theorem dX6_run_145 : decode cX6_run 145 = .ok (.dup2, 1) := by decide +kernel
theorem dX6_run_146 : decode cX6_run 146 = .ok (.iaload, 1) := by decide +kernel
theorem dX6_run_147 : decode cX6_run 147 = .ok (.iload 4, 2) := by decide +kernel
theorem dX6_run_149 : decode cX6_run 149 = .ok (.iadd, 1) := by decide +kernel
theorem dX6_run_150 : decode cX6_run 150 = .ok (.iastore, 1) := by decide +kernel
theorem dX6_run_151 : decode cX6_run 151 = .ok (.aload_n 0, 1) := by decide +kernel
theorem dX6_run_152 : decode cX6_run 152 = .ok (.getfield 7, 3) := by decide +kernel
theorem dX6_run_155 : decode cX6_run 155 = .ok (.iload_n 1, 1) := by decide +kernel
theorem dX6_run_156 : decode cX6_run 156 = .ok (.iconst 4, 1) := by decide +kernel
theorem dX6_run_157 : decode cX6_run 157 = .ok (.invokestatic 63, 3) := by decide +kernel
theorem dX6_run_160 : decode cX6_run 160 = .ok (.dup2, 1) := by decide +kernel
theorem dX6_run_161 : decode cX6_run 161 = .ok (.iaload, 1) := by decide +kernel
theorem dX6_run_162 : decode cX6_run 162 = .ok (.iload_n 2, 1) := by decide +kernel
theorem dX6_run_163 : decode cX6_run 163 = .ok (.ifCond .eq 7, 3) := by decide +kernel
theorem dX6_run_166 : decode cX6_run 166 = .ok (.iconst 0, 1) := by decide +kernel
theorem dX6_run_167 : decode cX6_run 167 = .ok (.goto 4, 3) := by decide +kernel
theorem dX6_run_170 : decode cX6_run 170 = .ok (.iconst 1, 1) := by decide +kernel
theorem dX6_run_171 : decode cX6_run 171 = .ok (.iadd, 1) := by decide +kernel
theorem dX6_run_172 : decode cX6_run 172 = .ok (.iastore, 1) := by decide +kernel
theorem dX6_run_173 : decode cX6_run 173 = .ok (.aload_n 0, 1) := by decide +kernel
theorem dX6_run_174 : decode cX6_run 174 = .ok (.getfield 7, 3) := by decide +kernel
theorem dX6_run_177 : decode cX6_run 177 = .ok (.iload_n 1, 1) := by decide +kernel
theorem dX6_run_178 : decode cX6_run 178 = .ok (.iconst 5, 1) := by decide +kernel
theorem dX6_run_179 : decode cX6_run 179 = .ok (.invokestatic 63, 3) := by decide +kernel
theorem dX6_run_182 : decode cX6_run 182 = .ok (.iload_n 2, 1) := by decide +kernel
theorem dX6_run_183 : decode cX6_run 183 = .ok (.ifCond .eq 7, 3) := by decide +kernel
theorem dX6_run_186 : decode cX6_run 186 = .ok (.iconst 0, 1) := by decide +kernel
theorem dX6_run_187 : decode cX6_run 187 = .ok (.goto 4, 3) := by decide +kernel
theorem dX6_run_190 : decode cX6_run 190 = .ok (.iconst 1, 1) := by decide +kernel
theorem dX6_run_191 : decode cX6_run 191 = .ok (.iastore, 1) := by decide +kernel
theorem dX6_run_192 : decode cX6_run 192 = .ok (.aload_n 0, 1) := by decide +kernel
theorem dX6_run_193 : decode cX6_run 193 = .ok (.getfield 7, 3) := by decide +kernel
theorem dX6_run_196 : decode cX6_run 196 = .ok (.bipush 8, 2) := by decide +kernel
theorem dX6_run_198 : decode cX6_run 198 = .ok (.iaload, 1) := by decide +kernel
theorem dX6_run_199 : decode cX6_run 199 = .ok (.ireturn, 1) := by decide +kernel
theorem dX6_can_0 : decode cX6_can 0 = .ok (.aload_n 0, 1) := by decide +kernel
theorem dX6_can_1 : decode cX6_can 1 = .ok (.iload_n 1, 1) := by decide +kernel
theorem dX6_can_2 : decode cX6_can 2 = .ok (.invokevirtual 99, 3) := by decide +kernel
theorem dX6_can_5 : decode cX6_can 5 = .ok (.ifCond .eq 19, 3) := by decide +kernel
theorem dX6_can_8 : decode cX6_can 8 = .ok (.aload_n 0, 1) := by decide +kernel
theorem dX6_can_9 : decode cX6_can 9 = .ok (.iload_n 1, 1) := by decide +kernel
theorem dX6_can_10 : decode cX6_can 10 = .ok (.invokevirtual 130, 3) := by decide +kernel
theorem dX6_can_13 : decode cX6_can 13 = .ok (.ifCond .eq 7, 3) := by decide +kernel
theorem dX6_can_16 : decode cX6_can 16 = .ok (.iconst 1, 1) := by decide +kernel
theorem dX6_can_17 : decode cX6_can 17 = .ok (.goto 13, 3) := by decide +kernel
theorem dX6_can_20 : decode cX6_can 20 = .ok (.iconst 0, 1) := by decide +kernel
theorem dX6_can_21 : decode cX6_can 21 = .ok (.goto 9, 3) := by decide +kernel
theorem dX6_can_24 : decode cX6_can 24 = .ok (.aload_n 0, 1) := by decide +kernel
theorem dX6_can_25 : decode cX6_can 25 = .ok (.ldc 55, 2) := by decide +kernel
theorem dX6_can_27 : decode cX6_can 27 = .ok (.invokevirtual 81, 3) := by decide +kernel
theorem dX6_can_30 : decode cX6_can 30 = .ok (.ireturn, 1) := by decide +kernel
theorem dX6_pour_0 : decode cX6_pour 0 = .ok (.aload_n 0, 1) := by decide +kernel
theorem dX6_pour_1 : decode cX6_pour 1 = .ok (.getfield 7, 3) := by decide +kernel
theorem dX6_pour_4 : decode cX6_pour 4 = .ok (.bipush 7, 2) := by decide +kernel
theorem dX6_pour_6 : decode cX6_pour 6 = .ok (.iaload, 1) := by decide +kernel
theorem dX6_pour_7 : decode cX6_pour 7 = .ok (.ifCond .eq 10, 3) := by decide +kernel
theorem dX6_pour_10 : decode cX6_pour 10 = .ok (.aload_n 0, 1) := by decide +kernel
theorem dX6_pour_11 : decode cX6_pour 11 = .ok (.ldc 122, 2) := by decide +kernel
theorem dX6_pour_13 : decode cX6_pour 13 = .ok (.invokevirtual 81, 3) := by decide +kernel
theorem dX6_pour_16 : decode cX6_pour 16 = .ok (.ireturn, 1) := by decide +kernel
theorem dX6_pour_17 : decode cX6_pour 17 = .ok (.aload_n 0, 1) := by decide +kernel
theorem dX6_pour_18 : decode cX6_pour 18 = .ok (.getfield 7, 3) := by decide +kernel
theorem dX6_pour_21 : decode cX6_pour 21 = .ok (.bipush 8, 2) := by decide +kernel
theorem dX6_pour_23 : decode cX6_pour 23 = .ok (.iaload, 1) := by decide +kernel
theorem dX6_pour_24 : decode cX6_pour 24 = .ok (.istore_n 1, 1) := by decide +kernel
theorem dX6_pour_25 : decode cX6_pour 25 = .ok (.aload_n 0, 1) := by decide +kernel
theorem dX6_pour_26 : decode cX6_pour 26 = .ok (.getfield 7, 3) := by decide +kernel
theorem dX6_pour_29 : decode cX6_pour 29 = .ok (.bipush 9, 2) := by decide +kernel
theorem dX6_pour_31 : decode cX6_pour 31 = .ok (.dup2, 1) := by decide +kernel
theorem dX6_pour_32 : decode cX6_pour 32 = .ok (.iaload, 1) := by decide +kernel
theorem dX6_pour_33 : decode cX6_pour 33 = .ok (.iload_n 1, 1) := by decide +kernel
theorem dX6_pour_34 : decode cX6_pour 34 = .ok (.iadd, 1) := by decide +kernel
theorem dX6_pour_35 : decode cX6_pour 35 = .ok (.iastore, 1) := by decide +kernel
theorem dX6_pour_36 : decode cX6_pour 36 = .ok (.aload_n 0, 1) := by decide +kernel
theorem dX6_pour_37 : decode cX6_pour 37 = .ok (.getfield 7, 3) := by decide +kernel
theorem dX6_pour_40 : decode cX6_pour 40 = .ok (.bipush 8, 2) := by decide +kernel
theorem dX6_pour_42 : decode cX6_pour 42 = .ok (.iconst 0, 1) := by decide +kernel
theorem dX6_pour_43 : decode cX6_pour 43 = .ok (.iastore, 1) := by decide +kernel
theorem dX6_pour_44 : decode cX6_pour 44 = .ok (.iload_n 1, 1) := by decide +kernel
theorem dX6_pour_45 : decode cX6_pour 45 = .ok (.ireturn, 1) := by decide +kernel
theorem dX6_fill_0 : decode cX6_fill 0 = .ok (.iload_n 1, 1) := by decide +kernel
theorem dX6_fill_1 : decode cX6_fill 1 = .ok (.i2l, 1) := by decide +kernel
theorem dX6_fill_2 : decode cX6_fill 2 = .ok (.lconst 1, 1) := by decide +kernel
theorem dX6_fill_3 : decode cX6_fill 3 = .ok (.ldc2_w 107, 3) := by decide +kernel
theorem dX6_fill_6 : decode cX6_fill 6 = .ok (.invokestatic 58, 3) := by decide +kernel
theorem dX6_fill_9 : decode cX6_fill 9 = .ok (.ifCond .ne 10, 3) := by decide +kernel
theorem dX6_fill_12 : decode cX6_fill 12 = .ok (.aload_n 0, 1) := by decide +kernel
theorem dX6_fill_13 : decode cX6_fill 13 = .ok (.ldc 55, 2) := by decide +kernel
theorem dX6_fill_15 : decode cX6_fill 15 = .ok (.invokevirtual 81, 3) := by decide +kernel
theorem dX6_fill_18 : decode cX6_fill 18 = .ok (.ireturn, 1) := by decide +kernel
theorem dX6_fill_19 : decode cX6_fill 19 = .ok (.aload_n 0, 1) := by decide +kernel
theorem dX6_fill_20 : decode cX6_fill 20 = .ok (.getfield 7, 3) := by decide +kernel
theorem dX6_fill_23 : decode cX6_fill 23 = .ok (.bipush 7, 2) := by decide +kernel
theorem dX6_fill_25 : decode cX6_fill 25 = .ok (.iaload, 1) := by decide +kernel
theorem dX6_fill_26 : decode cX6_fill 26 = .ok (.ifCond .ne 32, 3) := by decide +kernel
theorem dX6_fill_29 : decode cX6_fill 29 = .ok (.aload_n 0, 1) := by decide +kernel
theorem dX6_fill_30 : decode cX6_fill 30 = .ok (.getfield 7, 3) := by decide +kernel
theorem dX6_fill_33 : decode cX6_fill 33 = .ok (.bipush 9, 2) := by decide +kernel
theorem dX6_fill_35 : decode cX6_fill 35 = .ok (.iaload, 1) := by decide +kernel
theorem dX6_fill_36 : decode cX6_fill 36 = .ok (.iload_n 1, 1) := by decide +kernel
theorem dX6_fill_37 : decode cX6_fill 37 = .ok (.if_icmp .lt 21, 3) := by decide +kernel
theorem dX6_fill_40 : decode cX6_fill 40 = .ok (.aload_n 0, 1) := by decide +kernel
theorem dX6_fill_41 : decode cX6_fill 41 = .ok (.getfield 7, 3) := by decide +kernel
theorem dX6_fill_44 : decode cX6_fill 44 = .ok (.bipush 8, 2) := by decide +kernel
theorem dX6_fill_46 : decode cX6_fill 46 = .ok (.iaload, 1) := by decide +kernel
theorem dX6_fill_47 : decode cX6_fill 47 = .ok (.iload_n 1, 1) := by decide +kernel
theorem dX6_fill_48 : decode cX6_fill 48 = .ok (.iadd, 1) := by decide +kernel
theorem dX6_fill_49 : decode cX6_fill 49 = .ok (.aload_n 0, 1) := by decide +kernel
theorem dX6_fill_50 : decode cX6_fill 50 = .ok (.getfield 7, 3) := by decide +kernel
theorem dX6_fill_53 : decode cX6_fill 53 = .ok (.iconst 2, 1) := by decide +kernel
theorem dX6_fill_54 : decode cX6_fill 54 = .ok (.iaload, 1) := by decide +kernel
theorem dX6_fill_55 : decode cX6_fill 55 = .ok (.if_icmp .le 10, 3) := by decide +kernel
theorem dX6_fill_58 : decode cX6_fill 58 = .ok (.aload_n 0, 1) := by decide +kernel
theorem dX6_fill_59 : decode cX6_fill 59 = .ok (.ldc 122, 2) := by decide +kernel
theorem dX6_fill_61 : decode cX6_fill 61 = .ok (.invokevirtual 81, 3) := by decide +kernel
theorem dX6_fill_64 : decode cX6_fill 64 = .ok (.ireturn, 1) := by decide +kernel
theorem dX6_fill_65 : decode cX6_fill 65 = .ok (.aload_n 0, 1) := by decide +kernel
theorem dX6_fill_66 : decode cX6_fill 66 = .ok (.getfield 7, 3) := by decide +kernel
theorem dX6_fill_69 : decode cX6_fill 69 = .ok (.bipush 9, 2) := by decide +kernel
theorem dX6_fill_71 : decode cX6_fill 71 = .ok (.dup2, 1) := by decide +kernel
theorem dX6_fill_72 : decode cX6_fill 72 = .ok (.iaload, 1) := by decide +kernel
theorem dX6_fill_73 : decode cX6_fill 73 = .ok (.iload_n 1, 1) := by decide +kernel
theorem dX6_fill_74 : decode cX6_fill 74 = .ok (.isub, 1) := by decide +kernel
theorem dX6_fill_75 : decode cX6_fill 75 = .ok (.iastore, 1) := by decide +kernel
theorem dX6_fill_76 : decode cX6_fill 76 = .ok (.aload_n 0, 1) := by decide +kernel
theorem dX6_fill_77 : decode cX6_fill 77 = .ok (.getfield 7, 3) := by decide +kernel
theorem dX6_fill_80 : decode cX6_fill 80 = .ok (.bipush 8, 2) := by decide +kernel
theorem dX6_fill_82 : decode cX6_fill 82 = .ok (.dup2, 1) := by decide +kernel
theorem dX6_fill_83 : decode cX6_fill 83 = .ok (.iaload, 1) := by decide +kernel
theorem dX6_fill_84 : decode cX6_fill 84 = .ok (.iload_n 1, 1) := by decide +kernel
theorem dX6_fill_85 : decode cX6_fill 85 = .ok (.iadd, 1) := by decide +kernel
theorem dX6_fill_86 : decode cX6_fill 86 = .ok (.iastore, 1) := by decide +kernel
theorem dX6_fill_87 : decode cX6_fill 87 = .ok (.aload_n 0, 1) := by decide +kernel
theorem dX6_fill_88 : decode cX6_fill 88 = .ok (.getfield 7, 3) := by decide +kernel
theorem dX6_fill_91 : decode cX6_fill 91 = .ok (.bipush 8, 2) := by decide +kernel
theorem dX6_fill_93 : decode cX6_fill 93 = .ok (.iaload, 1) := by decide +kernel
theorem dX6_fill_94 : decode cX6_fill 94 = .ok (.ireturn, 1) := by decide +kernel
theorem dX6_night_0 : decode cX6_night 0 = .ok (.aload_n 0, 1) := by decide +kernel
theorem dX6_night_1 : decode cX6_night 1 = .ok (.getfield 7, 3) := by decide +kernel
theorem dX6_night_4 : decode cX6_night 4 = .ok (.bipush 6, 2) := by decide +kernel
theorem dX6_night_6 : decode cX6_night 6 = .ok (.iaload, 1) := by decide +kernel
theorem dX6_night_7 : decode cX6_night 7 = .ok (.sipush 999, 3) := by decide +kernel
theorem dX6_night_10 : decode cX6_night 10 = .ok (.if_icmp .ne 10, 3) := by decide +kernel
theorem dX6_night_13 : decode cX6_night 13 = .ok (.aload_n 0, 1) := by decide +kernel
theorem dX6_night_14 : decode cX6_night 14 = .ok (.ldc 122, 2) := by decide +kernel
theorem dX6_night_16 : decode cX6_night 16 = .ok (.invokevirtual 81, 3) := by decide +kernel
theorem dX6_night_19 : decode cX6_night 19 = .ok (.ireturn, 1) := by decide +kernel
theorem dX6_night_20 : decode cX6_night 20 = .ok (.aload_n 0, 1) := by decide +kernel
theorem dX6_night_21 : decode cX6_night 21 = .ok (.getfield 7, 3) := by decide +kernel
theorem dX6_night_24 : decode cX6_night 24 = .ok (.iconst 5, 1) := by decide +kernel
theorem dX6_night_25 : decode cX6_night 25 = .ok (.iconst 0, 1) := by decide +kernel
theorem dX6_night_26 : decode cX6_night 26 = .ok (.iastore, 1) := by decide +kernel
theorem dX6_night_27 : decode cX6_night 27 = .ok (.aload_n 0, 1) := by decide +kernel
theorem dX6_night_28 : decode cX6_night 28 = .ok (.invokevirtual 127, 3) := by decide +kernel
theorem dX6_night_31 : decode cX6_night 31 = .ok (.aload_n 0, 1) := by decide +kernel
theorem dX6_night_32 : decode cX6_night 32 = .ok (.getfield 7, 3) := by decide +kernel
theorem dX6_night_35 : decode cX6_night 35 = .ok (.bipush 6, 2) := by decide +kernel
theorem dX6_night_37 : decode cX6_night 37 = .ok (.iaload, 1) := by decide +kernel
theorem dX6_night_38 : decode cX6_night 38 = .ok (.ireturn, 1) := by decide +kernel
theorem dX6_findYields_0 : decode cX6_findYields 0 = .ok (.aload_n 0, 1) := by decide +kernel
theorem dX6_findYields_1 : decode cX6_findYields 1 = .ok (.iconst 0, 1) := by decide +kernel
theorem dX6_findYields_2 : decode cX6_findYields 2 = .ok (.putfield 137, 3) := by decide +kernel
theorem dX6_findYields_5 : decode cX6_findYields 5 = .ok (.iconst 0, 1) := by decide +kernel
theorem dX6_findYields_6 : decode cX6_findYields 6 = .ok (.istore_n 1, 1) := by decide +kernel
theorem dX6_findYields_7 : decode cX6_findYields 7 = .ok (.iload_n 1, 1) := by decide +kernel
theorem dX6_findYields_8 : decode cX6_findYields 8 = .ok (.aload_n 0, 1) := by decide +kernel
theorem dX6_findYields_9 : decode cX6_findYields 9 = .ok (.getfield 7, 3) := by decide +kernel
theorem dX6_findYields_12 : decode cX6_findYields 12 = .ok (.iconst 0, 1) := by decide +kernel
theorem dX6_findYields_13 : decode cX6_findYields 13 = .ok (.iaload, 1) := by decide +kernel
theorem dX6_findYields_14 : decode cX6_findYields 14 = .ok (.if_icmp .ge 117, 3) := by decide +kernel
theorem dX6_findYields_17 : decode cX6_findYields 17 = .ok (.aload_n 0, 1) := by decide +kernel
theorem dX6_findYields_18 : decode cX6_findYields 18 = .ok (.getfield 22, 3) := by decide +kernel
theorem dX6_findYields_21 : decode cX6_findYields 21 = .ok (.iload_n 1, 1) := by decide +kernel
theorem dX6_findYields_22 : decode cX6_findYields 22 = .ok (.aload_n 0, 1) := by decide +kernel
theorem dX6_findYields_23 : decode cX6_findYields 23 = .ok (.iload_n 1, 1) := by decide +kernel
theorem dX6_findYields_24 : decode cX6_findYields 24 = .ok (.invokevirtual 96, 3) := by decide +kernel
theorem dX6_findYields_27 : decode cX6_findYields 27 = .ok (.iastore, 1) := by decide +kernel
theorem dX6_findYields_28 : decode cX6_findYields 28 = .ok (.aload_n 0, 1) := by decide +kernel
theorem dX6_findYields_29 : decode cX6_findYields 29 = .ok (.getfield 25, 3) := by decide +kernel
theorem dX6_findYields_32 : decode cX6_findYields 32 = .ok (.iload_n 1, 1) := by decide +kernel
theorem dX6_findYields_33 : decode cX6_findYields 33 = .ok (.aload_n 0, 1) := by decide +kernel
theorem dX6_findYields_34 : decode cX6_findYields 34 = .ok (.iload_n 1, 1) := by decide +kernel
theorem dX6_findYields_35 : decode cX6_findYields 35 = .ok (.invokevirtual 104, 3) := by decide +kernel
theorem dX6_findYields_38 : decode cX6_findYields 38 = .ok (.iastore, 1) := by decide +kernel
theorem dX6_findYields_39 : decode cX6_findYields 39 = .ok (.aload_n 0, 1) := by decide +kernel
theorem dX6_findYields_40 : decode cX6_findYields 40 = .ok (.dup, 1) := by decide +kernel
theorem dX6_findYields_41 : decode cX6_findYields 41 = .ok (.getfield 137, 3) := by decide +kernel
theorem dX6_findYields_44 : decode cX6_findYields 44 = .ok (.aload_n 0, 1) := by decide +kernel
theorem dX6_findYields_45 : decode cX6_findYields 45 = .ok (.getfield 22, 3) := by decide +kernel
theorem dX6_findYields_48 : decode cX6_findYields 48 = .ok (.iload_n 1, 1) := by decide +kernel
theorem dX6_findYields_49 : decode cX6_findYields 49 = .ok (.iaload, 1) := by decide +kernel
theorem dX6_findYields_50 : decode cX6_findYields 50 = .ok (.ifCond .le 18, 3) := by decide +kernel
theorem dX6_findYields_53 : decode cX6_findYields 53 = .ok (.aload_n 0, 1) := by decide +kernel
theorem dX6_findYields_54 : decode cX6_findYields 54 = .ok (.iload_n 1, 1) := by decide +kernel
theorem dX6_findYields_55 : decode cX6_findYields 55 = .ok (.iconst 5, 1) := by decide +kernel
theorem dX6_findYields_56 : decode cX6_findYields 56 = .ok (.invokevirtual 90, 3) := by decide +kernel
theorem dX6_findYields_59 : decode cX6_findYields 59 = .ok (.ifCond .ne 9, 3) := by decide +kernel
theorem dX6_findYields_62 : decode cX6_findYields 62 = .ok (.iconst 1, 1) := by decide +kernel
theorem dX6_findYields_63 : decode cX6_findYields 63 = .ok (.iload_n 1, 1) := by decide +kernel
theorem dX6_findYields_64 : decode cX6_findYields 64 = .ok (.ishl, 1) := by decide +kernel
theorem dX6_findYields_65 : decode cX6_findYields 65 = .ok (.goto 4, 3) := by decide +kernel
theorem dX6_findYields_68 : decode cX6_findYields 68 = .ok (.iconst 0, 1) := by decide +kernel
theorem dX6_findYields_69 : decode cX6_findYields 69 = .ok (.ior, 1) := by decide +kernel
theorem dX6_findYields_70 : decode cX6_findYields 70 = .ok (.putfield 137, 3) := by decide +kernel
theorem dX6_findYields_73 : decode cX6_findYields 73 = .ok (.iconst 0, 1) := by decide +kernel
theorem dX6_findYields_74 : decode cX6_findYields 74 = .ok (.istore_n 2, 1) := by decide +kernel
theorem dX6_findYields_75 : decode cX6_findYields 75 = .ok (.iload_n 2, 1) := by decide +kernel
theorem dX6_findYields_76 : decode cX6_findYields 76 = .ok (.aload_n 0, 1) := by decide +kernel
theorem dX6_findYields_77 : decode cX6_findYields 77 = .ok (.getfield 7, 3) := by decide +kernel
theorem dX6_findYields_80 : decode cX6_findYields 80 = .ok (.iconst 0, 1) := by decide +kernel
theorem dX6_findYields_81 : decode cX6_findYields 81 = .ok (.iaload, 1) := by decide +kernel
theorem dX6_findYields_82 : decode cX6_findYields 82 = .ok (.if_icmp .ge 43, 3) := by decide +kernel
theorem dX6_findYields_85 : decode cX6_findYields 85 = .ok (.aload_n 0, 1) := by decide +kernel
theorem dX6_findYields_86 : decode cX6_findYields 86 = .ok (.getfield 28, 3) := by decide +kernel
theorem dX6_findYields_89 : decode cX6_findYields 89 = .ok (.bipush 8, 2) := by decide +kernel
theorem dX6_findYields_91 : decode cX6_findYields 91 = .ok (.iload_n 2, 1) := by decide +kernel
theorem dX6_findYields_92 : decode cX6_findYields 92 = .ok (.imul, 1) := by decide +kernel
theorem dX6_findYields_93 : decode cX6_findYields 93 = .ok (.iload_n 1, 1) := by decide +kernel
theorem dX6_findYields_94 : decode cX6_findYields 94 = .ok (.iadd, 1) := by decide +kernel
theorem dX6_findYields_95 : decode cX6_findYields 95 = .ok (.sipush 9999, 3) := by decide +kernel
theorem dX6_findYields_98 : decode cX6_findYields 98 = .ok (.aload_n 0, 1) := by decide +kernel
theorem dX6_findYields_99 : decode cX6_findYields 99 = .ok (.sipush 9999, 3) := by decide +kernel
theorem dX6_findYields_102 : decode cX6_findYields 102 = .ok (.aload_n 0, 1) := by decide +kernel
theorem dX6_findYields_103 : decode cX6_findYields 103 = .ok (.iload_n 2, 1) := by decide +kernel
theorem dX6_findYields_104 : decode cX6_findYields 104 = .ok (.iconst 1, 1) := by decide +kernel
theorem dX6_findYields_105 : decode cX6_findYields 105 = .ok (.invokevirtual 90, 3) := by decide +kernel
theorem dX6_findYields_108 : decode cX6_findYields 108 = .ok (.aload_n 0, 1) := by decide +kernel
theorem dX6_findYields_109 : decode cX6_findYields 109 = .ok (.iload_n 1, 1) := by decide +kernel
theorem dX6_findYields_110 : decode cX6_findYields 110 = .ok (.iconst 1, 1) := by decide +kernel
theorem dX6_findYields_111 : decode cX6_findYields 111 = .ok (.invokevirtual 90, 3) := by decide +kernel
theorem dX6_findYields_114 : decode cX6_findYields 114 = .ok (.invokevirtual 123, 3) := by decide +kernel
theorem dX6_findYields_117 : decode cX6_findYields 117 = .ok (.isub, 1) := by decide +kernel
theorem dX6_findYields_118 : decode cX6_findYields 118 = .ok (.iastore, 1) := by decide +kernel
theorem dX6_findYields_119 : decode cX6_findYields 119 = .ok (.iinc 2 1, 3) := by decide +kernel
theorem dX6_findYields_122 : decode cX6_findYields 122 = .ok (.goto (-47), 3) := by decide +kernel
theorem dX6_findYields_125 : decode cX6_findYields 125 = .ok (.iinc 1 1, 3) := by decide +kernel
theorem dX6_findYields_128 : decode cX6_findYields 128 = .ok (.goto (-121), 3) := by decide +kernel
theorem dX6_findYields_131 : decode cX6_findYields 131 = .ok (.return_, 1) := by decide +kernel
theorem dX6_ran_0 : decode cX6_ran 0 = .ok (.iload_n 1, 1) := by decide +kernel
theorem dX6_ran_1 : decode cX6_ran 1 = .ok (.aload_n 0, 1) := by decide +kernel
theorem dX6_ran_2 : decode cX6_ran 2 = .ok (.getfield 25, 3) := by decide +kernel
theorem dX6_ran_5 : decode cX6_ran 5 = .ok (.iload_n 2, 1) := by decide +kernel
theorem dX6_ran_6 : decode cX6_ran 6 = .ok (.iaload, 1) := by decide +kernel
theorem dX6_ran_7 : decode cX6_ran 7 = .ok (.isub, 1) := by decide +kernel
theorem dX6_ran_8 : decode cX6_ran 8 = .ok (.aload_n 0, 1) := by decide +kernel
theorem dX6_ran_9 : decode cX6_ran 9 = .ok (.getfield 22, 3) := by decide +kernel
theorem dX6_ran_12 : decode cX6_ran 12 = .ok (.iload_n 2, 1) := by decide +kernel
theorem dX6_ran_13 : decode cX6_ran 13 = .ok (.iaload, 1) := by decide +kernel
theorem dX6_ran_14 : decode cX6_ran 14 = .ok (.iadd, 1) := by decide +kernel
theorem dX6_ran_15 : decode cX6_ran 15 = .ok (.istore_n 3, 1) := by decide +kernel
theorem dX6_ran_16 : decode cX6_ran 16 = .ok (.iload_n 1, 1) := by decide +kernel
theorem dX6_ran_17 : decode cX6_ran 17 = .ok (.ifCond .lt 24, 3) := by decide +kernel
theorem dX6_ran_20 : decode cX6_ran 20 = .ok (.iload_n 1, 1) := by decide +kernel
theorem dX6_ran_21 : decode cX6_ran 21 = .ok (.aload_n 0, 1) := by decide +kernel
theorem dX6_ran_22 : decode cX6_ran 22 = .ok (.getfield 25, 3) := by decide +kernel
theorem dX6_ran_25 : decode cX6_ran 25 = .ok (.iload_n 2, 1) := by decide +kernel
theorem dX6_ran_26 : decode cX6_ran 26 = .ok (.iaload, 1) := by decide +kernel
theorem dX6_ran_27 : decode cX6_ran 27 = .ok (.if_icmp .lt 14, 3) := by decide +kernel
theorem dX6_ran_30 : decode cX6_ran 30 = .ok (.aload_n 0, 1) := by decide +kernel
theorem dX6_ran_31 : decode cX6_ran 31 = .ok (.getfield 137, 3) := by decide +kernel
theorem dX6_ran_34 : decode cX6_ran 34 = .ok (.iload_n 2, 1) := by decide +kernel
theorem dX6_ran_35 : decode cX6_ran 35 = .ok (.invokestatic 141, 3) := by decide +kernel
theorem dX6_ran_38 : decode cX6_ran 38 = .ok (.ifCond .ne 7, 3) := by decide +kernel
theorem dX6_ran_41 : decode cX6_ran 41 = .ok (.iconst (-1), 1) := by decide +kernel
theorem dX6_ran_42 : decode cX6_ran 42 = .ok (.goto 23, 3) := by decide +kernel
theorem dX6_ran_45 : decode cX6_ran 45 = .ok (.iload_n 3, 1) := by decide +kernel
theorem dX6_ran_46 : decode cX6_ran 46 = .ok (.aload_n 0, 1) := by decide +kernel
theorem dX6_ran_47 : decode cX6_ran 47 = .ok (.getfield 7, 3) := by decide +kernel
theorem dX6_ran_50 : decode cX6_ran 50 = .ok (.iconst 2, 1) := by decide +kernel
theorem dX6_ran_51 : decode cX6_ran 51 = .ok (.iaload, 1) := by decide +kernel
theorem dX6_ran_52 : decode cX6_ran 52 = .ok (.if_icmp .ge 7, 3) := by decide +kernel
theorem dX6_ran_55 : decode cX6_ran 55 = .ok (.iload_n 3, 1) := by decide +kernel
theorem dX6_ran_56 : decode cX6_ran 56 = .ok (.goto 9, 3) := by decide +kernel
theorem dX6_ran_59 : decode cX6_ran 59 = .ok (.aload_n 0, 1) := by decide +kernel
theorem dX6_ran_60 : decode cX6_ran 60 = .ok (.getfield 7, 3) := by decide +kernel
theorem dX6_ran_63 : decode cX6_ran 63 = .ok (.iconst 2, 1) := by decide +kernel
theorem dX6_ran_64 : decode cX6_ran 64 = .ok (.iaload, 1) := by decide +kernel
theorem dX6_ran_65 : decode cX6_ran 65 = .ok (.ireturn, 1) := by decide +kernel
theorem dX6_bestFrom_0 : decode cX6_bestFrom 0 = .ok (.iload 4, 2) := by decide +kernel
theorem dX6_bestFrom_2 : decode cX6_bestFrom 2 = .ok (.iconst 1, 1) := by decide +kernel
theorem dX6_bestFrom_3 : decode cX6_bestFrom 3 = .ok (.if_icmp .ge 14, 3) := by decide +kernel
theorem dX6_bestFrom_6 : decode cX6_bestFrom 6 = .ok (.aload_n 0, 1) := by decide +kernel
theorem dX6_bestFrom_7 : decode cX6_bestFrom 7 = .ok (.iload_n 2, 1) := by decide +kernel
theorem dX6_bestFrom_8 : decode cX6_bestFrom 8 = .ok (.iload_n 1, 1) := by decide +kernel
theorem dX6_bestFrom_9 : decode cX6_bestFrom 9 = .ok (.iload 5, 2) := by decide +kernel
theorem dX6_bestFrom_11 : decode cX6_bestFrom 11 = .ok (.invokevirtual 123, 3) := by decide +kernel
theorem dX6_bestFrom_14 : decode cX6_bestFrom 14 = .ok (.goto 4, 3) := by decide +kernel
theorem dX6_bestFrom_17 : decode cX6_bestFrom 17 = .ok (.iconst (-1), 1) := by decide +kernel
theorem dX6_bestFrom_18 : decode cX6_bestFrom 18 = .ok (.istore 6, 2) := by decide +kernel
theorem dX6_bestFrom_20 : decode cX6_bestFrom 20 = .ok (.iconst 1, 1) := by decide +kernel
theorem dX6_bestFrom_21 : decode cX6_bestFrom 21 = .ok (.istore 7, 2) := by decide +kernel
theorem dX6_bestFrom_23 : decode cX6_bestFrom 23 = .ok (.iload 7, 2) := by decide +kernel
theorem dX6_bestFrom_25 : decode cX6_bestFrom 25 = .ok (.sipush 256, 3) := by decide +kernel
theorem dX6_bestFrom_28 : decode cX6_bestFrom 28 = .ok (.if_icmp .ge 155, 3) := by decide +kernel
theorem dX6_bestFrom_31 : decode cX6_bestFrom 31 = .ok (.iload 4, 2) := by decide +kernel
theorem dX6_bestFrom_33 : decode cX6_bestFrom 33 = .ok (.ifCond .lt 13, 3) := by decide +kernel
theorem dX6_bestFrom_36 : decode cX6_bestFrom 36 = .ok (.iload 7, 2) := by decide +kernel
theorem dX6_bestFrom_38 : decode cX6_bestFrom 38 = .ok (.invokestatic 144, 3) := by decide +kernel
theorem dX6_bestFrom_41 : decode cX6_bestFrom 41 = .ok (.iload 4, 2) := by decide +kernel
theorem dX6_bestFrom_43 : decode cX6_bestFrom 43 = .ok (.if_icmp .ne 7, 3) := by decide +kernel
theorem dX6_bestFrom_46 : decode cX6_bestFrom 46 = .ok (.iconst 1, 1) := by decide +kernel
theorem dX6_bestFrom_47 : decode cX6_bestFrom 47 = .ok (.goto 4, 3) := by decide +kernel
theorem dX6_bestFrom_50 : decode cX6_bestFrom 50 = .ok (.iconst 0, 1) := by decide +kernel
theorem dX6_bestFrom_51 : decode cX6_bestFrom 51 = .ok (.istore 8, 2) := by decide +kernel
theorem dX6_bestFrom_53 : decode cX6_bestFrom 53 = .ok (.iconst 0, 1) := by decide +kernel
theorem dX6_bestFrom_54 : decode cX6_bestFrom 54 = .ok (.istore 9, 2) := by decide +kernel
theorem dX6_bestFrom_56 : decode cX6_bestFrom 56 = .ok (.iload 9, 2) := by decide +kernel
theorem dX6_bestFrom_58 : decode cX6_bestFrom 58 = .ok (.bipush 8, 2) := by decide +kernel
theorem dX6_bestFrom_60 : decode cX6_bestFrom 60 = .ok (.if_icmp .ge 117, 3) := by decide +kernel
theorem dX6_bestFrom_63 : decode cX6_bestFrom 63 = .ok (.iload 7, 2) := by decide +kernel
theorem dX6_bestFrom_65 : decode cX6_bestFrom 65 = .ok (.iload_n 3, 1) := by decide +kernel
theorem dX6_bestFrom_66 : decode cX6_bestFrom 66 = .ok (.iconst (-1), 1) := by decide +kernel
theorem dX6_bestFrom_67 : decode cX6_bestFrom 67 = .ok (.ixor, 1) := by decide +kernel
theorem dX6_bestFrom_68 : decode cX6_bestFrom 68 = .ok (.iand, 1) := by decide +kernel
theorem dX6_bestFrom_69 : decode cX6_bestFrom 69 = .ok (.ifCond .ne 108, 3) := by decide +kernel
theorem dX6_bestFrom_72 : decode cX6_bestFrom 72 = .ok (.iload 7, 2) := by decide +kernel
theorem dX6_bestFrom_74 : decode cX6_bestFrom 74 = .ok (.iload 9, 2) := by decide +kernel
theorem dX6_bestFrom_76 : decode cX6_bestFrom 76 = .ok (.invokestatic 141, 3) := by decide +kernel
theorem dX6_bestFrom_79 : decode cX6_bestFrom 79 = .ok (.ifCond .eq 92, 3) := by decide +kernel
theorem dX6_bestFrom_82 : decode cX6_bestFrom 82 = .ok (.aload_n 0, 1) := by decide +kernel
theorem dX6_bestFrom_83 : decode cX6_bestFrom 83 = .ok (.aload_n 0, 1) := by decide +kernel
theorem dX6_bestFrom_84 : decode cX6_bestFrom 84 = .ok (.iload 7, 2) := by decide +kernel
theorem dX6_bestFrom_86 : decode cX6_bestFrom 86 = .ok (.iconst 1, 1) := by decide +kernel
theorem dX6_bestFrom_87 : decode cX6_bestFrom 87 = .ok (.iload 9, 2) := by decide +kernel
theorem dX6_bestFrom_89 : decode cX6_bestFrom 89 = .ok (.ishl, 1) := by decide +kernel
theorem dX6_bestFrom_90 : decode cX6_bestFrom 90 = .ok (.iconst (-1), 1) := by decide +kernel
theorem dX6_bestFrom_91 : decode cX6_bestFrom 91 = .ok (.ixor, 1) := by decide +kernel
theorem dX6_bestFrom_92 : decode cX6_bestFrom 92 = .ok (.iand, 1) := by decide +kernel
theorem dX6_bestFrom_93 : decode cX6_bestFrom 93 = .ok (.iload 9, 2) := by decide +kernel
theorem dX6_bestFrom_95 : decode cX6_bestFrom 95 = .ok (.iload_n 2, 1) := by decide +kernel
theorem dX6_bestFrom_96 : decode cX6_bestFrom 96 = .ok (.iload_n 1, 1) := by decide +kernel
theorem dX6_bestFrom_97 : decode cX6_bestFrom 97 = .ok (.invokevirtual 147, 3) := by decide +kernel
theorem dX6_bestFrom_100 : decode cX6_bestFrom 100 = .ok (.iload 9, 2) := by decide +kernel
theorem dX6_bestFrom_102 : decode cX6_bestFrom 102 = .ok (.invokevirtual 150, 3) := by decide +kernel
theorem dX6_bestFrom_105 : decode cX6_bestFrom 105 = .ok (.istore 10, 2) := by decide +kernel
theorem dX6_bestFrom_107 : decode cX6_bestFrom 107 = .ok (.aload_n 0, 1) := by decide +kernel
theorem dX6_bestFrom_108 : decode cX6_bestFrom 108 = .ok (.getfield 31, 3) := by decide +kernel
theorem dX6_bestFrom_111 : decode cX6_bestFrom 111 = .ok (.bipush 8, 2) := by decide +kernel
theorem dX6_bestFrom_113 : decode cX6_bestFrom 113 = .ok (.iload 7, 2) := by decide +kernel
theorem dX6_bestFrom_115 : decode cX6_bestFrom 115 = .ok (.imul, 1) := by decide +kernel
theorem dX6_bestFrom_116 : decode cX6_bestFrom 116 = .ok (.iload 9, 2) := by decide +kernel
theorem dX6_bestFrom_118 : decode cX6_bestFrom 118 = .ok (.iadd, 1) := by decide +kernel
theorem dX6_bestFrom_119 : decode cX6_bestFrom 119 = .ok (.iload 10, 2) := by decide +kernel
theorem dX6_bestFrom_121 : decode cX6_bestFrom 121 = .ok (.iastore, 1) := by decide +kernel
theorem dX6_bestFrom_122 : decode cX6_bestFrom 122 = .ok (.iload 8, 2) := by decide +kernel
theorem dX6_bestFrom_124 : decode cX6_bestFrom 124 = .ok (.ifCond .eq 28, 3) := by decide +kernel
theorem dX6_bestFrom_127 : decode cX6_bestFrom 127 = .ok (.iload 10, 2) := by decide +kernel
theorem dX6_bestFrom_129 : decode cX6_bestFrom 129 = .ok (.iload 6, 2) := by decide +kernel
theorem dX6_bestFrom_131 : decode cX6_bestFrom 131 = .ok (.if_icmp .le 21, 3) := by decide +kernel
theorem dX6_bestFrom_134 : decode cX6_bestFrom 134 = .ok (.aload_n 0, 1) := by decide +kernel
theorem dX6_bestFrom_135 : decode cX6_bestFrom 135 = .ok (.iload 10, 2) := by decide +kernel
theorem dX6_bestFrom_137 : decode cX6_bestFrom 137 = .ok (.aload_n 0, 1) := by decide +kernel
theorem dX6_bestFrom_138 : decode cX6_bestFrom 138 = .ok (.iload 9, 2) := by decide +kernel
theorem dX6_bestFrom_140 : decode cX6_bestFrom 140 = .ok (.iconst 1, 1) := by decide +kernel
theorem dX6_bestFrom_141 : decode cX6_bestFrom 141 = .ok (.invokevirtual 90, 3) := by decide +kernel
theorem dX6_bestFrom_144 : decode cX6_bestFrom 144 = .ok (.iload 5, 2) := by decide +kernel
theorem dX6_bestFrom_146 : decode cX6_bestFrom 146 = .ok (.invokevirtual 123, 3) := by decide +kernel
theorem dX6_bestFrom_149 : decode cX6_bestFrom 149 = .ok (.goto 4, 3) := by decide +kernel
theorem dX6_bestFrom_152 : decode cX6_bestFrom 152 = .ok (.iconst (-1), 1) := by decide +kernel
theorem dX6_bestFrom_153 : decode cX6_bestFrom 153 = .ok (.istore 11, 2) := by decide +kernel
theorem dX6_bestFrom_155 : decode cX6_bestFrom 155 = .ok (.iload 11, 2) := by decide +kernel
theorem dX6_bestFrom_157 : decode cX6_bestFrom 157 = .ok (.iload 6, 2) := by decide +kernel
theorem dX6_bestFrom_159 : decode cX6_bestFrom 159 = .ok (.if_icmp .le 8, 3) := by decide +kernel
theorem dX6_bestFrom_162 : decode cX6_bestFrom 162 = .ok (.iload 11, 2) := by decide +kernel
theorem dX6_bestFrom_164 : decode cX6_bestFrom 164 = .ok (.goto 5, 3) := by decide +kernel
theorem dX6_bestFrom_167 : decode cX6_bestFrom 167 = .ok (.iload 6, 2) := by decide +kernel
theorem dX6_bestFrom_169 : decode cX6_bestFrom 169 = .ok (.istore 6, 2) := by decide +kernel
theorem dX6_bestFrom_171 : decode cX6_bestFrom 171 = .ok (.iinc 9 1, 3) := by decide +kernel
theorem dX6_bestFrom_174 : decode cX6_bestFrom 174 = .ok (.goto (-118), 3) := by decide +kernel
theorem dX6_bestFrom_177 : decode cX6_bestFrom 177 = .ok (.iinc 7 1, 3) := by decide +kernel
theorem dX6_bestFrom_180 : decode cX6_bestFrom 180 = .ok (.goto (-157), 3) := by decide +kernel
theorem dX6_bestFrom_183 : decode cX6_bestFrom 183 = .ok (.iload 6, 2) := by decide +kernel
theorem dX6_bestFrom_185 : decode cX6_bestFrom 185 = .ok (.ireturn, 1) := by decide +kernel
theorem dX6_comesWith_0 : decode cX6_comesWith 0 = .ok (.iload_n 1, 1) := by decide +kernel
theorem dX6_comesWith_1 : decode cX6_comesWith 1 = .ok (.ifCond .ne 17, 3) := by decide +kernel
theorem dX6_comesWith_4 : decode cX6_comesWith 4 = .ok (.aload_n 0, 1) := by decide +kernel
theorem dX6_comesWith_5 : decode cX6_comesWith 5 = .ok (.iload_n 3, 1) := by decide +kernel
theorem dX6_comesWith_6 : decode cX6_comesWith 6 = .ok (.iload 4, 2) := by decide +kernel
theorem dX6_comesWith_8 : decode cX6_comesWith 8 = .ok (.aload_n 0, 1) := by decide +kernel
theorem dX6_comesWith_9 : decode cX6_comesWith 9 = .ok (.iload_n 2, 1) := by decide +kernel
theorem dX6_comesWith_10 : decode cX6_comesWith 10 = .ok (.iconst 1, 1) := by decide +kernel
theorem dX6_comesWith_11 : decode cX6_comesWith 11 = .ok (.invokevirtual 90, 3) := by decide +kernel
theorem dX6_comesWith_14 : decode cX6_comesWith 14 = .ok (.invokevirtual 123, 3) := by decide +kernel
theorem dX6_comesWith_17 : decode cX6_comesWith 17 = .ok (.ireturn, 1) := by decide +kernel
theorem dX6_comesWith_18 : decode cX6_comesWith 18 = .ok (.iconst (-1), 1) := by decide +kernel
theorem dX6_comesWith_19 : decode cX6_comesWith 19 = .ok (.istore 5, 2) := by decide +kernel
theorem dX6_comesWith_21 : decode cX6_comesWith 21 = .ok (.iconst 0, 1) := by decide +kernel
theorem dX6_comesWith_22 : decode cX6_comesWith 22 = .ok (.istore 6, 2) := by decide +kernel
theorem dX6_comesWith_24 : decode cX6_comesWith 24 = .ok (.iload 6, 2) := by decide +kernel
theorem dX6_comesWith_26 : decode cX6_comesWith 26 = .ok (.bipush 8, 2) := by decide +kernel
theorem dX6_comesWith_28 : decode cX6_comesWith 28 = .ok (.if_icmp .ge 97, 3) := by decide +kernel
theorem dX6_comesWith_31 : decode cX6_comesWith 31 = .ok (.iload_n 1, 1) := by decide +kernel
theorem dX6_comesWith_32 : decode cX6_comesWith 32 = .ok (.iload 6, 2) := by decide +kernel
theorem dX6_comesWith_34 : decode cX6_comesWith 34 = .ok (.invokestatic 141, 3) := by decide +kernel
theorem dX6_comesWith_37 : decode cX6_comesWith 37 = .ok (.ifCond .eq 18, 3) := by decide +kernel
theorem dX6_comesWith_40 : decode cX6_comesWith 40 = .ok (.aload_n 0, 1) := by decide +kernel
theorem dX6_comesWith_41 : decode cX6_comesWith 41 = .ok (.getfield 31, 3) := by decide +kernel
theorem dX6_comesWith_44 : decode cX6_comesWith 44 = .ok (.bipush 8, 2) := by decide +kernel
theorem dX6_comesWith_46 : decode cX6_comesWith 46 = .ok (.iload_n 1, 1) := by decide +kernel
theorem dX6_comesWith_47 : decode cX6_comesWith 47 = .ok (.imul, 1) := by decide +kernel
theorem dX6_comesWith_48 : decode cX6_comesWith 48 = .ok (.iload 6, 2) := by decide +kernel
theorem dX6_comesWith_50 : decode cX6_comesWith 50 = .ok (.iadd, 1) := by decide +kernel
theorem dX6_comesWith_51 : decode cX6_comesWith 51 = .ok (.iaload, 1) := by decide +kernel
theorem dX6_comesWith_52 : decode cX6_comesWith 52 = .ok (.goto 4, 3) := by decide +kernel
theorem dX6_comesWith_55 : decode cX6_comesWith 55 = .ok (.iconst (-1), 1) := by decide +kernel
theorem dX6_comesWith_56 : decode cX6_comesWith 56 = .ok (.istore 7, 2) := by decide +kernel
theorem dX6_comesWith_58 : decode cX6_comesWith 58 = .ok (.iload 7, 2) := by decide +kernel
theorem dX6_comesWith_60 : decode cX6_comesWith 60 = .ok (.iload 5, 2) := by decide +kernel
theorem dX6_comesWith_62 : decode cX6_comesWith 62 = .ok (.if_icmp .le 57, 3) := by decide +kernel
theorem dX6_comesWith_65 : decode cX6_comesWith 65 = .ok (.iload 7, 2) := by decide +kernel
theorem dX6_comesWith_67 : decode cX6_comesWith 67 = .ok (.aload_n 0, 1) := by decide +kernel
theorem dX6_comesWith_68 : decode cX6_comesWith 68 = .ok (.getfield 28, 3) := by decide +kernel
theorem dX6_comesWith_71 : decode cX6_comesWith 71 = .ok (.bipush 8, 2) := by decide +kernel
theorem dX6_comesWith_73 : decode cX6_comesWith 73 = .ok (.iload 6, 2) := by decide +kernel
theorem dX6_comesWith_75 : decode cX6_comesWith 75 = .ok (.imul, 1) := by decide +kernel
theorem dX6_comesWith_76 : decode cX6_comesWith 76 = .ok (.iload_n 2, 1) := by decide +kernel
theorem dX6_comesWith_77 : decode cX6_comesWith 77 = .ok (.iadd, 1) := by decide +kernel
theorem dX6_comesWith_78 : decode cX6_comesWith 78 = .ok (.iaload, 1) := by decide +kernel
theorem dX6_comesWith_79 : decode cX6_comesWith 79 = .ok (.if_icmp .le 21, 3) := by decide +kernel
theorem dX6_comesWith_82 : decode cX6_comesWith 82 = .ok (.iload 7, 2) := by decide +kernel
theorem dX6_comesWith_84 : decode cX6_comesWith 84 = .ok (.aload_n 0, 1) := by decide +kernel
theorem dX6_comesWith_85 : decode cX6_comesWith 85 = .ok (.getfield 28, 3) := by decide +kernel
theorem dX6_comesWith_88 : decode cX6_comesWith 88 = .ok (.bipush 8, 2) := by decide +kernel
theorem dX6_comesWith_90 : decode cX6_comesWith 90 = .ok (.iload 6, 2) := by decide +kernel
theorem dX6_comesWith_92 : decode cX6_comesWith 92 = .ok (.imul, 1) := by decide +kernel
theorem dX6_comesWith_93 : decode cX6_comesWith 93 = .ok (.iload_n 2, 1) := by decide +kernel
theorem dX6_comesWith_94 : decode cX6_comesWith 94 = .ok (.iadd, 1) := by decide +kernel
theorem dX6_comesWith_95 : decode cX6_comesWith 95 = .ok (.iaload, 1) := by decide +kernel
theorem dX6_comesWith_96 : decode cX6_comesWith 96 = .ok (.isub, 1) := by decide +kernel
theorem dX6_comesWith_97 : decode cX6_comesWith 97 = .ok (.goto 4, 3) := by decide +kernel
theorem dX6_comesWith_100 : decode cX6_comesWith 100 = .ok (.iconst 0, 1) := by decide +kernel
theorem dX6_comesWith_101 : decode cX6_comesWith 101 = .ok (.istore 8, 2) := by decide +kernel
theorem dX6_comesWith_103 : decode cX6_comesWith 103 = .ok (.iload 8, 2) := by decide +kernel
theorem dX6_comesWith_105 : decode cX6_comesWith 105 = .ok (.iload 5, 2) := by decide +kernel
theorem dX6_comesWith_107 : decode cX6_comesWith 107 = .ok (.if_icmp .le 8, 3) := by decide +kernel
theorem dX6_comesWith_110 : decode cX6_comesWith 110 = .ok (.iload 8, 2) := by decide +kernel
theorem dX6_comesWith_112 : decode cX6_comesWith 112 = .ok (.goto 5, 3) := by decide +kernel
theorem dX6_comesWith_115 : decode cX6_comesWith 115 = .ok (.iload 5, 2) := by decide +kernel
theorem dX6_comesWith_117 : decode cX6_comesWith 117 = .ok (.istore 5, 2) := by decide +kernel
theorem dX6_comesWith_119 : decode cX6_comesWith 119 = .ok (.iinc 6 1, 3) := by decide +kernel
theorem dX6_comesWith_122 : decode cX6_comesWith 122 = .ok (.goto (-98), 3) := by decide +kernel
theorem dX6_comesWith_125 : decode cX6_comesWith 125 = .ok (.iload 5, 2) := by decide +kernel
theorem dX6_comesWith_127 : decode cX6_comesWith 127 = .ok (.ireturn, 1) := by decide +kernel
theorem dX6_mostWith_0 : decode cX6_mostWith 0 = .ok (.aload_n 0, 1) := by decide +kernel
theorem dX6_mostWith_1 : decode cX6_mostWith 1 = .ok (.invokevirtual 153, 3) := by decide +kernel
theorem dX6_mostWith_4 : decode cX6_mostWith 4 = .ok (.aload_n 0, 1) := by decide +kernel
theorem dX6_mostWith_5 : decode cX6_mostWith 5 = .ok (.aload_n 0, 1) := by decide +kernel
theorem dX6_mostWith_6 : decode cX6_mostWith 6 = .ok (.getfield 7, 3) := by decide +kernel
theorem dX6_mostWith_9 : decode cX6_mostWith 9 = .ok (.bipush 7, 2) := by decide +kernel
theorem dX6_mostWith_11 : decode cX6_mostWith 11 = .ok (.iaload, 1) := by decide +kernel
theorem dX6_mostWith_12 : decode cX6_mostWith 12 = .ok (.iload_n 1, 1) := by decide +kernel
theorem dX6_mostWith_13 : decode cX6_mostWith 13 = .ok (.aload_n 0, 1) := by decide +kernel
theorem dX6_mostWith_14 : decode cX6_mostWith 14 = .ok (.getfield 137, 3) := by decide +kernel
theorem dX6_mostWith_17 : decode cX6_mostWith 17 = .ok (.iconst (-1), 1) := by decide +kernel
theorem dX6_mostWith_18 : decode cX6_mostWith 18 = .ok (.iconst 0, 1) := by decide +kernel
theorem dX6_mostWith_19 : decode cX6_mostWith 19 = .ok (.invokevirtual 156, 3) := by decide +kernel
theorem dX6_mostWith_22 : decode cX6_mostWith 22 = .ok (.ireturn, 1) := by decide +kernel
theorem dX6_most_0 : decode cX6_most 0 = .ok (.aload_n 0, 1) := by decide +kernel
theorem dX6_most_1 : decode cX6_most 1 = .ok (.iload_n 1, 1) := by decide +kernel
theorem dX6_most_2 : decode cX6_most 2 = .ok (.invokevirtual 116, 3) := by decide +kernel
theorem dX6_most_5 : decode cX6_most 5 = .ok (.ifCond .eq 11, 3) := by decide +kernel
theorem dX6_most_8 : decode cX6_most 8 = .ok (.aload_n 0, 1) := by decide +kernel
theorem dX6_most_9 : decode cX6_most 9 = .ok (.iload_n 1, 1) := by decide +kernel
theorem dX6_most_10 : decode cX6_most 10 = .ok (.invokevirtual 160, 3) := by decide +kernel
theorem dX6_most_13 : decode cX6_most 13 = .ok (.goto 9, 3) := by decide +kernel
theorem dX6_most_16 : decode cX6_most 16 = .ok (.aload_n 0, 1) := by decide +kernel
theorem dX6_most_17 : decode cX6_most 17 = .ok (.ldc 55, 2) := by decide +kernel
theorem dX6_most_19 : decode cX6_most 19 = .ok (.invokevirtual 81, 3) := by decide +kernel
theorem dX6_most_22 : decode cX6_most 22 = .ok (.ireturn, 1) := by decide +kernel
theorem dX6_findOrder_0 : decode cX6_findOrder 0 = .ok (.aload_n 0, 1) := by decide +kernel
theorem dX6_findOrder_1 : decode cX6_findOrder 1 = .ok (.iload_n 1, 1) := by decide +kernel
theorem dX6_findOrder_2 : decode cX6_findOrder 2 = .ok (.invokevirtual 160, 3) := by decide +kernel
theorem dX6_findOrder_5 : decode cX6_findOrder 5 = .ok (.istore_n 2, 1) := by decide +kernel
theorem dX6_findOrder_6 : decode cX6_findOrder 6 = .ok (.aload_n 0, 1) := by decide +kernel
theorem dX6_findOrder_7 : decode cX6_findOrder 7 = .ok (.iconst 0, 1) := by decide +kernel
theorem dX6_findOrder_8 : decode cX6_findOrder 8 = .ok (.putfield 163, 3) := by decide +kernel
theorem dX6_findOrder_11 : decode cX6_findOrder 11 = .ok (.aload_n 0, 1) := by decide +kernel
theorem dX6_findOrder_12 : decode cX6_findOrder 12 = .ok (.aload_n 0, 1) := by decide +kernel
theorem dX6_findOrder_13 : decode cX6_findOrder 13 = .ok (.getfield 7, 3) := by decide +kernel
theorem dX6_findOrder_16 : decode cX6_findOrder 16 = .ok (.bipush 7, 2) := by decide +kernel
theorem dX6_findOrder_18 : decode cX6_findOrder 18 = .ok (.iaload, 1) := by decide +kernel
theorem dX6_findOrder_19 : decode cX6_findOrder 19 = .ok (.iload_n 1, 1) := by decide +kernel
theorem dX6_findOrder_20 : decode cX6_findOrder 20 = .ok (.aload_n 0, 1) := by decide +kernel
theorem dX6_findOrder_21 : decode cX6_findOrder 21 = .ok (.getfield 137, 3) := by decide +kernel
theorem dX6_findOrder_24 : decode cX6_findOrder 24 = .ok (.aload_n 0, 1) := by decide +kernel
theorem dX6_findOrder_25 : decode cX6_findOrder 25 = .ok (.getfield 163, 3) := by decide +kernel
theorem dX6_findOrder_28 : decode cX6_findOrder 28 = .ok (.iconst 0, 1) := by decide +kernel
theorem dX6_findOrder_29 : decode cX6_findOrder 29 = .ok (.invokevirtual 156, 3) := by decide +kernel
theorem dX6_findOrder_32 : decode cX6_findOrder 32 = .ok (.iload_n 2, 1) := by decide +kernel
theorem dX6_findOrder_33 : decode cX6_findOrder 33 = .ok (.if_icmp .eq 16, 3) := by decide +kernel
theorem dX6_findOrder_36 : decode cX6_findOrder 36 = .ok (.aload_n 0, 1) := by decide +kernel
theorem dX6_findOrder_37 : decode cX6_findOrder 37 = .ok (.dup, 1) := by decide +kernel
theorem dX6_findOrder_38 : decode cX6_findOrder 38 = .ok (.getfield 163, 3) := by decide +kernel
theorem dX6_findOrder_41 : decode cX6_findOrder 41 = .ok (.iconst 1, 1) := by decide +kernel
theorem dX6_findOrder_42 : decode cX6_findOrder 42 = .ok (.iadd, 1) := by decide +kernel
theorem dX6_findOrder_43 : decode cX6_findOrder 43 = .ok (.putfield 163, 3) := by decide +kernel
theorem dX6_findOrder_46 : decode cX6_findOrder 46 = .ok (.goto (-35), 3) := by decide +kernel
theorem dX6_findOrder_49 : decode cX6_findOrder 49 = .ok (.aload_n 0, 1) := by decide +kernel
theorem dX6_findOrder_50 : decode cX6_findOrder 50 = .ok (.getfield 7, 3) := by decide +kernel
theorem dX6_findOrder_53 : decode cX6_findOrder 53 = .ok (.bipush 7, 2) := by decide +kernel
theorem dX6_findOrder_55 : decode cX6_findOrder 55 = .ok (.iaload, 1) := by decide +kernel
theorem dX6_findOrder_56 : decode cX6_findOrder 56 = .ok (.istore_n 3, 1) := by decide +kernel
theorem dX6_findOrder_57 : decode cX6_findOrder 57 = .ok (.iload_n 1, 1) := by decide +kernel
theorem dX6_findOrder_58 : decode cX6_findOrder 58 = .ok (.istore 4, 2) := by decide +kernel
theorem dX6_findOrder_60 : decode cX6_findOrder 60 = .ok (.aload_n 0, 1) := by decide +kernel
theorem dX6_findOrder_61 : decode cX6_findOrder 61 = .ok (.getfield 137, 3) := by decide +kernel
theorem dX6_findOrder_64 : decode cX6_findOrder 64 = .ok (.istore 5, 2) := by decide +kernel
theorem dX6_findOrder_66 : decode cX6_findOrder 66 = .ok (.iconst 0, 1) := by decide +kernel
theorem dX6_findOrder_67 : decode cX6_findOrder 67 = .ok (.istore 6, 2) := by decide +kernel
theorem dX6_findOrder_69 : decode cX6_findOrder 69 = .ok (.iload 6, 2) := by decide +kernel
theorem dX6_findOrder_71 : decode cX6_findOrder 71 = .ok (.aload_n 0, 1) := by decide +kernel
theorem dX6_findOrder_72 : decode cX6_findOrder 72 = .ok (.getfield 163, 3) := by decide +kernel
theorem dX6_findOrder_75 : decode cX6_findOrder 75 = .ok (.if_icmp .ge 145, 3) := by decide +kernel
theorem dX6_findOrder_78 : decode cX6_findOrder 78 = .ok (.iconst (-1), 1) := by decide +kernel
theorem dX6_findOrder_79 : decode cX6_findOrder 79 = .ok (.istore 7, 2) := by decide +kernel
theorem dX6_findOrder_81 : decode cX6_findOrder 81 = .ok (.iconst (-1), 1) := by decide +kernel
theorem dX6_findOrder_82 : decode cX6_findOrder 82 = .ok (.istore 8, 2) := by decide +kernel
theorem dX6_findOrder_84 : decode cX6_findOrder 84 = .ok (.iconst 1, 1) := by decide +kernel
theorem dX6_findOrder_85 : decode cX6_findOrder 85 = .ok (.istore 9, 2) := by decide +kernel
theorem dX6_findOrder_87 : decode cX6_findOrder 87 = .ok (.iload 9, 2) := by decide +kernel
theorem dX6_findOrder_89 : decode cX6_findOrder 89 = .ok (.ifCond .eq 93, 3) := by decide +kernel
theorem dX6_findOrder_92 : decode cX6_findOrder 92 = .ok (.iinc 7 1, 3) := by decide +kernel
theorem dX6_findOrder_95 : decode cX6_findOrder 95 = .ok (.iload 5, 2) := by decide +kernel
theorem dX6_findOrder_97 : decode cX6_findOrder 97 = .ok (.iload 7, 2) := by decide +kernel
theorem dX6_findOrder_99 : decode cX6_findOrder 99 = .ok (.invokestatic 141, 3) := by decide +kernel
theorem dX6_findOrder_102 : decode cX6_findOrder 102 = .ok (.ifCond .eq 26, 3) := by decide +kernel
theorem dX6_findOrder_105 : decode cX6_findOrder 105 = .ok (.aload_n 0, 1) := by decide +kernel
theorem dX6_findOrder_106 : decode cX6_findOrder 106 = .ok (.aload_n 0, 1) := by decide +kernel
theorem dX6_findOrder_107 : decode cX6_findOrder 107 = .ok (.iload 4, 2) := by decide +kernel
theorem dX6_findOrder_109 : decode cX6_findOrder 109 = .ok (.iload_n 3, 1) := by decide +kernel
theorem dX6_findOrder_110 : decode cX6_findOrder 110 = .ok (.aload_n 0, 1) := by decide +kernel
theorem dX6_findOrder_111 : decode cX6_findOrder 111 = .ok (.iload 7, 2) := by decide +kernel
theorem dX6_findOrder_113 : decode cX6_findOrder 113 = .ok (.iconst 1, 1) := by decide +kernel
theorem dX6_findOrder_114 : decode cX6_findOrder 114 = .ok (.invokevirtual 90, 3) := by decide +kernel
theorem dX6_findOrder_117 : decode cX6_findOrder 117 = .ok (.invokevirtual 123, 3) := by decide +kernel
theorem dX6_findOrder_120 : decode cX6_findOrder 120 = .ok (.iload 7, 2) := by decide +kernel
theorem dX6_findOrder_122 : decode cX6_findOrder 122 = .ok (.invokevirtual 150, 3) := by decide +kernel
theorem dX6_findOrder_125 : decode cX6_findOrder 125 = .ok (.goto 4, 3) := by decide +kernel
theorem dX6_findOrder_128 : decode cX6_findOrder 128 = .ok (.iconst (-1), 1) := by decide +kernel
theorem dX6_findOrder_129 : decode cX6_findOrder 129 = .ok (.istore 8, 2) := by decide +kernel
theorem dX6_findOrder_131 : decode cX6_findOrder 131 = .ok (.iload 8, 2) := by decide +kernel
theorem dX6_findOrder_133 : decode cX6_findOrder 133 = .ok (.ifCond .lt 39, 3) := by decide +kernel
theorem dX6_findOrder_136 : decode cX6_findOrder 136 = .ok (.aload_n 0, 1) := by decide +kernel
theorem dX6_findOrder_137 : decode cX6_findOrder 137 = .ok (.aload_n 0, 1) := by decide +kernel
theorem dX6_findOrder_138 : decode cX6_findOrder 138 = .ok (.iload 7, 2) := by decide +kernel
theorem dX6_findOrder_140 : decode cX6_findOrder 140 = .ok (.iconst 1, 1) := by decide +kernel
theorem dX6_findOrder_141 : decode cX6_findOrder 141 = .ok (.invokevirtual 90, 3) := by decide +kernel
theorem dX6_findOrder_144 : decode cX6_findOrder 144 = .ok (.iload 8, 2) := by decide +kernel
theorem dX6_findOrder_146 : decode cX6_findOrder 146 = .ok (.iload 5, 2) := by decide +kernel
theorem dX6_findOrder_148 : decode cX6_findOrder 148 = .ok (.iconst 1, 1) := by decide +kernel
theorem dX6_findOrder_149 : decode cX6_findOrder 149 = .ok (.iload 7, 2) := by decide +kernel
theorem dX6_findOrder_151 : decode cX6_findOrder 151 = .ok (.ishl, 1) := by decide +kernel
theorem dX6_findOrder_152 : decode cX6_findOrder 152 = .ok (.iconst (-1), 1) := by decide +kernel
theorem dX6_findOrder_153 : decode cX6_findOrder 153 = .ok (.ixor, 1) := by decide +kernel
theorem dX6_findOrder_154 : decode cX6_findOrder 154 = .ok (.iand, 1) := by decide +kernel
theorem dX6_findOrder_155 : decode cX6_findOrder 155 = .ok (.aload_n 0, 1) := by decide +kernel
theorem dX6_findOrder_156 : decode cX6_findOrder 156 = .ok (.getfield 163, 3) := by decide +kernel
theorem dX6_findOrder_159 : decode cX6_findOrder 159 = .ok (.iconst 1, 1) := by decide +kernel
theorem dX6_findOrder_160 : decode cX6_findOrder 160 = .ok (.isub, 1) := by decide +kernel
theorem dX6_findOrder_161 : decode cX6_findOrder 161 = .ok (.iload 6, 2) := by decide +kernel
theorem dX6_findOrder_163 : decode cX6_findOrder 163 = .ok (.isub, 1) := by decide +kernel
theorem dX6_findOrder_164 : decode cX6_findOrder 164 = .ok (.iconst 0, 1) := by decide +kernel
theorem dX6_findOrder_165 : decode cX6_findOrder 165 = .ok (.invokevirtual 156, 3) := by decide +kernel
theorem dX6_findOrder_168 : decode cX6_findOrder 168 = .ok (.iload_n 2, 1) := by decide +kernel
theorem dX6_findOrder_169 : decode cX6_findOrder 169 = .ok (.if_icmp .eq 7, 3) := by decide +kernel
theorem dX6_findOrder_172 : decode cX6_findOrder 172 = .ok (.iconst 1, 1) := by decide +kernel
theorem dX6_findOrder_173 : decode cX6_findOrder 173 = .ok (.goto 4, 3) := by decide +kernel
theorem dX6_findOrder_176 : decode cX6_findOrder 176 = .ok (.iconst 0, 1) := by decide +kernel
theorem dX6_findOrder_177 : decode cX6_findOrder 177 = .ok (.istore 9, 2) := by decide +kernel
theorem dX6_findOrder_179 : decode cX6_findOrder 179 = .ok (.goto (-92), 3) := by decide +kernel
theorem dX6_findOrder_182 : decode cX6_findOrder 182 = .ok (.aload_n 0, 1) := by decide +kernel
theorem dX6_findOrder_183 : decode cX6_findOrder 183 = .ok (.getfield 37, 3) := by decide +kernel
theorem dX6_findOrder_186 : decode cX6_findOrder 186 = .ok (.iload 6, 2) := by decide +kernel
theorem dX6_findOrder_188 : decode cX6_findOrder 188 = .ok (.iload 7, 2) := by decide +kernel
theorem dX6_findOrder_190 : decode cX6_findOrder 190 = .ok (.iastore, 1) := by decide +kernel
theorem dX6_findOrder_191 : decode cX6_findOrder 191 = .ok (.aload_n 0, 1) := by decide +kernel
theorem dX6_findOrder_192 : decode cX6_findOrder 192 = .ok (.iload 7, 2) := by decide +kernel
theorem dX6_findOrder_194 : decode cX6_findOrder 194 = .ok (.iconst 1, 1) := by decide +kernel
theorem dX6_findOrder_195 : decode cX6_findOrder 195 = .ok (.invokevirtual 90, 3) := by decide +kernel
theorem dX6_findOrder_198 : decode cX6_findOrder 198 = .ok (.istore_n 3, 1) := by decide +kernel
theorem dX6_findOrder_199 : decode cX6_findOrder 199 = .ok (.iload 8, 2) := by decide +kernel
theorem dX6_findOrder_201 : decode cX6_findOrder 201 = .ok (.istore 4, 2) := by decide +kernel
theorem dX6_findOrder_203 : decode cX6_findOrder 203 = .ok (.iload 5, 2) := by decide +kernel
theorem dX6_findOrder_205 : decode cX6_findOrder 205 = .ok (.iconst 1, 1) := by decide +kernel
theorem dX6_findOrder_206 : decode cX6_findOrder 206 = .ok (.iload 7, 2) := by decide +kernel
theorem dX6_findOrder_208 : decode cX6_findOrder 208 = .ok (.ishl, 1) := by decide +kernel
theorem dX6_findOrder_209 : decode cX6_findOrder 209 = .ok (.iconst (-1), 1) := by decide +kernel
theorem dX6_findOrder_210 : decode cX6_findOrder 210 = .ok (.ixor, 1) := by decide +kernel
theorem dX6_findOrder_211 : decode cX6_findOrder 211 = .ok (.iand, 1) := by decide +kernel
theorem dX6_findOrder_212 : decode cX6_findOrder 212 = .ok (.istore 5, 2) := by decide +kernel
theorem dX6_findOrder_214 : decode cX6_findOrder 214 = .ok (.iinc 6 1, 3) := by decide +kernel
theorem dX6_findOrder_217 : decode cX6_findOrder 217 = .ok (.goto (-148), 3) := by decide +kernel
theorem dX6_findOrder_220 : decode cX6_findOrder 220 = .ok (.iload_n 2, 1) := by decide +kernel
theorem dX6_findOrder_221 : decode cX6_findOrder 221 = .ok (.ireturn, 1) := by decide +kernel
theorem dX6_brings_0 : decode cX6_brings 0 = .ok (.aload_n 0, 1) := by decide +kernel
theorem dX6_brings_1 : decode cX6_brings 1 = .ok (.getfield 7, 3) := by decide +kernel
theorem dX6_brings_4 : decode cX6_brings 4 = .ok (.bipush 7, 2) := by decide +kernel
theorem dX6_brings_6 : decode cX6_brings 6 = .ok (.iaload, 1) := by decide +kernel
theorem dX6_brings_7 : decode cX6_brings 7 = .ok (.istore 4, 2) := by decide +kernel
theorem dX6_brings_9 : decode cX6_brings 9 = .ok (.iload_n 1, 1) := by decide +kernel
theorem dX6_brings_10 : decode cX6_brings 10 = .ok (.istore 5, 2) := by decide +kernel
theorem dX6_brings_12 : decode cX6_brings 12 = .ok (.iconst 0, 1) := by decide +kernel
theorem dX6_brings_13 : decode cX6_brings 13 = .ok (.istore 6, 2) := by decide +kernel
theorem dX6_brings_15 : decode cX6_brings 15 = .ok (.iload 6, 2) := by decide +kernel
theorem dX6_brings_17 : decode cX6_brings 17 = .ok (.iload_n 2, 1) := by decide +kernel
theorem dX6_brings_18 : decode cX6_brings 18 = .ok (.if_icmp .ge 74, 3) := by decide +kernel
theorem dX6_brings_21 : decode cX6_brings 21 = .ok (.iload 6, 2) := by decide +kernel
theorem dX6_brings_23 : decode cX6_brings 23 = .ok (.iload_n 3, 1) := by decide +kernel
theorem dX6_brings_24 : decode cX6_brings 24 = .ok (.if_icmp .eq 62, 3) := by decide +kernel
theorem dX6_brings_27 : decode cX6_brings 27 = .ok (.aload_n 0, 1) := by decide +kernel
theorem dX6_brings_28 : decode cX6_brings 28 = .ok (.getfield 34, 3) := by decide +kernel
theorem dX6_brings_31 : decode cX6_brings 31 = .ok (.iload 6, 2) := by decide +kernel
theorem dX6_brings_33 : decode cX6_brings 33 = .ok (.iaload, 1) := by decide +kernel
theorem dX6_brings_34 : decode cX6_brings 34 = .ok (.istore 7, 2) := by decide +kernel
theorem dX6_brings_36 : decode cX6_brings 36 = .ok (.aload_n 0, 1) := by decide +kernel
theorem dX6_brings_37 : decode cX6_brings 37 = .ok (.iload 5, 2) := by decide +kernel
theorem dX6_brings_39 : decode cX6_brings 39 = .ok (.iload 4, 2) := by decide +kernel
theorem dX6_brings_41 : decode cX6_brings 41 = .ok (.aload_n 0, 1) := by decide +kernel
theorem dX6_brings_42 : decode cX6_brings 42 = .ok (.iload 7, 2) := by decide +kernel
theorem dX6_brings_44 : decode cX6_brings 44 = .ok (.iconst 1, 1) := by decide +kernel
theorem dX6_brings_45 : decode cX6_brings 45 = .ok (.invokevirtual 90, 3) := by decide +kernel
theorem dX6_brings_48 : decode cX6_brings 48 = .ok (.invokevirtual 123, 3) := by decide +kernel
theorem dX6_brings_51 : decode cX6_brings 51 = .ok (.istore 5, 2) := by decide +kernel
theorem dX6_brings_53 : decode cX6_brings 53 = .ok (.aload_n 0, 1) := by decide +kernel
theorem dX6_brings_54 : decode cX6_brings 54 = .ok (.iload 7, 2) := by decide +kernel
theorem dX6_brings_56 : decode cX6_brings 56 = .ok (.iconst 1, 1) := by decide +kernel
theorem dX6_brings_57 : decode cX6_brings 57 = .ok (.invokevirtual 90, 3) := by decide +kernel
theorem dX6_brings_60 : decode cX6_brings 60 = .ok (.istore 4, 2) := by decide +kernel
theorem dX6_brings_62 : decode cX6_brings 62 = .ok (.aload_n 0, 1) := by decide +kernel
theorem dX6_brings_63 : decode cX6_brings 63 = .ok (.iload 5, 2) := by decide +kernel
theorem dX6_brings_65 : decode cX6_brings 65 = .ok (.iload 7, 2) := by decide +kernel
theorem dX6_brings_67 : decode cX6_brings 67 = .ok (.invokevirtual 150, 3) := by decide +kernel
theorem dX6_brings_70 : decode cX6_brings 70 = .ok (.istore 8, 2) := by decide +kernel
theorem dX6_brings_72 : decode cX6_brings 72 = .ok (.iload 8, 2) := by decide +kernel
theorem dX6_brings_74 : decode cX6_brings 74 = .ok (.ifCond .ge 8, 3) := by decide +kernel
theorem dX6_brings_77 : decode cX6_brings 77 = .ok (.iload 5, 2) := by decide +kernel
theorem dX6_brings_79 : decode cX6_brings 79 = .ok (.goto 5, 3) := by decide +kernel
theorem dX6_brings_82 : decode cX6_brings 82 = .ok (.iload 8, 2) := by decide +kernel
theorem dX6_brings_84 : decode cX6_brings 84 = .ok (.istore 5, 2) := by decide +kernel
theorem dX6_brings_86 : decode cX6_brings 86 = .ok (.iinc 6 1, 3) := by decide +kernel
theorem dX6_brings_89 : decode cX6_brings 89 = .ok (.goto (-74), 3) := by decide +kernel
theorem dX6_brings_92 : decode cX6_brings 92 = .ok (.aload_n 0, 1) := by decide +kernel
theorem dX6_brings_93 : decode cX6_brings 93 = .ok (.iload 5, 2) := by decide +kernel
theorem dX6_brings_95 : decode cX6_brings 95 = .ok (.iload 4, 2) := by decide +kernel
theorem dX6_brings_97 : decode cX6_brings 97 = .ok (.iconst 0, 1) := by decide +kernel
theorem dX6_brings_98 : decode cX6_brings 98 = .ok (.invokevirtual 123, 3) := by decide +kernel
theorem dX6_brings_101 : decode cX6_brings 101 = .ok (.ireturn, 1) := by decide +kernel
theorem dX6_row_0 : decode cX6_row 0 = .ok (.aload_n 0, 1) := by decide +kernel
theorem dX6_row_1 : decode cX6_row 1 = .ok (.iload_n 1, 1) := by decide +kernel
theorem dX6_row_2 : decode cX6_row 2 = .ok (.invokevirtual 116, 3) := by decide +kernel
theorem dX6_row_5 : decode cX6_row 5 = .ok (.ifCond .ne 10, 3) := by decide +kernel
theorem dX6_row_8 : decode cX6_row 8 = .ok (.aload_n 0, 1) := by decide +kernel
theorem dX6_row_9 : decode cX6_row 9 = .ok (.ldc 55, 2) := by decide +kernel
theorem dX6_row_11 : decode cX6_row 11 = .ok (.invokevirtual 81, 3) := by decide +kernel
theorem dX6_row_14 : decode cX6_row 14 = .ok (.ireturn, 1) := by decide +kernel
theorem dX6_row_15 : decode cX6_row 15 = .ok (.aload_n 0, 1) := by decide +kernel
theorem dX6_row_16 : decode cX6_row 16 = .ok (.invokevirtual 153, 3) := by decide +kernel
theorem dX6_row_19 : decode cX6_row 19 = .ok (.iconst 0, 1) := by decide +kernel
theorem dX6_row_20 : decode cX6_row 20 = .ok (.istore_n 2, 1) := by decide +kernel
theorem dX6_row_21 : decode cX6_row 21 = .ok (.iload_n 2, 1) := by decide +kernel
theorem dX6_row_22 : decode cX6_row 22 = .ok (.aload_n 0, 1) := by decide +kernel
theorem dX6_row_23 : decode cX6_row 23 = .ok (.getfield 7, 3) := by decide +kernel
theorem dX6_row_26 : decode cX6_row 26 = .ok (.iconst 0, 1) := by decide +kernel
theorem dX6_row_27 : decode cX6_row 27 = .ok (.iaload, 1) := by decide +kernel
theorem dX6_row_28 : decode cX6_row 28 = .ok (.if_icmp .ge 16, 3) := by decide +kernel
theorem dX6_row_31 : decode cX6_row 31 = .ok (.aload_n 0, 1) := by decide +kernel
theorem dX6_row_32 : decode cX6_row 32 = .ok (.getfield 34, 3) := by decide +kernel
theorem dX6_row_35 : decode cX6_row 35 = .ok (.iload_n 2, 1) := by decide +kernel
theorem dX6_row_36 : decode cX6_row 36 = .ok (.iload_n 2, 1) := by decide +kernel
theorem dX6_row_37 : decode cX6_row 37 = .ok (.iastore, 1) := by decide +kernel
theorem dX6_row_38 : decode cX6_row 38 = .ok (.iinc 2 1, 3) := by decide +kernel
theorem dX6_row_41 : decode cX6_row 41 = .ok (.goto (-20), 3) := by decide +kernel
theorem dX6_row_44 : decode cX6_row 44 = .ok (.aload_n 0, 1) := by decide +kernel
theorem dX6_row_45 : decode cX6_row 45 = .ok (.iload_n 1, 1) := by decide +kernel
theorem dX6_row_46 : decode cX6_row 46 = .ok (.aload_n 0, 1) := by decide +kernel
theorem dX6_row_47 : decode cX6_row 47 = .ok (.getfield 7, 3) := by decide +kernel
theorem dX6_row_50 : decode cX6_row 50 = .ok (.iconst 0, 1) := by decide +kernel
theorem dX6_row_51 : decode cX6_row 51 = .ok (.iaload, 1) := by decide +kernel
theorem dX6_row_52 : decode cX6_row 52 = .ok (.iconst (-1), 1) := by decide +kernel
theorem dX6_row_53 : decode cX6_row 53 = .ok (.invokevirtual 166, 3) := by decide +kernel
theorem dX6_row_56 : decode cX6_row 56 = .ok (.ireturn, 1) := by decide +kernel
theorem dX6_order_0 : decode cX6_order 0 = .ok (.aload_n 0, 1) := by decide +kernel
theorem dX6_order_1 : decode cX6_order 1 = .ok (.iload_n 1, 1) := by decide +kernel
theorem dX6_order_2 : decode cX6_order 2 = .ok (.invokevirtual 116, 3) := by decide +kernel
theorem dX6_order_5 : decode cX6_order 5 = .ok (.ifCond .eq 15, 3) := by decide +kernel
theorem dX6_order_8 : decode cX6_order 8 = .ok (.iload_n 2, 1) := by decide +kernel
theorem dX6_order_9 : decode cX6_order 9 = .ok (.i2l, 1) := by decide +kernel
theorem dX6_order_10 : decode cX6_order 10 = .ok (.lconst 0, 1) := by decide +kernel
theorem dX6_order_11 : decode cX6_order 11 = .ok (.ldc2_w 102, 3) := by decide +kernel
theorem dX6_order_14 : decode cX6_order 14 = .ok (.invokestatic 58, 3) := by decide +kernel
theorem dX6_order_17 : decode cX6_order 17 = .ok (.ifCond .ne 10, 3) := by decide +kernel
theorem dX6_order_20 : decode cX6_order 20 = .ok (.aload_n 0, 1) := by decide +kernel
theorem dX6_order_21 : decode cX6_order 21 = .ok (.ldc 55, 2) := by decide +kernel
theorem dX6_order_23 : decode cX6_order 23 = .ok (.invokevirtual 81, 3) := by decide +kernel
theorem dX6_order_26 : decode cX6_order 26 = .ok (.ireturn, 1) := by decide +kernel
theorem dX6_order_27 : decode cX6_order 27 = .ok (.aload_n 0, 1) := by decide +kernel
theorem dX6_order_28 : decode cX6_order 28 = .ok (.iload_n 1, 1) := by decide +kernel
theorem dX6_order_29 : decode cX6_order 29 = .ok (.invokevirtual 169, 3) := by decide +kernel
theorem dX6_order_32 : decode cX6_order 32 = .ok (.istore_n 3, 1) := by decide +kernel
theorem dX6_order_33 : decode cX6_order 33 = .ok (.iload_n 2, 1) := by decide +kernel
theorem dX6_order_34 : decode cX6_order 34 = .ok (.aload_n 0, 1) := by decide +kernel
theorem dX6_order_35 : decode cX6_order 35 = .ok (.getfield 163, 3) := by decide +kernel
theorem dX6_order_38 : decode cX6_order 38 = .ok (.if_icmp .ge 12, 3) := by decide +kernel
theorem dX6_order_41 : decode cX6_order 41 = .ok (.aload_n 0, 1) := by decide +kernel
theorem dX6_order_42 : decode cX6_order 42 = .ok (.getfield 37, 3) := by decide +kernel
theorem dX6_order_45 : decode cX6_order 45 = .ok (.iload_n 2, 1) := by decide +kernel
theorem dX6_order_46 : decode cX6_order 46 = .ok (.iaload, 1) := by decide +kernel
theorem dX6_order_47 : decode cX6_order 47 = .ok (.goto 9, 3) := by decide +kernel
theorem dX6_order_50 : decode cX6_order 50 = .ok (.aload_n 0, 1) := by decide +kernel
theorem dX6_order_51 : decode cX6_order 51 = .ok (.ldc 172, 2) := by decide +kernel
theorem dX6_order_53 : decode cX6_order 53 = .ok (.invokevirtual 81, 3) := by decide +kernel
theorem dX6_order_56 : decode cX6_order 56 = .ok (.ireturn, 1) := by decide +kernel
theorem dX6_least_0 : decode cX6_least 0 = .ok (.aload_n 0, 1) := by decide +kernel
theorem dX6_least_1 : decode cX6_least 1 = .ok (.invokevirtual 153, 3) := by decide +kernel
theorem dX6_least_4 : decode cX6_least 4 = .ok (.aload_n 0, 1) := by decide +kernel
theorem dX6_least_5 : decode cX6_least 5 = .ok (.getfield 137, 3) := by decide +kernel
theorem dX6_least_8 : decode cX6_least 8 = .ok (.iconst 1, 1) := by decide +kernel
theorem dX6_least_9 : decode cX6_least 9 = .ok (.aload_n 0, 1) := by decide +kernel
theorem dX6_least_10 : decode cX6_least 10 = .ok (.getfield 7, 3) := by decide +kernel
theorem dX6_least_13 : decode cX6_least 13 = .ok (.iconst 0, 1) := by decide +kernel
theorem dX6_least_14 : decode cX6_least 14 = .ok (.iaload, 1) := by decide +kernel
theorem dX6_least_15 : decode cX6_least 15 = .ok (.ishl, 1) := by decide +kernel
theorem dX6_least_16 : decode cX6_least 16 = .ok (.iconst 1, 1) := by decide +kernel
theorem dX6_least_17 : decode cX6_least 17 = .ok (.isub, 1) := by decide +kernel
theorem dX6_least_18 : decode cX6_least 18 = .ok (.if_icmp .eq 10, 3) := by decide +kernel
theorem dX6_least_21 : decode cX6_least 21 = .ok (.aload_n 0, 1) := by decide +kernel
theorem dX6_least_22 : decode cX6_least 22 = .ok (.ldc 172, 2) := by decide +kernel
theorem dX6_least_24 : decode cX6_least 24 = .ok (.invokevirtual 81, 3) := by decide +kernel
theorem dX6_least_27 : decode cX6_least 27 = .ok (.ireturn, 1) := by decide +kernel
theorem dX6_least_28 : decode cX6_least 28 = .ok (.iconst 0, 1) := by decide +kernel
theorem dX6_least_29 : decode cX6_least 29 = .ok (.istore_n 1, 1) := by decide +kernel
theorem dX6_least_30 : decode cX6_least 30 = .ok (.iload_n 1, 1) := by decide +kernel
theorem dX6_least_31 : decode cX6_least 31 = .ok (.aload_n 0, 1) := by decide +kernel
theorem dX6_least_32 : decode cX6_least 32 = .ok (.getfield 7, 3) := by decide +kernel
theorem dX6_least_35 : decode cX6_least 35 = .ok (.iconst 2, 1) := by decide +kernel
theorem dX6_least_36 : decode cX6_least 36 = .ok (.iaload, 1) := by decide +kernel
theorem dX6_least_37 : decode cX6_least 37 = .ok (.if_icmp .gt 35, 3) := by decide +kernel
theorem dX6_least_40 : decode cX6_least 40 = .ok (.aload_n 0, 1) := by decide +kernel
theorem dX6_least_41 : decode cX6_least 41 = .ok (.aload_n 0, 1) := by decide +kernel
theorem dX6_least_42 : decode cX6_least 42 = .ok (.getfield 7, 3) := by decide +kernel
theorem dX6_least_45 : decode cX6_least 45 = .ok (.bipush 7, 2) := by decide +kernel
theorem dX6_least_47 : decode cX6_least 47 = .ok (.iaload, 1) := by decide +kernel
theorem dX6_least_48 : decode cX6_least 48 = .ok (.iload_n 1, 1) := by decide +kernel
theorem dX6_least_49 : decode cX6_least 49 = .ok (.aload_n 0, 1) := by decide +kernel
theorem dX6_least_50 : decode cX6_least 50 = .ok (.getfield 137, 3) := by decide +kernel
theorem dX6_least_53 : decode cX6_least 53 = .ok (.aload_n 0, 1) := by decide +kernel
theorem dX6_least_54 : decode cX6_least 54 = .ok (.getfield 7, 3) := by decide +kernel
theorem dX6_least_57 : decode cX6_least 57 = .ok (.iconst 0, 1) := by decide +kernel
theorem dX6_least_58 : decode cX6_least 58 = .ok (.iaload, 1) := by decide +kernel
theorem dX6_least_59 : decode cX6_least 59 = .ok (.iconst 0, 1) := by decide +kernel
theorem dX6_least_60 : decode cX6_least 60 = .ok (.invokevirtual 156, 3) := by decide +kernel
theorem dX6_least_63 : decode cX6_least 63 = .ok (.ifCond .ge 9, 3) := by decide +kernel
theorem dX6_least_66 : decode cX6_least 66 = .ok (.iinc 1 1, 3) := by decide +kernel
theorem dX6_least_69 : decode cX6_least 69 = .ok (.goto (-39), 3) := by decide +kernel
theorem dX6_least_72 : decode cX6_least 72 = .ok (.iload_n 1, 1) := by decide +kernel
theorem dX6_least_73 : decode cX6_least 73 = .ok (.aload_n 0, 1) := by decide +kernel
theorem dX6_least_74 : decode cX6_least 74 = .ok (.getfield 7, 3) := by decide +kernel
theorem dX6_least_77 : decode cX6_least 77 = .ok (.iconst 2, 1) := by decide +kernel
theorem dX6_least_78 : decode cX6_least 78 = .ok (.iaload, 1) := by decide +kernel
theorem dX6_least_79 : decode cX6_least 79 = .ok (.if_icmp .le 12, 3) := by decide +kernel
theorem dX6_least_82 : decode cX6_least 82 = .ok (.aload_n 0, 1) := by decide +kernel
theorem dX6_least_83 : decode cX6_least 83 = .ok (.ldc 172, 2) := by decide +kernel
theorem dX6_least_85 : decode cX6_least 85 = .ok (.invokevirtual 81, 3) := by decide +kernel
theorem dX6_least_88 : decode cX6_least 88 = .ok (.goto 4, 3) := by decide +kernel
theorem dX6_least_91 : decode cX6_least 91 = .ok (.iload_n 1, 1) := by decide +kernel
theorem dX6_least_92 : decode cX6_least 92 = .ok (.ireturn, 1) := by decide +kernel
theorem dX6_leastFor_0 : decode cX6_leastFor 0 = .ok (.iload_n 1, 1) := by decide +kernel
theorem dX6_leastFor_1 : decode cX6_leastFor 1 = .ok (.i2l, 1) := by decide +kernel
theorem dX6_leastFor_2 : decode cX6_leastFor 2 = .ok (.lconst 0, 1) := by decide +kernel
theorem dX6_leastFor_3 : decode cX6_leastFor 3 = .ok (.ldc2_w 107, 3) := by decide +kernel
theorem dX6_leastFor_6 : decode cX6_leastFor 6 = .ok (.invokestatic 58, 3) := by decide +kernel
theorem dX6_leastFor_9 : decode cX6_leastFor 9 = .ok (.ifCond .ne 10, 3) := by decide +kernel
theorem dX6_leastFor_12 : decode cX6_leastFor 12 = .ok (.aload_n 0, 1) := by decide +kernel
theorem dX6_leastFor_13 : decode cX6_leastFor 13 = .ok (.ldc 55, 2) := by decide +kernel
theorem dX6_leastFor_15 : decode cX6_leastFor 15 = .ok (.invokevirtual 81, 3) := by decide +kernel
theorem dX6_leastFor_18 : decode cX6_leastFor 18 = .ok (.ireturn, 1) := by decide +kernel
theorem dX6_leastFor_19 : decode cX6_leastFor 19 = .ok (.aload_n 0, 1) := by decide +kernel
theorem dX6_leastFor_20 : decode cX6_leastFor 20 = .ok (.aload_n 0, 1) := by decide +kernel
theorem dX6_leastFor_21 : decode cX6_leastFor 21 = .ok (.getfield 7, 3) := by decide +kernel
theorem dX6_leastFor_24 : decode cX6_leastFor 24 = .ok (.iconst 2, 1) := by decide +kernel
theorem dX6_leastFor_25 : decode cX6_leastFor 25 = .ok (.iaload, 1) := by decide +kernel
theorem dX6_leastFor_26 : decode cX6_leastFor 26 = .ok (.invokevirtual 160, 3) := by decide +kernel
theorem dX6_leastFor_29 : decode cX6_leastFor 29 = .ok (.iload_n 1, 1) := by decide +kernel
theorem dX6_leastFor_30 : decode cX6_leastFor 30 = .ok (.if_icmp .ge 10, 3) := by decide +kernel
theorem dX6_leastFor_33 : decode cX6_leastFor 33 = .ok (.aload_n 0, 1) := by decide +kernel
theorem dX6_leastFor_34 : decode cX6_leastFor 34 = .ok (.ldc 172, 2) := by decide +kernel
theorem dX6_leastFor_36 : decode cX6_leastFor 36 = .ok (.invokevirtual 81, 3) := by decide +kernel
theorem dX6_leastFor_39 : decode cX6_leastFor 39 = .ok (.ireturn, 1) := by decide +kernel
theorem dX6_leastFor_40 : decode cX6_leastFor 40 = .ok (.iconst (-1), 1) := by decide +kernel
theorem dX6_leastFor_41 : decode cX6_leastFor 41 = .ok (.istore_n 2, 1) := by decide +kernel
theorem dX6_leastFor_42 : decode cX6_leastFor 42 = .ok (.aload_n 0, 1) := by decide +kernel
theorem dX6_leastFor_43 : decode cX6_leastFor 43 = .ok (.getfield 7, 3) := by decide +kernel
theorem dX6_leastFor_46 : decode cX6_leastFor 46 = .ok (.iconst 2, 1) := by decide +kernel
theorem dX6_leastFor_47 : decode cX6_leastFor 47 = .ok (.iaload, 1) := by decide +kernel
theorem dX6_leastFor_48 : decode cX6_leastFor 48 = .ok (.istore_n 3, 1) := by decide +kernel
theorem dX6_leastFor_49 : decode cX6_leastFor 49 = .ok (.iload_n 3, 1) := by decide +kernel
theorem dX6_leastFor_50 : decode cX6_leastFor 50 = .ok (.iload_n 2, 1) := by decide +kernel
theorem dX6_leastFor_51 : decode cX6_leastFor 51 = .ok (.isub, 1) := by decide +kernel
theorem dX6_leastFor_52 : decode cX6_leastFor 52 = .ok (.iconst 1, 1) := by decide +kernel
theorem dX6_leastFor_53 : decode cX6_leastFor 53 = .ok (.if_icmp .le 32, 3) := by decide +kernel
theorem dX6_leastFor_56 : decode cX6_leastFor 56 = .ok (.iload_n 2, 1) := by decide +kernel
theorem dX6_leastFor_57 : decode cX6_leastFor 57 = .ok (.iload_n 3, 1) := by decide +kernel
theorem dX6_leastFor_58 : decode cX6_leastFor 58 = .ok (.iadd, 1) := by decide +kernel
theorem dX6_leastFor_59 : decode cX6_leastFor 59 = .ok (.iconst 2, 1) := by decide +kernel
theorem dX6_leastFor_60 : decode cX6_leastFor 60 = .ok (.idiv, 1) := by decide +kernel
theorem dX6_leastFor_61 : decode cX6_leastFor 61 = .ok (.istore 4, 2) := by decide +kernel
theorem dX6_leastFor_63 : decode cX6_leastFor 63 = .ok (.aload_n 0, 1) := by decide +kernel
theorem dX6_leastFor_64 : decode cX6_leastFor 64 = .ok (.iload 4, 2) := by decide +kernel
theorem dX6_leastFor_66 : decode cX6_leastFor 66 = .ok (.invokevirtual 160, 3) := by decide +kernel
theorem dX6_leastFor_69 : decode cX6_leastFor 69 = .ok (.iload_n 1, 1) := by decide +kernel
theorem dX6_leastFor_70 : decode cX6_leastFor 70 = .ok (.if_icmp .ge 9, 3) := by decide +kernel
theorem dX6_leastFor_73 : decode cX6_leastFor 73 = .ok (.iload 4, 2) := by decide +kernel
theorem dX6_leastFor_75 : decode cX6_leastFor 75 = .ok (.istore_n 2, 1) := by decide +kernel
theorem dX6_leastFor_76 : decode cX6_leastFor 76 = .ok (.goto 6, 3) := by decide +kernel
theorem dX6_leastFor_79 : decode cX6_leastFor 79 = .ok (.iload 4, 2) := by decide +kernel
theorem dX6_leastFor_81 : decode cX6_leastFor 81 = .ok (.istore_n 3, 1) := by decide +kernel
theorem dX6_leastFor_82 : decode cX6_leastFor 82 = .ok (.goto (-33), 3) := by decide +kernel
theorem dX6_leastFor_85 : decode cX6_leastFor 85 = .ok (.iload_n 3, 1) := by decide +kernel
theorem dX6_leastFor_86 : decode cX6_leastFor 86 = .ok (.ireturn, 1) := by decide +kernel
theorem dX6_keep_0 : decode cX6_keep 0 = .ok (.iconst 0, 1) := by decide +kernel
theorem dX6_keep_1 : decode cX6_keep 1 = .ok (.istore_n 1, 1) := by decide +kernel
theorem dX6_keep_2 : decode cX6_keep 2 = .ok (.iload_n 1, 1) := by decide +kernel
theorem dX6_keep_3 : decode cX6_keep 3 = .ok (.aload_n 0, 1) := by decide +kernel
theorem dX6_keep_4 : decode cX6_keep 4 = .ok (.getfield 7, 3) := by decide +kernel
theorem dX6_keep_7 : decode cX6_keep 7 = .ok (.iconst 2, 1) := by decide +kernel
theorem dX6_keep_8 : decode cX6_keep 8 = .ok (.iaload, 1) := by decide +kernel
theorem dX6_keep_9 : decode cX6_keep 9 = .ok (.if_icmp .gt 18, 3) := by decide +kernel
theorem dX6_keep_12 : decode cX6_keep 12 = .ok (.aload_n 0, 1) := by decide +kernel
theorem dX6_keep_13 : decode cX6_keep 13 = .ok (.iload_n 1, 1) := by decide +kernel
theorem dX6_keep_14 : decode cX6_keep 14 = .ok (.invokevirtual 160, 3) := by decide +kernel
theorem dX6_keep_17 : decode cX6_keep 17 = .ok (.iload_n 1, 1) := by decide +kernel
theorem dX6_keep_18 : decode cX6_keep 18 = .ok (.if_icmp .gt 9, 3) := by decide +kernel
theorem dX6_keep_21 : decode cX6_keep 21 = .ok (.iinc 1 1, 3) := by decide +kernel
theorem dX6_keep_24 : decode cX6_keep 24 = .ok (.goto (-22), 3) := by decide +kernel
theorem dX6_keep_27 : decode cX6_keep 27 = .ok (.iload_n 1, 1) := by decide +kernel
theorem dX6_keep_28 : decode cX6_keep 28 = .ok (.aload_n 0, 1) := by decide +kernel
theorem dX6_keep_29 : decode cX6_keep 29 = .ok (.getfield 7, 3) := by decide +kernel
theorem dX6_keep_32 : decode cX6_keep 32 = .ok (.iconst 2, 1) := by decide +kernel
theorem dX6_keep_33 : decode cX6_keep 33 = .ok (.iaload, 1) := by decide +kernel
theorem dX6_keep_34 : decode cX6_keep 34 = .ok (.if_icmp .le 12, 3) := by decide +kernel
theorem dX6_keep_37 : decode cX6_keep 37 = .ok (.aload_n 0, 1) := by decide +kernel
theorem dX6_keep_38 : decode cX6_keep 38 = .ok (.ldc 172, 2) := by decide +kernel
theorem dX6_keep_40 : decode cX6_keep 40 = .ok (.invokevirtual 81, 3) := by decide +kernel
theorem dX6_keep_43 : decode cX6_keep 43 = .ok (.goto 4, 3) := by decide +kernel
theorem dX6_keep_46 : decode cX6_keep 46 = .ok (.iload_n 1, 1) := by decide +kernel
theorem dX6_keep_47 : decode cX6_keep 47 = .ok (.ireturn, 1) := by decide +kernel
theorem dX6_starts_0 : decode cX6_starts 0 = .ok (.aload_n 0, 1) := by decide +kernel
theorem dX6_starts_1 : decode cX6_starts 1 = .ok (.iload_n 1, 1) := by decide +kernel
theorem dX6_starts_2 : decode cX6_starts 2 = .ok (.invokevirtual 116, 3) := by decide +kernel
theorem dX6_starts_5 : decode cX6_starts 5 = .ok (.ifCond .ne 10, 3) := by decide +kernel
theorem dX6_starts_8 : decode cX6_starts 8 = .ok (.aload_n 0, 1) := by decide +kernel
theorem dX6_starts_9 : decode cX6_starts 9 = .ok (.ldc 55, 2) := by decide +kernel
theorem dX6_starts_11 : decode cX6_starts 11 = .ok (.invokevirtual 81, 3) := by decide +kernel
theorem dX6_starts_14 : decode cX6_starts 14 = .ok (.ireturn, 1) := by decide +kernel
theorem dX6_starts_15 : decode cX6_starts 15 = .ok (.aload_n 0, 1) := by decide +kernel
theorem dX6_starts_16 : decode cX6_starts 16 = .ok (.invokevirtual 153, 3) := by decide +kernel
theorem dX6_starts_19 : decode cX6_starts 19 = .ok (.iconst 0, 1) := by decide +kernel
theorem dX6_starts_20 : decode cX6_starts 20 = .ok (.istore_n 2, 1) := by decide +kernel
theorem dX6_starts_21 : decode cX6_starts 21 = .ok (.iconst 0, 1) := by decide +kernel
theorem dX6_starts_22 : decode cX6_starts 22 = .ok (.istore_n 3, 1) := by decide +kernel
theorem dX6_starts_23 : decode cX6_starts 23 = .ok (.iload_n 3, 1) := by decide +kernel
theorem dX6_starts_24 : decode cX6_starts 24 = .ok (.aload_n 0, 1) := by decide +kernel
theorem dX6_starts_25 : decode cX6_starts 25 = .ok (.getfield 7, 3) := by decide +kernel
theorem dX6_starts_28 : decode cX6_starts 28 = .ok (.iconst 0, 1) := by decide +kernel
theorem dX6_starts_29 : decode cX6_starts 29 = .ok (.iaload, 1) := by decide +kernel
theorem dX6_starts_30 : decode cX6_starts 30 = .ok (.if_icmp .ge 45, 3) := by decide +kernel
theorem dX6_starts_33 : decode cX6_starts 33 = .ok (.iload_n 2, 1) := by decide +kernel
theorem dX6_starts_34 : decode cX6_starts 34 = .ok (.aload_n 0, 1) := by decide +kernel
theorem dX6_starts_35 : decode cX6_starts 35 = .ok (.aload_n 0, 1) := by decide +kernel
theorem dX6_starts_36 : decode cX6_starts 36 = .ok (.iload_n 1, 1) := by decide +kernel
theorem dX6_starts_37 : decode cX6_starts 37 = .ok (.aload_n 0, 1) := by decide +kernel
theorem dX6_starts_38 : decode cX6_starts 38 = .ok (.getfield 7, 3) := by decide +kernel
theorem dX6_starts_41 : decode cX6_starts 41 = .ok (.bipush 7, 2) := by decide +kernel
theorem dX6_starts_43 : decode cX6_starts 43 = .ok (.iaload, 1) := by decide +kernel
theorem dX6_starts_44 : decode cX6_starts 44 = .ok (.aload_n 0, 1) := by decide +kernel
theorem dX6_starts_45 : decode cX6_starts 45 = .ok (.iload_n 3, 1) := by decide +kernel
theorem dX6_starts_46 : decode cX6_starts 46 = .ok (.iconst 1, 1) := by decide +kernel
theorem dX6_starts_47 : decode cX6_starts 47 = .ok (.invokevirtual 90, 3) := by decide +kernel
theorem dX6_starts_50 : decode cX6_starts 50 = .ok (.invokevirtual 123, 3) := by decide +kernel
theorem dX6_starts_53 : decode cX6_starts 53 = .ok (.iload_n 3, 1) := by decide +kernel
theorem dX6_starts_54 : decode cX6_starts 54 = .ok (.invokevirtual 150, 3) := by decide +kernel
theorem dX6_starts_57 : decode cX6_starts 57 = .ok (.ifCond .ge 7, 3) := by decide +kernel
theorem dX6_starts_60 : decode cX6_starts 60 = .ok (.iconst 0, 1) := by decide +kernel
theorem dX6_starts_61 : decode cX6_starts 61 = .ok (.goto 6, 3) := by decide +kernel
theorem dX6_starts_64 : decode cX6_starts 64 = .ok (.iconst 1, 1) := by decide +kernel
theorem dX6_starts_65 : decode cX6_starts 65 = .ok (.iload_n 3, 1) := by decide +kernel
theorem dX6_starts_66 : decode cX6_starts 66 = .ok (.ishl, 1) := by decide +kernel
theorem dX6_starts_67 : decode cX6_starts 67 = .ok (.ior, 1) := by decide +kernel
theorem dX6_starts_68 : decode cX6_starts 68 = .ok (.istore_n 2, 1) := by decide +kernel
theorem dX6_starts_69 : decode cX6_starts 69 = .ok (.iinc 3 1, 3) := by decide +kernel
theorem dX6_starts_72 : decode cX6_starts 72 = .ok (.goto (-49), 3) := by decide +kernel
theorem dX6_starts_75 : decode cX6_starts 75 = .ok (.iload_n 2, 1) := by decide +kernel
theorem dX6_starts_76 : decode cX6_starts 76 = .ok (.ireturn, 1) := by decide +kernel
theorem dX6_isRing_0 : decode cX6_isRing 0 = .ok (.iconst 0, 1) := by decide +kernel
theorem dX6_isRing_1 : decode cX6_isRing 1 = .ok (.istore_n 2, 1) := by decide +kernel
theorem dX6_isRing_2 : decode cX6_isRing 2 = .ok (.iconst 0, 1) := by decide +kernel
theorem dX6_isRing_3 : decode cX6_isRing 3 = .ok (.istore_n 3, 1) := by decide +kernel
theorem dX6_isRing_4 : decode cX6_isRing 4 = .ok (.iload_n 3, 1) := by decide +kernel
theorem dX6_isRing_5 : decode cX6_isRing 5 = .ok (.aload_n 0, 1) := by decide +kernel
theorem dX6_isRing_6 : decode cX6_isRing 6 = .ok (.getfield 7, 3) := by decide +kernel
theorem dX6_isRing_9 : decode cX6_isRing 9 = .ok (.iconst 0, 1) := by decide +kernel
theorem dX6_isRing_10 : decode cX6_isRing 10 = .ok (.iaload, 1) := by decide +kernel
theorem dX6_isRing_11 : decode cX6_isRing 11 = .ok (.if_icmp .ge 95, 3) := by decide +kernel
theorem dX6_isRing_14 : decode cX6_isRing 14 = .ok (.iload_n 2, 1) := by decide +kernel
theorem dX6_isRing_15 : decode cX6_isRing 15 = .ok (.ifCond .ne 91, 3) := by decide +kernel
theorem dX6_isRing_18 : decode cX6_isRing 18 = .ok (.iload_n 1, 1) := by decide +kernel
theorem dX6_isRing_19 : decode cX6_isRing 19 = .ok (.iload_n 3, 1) := by decide +kernel
theorem dX6_isRing_20 : decode cX6_isRing 20 = .ok (.invokestatic 141, 3) := by decide +kernel
theorem dX6_isRing_23 : decode cX6_isRing 23 = .ok (.ifCond .eq 77, 3) := by decide +kernel
theorem dX6_isRing_26 : decode cX6_isRing 26 = .ok (.aload_n 0, 1) := by decide +kernel
theorem dX6_isRing_27 : decode cX6_isRing 27 = .ok (.getfield 25, 3) := by decide +kernel
theorem dX6_isRing_30 : decode cX6_isRing 30 = .ok (.iload_n 3, 1) := by decide +kernel
theorem dX6_isRing_31 : decode cX6_isRing 31 = .ok (.iaload, 1) := by decide +kernel
theorem dX6_isRing_32 : decode cX6_isRing 32 = .ok (.aload_n 0, 1) := by decide +kernel
theorem dX6_isRing_33 : decode cX6_isRing 33 = .ok (.getfield 7, 3) := by decide +kernel
theorem dX6_isRing_36 : decode cX6_isRing 36 = .ok (.iconst 2, 1) := by decide +kernel
theorem dX6_isRing_37 : decode cX6_isRing 37 = .ok (.iaload, 1) := by decide +kernel
theorem dX6_isRing_38 : decode cX6_isRing 38 = .ok (.if_icmp .gt 62, 3) := by decide +kernel
theorem dX6_isRing_41 : decode cX6_isRing 41 = .ok (.aload_n 0, 1) := by decide +kernel
theorem dX6_isRing_42 : decode cX6_isRing 42 = .ok (.aload_n 0, 1) := by decide +kernel
theorem dX6_isRing_43 : decode cX6_isRing 43 = .ok (.iload_n 3, 1) := by decide +kernel
theorem dX6_isRing_44 : decode cX6_isRing 44 = .ok (.iconst 1, 1) := by decide +kernel
theorem dX6_isRing_45 : decode cX6_isRing 45 = .ok (.invokevirtual 90, 3) := by decide +kernel
theorem dX6_isRing_48 : decode cX6_isRing 48 = .ok (.aload_n 0, 1) := by decide +kernel
theorem dX6_isRing_49 : decode cX6_isRing 49 = .ok (.aload_n 0, 1) := by decide +kernel
theorem dX6_isRing_50 : decode cX6_isRing 50 = .ok (.getfield 25, 3) := by decide +kernel
theorem dX6_isRing_53 : decode cX6_isRing 53 = .ok (.iload_n 3, 1) := by decide +kernel
theorem dX6_isRing_54 : decode cX6_isRing 54 = .ok (.iaload, 1) := by decide +kernel
theorem dX6_isRing_55 : decode cX6_isRing 55 = .ok (.iload_n 3, 1) := by decide +kernel
theorem dX6_isRing_56 : decode cX6_isRing 56 = .ok (.invokevirtual 150, 3) := by decide +kernel
theorem dX6_isRing_59 : decode cX6_isRing 59 = .ok (.iload_n 1, 1) := by decide +kernel
theorem dX6_isRing_60 : decode cX6_isRing 60 = .ok (.iconst 1, 1) := by decide +kernel
theorem dX6_isRing_61 : decode cX6_isRing 61 = .ok (.iload_n 3, 1) := by decide +kernel
theorem dX6_isRing_62 : decode cX6_isRing 62 = .ok (.ishl, 1) := by decide +kernel
theorem dX6_isRing_63 : decode cX6_isRing 63 = .ok (.iconst (-1), 1) := by decide +kernel
theorem dX6_isRing_64 : decode cX6_isRing 64 = .ok (.ixor, 1) := by decide +kernel
theorem dX6_isRing_65 : decode cX6_isRing 65 = .ok (.iand, 1) := by decide +kernel
theorem dX6_isRing_66 : decode cX6_isRing 66 = .ok (.iload_n 1, 1) := by decide +kernel
theorem dX6_isRing_67 : decode cX6_isRing 67 = .ok (.invokestatic 144, 3) := by decide +kernel
theorem dX6_isRing_70 : decode cX6_isRing 70 = .ok (.iconst 1, 1) := by decide +kernel
theorem dX6_isRing_71 : decode cX6_isRing 71 = .ok (.isub, 1) := by decide +kernel
theorem dX6_isRing_72 : decode cX6_isRing 72 = .ok (.aload_n 0, 1) := by decide +kernel
theorem dX6_isRing_73 : decode cX6_isRing 73 = .ok (.iload_n 3, 1) := by decide +kernel
theorem dX6_isRing_74 : decode cX6_isRing 74 = .ok (.iconst 1, 1) := by decide +kernel
theorem dX6_isRing_75 : decode cX6_isRing 75 = .ok (.invokevirtual 90, 3) := by decide +kernel
theorem dX6_isRing_78 : decode cX6_isRing 78 = .ok (.invokevirtual 156, 3) := by decide +kernel
theorem dX6_isRing_81 : decode cX6_isRing 81 = .ok (.istore 4, 2) := by decide +kernel
theorem dX6_isRing_83 : decode cX6_isRing 83 = .ok (.iload 4, 2) := by decide +kernel
theorem dX6_isRing_85 : decode cX6_isRing 85 = .ok (.aload_n 0, 1) := by decide +kernel
theorem dX6_isRing_86 : decode cX6_isRing 86 = .ok (.getfield 25, 3) := by decide +kernel
theorem dX6_isRing_89 : decode cX6_isRing 89 = .ok (.iload_n 3, 1) := by decide +kernel
theorem dX6_isRing_90 : decode cX6_isRing 90 = .ok (.iaload, 1) := by decide +kernel
theorem dX6_isRing_91 : decode cX6_isRing 91 = .ok (.if_icmp .lt 7, 3) := by decide +kernel
theorem dX6_isRing_94 : decode cX6_isRing 94 = .ok (.iconst 1, 1) := by decide +kernel
theorem dX6_isRing_95 : decode cX6_isRing 95 = .ok (.goto 4, 3) := by decide +kernel
theorem dX6_isRing_98 : decode cX6_isRing 98 = .ok (.iconst 0, 1) := by decide +kernel
theorem dX6_isRing_99 : decode cX6_isRing 99 = .ok (.istore_n 2, 1) := by decide +kernel
theorem dX6_isRing_100 : decode cX6_isRing 100 = .ok (.iinc 3 1, 3) := by decide +kernel
theorem dX6_isRing_103 : decode cX6_isRing 103 = .ok (.goto (-99), 3) := by decide +kernel
theorem dX6_isRing_106 : decode cX6_isRing 106 = .ok (.iload_n 2, 1) := by decide +kernel
theorem dX6_isRing_107 : decode cX6_isRing 107 = .ok (.ireturn, 1) := by decide +kernel
theorem dX6_ring_0 : decode cX6_ring 0 = .ok (.aload_n 0, 1) := by decide +kernel
theorem dX6_ring_1 : decode cX6_ring 1 = .ok (.invokevirtual 153, 3) := by decide +kernel
theorem dX6_ring_4 : decode cX6_ring 4 = .ok (.iconst (-1), 1) := by decide +kernel
theorem dX6_ring_5 : decode cX6_ring 5 = .ok (.istore_n 1, 1) := by decide +kernel
theorem dX6_ring_6 : decode cX6_ring 6 = .ok (.iconst 1, 1) := by decide +kernel
theorem dX6_ring_7 : decode cX6_ring 7 = .ok (.istore_n 2, 1) := by decide +kernel
theorem dX6_ring_8 : decode cX6_ring 8 = .ok (.iload_n 2, 1) := by decide +kernel
theorem dX6_ring_9 : decode cX6_ring 9 = .ok (.iconst 1, 1) := by decide +kernel
theorem dX6_ring_10 : decode cX6_ring 10 = .ok (.aload_n 0, 1) := by decide +kernel
theorem dX6_ring_11 : decode cX6_ring 11 = .ok (.getfield 7, 3) := by decide +kernel
theorem dX6_ring_14 : decode cX6_ring 14 = .ok (.iconst 0, 1) := by decide +kernel
theorem dX6_ring_15 : decode cX6_ring 15 = .ok (.iaload, 1) := by decide +kernel
theorem dX6_ring_16 : decode cX6_ring 16 = .ok (.ishl, 1) := by decide +kernel
theorem dX6_ring_17 : decode cX6_ring 17 = .ok (.if_icmp .ge 67, 3) := by decide +kernel
theorem dX6_ring_20 : decode cX6_ring 20 = .ok (.iload_n 2, 1) := by decide +kernel
theorem dX6_ring_21 : decode cX6_ring 21 = .ok (.aload_n 0, 1) := by decide +kernel
theorem dX6_ring_22 : decode cX6_ring 22 = .ok (.getfield 137, 3) := by decide +kernel
theorem dX6_ring_25 : decode cX6_ring 25 = .ok (.iconst (-1), 1) := by decide +kernel
theorem dX6_ring_26 : decode cX6_ring 26 = .ok (.ixor, 1) := by decide +kernel
theorem dX6_ring_27 : decode cX6_ring 27 = .ok (.iand, 1) := by decide +kernel
theorem dX6_ring_28 : decode cX6_ring 28 = .ok (.ifCond .ne 30, 3) := by decide +kernel
theorem dX6_ring_31 : decode cX6_ring 31 = .ok (.iload_n 2, 1) := by decide +kernel
theorem dX6_ring_32 : decode cX6_ring 32 = .ok (.invokestatic 144, 3) := by decide +kernel
theorem dX6_ring_35 : decode cX6_ring 35 = .ok (.iconst 1, 1) := by decide +kernel
theorem dX6_ring_36 : decode cX6_ring 36 = .ok (.if_icmp .le 22, 3) := by decide +kernel
theorem dX6_ring_39 : decode cX6_ring 39 = .ok (.iload_n 1, 1) := by decide +kernel
theorem dX6_ring_40 : decode cX6_ring 40 = .ok (.ifCond .lt 14, 3) := by decide +kernel
theorem dX6_ring_43 : decode cX6_ring 43 = .ok (.iload_n 2, 1) := by decide +kernel
theorem dX6_ring_44 : decode cX6_ring 44 = .ok (.invokestatic 144, 3) := by decide +kernel
theorem dX6_ring_47 : decode cX6_ring 47 = .ok (.iload_n 1, 1) := by decide +kernel
theorem dX6_ring_48 : decode cX6_ring 48 = .ok (.invokestatic 144, 3) := by decide +kernel
theorem dX6_ring_51 : decode cX6_ring 51 = .ok (.if_icmp .ge 7, 3) := by decide +kernel
theorem dX6_ring_54 : decode cX6_ring 54 = .ok (.iconst 1, 1) := by decide +kernel
theorem dX6_ring_55 : decode cX6_ring 55 = .ok (.goto 4, 3) := by decide +kernel
theorem dX6_ring_58 : decode cX6_ring 58 = .ok (.iconst 0, 1) := by decide +kernel
theorem dX6_ring_59 : decode cX6_ring 59 = .ok (.istore_n 3, 1) := by decide +kernel
theorem dX6_ring_60 : decode cX6_ring 60 = .ok (.iload_n 3, 1) := by decide +kernel
theorem dX6_ring_61 : decode cX6_ring 61 = .ok (.ifCond .eq 15, 3) := by decide +kernel
theorem dX6_ring_64 : decode cX6_ring 64 = .ok (.aload_n 0, 1) := by decide +kernel
theorem dX6_ring_65 : decode cX6_ring 65 = .ok (.iload_n 2, 1) := by decide +kernel
theorem dX6_ring_66 : decode cX6_ring 66 = .ok (.invokevirtual 173, 3) := by decide +kernel
theorem dX6_ring_69 : decode cX6_ring 69 = .ok (.ifCond .eq 7, 3) := by decide +kernel
theorem dX6_ring_72 : decode cX6_ring 72 = .ok (.iload_n 2, 1) := by decide +kernel
theorem dX6_ring_73 : decode cX6_ring 73 = .ok (.goto 4, 3) := by decide +kernel
theorem dX6_ring_76 : decode cX6_ring 76 = .ok (.iload_n 1, 1) := by decide +kernel
theorem dX6_ring_77 : decode cX6_ring 77 = .ok (.istore_n 1, 1) := by decide +kernel
theorem dX6_ring_78 : decode cX6_ring 78 = .ok (.iinc 2 1, 3) := by decide +kernel
theorem dX6_ring_81 : decode cX6_ring 81 = .ok (.goto (-73), 3) := by decide +kernel
theorem dX6_ring_84 : decode cX6_ring 84 = .ok (.iload_n 1, 1) := by decide +kernel
theorem dX6_ring_85 : decode cX6_ring 85 = .ok (.ifCond .ge 12, 3) := by decide +kernel
theorem dX6_ring_88 : decode cX6_ring 88 = .ok (.aload_n 0, 1) := by decide +kernel
theorem dX6_ring_89 : decode cX6_ring 89 = .ok (.ldc 172, 2) := by decide +kernel
theorem dX6_ring_91 : decode cX6_ring 91 = .ok (.invokevirtual 81, 3) := by decide +kernel
theorem dX6_ring_94 : decode cX6_ring 94 = .ok (.goto 4, 3) := by decide +kernel
theorem dX6_ring_97 : decode cX6_ring 97 = .ok (.iload_n 1, 1) := by decide +kernel
theorem dX6_ring_98 : decode cX6_ring 98 = .ok (.ireturn, 1) := by decide +kernel
theorem dX6_takesOrder_0 : decode cX6_takesOrder 0 = .ok (.iconst 0, 1) := by decide +kernel
theorem dX6_takesOrder_1 : decode cX6_takesOrder 1 = .ok (.istore_n 1, 1) := by decide +kernel
theorem dX6_takesOrder_2 : decode cX6_takesOrder 2 = .ok (.iload_n 1, 1) := by decide +kernel
