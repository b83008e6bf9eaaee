theorem dX6_takesOrder_3 : decode cX6_takesOrder 3 = .ok (.aload_n 0, 1) := by decide +kernel
theorem dX6_takesOrder_4 : decode cX6_takesOrder 4 = .ok (.getfield 163, 3) := by decide +kernel
theorem dX6_takesOrder_7 : decode cX6_takesOrder 7 = .ok (.if_icmp .ge 21, 3) := by decide +kernel
theorem dX6_takesOrder_10 : decode cX6_takesOrder 10 = .ok (.aload_n 0, 1) := by decide +kernel
theorem dX6_takesOrder_11 : decode cX6_takesOrder 11 = .ok (.getfield 34, 3) := by decide +kernel
theorem dX6_takesOrder_14 : decode cX6_takesOrder 14 = .ok (.iload_n 1, 1) := by decide +kernel
theorem dX6_takesOrder_15 : decode cX6_takesOrder 15 = .ok (.aload_n 0, 1) := by decide +kernel
theorem dX6_takesOrder_16 : decode cX6_takesOrder 16 = .ok (.getfield 37, 3) := by decide +kernel
theorem dX6_takesOrder_19 : decode cX6_takesOrder 19 = .ok (.iload_n 1, 1) := by decide +kernel
theorem dX6_takesOrder_20 : decode cX6_takesOrder 20 = .ok (.iaload, 1) := by decide +kernel
theorem dX6_takesOrder_21 : decode cX6_takesOrder 21 = .ok (.iastore, 1) := by decide +kernel
theorem dX6_takesOrder_22 : decode cX6_takesOrder 22 = .ok (.iinc 1 1, 3) := by decide +kernel
theorem dX6_takesOrder_25 : decode cX6_takesOrder 25 = .ok (.goto (-23), 3) := by decide +kernel
theorem dX6_takesOrder_28 : decode cX6_takesOrder 28 = .ok (.return_, 1) := by decide +kernel
theorem dX6_mistake_0 : decode cX6_mistake 0 = .ok (.aload_n 0, 1) := by decide +kernel
theorem dX6_mistake_1 : decode cX6_mistake 1 = .ok (.iload_n 1, 1) := by decide +kernel
theorem dX6_mistake_2 : decode cX6_mistake 2 = .ok (.invokevirtual 116, 3) := by decide +kernel
theorem dX6_mistake_5 : decode cX6_mistake 5 = .ok (.ifCond .eq 15, 3) := by decide +kernel
theorem dX6_mistake_8 : decode cX6_mistake 8 = .ok (.iload_n 2, 1) := by decide +kernel
theorem dX6_mistake_9 : decode cX6_mistake 9 = .ok (.i2l, 1) := by decide +kernel
theorem dX6_mistake_10 : decode cX6_mistake 10 = .ok (.lconst 0, 1) := by decide +kernel
theorem dX6_mistake_11 : decode cX6_mistake 11 = .ok (.ldc2_w 102, 3) := by decide +kernel
theorem dX6_mistake_14 : decode cX6_mistake 14 = .ok (.invokestatic 58, 3) := by decide +kernel
theorem dX6_mistake_17 : decode cX6_mistake 17 = .ok (.ifCond .ne 10, 3) := by decide +kernel
theorem dX6_mistake_20 : decode cX6_mistake 20 = .ok (.aload_n 0, 1) := by decide +kernel
theorem dX6_mistake_21 : decode cX6_mistake 21 = .ok (.ldc 55, 2) := by decide +kernel
theorem dX6_mistake_23 : decode cX6_mistake 23 = .ok (.invokevirtual 81, 3) := by decide +kernel
theorem dX6_mistake_26 : decode cX6_mistake 26 = .ok (.ireturn, 1) := by decide +kernel
theorem dX6_mistake_27 : decode cX6_mistake 27 = .ok (.aload_n 0, 1) := by decide +kernel
theorem dX6_mistake_28 : decode cX6_mistake 28 = .ok (.iload_n 1, 1) := by decide +kernel
theorem dX6_mistake_29 : decode cX6_mistake 29 = .ok (.invokevirtual 169, 3) := by decide +kernel
theorem dX6_mistake_32 : decode cX6_mistake 32 = .ok (.istore_n 3, 1) := by decide +kernel
theorem dX6_mistake_33 : decode cX6_mistake 33 = .ok (.iload_n 2, 1) := by decide +kernel
theorem dX6_mistake_34 : decode cX6_mistake 34 = .ok (.aload_n 0, 1) := by decide +kernel
theorem dX6_mistake_35 : decode cX6_mistake 35 = .ok (.getfield 163, 3) := by decide +kernel
theorem dX6_mistake_38 : decode cX6_mistake 38 = .ok (.if_icmp .lt 10, 3) := by decide +kernel
theorem dX6_mistake_41 : decode cX6_mistake 41 = .ok (.aload_n 0, 1) := by decide +kernel
theorem dX6_mistake_42 : decode cX6_mistake 42 = .ok (.ldc 172, 2) := by decide +kernel
theorem dX6_mistake_44 : decode cX6_mistake 44 = .ok (.invokevirtual 81, 3) := by decide +kernel
theorem dX6_mistake_47 : decode cX6_mistake 47 = .ok (.ireturn, 1) := by decide +kernel
theorem dX6_mistake_48 : decode cX6_mistake 48 = .ok (.aload_n 0, 1) := by decide +kernel
theorem dX6_mistake_49 : decode cX6_mistake 49 = .ok (.invokevirtual 176, 3) := by decide +kernel
theorem dX6_mistake_52 : decode cX6_mistake 52 = .ok (.iload_n 3, 1) := by decide +kernel
theorem dX6_mistake_53 : decode cX6_mistake 53 = .ok (.aload_n 0, 1) := by decide +kernel
theorem dX6_mistake_54 : decode cX6_mistake 54 = .ok (.iload_n 1, 1) := by decide +kernel
theorem dX6_mistake_55 : decode cX6_mistake 55 = .ok (.aload_n 0, 1) := by decide +kernel
theorem dX6_mistake_56 : decode cX6_mistake 56 = .ok (.getfield 163, 3) := by decide +kernel
theorem dX6_mistake_59 : decode cX6_mistake 59 = .ok (.iload_n 2, 1) := by decide +kernel
theorem dX6_mistake_60 : decode cX6_mistake 60 = .ok (.invokevirtual 166, 3) := by decide +kernel
theorem dX6_mistake_63 : decode cX6_mistake 63 = .ok (.isub, 1) := by decide +kernel
theorem dX6_mistake_64 : decode cX6_mistake 64 = .ok (.ireturn, 1) := by decide +kernel
theorem dX6_dear_0 : decode cX6_dear 0 = .ok (.aload_n 0, 1) := by decide +kernel
theorem dX6_dear_1 : decode cX6_dear 1 = .ok (.iload_n 1, 1) := by decide +kernel
theorem dX6_dear_2 : decode cX6_dear 2 = .ok (.invokevirtual 116, 3) := by decide +kernel
theorem dX6_dear_5 : decode cX6_dear 5 = .ok (.ifCond .ne 10, 3) := by decide +kernel
theorem dX6_dear_8 : decode cX6_dear 8 = .ok (.aload_n 0, 1) := by decide +kernel
theorem dX6_dear_9 : decode cX6_dear 9 = .ok (.ldc 55, 2) := by decide +kernel
theorem dX6_dear_11 : decode cX6_dear 11 = .ok (.invokevirtual 81, 3) := by decide +kernel
theorem dX6_dear_14 : decode cX6_dear 14 = .ok (.ireturn, 1) := by decide +kernel
theorem dX6_dear_15 : decode cX6_dear 15 = .ok (.aload_n 0, 1) := by decide +kernel
theorem dX6_dear_16 : decode cX6_dear 16 = .ok (.invokevirtual 153, 3) := by decide +kernel
theorem dX6_dear_19 : decode cX6_dear 19 = .ok (.iconst (-1), 1) := by decide +kernel
theorem dX6_dear_20 : decode cX6_dear 20 = .ok (.istore_n 2, 1) := by decide +kernel
theorem dX6_dear_21 : decode cX6_dear 21 = .ok (.iconst 0, 1) := by decide +kernel
theorem dX6_dear_22 : decode cX6_dear 22 = .ok (.istore_n 3, 1) := by decide +kernel
theorem dX6_dear_23 : decode cX6_dear 23 = .ok (.iconst 0, 1) := by decide +kernel
theorem dX6_dear_24 : decode cX6_dear 24 = .ok (.istore 4, 2) := by decide +kernel
theorem dX6_dear_26 : decode cX6_dear 26 = .ok (.iload 4, 2) := by decide +kernel
theorem dX6_dear_28 : decode cX6_dear 28 = .ok (.aload_n 0, 1) := by decide +kernel
theorem dX6_dear_29 : decode cX6_dear 29 = .ok (.getfield 7, 3) := by decide +kernel
theorem dX6_dear_32 : decode cX6_dear 32 = .ok (.iconst 0, 1) := by decide +kernel
theorem dX6_dear_33 : decode cX6_dear 33 = .ok (.iaload, 1) := by decide +kernel
theorem dX6_dear_34 : decode cX6_dear 34 = .ok (.if_icmp .ge 52, 3) := by decide +kernel
theorem dX6_dear_37 : decode cX6_dear 37 = .ok (.aload_n 0, 1) := by decide +kernel
theorem dX6_dear_38 : decode cX6_dear 38 = .ok (.aload_n 0, 1) := by decide +kernel
theorem dX6_dear_39 : decode cX6_dear 39 = .ok (.getfield 7, 3) := by decide +kernel
theorem dX6_dear_42 : decode cX6_dear 42 = .ok (.bipush 7, 2) := by decide +kernel
theorem dX6_dear_44 : decode cX6_dear 44 = .ok (.iaload, 1) := by decide +kernel
theorem dX6_dear_45 : decode cX6_dear 45 = .ok (.iload_n 1, 1) := by decide +kernel
theorem dX6_dear_46 : decode cX6_dear 46 = .ok (.aload_n 0, 1) := by decide +kernel
theorem dX6_dear_47 : decode cX6_dear 47 = .ok (.getfield 137, 3) := by decide +kernel
theorem dX6_dear_50 : decode cX6_dear 50 = .ok (.iconst 1, 1) := by decide +kernel
theorem dX6_dear_51 : decode cX6_dear 51 = .ok (.iload 4, 2) := by decide +kernel
theorem dX6_dear_53 : decode cX6_dear 53 = .ok (.ishl, 1) := by decide +kernel
theorem dX6_dear_54 : decode cX6_dear 54 = .ok (.iconst (-1), 1) := by decide +kernel
theorem dX6_dear_55 : decode cX6_dear 55 = .ok (.ixor, 1) := by decide +kernel
theorem dX6_dear_56 : decode cX6_dear 56 = .ok (.iand, 1) := by decide +kernel
theorem dX6_dear_57 : decode cX6_dear 57 = .ok (.iconst (-1), 1) := by decide +kernel
theorem dX6_dear_58 : decode cX6_dear 58 = .ok (.iconst 0, 1) := by decide +kernel
theorem dX6_dear_59 : decode cX6_dear 59 = .ok (.invokevirtual 156, 3) := by decide +kernel
theorem dX6_dear_62 : decode cX6_dear 62 = .ok (.istore 5, 2) := by decide +kernel
theorem dX6_dear_64 : decode cX6_dear 64 = .ok (.iload_n 2, 1) := by decide +kernel
theorem dX6_dear_65 : decode cX6_dear 65 = .ok (.ifCond .lt 9, 3) := by decide +kernel
theorem dX6_dear_68 : decode cX6_dear 68 = .ok (.iload 5, 2) := by decide +kernel
theorem dX6_dear_70 : decode cX6_dear 70 = .ok (.iload_n 3, 1) := by decide +kernel
theorem dX6_dear_71 : decode cX6_dear 71 = .ok (.if_icmp .ge 9, 3) := by decide +kernel
theorem dX6_dear_74 : decode cX6_dear 74 = .ok (.iload 4, 2) := by decide +kernel
theorem dX6_dear_76 : decode cX6_dear 76 = .ok (.istore_n 2, 1) := by decide +kernel
theorem dX6_dear_77 : decode cX6_dear 77 = .ok (.iload 5, 2) := by decide +kernel
theorem dX6_dear_79 : decode cX6_dear 79 = .ok (.istore_n 3, 1) := by decide +kernel
theorem dX6_dear_80 : decode cX6_dear 80 = .ok (.iinc 4 1, 3) := by decide +kernel
theorem dX6_dear_83 : decode cX6_dear 83 = .ok (.goto (-57), 3) := by decide +kernel
theorem dX6_dear_86 : decode cX6_dear 86 = .ok (.iload_n 2, 1) := by decide +kernel
theorem dX6_dear_87 : decode cX6_dear 87 = .ok (.ifCond .ge 12, 3) := by decide +kernel
theorem dX6_dear_90 : decode cX6_dear 90 = .ok (.aload_n 0, 1) := by decide +kernel
theorem dX6_dear_91 : decode cX6_dear 91 = .ok (.ldc 172, 2) := by decide +kernel
theorem dX6_dear_93 : decode cX6_dear 93 = .ok (.invokevirtual 81, 3) := by decide +kernel
theorem dX6_dear_96 : decode cX6_dear 96 = .ok (.goto 4, 3) := by decide +kernel
theorem dX6_dear_99 : decode cX6_dear 99 = .ok (.iload_n 2, 1) := by decide +kernel
theorem dX6_dear_100 : decode cX6_dear 100 = .ok (.ireturn, 1) := by decide +kernel
theorem dX6_spring_0 : decode cX6_spring 0 = .ok (.aload_n 0, 1) := by decide +kernel
theorem dX6_spring_1 : decode cX6_spring 1 = .ok (.iload_n 1, 1) := by decide +kernel
theorem dX6_spring_2 : decode cX6_spring 2 = .ok (.invokevirtual 116, 3) := by decide +kernel
theorem dX6_spring_5 : decode cX6_spring 5 = .ok (.ifCond .ne 10, 3) := by decide +kernel
theorem dX6_spring_8 : decode cX6_spring 8 = .ok (.aload_n 0, 1) := by decide +kernel
theorem dX6_spring_9 : decode cX6_spring 9 = .ok (.ldc 55, 2) := by decide +kernel
theorem dX6_spring_11 : decode cX6_spring 11 = .ok (.invokevirtual 81, 3) := by decide +kernel
theorem dX6_spring_14 : decode cX6_spring 14 = .ok (.ireturn, 1) := by decide +kernel
theorem dX6_spring_15 : decode cX6_spring 15 = .ok (.aload_n 0, 1) := by decide +kernel
theorem dX6_spring_16 : decode cX6_spring 16 = .ok (.getfield 7, 3) := by decide +kernel
theorem dX6_spring_19 : decode cX6_spring 19 = .ok (.iconst 0, 1) := by decide +kernel
theorem dX6_spring_20 : decode cX6_spring 20 = .ok (.iaload, 1) := by decide +kernel
theorem dX6_spring_21 : decode cX6_spring 21 = .ok (.bipush 8, 2) := by decide +kernel
theorem dX6_spring_23 : decode cX6_spring 23 = .ok (.if_icmp .ne 10, 3) := by decide +kernel
theorem dX6_spring_26 : decode cX6_spring 26 = .ok (.aload_n 0, 1) := by decide +kernel
theorem dX6_spring_27 : decode cX6_spring 27 = .ok (.ldc 85, 2) := by decide +kernel
theorem dX6_spring_29 : decode cX6_spring 29 = .ok (.invokevirtual 81, 3) := by decide +kernel
theorem dX6_spring_32 : decode cX6_spring 32 = .ok (.ireturn, 1) := by decide +kernel
theorem dX6_spring_33 : decode cX6_spring 33 = .ok (.aload_n 0, 1) := by decide +kernel
theorem dX6_spring_34 : decode cX6_spring 34 = .ok (.invokevirtual 179, 3) := by decide +kernel
theorem dX6_spring_37 : decode cX6_spring 37 = .ok (.aload_n 0, 1) := by decide +kernel
theorem dX6_spring_38 : decode cX6_spring 38 = .ok (.iconst 2, 1) := by decide +kernel
theorem dX6_spring_39 : decode cX6_spring 39 = .ok (.iconst 0, 1) := by decide +kernel
theorem dX6_spring_40 : decode cX6_spring 40 = .ok (.iconst 1, 1) := by decide +kernel
theorem dX6_spring_41 : decode cX6_spring 41 = .ok (.iconst 0, 1) := by decide +kernel
theorem dX6_spring_42 : decode cX6_spring 42 = .ok (.invokevirtual 86, 3) := by decide +kernel
theorem dX6_spring_45 : decode cX6_spring 45 = .ok (.istore_n 2, 1) := by decide +kernel
theorem dX6_spring_46 : decode cX6_spring 46 = .ok (.iconst 0, 1) := by decide +kernel
theorem dX6_spring_47 : decode cX6_spring 47 = .ok (.istore_n 3, 1) := by decide +kernel
theorem dX6_spring_48 : decode cX6_spring 48 = .ok (.iconst (-1), 1) := by decide +kernel
theorem dX6_spring_49 : decode cX6_spring 49 = .ok (.istore 4, 2) := by decide +kernel
theorem dX6_spring_51 : decode cX6_spring 51 = .ok (.iconst 0, 1) := by decide +kernel
theorem dX6_spring_52 : decode cX6_spring 52 = .ok (.istore 5, 2) := by decide +kernel
theorem dX6_spring_54 : decode cX6_spring 54 = .ok (.iload 5, 2) := by decide +kernel
theorem dX6_spring_56 : decode cX6_spring 56 = .ok (.bipush 100, 2) := by decide +kernel
theorem dX6_spring_58 : decode cX6_spring 58 = .ok (.if_icmp .ge 58, 3) := by decide +kernel
theorem dX6_spring_61 : decode cX6_spring 61 = .ok (.aload_n 0, 1) := by decide +kernel
theorem dX6_spring_62 : decode cX6_spring 62 = .ok (.getfield 7, 3) := by decide +kernel
theorem dX6_spring_65 : decode cX6_spring 65 = .ok (.iload_n 2, 1) := by decide +kernel
theorem dX6_spring_66 : decode cX6_spring 66 = .ok (.iconst 1, 1) := by decide +kernel
theorem dX6_spring_67 : decode cX6_spring 67 = .ok (.invokestatic 63, 3) := by decide +kernel
theorem dX6_spring_70 : decode cX6_spring 70 = .ok (.iload 5, 2) := by decide +kernel
theorem dX6_spring_72 : decode cX6_spring 72 = .ok (.iastore, 1) := by decide +kernel
theorem dX6_spring_73 : decode cX6_spring 73 = .ok (.aload_n 0, 1) := by decide +kernel
theorem dX6_spring_74 : decode cX6_spring 74 = .ok (.iload_n 1, 1) := by decide +kernel
theorem dX6_spring_75 : decode cX6_spring 75 = .ok (.invokevirtual 160, 3) := by decide +kernel
theorem dX6_spring_78 : decode cX6_spring 78 = .ok (.istore 6, 2) := by decide +kernel
theorem dX6_spring_80 : decode cX6_spring 80 = .ok (.iload 6, 2) := by decide +kernel
theorem dX6_spring_82 : decode cX6_spring 82 = .ok (.iload 4, 2) := by decide +kernel
theorem dX6_spring_84 : decode cX6_spring 84 = .ok (.if_icmp .le 8, 3) := by decide +kernel
theorem dX6_spring_87 : decode cX6_spring 87 = .ok (.iload 5, 2) := by decide +kernel
theorem dX6_spring_89 : decode cX6_spring 89 = .ok (.goto 4, 3) := by decide +kernel
theorem dX6_spring_92 : decode cX6_spring 92 = .ok (.iload_n 3, 1) := by decide +kernel
theorem dX6_spring_93 : decode cX6_spring 93 = .ok (.istore_n 3, 1) := by decide +kernel
theorem dX6_spring_94 : decode cX6_spring 94 = .ok (.iload 6, 2) := by decide +kernel
theorem dX6_spring_96 : decode cX6_spring 96 = .ok (.iload 4, 2) := by decide +kernel
theorem dX6_spring_98 : decode cX6_spring 98 = .ok (.if_icmp .le 8, 3) := by decide +kernel
theorem dX6_spring_101 : decode cX6_spring 101 = .ok (.iload 6, 2) := by decide +kernel
theorem dX6_spring_103 : decode cX6_spring 103 = .ok (.goto 5, 3) := by decide +kernel
theorem dX6_spring_106 : decode cX6_spring 106 = .ok (.iload 4, 2) := by decide +kernel
theorem dX6_spring_108 : decode cX6_spring 108 = .ok (.istore 4, 2) := by decide +kernel
theorem dX6_spring_110 : decode cX6_spring 110 = .ok (.iinc 5 1, 3) := by decide +kernel
theorem dX6_spring_113 : decode cX6_spring 113 = .ok (.goto (-59), 3) := by decide +kernel
theorem dX6_spring_116 : decode cX6_spring 116 = .ok (.aload_n 0, 1) := by decide +kernel
theorem dX6_spring_117 : decode cX6_spring 117 = .ok (.invokevirtual 182, 3) := by decide +kernel
theorem dX6_spring_120 : decode cX6_spring 120 = .ok (.iload_n 3, 1) := by decide +kernel
theorem dX6_spring_121 : decode cX6_spring 121 = .ok (.ireturn, 1) := by decide +kernel
theorem dX6_matters_0 : decode cX6_matters 0 = .ok (.aload_n 0, 1) := by decide +kernel
theorem dX6_matters_1 : decode cX6_matters 1 = .ok (.iload_n 1, 1) := by decide +kernel
theorem dX6_matters_2 : decode cX6_matters 2 = .ok (.invokevirtual 116, 3) := by decide +kernel
theorem dX6_matters_5 : decode cX6_matters 5 = .ok (.ifCond .ne 10, 3) := by decide +kernel
theorem dX6_matters_8 : decode cX6_matters 8 = .ok (.aload_n 0, 1) := by decide +kernel
theorem dX6_matters_9 : decode cX6_matters 9 = .ok (.ldc 55, 2) := by decide +kernel
theorem dX6_matters_11 : decode cX6_matters 11 = .ok (.invokevirtual 81, 3) := by decide +kernel
theorem dX6_matters_14 : decode cX6_matters 14 = .ok (.ireturn, 1) := by decide +kernel
theorem dX6_matters_15 : decode cX6_matters 15 = .ok (.aload_n 0, 1) := by decide +kernel
theorem dX6_matters_16 : decode cX6_matters 16 = .ok (.getfield 7, 3) := by decide +kernel
theorem dX6_matters_19 : decode cX6_matters 19 = .ok (.iconst 3, 1) := by decide +kernel
theorem dX6_matters_20 : decode cX6_matters 20 = .ok (.iaload, 1) := by decide +kernel
theorem dX6_matters_21 : decode cX6_matters 21 = .ok (.istore_n 2, 1) := by decide +kernel
theorem dX6_matters_22 : decode cX6_matters 22 = .ok (.aload_n 0, 1) := by decide +kernel
theorem dX6_matters_23 : decode cX6_matters 23 = .ok (.getfield 7, 3) := by decide +kernel
theorem dX6_matters_26 : decode cX6_matters 26 = .ok (.iconst 3, 1) := by decide +kernel
theorem dX6_matters_27 : decode cX6_matters 27 = .ok (.iconst 0, 1) := by decide +kernel
theorem dX6_matters_28 : decode cX6_matters 28 = .ok (.iastore, 1) := by decide +kernel
theorem dX6_matters_29 : decode cX6_matters 29 = .ok (.aload_n 0, 1) := by decide +kernel
theorem dX6_matters_30 : decode cX6_matters 30 = .ok (.iload_n 1, 1) := by decide +kernel
theorem dX6_matters_31 : decode cX6_matters 31 = .ok (.invokevirtual 160, 3) := by decide +kernel
theorem dX6_matters_34 : decode cX6_matters 34 = .ok (.istore_n 3, 1) := by decide +kernel
theorem dX6_matters_35 : decode cX6_matters 35 = .ok (.iconst (-1), 1) := by decide +kernel
theorem dX6_matters_36 : decode cX6_matters 36 = .ok (.istore 4, 2) := by decide +kernel
theorem dX6_matters_38 : decode cX6_matters 38 = .ok (.bipush 99, 2) := by decide +kernel
theorem dX6_matters_40 : decode cX6_matters 40 = .ok (.istore 5, 2) := by decide +kernel
theorem dX6_matters_42 : decode cX6_matters 42 = .ok (.iload 5, 2) := by decide +kernel
theorem dX6_matters_44 : decode cX6_matters 44 = .ok (.ifCond .le 39, 3) := by decide +kernel
theorem dX6_matters_47 : decode cX6_matters 47 = .ok (.iload 4, 2) := by decide +kernel
theorem dX6_matters_49 : decode cX6_matters 49 = .ok (.ifCond .ge 34, 3) := by decide +kernel
theorem dX6_matters_52 : decode cX6_matters 52 = .ok (.aload_n 0, 1) := by decide +kernel
theorem dX6_matters_53 : decode cX6_matters 53 = .ok (.getfield 7, 3) := by decide +kernel
theorem dX6_matters_56 : decode cX6_matters 56 = .ok (.iconst 3, 1) := by decide +kernel
theorem dX6_matters_57 : decode cX6_matters 57 = .ok (.iload 5, 2) := by decide +kernel
theorem dX6_matters_59 : decode cX6_matters 59 = .ok (.iastore, 1) := by decide +kernel
theorem dX6_matters_60 : decode cX6_matters 60 = .ok (.aload_n 0, 1) := by decide +kernel
theorem dX6_matters_61 : decode cX6_matters 61 = .ok (.iload_n 1, 1) := by decide +kernel
theorem dX6_matters_62 : decode cX6_matters 62 = .ok (.invokevirtual 160, 3) := by decide +kernel
theorem dX6_matters_65 : decode cX6_matters 65 = .ok (.iload_n 3, 1) := by decide +kernel
theorem dX6_matters_66 : decode cX6_matters 66 = .ok (.if_icmp .ge 8, 3) := by decide +kernel
theorem dX6_matters_69 : decode cX6_matters 69 = .ok (.iload 5, 2) := by decide +kernel
theorem dX6_matters_71 : decode cX6_matters 71 = .ok (.goto 4, 3) := by decide +kernel
theorem dX6_matters_74 : decode cX6_matters 74 = .ok (.iconst (-1), 1) := by decide +kernel
theorem dX6_matters_75 : decode cX6_matters 75 = .ok (.istore 4, 2) := by decide +kernel
theorem dX6_matters_77 : decode cX6_matters 77 = .ok (.iinc 5 (-1), 3) := by decide +kernel
theorem dX6_matters_80 : decode cX6_matters 80 = .ok (.goto (-38), 3) := by decide +kernel
theorem dX6_matters_83 : decode cX6_matters 83 = .ok (.aload_n 0, 1) := by decide +kernel
theorem dX6_matters_84 : decode cX6_matters 84 = .ok (.getfield 7, 3) := by decide +kernel
theorem dX6_matters_87 : decode cX6_matters 87 = .ok (.iconst 3, 1) := by decide +kernel
theorem dX6_matters_88 : decode cX6_matters 88 = .ok (.iload_n 2, 1) := by decide +kernel
theorem dX6_matters_89 : decode cX6_matters 89 = .ok (.iastore, 1) := by decide +kernel
theorem dX6_matters_90 : decode cX6_matters 90 = .ok (.iload 4, 2) := by decide +kernel
theorem dX6_matters_92 : decode cX6_matters 92 = .ok (.ifCond .ge 12, 3) := by decide +kernel
theorem dX6_matters_95 : decode cX6_matters 95 = .ok (.aload_n 0, 1) := by decide +kernel
theorem dX6_matters_96 : decode cX6_matters 96 = .ok (.ldc 172, 2) := by decide +kernel
theorem dX6_matters_98 : decode cX6_matters 98 = .ok (.invokevirtual 81, 3) := by decide +kernel
theorem dX6_matters_101 : decode cX6_matters 101 = .ok (.goto 5, 3) := by decide +kernel
theorem dX6_matters_104 : decode cX6_matters 104 = .ok (.iload 4, 2) := by decide +kernel
theorem dX6_matters_106 : decode cX6_matters 106 = .ok (.ireturn, 1) := by decide +kernel
theorem dX6_room_0 : decode cX6_room 0 = .ok (.aload_n 0, 1) := by decide +kernel
theorem dX6_room_1 : decode cX6_room 1 = .ok (.iload_n 1, 1) := by decide +kernel
theorem dX6_room_2 : decode cX6_room 2 = .ok (.invokevirtual 116, 3) := by decide +kernel
theorem dX6_room_5 : decode cX6_room 5 = .ok (.ifCond .ne 10, 3) := by decide +kernel
theorem dX6_room_8 : decode cX6_room 8 = .ok (.aload_n 0, 1) := by decide +kernel
theorem dX6_room_9 : decode cX6_room 9 = .ok (.ldc 55, 2) := by decide +kernel
theorem dX6_room_11 : decode cX6_room 11 = .ok (.invokevirtual 81, 3) := by decide +kernel
theorem dX6_room_14 : decode cX6_room 14 = .ok (.ireturn, 1) := by decide +kernel
theorem dX6_room_15 : decode cX6_room 15 = .ok (.aload_n 0, 1) := by decide +kernel
theorem dX6_room_16 : decode cX6_room 16 = .ok (.getfield 7, 3) := by decide +kernel
theorem dX6_room_19 : decode cX6_room 19 = .ok (.iconst 2, 1) := by decide +kernel
theorem dX6_room_20 : decode cX6_room 20 = .ok (.iaload, 1) := by decide +kernel
theorem dX6_room_21 : decode cX6_room 21 = .ok (.istore_n 2, 1) := by decide +kernel
theorem dX6_room_22 : decode cX6_room 22 = .ok (.aload_n 0, 1) := by decide +kernel
theorem dX6_room_23 : decode cX6_room 23 = .ok (.getfield 7, 3) := by decide +kernel
theorem dX6_room_26 : decode cX6_room 26 = .ok (.iconst 2, 1) := by decide +kernel
theorem dX6_room_27 : decode cX6_room 27 = .ok (.sipush 999, 3) := by decide +kernel
theorem dX6_room_30 : decode cX6_room 30 = .ok (.iastore, 1) := by decide +kernel
theorem dX6_room_31 : decode cX6_room 31 = .ok (.aload_n 0, 1) := by decide +kernel
theorem dX6_room_32 : decode cX6_room 32 = .ok (.iload_n 1, 1) := by decide +kernel
theorem dX6_room_33 : decode cX6_room 33 = .ok (.invokevirtual 160, 3) := by decide +kernel
theorem dX6_room_36 : decode cX6_room 36 = .ok (.istore_n 3, 1) := by decide +kernel
theorem dX6_room_37 : decode cX6_room 37 = .ok (.iload_n 1, 1) := by decide +kernel
theorem dX6_room_38 : decode cX6_room 38 = .ok (.iconst 1, 1) := by decide +kernel
theorem dX6_room_39 : decode cX6_room 39 = .ok (.if_icmp .le 9, 3) := by decide +kernel
theorem dX6_room_42 : decode cX6_room 42 = .ok (.iload_n 1, 1) := by decide +kernel
theorem dX6_room_43 : decode cX6_room 43 = .ok (.iconst 1, 1) := by decide +kernel
theorem dX6_room_44 : decode cX6_room 44 = .ok (.isub, 1) := by decide +kernel
theorem dX6_room_45 : decode cX6_room 45 = .ok (.goto 4, 3) := by decide +kernel
theorem dX6_room_48 : decode cX6_room 48 = .ok (.iconst 0, 1) := by decide +kernel
theorem dX6_room_49 : decode cX6_room 49 = .ok (.istore 4, 2) := by decide +kernel
theorem dX6_room_51 : decode cX6_room 51 = .ok (.sipush 999, 3) := by decide +kernel
theorem dX6_room_54 : decode cX6_room 54 = .ok (.istore 5, 2) := by decide +kernel
theorem dX6_room_56 : decode cX6_room 56 = .ok (.iload 5, 2) := by decide +kernel
theorem dX6_room_58 : decode cX6_room 58 = .ok (.iload 4, 2) := by decide +kernel
theorem dX6_room_60 : decode cX6_room 60 = .ok (.isub, 1) := by decide +kernel
theorem dX6_room_61 : decode cX6_room 61 = .ok (.iconst 1, 1) := by decide +kernel
theorem dX6_room_62 : decode cX6_room 62 = .ok (.if_icmp .le 47, 3) := by decide +kernel
theorem dX6_room_65 : decode cX6_room 65 = .ok (.aload_n 0, 1) := by decide +kernel
theorem dX6_room_66 : decode cX6_room 66 = .ok (.getfield 7, 3) := by decide +kernel
theorem dX6_room_69 : decode cX6_room 69 = .ok (.iconst 2, 1) := by decide +kernel
theorem dX6_room_70 : decode cX6_room 70 = .ok (.iload 4, 2) := by decide +kernel
theorem dX6_room_72 : decode cX6_room 72 = .ok (.iload 5, 2) := by decide +kernel
theorem dX6_room_74 : decode cX6_room 74 = .ok (.iadd, 1) := by decide +kernel
theorem dX6_room_75 : decode cX6_room 75 = .ok (.iconst 2, 1) := by decide +kernel
theorem dX6_room_76 : decode cX6_room 76 = .ok (.idiv, 1) := by decide +kernel
theorem dX6_room_77 : decode cX6_room 77 = .ok (.iastore, 1) := by decide +kernel
theorem dX6_room_78 : decode cX6_room 78 = .ok (.aload_n 0, 1) := by decide +kernel
theorem dX6_room_79 : decode cX6_room 79 = .ok (.iload_n 1, 1) := by decide +kernel
theorem dX6_room_80 : decode cX6_room 80 = .ok (.invokevirtual 160, 3) := by decide +kernel
theorem dX6_room_83 : decode cX6_room 83 = .ok (.iload_n 3, 1) := by decide +kernel
theorem dX6_room_84 : decode cX6_room 84 = .ok (.if_icmp .ge 14, 3) := by decide +kernel
theorem dX6_room_87 : decode cX6_room 87 = .ok (.aload_n 0, 1) := by decide +kernel
theorem dX6_room_88 : decode cX6_room 88 = .ok (.getfield 7, 3) := by decide +kernel
theorem dX6_room_91 : decode cX6_room 91 = .ok (.iconst 2, 1) := by decide +kernel
theorem dX6_room_92 : decode cX6_room 92 = .ok (.iaload, 1) := by decide +kernel
theorem dX6_room_93 : decode cX6_room 93 = .ok (.istore 4, 2) := by decide +kernel
theorem dX6_room_95 : decode cX6_room 95 = .ok (.goto (-39), 3) := by decide +kernel
theorem dX6_room_98 : decode cX6_room 98 = .ok (.aload_n 0, 1) := by decide +kernel
theorem dX6_room_99 : decode cX6_room 99 = .ok (.getfield 7, 3) := by decide +kernel
theorem dX6_room_102 : decode cX6_room 102 = .ok (.iconst 2, 1) := by decide +kernel
theorem dX6_room_103 : decode cX6_room 103 = .ok (.iaload, 1) := by decide +kernel
theorem dX6_room_104 : decode cX6_room 104 = .ok (.istore 5, 2) := by decide +kernel
theorem dX6_room_106 : decode cX6_room 106 = .ok (.goto (-50), 3) := by decide +kernel
theorem dX6_room_109 : decode cX6_room 109 = .ok (.aload_n 0, 1) := by decide +kernel
theorem dX6_room_110 : decode cX6_room 110 = .ok (.getfield 7, 3) := by decide +kernel
theorem dX6_room_113 : decode cX6_room 113 = .ok (.iconst 2, 1) := by decide +kernel
theorem dX6_room_114 : decode cX6_room 114 = .ok (.iload_n 2, 1) := by decide +kernel
theorem dX6_room_115 : decode cX6_room 115 = .ok (.iastore, 1) := by decide +kernel
theorem dX6_room_116 : decode cX6_room 116 = .ok (.iload 5, 2) := by decide +kernel
theorem dX6_room_118 : decode cX6_room 118 = .ok (.ireturn, 1) := by decide +kernel
theorem dX6_bears_0 : decode cX6_bears 0 = .ok (.aload_n 0, 1) := by decide +kernel
theorem dX6_bears_1 : decode cX6_bears 1 = .ok (.iload_n 1, 1) := by decide +kernel
theorem dX6_bears_2 : decode cX6_bears 2 = .ok (.invokevirtual 116, 3) := by decide +kernel
theorem dX6_bears_5 : decode cX6_bears 5 = .ok (.ifCond .ne 10, 3) := by decide +kernel
theorem dX6_bears_8 : decode cX6_bears 8 = .ok (.aload_n 0, 1) := by decide +kernel
theorem dX6_bears_9 : decode cX6_bears 9 = .ok (.ldc 55, 2) := by decide +kernel
theorem dX6_bears_11 : decode cX6_bears 11 = .ok (.invokevirtual 81, 3) := by decide +kernel
theorem dX6_bears_14 : decode cX6_bears 14 = .ok (.ireturn, 1) := by decide +kernel
theorem dX6_bears_15 : decode cX6_bears 15 = .ok (.aload_n 0, 1) := by decide +kernel
theorem dX6_bears_16 : decode cX6_bears 16 = .ok (.getfield 7, 3) := by decide +kernel
theorem dX6_bears_19 : decode cX6_bears 19 = .ok (.iconst 4, 1) := by decide +kernel
theorem dX6_bears_20 : decode cX6_bears 20 = .ok (.iaload, 1) := by decide +kernel
theorem dX6_bears_21 : decode cX6_bears 21 = .ok (.istore_n 2, 1) := by decide +kernel
theorem dX6_bears_22 : decode cX6_bears 22 = .ok (.iconst (-1), 1) := by decide +kernel
theorem dX6_bears_23 : decode cX6_bears 23 = .ok (.istore_n 3, 1) := by decide +kernel
theorem dX6_bears_24 : decode cX6_bears 24 = .ok (.bipush 9, 2) := by decide +kernel
theorem dX6_bears_26 : decode cX6_bears 26 = .ok (.istore 4, 2) := by decide +kernel
theorem dX6_bears_28 : decode cX6_bears 28 = .ok (.iload 4, 2) := by decide +kernel
theorem dX6_bears_30 : decode cX6_bears 30 = .ok (.ifCond .lt 37, 3) := by decide +kernel
theorem dX6_bears_33 : decode cX6_bears 33 = .ok (.iload_n 3, 1) := by decide +kernel
theorem dX6_bears_34 : decode cX6_bears 34 = .ok (.ifCond .ge 33, 3) := by decide +kernel
theorem dX6_bears_37 : decode cX6_bears 37 = .ok (.aload_n 0, 1) := by decide +kernel
theorem dX6_bears_38 : decode cX6_bears 38 = .ok (.getfield 7, 3) := by decide +kernel
theorem dX6_bears_41 : decode cX6_bears 41 = .ok (.iconst 4, 1) := by decide +kernel
theorem dX6_bears_42 : decode cX6_bears 42 = .ok (.iload 4, 2) := by decide +kernel
theorem dX6_bears_44 : decode cX6_bears 44 = .ok (.iastore, 1) := by decide +kernel
theorem dX6_bears_45 : decode cX6_bears 45 = .ok (.aload_n 0, 1) := by decide +kernel
theorem dX6_bears_46 : decode cX6_bears 46 = .ok (.iload_n 1, 1) := by decide +kernel
theorem dX6_bears_47 : decode cX6_bears 47 = .ok (.invokevirtual 160, 3) := by decide +kernel
theorem dX6_bears_50 : decode cX6_bears 50 = .ok (.iload_n 1, 1) := by decide +kernel
theorem dX6_bears_51 : decode cX6_bears 51 = .ok (.if_icmp .lt 8, 3) := by decide +kernel
theorem dX6_bears_54 : decode cX6_bears 54 = .ok (.iload 4, 2) := by decide +kernel
theorem dX6_bears_56 : decode cX6_bears 56 = .ok (.goto 4, 3) := by decide +kernel
theorem dX6_bears_59 : decode cX6_bears 59 = .ok (.iconst (-1), 1) := by decide +kernel
theorem dX6_bears_60 : decode cX6_bears 60 = .ok (.istore_n 3, 1) := by decide +kernel
theorem dX6_bears_61 : decode cX6_bears 61 = .ok (.iinc 4 (-1), 3) := by decide +kernel
theorem dX6_bears_64 : decode cX6_bears 64 = .ok (.goto (-36), 3) := by decide +kernel
theorem dX6_bears_67 : decode cX6_bears 67 = .ok (.aload_n 0, 1) := by decide +kernel
theorem dX6_bears_68 : decode cX6_bears 68 = .ok (.getfield 7, 3) := by decide +kernel
theorem dX6_bears_71 : decode cX6_bears 71 = .ok (.iconst 4, 1) := by decide +kernel
theorem dX6_bears_72 : decode cX6_bears 72 = .ok (.iload_n 2, 1) := by decide +kernel
theorem dX6_bears_73 : decode cX6_bears 73 = .ok (.iastore, 1) := by decide +kernel
theorem dX6_bears_74 : decode cX6_bears 74 = .ok (.iload_n 3, 1) := by decide +kernel
theorem dX6_bears_75 : decode cX6_bears 75 = .ok (.ifCond .ge 12, 3) := by decide +kernel
theorem dX6_bears_78 : decode cX6_bears 78 = .ok (.aload_n 0, 1) := by decide +kernel
theorem dX6_bears_79 : decode cX6_bears 79 = .ok (.ldc 172, 2) := by decide +kernel
theorem dX6_bears_81 : decode cX6_bears 81 = .ok (.invokevirtual 81, 3) := by decide +kernel
theorem dX6_bears_84 : decode cX6_bears 84 = .ok (.goto 4, 3) := by decide +kernel
theorem dX6_bears_87 : decode cX6_bears 87 = .ok (.iload_n 3, 1) := by decide +kernel
theorem dX6_bears_88 : decode cX6_bears 88 = .ok (.ireturn, 1) := by decide +kernel
theorem dX6_bringsIf_0 : decode cX6_bringsIf 0 = .ok (.aload_n 0, 1) := by decide +kernel
theorem dX6_bringsIf_1 : decode cX6_bringsIf 1 = .ok (.getfield 7, 3) := by decide +kernel
theorem dX6_bringsIf_4 : decode cX6_bringsIf 4 = .ok (.bipush 7, 2) := by decide +kernel
theorem dX6_bringsIf_6 : decode cX6_bringsIf 6 = .ok (.iaload, 1) := by decide +kernel
theorem dX6_bringsIf_7 : decode cX6_bringsIf 7 = .ok (.istore_n 3, 1) := by decide +kernel
theorem dX6_bringsIf_8 : decode cX6_bringsIf 8 = .ok (.iload_n 1, 1) := by decide +kernel
theorem dX6_bringsIf_9 : decode cX6_bringsIf 9 = .ok (.istore 4, 2) := by decide +kernel
theorem dX6_bringsIf_11 : decode cX6_bringsIf 11 = .ok (.aload_n 0, 1) := by decide +kernel
theorem dX6_bringsIf_12 : decode cX6_bringsIf 12 = .ok (.lconst 1, 1) := by decide +kernel
theorem dX6_bringsIf_13 : decode cX6_bringsIf 13 = .ok (.putfield 185, 3) := by decide +kernel
theorem dX6_bringsIf_16 : decode cX6_bringsIf 16 = .ok (.iconst 0, 1) := by decide +kernel
theorem dX6_bringsIf_17 : decode cX6_bringsIf 17 = .ok (.istore 5, 2) := by decide +kernel
theorem dX6_bringsIf_19 : decode cX6_bringsIf 19 = .ok (.iload 5, 2) := by decide +kernel
theorem dX6_bringsIf_21 : decode cX6_bringsIf 21 = .ok (.aload_n 0, 1) := by decide +kernel
theorem dX6_bringsIf_22 : decode cX6_bringsIf 22 = .ok (.getfield 163, 3) := by decide +kernel
theorem dX6_bringsIf_25 : decode cX6_bringsIf 25 = .ok (.if_icmp .ge 149, 3) := by decide +kernel
theorem dX6_bringsIf_28 : decode cX6_bringsIf 28 = .ok (.aload_n 0, 1) := by decide +kernel
theorem dX6_bringsIf_29 : decode cX6_bringsIf 29 = .ok (.getfield 37, 3) := by decide +kernel
theorem dX6_bringsIf_32 : decode cX6_bringsIf 32 = .ok (.iload 5, 2) := by decide +kernel
theorem dX6_bringsIf_34 : decode cX6_bringsIf 34 = .ok (.iaload, 1) := by decide +kernel
theorem dX6_bringsIf_35 : decode cX6_bringsIf 35 = .ok (.istore 6, 2) := by decide +kernel
theorem dX6_bringsIf_37 : decode cX6_bringsIf 37 = .ok (.aload_n 0, 1) := by decide +kernel
theorem dX6_bringsIf_38 : decode cX6_bringsIf 38 = .ok (.iload 4, 2) := by decide +kernel
theorem dX6_bringsIf_40 : decode cX6_bringsIf 40 = .ok (.iload_n 3, 1) := by decide +kernel
theorem dX6_bringsIf_41 : decode cX6_bringsIf 41 = .ok (.aload_n 0, 1) := by decide +kernel
theorem dX6_bringsIf_42 : decode cX6_bringsIf 42 = .ok (.iload 6, 2) := by decide +kernel
theorem dX6_bringsIf_44 : decode cX6_bringsIf 44 = .ok (.iconst 1, 1) := by decide +kernel
theorem dX6_bringsIf_45 : decode cX6_bringsIf 45 = .ok (.invokevirtual 90, 3) := by decide +kernel
theorem dX6_bringsIf_48 : decode cX6_bringsIf 48 = .ok (.invokevirtual 123, 3) := by decide +kernel
theorem dX6_bringsIf_51 : decode cX6_bringsIf 51 = .ok (.istore 4, 2) := by decide +kernel
theorem dX6_bringsIf_53 : decode cX6_bringsIf 53 = .ok (.aload_n 0, 1) := by decide +kernel
theorem dX6_bringsIf_54 : decode cX6_bringsIf 54 = .ok (.iload 6, 2) := by decide +kernel
theorem dX6_bringsIf_56 : decode cX6_bringsIf 56 = .ok (.iconst 1, 1) := by decide +kernel
theorem dX6_bringsIf_57 : decode cX6_bringsIf 57 = .ok (.invokevirtual 90, 3) := by decide +kernel
theorem dX6_bringsIf_60 : decode cX6_bringsIf 60 = .ok (.istore_n 3, 1) := by decide +kernel
theorem dX6_bringsIf_61 : decode cX6_bringsIf 61 = .ok (.aload_n 0, 1) := by decide +kernel
theorem dX6_bringsIf_62 : decode cX6_bringsIf 62 = .ok (.iload 4, 2) := by decide +kernel
theorem dX6_bringsIf_64 : decode cX6_bringsIf 64 = .ok (.iload 6, 2) := by decide +kernel
theorem dX6_bringsIf_66 : decode cX6_bringsIf 66 = .ok (.invokevirtual 150, 3) := by decide +kernel
theorem dX6_bringsIf_69 : decode cX6_bringsIf 69 = .ok (.istore 7, 2) := by decide +kernel
theorem dX6_bringsIf_71 : decode cX6_bringsIf 71 = .ok (.aload_n 0, 1) := by decide +kernel
theorem dX6_bringsIf_72 : decode cX6_bringsIf 72 = .ok (.iload 6, 2) := by decide +kernel
theorem dX6_bringsIf_74 : decode cX6_bringsIf 74 = .ok (.iconst 3, 1) := by decide +kernel
theorem dX6_bringsIf_75 : decode cX6_bringsIf 75 = .ok (.invokevirtual 90, 3) := by decide +kernel
theorem dX6_bringsIf_78 : decode cX6_bringsIf 78 = .ok (.istore 8, 2) := by decide +kernel
theorem dX6_bringsIf_80 : decode cX6_bringsIf 80 = .ok (.iload 7, 2) := by decide +kernel
theorem dX6_bringsIf_82 : decode cX6_bringsIf 82 = .ok (.ifCond .ge 31, 3) := by decide +kernel
theorem dX6_bringsIf_85 : decode cX6_bringsIf 85 = .ok (.aload_n 0, 1) := by decide +kernel
theorem dX6_bringsIf_86 : decode cX6_bringsIf 86 = .ok (.dup, 1) := by decide +kernel
theorem dX6_bringsIf_87 : decode cX6_bringsIf 87 = .ok (.getfield 185, 3) := by decide +kernel
theorem dX6_bringsIf_90 : decode cX6_bringsIf 90 = .ok (.iload_n 2, 1) := by decide +kernel
theorem dX6_bringsIf_91 : decode cX6_bringsIf 91 = .ok (.iload 5, 2) := by decide +kernel
theorem dX6_bringsIf_93 : decode cX6_bringsIf 93 = .ok (.invokestatic 141, 3) := by decide +kernel
theorem dX6_bringsIf_96 : decode cX6_bringsIf 96 = .ok (.ifCond .eq 7, 3) := by decide +kernel
theorem dX6_bringsIf_99 : decode cX6_bringsIf 99 = .ok (.lconst 0, 1) := by decide +kernel
theorem dX6_bringsIf_100 : decode cX6_bringsIf 100 = .ok (.goto 6, 3) := by decide +kernel
theorem dX6_bringsIf_103 : decode cX6_bringsIf 103 = .ok (.ldc2_w 189, 3) := by decide +kernel
theorem dX6_bringsIf_106 : decode cX6_bringsIf 106 = .ok (.lmul, 1) := by decide +kernel
theorem dX6_bringsIf_107 : decode cX6_bringsIf 107 = .ok (.putfield 185, 3) := by decide +kernel
theorem dX6_bringsIf_110 : decode cX6_bringsIf 110 = .ok (.goto 58, 3) := by decide +kernel
theorem dX6_bringsIf_113 : decode cX6_bringsIf 113 = .ok (.iload_n 2, 1) := by decide +kernel
theorem dX6_bringsIf_114 : decode cX6_bringsIf 114 = .ok (.iload 5, 2) := by decide +kernel
theorem dX6_bringsIf_116 : decode cX6_bringsIf 116 = .ok (.invokestatic 141, 3) := by decide +kernel
theorem dX6_bringsIf_119 : decode cX6_bringsIf 119 = .ok (.ifCond .eq 30, 3) := by decide +kernel
theorem dX6_bringsIf_122 : decode cX6_bringsIf 122 = .ok (.aload_n 0, 1) := by decide +kernel
theorem dX6_bringsIf_123 : decode cX6_bringsIf 123 = .ok (.dup, 1) := by decide +kernel
theorem dX6_bringsIf_124 : decode cX6_bringsIf 124 = .ok (.getfield 185, 3) := by decide +kernel
theorem dX6_bringsIf_127 : decode cX6_bringsIf 127 = .ok (.iload 8, 2) := by decide +kernel
theorem dX6_bringsIf_129 : decode cX6_bringsIf 129 = .ok (.i2l, 1) := by decide +kernel
theorem dX6_bringsIf_130 : decode cX6_bringsIf 130 = .ok (.lmul, 1) := by decide +kernel
theorem dX6_bringsIf_131 : decode cX6_bringsIf 131 = .ok (.putfield 185, 3) := by decide +kernel
theorem dX6_bringsIf_134 : decode cX6_bringsIf 134 = .ok (.iload 4, 2) := by decide +kernel
theorem dX6_bringsIf_136 : decode cX6_bringsIf 136 = .ok (.aload_n 0, 1) := by decide +kernel
theorem dX6_bringsIf_137 : decode cX6_bringsIf 137 = .ok (.getfield 25, 3) := by decide +kernel
theorem dX6_bringsIf_140 : decode cX6_bringsIf 140 = .ok (.iload 6, 2) := by decide +kernel
theorem dX6_bringsIf_142 : decode cX6_bringsIf 142 = .ok (.iaload, 1) := by decide +kernel
theorem dX6_bringsIf_143 : decode cX6_bringsIf 143 = .ok (.isub, 1) := by decide +kernel
theorem dX6_bringsIf_144 : decode cX6_bringsIf 144 = .ok (.istore 4, 2) := by decide +kernel
theorem dX6_bringsIf_146 : decode cX6_bringsIf 146 = .ok (.goto 22, 3) := by decide +kernel
theorem dX6_bringsIf_149 : decode cX6_bringsIf 149 = .ok (.aload_n 0, 1) := by decide +kernel
theorem dX6_bringsIf_150 : decode cX6_bringsIf 150 = .ok (.dup, 1) := by decide +kernel
theorem dX6_bringsIf_151 : decode cX6_bringsIf 151 = .ok (.getfield 185, 3) := by decide +kernel
theorem dX6_bringsIf_154 : decode cX6_bringsIf 154 = .ok (.bipush 12, 2) := by decide +kernel
theorem dX6_bringsIf_156 : decode cX6_bringsIf 156 = .ok (.iload 8, 2) := by decide +kernel
theorem dX6_bringsIf_158 : decode cX6_bringsIf 158 = .ok (.isub, 1) := by decide +kernel
theorem dX6_bringsIf_159 : decode cX6_bringsIf 159 = .ok (.i2l, 1) := by decide +kernel
theorem dX6_bringsIf_160 : decode cX6_bringsIf 160 = .ok (.lmul, 1) := by decide +kernel
theorem dX6_bringsIf_161 : decode cX6_bringsIf 161 = .ok (.putfield 185, 3) := by decide +kernel
theorem dX6_bringsIf_164 : decode cX6_bringsIf 164 = .ok (.iload 7, 2) := by decide +kernel
theorem dX6_bringsIf_166 : decode cX6_bringsIf 166 = .ok (.istore 4, 2) := by decide +kernel
theorem dX6_bringsIf_168 : decode cX6_bringsIf 168 = .ok (.iinc 5 1, 3) := by decide +kernel
theorem dX6_bringsIf_171 : decode cX6_bringsIf 171 = .ok (.goto (-152), 3) := by decide +kernel
theorem dX6_bringsIf_174 : decode cX6_bringsIf 174 = .ok (.aload_n 0, 1) := by decide +kernel
theorem dX6_bringsIf_175 : decode cX6_bringsIf 175 = .ok (.iload 4, 2) := by decide +kernel
theorem dX6_bringsIf_177 : decode cX6_bringsIf 177 = .ok (.iload_n 3, 1) := by decide +kernel
theorem dX6_bringsIf_178 : decode cX6_bringsIf 178 = .ok (.iconst 0, 1) := by decide +kernel
theorem dX6_bringsIf_179 : decode cX6_bringsIf 179 = .ok (.invokevirtual 123, 3) := by decide +kernel
theorem dX6_bringsIf_182 : decode cX6_bringsIf 182 = .ok (.ireturn, 1) := by decide +kernel
theorem dX6_odds_0 : decode cX6_odds 0 = .ok (.aload_n 0, 1) := by decide +kernel
theorem dX6_odds_1 : decode cX6_odds 1 = .ok (.iload_n 1, 1) := by decide +kernel
theorem dX6_odds_2 : decode cX6_odds 2 = .ok (.invokevirtual 116, 3) := by decide +kernel
theorem dX6_odds_5 : decode cX6_odds 5 = .ok (.ifCond .eq 15, 3) := by decide +kernel
theorem dX6_odds_8 : decode cX6_odds 8 = .ok (.iload_n 2, 1) := by decide +kernel
theorem dX6_odds_9 : decode cX6_odds 9 = .ok (.i2l, 1) := by decide +kernel
theorem dX6_odds_10 : decode cX6_odds 10 = .ok (.lconst 0, 1) := by decide +kernel
theorem dX6_odds_11 : decode cX6_odds 11 = .ok (.ldc2_w 107, 3) := by decide +kernel
theorem dX6_odds_14 : decode cX6_odds 14 = .ok (.invokestatic 58, 3) := by decide +kernel
theorem dX6_odds_17 : decode cX6_odds 17 = .ok (.ifCond .ne 11, 3) := by decide +kernel
theorem dX6_odds_20 : decode cX6_odds 20 = .ok (.aload_n 0, 1) := by decide +kernel
theorem dX6_odds_21 : decode cX6_odds 21 = .ok (.ldc 55, 2) := by decide +kernel
theorem dX6_odds_23 : decode cX6_odds 23 = .ok (.invokevirtual 81, 3) := by decide +kernel
theorem dX6_odds_26 : decode cX6_odds 26 = .ok (.i2l, 1) := by decide +kernel
theorem dX6_odds_27 : decode cX6_odds 27 = .ok (.lreturn, 1) := by decide +kernel
theorem dX6_odds_28 : decode cX6_odds 28 = .ok (.aload_n 0, 1) := by decide +kernel
theorem dX6_odds_29 : decode cX6_odds 29 = .ok (.iload_n 1, 1) := by decide +kernel
theorem dX6_odds_30 : decode cX6_odds 30 = .ok (.invokevirtual 169, 3) := by decide +kernel
theorem dX6_odds_33 : decode cX6_odds 33 = .ok (.istore_n 3, 1) := by decide +kernel
theorem dX6_odds_34 : decode cX6_odds 34 = .ok (.lconst 0, 1) := by decide +kernel
theorem dX6_odds_35 : decode cX6_odds 35 = .ok (.lstore 4, 2) := by decide +kernel
theorem dX6_odds_37 : decode cX6_odds 37 = .ok (.iconst 0, 1) := by decide +kernel
theorem dX6_odds_38 : decode cX6_odds 38 = .ok (.istore 6, 2) := by decide +kernel
theorem dX6_odds_40 : decode cX6_odds 40 = .ok (.iload 6, 2) := by decide +kernel
theorem dX6_odds_42 : decode cX6_odds 42 = .ok (.iconst 1, 1) := by decide +kernel
theorem dX6_odds_43 : decode cX6_odds 43 = .ok (.aload_n 0, 1) := by decide +kernel
theorem dX6_odds_44 : decode cX6_odds 44 = .ok (.getfield 163, 3) := by decide +kernel
theorem dX6_odds_47 : decode cX6_odds 47 = .ok (.ishl, 1) := by decide +kernel
theorem dX6_odds_48 : decode cX6_odds 48 = .ok (.if_icmp .ge 37, 3) := by decide +kernel
theorem dX6_odds_51 : decode cX6_odds 51 = .ok (.aload_n 0, 1) := by decide +kernel
theorem dX6_odds_52 : decode cX6_odds 52 = .ok (.iload_n 1, 1) := by decide +kernel
theorem dX6_odds_53 : decode cX6_odds 53 = .ok (.iload 6, 2) := by decide +kernel
theorem dX6_odds_55 : decode cX6_odds 55 = .ok (.invokevirtual 191, 3) := by decide +kernel
theorem dX6_odds_58 : decode cX6_odds 58 = .ok (.istore 7, 2) := by decide +kernel
theorem dX6_odds_60 : decode cX6_odds 60 = .ok (.lload 4, 2) := by decide +kernel
theorem dX6_odds_62 : decode cX6_odds 62 = .ok (.iload 7, 2) := by decide +kernel
theorem dX6_odds_64 : decode cX6_odds 64 = .ok (.iload_n 2, 1) := by decide +kernel
theorem dX6_odds_65 : decode cX6_odds 65 = .ok (.if_icmp .lt 10, 3) := by decide +kernel
theorem dX6_odds_68 : decode cX6_odds 68 = .ok (.aload_n 0, 1) := by decide +kernel
theorem dX6_odds_69 : decode cX6_odds 69 = .ok (.getfield 185, 3) := by decide +kernel
theorem dX6_odds_72 : decode cX6_odds 72 = .ok (.goto 4, 3) := by decide +kernel
theorem dX6_odds_75 : decode cX6_odds 75 = .ok (.lconst 0, 1) := by decide +kernel
theorem dX6_odds_76 : decode cX6_odds 76 = .ok (.ladd, 1) := by decide +kernel
theorem dX6_odds_77 : decode cX6_odds 77 = .ok (.lstore 4, 2) := by decide +kernel
theorem dX6_odds_79 : decode cX6_odds 79 = .ok (.iinc 6 1, 3) := by decide +kernel
theorem dX6_odds_82 : decode cX6_odds 82 = .ok (.goto (-42), 3) := by decide +kernel
theorem dX6_odds_85 : decode cX6_odds 85 = .ok (.lload 4, 2) := by decide +kernel
theorem dX6_odds_87 : decode cX6_odds 87 = .ok (.lreturn, 1) := by decide +kernel
theorem dX6_mean_0 : decode cX6_mean 0 = .ok (.aload_n 0, 1) := by decide +kernel
theorem dX6_mean_1 : decode cX6_mean 1 = .ok (.iload_n 1, 1) := by decide +kernel
theorem dX6_mean_2 : decode cX6_mean 2 = .ok (.invokevirtual 116, 3) := by decide +kernel
theorem dX6_mean_5 : decode cX6_mean 5 = .ok (.ifCond .ne 11, 3) := by decide +kernel
theorem dX6_mean_8 : decode cX6_mean 8 = .ok (.aload_n 0, 1) := by decide +kernel
theorem dX6_mean_9 : decode cX6_mean 9 = .ok (.ldc 55, 2) := by decide +kernel
theorem dX6_mean_11 : decode cX6_mean 11 = .ok (.invokevirtual 81, 3) := by decide +kernel
theorem dX6_mean_14 : decode cX6_mean 14 = .ok (.i2l, 1) := by decide +kernel
theorem dX6_mean_15 : decode cX6_mean 15 = .ok (.lreturn, 1) := by decide +kernel
theorem dX6_mean_16 : decode cX6_mean 16 = .ok (.aload_n 0, 1) := by decide +kernel
theorem dX6_mean_17 : decode cX6_mean 17 = .ok (.iload_n 1, 1) := by decide +kernel
theorem dX6_mean_18 : decode cX6_mean 18 = .ok (.invokevirtual 169, 3) := by decide +kernel
theorem dX6_mean_21 : decode cX6_mean 21 = .ok (.istore_n 2, 1) := by decide +kernel
theorem dX6_mean_22 : decode cX6_mean 22 = .ok (.lconst 0, 1) := by decide +kernel
theorem dX6_mean_23 : decode cX6_mean 23 = .ok (.lstore_n 3, 1) := by decide +kernel
theorem dX6_mean_24 : decode cX6_mean 24 = .ok (.iconst 0, 1) := by decide +kernel
theorem dX6_mean_25 : decode cX6_mean 25 = .ok (.istore 5, 2) := by decide +kernel
theorem dX6_mean_27 : decode cX6_mean 27 = .ok (.iload 5, 2) := by decide +kernel
theorem dX6_mean_29 : decode cX6_mean 29 = .ok (.iconst 1, 1) := by decide +kernel
theorem dX6_mean_30 : decode cX6_mean 30 = .ok (.aload_n 0, 1) := by decide +kernel
theorem dX6_mean_31 : decode cX6_mean 31 = .ok (.getfield 163, 3) := by decide +kernel
theorem dX6_mean_34 : decode cX6_mean 34 = .ok (.ishl, 1) := by decide +kernel
theorem dX6_mean_35 : decode cX6_mean 35 = .ok (.if_icmp .ge 29, 3) := by decide +kernel
theorem dX6_mean_38 : decode cX6_mean 38 = .ok (.aload_n 0, 1) := by decide +kernel
theorem dX6_mean_39 : decode cX6_mean 39 = .ok (.iload_n 1, 1) := by decide +kernel
theorem dX6_mean_40 : decode cX6_mean 40 = .ok (.iload 5, 2) := by decide +kernel
theorem dX6_mean_42 : decode cX6_mean 42 = .ok (.invokevirtual 191, 3) := by decide +kernel
theorem dX6_mean_45 : decode cX6_mean 45 = .ok (.istore 6, 2) := by decide +kernel
theorem dX6_mean_47 : decode cX6_mean 47 = .ok (.lload_n 3, 1) := by decide +kernel
theorem dX6_mean_48 : decode cX6_mean 48 = .ok (.aload_n 0, 1) := by decide +kernel
theorem dX6_mean_49 : decode cX6_mean 49 = .ok (.getfield 185, 3) := by decide +kernel
theorem dX6_mean_52 : decode cX6_mean 52 = .ok (.iload 6, 2) := by decide +kernel
theorem dX6_mean_54 : decode cX6_mean 54 = .ok (.i2l, 1) := by decide +kernel
theorem dX6_mean_55 : decode cX6_mean 55 = .ok (.lmul, 1) := by decide +kernel
theorem dX6_mean_56 : decode cX6_mean 56 = .ok (.ladd, 1) := by decide +kernel
theorem dX6_mean_57 : decode cX6_mean 57 = .ok (.lstore_n 3, 1) := by decide +kernel
theorem dX6_mean_58 : decode cX6_mean 58 = .ok (.iinc 5 1, 3) := by decide +kernel
theorem dX6_mean_61 : decode cX6_mean 61 = .ok (.goto (-34), 3) := by decide +kernel
theorem dX6_mean_64 : decode cX6_mean 64 = .ok (.lload_n 3, 1) := by decide +kernel
theorem dX6_mean_65 : decode cX6_mean 65 = .ok (.lreturn, 1) := by decide +kernel
theorem dX6_rust_0 : decode cX6_rust 0 = .ok (.iload_n 1, 1) := by decide +kernel
theorem dX6_rust_1 : decode cX6_rust 1 = .ok (.i2l, 1) := by decide +kernel
theorem dX6_rust_2 : decode cX6_rust 2 = .ok (.lconst 1, 1) := by decide +kernel
theorem dX6_rust_3 : decode cX6_rust 3 = .ok (.ldc2_w 189, 3) := by decide +kernel
theorem dX6_rust_6 : decode cX6_rust 6 = .ok (.invokestatic 58, 3) := by decide +kernel
theorem dX6_rust_9 : decode cX6_rust 9 = .ok (.ifCond .ne 10, 3) := by decide +kernel
theorem dX6_rust_12 : decode cX6_rust 12 = .ok (.aload_n 0, 1) := by decide +kernel
theorem dX6_rust_13 : decode cX6_rust 13 = .ok (.ldc 55, 2) := by decide +kernel
theorem dX6_rust_15 : decode cX6_rust 15 = .ok (.invokevirtual 81, 3) := by decide +kernel
theorem dX6_rust_18 : decode cX6_rust 18 = .ok (.ireturn, 1) := by decide +kernel
theorem dX6_rust_19 : decode cX6_rust 19 = .ok (.aload_n 0, 1) := by decide +kernel
theorem dX6_rust_20 : decode cX6_rust 20 = .ok (.getfield 7, 3) := by decide +kernel
theorem dX6_rust_23 : decode cX6_rust 23 = .ok (.iconst 0, 1) := by decide +kernel
theorem dX6_rust_24 : decode cX6_rust 24 = .ok (.iaload, 1) := by decide +kernel
theorem dX6_rust_25 : decode cX6_rust 25 = .ok (.ifCond .ne 10, 3) := by decide +kernel
theorem dX6_rust_28 : decode cX6_rust 28 = .ok (.aload_n 0, 1) := by decide +kernel
theorem dX6_rust_29 : decode cX6_rust 29 = .ok (.ldc 122, 2) := by decide +kernel
theorem dX6_rust_31 : decode cX6_rust 31 = .ok (.invokevirtual 81, 3) := by decide +kernel
theorem dX6_rust_34 : decode cX6_rust 34 = .ok (.ireturn, 1) := by decide +kernel
theorem dX6_rust_35 : decode cX6_rust 35 = .ok (.iconst 0, 1) := by decide +kernel
theorem dX6_rust_36 : decode cX6_rust 36 = .ok (.istore_n 2, 1) := by decide +kernel
theorem dX6_rust_37 : decode cX6_rust 37 = .ok (.iload_n 2, 1) := by decide +kernel
theorem dX6_rust_38 : decode cX6_rust 38 = .ok (.iload_n 1, 1) := by decide +kernel
theorem dX6_rust_39 : decode cX6_rust 39 = .ok (.if_icmp .ge 38, 3) := by decide +kernel
theorem dX6_rust_42 : decode cX6_rust 42 = .ok (.aload_n 0, 1) := by decide +kernel
theorem dX6_rust_43 : decode cX6_rust 43 = .ok (.invokevirtual 133, 3) := by decide +kernel
theorem dX6_rust_46 : decode cX6_rust 46 = .ok (.aload_n 0, 1) := by decide +kernel
theorem dX6_rust_47 : decode cX6_rust 47 = .ok (.getfield 7, 3) := by decide +kernel
theorem dX6_rust_50 : decode cX6_rust 50 = .ok (.iconst 0, 1) := by decide +kernel
theorem dX6_rust_51 : decode cX6_rust 51 = .ok (.iaload, 1) := by decide +kernel
theorem dX6_rust_52 : decode cX6_rust 52 = .ok (.irem, 1) := by decide +kernel
theorem dX6_rust_53 : decode cX6_rust 53 = .ok (.istore_n 3, 1) := by decide +kernel
theorem dX6_rust_54 : decode cX6_rust 54 = .ok (.aload_n 0, 1) := by decide +kernel
theorem dX6_rust_55 : decode cX6_rust 55 = .ok (.getfield 7, 3) := by decide +kernel
theorem dX6_rust_58 : decode cX6_rust 58 = .ok (.iload_n 3, 1) := by decide +kernel
theorem dX6_rust_59 : decode cX6_rust 59 = .ok (.iconst 3, 1) := by decide +kernel
theorem dX6_rust_60 : decode cX6_rust 60 = .ok (.invokestatic 63, 3) := by decide +kernel
theorem dX6_rust_63 : decode cX6_rust 63 = .ok (.aload_n 0, 1) := by decide +kernel
theorem dX6_rust_64 : decode cX6_rust 64 = .ok (.invokevirtual 133, 3) := by decide +kernel
theorem dX6_rust_67 : decode cX6_rust 67 = .ok (.bipush 12, 2) := by decide +kernel
theorem dX6_rust_69 : decode cX6_rust 69 = .ok (.irem, 1) := by decide +kernel
theorem dX6_rust_70 : decode cX6_rust 70 = .ok (.iastore, 1) := by decide +kernel
theorem dX6_rust_71 : decode cX6_rust 71 = .ok (.iinc 2 1, 3) := by decide +kernel
theorem dX6_rust_74 : decode cX6_rust 74 = .ok (.goto (-37), 3) := by decide +kernel
theorem dX6_rust_77 : decode cX6_rust 77 = .ok (.iconst 0, 1) := by decide +kernel
theorem dX6_rust_78 : decode cX6_rust 78 = .ok (.istore_n 2, 1) := by decide +kernel
theorem dX6_rust_79 : decode cX6_rust 79 = .ok (.iconst 0, 1) := by decide +kernel
theorem dX6_rust_80 : decode cX6_rust 80 = .ok (.istore_n 3, 1) := by decide +kernel
theorem dX6_rust_81 : decode cX6_rust 81 = .ok (.iload_n 3, 1) := by decide +kernel
theorem dX6_rust_82 : decode cX6_rust 82 = .ok (.aload_n 0, 1) := by decide +kernel
theorem dX6_rust_83 : decode cX6_rust 83 = .ok (.getfield 7, 3) := by decide +kernel
theorem dX6_rust_86 : decode cX6_rust 86 = .ok (.iconst 0, 1) := by decide +kernel
theorem dX6_rust_87 : decode cX6_rust 87 = .ok (.iaload, 1) := by decide +kernel
theorem dX6_rust_88 : decode cX6_rust 88 = .ok (.if_icmp .ge 26, 3) := by decide +kernel
theorem dX6_rust_91 : decode cX6_rust 91 = .ok (.iload_n 2, 1) := by decide +kernel
theorem dX6_rust_92 : decode cX6_rust 92 = .ok (.aload_n 0, 1) := by decide +kernel
theorem dX6_rust_93 : decode cX6_rust 93 = .ok (.iload_n 3, 1) := by decide +kernel
theorem dX6_rust_94 : decode cX6_rust 94 = .ok (.iconst 3, 1) := by decide +kernel
theorem dX6_rust_95 : decode cX6_rust 95 = .ok (.invokevirtual 90, 3) := by decide +kernel
theorem dX6_rust_98 : decode cX6_rust 98 = .ok (.ifCond .le 7, 3) := by decide +kernel
theorem dX6_rust_101 : decode cX6_rust 101 = .ok (.iconst 1, 1) := by decide +kernel
theorem dX6_rust_102 : decode cX6_rust 102 = .ok (.goto 4, 3) := by decide +kernel
theorem dX6_rust_105 : decode cX6_rust 105 = .ok (.iconst 0, 1) := by decide +kernel
theorem dX6_rust_106 : decode cX6_rust 106 = .ok (.iadd, 1) := by decide +kernel
theorem dX6_rust_107 : decode cX6_rust 107 = .ok (.istore_n 2, 1) := by decide +kernel
theorem dX6_rust_108 : decode cX6_rust 108 = .ok (.iinc 3 1, 3) := by decide +kernel
theorem dX6_rust_111 : decode cX6_rust 111 = .ok (.goto (-30), 3) := by decide +kernel
theorem dX6_rust_114 : decode cX6_rust 114 = .ok (.iload_n 2, 1) := by decide +kernel
theorem dX6_rust_115 : decode cX6_rust 115 = .ok (.ireturn, 1) := by decide +kernel
theorem dX6_seed_0 : decode cX6_seed 0 = .ok (.aload_n 0, 1) := by decide +kernel
theorem dX6_seed_1 : decode cX6_seed 1 = .ok (.getfield 7, 3) := by decide +kernel
theorem dX6_seed_4 : decode cX6_seed 4 = .ok (.iconst 1, 1) := by decide +kernel
theorem dX6_seed_5 : decode cX6_seed 5 = .ok (.iaload, 1) := by decide +kernel
theorem dX6_seed_6 : decode cX6_seed 6 = .ok (.istore_n 2, 1) := by decide +kernel
theorem dX6_seed_7 : decode cX6_seed 7 = .ok (.aload_n 0, 1) := by decide +kernel
theorem dX6_seed_8 : decode cX6_seed 8 = .ok (.getfield 7, 3) := by decide +kernel
theorem dX6_seed_11 : decode cX6_seed 11 = .ok (.iconst 1, 1) := by decide +kernel
theorem dX6_seed_12 : decode cX6_seed 12 = .ok (.iload_n 1, 1) := by decide +kernel
theorem dX6_seed_13 : decode cX6_seed 13 = .ok (.iastore, 1) := by decide +kernel
theorem dX6_seed_14 : decode cX6_seed 14 = .ok (.iload_n 2, 1) := by decide +kernel
theorem dX6_seed_15 : decode cX6_seed 15 = .ok (.ireturn, 1) := by decide +kernel
theorem dX6_feed_0 : decode cX6_feed 0 = .ok (.iload_n 2, 1) := by decide +kernel
theorem dX6_feed_1 : decode cX6_feed 1 = .ok (.i2l, 1) := by decide +kernel
theorem dX6_feed_2 : decode cX6_feed 2 = .ok (.lconst 1, 1) := by decide +kernel
theorem dX6_feed_3 : decode cX6_feed 3 = .ok (.ldc2_w 194, 3) := by decide +kernel
theorem dX6_feed_6 : decode cX6_feed 6 = .ok (.invokestatic 58, 3) := by decide +kernel
theorem dX6_feed_9 : decode cX6_feed 9 = .ok (.ifCond .ne 10, 3) := by decide +kernel
theorem dX6_feed_12 : decode cX6_feed 12 = .ok (.aload_n 0, 1) := by decide +kernel
theorem dX6_feed_13 : decode cX6_feed 13 = .ok (.ldc 55, 2) := by decide +kernel
theorem dX6_feed_15 : decode cX6_feed 15 = .ok (.invokevirtual 81, 3) := by decide +kernel
theorem dX6_feed_18 : decode cX6_feed 18 = .ok (.ireturn, 1) := by decide +kernel
theorem dX6_feed_19 : decode cX6_feed 19 = .ok (.aload_n 0, 1) := by decide +kernel
theorem dX6_feed_20 : decode cX6_feed 20 = .ok (.getfield 196, 3) := by decide +kernel
theorem dX6_feed_23 : decode cX6_feed 23 = .ok (.iload_n 2, 1) := by decide +kernel
theorem dX6_feed_24 : decode cX6_feed 24 = .ok (.iadd, 1) := by decide +kernel
theorem dX6_feed_25 : decode cX6_feed 25 = .ok (.bipush 120, 2) := by decide +kernel
theorem dX6_feed_27 : decode cX6_feed 27 = .ok (.if_icmp .le 10, 3) := by decide +kernel
theorem dX6_feed_30 : decode cX6_feed 30 = .ok (.aload_n 0, 1) := by decide +kernel
theorem dX6_feed_31 : decode cX6_feed 31 = .ok (.ldc 85, 2) := by decide +kernel
theorem dX6_feed_33 : decode cX6_feed 33 = .ok (.invokevirtual 81, 3) := by decide +kernel
theorem dX6_feed_36 : decode cX6_feed 36 = .ok (.ireturn, 1) := by decide +kernel
theorem dX6_feed_37 : decode cX6_feed 37 = .ok (.iload_n 2, 1) := by decide +kernel
theorem dX6_feed_38 : decode cX6_feed 38 = .ok (.iconst 1, 1) := by decide +kernel
theorem dX6_feed_39 : decode cX6_feed 39 = .ok (.isub, 1) := by decide +kernel
theorem dX6_feed_40 : decode cX6_feed 40 = .ok (.istore_n 3, 1) := by decide +kernel
theorem dX6_feed_41 : decode cX6_feed 41 = .ok (.iload_n 3, 1) := by decide +kernel
theorem dX6_feed_42 : decode cX6_feed 42 = .ok (.ifCond .lt 38, 3) := by decide +kernel
theorem dX6_feed_45 : decode cX6_feed 45 = .ok (.aload_n 0, 1) := by decide +kernel
theorem dX6_feed_46 : decode cX6_feed 46 = .ok (.getfield 40, 3) := by decide +kernel
theorem dX6_feed_49 : decode cX6_feed 49 = .ok (.aload_n 0, 1) := by decide +kernel
theorem dX6_feed_50 : decode cX6_feed 50 = .ok (.getfield 196, 3) := by decide +kernel
theorem dX6_feed_53 : decode cX6_feed 53 = .ok (.iload_n 1, 1) := by decide +kernel
theorem dX6_feed_54 : decode cX6_feed 54 = .ok (.bipush 8, 2) := by decide +kernel
theorem dX6_feed_56 : decode cX6_feed 56 = .ok (.iload_n 3, 1) := by decide +kernel
theorem dX6_feed_57 : decode cX6_feed 57 = .ok (.imul, 1) := by decide +kernel
theorem dX6_feed_58 : decode cX6_feed 58 = .ok (.ishr, 1) := by decide +kernel
theorem dX6_feed_59 : decode cX6_feed 59 = .ok (.sipush 255, 3) := by decide +kernel
theorem dX6_feed_62 : decode cX6_feed 62 = .ok (.iand, 1) := by decide +kernel
theorem dX6_feed_63 : decode cX6_feed 63 = .ok (.iastore, 1) := by decide +kernel
theorem dX6_feed_64 : decode cX6_feed 64 = .ok (.aload_n 0, 1) := by decide +kernel
theorem dX6_feed_65 : decode cX6_feed 65 = .ok (.dup, 1) := by decide +kernel
theorem dX6_feed_66 : decode cX6_feed 66 = .ok (.getfield 196, 3) := by decide +kernel
theorem dX6_feed_69 : decode cX6_feed 69 = .ok (.iconst 1, 1) := by decide +kernel
theorem dX6_feed_70 : decode cX6_feed 70 = .ok (.iadd, 1) := by decide +kernel
theorem dX6_feed_71 : decode cX6_feed 71 = .ok (.putfield 196, 3) := by decide +kernel
theorem dX6_feed_74 : decode cX6_feed 74 = .ok (.iinc 3 (-1), 3) := by decide +kernel
theorem dX6_feed_77 : decode cX6_feed 77 = .ok (.goto (-36), 3) := by decide +kernel
theorem dX6_feed_80 : decode cX6_feed 80 = .ok (.aload_n 0, 1) := by decide +kernel
theorem dX6_feed_81 : decode cX6_feed 81 = .ok (.getfield 196, 3) := by decide +kernel
theorem dX6_feed_84 : decode cX6_feed 84 = .ok (.ireturn, 1) := by decide +kernel
theorem dX6_wipe_0 : decode cX6_wipe 0 = .ok (.aload_n 0, 1) := by decide +kernel
theorem dX6_wipe_1 : decode cX6_wipe 1 = .ok (.getfield 196, 3) := by decide +kernel
theorem dX6_wipe_4 : decode cX6_wipe 4 = .ok (.istore_n 1, 1) := by decide +kernel
theorem dX6_wipe_5 : decode cX6_wipe 5 = .ok (.aload_n 0, 1) := by decide +kernel
theorem dX6_wipe_6 : decode cX6_wipe 6 = .ok (.iconst 0, 1) := by decide +kernel
theorem dX6_wipe_7 : decode cX6_wipe 7 = .ok (.putfield 196, 3) := by decide +kernel
theorem dX6_wipe_10 : decode cX6_wipe 10 = .ok (.iload_n 1, 1) := by decide +kernel
theorem dX6_wipe_11 : decode cX6_wipe 11 = .ok (.ireturn, 1) := by decide +kernel
theorem dX6_byteAt_0 : decode cX6_byteAt 0 = .ok (.iload_n 1, 1) := by decide +kernel
theorem dX6_byteAt_1 : decode cX6_byteAt 1 = .ok (.aload_n 0, 1) := by decide +kernel
theorem dX6_byteAt_2 : decode cX6_byteAt 2 = .ok (.getfield 196, 3) := by decide +kernel
theorem dX6_byteAt_5 : decode cX6_byteAt 5 = .ok (.if_icmp .ge 12, 3) := by decide +kernel
theorem dX6_byteAt_8 : decode cX6_byteAt 8 = .ok (.aload_n 0, 1) := by decide +kernel
theorem dX6_byteAt_9 : decode cX6_byteAt 9 = .ok (.getfield 40, 3) := by decide +kernel
theorem dX6_byteAt_12 : decode cX6_byteAt 12 = .ok (.iload_n 1, 1) := by decide +kernel
theorem dX6_byteAt_13 : decode cX6_byteAt 13 = .ok (.iaload, 1) := by decide +kernel
theorem dX6_byteAt_14 : decode cX6_byteAt 14 = .ok (.goto 4, 3) := by decide +kernel
theorem dX6_byteAt_17 : decode cX6_byteAt 17 = .ok (.iconst (-1), 1) := by decide +kernel
theorem dX6_byteAt_18 : decode cX6_byteAt 18 = .ok (.ireturn, 1) := by decide +kernel
theorem dX6_isLetter_0 : decode cX6_isLetter 0 = .ok (.iload_n 0, 1) := by decide +kernel
theorem dX6_isLetter_1 : decode cX6_isLetter 1 = .ok (.i2l, 1) := by decide +kernel
theorem dX6_isLetter_2 : decode cX6_isLetter 2 = .ok (.ldc2_w 199, 3) := by decide +kernel
theorem dX6_isLetter_5 : decode cX6_isLetter 5 = .ok (.ldc2_w 201, 3) := by decide +kernel
theorem dX6_isLetter_8 : decode cX6_isLetter 8 = .ok (.invokestatic 58, 3) := by decide +kernel
theorem dX6_isLetter_11 : decode cX6_isLetter 11 = .ok (.ireturn, 1) := by decide +kernel
theorem dX6_isDigit_0 : decode cX6_isDigit 0 = .ok (.iload_n 0, 1) := by decide +kernel
theorem dX6_isDigit_1 : decode cX6_isDigit 1 = .ok (.i2l, 1) := by decide +kernel
theorem dX6_isDigit_2 : decode cX6_isDigit 2 = .ok (.ldc2_w 203, 3) := by decide +kernel
theorem dX6_isDigit_5 : decode cX6_isDigit 5 = .ok (.ldc2_w 205, 3) := by decide +kernel
theorem dX6_isDigit_8 : decode cX6_isDigit 8 = .ok (.invokestatic 58, 3) := by decide +kernel
theorem dX6_isDigit_11 : decode cX6_isDigit 11 = .ok (.ireturn, 1) := by decide +kernel
theorem dX6_token_0 : decode cX6_token 0 = .ok (.aload_n 0, 1) := by decide +kernel
theorem dX6_token_1 : decode cX6_token 1 = .ok (.aload_n 0, 1) := by decide +kernel
theorem dX6_token_2 : decode cX6_token 2 = .ok (.getfield 207, 3) := by decide +kernel
theorem dX6_token_5 : decode cX6_token 5 = .ok (.putfield 210, 3) := by decide +kernel
theorem dX6_token_8 : decode cX6_token 8 = .ok (.aload_n 0, 1) := by decide +kernel
theorem dX6_token_9 : decode cX6_token 9 = .ok (.aload_n 0, 1) := by decide +kernel
theorem dX6_token_10 : decode cX6_token 10 = .ok (.getfield 210, 3) := by decide +kernel
theorem dX6_token_13 : decode cX6_token 13 = .ok (.invokevirtual 213, 3) := by decide +kernel
theorem dX6_token_16 : decode cX6_token 16 = .ok (.bipush 32, 2) := by decide +kernel
theorem dX6_token_18 : decode cX6_token 18 = .ok (.if_icmp .ne 16, 3) := by decide +kernel
theorem dX6_token_21 : decode cX6_token 21 = .ok (.aload_n 0, 1) := by decide +kernel
theorem dX6_token_22 : decode cX6_token 22 = .ok (.dup, 1) := by decide +kernel
theorem dX6_token_23 : decode cX6_token 23 = .ok (.getfield 210, 3) := by decide +kernel
theorem dX6_token_26 : decode cX6_token 26 = .ok (.iconst 1, 1) := by decide +kernel
theorem dX6_token_27 : decode cX6_token 27 = .ok (.iadd, 1) := by decide +kernel
theorem dX6_token_28 : decode cX6_token 28 = .ok (.putfield 210, 3) := by decide +kernel
theorem dX6_token_31 : decode cX6_token 31 = .ok (.goto (-23), 3) := by decide +kernel
theorem dX6_token_34 : decode cX6_token 34 = .ok (.aload_n 0, 1) := by decide +kernel
theorem dX6_token_35 : decode cX6_token 35 = .ok (.aload_n 0, 1) := by decide +kernel
theorem dX6_token_36 : decode cX6_token 36 = .ok (.getfield 210, 3) := by decide +kernel
theorem dX6_token_39 : decode cX6_token 39 = .ok (.invokevirtual 213, 3) := by decide +kernel
theorem dX6_token_42 : decode cX6_token 42 = .ok (.invokestatic 216, 3) := by decide +kernel
theorem dX6_token_45 : decode cX6_token 45 = .ok (.istore_n 1, 1) := by decide +kernel
theorem dX6_token_46 : decode cX6_token 46 = .ok (.aload_n 0, 1) := by decide +kernel
theorem dX6_token_47 : decode cX6_token 47 = .ok (.aload_n 0, 1) := by decide +kernel
theorem dX6_token_48 : decode cX6_token 48 = .ok (.getfield 210, 3) := by decide +kernel
theorem dX6_token_51 : decode cX6_token 51 = .ok (.invokevirtual 213, 3) := by decide +kernel
theorem dX6_token_54 : decode cX6_token 54 = .ok (.invokestatic 219, 3) := by decide +kernel
theorem dX6_token_57 : decode cX6_token 57 = .ok (.istore_n 2, 1) := by decide +kernel
theorem dX6_token_58 : decode cX6_token 58 = .ok (.aload_n 0, 1) := by decide +kernel
theorem dX6_token_59 : decode cX6_token 59 = .ok (.aload_n 0, 1) := by decide +kernel
theorem dX6_token_60 : decode cX6_token 60 = .ok (.getfield 210, 3) := by decide +kernel
theorem dX6_token_63 : decode cX6_token 63 = .ok (.aload_n 0, 1) := by decide +kernel
theorem dX6_token_64 : decode cX6_token 64 = .ok (.getfield 196, 3) := by decide +kernel
theorem dX6_token_67 : decode cX6_token 67 = .ok (.if_icmp .ge 12, 3) := by decide +kernel
theorem dX6_token_70 : decode cX6_token 70 = .ok (.aload_n 0, 1) := by decide +kernel
theorem dX6_token_71 : decode cX6_token 71 = .ok (.getfield 210, 3) := by decide +kernel
theorem dX6_token_74 : decode cX6_token 74 = .ok (.iconst 1, 1) := by decide +kernel
theorem dX6_token_75 : decode cX6_token 75 = .ok (.iadd, 1) := by decide +kernel
theorem dX6_token_76 : decode cX6_token 76 = .ok (.goto 7, 3) := by decide +kernel
theorem dX6_token_79 : decode cX6_token 79 = .ok (.aload_n 0, 1) := by decide +kernel
theorem dX6_token_80 : decode cX6_token 80 = .ok (.getfield 210, 3) := by decide +kernel
theorem dX6_token_83 : decode cX6_token 83 = .ok (.putfield 207, 3) := by decide +kernel
theorem dX6_token_86 : decode cX6_token 86 = .ok (.iload_n 1, 1) := by decide +kernel
theorem dX6_token_87 : decode cX6_token 87 = .ok (.ifCond .eq 17, 3) := by decide +kernel
theorem dX6_token_90 : decode cX6_token 90 = .ok (.aload_n 0, 1) := by decide +kernel
theorem dX6_token_91 : decode cX6_token 91 = .ok (.aload_n 0, 1) := by decide +kernel
theorem dX6_token_92 : decode cX6_token 92 = .ok (.getfield 207, 3) := by decide +kernel
theorem dX6_token_95 : decode cX6_token 95 = .ok (.invokevirtual 213, 3) := by decide +kernel
theorem dX6_token_98 : decode cX6_token 98 = .ok (.invokestatic 216, 3) := by decide +kernel
theorem dX6_token_101 : decode cX6_token 101 = .ok (.ifCond .ne 21, 3) := by decide +kernel
theorem dX6_token_104 : decode cX6_token 104 = .ok (.iload_n 2, 1) := by decide +kernel
theorem dX6_token_105 : decode cX6_token 105 = .ok (.ifCond .eq 30, 3) := by decide +kernel
theorem dX6_token_108 : decode cX6_token 108 = .ok (.aload_n 0, 1) := by decide +kernel
theorem dX6_token_109 : decode cX6_token 109 = .ok (.aload_n 0, 1) := by decide +kernel
theorem dX6_token_110 : decode cX6_token 110 = .ok (.getfield 207, 3) := by decide +kernel
theorem dX6_token_113 : decode cX6_token 113 = .ok (.invokevirtual 213, 3) := by decide +kernel
theorem dX6_token_116 : decode cX6_token 116 = .ok (.invokestatic 219, 3) := by decide +kernel
theorem dX6_token_119 : decode cX6_token 119 = .ok (.ifCond .eq 16, 3) := by decide +kernel
theorem dX6_token_122 : decode cX6_token 122 = .ok (.aload_n 0, 1) := by decide +kernel
theorem dX6_token_123 : decode cX6_token 123 = .ok (.dup, 1) := by decide +kernel
theorem dX6_token_124 : decode cX6_token 124 = .ok (.getfield 207, 3) := by decide +kernel
theorem dX6_token_127 : decode cX6_token 127 = .ok (.iconst 1, 1) := by decide +kernel
theorem dX6_token_128 : decode cX6_token 128 = .ok (.iadd, 1) := by decide +kernel
theorem dX6_token_129 : decode cX6_token 129 = .ok (.putfield 207, 3) := by decide +kernel
theorem dX6_token_132 : decode cX6_token 132 = .ok (.goto (-46), 3) := by decide +kernel
theorem dX6_token_135 : decode cX6_token 135 = .ok (.return_, 1) := by decide +kernel
theorem dX6_wants_0 : decode cX6_wants 0 = .ok (.aload_n 0, 1) := by decide +kernel
theorem dX6_wants_1 : decode cX6_wants 1 = .ok (.aload_n 0, 1) := by decide +kernel
theorem dX6_wants_2 : decode cX6_wants 2 = .ok (.getfield 222, 3) := by decide +kernel
theorem dX6_wants_5 : decode cX6_wants 5 = .ok (.ifCond .ne 7, 3) := by decide +kernel
theorem dX6_wants_8 : decode cX6_wants 8 = .ok (.iload_n 1, 1) := by decide +kernel
theorem dX6_wants_9 : decode cX6_wants 9 = .ok (.ifCond .ne 7, 3) := by decide +kernel
theorem dX6_wants_12 : decode cX6_wants 12 = .ok (.iconst 1, 1) := by decide +kernel
theorem dX6_wants_13 : decode cX6_wants 13 = .ok (.goto 4, 3) := by decide +kernel
theorem dX6_wants_16 : decode cX6_wants 16 = .ok (.iconst 0, 1) := by decide +kernel
theorem dX6_wants_17 : decode cX6_wants 17 = .ok (.putfield 222, 3) := by decide +kernel
theorem dX6_wants_20 : decode cX6_wants 20 = .ok (.aload_n 0, 1) := by decide +kernel
theorem dX6_wants_21 : decode cX6_wants 21 = .ok (.getfield 222, 3) := by decide +kernel
theorem dX6_wants_24 : decode cX6_wants 24 = .ok (.ifCond .ne 7, 3) := by decide +kernel
theorem dX6_wants_27 : decode cX6_wants 27 = .ok (.aload_n 0, 1) := by decide +kernel
theorem dX6_wants_28 : decode cX6_wants 28 = .ok (.invokevirtual 226, 3) := by decide +kernel
theorem dX6_wants_31 : decode cX6_wants 31 = .ok (.return_, 1) := by decide +kernel
theorem dX6_word_0 : decode cX6_word 0 = .ok (.lconst 0, 1) := by decide +kernel
theorem dX6_word_1 : decode cX6_word 1 = .ok (.lstore_n 1, 1) := by decide +kernel
theorem dX6_word_2 : decode cX6_word 2 = .ok (.aload_n 0, 1) := by decide +kernel
theorem dX6_word_3 : decode cX6_word 3 = .ok (.getfield 210, 3) := by decide +kernel
theorem dX6_word_6 : decode cX6_word 6 = .ok (.istore_n 3, 1) := by decide +kernel
theorem dX6_word_7 : decode cX6_word 7 = .ok (.iload_n 3, 1) := by decide +kernel
theorem dX6_word_8 : decode cX6_word 8 = .ok (.aload_n 0, 1) := by decide +kernel
theorem dX6_word_9 : decode cX6_word 9 = .ok (.getfield 207, 3) := by decide +kernel
theorem dX6_word_12 : decode cX6_word 12 = .ok (.if_icmp .ge 38, 3) := by decide +kernel
theorem dX6_word_15 : decode cX6_word 15 = .ok (.lload_n 1, 1) := by decide +kernel
theorem dX6_word_16 : decode cX6_word 16 = .ok (.ldc2_w 229, 3) := by decide +kernel
theorem dX6_word_19 : decode cX6_word 19 = .ok (.lcmp, 1) := by decide +kernel
theorem dX6_word_20 : decode cX6_word 20 = .ok (.ifCond .le 7, 3) := by decide +kernel
theorem dX6_word_23 : decode cX6_word 23 = .ok (.lload_n 1, 1) := by decide +kernel
theorem dX6_word_24 : decode cX6_word 24 = .ok (.goto 19, 3) := by decide +kernel
theorem dX6_word_27 : decode cX6_word 27 = .ok (.ldc2_w 231, 3) := by decide +kernel
theorem dX6_word_30 : decode cX6_word 30 = .ok (.lload_n 1, 1) := by decide +kernel
theorem dX6_word_31 : decode cX6_word 31 = .ok (.lmul, 1) := by decide +kernel
theorem dX6_word_32 : decode cX6_word 32 = .ok (.aload_n 0, 1) := by decide +kernel
theorem dX6_word_33 : decode cX6_word 33 = .ok (.getfield 40, 3) := by decide +kernel
theorem dX6_word_36 : decode cX6_word 36 = .ok (.iload_n 3, 1) := by decide +kernel
theorem dX6_word_37 : decode cX6_word 37 = .ok (.iaload, 1) := by decide +kernel
theorem dX6_word_38 : decode cX6_word 38 = .ok (.bipush 96, 2) := by decide +kernel
theorem dX6_word_40 : decode cX6_word 40 = .ok (.isub, 1) := by decide +kernel
theorem dX6_word_41 : decode cX6_word 41 = .ok (.i2l, 1) := by decide +kernel
theorem dX6_word_42 : decode cX6_word 42 = .ok (.ladd, 1) := by decide +kernel
theorem dX6_word_43 : decode cX6_word 43 = .ok (.lstore_n 1, 1) := by decide +kernel
theorem dX6_word_44 : decode cX6_word 44 = .ok (.iinc 3 1, 3) := by decide +kernel
theorem dX6_word_47 : decode cX6_word 47 = .ok (.goto (-40), 3) := by decide +kernel
theorem dX6_word_50 : decode cX6_word 50 = .ok (.aload_n 0, 1) := by decide +kernel
theorem dX6_word_51 : decode cX6_word 51 = .ok (.getfield 222, 3) := by decide +kernel
theorem dX6_word_54 : decode cX6_word 54 = .ok (.ifCond .ne 17, 3) := by decide +kernel
theorem dX6_word_57 : decode cX6_word 57 = .ok (.aload_n 0, 1) := by decide +kernel
theorem dX6_word_58 : decode cX6_word 58 = .ok (.aload_n 0, 1) := by decide +kernel
theorem dX6_word_59 : decode cX6_word 59 = .ok (.getfield 210, 3) := by decide +kernel
theorem dX6_word_62 : decode cX6_word 62 = .ok (.invokevirtual 213, 3) := by decide +kernel
theorem dX6_word_65 : decode cX6_word 65 = .ok (.invokestatic 216, 3) := by decide +kernel
theorem dX6_word_68 : decode cX6_word 68 = .ok (.ifCond .ne 7, 3) := by decide +kernel
theorem dX6_word_71 : decode cX6_word 71 = .ok (.lconst 0, 1) := by decide +kernel
theorem dX6_word_72 : decode cX6_word 72 = .ok (.goto 4, 3) := by decide +kernel
theorem dX6_word_75 : decode cX6_word 75 = .ok (.lload_n 1, 1) := by decide +kernel
theorem dX6_word_76 : decode cX6_word 76 = .ok (.lreturn, 1) := by decide +kernel
theorem dX6_number_0 : decode cX6_number 0 = .ok (.aload_n 0, 1) := by decide +kernel
theorem dX6_number_1 : decode cX6_number 1 = .ok (.getfield 222, 3) := by decide +kernel
theorem dX6_number_4 : decode cX6_number 4 = .ok (.ifCond .eq 4, 3) := by decide +kernel
theorem dX6_number_7 : decode cX6_number 7 = .ok (.return_, 1) := by decide +kernel
theorem dX6_number_8 : decode cX6_number 8 = .ok (.aload_n 0, 1) := by decide +kernel
theorem dX6_number_9 : decode cX6_number 9 = .ok (.aload_n 0, 1) := by decide +kernel
theorem dX6_number_10 : decode cX6_number 10 = .ok (.getfield 210, 3) := by decide +kernel
theorem dX6_number_13 : decode cX6_number 13 = .ok (.invokevirtual 213, 3) := by decide +kernel
theorem dX6_number_16 : decode cX6_number 16 = .ok (.invokestatic 219, 3) := by decide +kernel
theorem dX6_number_19 : decode cX6_number 19 = .ok (.istore_n 3, 1) := by decide +kernel
theorem dX6_number_20 : decode cX6_number 20 = .ok (.iconst 0, 1) := by decide +kernel
theorem dX6_number_21 : decode cX6_number 21 = .ok (.istore 4, 2) := by decide +kernel
theorem dX6_number_23 : decode cX6_number 23 = .ok (.aload_n 0, 1) := by decide +kernel
theorem dX6_number_24 : decode cX6_number 24 = .ok (.getfield 210, 3) := by decide +kernel
theorem dX6_number_27 : decode cX6_number 27 = .ok (.istore 5, 2) := by decide +kernel
theorem dX6_number_29 : decode cX6_number 29 = .ok (.iload 5, 2) := by decide +kernel
theorem dX6_number_31 : decode cX6_number 31 = .ok (.aload_n 0, 1) := by decide +kernel
theorem dX6_number_32 : decode cX6_number 32 = .ok (.getfield 207, 3) := by decide +kernel
theorem dX6_number_35 : decode cX6_number 35 = .ok (.if_icmp .ge 44, 3) := by decide +kernel
theorem dX6_number_38 : decode cX6_number 38 = .ok (.iload_n 3, 1) := by decide +kernel
theorem dX6_number_39 : decode cX6_number 39 = .ok (.ifCond .eq 40, 3) := by decide +kernel
theorem dX6_number_42 : decode cX6_number 42 = .ok (.iload 4, 2) := by decide +kernel
theorem dX6_number_44 : decode cX6_number 44 = .ok (.sipush 999, 3) := by decide +kernel
theorem dX6_number_47 : decode cX6_number 47 = .ok (.if_icmp .le 8, 3) := by decide +kernel
theorem dX6_number_50 : decode cX6_number 50 = .ok (.iload 4, 2) := by decide +kernel
theorem dX6_number_52 : decode cX6_number 52 = .ok (.goto 19, 3) := by decide +kernel
theorem dX6_number_55 : decode cX6_number 55 = .ok (.bipush 10, 2) := by decide +kernel
theorem dX6_number_57 : decode cX6_number 57 = .ok (.iload 4, 2) := by decide +kernel
theorem dX6_number_59 : decode cX6_number 59 = .ok (.imul, 1) := by decide +kernel
theorem dX6_number_60 : decode cX6_number 60 = .ok (.aload_n 0, 1) := by decide +kernel
theorem dX6_number_61 : decode cX6_number 61 = .ok (.getfield 40, 3) := by decide +kernel
theorem dX6_number_64 : decode cX6_number 64 = .ok (.iload 5, 2) := by decide +kernel
theorem dX6_number_66 : decode cX6_number 66 = .ok (.iaload, 1) := by decide +kernel
theorem dX6_number_67 : decode cX6_number 67 = .ok (.iadd, 1) := by decide +kernel
theorem dX6_number_68 : decode cX6_number 68 = .ok (.bipush 48, 2) := by decide +kernel
theorem dX6_number_70 : decode cX6_number 70 = .ok (.isub, 1) := by decide +kernel
theorem dX6_number_71 : decode cX6_number 71 = .ok (.istore 4, 2) := by decide +kernel
theorem dX6_number_73 : decode cX6_number 73 = .ok (.iinc 5 1, 3) := by decide +kernel
theorem dX6_number_76 : decode cX6_number 76 = .ok (.goto (-47), 3) := by decide +kernel
theorem dX6_number_79 : decode cX6_number 79 = .ok (.aload_n 0, 1) := by decide +kernel
theorem dX6_number_80 : decode cX6_number 80 = .ok (.iload 4, 2) := by decide +kernel
theorem dX6_number_82 : decode cX6_number 82 = .ok (.putfield 233, 3) := by decide +kernel
theorem dX6_number_85 : decode cX6_number 85 = .ok (.aload_n 0, 1) := by decide +kernel
theorem dX6_number_86 : decode cX6_number 86 = .ok (.iload_n 3, 1) := by decide +kernel
theorem dX6_number_87 : decode cX6_number 87 = .ok (.ifCond .eq 20, 3) := by decide +kernel
theorem dX6_number_90 : decode cX6_number 90 = .ok (.iload 4, 2) := by decide +kernel
theorem dX6_number_92 : decode cX6_number 92 = .ok (.i2l, 1) := by decide +kernel
theorem dX6_number_93 : decode cX6_number 93 = .ok (.iload_n 1, 1) := by decide +kernel
theorem dX6_number_94 : decode cX6_number 94 = .ok (.i2l, 1) := by decide +kernel
theorem dX6_number_95 : decode cX6_number 95 = .ok (.iload_n 2, 1) := by decide +kernel
theorem dX6_number_96 : decode cX6_number 96 = .ok (.i2l, 1) := by decide +kernel
theorem dX6_number_97 : decode cX6_number 97 = .ok (.invokestatic 58, 3) := by decide +kernel
theorem dX6_number_100 : decode cX6_number 100 = .ok (.ifCond .eq 7, 3) := by decide +kernel
theorem dX6_number_103 : decode cX6_number 103 = .ok (.iconst 1, 1) := by decide +kernel
theorem dX6_number_104 : decode cX6_number 104 = .ok (.goto 4, 3) := by decide +kernel
theorem dX6_number_107 : decode cX6_number 107 = .ok (.iconst 0, 1) := by decide +kernel
theorem dX6_number_108 : decode cX6_number 108 = .ok (.invokevirtual 236, 3) := by decide +kernel
theorem dX6_number_111 : decode cX6_number 111 = .ok (.return_, 1) := by decide +kernel
theorem dX6_kindHere_0 : decode cX6_kindHere 0 = .ok (.aload_n 0, 1) := by decide +kernel
theorem dX6_kindHere_1 : decode cX6_kindHere 1 = .ok (.invokevirtual 240, 3) := by decide +kernel
theorem dX6_kindHere_4 : decode cX6_kindHere 4 = .ok (.lstore_n 1, 1) := by decide +kernel
theorem dX6_kindHere_5 : decode cX6_kindHere 5 = .ok (.lload_n 1, 1) := by decide +kernel
theorem dX6_kindHere_6 : decode cX6_kindHere 6 = .ok (.ldc2_w 244, 3) := by decide +kernel
theorem dX6_kindHere_9 : decode cX6_kindHere 9 = .ok (.lcmp, 1) := by decide +kernel
theorem dX6_kindHere_10 : decode cX6_kindHere 10 = .ok (.ifCond .ne 7, 3) := by decide +kernel
theorem dX6_kindHere_13 : decode cX6_kindHere 13 = .ok (.iconst 0, 1) := by decide +kernel
theorem dX6_kindHere_14 : decode cX6_kindHere 14 = .ok (.goto 77, 3) := by decide +kernel
theorem dX6_kindHere_17 : decode cX6_kindHere 17 = .ok (.lload_n 1, 1) := by decide +kernel
theorem dX6_kindHere_18 : decode cX6_kindHere 18 = .ok (.ldc2_w 246, 3) := by decide +kernel
theorem dX6_kindHere_21 : decode cX6_kindHere 21 = .ok (.lcmp, 1) := by decide +kernel
theorem dX6_kindHere_22 : decode cX6_kindHere 22 = .ok (.ifCond .ne 7, 3) := by decide +kernel
theorem dX6_kindHere_25 : decode cX6_kindHere 25 = .ok (.iconst 1, 1) := by decide +kernel
theorem dX6_kindHere_26 : decode cX6_kindHere 26 = .ok (.goto 65, 3) := by decide +kernel
theorem dX6_kindHere_29 : decode cX6_kindHere 29 = .ok (.lload_n 1, 1) := by decide +kernel
theorem dX6_kindHere_30 : decode cX6_kindHere 30 = .ok (.ldc2_w 248, 3) := by decide +kernel
theorem dX6_kindHere_33 : decode cX6_kindHere 33 = .ok (.lcmp, 1) := by decide +kernel
theorem dX6_kindHere_34 : decode cX6_kindHere 34 = .ok (.ifCond .ne 7, 3) := by decide +kernel
theorem dX6_kindHere_37 : decode cX6_kindHere 37 = .ok (.iconst 2, 1) := by decide +kernel
theorem dX6_kindHere_38 : decode cX6_kindHere 38 = .ok (.goto 53, 3) := by decide +kernel
theorem dX6_kindHere_41 : decode cX6_kindHere 41 = .ok (.lload_n 1, 1) := by decide +kernel
theorem dX6_kindHere_42 : decode cX6_kindHere 42 = .ok (.ldc2_w 250, 3) := by decide +kernel
theorem dX6_kindHere_45 : decode cX6_kindHere 45 = .ok (.lcmp, 1) := by decide +kernel
theorem dX6_kindHere_46 : decode cX6_kindHere 46 = .ok (.ifCond .ne 7, 3) := by decide +kernel
theorem dX6_kindHere_49 : decode cX6_kindHere 49 = .ok (.iconst 3, 1) := by decide +kernel
theorem dX6_kindHere_50 : decode cX6_kindHere 50 = .ok (.goto 41, 3) := by decide +kernel
theorem dX6_kindHere_53 : decode cX6_kindHere 53 = .ok (.lload_n 1, 1) := by decide +kernel
theorem dX6_kindHere_54 : decode cX6_kindHere 54 = .ok (.ldc2_w 252, 3) := by decide +kernel
theorem dX6_kindHere_57 : decode cX6_kindHere 57 = .ok (.lcmp, 1) := by decide +kernel
theorem dX6_kindHere_58 : decode cX6_kindHere 58 = .ok (.ifCond .ne 7, 3) := by decide +kernel
theorem dX6_kindHere_61 : decode cX6_kindHere 61 = .ok (.iconst 4, 1) := by decide +kernel
theorem dX6_kindHere_62 : decode cX6_kindHere 62 = .ok (.goto 29, 3) := by decide +kernel
theorem dX6_kindHere_65 : decode cX6_kindHere 65 = .ok (.lload_n 1, 1) := by decide +kernel
theorem dX6_kindHere_66 : decode cX6_kindHere 66 = .ok (.ldc2_w 254, 3) := by decide +kernel
theorem dX6_kindHere_69 : decode cX6_kindHere 69 = .ok (.lcmp, 1) := by decide +kernel
theorem dX6_kindHere_70 : decode cX6_kindHere 70 = .ok (.ifCond .ne 7, 3) := by decide +kernel
theorem dX6_kindHere_73 : decode cX6_kindHere 73 = .ok (.iconst 5, 1) := by decide +kernel
theorem dX6_kindHere_74 : decode cX6_kindHere 74 = .ok (.goto 17, 3) := by decide +kernel
theorem dX6_kindHere_77 : decode cX6_kindHere 77 = .ok (.lload_n 1, 1) := by decide +kernel
theorem dX6_kindHere_78 : decode cX6_kindHere 78 = .ok (.ldc2_w 256, 3) := by decide +kernel
theorem dX6_kindHere_81 : decode cX6_kindHere 81 = .ok (.lcmp, 1) := by decide +kernel
theorem dX6_kindHere_82 : decode cX6_kindHere 82 = .ok (.ifCond .ne 8, 3) := by decide +kernel
theorem dX6_kindHere_85 : decode cX6_kindHere 85 = .ok (.bipush 6, 2) := by decide +kernel
theorem dX6_kindHere_87 : decode cX6_kindHere 87 = .ok (.goto 4, 3) := by decide +kernel
theorem dX6_kindHere_90 : decode cX6_kindHere 90 = .ok (.iconst (-1), 1) := by decide +kernel
theorem dX6_kindHere_91 : decode cX6_kindHere 91 = .ok (.ireturn, 1) := by decide +kernel
theorem dX6_perhaps_0 : decode cX6_perhaps 0 = .ok (.iload_n 1, 1) := by decide +kernel
theorem dX6_perhaps_1 : decode cX6_perhaps 1 = .ok (.ifCond .ne 6, 3) := by decide +kernel
theorem dX6_perhaps_4 : decode cX6_perhaps 4 = .ok (.iload 4, 2) := by decide +kernel
theorem dX6_perhaps_6 : decode cX6_perhaps 6 = .ok (.ireturn, 1) := by decide +kernel
theorem dX6_perhaps_7 : decode cX6_perhaps 7 = .ok (.aload_n 0, 1) := by decide +kernel
theorem dX6_perhaps_8 : decode cX6_perhaps 8 = .ok (.iconst 1, 1) := by decide +kernel
theorem dX6_perhaps_9 : decode cX6_perhaps 9 = .ok (.invokevirtual 236, 3) := by decide +kernel
theorem dX6_perhaps_12 : decode cX6_perhaps 12 = .ok (.aload_n 0, 1) := by decide +kernel
theorem dX6_perhaps_13 : decode cX6_perhaps 13 = .ok (.iload_n 2, 1) := by decide +kernel
theorem dX6_perhaps_14 : decode cX6_perhaps 14 = .ok (.iload_n 3, 1) := by decide +kernel
theorem dX6_perhaps_15 : decode cX6_perhaps 15 = .ok (.invokevirtual 258, 3) := by decide +kernel
theorem dX6_perhaps_18 : decode cX6_perhaps 18 = .ok (.aload_n 0, 1) := by decide +kernel
theorem dX6_perhaps_19 : decode cX6_perhaps 19 = .ok (.getfield 233, 3) := by decide +kernel
theorem dX6_perhaps_22 : decode cX6_perhaps 22 = .ok (.ireturn, 1) := by decide +kernel
theorem dX6_pumpItem_0 : decode cX6_pumpItem 0 = .ok (.aload_n 0, 1) := by decide +kernel
theorem dX6_pumpItem_1 : decode cX6_pumpItem 1 = .ok (.aload_n 0, 1) := by decide +kernel
theorem dX6_pumpItem_2 : decode cX6_pumpItem 2 = .ok (.getfield 7, 3) := by decide +kernel
theorem dX6_pumpItem_5 : decode cX6_pumpItem 5 = .ok (.iconst 0, 1) := by decide +kernel
theorem dX6_pumpItem_6 : decode cX6_pumpItem 6 = .ok (.iaload, 1) := by decide +kernel
theorem dX6_pumpItem_7 : decode cX6_pumpItem 7 = .ok (.bipush 8, 2) := by decide +kernel
theorem dX6_pumpItem_9 : decode cX6_pumpItem 9 = .ok (.if_icmp .ge 7, 3) := by decide +kernel
theorem dX6_pumpItem_12 : decode cX6_pumpItem 12 = .ok (.iconst 1, 1) := by decide +kernel
theorem dX6_pumpItem_13 : decode cX6_pumpItem 13 = .ok (.goto 4, 3) := by decide +kernel
theorem dX6_pumpItem_16 : decode cX6_pumpItem 16 = .ok (.iconst 0, 1) := by decide +kernel
theorem dX6_pumpItem_17 : decode cX6_pumpItem 17 = .ok (.invokevirtual 236, 3) := by decide +kernel
theorem dX6_pumpItem_20 : decode cX6_pumpItem 20 = .ok (.aload_n 0, 1) := by decide +kernel
theorem dX6_pumpItem_21 : decode cX6_pumpItem 21 = .ok (.aload_n 0, 1) := by decide +kernel
theorem dX6_pumpItem_22 : decode cX6_pumpItem 22 = .ok (.invokevirtual 240, 3) := by decide +kernel
theorem dX6_pumpItem_25 : decode cX6_pumpItem 25 = .ok (.ldc2_w 261, 3) := by decide +kernel
theorem dX6_pumpItem_28 : decode cX6_pumpItem 28 = .ok (.lcmp, 1) := by decide +kernel
theorem dX6_pumpItem_29 : decode cX6_pumpItem 29 = .ok (.ifCond .ne 7, 3) := by decide +kernel
theorem dX6_pumpItem_32 : decode cX6_pumpItem 32 = .ok (.iconst 1, 1) := by decide +kernel
theorem dX6_pumpItem_33 : decode cX6_pumpItem 33 = .ok (.goto 4, 3) := by decide +kernel
theorem dX6_pumpItem_36 : decode cX6_pumpItem 36 = .ok (.iconst 0, 1) := by decide +kernel
theorem dX6_pumpItem_37 : decode cX6_pumpItem 37 = .ok (.invokevirtual 236, 3) := by decide +kernel
theorem dX6_pumpItem_40 : decode cX6_pumpItem 40 = .ok (.aload_n 0, 1) := by decide +kernel
theorem dX6_pumpItem_41 : decode cX6_pumpItem 41 = .ok (.iconst 0, 1) := by decide +kernel
theorem dX6_pumpItem_42 : decode cX6_pumpItem 42 = .ok (.bipush 99, 2) := by decide +kernel
theorem dX6_pumpItem_44 : decode cX6_pumpItem 44 = .ok (.invokevirtual 258, 3) := by decide +kernel
theorem dX6_pumpItem_47 : decode cX6_pumpItem 47 = .ok (.aload_n 0, 1) := by decide +kernel
theorem dX6_pumpItem_48 : decode cX6_pumpItem 48 = .ok (.getfield 233, 3) := by decide +kernel
theorem dX6_pumpItem_51 : decode cX6_pumpItem 51 = .ok (.istore_n 2, 1) := by decide +kernel
theorem dX6_pumpItem_52 : decode cX6_pumpItem 52 = .ok (.aload_n 0, 1) := by decide +kernel
theorem dX6_pumpItem_53 : decode cX6_pumpItem 53 = .ok (.aload_n 0, 1) := by decide +kernel
theorem dX6_pumpItem_54 : decode cX6_pumpItem 54 = .ok (.invokevirtual 240, 3) := by decide +kernel
theorem dX6_pumpItem_57 : decode cX6_pumpItem 57 = .ok (.ldc2_w 263, 3) := by decide +kernel
theorem dX6_pumpItem_60 : decode cX6_pumpItem 60 = .ok (.lcmp, 1) := by decide +kernel
theorem dX6_pumpItem_61 : decode cX6_pumpItem 61 = .ok (.ifCond .ne 7, 3) := by decide +kernel
theorem dX6_pumpItem_64 : decode cX6_pumpItem 64 = .ok (.iconst 1, 1) := by decide +kernel
theorem dX6_pumpItem_65 : decode cX6_pumpItem 65 = .ok (.goto 4, 3) := by decide +kernel
theorem dX6_pumpItem_68 : decode cX6_pumpItem 68 = .ok (.iconst 0, 1) := by decide +kernel
theorem dX6_pumpItem_69 : decode cX6_pumpItem 69 = .ok (.iconst 1, 1) := by decide +kernel
theorem dX6_pumpItem_70 : decode cX6_pumpItem 70 = .ok (.bipush 60, 2) := by decide +kernel
theorem dX6_pumpItem_72 : decode cX6_pumpItem 72 = .ok (.bipush 9, 2) := by decide +kernel
theorem dX6_pumpItem_74 : decode cX6_pumpItem 74 = .ok (.invokevirtual 265, 3) := by decide +kernel
theorem dX6_pumpItem_77 : decode cX6_pumpItem 77 = .ok (.istore_n 3, 1) := by decide +kernel
theorem dX6_pumpItem_78 : decode cX6_pumpItem 78 = .ok (.aload_n 0, 1) := by decide +kernel
theorem dX6_pumpItem_79 : decode cX6_pumpItem 79 = .ok (.aload_n 0, 1) := by decide +kernel
theorem dX6_pumpItem_80 : decode cX6_pumpItem 80 = .ok (.invokevirtual 240, 3) := by decide +kernel
theorem dX6_pumpItem_83 : decode cX6_pumpItem 83 = .ok (.ldc2_w 269, 3) := by decide +kernel
theorem dX6_pumpItem_86 : decode cX6_pumpItem 86 = .ok (.lcmp, 1) := by decide +kernel
theorem dX6_pumpItem_87 : decode cX6_pumpItem 87 = .ok (.ifCond .ne 7, 3) := by decide +kernel
theorem dX6_pumpItem_90 : decode cX6_pumpItem 90 = .ok (.iconst 1, 1) := by decide +kernel
theorem dX6_pumpItem_91 : decode cX6_pumpItem 91 = .ok (.goto 4, 3) := by decide +kernel
theorem dX6_pumpItem_94 : decode cX6_pumpItem 94 = .ok (.iconst 0, 1) := by decide +kernel
theorem dX6_pumpItem_95 : decode cX6_pumpItem 95 = .ok (.iconst 0, 1) := by decide +kernel
theorem dX6_pumpItem_96 : decode cX6_pumpItem 96 = .ok (.bipush 11, 2) := by decide +kernel
theorem dX6_pumpItem_98 : decode cX6_pumpItem 98 = .ok (.iconst 0, 1) := by decide +kernel
theorem dX6_pumpItem_99 : decode cX6_pumpItem 99 = .ok (.invokevirtual 265, 3) := by decide +kernel
theorem dX6_pumpItem_102 : decode cX6_pumpItem 102 = .ok (.istore 4, 2) := by decide +kernel
theorem dX6_pumpItem_104 : decode cX6_pumpItem 104 = .ok (.aload_n 0, 1) := by decide +kernel
theorem dX6_pumpItem_105 : decode cX6_pumpItem 105 = .ok (.getfield 222, 3) := by decide +kernel
theorem dX6_pumpItem_108 : decode cX6_pumpItem 108 = .ok (.ifCond .ne 14, 3) := by decide +kernel
theorem dX6_pumpItem_111 : decode cX6_pumpItem 111 = .ok (.aload_n 0, 1) := by decide +kernel
theorem dX6_pumpItem_112 : decode cX6_pumpItem 112 = .ok (.iload_n 1, 1) := by decide +kernel
theorem dX6_pumpItem_113 : decode cX6_pumpItem 113 = .ok (.iload_n 2, 1) := by decide +kernel
theorem dX6_pumpItem_114 : decode cX6_pumpItem 114 = .ok (.iload_n 3, 1) := by decide +kernel
theorem dX6_pumpItem_115 : decode cX6_pumpItem 115 = .ok (.iload 4, 2) := by decide +kernel
theorem dX6_pumpItem_117 : decode cX6_pumpItem 117 = .ok (.invokevirtual 86, 3) := by decide +kernel
theorem dX6_pumpItem_120 : decode cX6_pumpItem 120 = .ok (.istore 5, 2) := by decide +kernel
theorem dX6_pumpItem_122 : decode cX6_pumpItem 122 = .ok (.return_, 1) := by decide +kernel
theorem dX6_valueItem_0 : decode cX6_valueItem 0 = .ok (.aload_n 0, 1) := by decide +kernel
theorem dX6_valueItem_1 : decode cX6_valueItem 1 = .ok (.iconst 1, 1) := by decide +kernel
theorem dX6_valueItem_2 : decode cX6_valueItem 2 = .ok (.iload_n 2, 1) := by decide +kernel
theorem dX6_valueItem_3 : decode cX6_valueItem 3 = .ok (.iload_n 3, 1) := by decide +kernel
theorem dX6_valueItem_4 : decode cX6_valueItem 4 = .ok (.iconst 0, 1) := by decide +kernel
theorem dX6_valueItem_5 : decode cX6_valueItem 5 = .ok (.invokevirtual 265, 3) := by decide +kernel
theorem dX6_valueItem_8 : decode cX6_valueItem 8 = .ok (.istore 4, 2) := by decide +kernel
theorem dX6_valueItem_10 : decode cX6_valueItem 10 = .ok (.aload_n 0, 1) := by decide +kernel
theorem dX6_valueItem_11 : decode cX6_valueItem 11 = .ok (.getfield 222, 3) := by decide +kernel
theorem dX6_valueItem_14 : decode cX6_valueItem 14 = .ok (.ifCond .ne 11, 3) := by decide +kernel
theorem dX6_valueItem_17 : decode cX6_valueItem 17 = .ok (.aload_n 0, 1) := by decide +kernel
theorem dX6_valueItem_18 : decode cX6_valueItem 18 = .ok (.getfield 7, 3) := by decide +kernel
theorem dX6_valueItem_21 : decode cX6_valueItem 21 = .ok (.iload_n 1, 1) := by decide +kernel
theorem dX6_valueItem_22 : decode cX6_valueItem 22 = .ok (.iload 4, 2) := by decide +kernel
theorem dX6_valueItem_24 : decode cX6_valueItem 24 = .ok (.iastore, 1) := by decide +kernel
theorem dX6_valueItem_25 : decode cX6_valueItem 25 = .ok (.return_, 1) := by decide +kernel
theorem dX6_item_0 : decode cX6_item 0 = .ok (.aload_n 0, 1) := by decide +kernel
theorem dX6_item_1 : decode cX6_item 1 = .ok (.invokevirtual 271, 3) := by decide +kernel
theorem dX6_item_4 : decode cX6_item 4 = .ok (.istore_n 1, 1) := by decide +kernel
theorem dX6_item_5 : decode cX6_item 5 = .ok (.iload_n 1, 1) := by decide +kernel
theorem dX6_item_6 : decode cX6_item 6 = .ok (.ifCond .lt 11, 3) := by decide +kernel
theorem dX6_item_9 : decode cX6_item 9 = .ok (.aload_n 0, 1) := by decide +kernel
theorem dX6_item_10 : decode cX6_item 10 = .ok (.iload_n 1, 1) := by decide +kernel
theorem dX6_item_11 : decode cX6_item 11 = .ok (.invokevirtual 274, 3) := by decide +kernel
theorem dX6_item_14 : decode cX6_item 14 = .ok (.goto 123, 3) := by decide +kernel
theorem dX6_item_17 : decode cX6_item 17 = .ok (.aload_n 0, 1) := by decide +kernel
theorem dX6_item_18 : decode cX6_item 18 = .ok (.invokevirtual 240, 3) := by decide +kernel
theorem dX6_item_21 : decode cX6_item 21 = .ok (.ldc2_w 278, 3) := by decide +kernel
theorem dX6_item_24 : decode cX6_item 24 = .ok (.lcmp, 1) := by decide +kernel
theorem dX6_item_25 : decode cX6_item 25 = .ok (.ifCond .ne 36, 3) := by decide +kernel
theorem dX6_item_28 : decode cX6_item 28 = .ok (.aload_n 0, 1) := by decide +kernel
theorem dX6_item_29 : decode cX6_item 29 = .ok (.iconst 2, 1) := by decide +kernel
theorem dX6_item_30 : decode cX6_item 30 = .ok (.aload_n 0, 1) := by decide +kernel
theorem dX6_item_31 : decode cX6_item 31 = .ok (.getfield 7, 3) := by decide +kernel
theorem dX6_item_34 : decode cX6_item 34 = .ok (.bipush 8, 2) := by decide +kernel
theorem dX6_item_36 : decode cX6_item 36 = .ok (.iaload, 1) := by decide +kernel
theorem dX6_item_37 : decode cX6_item 37 = .ok (.iconst 1, 1) := by decide +kernel
theorem dX6_item_38 : decode cX6_item 38 = .ok (.if_icmp .le 13, 3) := by decide +kernel
theorem dX6_item_41 : decode cX6_item 41 = .ok (.aload_n 0, 1) := by decide +kernel
theorem dX6_item_42 : decode cX6_item 42 = .ok (.getfield 7, 3) := by decide +kernel
theorem dX6_item_45 : decode cX6_item 45 = .ok (.bipush 8, 2) := by decide +kernel
theorem dX6_item_47 : decode cX6_item 47 = .ok (.iaload, 1) := by decide +kernel
theorem dX6_item_48 : decode cX6_item 48 = .ok (.goto 4, 3) := by decide +kernel
theorem dX6_item_51 : decode cX6_item 51 = .ok (.iconst 1, 1) := by decide +kernel
theorem dX6_item_52 : decode cX6_item 52 = .ok (.sipush 999, 3) := by decide +kernel
theorem dX6_item_55 : decode cX6_item 55 = .ok (.invokevirtual 280, 3) := by decide +kernel
theorem dX6_item_58 : decode cX6_item 58 = .ok (.goto 79, 3) := by decide +kernel
theorem dX6_item_61 : decode cX6_item 61 = .ok (.aload_n 0, 1) := by decide +kernel
theorem dX6_item_62 : decode cX6_item 62 = .ok (.invokevirtual 240, 3) := by decide +kernel
theorem dX6_item_65 : decode cX6_item 65 = .ok (.ldc2_w 284, 3) := by decide +kernel
theorem dX6_item_68 : decode cX6_item 68 = .ok (.lcmp, 1) := by decide +kernel
theorem dX6_item_69 : decode cX6_item 69 = .ok (.ifCond .ne 14, 3) := by decide +kernel
theorem dX6_item_72 : decode cX6_item 72 = .ok (.aload_n 0, 1) := by decide +kernel
theorem dX6_item_73 : decode cX6_item 73 = .ok (.iconst 3, 1) := by decide +kernel
theorem dX6_item_74 : decode cX6_item 74 = .ok (.iconst 0, 1) := by decide +kernel
theorem dX6_item_75 : decode cX6_item 75 = .ok (.bipush 99, 2) := by decide +kernel
theorem dX6_item_77 : decode cX6_item 77 = .ok (.invokevirtual 280, 3) := by decide +kernel
theorem dX6_item_80 : decode cX6_item 80 = .ok (.goto 57, 3) := by decide +kernel
theorem dX6_item_83 : decode cX6_item 83 = .ok (.aload_n 0, 1) := by decide +kernel
theorem dX6_item_84 : decode cX6_item 84 = .ok (.invokevirtual 240, 3) := by decide +kernel
theorem dX6_item_87 : decode cX6_item 87 = .ok (.ldc2_w 286, 3) := by decide +kernel
theorem dX6_item_90 : decode cX6_item 90 = .ok (.lcmp, 1) := by decide +kernel
theorem dX6_item_91 : decode cX6_item 91 = .ok (.ifCond .ne 19, 3) := by decide +kernel
theorem dX6_item_94 : decode cX6_item 94 = .ok (.aload_n 0, 1) := by decide +kernel
theorem dX6_item_95 : decode cX6_item 95 = .ok (.bipush 8, 2) := by decide +kernel
theorem dX6_item_97 : decode cX6_item 97 = .ok (.iconst 0, 1) := by decide +kernel
theorem dX6_item_98 : decode cX6_item 98 = .ok (.aload_n 0, 1) := by decide +kernel
theorem dX6_item_99 : decode cX6_item 99 = .ok (.getfield 7, 3) := by decide +kernel
theorem dX6_item_102 : decode cX6_item 102 = .ok (.iconst 2, 1) := by decide +kernel
theorem dX6_item_103 : decode cX6_item 103 = .ok (.iaload, 1) := by decide +kernel
theorem dX6_item_104 : decode cX6_item 104 = .ok (.invokevirtual 280, 3) := by decide +kernel
theorem dX6_item_107 : decode cX6_item 107 = .ok (.goto 30, 3) := by decide +kernel
theorem dX6_item_110 : decode cX6_item 110 = .ok (.aload_n 0, 1) := by decide +kernel
theorem dX6_item_111 : decode cX6_item 111 = .ok (.invokevirtual 240, 3) := by decide +kernel
theorem dX6_item_114 : decode cX6_item 114 = .ok (.ldc2_w 288, 3) := by decide +kernel
theorem dX6_item_117 : decode cX6_item 117 = .ok (.lcmp, 1) := by decide +kernel
theorem dX6_item_118 : decode cX6_item 118 = .ok (.ifCond .ne 14, 3) := by decide +kernel
theorem dX6_item_121 : decode cX6_item 121 = .ok (.aload_n 0, 1) := by decide +kernel
theorem dX6_item_122 : decode cX6_item 122 = .ok (.iconst 4, 1) := by decide +kernel
theorem dX6_item_123 : decode cX6_item 123 = .ok (.iconst 0, 1) := by decide +kernel
theorem dX6_item_124 : decode cX6_item 124 = .ok (.bipush 9, 2) := by decide +kernel
theorem dX6_item_126 : decode cX6_item 126 = .ok (.invokevirtual 280, 3) := by decide +kernel
theorem dX6_item_129 : decode cX6_item 129 = .ok (.goto 8, 3) := by decide +kernel
theorem dX6_item_132 : decode cX6_item 132 = .ok (.aload_n 0, 1) := by decide +kernel
theorem dX6_item_133 : decode cX6_item 133 = .ok (.iconst 0, 1) := by decide +kernel
theorem dX6_item_134 : decode cX6_item 134 = .ok (.invokevirtual 236, 3) := by decide +kernel
theorem dX6_item_137 : decode cX6_item 137 = .ok (.return_, 1) := by decide +kernel
theorem dX6_text_0 : decode cX6_text 0 = .ok (.aload_n 0, 1) := by decide +kernel
theorem dX6_text_1 : decode cX6_text 1 = .ok (.invokevirtual 179, 3) := by decide +kernel
theorem dX6_text_4 : decode cX6_text 4 = .ok (.aload_n 0, 1) := by decide +kernel
theorem dX6_text_5 : decode cX6_text 5 = .ok (.iconst 0, 1) := by decide +kernel
theorem dX6_text_6 : decode cX6_text 6 = .ok (.putfield 207, 3) := by decide +kernel
theorem dX6_text_9 : decode cX6_text 9 = .ok (.aload_n 0, 1) := by decide +kernel
theorem dX6_text_10 : decode cX6_text 10 = .ok (.iconst 0, 1) := by decide +kernel
theorem dX6_text_11 : decode cX6_text 11 = .ok (.putfield 222, 3) := by decide +kernel
theorem dX6_text_14 : decode cX6_text 14 = .ok (.aload_n 0, 1) := by decide +kernel
theorem dX6_text_15 : decode cX6_text 15 = .ok (.invokevirtual 226, 3) := by decide +kernel
theorem dX6_text_18 : decode cX6_text 18 = .ok (.iconst 1, 1) := by decide +kernel
theorem dX6_text_19 : decode cX6_text 19 = .ok (.istore_n 1, 1) := by decide +kernel
theorem dX6_text_20 : decode cX6_text 20 = .ok (.aload_n 0, 1) := by decide +kernel
theorem dX6_text_21 : decode cX6_text 21 = .ok (.invokevirtual 290, 3) := by decide +kernel
theorem dX6_text_24 : decode cX6_text 24 = .ok (.aload_n 0, 1) := by decide +kernel
theorem dX6_text_25 : decode cX6_text 25 = .ok (.getfield 222, 3) := by decide +kernel
theorem dX6_text_28 : decode cX6_text 28 = .ok (.ifCond .ne 46, 3) := by decide +kernel
theorem dX6_text_31 : decode cX6_text 31 = .ok (.aload_n 0, 1) := by decide +kernel
theorem dX6_text_32 : decode cX6_text 32 = .ok (.getfield 210, 3) := by decide +kernel
theorem dX6_text_35 : decode cX6_text 35 = .ok (.aload_n 0, 1) := by decide +kernel
theorem dX6_text_36 : decode cX6_text 36 = .ok (.getfield 196, 3) := by decide +kernel
theorem dX6_text_39 : decode cX6_text 39 = .ok (.if_icmp .ge 35, 3) := by decide +kernel
theorem dX6_text_42 : decode cX6_text 42 = .ok (.aload_n 0, 1) := by decide +kernel
theorem dX6_text_43 : decode cX6_text 43 = .ok (.aload_n 0, 1) := by decide +kernel
theorem dX6_text_44 : decode cX6_text 44 = .ok (.aload_n 0, 1) := by decide +kernel
theorem dX6_text_45 : decode cX6_text 45 = .ok (.getfield 210, 3) := by decide +kernel
theorem dX6_text_48 : decode cX6_text 48 = .ok (.invokevirtual 213, 3) := by decide +kernel
theorem dX6_text_51 : decode cX6_text 51 = .ok (.bipush 59, 2) := by decide +kernel
theorem dX6_text_53 : decode cX6_text 53 = .ok (.if_icmp .ne 7, 3) := by decide +kernel
theorem dX6_text_56 : decode cX6_text 56 = .ok (.iconst 1, 1) := by decide +kernel
theorem dX6_text_57 : decode cX6_text 57 = .ok (.goto 4, 3) := by decide +kernel
theorem dX6_text_60 : decode cX6_text 60 = .ok (.iconst 0, 1) := by decide +kernel
theorem dX6_text_61 : decode cX6_text 61 = .ok (.invokevirtual 236, 3) := by decide +kernel
theorem dX6_text_64 : decode cX6_text 64 = .ok (.aload_n 0, 1) := by decide +kernel
theorem dX6_text_65 : decode cX6_text 65 = .ok (.invokevirtual 290, 3) := by decide +kernel
theorem dX6_text_68 : decode cX6_text 68 = .ok (.iinc 1 1, 3) := by decide +kernel
theorem dX6_text_71 : decode cX6_text 71 = .ok (.goto (-47), 3) := by decide +kernel
theorem dX6_text_74 : decode cX6_text 74 = .ok (.aload_n 0, 1) := by decide +kernel
theorem dX6_text_75 : decode cX6_text 75 = .ok (.iconst 0, 1) := by decide +kernel
theorem dX6_text_76 : decode cX6_text 76 = .ok (.putfield 196, 3) := by decide +kernel
theorem dX6_text_79 : decode cX6_text 79 = .ok (.aload_n 0, 1) := by decide +kernel
theorem dX6_text_80 : decode cX6_text 80 = .ok (.getfield 222, 3) := by decide +kernel
theorem dX6_text_83 : decode cX6_text 83 = .ok (.ifCond .eq 14, 3) := by decide +kernel
theorem dX6_text_86 : decode cX6_text 86 = .ok (.aload_n 0, 1) := by decide +kernel
theorem dX6_text_87 : decode cX6_text 87 = .ok (.invokevirtual 182, 3) := by decide +kernel
theorem dX6_text_90 : decode cX6_text 90 = .ok (.iconst (-1), 1) := by decide +kernel
theorem dX6_text_91 : decode cX6_text 91 = .ok (.aload_n 0, 1) := by decide +kernel
theorem dX6_text_92 : decode cX6_text 92 = .ok (.getfield 210, 3) := by decide +kernel
theorem dX6_text_95 : decode cX6_text 95 = .ok (.isub, 1) := by decide +kernel
theorem dX6_text_96 : decode cX6_text 96 = .ok (.ireturn, 1) := by decide +kernel
theorem dX6_text_97 : decode cX6_text 97 = .ok (.iload_n 1, 1) := by decide +kernel
theorem dX6_text_98 : decode cX6_text 98 = .ok (.ireturn, 1) := by decide +kernel
theorem dX6_hold_0 : decode cX6_hold 0 = .ok (.iload_n 1, 1) := by decide +kernel
theorem dX6_hold_1 : decode cX6_hold 1 = .ok (.i2l, 1) := by decide +kernel
theorem dX6_hold_2 : decode cX6_hold 2 = .ok (.lconst 0, 1) := by decide +kernel
theorem dX6_hold_3 : decode cX6_hold 3 = .ok (.ldc2_w 109, 3) := by decide +kernel
theorem dX6_hold_6 : decode cX6_hold 6 = .ok (.invokestatic 58, 3) := by decide +kernel
theorem dX6_hold_9 : decode cX6_hold 9 = .ok (.ifCond .eq 16, 3) := by decide +kernel
theorem dX6_hold_12 : decode cX6_hold 12 = .ok (.iload_n 2, 1) := by decide +kernel
theorem dX6_hold_13 : decode cX6_hold 13 = .ok (.iconst (-1), 1) := by decide +kernel
theorem dX6_hold_14 : decode cX6_hold 14 = .ok (.if_icmp .eq 18, 3) := by decide +kernel
theorem dX6_hold_17 : decode cX6_hold 17 = .ok (.aload_n 0, 1) := by decide +kernel
theorem dX6_hold_18 : decode cX6_hold 18 = .ok (.iload_n 2, 1) := by decide +kernel
theorem dX6_hold_19 : decode cX6_hold 19 = .ok (.invokevirtual 99, 3) := by decide +kernel
theorem dX6_hold_22 : decode cX6_hold 22 = .ok (.ifCond .ne 10, 3) := by decide +kernel
theorem dX6_hold_25 : decode cX6_hold 25 = .ok (.aload_n 0, 1) := by decide +kernel
theorem dX6_hold_26 : decode cX6_hold 26 = .ok (.ldc 55, 2) := by decide +kernel
theorem dX6_hold_28 : decode cX6_hold 28 = .ok (.invokevirtual 81, 3) := by decide +kernel
theorem dX6_hold_31 : decode cX6_hold 31 = .ok (.ireturn, 1) := by decide +kernel
theorem dX6_hold_32 : decode cX6_hold 32 = .ok (.aload_n 0, 1) := by decide +kernel
theorem dX6_hold_33 : decode cX6_hold 33 = .ok (.getfield 7, 3) := by decide +kernel
theorem dX6_hold_36 : decode cX6_hold 36 = .ok (.bipush 60, 2) := by decide +kernel
theorem dX6_hold_38 : decode cX6_hold 38 = .ok (.iload_n 1, 1) := by decide +kernel
theorem dX6_hold_39 : decode cX6_hold 39 = .ok (.iadd, 1) := by decide +kernel
theorem dX6_hold_40 : decode cX6_hold 40 = .ok (.iload_n 2, 1) := by decide +kernel
theorem dX6_hold_41 : decode cX6_hold 41 = .ok (.iastore, 1) := by decide +kernel
theorem dX6_hold_42 : decode cX6_hold 42 = .ok (.iconst 1, 1) := by decide +kernel
theorem dX6_hold_43 : decode cX6_hold 43 = .ok (.ireturn, 1) := by decide +kernel
theorem dX6_as_0 : decode cX6_as 0 = .ok (.iload_n 1, 1) := by decide +kernel
theorem dX6_as_1 : decode cX6_as 1 = .ok (.i2l, 1) := by decide +kernel
theorem dX6_as_2 : decode cX6_as 2 = .ok (.lconst 0, 1) := by decide +kernel
theorem dX6_as_3 : decode cX6_as 3 = .ok (.ldc2_w 109, 3) := by decide +kernel
theorem dX6_as_6 : decode cX6_as 6 = .ok (.invokestatic 58, 3) := by decide +kernel
theorem dX6_as_9 : decode cX6_as 9 = .ok (.ifCond .eq 15, 3) := by decide +kernel
theorem dX6_as_12 : decode cX6_as 12 = .ok (.iload_n 2, 1) := by decide +kernel
theorem dX6_as_13 : decode cX6_as 13 = .ok (.i2l, 1) := by decide +kernel
theorem dX6_as_14 : decode cX6_as 14 = .ok (.lconst 0, 1) := by decide +kernel
theorem dX6_as_15 : decode cX6_as 15 = .ok (.ldc2_w 67, 3) := by decide +kernel
theorem dX6_as_18 : decode cX6_as 18 = .ok (.invokestatic 58, 3) := by decide +kernel
theorem dX6_as_21 : decode cX6_as 21 = .ok (.ifCond .ne 10, 3) := by decide +kernel
theorem dX6_as_24 : decode cX6_as 24 = .ok (.aload_n 0, 1) := by decide +kernel
theorem dX6_as_25 : decode cX6_as 25 = .ok (.ldc 55, 2) := by decide +kernel
theorem dX6_as_27 : decode cX6_as 27 = .ok (.invokevirtual 81, 3) := by decide +kernel
theorem dX6_as_30 : decode cX6_as 30 = .ok (.ireturn, 1) := by decide +kernel
theorem dX6_as_31 : decode cX6_as 31 = .ok (.aload_n 0, 1) := by decide +kernel
theorem dX6_as_32 : decode cX6_as 32 = .ok (.getfield 7, 3) := by decide +kernel
theorem dX6_as_35 : decode cX6_as 35 = .ok (.bipush 60, 2) := by decide +kernel
theorem dX6_as_37 : decode cX6_as 37 = .ok (.iload_n 1, 1) := by decide +kernel
theorem dX6_as_38 : decode cX6_as 38 = .ok (.iadd, 1) := by decide +kernel
theorem dX6_as_39 : decode cX6_as 39 = .ok (.iaload, 1) := by decide +kernel
theorem dX6_as_40 : decode cX6_as 40 = .ok (.istore_n 3, 1) := by decide +kernel
theorem dX6_as_41 : decode cX6_as 41 = .ok (.iload_n 3, 1) := by decide +kernel
theorem dX6_as_42 : decode cX6_as 42 = .ok (.ifCond .ge 11, 3) := by decide +kernel
theorem dX6_as_45 : decode cX6_as 45 = .ok (.aload_n 0, 1) := by decide +kernel
theorem dX6_as_46 : decode cX6_as 46 = .ok (.ldc_w 293, 3) := by decide +kernel
theorem dX6_as_49 : decode cX6_as 49 = .ok (.invokevirtual 81, 3) := by decide +kernel
theorem dX6_as_52 : decode cX6_as 52 = .ok (.ireturn, 1) := by decide +kernel
theorem dX6_as_53 : decode cX6_as 53 = .ok (.aload_n 0, 1) := by decide +kernel
theorem dX6_as_54 : decode cX6_as 54 = .ok (.iload_n 3, 1) := by decide +kernel
theorem dX6_as_55 : decode cX6_as 55 = .ok (.iconst 0, 1) := by decide +kernel
theorem dX6_as_56 : decode cX6_as 56 = .ok (.invokevirtual 90, 3) := by decide +kernel
theorem dX6_as_59 : decode cX6_as 59 = .ok (.istore 4, 2) := by decide +kernel
theorem dX6_as_61 : decode cX6_as 61 = .ok (.iload_n 2, 1) := by decide +kernel
theorem dX6_as_62 : decode cX6_as 62 = .ok (.ifCond .eq 32, 3) := by decide +kernel
theorem dX6_as_65 : decode cX6_as 65 = .ok (.iload 4, 2) := by decide +kernel
theorem dX6_as_67 : decode cX6_as 67 = .ok (.iload_n 2, 1) := by decide +kernel
theorem dX6_as_68 : decode cX6_as 68 = .ok (.if_icmp .eq 26, 3) := by decide +kernel
theorem dX6_as_71 : decode cX6_as 71 = .ok (.iload_n 2, 1) := by decide +kernel
theorem dX6_as_72 : decode cX6_as 72 = .ok (.iconst 1, 1) := by decide +kernel
theorem dX6_as_73 : decode cX6_as 73 = .ok (.if_icmp .ne 9, 3) := by decide +kernel
theorem dX6_as_76 : decode cX6_as 76 = .ok (.iload 4, 2) := by decide +kernel
theorem dX6_as_78 : decode cX6_as 78 = .ok (.iconst 4, 1) := by decide +kernel
theorem dX6_as_79 : decode cX6_as 79 = .ok (.if_icmp .eq 15, 3) := by decide +kernel
theorem dX6_as_82 : decode cX6_as 82 = .ok (.iload_n 2, 1) := by decide +kernel
theorem dX6_as_83 : decode cX6_as 83 = .ok (.iconst 3, 1) := by decide +kernel
theorem dX6_as_84 : decode cX6_as 84 = .ok (.if_icmp .ne 14, 3) := by decide +kernel
theorem dX6_as_87 : decode cX6_as 87 = .ok (.iload 4, 2) := by decide +kernel
theorem dX6_as_89 : decode cX6_as 89 = .ok (.bipush 6, 2) := by decide +kernel
theorem dX6_as_91 : decode cX6_as 91 = .ok (.if_icmp .ne 7, 3) := by decide +kernel
theorem dX6_as_94 : decode cX6_as 94 = .ok (.iconst 1, 1) := by decide +kernel
theorem dX6_as_95 : decode cX6_as 95 = .ok (.goto 4, 3) := by decide +kernel
theorem dX6_as_98 : decode cX6_as 98 = .ok (.iconst 0, 1) := by decide +kernel
theorem dX6_as_99 : decode cX6_as 99 = .ok (.istore 5, 2) := by decide +kernel
theorem dX6_as_101 : decode cX6_as 101 = .ok (.iload 5, 2) := by decide +kernel
theorem dX6_as_103 : decode cX6_as 103 = .ok (.ifCond .eq 7, 3) := by decide +kernel
theorem dX6_as_106 : decode cX6_as 106 = .ok (.iload_n 3, 1) := by decide +kernel
theorem dX6_as_107 : decode cX6_as 107 = .ok (.goto 10, 3) := by decide +kernel
theorem dX6_as_110 : decode cX6_as 110 = .ok (.aload_n 0, 1) := by decide +kernel
theorem dX6_as_111 : decode cX6_as 111 = .ok (.ldc_w 294, 3) := by decide +kernel
theorem dX6_as_114 : decode cX6_as 114 = .ok (.invokevirtual 81, 3) := by decide +kernel
theorem dX6_as_117 : decode cX6_as 117 = .ok (.ireturn, 1) := by decide +kernel
theorem dX6_isOne_0 : decode cX6_isOne 0 = .ok (.iload_n 0, 1) := by decide +kernel
theorem dX6_isOne_1 : decode cX6_isOne 1 = .ok (.i2l, 1) := by decide +kernel
theorem dX6_isOne_2 : decode cX6_isOne 2 = .ok (.lconst 0, 1) := by decide +kernel
theorem dX6_isOne_3 : decode cX6_isOne 3 = .ok (.ldc2_w 295, 3) := by decide +kernel
theorem dX6_isOne_6 : decode cX6_isOne 6 = .ok (.invokestatic 58, 3) := by decide +kernel
theorem dX6_isOne_9 : decode cX6_isOne 9 = .ok (.ireturn, 1) := by decide +kernel
theorem dX6_sheet_0 : decode cX6_sheet 0 = .ok (.iload_n 1, 1) := by decide +kernel
theorem dX6_sheet_1 : decode cX6_sheet 1 = .ok (.invokestatic 297, 3) := by decide +kernel
theorem dX6_sheet_4 : decode cX6_sheet 4 = .ok (.ifCond .eq 25, 3) := by decide +kernel
theorem dX6_sheet_7 : decode cX6_sheet 7 = .ok (.iload_n 2, 1) := by decide +kernel
theorem dX6_sheet_8 : decode cX6_sheet 8 = .ok (.ifCond .eq 28, 3) := by decide +kernel
theorem dX6_sheet_11 : decode cX6_sheet 11 = .ok (.iload_n 2, 1) := by decide +kernel
theorem dX6_sheet_12 : decode cX6_sheet 12 = .ok (.bipush 8, 2) := by decide +kernel
theorem dX6_sheet_14 : decode cX6_sheet 14 = .ok (.if_icmp .eq 22, 3) := by decide +kernel
theorem dX6_sheet_17 : decode cX6_sheet 17 = .ok (.iload_n 2, 1) := by decide +kernel
theorem dX6_sheet_18 : decode cX6_sheet 18 = .ok (.bipush 16, 2) := by decide +kernel
theorem dX6_sheet_20 : decode cX6_sheet 20 = .ok (.if_icmp .eq 16, 3) := by decide +kernel
theorem dX6_sheet_23 : decode cX6_sheet 23 = .ok (.iload_n 2, 1) := by decide +kernel
theorem dX6_sheet_24 : decode cX6_sheet 24 = .ok (.bipush 32, 2) := by decide +kernel
theorem dX6_sheet_26 : decode cX6_sheet 26 = .ok (.if_icmp .eq 10, 3) := by decide +kernel
theorem dX6_sheet_29 : decode cX6_sheet 29 = .ok (.aload_n 0, 1) := by decide +kernel
theorem dX6_sheet_30 : decode cX6_sheet 30 = .ok (.ldc 55, 2) := by decide +kernel
theorem dX6_sheet_32 : decode cX6_sheet 32 = .ok (.invokevirtual 81, 3) := by decide +kernel
theorem dX6_sheet_35 : decode cX6_sheet 35 = .ok (.ireturn, 1) := by decide +kernel
theorem dX6_sheet_36 : decode cX6_sheet 36 = .ok (.iload_n 3, 1) := by decide +kernel
theorem dX6_sheet_37 : decode cX6_sheet 37 = .ok (.ifCond .ge 11, 3) := by decide +kernel
theorem dX6_sheet_40 : decode cX6_sheet 40 = .ok (.aload_n 0, 1) := by decide +kernel
theorem dX6_sheet_41 : decode cX6_sheet 41 = .ok (.ldc_w 300, 3) := by decide +kernel
theorem dX6_sheet_44 : decode cX6_sheet 44 = .ok (.invokevirtual 81, 3) := by decide +kernel
theorem dX6_sheet_47 : decode cX6_sheet 47 = .ok (.ireturn, 1) := by decide +kernel
theorem dX6_sheet_48 : decode cX6_sheet 48 = .ok (.iload_n 3, 1) := by decide +kernel
theorem dX6_sheet_49 : decode cX6_sheet 49 = .ok (.bipush 40, 2) := by decide +kernel
theorem dX6_sheet_51 : decode cX6_sheet 51 = .ok (.if_icmp .le 10, 3) := by decide +kernel
theorem dX6_sheet_54 : decode cX6_sheet 54 = .ok (.aload_n 0, 1) := by decide +kernel
theorem dX6_sheet_55 : decode cX6_sheet 55 = .ok (.ldc 55, 2) := by decide +kernel
theorem dX6_sheet_57 : decode cX6_sheet 57 = .ok (.invokevirtual 81, 3) := by decide +kernel
theorem dX6_sheet_60 : decode cX6_sheet 60 = .ok (.ireturn, 1) := by decide +kernel
theorem dX6_sheet_61 : decode cX6_sheet 61 = .ok (.aload_n 0, 1) := by decide +kernel
theorem dX6_sheet_62 : decode cX6_sheet 62 = .ok (.getfield 43, 3) := by decide +kernel
theorem dX6_sheet_65 : decode cX6_sheet 65 = .ok (.iload_n 1, 1) := by decide +kernel
theorem dX6_sheet_66 : decode cX6_sheet 66 = .ok (.iload_n 2, 1) := by decide +kernel
theorem dX6_sheet_67 : decode cX6_sheet 67 = .ok (.iastore, 1) := by decide +kernel
theorem dX6_sheet_68 : decode cX6_sheet 68 = .ok (.aload_n 0, 1) := by decide +kernel
theorem dX6_sheet_69 : decode cX6_sheet 69 = .ok (.getfield 46, 3) := by decide +kernel
theorem dX6_sheet_72 : decode cX6_sheet 72 = .ok (.iload_n 1, 1) := by decide +kernel
theorem dX6_sheet_73 : decode cX6_sheet 73 = .ok (.iload_n 2, 1) := by decide +kernel
theorem dX6_sheet_74 : decode cX6_sheet 74 = .ok (.ifCond .ne 7, 3) := by decide +kernel
theorem dX6_sheet_77 : decode cX6_sheet 77 = .ok (.iconst 0, 1) := by decide +kernel
theorem dX6_sheet_78 : decode cX6_sheet 78 = .ok (.goto 4, 3) := by decide +kernel
theorem dX6_sheet_81 : decode cX6_sheet 81 = .ok (.iload_n 3, 1) := by decide +kernel
theorem dX6_sheet_82 : decode cX6_sheet 82 = .ok (.iastore, 1) := by decide +kernel
theorem dX6_sheet_83 : decode cX6_sheet 83 = .ok (.iconst 0, 1) := by decide +kernel
theorem dX6_sheet_84 : decode cX6_sheet 84 = .ok (.istore 4, 2) := by decide +kernel
theorem dX6_sheet_86 : decode cX6_sheet 86 = .ok (.iload 4, 2) := by decide +kernel
theorem dX6_sheet_88 : decode cX6_sheet 88 = .ok (.bipush 40, 2) := by decide +kernel
theorem dX6_sheet_90 : decode cX6_sheet 90 = .ok (.if_icmp .ge 22, 3) := by decide +kernel
theorem dX6_sheet_93 : decode cX6_sheet 93 = .ok (.aload_n 0, 1) := by decide +kernel
theorem dX6_sheet_94 : decode cX6_sheet 94 = .ok (.getfield 49, 3) := by decide +kernel
theorem dX6_sheet_97 : decode cX6_sheet 97 = .ok (.bipush 40, 2) := by decide +kernel
theorem dX6_sheet_99 : decode cX6_sheet 99 = .ok (.iload_n 1, 1) := by decide +kernel
theorem dX6_sheet_100 : decode cX6_sheet 100 = .ok (.imul, 1) := by decide +kernel
theorem dX6_sheet_101 : decode cX6_sheet 101 = .ok (.iload 4, 2) := by decide +kernel
theorem dX6_sheet_103 : decode cX6_sheet 103 = .ok (.iadd, 1) := by decide +kernel
theorem dX6_sheet_104 : decode cX6_sheet 104 = .ok (.iconst 0, 1) := by decide +kernel
theorem dX6_sheet_105 : decode cX6_sheet 105 = .ok (.iastore, 1) := by decide +kernel
theorem dX6_sheet_106 : decode cX6_sheet 106 = .ok (.iinc 4 1, 3) := by decide +kernel
theorem dX6_sheet_109 : decode cX6_sheet 109 = .ok (.goto (-23), 3) := by decide +kernel
theorem dX6_sheet_112 : decode cX6_sheet 112 = .ok (.aload_n 0, 1) := by decide +kernel
theorem dX6_sheet_113 : decode cX6_sheet 113 = .ok (.getfield 46, 3) := by decide +kernel
theorem dX6_sheet_116 : decode cX6_sheet 116 = .ok (.iload_n 1, 1) := by decide +kernel
theorem dX6_sheet_117 : decode cX6_sheet 117 = .ok (.iaload, 1) := by decide +kernel
theorem dX6_sheet_118 : decode cX6_sheet 118 = .ok (.ireturn, 1) := by decide +kernel
theorem dX6_narrowed_0 : decode cX6_narrowed 0 = .ok (.iload_n 0, 1) := by decide +kernel
theorem dX6_narrowed_1 : decode cX6_narrowed 1 = .ok (.bipush 8, 2) := by decide +kernel
theorem dX6_narrowed_3 : decode cX6_narrowed 3 = .ok (.if_icmp .ne 8, 3) := by decide +kernel
theorem dX6_narrowed_6 : decode cX6_narrowed 6 = .ok (.iload_n 1, 1) := by decide +kernel
theorem dX6_narrowed_7 : decode cX6_narrowed 7 = .ok (.i2b, 1) := by decide +kernel
theorem dX6_narrowed_8 : decode cX6_narrowed 8 = .ok (.goto 15, 3) := by decide +kernel
theorem dX6_narrowed_11 : decode cX6_narrowed 11 = .ok (.iload_n 0, 1) := by decide +kernel
theorem dX6_narrowed_12 : decode cX6_narrowed 12 = .ok (.bipush 16, 2) := by decide +kernel
theorem dX6_narrowed_14 : decode cX6_narrowed 14 = .ok (.if_icmp .ne 8, 3) := by decide +kernel
theorem dX6_narrowed_17 : decode cX6_narrowed 17 = .ok (.iload_n 1, 1) := by decide +kernel
theorem dX6_narrowed_18 : decode cX6_narrowed 18 = .ok (.i2s, 1) := by decide +kernel
theorem dX6_narrowed_19 : decode cX6_narrowed 19 = .ok (.goto 4, 3) := by decide +kernel
theorem dX6_narrowed_22 : decode cX6_narrowed 22 = .ok (.iload_n 1, 1) := by decide +kernel
theorem dX6_narrowed_23 : decode cX6_narrowed 23 = .ok (.ireturn, 1) := by decide +kernel
theorem dX6_wrong_0 : decode cX6_wrong 0 = .ok (.iload_n 1, 1) := by decide +kernel
theorem dX6_wrong_1 : decode cX6_wrong 1 = .ok (.invokestatic 297, 3) := by decide +kernel
theorem dX6_wrong_4 : decode cX6_wrong 4 = .ok (.ifCond .ne 8, 3) := by decide +kernel
theorem dX6_wrong_7 : decode cX6_wrong 7 = .ok (.ldc 55, 2) := by decide +kernel
theorem dX6_wrong_9 : decode cX6_wrong 9 = .ok (.goto 19, 3) := by decide +kernel
theorem dX6_wrong_12 : decode cX6_wrong 12 = .ok (.aload_n 0, 1) := by decide +kernel
theorem dX6_wrong_13 : decode cX6_wrong 13 = .ok (.getfield 43, 3) := by decide +kernel
theorem dX6_wrong_16 : decode cX6_wrong 16 = .ok (.iload_n 1, 1) := by decide +kernel
theorem dX6_wrong_17 : decode cX6_wrong 17 = .ok (.iaload, 1) := by decide +kernel
theorem dX6_wrong_18 : decode cX6_wrong 18 = .ok (.ifCond .ne 9, 3) := by decide +kernel
theorem dX6_wrong_21 : decode cX6_wrong 21 = .ok (.ldc_w 293, 3) := by decide +kernel
theorem dX6_wrong_24 : decode cX6_wrong 24 = .ok (.goto 4, 3) := by decide +kernel
theorem dX6_wrong_27 : decode cX6_wrong 27 = .ok (.iconst 0, 1) := by decide +kernel
theorem dX6_wrong_28 : decode cX6_wrong 28 = .ok (.ireturn, 1) := by decide +kernel
theorem dX6_write_0 : decode cX6_write 0 = .ok (.aload_n 0, 1) := by decide +kernel
theorem dX6_write_1 : decode cX6_write 1 = .ok (.iload_n 1, 1) := by decide +kernel
theorem dX6_write_2 : decode cX6_write 2 = .ok (.invokevirtual 301, 3) := by decide +kernel
theorem dX6_write_5 : decode cX6_write 5 = .ok (.istore 4, 2) := by decide +kernel
theorem dX6_write_7 : decode cX6_write 7 = .ok (.iload 4, 2) := by decide +kernel
theorem dX6_write_9 : decode cX6_write 9 = .ok (.ifCond .eq 10, 3) := by decide +kernel
theorem dX6_write_12 : decode cX6_write 12 = .ok (.aload_n 0, 1) := by decide +kernel
theorem dX6_write_13 : decode cX6_write 13 = .ok (.iload 4, 2) := by decide +kernel
theorem dX6_write_15 : decode cX6_write 15 = .ok (.invokevirtual 81, 3) := by decide +kernel
theorem dX6_write_18 : decode cX6_write 18 = .ok (.ireturn, 1) := by decide +kernel
theorem dX6_write_19 : decode cX6_write 19 = .ok (.iload_n 2, 1) := by decide +kernel
theorem dX6_write_20 : decode cX6_write 20 = .ok (.i2l, 1) := by decide +kernel
theorem dX6_write_21 : decode cX6_write 21 = .ok (.lconst 0, 1) := by decide +kernel
theorem dX6_write_22 : decode cX6_write 22 = .ok (.aload_n 0, 1) := by decide +kernel
theorem dX6_write_23 : decode cX6_write 23 = .ok (.getfield 46, 3) := by decide +kernel
theorem dX6_write_26 : decode cX6_write 26 = .ok (.iload_n 1, 1) := by decide +kernel
theorem dX6_write_27 : decode cX6_write 27 = .ok (.iaload, 1) := by decide +kernel
theorem dX6_write_28 : decode cX6_write 28 = .ok (.iconst 1, 1) := by decide +kernel
theorem dX6_write_29 : decode cX6_write 29 = .ok (.isub, 1) := by decide +kernel
theorem dX6_write_30 : decode cX6_write 30 = .ok (.i2l, 1) := by decide +kernel
theorem dX6_write_31 : decode cX6_write 31 = .ok (.invokestatic 58, 3) := by decide +kernel
theorem dX6_write_34 : decode cX6_write 34 = .ok (.ifCond .ne 10, 3) := by decide +kernel
theorem dX6_write_37 : decode cX6_write 37 = .ok (.aload_n 0, 1) := by decide +kernel
theorem dX6_write_38 : decode cX6_write 38 = .ok (.ldc 55, 2) := by decide +kernel
theorem dX6_write_40 : decode cX6_write 40 = .ok (.invokevirtual 81, 3) := by decide +kernel
theorem dX6_write_43 : decode cX6_write 43 = .ok (.ireturn, 1) := by decide +kernel
theorem dX6_write_44 : decode cX6_write 44 = .ok (.aload_n 0, 1) := by decide +kernel
theorem dX6_write_45 : decode cX6_write 45 = .ok (.getfield 49, 3) := by decide +kernel
theorem dX6_write_48 : decode cX6_write 48 = .ok (.bipush 40, 2) := by decide +kernel
theorem dX6_write_50 : decode cX6_write 50 = .ok (.iload_n 1, 1) := by decide +kernel
theorem dX6_write_51 : decode cX6_write 51 = .ok (.imul, 1) := by decide +kernel
theorem dX6_write_52 : decode cX6_write 52 = .ok (.iload_n 2, 1) := by decide +kernel
theorem dX6_write_53 : decode cX6_write 53 = .ok (.iadd, 1) := by decide +kernel
theorem dX6_write_54 : decode cX6_write 54 = .ok (.aload_n 0, 1) := by decide +kernel
theorem dX6_write_55 : decode cX6_write 55 = .ok (.getfield 43, 3) := by decide +kernel
theorem dX6_write_58 : decode cX6_write 58 = .ok (.iload_n 1, 1) := by decide +kernel
theorem dX6_write_59 : decode cX6_write 59 = .ok (.iaload, 1) := by decide +kernel
theorem dX6_write_60 : decode cX6_write 60 = .ok (.iload_n 3, 1) := by decide +kernel
theorem dX6_write_61 : decode cX6_write 61 = .ok (.invokestatic 304, 3) := by decide +kernel
theorem dX6_write_64 : decode cX6_write 64 = .ok (.iastore, 1) := by decide +kernel
theorem dX6_write_65 : decode cX6_write 65 = .ok (.iconst 1, 1) := by decide +kernel
theorem dX6_write_66 : decode cX6_write 66 = .ok (.ireturn, 1) := by decide +kernel
theorem dX6_copy_0 : decode cX6_copy 0 = .ok (.iload_n 1, 1) := by decide +kernel
theorem dX6_copy_1 : decode cX6_copy 1 = .ok (.invokestatic 297, 3) := by decide +kernel
theorem dX6_copy_4 : decode cX6_copy 4 = .ok (.ifCond .eq 10, 3) := by decide +kernel
theorem dX6_copy_7 : decode cX6_copy 7 = .ok (.iload_n 3, 1) := by decide +kernel
theorem dX6_copy_8 : decode cX6_copy 8 = .ok (.invokestatic 297, 3) := by decide +kernel
theorem dX6_copy_11 : decode cX6_copy 11 = .ok (.ifCond .ne 10, 3) := by decide +kernel
theorem dX6_copy_14 : decode cX6_copy 14 = .ok (.aload_n 0, 1) := by decide +kernel
theorem dX6_copy_15 : decode cX6_copy 15 = .ok (.ldc 55, 2) := by decide +kernel
theorem dX6_copy_17 : decode cX6_copy 17 = .ok (.invokevirtual 81, 3) := by decide +kernel
theorem dX6_copy_20 : decode cX6_copy 20 = .ok (.ireturn, 1) := by decide +kernel
theorem dX6_copy_21 : decode cX6_copy 21 = .ok (.aload_n 0, 1) := by decide +kernel
theorem dX6_copy_22 : decode cX6_copy 22 = .ok (.getfield 43, 3) := by decide +kernel
theorem dX6_copy_25 : decode cX6_copy 25 = .ok (.iload_n 1, 1) := by decide +kernel
theorem dX6_copy_26 : decode cX6_copy 26 = .ok (.iaload, 1) := by decide +kernel
theorem dX6_copy_27 : decode cX6_copy 27 = .ok (.ifCond .eq 12, 3) := by decide +kernel
theorem dX6_copy_30 : decode cX6_copy 30 = .ok (.aload_n 0, 1) := by decide +kernel
theorem dX6_copy_31 : decode cX6_copy 31 = .ok (.getfield 43, 3) := by decide +kernel
theorem dX6_copy_34 : decode cX6_copy 34 = .ok (.iload_n 3, 1) := by decide +kernel
theorem dX6_copy_35 : decode cX6_copy 35 = .ok (.iaload, 1) := by decide +kernel
theorem dX6_copy_36 : decode cX6_copy 36 = .ok (.ifCond .ne 11, 3) := by decide +kernel
theorem dX6_copy_39 : decode cX6_copy 39 = .ok (.aload_n 0, 1) := by decide +kernel
theorem dX6_copy_40 : decode cX6_copy 40 = .ok (.ldc_w 293, 3) := by decide +kernel
theorem dX6_copy_43 : decode cX6_copy 43 = .ok (.invokevirtual 81, 3) := by decide +kernel
theorem dX6_copy_46 : decode cX6_copy 46 = .ok (.ireturn, 1) := by decide +kernel
theorem dX6_copy_47 : decode cX6_copy 47 = .ok (.aload_n 0, 1) := by decide +kernel
theorem dX6_copy_48 : decode cX6_copy 48 = .ok (.getfield 43, 3) := by decide +kernel
theorem dX6_copy_51 : decode cX6_copy 51 = .ok (.iload_n 1, 1) := by decide +kernel
theorem dX6_copy_52 : decode cX6_copy 52 = .ok (.iaload, 1) := by decide +kernel
theorem dX6_copy_53 : decode cX6_copy 53 = .ok (.aload_n 0, 1) := by decide +kernel
theorem dX6_copy_54 : decode cX6_copy 54 = .ok (.getfield 43, 3) := by decide +kernel
theorem dX6_copy_57 : decode cX6_copy 57 = .ok (.iload_n 3, 1) := by decide +kernel
theorem dX6_copy_58 : decode cX6_copy 58 = .ok (.iaload, 1) := by decide +kernel
theorem dX6_copy_59 : decode cX6_copy 59 = .ok (.if_icmp .eq 11, 3) := by decide +kernel
theorem dX6_copy_62 : decode cX6_copy 62 = .ok (.aload_n 0, 1) := by decide +kernel
theorem dX6_copy_63 : decode cX6_copy 63 = .ok (.ldc_w 294, 3) := by decide +kernel
theorem dX6_copy_66 : decode cX6_copy 66 = .ok (.invokevirtual 81, 3) := by decide +kernel
theorem dX6_copy_69 : decode cX6_copy 69 = .ok (.ireturn, 1) := by decide +kernel
theorem dX6_copy_70 : decode cX6_copy 70 = .ok (.iload_n 2, 1) := by decide +kernel
theorem dX6_copy_71 : decode cX6_copy 71 = .ok (.ifCond .lt 40, 3) := by decide +kernel
theorem dX6_copy_74 : decode cX6_copy 74 = .ok (.iload 4, 2) := by decide +kernel
theorem dX6_copy_76 : decode cX6_copy 76 = .ok (.ifCond .lt 35, 3) := by decide +kernel
theorem dX6_copy_79 : decode cX6_copy 79 = .ok (.iload 5, 2) := by decide +kernel
theorem dX6_copy_81 : decode cX6_copy 81 = .ok (.ifCond .lt 30, 3) := by decide +kernel
theorem dX6_copy_84 : decode cX6_copy 84 = .ok (.iload 5, 2) := by decide +kernel
theorem dX6_copy_86 : decode cX6_copy 86 = .ok (.aload_n 0, 1) := by decide +kernel
theorem dX6_copy_87 : decode cX6_copy 87 = .ok (.getfield 46, 3) := by decide +kernel
theorem dX6_copy_90 : decode cX6_copy 90 = .ok (.iload_n 1, 1) := by decide +kernel
theorem dX6_copy_91 : decode cX6_copy 91 = .ok (.iaload, 1) := by decide +kernel
theorem dX6_copy_92 : decode cX6_copy 92 = .ok (.iload_n 2, 1) := by decide +kernel
theorem dX6_copy_93 : decode cX6_copy 93 = .ok (.isub, 1) := by decide +kernel
theorem dX6_copy_94 : decode cX6_copy 94 = .ok (.if_icmp .gt 17, 3) := by decide +kernel
theorem dX6_copy_97 : decode cX6_copy 97 = .ok (.iload 5, 2) := by decide +kernel
theorem dX6_copy_99 : decode cX6_copy 99 = .ok (.aload_n 0, 1) := by decide +kernel
theorem dX6_copy_100 : decode cX6_copy 100 = .ok (.getfield 46, 3) := by decide +kernel
theorem dX6_copy_103 : decode cX6_copy 103 = .ok (.iload_n 3, 1) := by decide +kernel
theorem dX6_copy_104 : decode cX6_copy 104 = .ok (.iaload, 1) := by decide +kernel
theorem dX6_copy_105 : decode cX6_copy 105 = .ok (.iload 4, 2) := by decide +kernel
theorem dX6_copy_107 : decode cX6_copy 107 = .ok (.isub, 1) := by decide +kernel
theorem dX6_copy_108 : decode cX6_copy 108 = .ok (.if_icmp .le 10, 3) := by decide +kernel
theorem dX6_copy_111 : decode cX6_copy 111 = .ok (.aload_n 0, 1) := by decide +kernel
theorem dX6_copy_112 : decode cX6_copy 112 = .ok (.ldc 55, 2) := by decide +kernel
theorem dX6_copy_114 : decode cX6_copy 114 = .ok (.invokevirtual 81, 3) := by decide +kernel
theorem dX6_copy_117 : decode cX6_copy 117 = .ok (.ireturn, 1) := by decide +kernel
theorem dX6_copy_118 : decode cX6_copy 118 = .ok (.iconst 0, 1) := by decide +kernel
theorem dX6_copy_119 : decode cX6_copy 119 = .ok (.istore 6, 2) := by decide +kernel
theorem dX6_copy_121 : decode cX6_copy 121 = .ok (.iload 6, 2) := by decide +kernel
theorem dX6_copy_123 : decode cX6_copy 123 = .ok (.iload 5, 2) := by decide +kernel
theorem dX6_copy_125 : decode cX6_copy 125 = .ok (.if_icmp .ge 30, 3) := by decide +kernel
theorem dX6_copy_128 : decode cX6_copy 128 = .ok (.aload_n 0, 1) := by decide +kernel
theorem dX6_copy_129 : decode cX6_copy 129 = .ok (.getfield 52, 3) := by decide +kernel
theorem dX6_copy_132 : decode cX6_copy 132 = .ok (.iload 6, 2) := by decide +kernel
theorem dX6_copy_134 : decode cX6_copy 134 = .ok (.aload_n 0, 1) := by decide +kernel
theorem dX6_copy_135 : decode cX6_copy 135 = .ok (.getfield 49, 3) := by decide +kernel
theorem dX6_copy_138 : decode cX6_copy 138 = .ok (.bipush 40, 2) := by decide +kernel
theorem dX6_copy_140 : decode cX6_copy 140 = .ok (.iload_n 1, 1) := by decide +kernel
theorem dX6_copy_141 : decode cX6_copy 141 = .ok (.imul, 1) := by decide +kernel
theorem dX6_copy_142 : decode cX6_copy 142 = .ok (.iload_n 2, 1) := by decide +kernel
theorem dX6_copy_143 : decode cX6_copy 143 = .ok (.iadd, 1) := by decide +kernel
theorem dX6_copy_144 : decode cX6_copy 144 = .ok (.iload 6, 2) := by decide +kernel
theorem dX6_copy_146 : decode cX6_copy 146 = .ok (.iadd, 1) := by decide +kernel
theorem dX6_copy_147 : decode cX6_copy 147 = .ok (.iaload, 1) := by decide +kernel
theorem dX6_copy_148 : decode cX6_copy 148 = .ok (.iastore, 1) := by decide +kernel
theorem dX6_copy_149 : decode cX6_copy 149 = .ok (.iinc 6 1, 3) := by decide +kernel
theorem dX6_copy_152 : decode cX6_copy 152 = .ok (.goto (-31), 3) := by decide +kernel
theorem dX6_copy_155 : decode cX6_copy 155 = .ok (.iconst 0, 1) := by decide +kernel
theorem dX6_copy_156 : decode cX6_copy 156 = .ok (.istore 6, 2) := by decide +kernel
theorem dX6_copy_158 : decode cX6_copy 158 = .ok (.iload 6, 2) := by decide +kernel
theorem dX6_copy_160 : decode cX6_copy 160 = .ok (.iload 5, 2) := by decide +kernel
theorem dX6_copy_162 : decode cX6_copy 162 = .ok (.if_icmp .ge 31, 3) := by decide +kernel
theorem dX6_copy_165 : decode cX6_copy 165 = .ok (.aload_n 0, 1) := by decide +kernel
theorem dX6_copy_166 : decode cX6_copy 166 = .ok (.getfield 49, 3) := by decide +kernel
theorem dX6_copy_169 : decode cX6_copy 169 = .ok (.bipush 40, 2) := by decide +kernel
theorem dX6_copy_171 : decode cX6_copy 171 = .ok (.iload_n 3, 1) := by decide +kernel
theorem dX6_copy_172 : decode cX6_copy 172 = .ok (.imul, 1) := by decide +kernel
theorem dX6_copy_173 : decode cX6_copy 173 = .ok (.iload 4, 2) := by decide +kernel
theorem dX6_copy_175 : decode cX6_copy 175 = .ok (.iadd, 1) := by decide +kernel
theorem dX6_copy_176 : decode cX6_copy 176 = .ok (.iload 6, 2) := by decide +kernel
theorem dX6_copy_178 : decode cX6_copy 178 = .ok (.iadd, 1) := by decide +kernel
theorem dX6_copy_179 : decode cX6_copy 179 = .ok (.aload_n 0, 1) := by decide +kernel
theorem dX6_copy_180 : decode cX6_copy 180 = .ok (.getfield 52, 3) := by decide +kernel
theorem dX6_copy_183 : decode cX6_copy 183 = .ok (.iload 6, 2) := by decide +kernel
theorem dX6_copy_185 : decode cX6_copy 185 = .ok (.iaload, 1) := by decide +kernel
theorem dX6_copy_186 : decode cX6_copy 186 = .ok (.iastore, 1) := by decide +kernel
theorem dX6_copy_187 : decode cX6_copy 187 = .ok (.iinc 6 1, 3) := by decide +kernel
theorem dX6_copy_190 : decode cX6_copy 190 = .ok (.goto (-32), 3) := by decide +kernel
theorem dX6_copy_193 : decode cX6_copy 193 = .ok (.iload 5, 2) := by decide +kernel
theorem dX6_copy_195 : decode cX6_copy 195 = .ok (.ireturn, 1) := by decide +kernel
theorem dX6_load_0 : decode cX6_load 0 = .ok (.aload_n 0, 1) := by decide +kernel
theorem dX6_load_1 : decode cX6_load 1 = .ok (.iload_n 1, 1) := by decide +kernel
theorem dX6_load_2 : decode cX6_load 2 = .ok (.invokevirtual 301, 3) := by decide +kernel
theorem dX6_load_5 : decode cX6_load 5 = .ok (.istore_n 2, 1) := by decide +kernel
theorem dX6_load_6 : decode cX6_load 6 = .ok (.iload_n 2, 1) := by decide +kernel
theorem dX6_load_7 : decode cX6_load 7 = .ok (.ifCond .eq 9, 3) := by decide +kernel
theorem dX6_load_10 : decode cX6_load 10 = .ok (.aload_n 0, 1) := by decide +kernel
theorem dX6_load_11 : decode cX6_load 11 = .ok (.iload_n 2, 1) := by decide +kernel
theorem dX6_load_12 : decode cX6_load 12 = .ok (.invokevirtual 81, 3) := by decide +kernel
theorem dX6_load_15 : decode cX6_load 15 = .ok (.ireturn, 1) := by decide +kernel
theorem dX6_load_16 : decode cX6_load 16 = .ok (.iconst 0, 1) := by decide +kernel
theorem dX6_load_17 : decode cX6_load 17 = .ok (.istore_n 3, 1) := by decide +kernel
theorem dX6_load_18 : decode cX6_load 18 = .ok (.iload_n 3, 1) := by decide +kernel
theorem dX6_load_19 : decode cX6_load 19 = .ok (.aload_n 0, 1) := by decide +kernel
theorem dX6_load_20 : decode cX6_load 20 = .ok (.getfield 46, 3) := by decide +kernel
theorem dX6_load_23 : decode cX6_load 23 = .ok (.iload_n 1, 1) := by decide +kernel
theorem dX6_load_24 : decode cX6_load 24 = .ok (.iaload, 1) := by decide +kernel
theorem dX6_load_25 : decode cX6_load 25 = .ok (.if_icmp .ge 62, 3) := by decide +kernel
theorem dX6_load_28 : decode cX6_load 28 = .ok (.iload_n 3, 1) := by decide +kernel
theorem dX6_load_29 : decode cX6_load 29 = .ok (.aload_n 0, 1) := by decide +kernel
theorem dX6_load_30 : decode cX6_load 30 = .ok (.getfield 7, 3) := by decide +kernel
theorem dX6_load_33 : decode cX6_load 33 = .ok (.iconst 0, 1) := by decide +kernel
theorem dX6_load_34 : decode cX6_load 34 = .ok (.iaload, 1) := by decide +kernel
theorem dX6_load_35 : decode cX6_load 35 = .ok (.if_icmp .ge 52, 3) := by decide +kernel
theorem dX6_load_38 : decode cX6_load 38 = .ok (.aload_n 0, 1) := by decide +kernel
theorem dX6_load_39 : decode cX6_load 39 = .ok (.getfield 49, 3) := by decide +kernel
theorem dX6_load_42 : decode cX6_load 42 = .ok (.bipush 40, 2) := by decide +kernel
theorem dX6_load_44 : decode cX6_load 44 = .ok (.iload_n 1, 1) := by decide +kernel
theorem dX6_load_45 : decode cX6_load 45 = .ok (.imul, 1) := by decide +kernel
theorem dX6_load_46 : decode cX6_load 46 = .ok (.iload_n 3, 1) := by decide +kernel
theorem dX6_load_47 : decode cX6_load 47 = .ok (.iadd, 1) := by decide +kernel
theorem dX6_load_48 : decode cX6_load 48 = .ok (.iaload, 1) := by decide +kernel
theorem dX6_load_49 : decode cX6_load 49 = .ok (.i2l, 1) := by decide +kernel
theorem dX6_load_50 : decode cX6_load 50 = .ok (.lconst 1, 1) := by decide +kernel
theorem dX6_load_51 : decode cX6_load 51 = .ok (.ldc2_w 73, 3) := by decide +kernel
theorem dX6_load_54 : decode cX6_load 54 = .ok (.invokestatic 58, 3) := by decide +kernel
theorem dX6_load_57 : decode cX6_load 57 = .ok (.ifCond .eq 30, 3) := by decide +kernel
theorem dX6_load_60 : decode cX6_load 60 = .ok (.aload_n 0, 1) := by decide +kernel
theorem dX6_load_61 : decode cX6_load 61 = .ok (.getfield 7, 3) := by decide +kernel
theorem dX6_load_64 : decode cX6_load 64 = .ok (.iload_n 3, 1) := by decide +kernel
theorem dX6_load_65 : decode cX6_load 65 = .ok (.iconst 2, 1) := by decide +kernel
theorem dX6_load_66 : decode cX6_load 66 = .ok (.invokestatic 63, 3) := by decide +kernel
theorem dX6_load_69 : decode cX6_load 69 = .ok (.aload_n 0, 1) := by decide +kernel
theorem dX6_load_70 : decode cX6_load 70 = .ok (.getfield 49, 3) := by decide +kernel
theorem dX6_load_73 : decode cX6_load 73 = .ok (.bipush 40, 2) := by decide +kernel
theorem dX6_load_75 : decode cX6_load 75 = .ok (.iload_n 1, 1) := by decide +kernel
theorem dX6_load_76 : decode cX6_load 76 = .ok (.imul, 1) := by decide +kernel
theorem dX6_load_77 : decode cX6_load 77 = .ok (.iload_n 3, 1) := by decide +kernel
theorem dX6_load_78 : decode cX6_load 78 = .ok (.iadd, 1) := by decide +kernel
theorem dX6_load_79 : decode cX6_load 79 = .ok (.iaload, 1) := by decide +kernel
theorem dX6_load_80 : decode cX6_load 80 = .ok (.iastore, 1) := by decide +kernel
theorem dX6_load_81 : decode cX6_load 81 = .ok (.iinc 3 1, 3) := by decide +kernel
theorem dX6_load_84 : decode cX6_load 84 = .ok (.goto (-66), 3) := by decide +kernel
theorem dX6_load_87 : decode cX6_load 87 = .ok (.iload_n 3, 1) := by decide +kernel
theorem dX6_load_88 : decode cX6_load 88 = .ok (.ireturn, 1) := by decide +kernel
theorem dX6_takesSheet_0 : decode cX6_takesSheet 0 = .ok (.iconst 0, 1) := by decide +kernel
theorem dX6_takesSheet_1 : decode cX6_takesSheet 1 = .ok (.istore_n 2, 1) := by decide +kernel
theorem dX6_takesSheet_2 : decode cX6_takesSheet 2 = .ok (.iconst 0, 1) := by decide +kernel
theorem dX6_takesSheet_3 : decode cX6_takesSheet 3 = .ok (.istore_n 3, 1) := by decide +kernel
theorem dX6_takesSheet_4 : decode cX6_takesSheet 4 = .ok (.iload_n 3, 1) := by decide +kernel
theorem dX6_takesSheet_5 : decode cX6_takesSheet 5 = .ok (.aload_n 0, 1) := by decide +kernel
theorem dX6_takesSheet_6 : decode cX6_takesSheet 6 = .ok (.getfield 46, 3) := by decide +kernel
theorem dX6_takesSheet_9 : decode cX6_takesSheet 9 = .ok (.iload_n 1, 1) := by decide +kernel
theorem dX6_takesSheet_10 : decode cX6_takesSheet 10 = .ok (.iaload, 1) := by decide +kernel
theorem dX6_takesSheet_11 : decode cX6_takesSheet 11 = .ok (.if_icmp .ge 73, 3) := by decide +kernel
theorem dX6_takesSheet_14 : decode cX6_takesSheet 14 = .ok (.aload_n 0, 1) := by decide +kernel
theorem dX6_takesSheet_15 : decode cX6_takesSheet 15 = .ok (.aload_n 0, 1) := by decide +kernel
theorem dX6_takesSheet_16 : decode cX6_takesSheet 16 = .ok (.getfield 49, 3) := by decide +kernel
theorem dX6_takesSheet_19 : decode cX6_takesSheet 19 = .ok (.bipush 40, 2) := by decide +kernel
theorem dX6_takesSheet_21 : decode cX6_takesSheet 21 = .ok (.iload_n 1, 1) := by decide +kernel
theorem dX6_takesSheet_22 : decode cX6_takesSheet 22 = .ok (.imul, 1) := by decide +kernel
theorem dX6_takesSheet_23 : decode cX6_takesSheet 23 = .ok (.iload_n 3, 1) := by decide +kernel
theorem dX6_takesSheet_24 : decode cX6_takesSheet 24 = .ok (.iadd, 1) := by decide +kernel
theorem dX6_takesSheet_25 : decode cX6_takesSheet 25 = .ok (.iaload, 1) := by decide +kernel
theorem dX6_takesSheet_26 : decode cX6_takesSheet 26 = .ok (.invokevirtual 99, 3) := by decide +kernel
theorem dX6_takesSheet_29 : decode cX6_takesSheet 29 = .ok (.ifCond .eq 55, 3) := by decide +kernel
theorem dX6_takesSheet_32 : decode cX6_takesSheet 32 = .ok (.iload_n 2, 1) := by decide +kernel
theorem dX6_takesSheet_33 : decode cX6_takesSheet 33 = .ok (.aload_n 0, 1) := by decide +kernel
theorem dX6_takesSheet_34 : decode cX6_takesSheet 34 = .ok (.getfield 49, 3) := by decide +kernel
theorem dX6_takesSheet_37 : decode cX6_takesSheet 37 = .ok (.bipush 40, 2) := by decide +kernel
theorem dX6_takesSheet_39 : decode cX6_takesSheet 39 = .ok (.iload_n 1, 1) := by decide +kernel
theorem dX6_takesSheet_40 : decode cX6_takesSheet 40 = .ok (.imul, 1) := by decide +kernel
theorem dX6_takesSheet_41 : decode cX6_takesSheet 41 = .ok (.iload_n 3, 1) := by decide +kernel
theorem dX6_takesSheet_42 : decode cX6_takesSheet 42 = .ok (.iadd, 1) := by decide +kernel
theorem dX6_takesSheet_43 : decode cX6_takesSheet 43 = .ok (.iaload, 1) := by decide +kernel
theorem dX6_takesSheet_44 : decode cX6_takesSheet 44 = .ok (.invokestatic 141, 3) := by decide +kernel
theorem dX6_takesSheet_47 : decode cX6_takesSheet 47 = .ok (.ifCond .ne 37, 3) := by decide +kernel
theorem dX6_takesSheet_50 : decode cX6_takesSheet 50 = .ok (.aload_n 0, 1) := by decide +kernel
theorem dX6_takesSheet_51 : decode cX6_takesSheet 51 = .ok (.getfield 34, 3) := by decide +kernel
theorem dX6_takesSheet_54 : decode cX6_takesSheet 54 = .ok (.iload_n 3, 1) := by decide +kernel
theorem dX6_takesSheet_55 : decode cX6_takesSheet 55 = .ok (.aload_n 0, 1) := by decide +kernel
theorem dX6_takesSheet_56 : decode cX6_takesSheet 56 = .ok (.getfield 49, 3) := by decide +kernel
theorem dX6_takesSheet_59 : decode cX6_takesSheet 59 = .ok (.bipush 40, 2) := by decide +kernel
theorem dX6_takesSheet_61 : decode cX6_takesSheet 61 = .ok (.iload_n 1, 1) := by decide +kernel
theorem dX6_takesSheet_62 : decode cX6_takesSheet 62 = .ok (.imul, 1) := by decide +kernel
theorem dX6_takesSheet_63 : decode cX6_takesSheet 63 = .ok (.iload_n 3, 1) := by decide +kernel
theorem dX6_takesSheet_64 : decode cX6_takesSheet 64 = .ok (.iadd, 1) := by decide +kernel
theorem dX6_takesSheet_65 : decode cX6_takesSheet 65 = .ok (.iaload, 1) := by decide +kernel
theorem dX6_takesSheet_66 : decode cX6_takesSheet 66 = .ok (.iastore, 1) := by decide +kernel
theorem dX6_takesSheet_67 : decode cX6_takesSheet 67 = .ok (.iload_n 2, 1) := by decide +kernel
theorem dX6_takesSheet_68 : decode cX6_takesSheet 68 = .ok (.iconst 1, 1) := by decide +kernel
theorem dX6_takesSheet_69 : decode cX6_takesSheet 69 = .ok (.aload_n 0, 1) := by decide +kernel
theorem dX6_takesSheet_70 : decode cX6_takesSheet 70 = .ok (.getfield 34, 3) := by decide +kernel
theorem dX6_takesSheet_73 : decode cX6_takesSheet 73 = .ok (.iload_n 3, 1) := by decide +kernel
theorem dX6_takesSheet_74 : decode cX6_takesSheet 74 = .ok (.iaload, 1) := by decide +kernel
theorem dX6_takesSheet_75 : decode cX6_takesSheet 75 = .ok (.ishl, 1) := by decide +kernel
theorem dX6_takesSheet_76 : decode cX6_takesSheet 76 = .ok (.ior, 1) := by decide +kernel
theorem dX6_takesSheet_77 : decode cX6_takesSheet 77 = .ok (.istore_n 2, 1) := by decide +kernel
theorem dX6_takesSheet_78 : decode cX6_takesSheet 78 = .ok (.iinc 3 1, 3) := by decide +kernel
theorem dX6_takesSheet_81 : decode cX6_takesSheet 81 = .ok (.goto (-77), 3) := by decide +kernel
theorem dX6_takesSheet_84 : decode cX6_takesSheet 84 = .ok (.iload_n 3, 1) := by decide +kernel
theorem dX6_takesSheet_85 : decode cX6_takesSheet 85 = .ok (.ireturn, 1) := by decide +kernel
theorem dX6_barrel_0 : decode cX6_barrel 0 = .ok (.aload_n 0, 1) := by decide +kernel
theorem dX6_barrel_1 : decode cX6_barrel 1 = .ok (.iload_n 1, 1) := by decide +kernel
theorem dX6_barrel_2 : decode cX6_barrel 2 = .ok (.invokevirtual 301, 3) := by decide +kernel
theorem dX6_barrel_5 : decode cX6_barrel 5 = .ok (.istore_n 3, 1) := by decide +kernel
theorem dX6_barrel_6 : decode cX6_barrel 6 = .ok (.iload_n 3, 1) := by decide +kernel
theorem dX6_barrel_7 : decode cX6_barrel 7 = .ok (.ifCond .eq 9, 3) := by decide +kernel
theorem dX6_barrel_10 : decode cX6_barrel 10 = .ok (.aload_n 0, 1) := by decide +kernel
theorem dX6_barrel_11 : decode cX6_barrel 11 = .ok (.iload_n 3, 1) := by decide +kernel
theorem dX6_barrel_12 : decode cX6_barrel 12 = .ok (.invokevirtual 81, 3) := by decide +kernel
theorem dX6_barrel_15 : decode cX6_barrel 15 = .ok (.ireturn, 1) := by decide +kernel
theorem dX6_barrel_16 : decode cX6_barrel 16 = .ok (.aload_n 0, 1) := by decide +kernel
theorem dX6_barrel_17 : decode cX6_barrel 17 = .ok (.iload_n 1, 1) := by decide +kernel
theorem dX6_barrel_18 : decode cX6_barrel 18 = .ok (.invokevirtual 307, 3) := by decide +kernel
theorem dX6_barrel_21 : decode cX6_barrel 21 = .ok (.istore 4, 2) := by decide +kernel
theorem dX6_barrel_23 : decode cX6_barrel 23 = .ok (.iload 4, 2) := by decide +kernel
theorem dX6_barrel_25 : decode cX6_barrel 25 = .ok (.aload_n 0, 1) := by decide +kernel
theorem dX6_barrel_26 : decode cX6_barrel 26 = .ok (.getfield 46, 3) := by decide +kernel
theorem dX6_barrel_29 : decode cX6_barrel 29 = .ok (.iload_n 1, 1) := by decide +kernel
theorem dX6_barrel_30 : decode cX6_barrel 30 = .ok (.iaload, 1) := by decide +kernel
theorem dX6_barrel_31 : decode cX6_barrel 31 = .ok (.if_icmp .ge 10, 3) := by decide +kernel
theorem dX6_barrel_34 : decode cX6_barrel 34 = .ok (.aload_n 0, 1) := by decide +kernel
theorem dX6_barrel_35 : decode cX6_barrel 35 = .ok (.ldc 122, 2) := by decide +kernel
theorem dX6_barrel_37 : decode cX6_barrel 37 = .ok (.invokevirtual 81, 3) := by decide +kernel
theorem dX6_barrel_40 : decode cX6_barrel 40 = .ok (.ireturn, 1) := by decide +kernel
theorem dX6_barrel_41 : decode cX6_barrel 41 = .ok (.iload_n 2, 1) := by decide +kernel
theorem dX6_barrel_42 : decode cX6_barrel 42 = .ok (.i2l, 1) := by decide +kernel
theorem dX6_barrel_43 : decode cX6_barrel 43 = .ok (.lconst 0, 1) := by decide +kernel
theorem dX6_barrel_44 : decode cX6_barrel 44 = .ok (.ldc2_w 107, 3) := by decide +kernel
theorem dX6_barrel_47 : decode cX6_barrel 47 = .ok (.invokestatic 58, 3) := by decide +kernel
theorem dX6_barrel_50 : decode cX6_barrel 50 = .ok (.ifCond .ne 10, 3) := by decide +kernel
theorem dX6_barrel_53 : decode cX6_barrel 53 = .ok (.aload_n 0, 1) := by decide +kernel
theorem dX6_barrel_54 : decode cX6_barrel 54 = .ok (.ldc 55, 2) := by decide +kernel
theorem dX6_barrel_56 : decode cX6_barrel 56 = .ok (.invokevirtual 81, 3) := by decide +kernel
theorem dX6_barrel_59 : decode cX6_barrel 59 = .ok (.ireturn, 1) := by decide +kernel
theorem dX6_barrel_60 : decode cX6_barrel 60 = .ok (.aload_n 0, 1) := by decide +kernel
theorem dX6_barrel_61 : decode cX6_barrel 61 = .ok (.invokevirtual 153, 3) := by decide +kernel
theorem dX6_barrel_64 : decode cX6_barrel 64 = .ok (.iconst 0, 1) := by decide +kernel
theorem dX6_barrel_65 : decode cX6_barrel 65 = .ok (.istore 5, 2) := by decide +kernel
theorem dX6_barrel_67 : decode cX6_barrel 67 = .ok (.iload 5, 2) := by decide +kernel
theorem dX6_barrel_69 : decode cX6_barrel 69 = .ok (.aload_n 0, 1) := by decide +kernel
theorem dX6_barrel_70 : decode cX6_barrel 70 = .ok (.getfield 7, 3) := by decide +kernel
theorem dX6_barrel_73 : decode cX6_barrel 73 = .ok (.iconst 2, 1) := by decide +kernel
theorem dX6_barrel_74 : decode cX6_barrel 74 = .ok (.iaload, 1) := by decide +kernel
theorem dX6_barrel_75 : decode cX6_barrel 75 = .ok (.if_icmp .gt 22, 3) := by decide +kernel
theorem dX6_barrel_78 : decode cX6_barrel 78 = .ok (.aload_n 0, 1) := by decide +kernel
theorem dX6_barrel_79 : decode cX6_barrel 79 = .ok (.iload 5, 2) := by decide +kernel
theorem dX6_barrel_81 : decode cX6_barrel 81 = .ok (.iload 4, 2) := by decide +kernel
theorem dX6_barrel_83 : decode cX6_barrel 83 = .ok (.iconst (-1), 1) := by decide +kernel
theorem dX6_barrel_84 : decode cX6_barrel 84 = .ok (.invokevirtual 166, 3) := by decide +kernel
theorem dX6_barrel_87 : decode cX6_barrel 87 = .ok (.iload_n 2, 1) := by decide +kernel
theorem dX6_barrel_88 : decode cX6_barrel 88 = .ok (.if_icmp .eq 9, 3) := by decide +kernel
theorem dX6_barrel_91 : decode cX6_barrel 91 = .ok (.iinc 5 1, 3) := by decide +kernel
theorem dX6_barrel_94 : decode cX6_barrel 94 = .ok (.goto (-27), 3) := by decide +kernel
theorem dX6_barrel_97 : decode cX6_barrel 97 = .ok (.iload 5, 2) := by decide +kernel
theorem dX6_barrel_99 : decode cX6_barrel 99 = .ok (.aload_n 0, 1) := by decide +kernel
theorem dX6_barrel_100 : decode cX6_barrel 100 = .ok (.getfield 7, 3) := by decide +kernel
theorem dX6_barrel_103 : decode cX6_barrel 103 = .ok (.iconst 2, 1) := by decide +kernel
theorem dX6_barrel_104 : decode cX6_barrel 104 = .ok (.iaload, 1) := by decide +kernel
theorem dX6_barrel_105 : decode cX6_barrel 105 = .ok (.if_icmp .le 12, 3) := by decide +kernel
theorem dX6_barrel_108 : decode cX6_barrel 108 = .ok (.aload_n 0, 1) := by decide +kernel
theorem dX6_barrel_109 : decode cX6_barrel 109 = .ok (.ldc 172, 2) := by decide +kernel
theorem dX6_barrel_111 : decode cX6_barrel 111 = .ok (.invokevirtual 81, 3) := by decide +kernel
theorem dX6_barrel_114 : decode cX6_barrel 114 = .ok (.goto 5, 3) := by decide +kernel
theorem dX6_barrel_117 : decode cX6_barrel 117 = .ok (.iload 5, 2) := by decide +kernel
theorem dX6_barrel_119 : decode cX6_barrel 119 = .ok (.ireturn, 1) := by decide +kernel
theorem dX6_judge_0 : decode cX6_judge 0 = .ok (.aload_n 0, 1) := by decide +kernel
theorem dX6_judge_1 : decode cX6_judge 1 = .ok (.iload_n 1, 1) := by decide +kernel
theorem dX6_judge_2 : decode cX6_judge 2 = .ok (.invokevirtual 301, 3) := by decide +kernel
theorem dX6_judge_5 : decode cX6_judge 5 = .ok (.istore_n 3, 1) := by decide +kernel
theorem dX6_judge_6 : decode cX6_judge 6 = .ok (.iload_n 3, 1) := by decide +kernel
theorem dX6_judge_7 : decode cX6_judge 7 = .ok (.ifCond .eq 9, 3) := by decide +kernel
theorem dX6_judge_10 : decode cX6_judge 10 = .ok (.aload_n 0, 1) := by decide +kernel
theorem dX6_judge_11 : decode cX6_judge 11 = .ok (.iload_n 3, 1) := by decide +kernel
theorem dX6_judge_12 : decode cX6_judge 12 = .ok (.invokevirtual 81, 3) := by decide +kernel
theorem dX6_judge_15 : decode cX6_judge 15 = .ok (.ireturn, 1) := by decide +kernel
theorem dX6_judge_16 : decode cX6_judge 16 = .ok (.aload_n 0, 1) := by decide +kernel
theorem dX6_judge_17 : decode cX6_judge 17 = .ok (.iload_n 2, 1) := by decide +kernel
theorem dX6_judge_18 : decode cX6_judge 18 = .ok (.invokevirtual 116, 3) := by decide +kernel
theorem dX6_judge_21 : decode cX6_judge 21 = .ok (.ifCond .ne 10, 3) := by decide +kernel
theorem dX6_judge_24 : decode cX6_judge 24 = .ok (.aload_n 0, 1) := by decide +kernel
theorem dX6_judge_25 : decode cX6_judge 25 = .ok (.ldc 55, 2) := by decide +kernel
theorem dX6_judge_27 : decode cX6_judge 27 = .ok (.invokevirtual 81, 3) := by decide +kernel
theorem dX6_judge_30 : decode cX6_judge 30 = .ok (.ireturn, 1) := by decide +kernel
theorem dX6_judge_31 : decode cX6_judge 31 = .ok (.aload_n 0, 1) := by decide +kernel
theorem dX6_judge_32 : decode cX6_judge 32 = .ok (.invokevirtual 153, 3) := by decide +kernel
theorem dX6_judge_35 : decode cX6_judge 35 = .ok (.aload_n 0, 1) := by decide +kernel
theorem dX6_judge_36 : decode cX6_judge 36 = .ok (.iload_n 1, 1) := by decide +kernel
theorem dX6_judge_37 : decode cX6_judge 37 = .ok (.invokevirtual 307, 3) := by decide +kernel
theorem dX6_judge_40 : decode cX6_judge 40 = .ok (.istore 4, 2) := by decide +kernel
theorem dX6_judge_42 : decode cX6_judge 42 = .ok (.aload_n 0, 1) := by decide +kernel
theorem dX6_judge_43 : decode cX6_judge 43 = .ok (.getfield 7, 3) := by decide +kernel
theorem dX6_judge_46 : decode cX6_judge 46 = .ok (.bipush 7, 2) := by decide +kernel
theorem dX6_judge_48 : decode cX6_judge 48 = .ok (.iaload, 1) := by decide +kernel
theorem dX6_judge_49 : decode cX6_judge 49 = .ok (.istore 5, 2) := by decide +kernel
theorem dX6_judge_51 : decode cX6_judge 51 = .ok (.iload_n 2, 1) := by decide +kernel
theorem dX6_judge_52 : decode cX6_judge 52 = .ok (.istore 6, 2) := by decide +kernel
theorem dX6_judge_54 : decode cX6_judge 54 = .ok (.iconst 0, 1) := by decide +kernel
theorem dX6_judge_55 : decode cX6_judge 55 = .ok (.istore 7, 2) := by decide +kernel
theorem dX6_judge_57 : decode cX6_judge 57 = .ok (.iload 7, 2) := by decide +kernel
theorem dX6_judge_59 : decode cX6_judge 59 = .ok (.iload 4, 2) := by decide +kernel
theorem dX6_judge_61 : decode cX6_judge 61 = .ok (.if_icmp .ge 73, 3) := by decide +kernel
theorem dX6_judge_64 : decode cX6_judge 64 = .ok (.iload 6, 2) := by decide +kernel
theorem dX6_judge_66 : decode cX6_judge 66 = .ok (.ifCond .lt 68, 3) := by decide +kernel
theorem dX6_judge_69 : decode cX6_judge 69 = .ok (.aload_n 0, 1) := by decide +kernel
theorem dX6_judge_70 : decode cX6_judge 70 = .ok (.aload_n 0, 1) := by decide +kernel
theorem dX6_judge_71 : decode cX6_judge 71 = .ok (.iload 6, 2) := by decide +kernel
theorem dX6_judge_73 : decode cX6_judge 73 = .ok (.iload 5, 2) := by decide +kernel
theorem dX6_judge_75 : decode cX6_judge 75 = .ok (.aload_n 0, 1) := by decide +kernel
theorem dX6_judge_76 : decode cX6_judge 76 = .ok (.aload_n 0, 1) := by decide +kernel
theorem dX6_judge_77 : decode cX6_judge 77 = .ok (.getfield 34, 3) := by decide +kernel
theorem dX6_judge_80 : decode cX6_judge 80 = .ok (.iload 7, 2) := by decide +kernel
theorem dX6_judge_82 : decode cX6_judge 82 = .ok (.iaload, 1) := by decide +kernel
theorem dX6_judge_83 : decode cX6_judge 83 = .ok (.iconst 1, 1) := by decide +kernel
theorem dX6_judge_84 : decode cX6_judge 84 = .ok (.invokevirtual 90, 3) := by decide +kernel
theorem dX6_judge_87 : decode cX6_judge 87 = .ok (.invokevirtual 123, 3) := by decide +kernel
theorem dX6_judge_90 : decode cX6_judge 90 = .ok (.aload_n 0, 1) := by decide +kernel
theorem dX6_judge_91 : decode cX6_judge 91 = .ok (.getfield 34, 3) := by decide +kernel
theorem dX6_judge_94 : decode cX6_judge 94 = .ok (.iload 7, 2) := by decide +kernel
theorem dX6_judge_96 : decode cX6_judge 96 = .ok (.iaload, 1) := by decide +kernel
theorem dX6_judge_97 : decode cX6_judge 97 = .ok (.invokevirtual 150, 3) := by decide +kernel
theorem dX6_judge_100 : decode cX6_judge 100 = .ok (.istore 6, 2) := by decide +kernel
theorem dX6_judge_102 : decode cX6_judge 102 = .ok (.aload_n 0, 1) := by decide +kernel
theorem dX6_judge_103 : decode cX6_judge 103 = .ok (.aload_n 0, 1) := by decide +kernel
theorem dX6_judge_104 : decode cX6_judge 104 = .ok (.getfield 34, 3) := by decide +kernel
theorem dX6_judge_107 : decode cX6_judge 107 = .ok (.iload 7, 2) := by decide +kernel
theorem dX6_judge_109 : decode cX6_judge 109 = .ok (.iaload, 1) := by decide +kernel
theorem dX6_judge_110 : decode cX6_judge 110 = .ok (.iconst 1, 1) := by decide +kernel
theorem dX6_judge_111 : decode cX6_judge 111 = .ok (.invokevirtual 90, 3) := by decide +kernel
theorem dX6_judge_114 : decode cX6_judge 114 = .ok (.istore 5, 2) := by decide +kernel
theorem dX6_judge_116 : decode cX6_judge 116 = .ok (.iload 7, 2) := by decide +kernel
theorem dX6_judge_118 : decode cX6_judge 118 = .ok (.iload 6, 2) := by decide +kernel
theorem dX6_judge_120 : decode cX6_judge 120 = .ok (.ifCond .ge 7, 3) := by decide +kernel
theorem dX6_judge_123 : decode cX6_judge 123 = .ok (.iconst 0, 1) := by decide +kernel
theorem dX6_judge_124 : decode cX6_judge 124 = .ok (.goto 4, 3) := by decide +kernel
theorem dX6_judge_127 : decode cX6_judge 127 = .ok (.iconst 1, 1) := by decide +kernel
theorem dX6_judge_128 : decode cX6_judge 128 = .ok (.iadd, 1) := by decide +kernel
theorem dX6_judge_129 : decode cX6_judge 129 = .ok (.istore 7, 2) := by decide +kernel
theorem dX6_judge_131 : decode cX6_judge 131 = .ok (.goto (-74), 3) := by decide +kernel
theorem dX6_judge_134 : decode cX6_judge 134 = .ok (.iload 7, 2) := by decide +kernel
theorem dX6_judge_136 : decode cX6_judge 136 = .ok (.aload_n 0, 1) := by decide +kernel
theorem dX6_judge_137 : decode cX6_judge 137 = .ok (.getfield 46, 3) := by decide +kernel
theorem dX6_judge_140 : decode cX6_judge 140 = .ok (.iload_n 1, 1) := by decide +kernel
theorem dX6_judge_141 : decode cX6_judge 141 = .ok (.iaload, 1) := by decide +kernel
theorem dX6_judge_142 : decode cX6_judge 142 = .ok (.if_icmp .ne 7, 3) := by decide +kernel
theorem dX6_judge_145 : decode cX6_judge 145 = .ok (.iconst 0, 1) := by decide +kernel
theorem dX6_judge_146 : decode cX6_judge 146 = .ok (.goto 7, 3) := by decide +kernel
theorem dX6_judge_149 : decode cX6_judge 149 = .ok (.iconst 1, 1) := by decide +kernel
theorem dX6_judge_150 : decode cX6_judge 150 = .ok (.iload 7, 2) := by decide +kernel
theorem dX6_judge_152 : decode cX6_judge 152 = .ok (.iadd, 1) := by decide +kernel
theorem dX6_judge_153 : decode cX6_judge 153 = .ok (.ireturn, 1) := by decide +kernel
theorem dX6_image_0 : decode cX6_image 0 = .ok (.iconst 0, 1) := by decide +kernel
theorem dX6_image_1 : decode cX6_image 1 = .ok (.istore_n 1, 1) := by decide +kernel
theorem dX6_image_2 : decode cX6_image 2 = .ok (.iload_n 1, 1) := by decide +kernel
theorem dX6_image_3 : decode cX6_image 3 = .ok (.bipush 70, 2) := by decide +kernel
theorem dX6_image_5 : decode cX6_image 5 = .ok (.if_icmp .ge 21, 3) := by decide +kernel
theorem dX6_image_8 : decode cX6_image 8 = .ok (.aload_n 0, 1) := by decide +kernel
theorem dX6_image_9 : decode cX6_image 9 = .ok (.getfield 13, 3) := by decide +kernel
theorem dX6_image_12 : decode cX6_image 12 = .ok (.iload_n 1, 1) := by decide +kernel
theorem dX6_image_13 : decode cX6_image 13 = .ok (.aload_n 0, 1) := by decide +kernel
theorem dX6_image_14 : decode cX6_image 14 = .ok (.getfield 7, 3) := by decide +kernel
theorem dX6_image_17 : decode cX6_image 17 = .ok (.iload_n 1, 1) := by decide +kernel
theorem dX6_image_18 : decode cX6_image 18 = .ok (.iaload, 1) := by decide +kernel
theorem dX6_image_19 : decode cX6_image 19 = .ok (.iastore, 1) := by decide +kernel
theorem dX6_image_20 : decode cX6_image 20 = .ok (.iinc 1 1, 3) := by decide +kernel
theorem dX6_image_23 : decode cX6_image 23 = .ok (.goto (-21), 3) := by decide +kernel
theorem dX6_image_26 : decode cX6_image 26 = .ok (.aload_n 0, 1) := by decide +kernel
theorem dX6_image_27 : decode cX6_image 27 = .ok (.iconst 1, 1) := by decide +kernel
theorem dX6_image_28 : decode cX6_image 28 = .ok (.putfield 310, 3) := by decide +kernel
theorem dX6_image_31 : decode cX6_image 31 = .ok (.iconst 1, 1) := by decide +kernel
theorem dX6_image_32 : decode cX6_image 32 = .ok (.ireturn, 1) := by decide +kernel
theorem dX6_undo_0 : decode cX6_undo 0 = .ok (.aload_n 0, 1) := by decide +kernel
theorem dX6_undo_1 : decode cX6_undo 1 = .ok (.getfield 310, 3) := by decide +kernel
theorem dX6_undo_4 : decode cX6_undo 4 = .ok (.ifCond .ne 10, 3) := by decide +kernel
theorem dX6_undo_7 : decode cX6_undo 7 = .ok (.aload_n 0, 1) := by decide +kernel
theorem dX6_undo_8 : decode cX6_undo 8 = .ok (.ldc 172, 2) := by decide +kernel
theorem dX6_undo_10 : decode cX6_undo 10 = .ok (.invokevirtual 81, 3) := by decide +kernel
theorem dX6_undo_13 : decode cX6_undo 13 = .ok (.ireturn, 1) := by decide +kernel
theorem dX6_undo_14 : decode cX6_undo 14 = .ok (.iconst 0, 1) := by decide +kernel
theorem dX6_undo_15 : decode cX6_undo 15 = .ok (.istore_n 1, 1) := by decide +kernel
theorem dX6_undo_16 : decode cX6_undo 16 = .ok (.iload_n 1, 1) := by decide +kernel
theorem dX6_undo_17 : decode cX6_undo 17 = .ok (.bipush 70, 2) := by decide +kernel
theorem dX6_undo_19 : decode cX6_undo 19 = .ok (.if_icmp .ge 21, 3) := by decide +kernel
theorem dX6_undo_22 : decode cX6_undo 22 = .ok (.aload_n 0, 1) := by decide +kernel
theorem dX6_undo_23 : decode cX6_undo 23 = .ok (.getfield 7, 3) := by decide +kernel
theorem dX6_undo_26 : decode cX6_undo 26 = .ok (.iload_n 1, 1) := by decide +kernel
theorem dX6_undo_27 : decode cX6_undo 27 = .ok (.aload_n 0, 1) := by decide +kernel
theorem dX6_undo_28 : decode cX6_undo 28 = .ok (.getfield 13, 3) := by decide +kernel
theorem dX6_undo_31 : decode cX6_undo 31 = .ok (.iload_n 1, 1) := by decide +kernel
theorem dX6_undo_32 : decode cX6_undo 32 = .ok (.iaload, 1) := by decide +kernel
theorem dX6_undo_33 : decode cX6_undo 33 = .ok (.iastore, 1) := by decide +kernel
theorem dX6_undo_34 : decode cX6_undo 34 = .ok (.iinc 1 1, 3) := by decide +kernel
theorem dX6_undo_37 : decode cX6_undo 37 = .ok (.goto (-21), 3) := by decide +kernel
theorem dX6_undo_40 : decode cX6_undo 40 = .ok (.aload_n 0, 1) := by decide +kernel
theorem dX6_undo_41 : decode cX6_undo 41 = .ok (.getfield 7, 3) := by decide +kernel
theorem dX6_undo_44 : decode cX6_undo 44 = .ok (.iconst 0, 1) := by decide +kernel
theorem dX6_undo_45 : decode cX6_undo 45 = .ok (.iaload, 1) := by decide +kernel
theorem dX6_undo_46 : decode cX6_undo 46 = .ok (.ireturn, 1) := by decide +kernel
theorem dX6_tear_0 : decode cX6_tear 0 = .ok (.aload_n 0, 1) := by decide +kernel
theorem dX6_tear_1 : decode cX6_tear 1 = .ok (.getfield 310, 3) := by decide +kernel
theorem dX6_tear_4 : decode cX6_tear 4 = .ok (.ifCond .eq 7, 3) := by decide +kernel
theorem dX6_tear_7 : decode cX6_tear 7 = .ok (.iconst 1, 1) := by decide +kernel
theorem dX6_tear_8 : decode cX6_tear 8 = .ok (.goto 4, 3) := by decide +kernel
theorem dX6_tear_11 : decode cX6_tear 11 = .ok (.iconst 0, 1) := by decide +kernel
theorem dX6_tear_12 : decode cX6_tear 12 = .ok (.istore_n 1, 1) := by decide +kernel
theorem dX6_tear_13 : decode cX6_tear 13 = .ok (.aload_n 0, 1) := by decide +kernel
theorem dX6_tear_14 : decode cX6_tear 14 = .ok (.iconst 0, 1) := by decide +kernel
theorem dX6_tear_15 : decode cX6_tear 15 = .ok (.putfield 310, 3) := by decide +kernel
theorem dX6_tear_18 : decode cX6_tear 18 = .ok (.iload_n 1, 1) := by decide +kernel
theorem dX6_tear_19 : decode cX6_tear 19 = .ok (.ireturn, 1) := by decide +kernel
theorem dX6_sumOf_0 : decode cX6_sumOf 0 = .ok (.iconst 0, 1) := by decide +kernel
theorem dX6_sumOf_1 : decode cX6_sumOf 1 = .ok (.istore_n 2, 1) := by decide +kernel
theorem dX6_sumOf_2 : decode cX6_sumOf 2 = .ok (.iconst 0, 1) := by decide +kernel
theorem dX6_sumOf_3 : decode cX6_sumOf 3 = .ok (.istore_n 3, 1) := by decide +kernel
theorem dX6_sumOf_4 : decode cX6_sumOf 4 = .ok (.iload_n 3, 1) := by decide +kernel
theorem dX6_sumOf_5 : decode cX6_sumOf 5 = .ok (.aload_n 0, 1) := by decide +kernel
theorem dX6_sumOf_6 : decode cX6_sumOf 6 = .ok (.getfield 7, 3) := by decide +kernel
theorem dX6_sumOf_9 : decode cX6_sumOf 9 = .ok (.iconst 0, 1) := by decide +kernel
theorem dX6_sumOf_10 : decode cX6_sumOf 10 = .ok (.iaload, 1) := by decide +kernel
theorem dX6_sumOf_11 : decode cX6_sumOf 11 = .ok (.if_icmp .ge 46, 3) := by decide +kernel
theorem dX6_sumOf_14 : decode cX6_sumOf 14 = .ok (.iload_n 2, 1) := by decide +kernel
theorem dX6_sumOf_15 : decode cX6_sumOf 15 = .ok (.iload_n 1, 1) := by decide +kernel
theorem dX6_sumOf_16 : decode cX6_sumOf 16 = .ok (.bipush 6, 2) := by decide +kernel
theorem dX6_sumOf_18 : decode cX6_sumOf 18 = .ok (.if_icmp .ge 12, 3) := by decide +kernel
theorem dX6_sumOf_21 : decode cX6_sumOf 21 = .ok (.aload_n 0, 1) := by decide +kernel
theorem dX6_sumOf_22 : decode cX6_sumOf 22 = .ok (.iload_n 3, 1) := by decide +kernel
theorem dX6_sumOf_23 : decode cX6_sumOf 23 = .ok (.iload_n 1, 1) := by decide +kernel
theorem dX6_sumOf_24 : decode cX6_sumOf 24 = .ok (.invokevirtual 90, 3) := by decide +kernel
theorem dX6_sumOf_27 : decode cX6_sumOf 27 = .ok (.goto 22, 3) := by decide +kernel
theorem dX6_sumOf_30 : decode cX6_sumOf 30 = .ok (.iload_n 1, 1) := by decide +kernel
theorem dX6_sumOf_31 : decode cX6_sumOf 31 = .ok (.bipush 6, 2) := by decide +kernel
theorem dX6_sumOf_33 : decode cX6_sumOf 33 = .ok (.if_icmp .ne 11, 3) := by decide +kernel
theorem dX6_sumOf_36 : decode cX6_sumOf 36 = .ok (.aload_n 0, 1) := by decide +kernel
theorem dX6_sumOf_37 : decode cX6_sumOf 37 = .ok (.iload_n 3, 1) := by decide +kernel
theorem dX6_sumOf_38 : decode cX6_sumOf 38 = .ok (.invokevirtual 96, 3) := by decide +kernel
theorem dX6_sumOf_41 : decode cX6_sumOf 41 = .ok (.goto 8, 3) := by decide +kernel
theorem dX6_sumOf_44 : decode cX6_sumOf 44 = .ok (.aload_n 0, 1) := by decide +kernel
theorem dX6_sumOf_45 : decode cX6_sumOf 45 = .ok (.iload_n 3, 1) := by decide +kernel
theorem dX6_sumOf_46 : decode cX6_sumOf 46 = .ok (.invokevirtual 104, 3) := by decide +kernel
theorem dX6_sumOf_49 : decode cX6_sumOf 49 = .ok (.iadd, 1) := by decide +kernel
theorem dX6_sumOf_50 : decode cX6_sumOf 50 = .ok (.istore_n 2, 1) := by decide +kernel
theorem dX6_sumOf_51 : decode cX6_sumOf 51 = .ok (.iinc 3 1, 3) := by decide +kernel
theorem dX6_sumOf_54 : decode cX6_sumOf 54 = .ok (.goto (-50), 3) := by decide +kernel
theorem dX6_sumOf_57 : decode cX6_sumOf 57 = .ok (.iload_n 2, 1) := by decide +kernel
theorem dX6_sumOf_58 : decode cX6_sumOf 58 = .ok (.ireturn, 1) := by decide +kernel
theorem dX6_held_0 : decode cX6_held 0 = .ok (.iconst 0, 1) := by decide +kernel
theorem dX6_held_1 : decode cX6_held 1 = .ok (.istore_n 1, 1) := by decide +kernel
theorem dX6_held_2 : decode cX6_held 2 = .ok (.iconst 0, 1) := by decide +kernel
theorem dX6_held_3 : decode cX6_held 3 = .ok (.istore_n 2, 1) := by decide +kernel
theorem dX6_held_4 : decode cX6_held 4 = .ok (.iload_n 2, 1) := by decide +kernel
theorem dX6_held_5 : decode cX6_held 5 = .ok (.bipush 10, 2) := by decide +kernel
theorem dX6_held_7 : decode cX6_held 7 = .ok (.if_icmp .ge 29, 3) := by decide +kernel
theorem dX6_held_10 : decode cX6_held 10 = .ok (.iload_n 1, 1) := by decide +kernel
theorem dX6_held_11 : decode cX6_held 11 = .ok (.aload_n 0, 1) := by decide +kernel
theorem dX6_held_12 : decode cX6_held 12 = .ok (.getfield 7, 3) := by decide +kernel
theorem dX6_held_15 : decode cX6_held 15 = .ok (.bipush 60, 2) := by decide +kernel
theorem dX6_held_17 : decode cX6_held 17 = .ok (.iload_n 2, 1) := by decide +kernel
theorem dX6_held_18 : decode cX6_held 18 = .ok (.iadd, 1) := by decide +kernel
theorem dX6_held_19 : decode cX6_held 19 = .ok (.iaload, 1) := by decide +kernel
theorem dX6_held_20 : decode cX6_held 20 = .ok (.ifCond .ge 7, 3) := by decide +kernel
theorem dX6_held_23 : decode cX6_held 23 = .ok (.iconst 0, 1) := by decide +kernel
theorem dX6_held_24 : decode cX6_held 24 = .ok (.goto 4, 3) := by decide +kernel
theorem dX6_held_27 : decode cX6_held 27 = .ok (.iconst 1, 1) := by decide +kernel
theorem dX6_held_28 : decode cX6_held 28 = .ok (.iadd, 1) := by decide +kernel
theorem dX6_held_29 : decode cX6_held 29 = .ok (.istore_n 1, 1) := by decide +kernel
theorem dX6_held_30 : decode cX6_held 30 = .ok (.iinc 2 1, 3) := by decide +kernel
theorem dX6_held_33 : decode cX6_held 33 = .ok (.goto (-29), 3) := by decide +kernel
theorem dX6_held_36 : decode cX6_held 36 = .ok (.iload_n 1, 1) := by decide +kernel
theorem dX6_held_37 : decode cX6_held 37 = .ok (.ireturn, 1) := by decide +kernel
theorem dX6_count_0 : decode cX6_count 0 = .ok (.iload_n 1, 1) := by decide +kernel
theorem dX6_count_1 : decode cX6_count 1 = .ok (.tableswitch 97 0 7 #[47, 54, 60, 66, 73, 80, 85, 92], 47) := by decide +kernel
theorem dX6_count_48 : decode cX6_count 48 = .ok (.aload_n 0, 1) := by decide +kernel
theorem dX6_count_49 : decode cX6_count 49 = .ok (.getfield 7, 3) := by decide +kernel
theorem dX6_count_52 : decode cX6_count 52 = .ok (.iconst 0, 1) := by decide +kernel
theorem dX6_count_53 : decode cX6_count 53 = .ok (.iaload, 1) := by decide +kernel
theorem dX6_count_54 : decode cX6_count 54 = .ok (.ireturn, 1) := by decide +kernel
theorem dX6_count_55 : decode cX6_count 55 = .ok (.aload_n 0, 1) := by decide +kernel
theorem dX6_count_56 : decode cX6_count 56 = .ok (.iconst 5, 1) := by decide +kernel
theorem dX6_count_57 : decode cX6_count 57 = .ok (.invokevirtual 313, 3) := by decide +kernel
theorem dX6_count_60 : decode cX6_count 60 = .ok (.ireturn, 1) := by decide +kernel
theorem dX6_count_61 : decode cX6_count 61 = .ok (.aload_n 0, 1) := by decide +kernel
theorem dX6_count_62 : decode cX6_count 62 = .ok (.iconst 4, 1) := by decide +kernel
theorem dX6_count_63 : decode cX6_count 63 = .ok (.invokevirtual 313, 3) := by decide +kernel
theorem dX6_count_66 : decode cX6_count 66 = .ok (.ireturn, 1) := by decide +kernel
theorem dX6_count_67 : decode cX6_count 67 = .ok (.aload_n 0, 1) := by decide +kernel
theorem dX6_count_68 : decode cX6_count 68 = .ok (.bipush 6, 2) := by decide +kernel
theorem dX6_count_70 : decode cX6_count 70 = .ok (.invokevirtual 313, 3) := by decide +kernel
theorem dX6_count_73 : decode cX6_count 73 = .ok (.ireturn, 1) := by decide +kernel
theorem dX6_count_74 : decode cX6_count 74 = .ok (.aload_n 0, 1) := by decide +kernel
theorem dX6_count_75 : decode cX6_count 75 = .ok (.bipush 7, 2) := by decide +kernel
theorem dX6_count_77 : decode cX6_count 77 = .ok (.invokevirtual 313, 3) := by decide +kernel
theorem dX6_count_80 : decode cX6_count 80 = .ok (.ireturn, 1) := by decide +kernel
theorem dX6_count_81 : decode cX6_count 81 = .ok (.aload_n 0, 1) := by decide +kernel
theorem dX6_count_82 : decode cX6_count 82 = .ok (.getfield 196, 3) := by decide +kernel
theorem dX6_count_85 : decode cX6_count 85 = .ok (.ireturn, 1) := by decide +kernel
theorem dX6_count_86 : decode cX6_count 86 = .ok (.aload_n 0, 1) := by decide +kernel
theorem dX6_count_87 : decode cX6_count 87 = .ok (.getfield 7, 3) := by decide +kernel
theorem dX6_count_90 : decode cX6_count 90 = .ok (.iconst 1, 1) := by decide +kernel
theorem dX6_count_91 : decode cX6_count 91 = .ok (.iaload, 1) := by decide +kernel
theorem dX6_count_92 : decode cX6_count 92 = .ok (.ireturn, 1) := by decide +kernel
theorem dX6_count_93 : decode cX6_count 93 = .ok (.aload_n 0, 1) := by decide +kernel
theorem dX6_count_94 : decode cX6_count 94 = .ok (.invokevirtual 316, 3) := by decide +kernel
theorem dX6_count_97 : decode cX6_count 97 = .ok (.ireturn, 1) := by decide +kernel
theorem dX6_count_98 : decode cX6_count 98 = .ok (.aload_n 0, 1) := by decide +kernel
theorem dX6_count_99 : decode cX6_count 99 = .ok (.ldc 55, 2) := by decide +kernel
theorem dX6_count_101 : decode cX6_count 101 = .ok (.invokevirtual 81, 3) := by decide +kernel
theorem dX6_count_104 : decode cX6_count 104 = .ok (.ireturn, 1) := by decide +kernel
theorem dX6_status_0 : decode cX6_status 0 = .ok (.iload_n 1, 1) := by decide +kernel
theorem dX6_status_1 : decode cX6_status 1 = .ok (.i2l, 1) := by decide +kernel
theorem dX6_status_2 : decode cX6_status 2 = .ok (.ldc2_w 319, 3) := by decide +kernel
theorem dX6_status_5 : decode cX6_status 5 = .ok (.ldc2_w 67, 3) := by decide +kernel
theorem dX6_status_8 : decode cX6_status 8 = .ok (.invokestatic 58, 3) := by decide +kernel
theorem dX6_status_11 : decode cX6_status 11 = .ok (.ifCond .ne 10, 3) := by decide +kernel
theorem dX6_status_14 : decode cX6_status 14 = .ok (.aload_n 0, 1) := by decide +kernel
theorem dX6_status_15 : decode cX6_status 15 = .ok (.ldc 55, 2) := by decide +kernel
theorem dX6_status_17 : decode cX6_status 17 = .ok (.invokevirtual 81, 3) := by decide +kernel
theorem dX6_status_20 : decode cX6_status 20 = .ok (.ireturn, 1) := by decide +kernel
theorem dX6_status_21 : decode cX6_status 21 = .ok (.iconst 0, 1) := by decide +kernel
theorem dX6_status_22 : decode cX6_status 22 = .ok (.istore_n 2, 1) := by decide +kernel
theorem dX6_status_23 : decode cX6_status 23 = .ok (.iconst 0, 1) := by decide +kernel
theorem dX6_status_24 : decode cX6_status 24 = .ok (.istore_n 3, 1) := by decide +kernel
theorem dX6_status_25 : decode cX6_status 25 = .ok (.iload_n 3, 1) := by decide +kernel
theorem dX6_status_26 : decode cX6_status 26 = .ok (.bipush 7, 2) := by decide +kernel
theorem dX6_status_28 : decode cX6_status 28 = .ok (.if_icmp .ge 31, 3) := by decide +kernel
theorem dX6_status_31 : decode cX6_status 31 = .ok (.iload_n 2, 1) := by decide +kernel
theorem dX6_status_32 : decode cX6_status 32 = .ok (.iload_n 1, 1) := by decide +kernel
theorem dX6_status_33 : decode cX6_status 33 = .ok (.ifCond .lt 8, 3) := by decide +kernel
theorem dX6_status_36 : decode cX6_status 36 = .ok (.iload_n 3, 1) := by decide +kernel
theorem dX6_status_37 : decode cX6_status 37 = .ok (.iload_n 1, 1) := by decide +kernel
theorem dX6_status_38 : decode cX6_status 38 = .ok (.if_icmp .ne 12, 3) := by decide +kernel
theorem dX6_status_41 : decode cX6_status 41 = .ok (.aload_n 0, 1) := by decide +kernel
theorem dX6_status_42 : decode cX6_status 42 = .ok (.getfield 19, 3) := by decide +kernel
theorem dX6_status_45 : decode cX6_status 45 = .ok (.iload_n 3, 1) := by decide +kernel
theorem dX6_status_46 : decode cX6_status 46 = .ok (.iaload, 1) := by decide +kernel
theorem dX6_status_47 : decode cX6_status 47 = .ok (.goto 4, 3) := by decide +kernel
theorem dX6_status_50 : decode cX6_status 50 = .ok (.iconst 0, 1) := by decide +kernel
theorem dX6_status_51 : decode cX6_status 51 = .ok (.iadd, 1) := by decide +kernel
theorem dX6_status_52 : decode cX6_status 52 = .ok (.istore_n 2, 1) := by decide +kernel
theorem dX6_status_53 : decode cX6_status 53 = .ok (.iinc 3 1, 3) := by decide +kernel
theorem dX6_status_56 : decode cX6_status 56 = .ok (.goto (-31), 3) := by decide +kernel
theorem dX6_status_59 : decode cX6_status 59 = .ok (.iload_n 2, 1) := by decide +kernel
theorem dX6_status_60 : decode cX6_status 60 = .ok (.ireturn, 1) := by decide +kernel
