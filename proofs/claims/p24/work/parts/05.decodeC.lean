theorem dX12_batch_0 : decode cX12_batch 0 = .ok (.aload_n 0, 1) := by decide +kernel
theorem dX12_batch_1 : decode cX12_batch 1 = .ok (.iload_n 1, 1) := by decide +kernel
theorem dX12_batch_2 : decode cX12_batch 2 = .ok (.invokevirtual 264, 3) := by decide +kernel
theorem dX12_batch_5 : decode cX12_batch 5 = .ok (.ifCond .ne 5, 3) := by decide +kernel
theorem dX12_batch_8 : decode cX12_batch 8 = .ok (.iconst (-1), 1) := by decide +kernel
theorem dX12_batch_9 : decode cX12_batch 9 = .ok (.ireturn, 1) := by decide +kernel
theorem dX12_batch_10 : decode cX12_batch 10 = .ok (.iload_n 2, 1) := by decide +kernel
theorem dX12_batch_11 : decode cX12_batch 11 = .ok (.tableswitch 109 0 7 #[45, 52, 59, 66, 73, 79, 89, 98], 45) := by decide +kernel
theorem dX12_batch_56 : decode cX12_batch 56 = .ok (.aload_n 0, 1) := by decide +kernel
theorem dX12_batch_57 : decode cX12_batch 57 = .ok (.getfield 62, 3) := by decide +kernel
theorem dX12_batch_60 : decode cX12_batch 60 = .ok (.iload_n 1, 1) := by decide +kernel
theorem dX12_batch_61 : decode cX12_batch 61 = .ok (.iaload, 1) := by decide +kernel
theorem dX12_batch_62 : decode cX12_batch 62 = .ok (.ireturn, 1) := by decide +kernel
theorem dX12_batch_63 : decode cX12_batch 63 = .ok (.aload_n 0, 1) := by decide +kernel
theorem dX12_batch_64 : decode cX12_batch 64 = .ok (.getfield 65, 3) := by decide +kernel
theorem dX12_batch_67 : decode cX12_batch 67 = .ok (.iload_n 1, 1) := by decide +kernel
theorem dX12_batch_68 : decode cX12_batch 68 = .ok (.iaload, 1) := by decide +kernel
theorem dX12_batch_69 : decode cX12_batch 69 = .ok (.ireturn, 1) := by decide +kernel
theorem dX12_batch_70 : decode cX12_batch 70 = .ok (.aload_n 0, 1) := by decide +kernel
theorem dX12_batch_71 : decode cX12_batch 71 = .ok (.getfield 68, 3) := by decide +kernel
theorem dX12_batch_74 : decode cX12_batch 74 = .ok (.iload_n 1, 1) := by decide +kernel
theorem dX12_batch_75 : decode cX12_batch 75 = .ok (.iaload, 1) := by decide +kernel
theorem dX12_batch_76 : decode cX12_batch 76 = .ok (.ireturn, 1) := by decide +kernel
theorem dX12_batch_77 : decode cX12_batch 77 = .ok (.aload_n 0, 1) := by decide +kernel
theorem dX12_batch_78 : decode cX12_batch 78 = .ok (.getfield 71, 3) := by decide +kernel
theorem dX12_batch_81 : decode cX12_batch 81 = .ok (.iload_n 1, 1) := by decide +kernel
theorem dX12_batch_82 : decode cX12_batch 82 = .ok (.iaload, 1) := by decide +kernel
theorem dX12_batch_83 : decode cX12_batch 83 = .ok (.ireturn, 1) := by decide +kernel
theorem dX12_batch_84 : decode cX12_batch 84 = .ok (.aload_n 0, 1) := by decide +kernel
theorem dX12_batch_85 : decode cX12_batch 85 = .ok (.iload_n 1, 1) := by decide +kernel
theorem dX12_batch_86 : decode cX12_batch 86 = .ok (.invokevirtual 270, 3) := by decide +kernel
theorem dX12_batch_89 : decode cX12_batch 89 = .ok (.ireturn, 1) := by decide +kernel
theorem dX12_batch_90 : decode cX12_batch 90 = .ok (.aload_n 0, 1) := by decide +kernel
theorem dX12_batch_91 : decode cX12_batch 91 = .ok (.getfield 77, 3) := by decide +kernel
theorem dX12_batch_94 : decode cX12_batch 94 = .ok (.iload_n 1, 1) := by decide +kernel
theorem dX12_batch_95 : decode cX12_batch 95 = .ok (.baload, 1) := by decide +kernel
theorem dX12_batch_96 : decode cX12_batch 96 = .ok (.invokestatic 159, 3) := by decide +kernel
theorem dX12_batch_99 : decode cX12_batch 99 = .ok (.ireturn, 1) := by decide +kernel
theorem dX12_batch_100 : decode cX12_batch 100 = .ok (.aload_n 0, 1) := by decide +kernel
theorem dX12_batch_101 : decode cX12_batch 101 = .ok (.getfield 74, 3) := by decide +kernel
theorem dX12_batch_104 : decode cX12_batch 104 = .ok (.iconst 2, 1) := by decide +kernel
theorem dX12_batch_105 : decode cX12_batch 105 = .ok (.iload_n 1, 1) := by decide +kernel
theorem dX12_batch_106 : decode cX12_batch 106 = .ok (.imul, 1) := by decide +kernel
theorem dX12_batch_107 : decode cX12_batch 107 = .ok (.iaload, 1) := by decide +kernel
theorem dX12_batch_108 : decode cX12_batch 108 = .ok (.ireturn, 1) := by decide +kernel
theorem dX12_batch_109 : decode cX12_batch 109 = .ok (.aload_n 0, 1) := by decide +kernel
theorem dX12_batch_110 : decode cX12_batch 110 = .ok (.getfield 74, 3) := by decide +kernel
theorem dX12_batch_113 : decode cX12_batch 113 = .ok (.iconst 2, 1) := by decide +kernel
theorem dX12_batch_114 : decode cX12_batch 114 = .ok (.iload_n 1, 1) := by decide +kernel
theorem dX12_batch_115 : decode cX12_batch 115 = .ok (.imul, 1) := by decide +kernel
theorem dX12_batch_116 : decode cX12_batch 116 = .ok (.iconst 1, 1) := by decide +kernel
theorem dX12_batch_117 : decode cX12_batch 117 = .ok (.iadd, 1) := by decide +kernel
theorem dX12_batch_118 : decode cX12_batch 118 = .ok (.iaload, 1) := by decide +kernel
theorem dX12_batch_119 : decode cX12_batch 119 = .ok (.ireturn, 1) := by decide +kernel
theorem dX12_batch_120 : decode cX12_batch 120 = .ok (.iconst (-1), 1) := by decide +kernel
theorem dX12_batch_121 : decode cX12_batch 121 = .ok (.ireturn, 1) := by decide +kernel

theorem dX12_blanks_0 : decode cX12_blanks 0 = .ok (.aload_n 0, 1) := by decide +kernel
theorem dX12_blanks_1 : decode cX12_blanks 1 = .ok (.getfield 280, 3) := by decide +kernel
theorem dX12_blanks_4 : decode cX12_blanks 4 = .ok (.aload_n 0, 1) := by decide +kernel
theorem dX12_blanks_5 : decode cX12_blanks 5 = .ok (.getfield 283, 3) := by decide +kernel
theorem dX12_blanks_8 : decode cX12_blanks 8 = .ok (.if_icmp .ge 44, 3) := by decide +kernel
theorem dX12_blanks_11 : decode cX12_blanks 11 = .ok (.aload_n 0, 1) := by decide +kernel
theorem dX12_blanks_12 : decode cX12_blanks 12 = .ok (.getfield 88, 3) := by decide +kernel
theorem dX12_blanks_15 : decode cX12_blanks 15 = .ok (.aload_n 0, 1) := by decide +kernel
theorem dX12_blanks_16 : decode cX12_blanks 16 = .ok (.getfield 280, 3) := by decide +kernel
theorem dX12_blanks_19 : decode cX12_blanks 19 = .ok (.baload, 1) := by decide +kernel
theorem dX12_blanks_20 : decode cX12_blanks 20 = .ok (.bipush 32, 2) := by decide +kernel
theorem dX12_blanks_22 : decode cX12_blanks 22 = .ok (.if_icmp .eq 17, 3) := by decide +kernel
theorem dX12_blanks_25 : decode cX12_blanks 25 = .ok (.aload_n 0, 1) := by decide +kernel
theorem dX12_blanks_26 : decode cX12_blanks 26 = .ok (.getfield 88, 3) := by decide +kernel
theorem dX12_blanks_29 : decode cX12_blanks 29 = .ok (.aload_n 0, 1) := by decide +kernel
theorem dX12_blanks_30 : decode cX12_blanks 30 = .ok (.getfield 280, 3) := by decide +kernel
theorem dX12_blanks_33 : decode cX12_blanks 33 = .ok (.baload, 1) := by decide +kernel
theorem dX12_blanks_34 : decode cX12_blanks 34 = .ok (.bipush 10, 2) := by decide +kernel
theorem dX12_blanks_36 : decode cX12_blanks 36 = .ok (.if_icmp .ne 16, 3) := by decide +kernel
theorem dX12_blanks_39 : decode cX12_blanks 39 = .ok (.aload_n 0, 1) := by decide +kernel
theorem dX12_blanks_40 : decode cX12_blanks 40 = .ok (.dup, 1) := by decide +kernel
theorem dX12_blanks_41 : decode cX12_blanks 41 = .ok (.getfield 280, 3) := by decide +kernel
theorem dX12_blanks_44 : decode cX12_blanks 44 = .ok (.iconst 1, 1) := by decide +kernel
theorem dX12_blanks_45 : decode cX12_blanks 45 = .ok (.iadd, 1) := by decide +kernel
theorem dX12_blanks_46 : decode cX12_blanks 46 = .ok (.putfield 280, 3) := by decide +kernel
theorem dX12_blanks_49 : decode cX12_blanks 49 = .ok (.goto (-49), 3) := by decide +kernel
theorem dX12_blanks_52 : decode cX12_blanks 52 = .ok (.return_, 1) := by decide +kernel

theorem dX12_boil_0 : decode cX12_boil 0 = .ok (.iload_n 1, 1) := by decide +kernel
theorem dX12_boil_1 : decode cX12_boil 1 = .ok (.iconst 0, 1) := by decide +kernel
theorem dX12_boil_2 : decode cX12_boil 2 = .ok (.sipush 300, 3) := by decide +kernel
theorem dX12_boil_5 : decode cX12_boil 5 = .ok (.invokestatic 136, 3) := by decide +kernel
theorem dX12_boil_8 : decode cX12_boil 8 = .ok (.ifCond .ne 5, 3) := by decide +kernel
theorem dX12_boil_11 : decode cX12_boil 11 = .ok (.iconst (-1), 1) := by decide +kernel
theorem dX12_boil_12 : decode cX12_boil 12 = .ok (.ireturn, 1) := by decide +kernel
theorem dX12_boil_13 : decode cX12_boil 13 = .ok (.iconst 0, 1) := by decide +kernel
theorem dX12_boil_14 : decode cX12_boil 14 = .ok (.istore_n 2, 1) := by decide +kernel
theorem dX12_boil_15 : decode cX12_boil 15 = .ok (.iload_n 2, 1) := by decide +kernel
theorem dX12_boil_16 : decode cX12_boil 16 = .ok (.iload_n 1, 1) := by decide +kernel
theorem dX12_boil_17 : decode cX12_boil 17 = .ok (.if_icmp .ge 20, 3) := by decide +kernel
theorem dX12_boil_20 : decode cX12_boil 20 = .ok (.aload_n 0, 1) := by decide +kernel
theorem dX12_boil_21 : decode cX12_boil 21 = .ok (.getfield 220, 3) := by decide +kernel
theorem dX12_boil_24 : decode cX12_boil 24 = .ok (.ifCond .le 13, 3) := by decide +kernel
theorem dX12_boil_27 : decode cX12_boil 27 = .ok (.iinc 2 1, 3) := by decide +kernel
theorem dX12_boil_30 : decode cX12_boil 30 = .ok (.aload_n 0, 1) := by decide +kernel
theorem dX12_boil_31 : decode cX12_boil 31 = .ok (.invokevirtual 250, 3) := by decide +kernel
theorem dX12_boil_34 : decode cX12_boil 34 = .ok (.goto (-19), 3) := by decide +kernel
theorem dX12_boil_37 : decode cX12_boil 37 = .ok (.iload_n 2, 1) := by decide +kernel
theorem dX12_boil_38 : decode cX12_boil 38 = .ok (.ireturn, 1) := by decide +kernel

theorem dX12_common_0 : decode cX12_common 0 = .ok (.iload_n 0, 1) := by decide +kernel
theorem dX12_common_1 : decode cX12_common 1 = .ok (.istore_n 2, 1) := by decide +kernel
theorem dX12_common_2 : decode cX12_common 2 = .ok (.iload_n 1, 1) := by decide +kernel
theorem dX12_common_3 : decode cX12_common 3 = .ok (.istore_n 3, 1) := by decide +kernel
theorem dX12_common_4 : decode cX12_common 4 = .ok (.iload_n 3, 1) := by decide +kernel
theorem dX12_common_5 : decode cX12_common 5 = .ok (.ifCond .le 16, 3) := by decide +kernel
theorem dX12_common_8 : decode cX12_common 8 = .ok (.iload_n 2, 1) := by decide +kernel
theorem dX12_common_9 : decode cX12_common 9 = .ok (.iload_n 3, 1) := by decide +kernel
theorem dX12_common_10 : decode cX12_common 10 = .ok (.irem, 1) := by decide +kernel
theorem dX12_common_11 : decode cX12_common 11 = .ok (.istore 4, 2) := by decide +kernel
theorem dX12_common_13 : decode cX12_common 13 = .ok (.iload_n 3, 1) := by decide +kernel
theorem dX12_common_14 : decode cX12_common 14 = .ok (.istore_n 2, 1) := by decide +kernel
theorem dX12_common_15 : decode cX12_common 15 = .ok (.iload 4, 2) := by decide +kernel
theorem dX12_common_17 : decode cX12_common 17 = .ok (.istore_n 3, 1) := by decide +kernel
theorem dX12_common_18 : decode cX12_common 18 = .ok (.goto (-14), 3) := by decide +kernel
theorem dX12_common_21 : decode cX12_common 21 = .ok (.iload_n 2, 1) := by decide +kernel
theorem dX12_common_22 : decode cX12_common 22 = .ok (.ireturn, 1) := by decide +kernel

theorem dX12_count_0 : decode cX12_count 0 = .ok (.iload_n 1, 1) := by decide +kernel
theorem dX12_count_1 : decode cX12_count 1 = .ok (.tableswitch 132 0 12 #[67, 72, 77, 82, 87, 92, 97, 102, 107, 112, 117, 122, 127], 67) := by decide +kernel
theorem dX12_count_68 : decode cX12_count 68 = .ok (.aload_n 0, 1) := by decide +kernel
theorem dX12_count_69 : decode cX12_count 69 = .ok (.getfield 176, 3) := by decide +kernel
theorem dX12_count_72 : decode cX12_count 72 = .ok (.ireturn, 1) := by decide +kernel
theorem dX12_count_73 : decode cX12_count 73 = .ok (.aload_n 0, 1) := by decide +kernel
theorem dX12_count_74 : decode cX12_count 74 = .ok (.getfield 199, 3) := by decide +kernel
theorem dX12_count_77 : decode cX12_count 77 = .ok (.ireturn, 1) := by decide +kernel
theorem dX12_count_78 : decode cX12_count 78 = .ok (.aload_n 0, 1) := by decide +kernel
theorem dX12_count_79 : decode cX12_count 79 = .ok (.getfield 7, 3) := by decide +kernel
theorem dX12_count_82 : decode cX12_count 82 = .ok (.ireturn, 1) := by decide +kernel
theorem dX12_count_83 : decode cX12_count 83 = .ok (.aload_n 0, 1) := by decide +kernel
theorem dX12_count_84 : decode cX12_count 84 = .ok (.getfield 140, 3) := by decide +kernel
theorem dX12_count_87 : decode cX12_count 87 = .ok (.ireturn, 1) := by decide +kernel
theorem dX12_count_88 : decode cX12_count 88 = .ok (.aload_n 0, 1) := by decide +kernel
theorem dX12_count_89 : decode cX12_count 89 = .ok (.getfield 170, 3) := by decide +kernel
theorem dX12_count_92 : decode cX12_count 92 = .ok (.ireturn, 1) := by decide +kernel
theorem dX12_count_93 : decode cX12_count 93 = .ok (.aload_n 0, 1) := by decide +kernel
theorem dX12_count_94 : decode cX12_count 94 = .ok (.getfield 214, 3) := by decide +kernel
theorem dX12_count_97 : decode cX12_count 97 = .ok (.ireturn, 1) := by decide +kernel
theorem dX12_count_98 : decode cX12_count 98 = .ok (.aload_n 0, 1) := by decide +kernel
theorem dX12_count_99 : decode cX12_count 99 = .ok (.getfield 217, 3) := by decide +kernel
theorem dX12_count_102 : decode cX12_count 102 = .ok (.ireturn, 1) := by decide +kernel
theorem dX12_count_103 : decode cX12_count 103 = .ok (.aload_n 0, 1) := by decide +kernel
theorem dX12_count_104 : decode cX12_count 104 = .ok (.getfield 208, 3) := by decide +kernel
theorem dX12_count_107 : decode cX12_count 107 = .ok (.ireturn, 1) := by decide +kernel
theorem dX12_count_108 : decode cX12_count 108 = .ok (.aload_n 0, 1) := by decide +kernel
theorem dX12_count_109 : decode cX12_count 109 = .ok (.getfield 244, 3) := by decide +kernel
theorem dX12_count_112 : decode cX12_count 112 = .ok (.ireturn, 1) := by decide +kernel
theorem dX12_count_113 : decode cX12_count 113 = .ok (.aload_n 0, 1) := by decide +kernel
theorem dX12_count_114 : decode cX12_count 114 = .ok (.getfield 261, 3) := by decide +kernel
theorem dX12_count_117 : decode cX12_count 117 = .ok (.ireturn, 1) := by decide +kernel
theorem dX12_count_118 : decode cX12_count 118 = .ok (.aload_n 0, 1) := by decide +kernel
theorem dX12_count_119 : decode cX12_count 119 = .ok (.getfield 342, 3) := by decide +kernel
theorem dX12_count_122 : decode cX12_count 122 = .ok (.ireturn, 1) := by decide +kernel
theorem dX12_count_123 : decode cX12_count 123 = .ok (.aload_n 0, 1) := by decide +kernel
theorem dX12_count_124 : decode cX12_count 124 = .ok (.getfield 273, 3) := by decide +kernel
theorem dX12_count_127 : decode cX12_count 127 = .ok (.ireturn, 1) := by decide +kernel
theorem dX12_count_128 : decode cX12_count 128 = .ok (.aload_n 0, 1) := by decide +kernel
theorem dX12_count_129 : decode cX12_count 129 = .ok (.getfield 211, 3) := by decide +kernel
theorem dX12_count_132 : decode cX12_count 132 = .ok (.ireturn, 1) := by decide +kernel
theorem dX12_count_133 : decode cX12_count 133 = .ok (.iconst (-1), 1) := by decide +kernel
theorem dX12_count_134 : decode cX12_count 134 = .ok (.ireturn, 1) := by decide +kernel

theorem dX12_day_0 : decode cX12_day 0 = .ok (.iload_n 1, 1) := by decide +kernel
theorem dX12_day_1 : decode cX12_day 1 = .ok (.iload_n 2, 1) := by decide +kernel
theorem dX12_day_2 : decode cX12_day 2 = .ok (.invokestatic 195, 3) := by decide +kernel
theorem dX12_day_5 : decode cX12_day 5 = .ok (.ifCond .eq 12, 3) := by decide +kernel
theorem dX12_day_8 : decode cX12_day 8 = .ok (.aload_n 0, 1) := by decide +kernel
theorem dX12_day_9 : decode cX12_day 9 = .ok (.getfield 199, 3) := by decide +kernel
theorem dX12_day_12 : decode cX12_day 12 = .ok (.bipush 99, 2) := by decide +kernel
theorem dX12_day_14 : decode cX12_day 14 = .ok (.if_icmp .ne 5, 3) := by decide +kernel
theorem dX12_day_17 : decode cX12_day 17 = .ok (.iconst (-1), 1) := by decide +kernel
theorem dX12_day_18 : decode cX12_day 18 = .ok (.ireturn, 1) := by decide +kernel
theorem dX12_day_19 : decode cX12_day 19 = .ok (.iload_n 1, 1) := by decide +kernel
theorem dX12_day_20 : decode cX12_day 20 = .ok (.ineg, 1) := by decide +kernel
theorem dX12_day_21 : decode cX12_day 21 = .ok (.invokestatic 202, 3) := by decide +kernel
theorem dX12_day_24 : decode cX12_day 24 = .ok (.istore_n 3, 1) := by decide +kernel
theorem dX12_day_25 : decode cX12_day 25 = .ok (.iload_n 2, 1) := by decide +kernel
theorem dX12_day_26 : decode cX12_day 26 = .ok (.invokestatic 202, 3) := by decide +kernel
theorem dX12_day_29 : decode cX12_day 29 = .ok (.istore 4, 2) := by decide +kernel
theorem dX12_day_31 : decode cX12_day 31 = .ok (.aload_n 0, 1) := by decide +kernel
theorem dX12_day_32 : decode cX12_day 32 = .ok (.iload_n 3, 1) := by decide +kernel
theorem dX12_day_33 : decode cX12_day 33 = .ok (.ifCond .ne 12, 3) := by decide +kernel
theorem dX12_day_36 : decode cX12_day 36 = .ok (.aload_n 0, 1) := by decide +kernel
theorem dX12_day_37 : decode cX12_day 37 = .ok (.getfield 205, 3) := by decide +kernel
theorem dX12_day_40 : decode cX12_day 40 = .ok (.iconst 1, 1) := by decide +kernel
theorem dX12_day_41 : decode cX12_day 41 = .ok (.iadd, 1) := by decide +kernel
theorem dX12_day_42 : decode cX12_day 42 = .ok (.goto 4, 3) := by decide +kernel
theorem dX12_day_45 : decode cX12_day 45 = .ok (.iconst 0, 1) := by decide +kernel
theorem dX12_day_46 : decode cX12_day 46 = .ok (.putfield 205, 3) := by decide +kernel
theorem dX12_day_49 : decode cX12_day 49 = .ok (.aload_n 0, 1) := by decide +kernel
theorem dX12_day_50 : decode cX12_day 50 = .ok (.getfield 205, 3) := by decide +kernel
theorem dX12_day_53 : decode cX12_day 53 = .ok (.iconst 5, 1) := by decide +kernel
theorem dX12_day_54 : decode cX12_day 54 = .ok (.if_icmp .ne 8, 3) := by decide +kernel
theorem dX12_day_57 : decode cX12_day 57 = .ok (.aload_n 0, 1) := by decide +kernel
theorem dX12_day_58 : decode cX12_day 58 = .ok (.iconst 1, 1) := by decide +kernel
theorem dX12_day_59 : decode cX12_day 59 = .ok (.putfield 191, 3) := by decide +kernel
theorem dX12_day_62 : decode cX12_day 62 = .ok (.iconst 0, 1) := by decide +kernel
theorem dX12_day_63 : decode cX12_day 63 = .ok (.istore 5, 2) := by decide +kernel
theorem dX12_day_65 : decode cX12_day 65 = .ok (.iconst 0, 1) := by decide +kernel
theorem dX12_day_66 : decode cX12_day 66 = .ok (.istore 6, 2) := by decide +kernel
theorem dX12_day_68 : decode cX12_day 68 = .ok (.iload 6, 2) := by decide +kernel
theorem dX12_day_70 : decode cX12_day 70 = .ok (.aload_n 0, 1) := by decide +kernel
theorem dX12_day_71 : decode cX12_day 71 = .ok (.getfield 140, 3) := by decide +kernel
theorem dX12_day_74 : decode cX12_day 74 = .ok (.if_icmp .ge 169, 3) := by decide +kernel
theorem dX12_day_77 : decode cX12_day 77 = .ok (.aload_n 0, 1) := by decide +kernel
theorem dX12_day_78 : decode cX12_day 78 = .ok (.getfield 32, 3) := by decide +kernel
theorem dX12_day_81 : decode cX12_day 81 = .ok (.iload 6, 2) := by decide +kernel
theorem dX12_day_83 : decode cX12_day 83 = .ok (.iaload, 1) := by decide +kernel
theorem dX12_day_84 : decode cX12_day 84 = .ok (.istore 7, 2) := by decide +kernel
theorem dX12_day_86 : decode cX12_day 86 = .ok (.aload_n 0, 1) := by decide +kernel
theorem dX12_day_87 : decode cX12_day 87 = .ok (.getfield 191, 3) := by decide +kernel
theorem dX12_day_90 : decode cX12_day 90 = .ok (.ifCond .eq 7, 3) := by decide +kernel
theorem dX12_day_93 : decode cX12_day 93 = .ok (.iconst 0, 1) := by decide +kernel
theorem dX12_day_94 : decode cX12_day 94 = .ok (.goto 31, 3) := by decide +kernel
theorem dX12_day_97 : decode cX12_day 97 = .ok (.aload_n 0, 1) := by decide +kernel
theorem dX12_day_98 : decode cX12_day 98 = .ok (.iload 6, 2) := by decide +kernel
theorem dX12_day_100 : decode cX12_day 100 = .ok (.aload_n 0, 1) := by decide +kernel
theorem dX12_day_101 : decode cX12_day 101 = .ok (.getfield 176, 3) := by decide +kernel
theorem dX12_day_104 : decode cX12_day 104 = .ok (.invokevirtual 179, 3) := by decide +kernel
theorem dX12_day_107 : decode cX12_day 107 = .ok (.iload_n 3, 1) := by decide +kernel
theorem dX12_day_108 : decode cX12_day 108 = .ok (.iload 4, 2) := by decide +kernel
theorem dX12_day_110 : decode cX12_day 110 = .ok (.imul, 1) := by decide +kernel
theorem dX12_day_111 : decode cX12_day 111 = .ok (.bipush 100, 2) := by decide +kernel
theorem dX12_day_113 : decode cX12_day 113 = .ok (.aload_n 0, 1) := by decide +kernel
theorem dX12_day_114 : decode cX12_day 114 = .ok (.iload 7, 2) := by decide +kernel
theorem dX12_day_116 : decode cX12_day 116 = .ok (.invokevirtual 163, 3) := by decide +kernel
theorem dX12_day_119 : decode cX12_day 119 = .ok (.iadd, 1) := by decide +kernel
theorem dX12_day_120 : decode cX12_day 120 = .ok (.imul, 1) := by decide +kernel
theorem dX12_day_121 : decode cX12_day 121 = .ok (.bipush 100, 2) := by decide +kernel
theorem dX12_day_123 : decode cX12_day 123 = .ok (.idiv, 1) := by decide +kernel
theorem dX12_day_124 : decode cX12_day 124 = .ok (.imul, 1) := by decide +kernel
theorem dX12_day_125 : decode cX12_day 125 = .ok (.istore 8, 2) := by decide +kernel
theorem dX12_day_127 : decode cX12_day 127 = .ok (.aload_n 0, 1) := by decide +kernel
theorem dX12_day_128 : decode cX12_day 128 = .ok (.getfield 38, 3) := by decide +kernel
theorem dX12_day_131 : decode cX12_day 131 = .ok (.iload 6, 2) := by decide +kernel
theorem dX12_day_133 : decode cX12_day 133 = .ok (.dup2, 1) := by decide +kernel
theorem dX12_day_134 : decode cX12_day 134 = .ok (.iaload, 1) := by decide +kernel
theorem dX12_day_135 : decode cX12_day 135 = .ok (.iload 8, 2) := by decide +kernel
theorem dX12_day_137 : decode cX12_day 137 = .ok (.iadd, 1) := by decide +kernel
theorem dX12_day_138 : decode cX12_day 138 = .ok (.iastore, 1) := by decide +kernel
theorem dX12_day_139 : decode cX12_day 139 = .ok (.iload 5, 2) := by decide +kernel
theorem dX12_day_141 : decode cX12_day 141 = .ok (.iload 8, 2) := by decide +kernel
theorem dX12_day_143 : decode cX12_day 143 = .ok (.iadd, 1) := by decide +kernel
theorem dX12_day_144 : decode cX12_day 144 = .ok (.istore 5, 2) := by decide +kernel
theorem dX12_day_146 : decode cX12_day 146 = .ok (.aload_n 0, 1) := by decide +kernel
theorem dX12_day_147 : decode cX12_day 147 = .ok (.iload 7, 2) := by decide +kernel
theorem dX12_day_149 : decode cX12_day 149 = .ok (.invokevirtual 156, 3) := by decide +kernel
theorem dX12_day_152 : decode cX12_day 152 = .ok (.ifCond .ne 17, 3) := by decide +kernel
theorem dX12_day_155 : decode cX12_day 155 = .ok (.aload_n 0, 1) := by decide +kernel
theorem dX12_day_156 : decode cX12_day 156 = .ok (.dup, 1) := by decide +kernel
theorem dX12_day_157 : decode cX12_day 157 = .ok (.getfield 208, 3) := by decide +kernel
theorem dX12_day_160 : decode cX12_day 160 = .ok (.iload 8, 2) := by decide +kernel
theorem dX12_day_162 : decode cX12_day 162 = .ok (.iadd, 1) := by decide +kernel
theorem dX12_day_163 : decode cX12_day 163 = .ok (.putfield 208, 3) := by decide +kernel
theorem dX12_day_166 : decode cX12_day 166 = .ok (.goto 71, 3) := by decide +kernel
theorem dX12_day_169 : decode cX12_day 169 = .ok (.aload_n 0, 1) := by decide +kernel
theorem dX12_day_170 : decode cX12_day 170 = .ok (.dup, 1) := by decide +kernel
theorem dX12_day_171 : decode cX12_day 171 = .ok (.getfield 211, 3) := by decide +kernel
theorem dX12_day_174 : decode cX12_day 174 = .ok (.iload 8, 2) := by decide +kernel
theorem dX12_day_176 : decode cX12_day 176 = .ok (.iadd, 1) := by decide +kernel
theorem dX12_day_177 : decode cX12_day 177 = .ok (.putfield 211, 3) := by decide +kernel
theorem dX12_day_180 : decode cX12_day 180 = .ok (.aload_n 0, 1) := by decide +kernel
theorem dX12_day_181 : decode cX12_day 181 = .ok (.getfield 50, 3) := by decide +kernel
theorem dX12_day_184 : decode cX12_day 184 = .ok (.aload_n 0, 1) := by decide +kernel
theorem dX12_day_185 : decode cX12_day 185 = .ok (.getfield 23, 3) := by decide +kernel
theorem dX12_day_188 : decode cX12_day 188 = .ok (.iload 7, 2) := by decide +kernel
theorem dX12_day_190 : decode cX12_day 190 = .ok (.iaload, 1) := by decide +kernel
theorem dX12_day_191 : decode cX12_day 191 = .ok (.dup2, 1) := by decide +kernel
theorem dX12_day_192 : decode cX12_day 192 = .ok (.iaload, 1) := by decide +kernel
theorem dX12_day_193 : decode cX12_day 193 = .ok (.iload 8, 2) := by decide +kernel
theorem dX12_day_195 : decode cX12_day 195 = .ok (.iadd, 1) := by decide +kernel
theorem dX12_day_196 : decode cX12_day 196 = .ok (.iastore, 1) := by decide +kernel
theorem dX12_day_197 : decode cX12_day 197 = .ok (.iload 8, 2) := by decide +kernel
theorem dX12_day_199 : decode cX12_day 199 = .ok (.sipush 20000, 3) := by decide +kernel
theorem dX12_day_202 : decode cX12_day 202 = .ok (.aload_n 0, 1) := by decide +kernel
theorem dX12_day_203 : decode cX12_day 203 = .ok (.getfield 214, 3) := by decide +kernel
theorem dX12_day_206 : decode cX12_day 206 = .ok (.isub, 1) := by decide +kernel
theorem dX12_day_207 : decode cX12_day 207 = .ok (.invokestatic 188, 3) := by decide +kernel
theorem dX12_day_210 : decode cX12_day 210 = .ok (.istore 9, 2) := by decide +kernel
theorem dX12_day_212 : decode cX12_day 212 = .ok (.aload_n 0, 1) := by decide +kernel
theorem dX12_day_213 : decode cX12_day 213 = .ok (.dup, 1) := by decide +kernel
theorem dX12_day_214 : decode cX12_day 214 = .ok (.getfield 214, 3) := by decide +kernel
theorem dX12_day_217 : decode cX12_day 217 = .ok (.iload 9, 2) := by decide +kernel
theorem dX12_day_219 : decode cX12_day 219 = .ok (.iadd, 1) := by decide +kernel
theorem dX12_day_220 : decode cX12_day 220 = .ok (.putfield 214, 3) := by decide +kernel
theorem dX12_day_223 : decode cX12_day 223 = .ok (.aload_n 0, 1) := by decide +kernel
theorem dX12_day_224 : decode cX12_day 224 = .ok (.dup, 1) := by decide +kernel
theorem dX12_day_225 : decode cX12_day 225 = .ok (.getfield 217, 3) := by decide +kernel
theorem dX12_day_228 : decode cX12_day 228 = .ok (.iload 8, 2) := by decide +kernel
theorem dX12_day_230 : decode cX12_day 230 = .ok (.iload 9, 2) := by decide +kernel
theorem dX12_day_232 : decode cX12_day 232 = .ok (.isub, 1) := by decide +kernel
theorem dX12_day_233 : decode cX12_day 233 = .ok (.iadd, 1) := by decide +kernel
theorem dX12_day_234 : decode cX12_day 234 = .ok (.putfield 217, 3) := by decide +kernel
theorem dX12_day_237 : decode cX12_day 237 = .ok (.iinc 6 1, 3) := by decide +kernel
theorem dX12_day_240 : decode cX12_day 240 = .ok (.goto (-172), 3) := by decide +kernel
theorem dX12_day_243 : decode cX12_day 243 = .ok (.aload_n 0, 1) := by decide +kernel
theorem dX12_day_244 : decode cX12_day 244 = .ok (.getfield 56, 3) := by decide +kernel
theorem dX12_day_247 : decode cX12_day 247 = .ok (.bipush 11, 2) := by decide +kernel
theorem dX12_day_249 : decode cX12_day 249 = .ok (.iload_n 3, 1) := by decide +kernel
theorem dX12_day_250 : decode cX12_day 250 = .ok (.imul, 1) := by decide +kernel
theorem dX12_day_251 : decode cX12_day 251 = .ok (.iload 4, 2) := by decide +kernel
theorem dX12_day_253 : decode cX12_day 253 = .ok (.iadd, 1) := by decide +kernel
theorem dX12_day_254 : decode cX12_day 254 = .ok (.dup2, 1) := by decide +kernel
theorem dX12_day_255 : decode cX12_day 255 = .ok (.iaload, 1) := by decide +kernel
theorem dX12_day_256 : decode cX12_day 256 = .ok (.iload 5, 2) := by decide +kernel
theorem dX12_day_258 : decode cX12_day 258 = .ok (.iadd, 1) := by decide +kernel
theorem dX12_day_259 : decode cX12_day 259 = .ok (.iastore, 1) := by decide +kernel
theorem dX12_day_260 : decode cX12_day 260 = .ok (.aload_n 0, 1) := by decide +kernel
theorem dX12_day_261 : decode cX12_day 261 = .ok (.getfield 59, 3) := by decide +kernel
theorem dX12_day_264 : decode cX12_day 264 = .ok (.bipush 11, 2) := by decide +kernel
theorem dX12_day_266 : decode cX12_day 266 = .ok (.iload_n 3, 1) := by decide +kernel
theorem dX12_day_267 : decode cX12_day 267 = .ok (.imul, 1) := by decide +kernel
theorem dX12_day_268 : decode cX12_day 268 = .ok (.iload 4, 2) := by decide +kernel
theorem dX12_day_270 : decode cX12_day 270 = .ok (.iadd, 1) := by decide +kernel
theorem dX12_day_271 : decode cX12_day 271 = .ok (.dup2, 1) := by decide +kernel
theorem dX12_day_272 : decode cX12_day 272 = .ok (.iaload, 1) := by decide +kernel
theorem dX12_day_273 : decode cX12_day 273 = .ok (.iconst 1, 1) := by decide +kernel
theorem dX12_day_274 : decode cX12_day 274 = .ok (.iadd, 1) := by decide +kernel
theorem dX12_day_275 : decode cX12_day 275 = .ok (.iastore, 1) := by decide +kernel
theorem dX12_day_276 : decode cX12_day 276 = .ok (.aload_n 0, 1) := by decide +kernel
theorem dX12_day_277 : decode cX12_day 277 = .ok (.dup, 1) := by decide +kernel
theorem dX12_day_278 : decode cX12_day 278 = .ok (.getfield 199, 3) := by decide +kernel
theorem dX12_day_281 : decode cX12_day 281 = .ok (.iconst 1, 1) := by decide +kernel
theorem dX12_day_282 : decode cX12_day 282 = .ok (.iadd, 1) := by decide +kernel
theorem dX12_day_283 : decode cX12_day 283 = .ok (.putfield 199, 3) := by decide +kernel
theorem dX12_day_286 : decode cX12_day 286 = .ok (.aload_n 0, 1) := by decide +kernel
theorem dX12_day_287 : decode cX12_day 287 = .ok (.getfield 199, 3) := by decide +kernel
theorem dX12_day_290 : decode cX12_day 290 = .ok (.ireturn, 1) := by decide +kernel

theorem dX12_dump_0 : decode cX12_dump 0 = .ok (.aload_n 0, 1) := by decide +kernel
theorem dX12_dump_1 : decode cX12_dump 1 = .ok (.getfield 220, 3) := by decide +kernel
theorem dX12_dump_4 : decode cX12_dump 4 = .ok (.istore_n 1, 1) := by decide +kernel
theorem dX12_dump_5 : decode cX12_dump 5 = .ok (.aload_n 0, 1) := by decide +kernel
theorem dX12_dump_6 : decode cX12_dump 6 = .ok (.invokevirtual 236, 3) := by decide +kernel
theorem dX12_dump_9 : decode cX12_dump 9 = .ok (.iload_n 1, 1) := by decide +kernel
theorem dX12_dump_10 : decode cX12_dump 10 = .ok (.ireturn, 1) := by decide +kernel

theorem dX12_emptyPan_0 : decode cX12_emptyPan 0 = .ok (.aload_n 0, 1) := by decide +kernel
theorem dX12_emptyPan_1 : decode cX12_emptyPan 1 = .ok (.iconst 0, 1) := by decide +kernel
theorem dX12_emptyPan_2 : decode cX12_emptyPan 2 = .ok (.putfield 220, 3) := by decide +kernel
theorem dX12_emptyPan_5 : decode cX12_emptyPan 5 = .ok (.aload_n 0, 1) := by decide +kernel
theorem dX12_emptyPan_6 : decode cX12_emptyPan 6 = .ok (.lconst 0, 1) := by decide +kernel
theorem dX12_emptyPan_7 : decode cX12_emptyPan 7 = .ok (.putfield 223, 3) := by decide +kernel
theorem dX12_emptyPan_10 : decode cX12_emptyPan 10 = .ok (.aload_n 0, 1) := by decide +kernel
theorem dX12_emptyPan_11 : decode cX12_emptyPan 11 = .ok (.iconst 0, 1) := by decide +kernel
theorem dX12_emptyPan_12 : decode cX12_emptyPan 12 = .ok (.putfield 227, 3) := by decide +kernel
theorem dX12_emptyPan_15 : decode cX12_emptyPan 15 = .ok (.aload_n 0, 1) := by decide +kernel
theorem dX12_emptyPan_16 : decode cX12_emptyPan 16 = .ok (.iconst 0, 1) := by decide +kernel
theorem dX12_emptyPan_17 : decode cX12_emptyPan 17 = .ok (.putfield 230, 3) := by decide +kernel
theorem dX12_emptyPan_20 : decode cX12_emptyPan 20 = .ok (.aload_n 0, 1) := by decide +kernel
theorem dX12_emptyPan_21 : decode cX12_emptyPan 21 = .ok (.iconst 0, 1) := by decide +kernel
theorem dX12_emptyPan_22 : decode cX12_emptyPan 22 = .ok (.putfield 233, 3) := by decide +kernel
theorem dX12_emptyPan_25 : decode cX12_emptyPan 25 = .ok (.return_, 1) := by decide +kernel

theorem dX12_fault_0 : decode cX12_fault 0 = .ok (.aload_n 0, 1) := by decide +kernel
theorem dX12_fault_1 : decode cX12_fault 1 = .ok (.getfield 91, 3) := by decide +kernel
theorem dX12_fault_4 : decode cX12_fault 4 = .ok (.ireturn, 1) := by decide +kernel

theorem dX12_feed_0 : decode cX12_feed 0 = .ok (.aload_n 0, 1) := by decide +kernel
theorem dX12_feed_1 : decode cX12_feed 1 = .ok (.getfield 273, 3) := by decide +kernel
theorem dX12_feed_4 : decode cX12_feed 4 = .ok (.bipush 20, 2) := by decide +kernel
theorem dX12_feed_6 : decode cX12_feed 6 = .ok (.iadd, 1) := by decide +kernel
theorem dX12_feed_7 : decode cX12_feed 7 = .ok (.sipush 600, 3) := by decide +kernel
theorem dX12_feed_10 : decode cX12_feed 10 = .ok (.if_icmp .le 5, 3) := by decide +kernel
theorem dX12_feed_13 : decode cX12_feed 13 = .ok (.iconst (-1), 1) := by decide +kernel
theorem dX12_feed_14 : decode cX12_feed 14 = .ok (.ireturn, 1) := by decide +kernel
theorem dX12_feed_15 : decode cX12_feed 15 = .ok (.aload_n 0, 1) := by decide +kernel
theorem dX12_feed_16 : decode cX12_feed 16 = .ok (.iload_n 1, 1) := by decide +kernel
theorem dX12_feed_17 : decode cX12_feed 17 = .ok (.invokevirtual 276, 3) := by decide +kernel
theorem dX12_feed_20 : decode cX12_feed 20 = .ok (.aload_n 0, 1) := by decide +kernel
theorem dX12_feed_21 : decode cX12_feed 21 = .ok (.iload_n 2, 1) := by decide +kernel
theorem dX12_feed_22 : decode cX12_feed 22 = .ok (.invokevirtual 276, 3) := by decide +kernel
theorem dX12_feed_25 : decode cX12_feed 25 = .ok (.aload_n 0, 1) := by decide +kernel
theorem dX12_feed_26 : decode cX12_feed 26 = .ok (.iload_n 3, 1) := by decide +kernel
theorem dX12_feed_27 : decode cX12_feed 27 = .ok (.invokevirtual 276, 3) := by decide +kernel
theorem dX12_feed_30 : decode cX12_feed 30 = .ok (.aload_n 0, 1) := by decide +kernel
theorem dX12_feed_31 : decode cX12_feed 31 = .ok (.iload 4, 2) := by decide +kernel
theorem dX12_feed_33 : decode cX12_feed 33 = .ok (.invokevirtual 276, 3) := by decide +kernel
theorem dX12_feed_36 : decode cX12_feed 36 = .ok (.aload_n 0, 1) := by decide +kernel
theorem dX12_feed_37 : decode cX12_feed 37 = .ok (.iload 5, 2) := by decide +kernel
theorem dX12_feed_39 : decode cX12_feed 39 = .ok (.invokevirtual 276, 3) := by decide +kernel
theorem dX12_feed_42 : decode cX12_feed 42 = .ok (.aload_n 0, 1) := by decide +kernel
theorem dX12_feed_43 : decode cX12_feed 43 = .ok (.getfield 273, 3) := by decide +kernel
theorem dX12_feed_46 : decode cX12_feed 46 = .ok (.ireturn, 1) := by decide +kernel

theorem dX12_firstRule_0 : decode cX12_firstRule 0 = .ok (.iconst 0, 1) := by decide +kernel
theorem dX12_firstRule_1 : decode cX12_firstRule 1 = .ok (.istore 4, 2) := by decide +kernel
theorem dX12_firstRule_3 : decode cX12_firstRule 3 = .ok (.iload 4, 2) := by decide +kernel
theorem dX12_firstRule_5 : decode cX12_firstRule 5 = .ok (.aload_n 0, 1) := by decide +kernel
theorem dX12_firstRule_6 : decode cX12_firstRule 6 = .ok (.getfield 342, 3) := by decide +kernel
theorem dX12_firstRule_9 : decode cX12_firstRule 9 = .ok (.if_icmp .ge 288, 3) := by decide +kernel
theorem dX12_firstRule_12 : decode cX12_firstRule 12 = .ok (.aload_n 0, 1) := by decide +kernel
theorem dX12_firstRule_13 : decode cX12_firstRule 13 = .ok (.getfield 94, 3) := by decide +kernel
theorem dX12_firstRule_16 : decode cX12_firstRule 16 = .ok (.iload 4, 2) := by decide +kernel
theorem dX12_firstRule_18 : decode cX12_firstRule 18 = .ok (.baload, 1) := by decide +kernel
theorem dX12_firstRule_19 : decode cX12_firstRule 19 = .ok (.iload_n 1, 1) := by decide +kernel
theorem dX12_firstRule_20 : decode cX12_firstRule 20 = .ok (.if_icmp .ne 7, 3) := by decide +kernel
theorem dX12_firstRule_23 : decode cX12_firstRule 23 = .ok (.iconst 1, 1) := by decide +kernel
theorem dX12_firstRule_24 : decode cX12_firstRule 24 = .ok (.goto 4, 3) := by decide +kernel
theorem dX12_firstRule_27 : decode cX12_firstRule 27 = .ok (.iconst 0, 1) := by decide +kernel
theorem dX12_firstRule_28 : decode cX12_firstRule 28 = .ok (.istore 5, 2) := by decide +kernel
theorem dX12_firstRule_30 : decode cX12_firstRule 30 = .ok (.iconst 3, 1) := by decide +kernel
theorem dX12_firstRule_31 : decode cX12_firstRule 31 = .ok (.iload 4, 2) := by decide +kernel
theorem dX12_firstRule_33 : decode cX12_firstRule 33 = .ok (.imul, 1) := by decide +kernel
theorem dX12_firstRule_34 : decode cX12_firstRule 34 = .ok (.istore 6, 2) := by decide +kernel
theorem dX12_firstRule_36 : decode cX12_firstRule 36 = .ok (.iload 6, 2) := by decide +kernel
theorem dX12_firstRule_38 : decode cX12_firstRule 38 = .ok (.iconst 3, 1) := by decide +kernel
theorem dX12_firstRule_39 : decode cX12_firstRule 39 = .ok (.iload 4, 2) := by decide +kernel
theorem dX12_firstRule_41 : decode cX12_firstRule 41 = .ok (.imul, 1) := by decide +kernel
theorem dX12_firstRule_42 : decode cX12_firstRule 42 = .ok (.aload_n 0, 1) := by decide +kernel
theorem dX12_firstRule_43 : decode cX12_firstRule 43 = .ok (.getfield 106, 3) := by decide +kernel
theorem dX12_firstRule_46 : decode cX12_firstRule 46 = .ok (.iload 4, 2) := by decide +kernel
theorem dX12_firstRule_48 : decode cX12_firstRule 48 = .ok (.iaload, 1) := by decide +kernel
theorem dX12_firstRule_49 : decode cX12_firstRule 49 = .ok (.iadd, 1) := by decide +kernel
theorem dX12_firstRule_50 : decode cX12_firstRule 50 = .ok (.if_icmp .ge 233, 3) := by decide +kernel
theorem dX12_firstRule_53 : decode cX12_firstRule 53 = .ok (.iload 5, 2) := by decide +kernel
theorem dX12_firstRule_55 : decode cX12_firstRule 55 = .ok (.ifCond .eq 228, 3) := by decide +kernel
theorem dX12_firstRule_58 : decode cX12_firstRule 58 = .ok (.aload_n 0, 1) := by decide +kernel
theorem dX12_firstRule_59 : decode cX12_firstRule 59 = .ok (.getfield 109, 3) := by decide +kernel
theorem dX12_firstRule_62 : decode cX12_firstRule 62 = .ok (.iload 6, 2) := by decide +kernel
theorem dX12_firstRule_64 : decode cX12_firstRule 64 = .ok (.iaload, 1) := by decide +kernel
theorem dX12_firstRule_65 : decode cX12_firstRule 65 = .ok (.istore 7, 2) := by decide +kernel
theorem dX12_firstRule_67 : decode cX12_firstRule 67 = .ok (.iload_n 1, 1) := by decide +kernel
theorem dX12_firstRule_68 : decode cX12_firstRule 68 = .ok (.ifCond .eq 73, 3) := by decide +kernel
theorem dX12_firstRule_71 : decode cX12_firstRule 71 = .ok (.iload 7, 2) := by decide +kernel
theorem dX12_firstRule_73 : decode cX12_firstRule 73 = .ok (.ifCond .ne 10, 3) := by decide +kernel
theorem dX12_firstRule_76 : decode cX12_firstRule 76 = .ok (.aload_n 0, 1) := by decide +kernel
theorem dX12_firstRule_77 : decode cX12_firstRule 77 = .ok (.invokevirtual 257, 3) := by decide +kernel
theorem dX12_firstRule_80 : decode cX12_firstRule 80 = .ok (.goto 56, 3) := by decide +kernel
theorem dX12_firstRule_83 : decode cX12_firstRule 83 = .ok (.iload 7, 2) := by decide +kernel
theorem dX12_firstRule_85 : decode cX12_firstRule 85 = .ok (.iconst 1, 1) := by decide +kernel
theorem dX12_firstRule_86 : decode cX12_firstRule 86 = .ok (.if_icmp .ne 10, 3) := by decide +kernel
theorem dX12_firstRule_89 : decode cX12_firstRule 89 = .ok (.aload_n 0, 1) := by decide +kernel
theorem dX12_firstRule_90 : decode cX12_firstRule 90 = .ok (.getfield 220, 3) := by decide +kernel
theorem dX12_firstRule_93 : decode cX12_firstRule 93 = .ok (.goto 43, 3) := by decide +kernel
theorem dX12_firstRule_96 : decode cX12_firstRule 96 = .ok (.iload 7, 2) := by decide +kernel
theorem dX12_firstRule_98 : decode cX12_firstRule 98 = .ok (.iconst 2, 1) := by decide +kernel
theorem dX12_firstRule_99 : decode cX12_firstRule 99 = .ok (.if_icmp .ne 10, 3) := by decide +kernel
theorem dX12_firstRule_102 : decode cX12_firstRule 102 = .ok (.aload_n 0, 1) := by decide +kernel
theorem dX12_firstRule_103 : decode cX12_firstRule 103 = .ok (.getfield 227, 3) := by decide +kernel
theorem dX12_firstRule_106 : decode cX12_firstRule 106 = .ok (.goto 30, 3) := by decide +kernel
theorem dX12_firstRule_109 : decode cX12_firstRule 109 = .ok (.iload 7, 2) := by decide +kernel
theorem dX12_firstRule_111 : decode cX12_firstRule 111 = .ok (.iconst 3, 1) := by decide +kernel
theorem dX12_firstRule_112 : decode cX12_firstRule 112 = .ok (.if_icmp .ne 10, 3) := by decide +kernel
theorem dX12_firstRule_115 : decode cX12_firstRule 115 = .ok (.aload_n 0, 1) := by decide +kernel
theorem dX12_firstRule_116 : decode cX12_firstRule 116 = .ok (.getfield 230, 3) := by decide +kernel
theorem dX12_firstRule_119 : decode cX12_firstRule 119 = .ok (.goto 17, 3) := by decide +kernel
theorem dX12_firstRule_122 : decode cX12_firstRule 122 = .ok (.iload 7, 2) := by decide +kernel
theorem dX12_firstRule_124 : decode cX12_firstRule 124 = .ok (.iconst 4, 1) := by decide +kernel
theorem dX12_firstRule_125 : decode cX12_firstRule 125 = .ok (.if_icmp .ne 7, 3) := by decide +kernel
theorem dX12_firstRule_128 : decode cX12_firstRule 128 = .ok (.iconst (-1), 1) := by decide +kernel
theorem dX12_firstRule_129 : decode cX12_firstRule 129 = .ok (.goto 7, 3) := by decide +kernel
theorem dX12_firstRule_132 : decode cX12_firstRule 132 = .ok (.aload_n 0, 1) := by decide +kernel
theorem dX12_firstRule_133 : decode cX12_firstRule 133 = .ok (.getfield 199, 3) := by decide +kernel
theorem dX12_firstRule_136 : decode cX12_firstRule 136 = .ok (.istore 8, 2) := by decide +kernel
theorem dX12_firstRule_138 : decode cX12_firstRule 138 = .ok (.goto 60, 3) := by decide +kernel
theorem dX12_firstRule_141 : decode cX12_firstRule 141 = .ok (.iload 7, 2) := by decide +kernel
theorem dX12_firstRule_143 : decode cX12_firstRule 143 = .ok (.ifCond .ne 12, 3) := by decide +kernel
theorem dX12_firstRule_146 : decode cX12_firstRule 146 = .ok (.aload_n 0, 1) := by decide +kernel
theorem dX12_firstRule_147 : decode cX12_firstRule 147 = .ok (.getfield 65, 3) := by decide +kernel
theorem dX12_firstRule_150 : decode cX12_firstRule 150 = .ok (.iload_n 2, 1) := by decide +kernel
theorem dX12_firstRule_151 : decode cX12_firstRule 151 = .ok (.iaload, 1) := by decide +kernel
theorem dX12_firstRule_152 : decode cX12_firstRule 152 = .ok (.goto 44, 3) := by decide +kernel
theorem dX12_firstRule_155 : decode cX12_firstRule 155 = .ok (.iload 7, 2) := by decide +kernel
theorem dX12_firstRule_157 : decode cX12_firstRule 157 = .ok (.iconst 1, 1) := by decide +kernel
theorem dX12_firstRule_158 : decode cX12_firstRule 158 = .ok (.if_icmp .ne 12, 3) := by decide +kernel
theorem dX12_firstRule_161 : decode cX12_firstRule 161 = .ok (.aload_n 0, 1) := by decide +kernel
theorem dX12_firstRule_162 : decode cX12_firstRule 162 = .ok (.getfield 62, 3) := by decide +kernel
theorem dX12_firstRule_165 : decode cX12_firstRule 165 = .ok (.iload_n 2, 1) := by decide +kernel
theorem dX12_firstRule_166 : decode cX12_firstRule 166 = .ok (.iaload, 1) := by decide +kernel
theorem dX12_firstRule_167 : decode cX12_firstRule 167 = .ok (.goto 29, 3) := by decide +kernel
theorem dX12_firstRule_170 : decode cX12_firstRule 170 = .ok (.iload 7, 2) := by decide +kernel
theorem dX12_firstRule_172 : decode cX12_firstRule 172 = .ok (.iconst 4, 1) := by decide +kernel
theorem dX12_firstRule_173 : decode cX12_firstRule 173 = .ok (.if_icmp .ne 7, 3) := by decide +kernel
theorem dX12_firstRule_176 : decode cX12_firstRule 176 = .ok (.iload_n 3, 1) := by decide +kernel
theorem dX12_firstRule_177 : decode cX12_firstRule 177 = .ok (.goto 19, 3) := by decide +kernel
theorem dX12_firstRule_180 : decode cX12_firstRule 180 = .ok (.iload 7, 2) := by decide +kernel
theorem dX12_firstRule_182 : decode cX12_firstRule 182 = .ok (.iconst 5, 1) := by decide +kernel
theorem dX12_firstRule_183 : decode cX12_firstRule 183 = .ok (.if_icmp .ne 12, 3) := by decide +kernel
theorem dX12_firstRule_186 : decode cX12_firstRule 186 = .ok (.aload_n 0, 1) := by decide +kernel
theorem dX12_firstRule_187 : decode cX12_firstRule 187 = .ok (.getfield 68, 3) := by decide +kernel
theorem dX12_firstRule_190 : decode cX12_firstRule 190 = .ok (.iload_n 2, 1) := by decide +kernel
theorem dX12_firstRule_191 : decode cX12_firstRule 191 = .ok (.iaload, 1) := by decide +kernel
theorem dX12_firstRule_192 : decode cX12_firstRule 192 = .ok (.goto 4, 3) := by decide +kernel
theorem dX12_firstRule_195 : decode cX12_firstRule 195 = .ok (.iconst (-1), 1) := by decide +kernel
theorem dX12_firstRule_196 : decode cX12_firstRule 196 = .ok (.istore 8, 2) := by decide +kernel
theorem dX12_firstRule_198 : decode cX12_firstRule 198 = .ok (.iload 8, 2) := by decide +kernel
theorem dX12_firstRule_200 : decode cX12_firstRule 200 = .ok (.iconst (-1), 1) := by decide +kernel
theorem dX12_firstRule_201 : decode cX12_firstRule 201 = .ok (.if_icmp .eq 73, 3) := by decide +kernel
theorem dX12_firstRule_204 : decode cX12_firstRule 204 = .ok (.aload_n 0, 1) := by decide +kernel
theorem dX12_firstRule_205 : decode cX12_firstRule 205 = .ok (.getfield 112, 3) := by decide +kernel
theorem dX12_firstRule_208 : decode cX12_firstRule 208 = .ok (.iload 6, 2) := by decide +kernel
theorem dX12_firstRule_210 : decode cX12_firstRule 210 = .ok (.iaload, 1) := by decide +kernel
theorem dX12_firstRule_211 : decode cX12_firstRule 211 = .ok (.bipush 60, 2) := by decide +kernel
theorem dX12_firstRule_213 : decode cX12_firstRule 213 = .ok (.if_icmp .ne 18, 3) := by decide +kernel
theorem dX12_firstRule_216 : decode cX12_firstRule 216 = .ok (.iload 8, 2) := by decide +kernel
theorem dX12_firstRule_218 : decode cX12_firstRule 218 = .ok (.aload_n 0, 1) := by decide +kernel
theorem dX12_firstRule_219 : decode cX12_firstRule 219 = .ok (.getfield 115, 3) := by decide +kernel
theorem dX12_firstRule_222 : decode cX12_firstRule 222 = .ok (.iload 6, 2) := by decide +kernel
theorem dX12_firstRule_224 : decode cX12_firstRule 224 = .ok (.iaload, 1) := by decide +kernel
theorem dX12_firstRule_225 : decode cX12_firstRule 225 = .ok (.if_icmp .ge 49, 3) := by decide +kernel
theorem dX12_firstRule_228 : decode cX12_firstRule 228 = .ok (.goto 42, 3) := by decide +kernel
theorem dX12_firstRule_231 : decode cX12_firstRule 231 = .ok (.aload_n 0, 1) := by decide +kernel
theorem dX12_firstRule_232 : decode cX12_firstRule 232 = .ok (.getfield 112, 3) := by decide +kernel
theorem dX12_firstRule_235 : decode cX12_firstRule 235 = .ok (.iload 6, 2) := by decide +kernel
theorem dX12_firstRule_237 : decode cX12_firstRule 237 = .ok (.iaload, 1) := by decide +kernel
theorem dX12_firstRule_238 : decode cX12_firstRule 238 = .ok (.bipush 62, 2) := by decide +kernel
theorem dX12_firstRule_240 : decode cX12_firstRule 240 = .ok (.if_icmp .ne 18, 3) := by decide +kernel
theorem dX12_firstRule_243 : decode cX12_firstRule 243 = .ok (.iload 8, 2) := by decide +kernel
theorem dX12_firstRule_245 : decode cX12_firstRule 245 = .ok (.aload_n 0, 1) := by decide +kernel
theorem dX12_firstRule_246 : decode cX12_firstRule 246 = .ok (.getfield 115, 3) := by decide +kernel
theorem dX12_firstRule_249 : decode cX12_firstRule 249 = .ok (.iload 6, 2) := by decide +kernel
theorem dX12_firstRule_251 : decode cX12_firstRule 251 = .ok (.iaload, 1) := by decide +kernel
theorem dX12_firstRule_252 : decode cX12_firstRule 252 = .ok (.if_icmp .le 22, 3) := by decide +kernel
theorem dX12_firstRule_255 : decode cX12_firstRule 255 = .ok (.goto 15, 3) := by decide +kernel
theorem dX12_firstRule_258 : decode cX12_firstRule 258 = .ok (.iload 8, 2) := by decide +kernel
theorem dX12_firstRule_260 : decode cX12_firstRule 260 = .ok (.aload_n 0, 1) := by decide +kernel
theorem dX12_firstRule_261 : decode cX12_firstRule 261 = .ok (.getfield 115, 3) := by decide +kernel
theorem dX12_firstRule_264 : decode cX12_firstRule 264 = .ok (.iload 6, 2) := by decide +kernel
theorem dX12_firstRule_266 : decode cX12_firstRule 266 = .ok (.iaload, 1) := by decide +kernel
theorem dX12_firstRule_267 : decode cX12_firstRule 267 = .ok (.if_icmp .ne 7, 3) := by decide +kernel
theorem dX12_firstRule_270 : decode cX12_firstRule 270 = .ok (.iconst 1, 1) := by decide +kernel
theorem dX12_firstRule_271 : decode cX12_firstRule 271 = .ok (.goto 4, 3) := by decide +kernel
theorem dX12_firstRule_274 : decode cX12_firstRule 274 = .ok (.iconst 0, 1) := by decide +kernel
theorem dX12_firstRule_275 : decode cX12_firstRule 275 = .ok (.istore 5, 2) := by decide +kernel
theorem dX12_firstRule_277 : decode cX12_firstRule 277 = .ok (.iinc 6 1, 3) := by decide +kernel
theorem dX12_firstRule_280 : decode cX12_firstRule 280 = .ok (.goto (-244), 3) := by decide +kernel
theorem dX12_firstRule_283 : decode cX12_firstRule 283 = .ok (.iload 5, 2) := by decide +kernel
theorem dX12_firstRule_285 : decode cX12_firstRule 285 = .ok (.ifCond .eq 6, 3) := by decide +kernel
theorem dX12_firstRule_288 : decode cX12_firstRule 288 = .ok (.iload 4, 2) := by decide +kernel
theorem dX12_firstRule_290 : decode cX12_firstRule 290 = .ok (.ireturn, 1) := by decide +kernel
theorem dX12_firstRule_291 : decode cX12_firstRule 291 = .ok (.iinc 4 1, 3) := by decide +kernel
theorem dX12_firstRule_294 : decode cX12_firstRule 294 = .ok (.goto (-291), 3) := by decide +kernel
theorem dX12_firstRule_297 : decode cX12_firstRule 297 = .ok (.iconst (-1), 1) := by decide +kernel
theorem dX12_firstRule_298 : decode cX12_firstRule 298 = .ok (.ireturn, 1) := by decide +kernel

theorem dX12_foretold_0 : decode cX12_foretold 0 = .ok (.iload_n 1, 1) := by decide +kernel
theorem dX12_foretold_1 : decode cX12_foretold 1 = .ok (.iload_n 2, 1) := by decide +kernel
theorem dX12_foretold_2 : decode cX12_foretold 2 = .ok (.invokestatic 195, 3) := by decide +kernel
theorem dX12_foretold_5 : decode cX12_foretold 5 = .ok (.ifCond .eq 12, 3) := by decide +kernel
theorem dX12_foretold_8 : decode cX12_foretold 8 = .ok (.iload_n 3, 1) := by decide +kernel
theorem dX12_foretold_9 : decode cX12_foretold 9 = .ok (.iconst 0, 1) := by decide +kernel
theorem dX12_foretold_10 : decode cX12_foretold 10 = .ok (.iconst 1, 1) := by decide +kernel
theorem dX12_foretold_11 : decode cX12_foretold 11 = .ok (.invokestatic 136, 3) := by decide +kernel
theorem dX12_foretold_14 : decode cX12_foretold 14 = .ok (.ifCond .ne 5, 3) := by decide +kernel
theorem dX12_foretold_17 : decode cX12_foretold 17 = .ok (.iconst (-1), 1) := by decide +kernel
theorem dX12_foretold_18 : decode cX12_foretold 18 = .ok (.ireturn, 1) := by decide +kernel
theorem dX12_foretold_19 : decode cX12_foretold 19 = .ok (.bipush 11, 2) := by decide +kernel
theorem dX12_foretold_21 : decode cX12_foretold 21 = .ok (.iload_n 1, 1) := by decide +kernel
theorem dX12_foretold_22 : decode cX12_foretold 22 = .ok (.ineg, 1) := by decide +kernel
theorem dX12_foretold_23 : decode cX12_foretold 23 = .ok (.invokestatic 202, 3) := by decide +kernel
theorem dX12_foretold_26 : decode cX12_foretold 26 = .ok (.imul, 1) := by decide +kernel
theorem dX12_foretold_27 : decode cX12_foretold 27 = .ok (.iload_n 2, 1) := by decide +kernel
theorem dX12_foretold_28 : decode cX12_foretold 28 = .ok (.invokestatic 202, 3) := by decide +kernel
theorem dX12_foretold_31 : decode cX12_foretold 31 = .ok (.iadd, 1) := by decide +kernel
theorem dX12_foretold_32 : decode cX12_foretold 32 = .ok (.istore 4, 2) := by decide +kernel
theorem dX12_foretold_34 : decode cX12_foretold 34 = .ok (.aload_n 0, 1) := by decide +kernel
theorem dX12_foretold_35 : decode cX12_foretold 35 = .ok (.getfield 59, 3) := by decide +kernel
theorem dX12_foretold_38 : decode cX12_foretold 38 = .ok (.iload 4, 2) := by decide +kernel
theorem dX12_foretold_40 : decode cX12_foretold 40 = .ok (.iaload, 1) := by decide +kernel
theorem dX12_foretold_41 : decode cX12_foretold 41 = .ok (.ifCond .ne 5, 3) := by decide +kernel
theorem dX12_foretold_44 : decode cX12_foretold 44 = .ok (.iconst (-1), 1) := by decide +kernel
theorem dX12_foretold_45 : decode cX12_foretold 45 = .ok (.ireturn, 1) := by decide +kernel
theorem dX12_foretold_46 : decode cX12_foretold 46 = .ok (.aload_n 0, 1) := by decide +kernel
theorem dX12_foretold_47 : decode cX12_foretold 47 = .ok (.getfield 56, 3) := by decide +kernel
theorem dX12_foretold_50 : decode cX12_foretold 50 = .ok (.iload 4, 2) := by decide +kernel
theorem dX12_foretold_52 : decode cX12_foretold 52 = .ok (.iaload, 1) := by decide +kernel
theorem dX12_foretold_53 : decode cX12_foretold 53 = .ok (.aload_n 0, 1) := by decide +kernel
theorem dX12_foretold_54 : decode cX12_foretold 54 = .ok (.getfield 59, 3) := by decide +kernel
theorem dX12_foretold_57 : decode cX12_foretold 57 = .ok (.iload 4, 2) := by decide +kernel
theorem dX12_foretold_59 : decode cX12_foretold 59 = .ok (.iaload, 1) := by decide +kernel
theorem dX12_foretold_60 : decode cX12_foretold 60 = .ok (.invokestatic 239, 3) := by decide +kernel
theorem dX12_foretold_63 : decode cX12_foretold 63 = .ok (.istore 5, 2) := by decide +kernel
theorem dX12_foretold_65 : decode cX12_foretold 65 = .ok (.iload_n 3, 1) := by decide +kernel
theorem dX12_foretold_66 : decode cX12_foretold 66 = .ok (.ifCond .ne 16, 3) := by decide +kernel
theorem dX12_foretold_69 : decode cX12_foretold 69 = .ok (.aload_n 0, 1) := by decide +kernel
theorem dX12_foretold_70 : decode cX12_foretold 70 = .ok (.getfield 56, 3) := by decide +kernel
theorem dX12_foretold_73 : decode cX12_foretold 73 = .ok (.iload 4, 2) := by decide +kernel
theorem dX12_foretold_75 : decode cX12_foretold 75 = .ok (.iaload, 1) := by decide +kernel
theorem dX12_foretold_76 : decode cX12_foretold 76 = .ok (.iload 5, 2) := by decide +kernel
theorem dX12_foretold_78 : decode cX12_foretold 78 = .ok (.idiv, 1) := by decide +kernel
theorem dX12_foretold_79 : decode cX12_foretold 79 = .ok (.goto 13, 3) := by decide +kernel
theorem dX12_foretold_82 : decode cX12_foretold 82 = .ok (.aload_n 0, 1) := by decide +kernel
theorem dX12_foretold_83 : decode cX12_foretold 83 = .ok (.getfield 59, 3) := by decide +kernel
theorem dX12_foretold_86 : decode cX12_foretold 86 = .ok (.iload 4, 2) := by decide +kernel
theorem dX12_foretold_88 : decode cX12_foretold 88 = .ok (.iaload, 1) := by decide +kernel
theorem dX12_foretold_89 : decode cX12_foretold 89 = .ok (.iload 5, 2) := by decide +kernel
theorem dX12_foretold_91 : decode cX12_foretold 91 = .ok (.idiv, 1) := by decide +kernel
theorem dX12_foretold_92 : decode cX12_foretold 92 = .ok (.ireturn, 1) := by decide +kernel

theorem dX12_four_0 : decode cX12_four 0 = .ok (.bipush 24, 2) := by decide +kernel
theorem dX12_four_2 : decode cX12_four 2 = .ok (.istore_n 2, 1) := by decide +kernel
theorem dX12_four_3 : decode cX12_four 3 = .ok (.iload_n 2, 1) := by decide +kernel
theorem dX12_four_4 : decode cX12_four 4 = .ok (.ifCond .lt 32, 3) := by decide +kernel
theorem dX12_four_7 : decode cX12_four 7 = .ok (.aload_n 0, 1) := by decide +kernel
theorem dX12_four_8 : decode cX12_four 8 = .ok (.getfield 84, 3) := by decide +kernel
theorem dX12_four_11 : decode cX12_four 11 = .ok (.aload_n 0, 1) := by decide +kernel
theorem dX12_four_12 : decode cX12_four 12 = .ok (.getfield 273, 3) := by decide +kernel
theorem dX12_four_15 : decode cX12_four 15 = .ok (.iload_n 1, 1) := by decide +kernel
theorem dX12_four_16 : decode cX12_four 16 = .ok (.iload_n 2, 1) := by decide +kernel
theorem dX12_four_17 : decode cX12_four 17 = .ok (.ishr, 1) := by decide +kernel
theorem dX12_four_18 : decode cX12_four 18 = .ok (.i2b, 1) := by decide +kernel
theorem dX12_four_19 : decode cX12_four 19 = .ok (.bastore, 1) := by decide +kernel
theorem dX12_four_20 : decode cX12_four 20 = .ok (.aload_n 0, 1) := by decide +kernel
theorem dX12_four_21 : decode cX12_four 21 = .ok (.dup, 1) := by decide +kernel
theorem dX12_four_22 : decode cX12_four 22 = .ok (.getfield 273, 3) := by decide +kernel
theorem dX12_four_25 : decode cX12_four 25 = .ok (.iconst 1, 1) := by decide +kernel
theorem dX12_four_26 : decode cX12_four 26 = .ok (.iadd, 1) := by decide +kernel
theorem dX12_four_27 : decode cX12_four 27 = .ok (.putfield 273, 3) := by decide +kernel
theorem dX12_four_30 : decode cX12_four 30 = .ok (.iinc 2 (-8), 3) := by decide +kernel
theorem dX12_four_33 : decode cX12_four 33 = .ok (.goto (-30), 3) := by decide +kernel
theorem dX12_four_36 : decode cX12_four 36 = .ok (.return_, 1) := by decide +kernel

theorem dX12_gauge_0 : decode cX12_gauge 0 = .ok (.aload_n 0, 1) := by decide +kernel
theorem dX12_gauge_1 : decode cX12_gauge 1 = .ok (.iload_n 1, 1) := by decide +kernel
theorem dX12_gauge_2 : decode cX12_gauge 2 = .ok (.invokevirtual 152, 3) := by decide +kernel
theorem dX12_gauge_5 : decode cX12_gauge 5 = .ok (.ifCond .eq 13, 3) := by decide +kernel
theorem dX12_gauge_8 : decode cX12_gauge 8 = .ok (.iload_n 2, 1) := by decide +kernel
theorem dX12_gauge_9 : decode cX12_gauge 9 = .ok (.iconst (-1), 1) := by decide +kernel
theorem dX12_gauge_10 : decode cX12_gauge 10 = .ok (.bipush 100, 2) := by decide +kernel
theorem dX12_gauge_12 : decode cX12_gauge 12 = .ok (.invokestatic 136, 3) := by decide +kernel
theorem dX12_gauge_15 : decode cX12_gauge 15 = .ok (.ifCond .ne 5, 3) := by decide +kernel
theorem dX12_gauge_18 : decode cX12_gauge 18 = .ok (.iconst 0, 1) := by decide +kernel
theorem dX12_gauge_19 : decode cX12_gauge 19 = .ok (.ireturn, 1) := by decide +kernel
theorem dX12_gauge_20 : decode cX12_gauge 20 = .ok (.aload_n 0, 1) := by decide +kernel
theorem dX12_gauge_21 : decode cX12_gauge 21 = .ok (.getfield 29, 3) := by decide +kernel
theorem dX12_gauge_24 : decode cX12_gauge 24 = .ok (.iload_n 1, 1) := by decide +kernel
theorem dX12_gauge_25 : decode cX12_gauge 25 = .ok (.iload_n 2, 1) := by decide +kernel
theorem dX12_gauge_26 : decode cX12_gauge 26 = .ok (.iastore, 1) := by decide +kernel
theorem dX12_gauge_27 : decode cX12_gauge 27 = .ok (.iconst 1, 1) := by decide +kernel
theorem dX12_gauge_28 : decode cX12_gauge 28 = .ok (.ireturn, 1) := by decide +kernel

theorem dX12_gradeBy_0 : decode cX12_gradeBy 0 = .ok (.aload_n 0, 1) := by decide +kernel
theorem dX12_gradeBy_1 : decode cX12_gradeBy 1 = .ok (.iconst 0, 1) := by decide +kernel
theorem dX12_gradeBy_2 : decode cX12_gradeBy 2 = .ok (.iload_n 1, 1) := by decide +kernel
theorem dX12_gradeBy_3 : decode cX12_gradeBy 3 = .ok (.iload_n 2, 1) := by decide +kernel
theorem dX12_gradeBy_4 : decode cX12_gradeBy 4 = .ok (.invokevirtual 253, 3) := by decide +kernel
theorem dX12_gradeBy_7 : decode cX12_gradeBy 7 = .ok (.istore_n 3, 1) := by decide +kernel
theorem dX12_gradeBy_8 : decode cX12_gradeBy 8 = .ok (.iload_n 3, 1) := by decide +kernel
theorem dX12_gradeBy_9 : decode cX12_gradeBy 9 = .ok (.iconst (-1), 1) := by decide +kernel
theorem dX12_gradeBy_10 : decode cX12_gradeBy 10 = .ok (.if_icmp .ne 7, 3) := by decide +kernel
theorem dX12_gradeBy_13 : decode cX12_gradeBy 13 = .ok (.iconst 4, 1) := by decide +kernel
theorem dX12_gradeBy_14 : decode cX12_gradeBy 14 = .ok (.goto 9, 3) := by decide +kernel
theorem dX12_gradeBy_17 : decode cX12_gradeBy 17 = .ok (.aload_n 0, 1) := by decide +kernel
theorem dX12_gradeBy_18 : decode cX12_gradeBy 18 = .ok (.getfield 103, 3) := by decide +kernel
theorem dX12_gradeBy_21 : decode cX12_gradeBy 21 = .ok (.iload_n 3, 1) := by decide +kernel
theorem dX12_gradeBy_22 : decode cX12_gradeBy 22 = .ok (.iaload, 1) := by decide +kernel
theorem dX12_gradeBy_23 : decode cX12_gradeBy 23 = .ok (.ireturn, 1) := by decide +kernel

theorem dX12_gradeOf_0 : decode cX12_gradeOf 0 = .ok (.aload_n 0, 1) := by decide +kernel
theorem dX12_gradeOf_1 : decode cX12_gradeOf 1 = .ok (.getfield 74, 3) := by decide +kernel
theorem dX12_gradeOf_4 : decode cX12_gradeOf 4 = .ok (.iconst 2, 1) := by decide +kernel
theorem dX12_gradeOf_5 : decode cX12_gradeOf 5 = .ok (.iload_n 1, 1) := by decide +kernel
theorem dX12_gradeOf_6 : decode cX12_gradeOf 6 = .ok (.imul, 1) := by decide +kernel
theorem dX12_gradeOf_7 : decode cX12_gradeOf 7 = .ok (.iaload, 1) := by decide +kernel
theorem dX12_gradeOf_8 : decode cX12_gradeOf 8 = .ok (.iconst (-1), 1) := by decide +kernel
theorem dX12_gradeOf_9 : decode cX12_gradeOf 9 = .ok (.if_icmp .eq 17, 3) := by decide +kernel
theorem dX12_gradeOf_12 : decode cX12_gradeOf 12 = .ok (.aload_n 0, 1) := by decide +kernel
theorem dX12_gradeOf_13 : decode cX12_gradeOf 13 = .ok (.getfield 74, 3) := by decide +kernel
theorem dX12_gradeOf_16 : decode cX12_gradeOf 16 = .ok (.iconst 2, 1) := by decide +kernel
theorem dX12_gradeOf_17 : decode cX12_gradeOf 17 = .ok (.iload_n 1, 1) := by decide +kernel
theorem dX12_gradeOf_18 : decode cX12_gradeOf 18 = .ok (.imul, 1) := by decide +kernel
theorem dX12_gradeOf_19 : decode cX12_gradeOf 19 = .ok (.iconst 1, 1) := by decide +kernel
theorem dX12_gradeOf_20 : decode cX12_gradeOf 20 = .ok (.iadd, 1) := by decide +kernel
theorem dX12_gradeOf_21 : decode cX12_gradeOf 21 = .ok (.iaload, 1) := by decide +kernel
theorem dX12_gradeOf_22 : decode cX12_gradeOf 22 = .ok (.iconst (-1), 1) := by decide +kernel
theorem dX12_gradeOf_23 : decode cX12_gradeOf 23 = .ok (.if_icmp .ne 7, 3) := by decide +kernel
theorem dX12_gradeOf_26 : decode cX12_gradeOf 26 = .ok (.iconst (-1), 1) := by decide +kernel
theorem dX12_gradeOf_27 : decode cX12_gradeOf 27 = .ok (.goto 34, 3) := by decide +kernel
theorem dX12_gradeOf_30 : decode cX12_gradeOf 30 = .ok (.aload_n 0, 1) := by decide +kernel
theorem dX12_gradeOf_31 : decode cX12_gradeOf 31 = .ok (.iload_n 1, 1) := by decide +kernel
theorem dX12_gradeOf_32 : decode cX12_gradeOf 32 = .ok (.aload_n 0, 1) := by decide +kernel
theorem dX12_gradeOf_33 : decode cX12_gradeOf 33 = .ok (.getfield 74, 3) := by decide +kernel
theorem dX12_gradeOf_36 : decode cX12_gradeOf 36 = .ok (.iconst 2, 1) := by decide +kernel
theorem dX12_gradeOf_37 : decode cX12_gradeOf 37 = .ok (.iload_n 1, 1) := by decide +kernel
theorem dX12_gradeOf_38 : decode cX12_gradeOf 38 = .ok (.imul, 1) := by decide +kernel
theorem dX12_gradeOf_39 : decode cX12_gradeOf 39 = .ok (.iaload, 1) := by decide +kernel
theorem dX12_gradeOf_40 : decode cX12_gradeOf 40 = .ok (.invokevirtual 267, 3) := by decide +kernel
theorem dX12_gradeOf_43 : decode cX12_gradeOf 43 = .ok (.aload_n 0, 1) := by decide +kernel
theorem dX12_gradeOf_44 : decode cX12_gradeOf 44 = .ok (.iload_n 1, 1) := by decide +kernel
theorem dX12_gradeOf_45 : decode cX12_gradeOf 45 = .ok (.aload_n 0, 1) := by decide +kernel
theorem dX12_gradeOf_46 : decode cX12_gradeOf 46 = .ok (.getfield 74, 3) := by decide +kernel
theorem dX12_gradeOf_49 : decode cX12_gradeOf 49 = .ok (.iconst 2, 1) := by decide +kernel
theorem dX12_gradeOf_50 : decode cX12_gradeOf 50 = .ok (.iload_n 1, 1) := by decide +kernel
theorem dX12_gradeOf_51 : decode cX12_gradeOf 51 = .ok (.imul, 1) := by decide +kernel
theorem dX12_gradeOf_52 : decode cX12_gradeOf 52 = .ok (.iconst 1, 1) := by decide +kernel
theorem dX12_gradeOf_53 : decode cX12_gradeOf 53 = .ok (.iadd, 1) := by decide +kernel
theorem dX12_gradeOf_54 : decode cX12_gradeOf 54 = .ok (.iaload, 1) := by decide +kernel
theorem dX12_gradeOf_55 : decode cX12_gradeOf 55 = .ok (.invokevirtual 267, 3) := by decide +kernel
theorem dX12_gradeOf_58 : decode cX12_gradeOf 58 = .ok (.invokestatic 146, 3) := by decide +kernel
theorem dX12_gradeOf_61 : decode cX12_gradeOf 61 = .ok (.ireturn, 1) := by decide +kernel

theorem dX12_held_0 : decode cX12_held 0 = .ok (.iconst 0, 1) := by decide +kernel
theorem dX12_held_1 : decode cX12_held 1 = .ok (.bipush 10, 2) := by decide +kernel
theorem dX12_held_3 : decode cX12_held 3 = .ok (.iload_n 0, 1) := by decide +kernel
theorem dX12_held_4 : decode cX12_held 4 = .ok (.invokestatic 188, 3) := by decide +kernel
theorem dX12_held_7 : decode cX12_held 7 = .ok (.invokestatic 146, 3) := by decide +kernel
theorem dX12_held_10 : decode cX12_held 10 = .ok (.ireturn, 1) := by decide +kernel

theorem dX12_holesOf_0 : decode cX12_holesOf 0 = .ok (.iconst 0, 1) := by decide +kernel
theorem dX12_holesOf_1 : decode cX12_holesOf 1 = .ok (.istore_n 3, 1) := by decide +kernel
theorem dX12_holesOf_2 : decode cX12_holesOf 2 = .ok (.iconst 0, 1) := by decide +kernel
theorem dX12_holesOf_3 : decode cX12_holesOf 3 = .ok (.istore 4, 2) := by decide +kernel
theorem dX12_holesOf_5 : decode cX12_holesOf 5 = .ok (.iload 4, 2) := by decide +kernel
theorem dX12_holesOf_7 : decode cX12_holesOf 7 = .ok (.aload_n 0, 1) := by decide +kernel
theorem dX12_holesOf_8 : decode cX12_holesOf 8 = .ok (.getfield 170, 3) := by decide +kernel
theorem dX12_holesOf_11 : decode cX12_holesOf 11 = .ok (.if_icmp .ge 42, 3) := by decide +kernel
theorem dX12_holesOf_14 : decode cX12_holesOf 14 = .ok (.iload_n 3, 1) := by decide +kernel
theorem dX12_holesOf_15 : decode cX12_holesOf 15 = .ok (.aload_n 0, 1) := by decide +kernel
theorem dX12_holesOf_16 : decode cX12_holesOf 16 = .ok (.getfield 41, 3) := by decide +kernel
theorem dX12_holesOf_19 : decode cX12_holesOf 19 = .ok (.iload 4, 2) := by decide +kernel
theorem dX12_holesOf_21 : decode cX12_holesOf 21 = .ok (.iaload, 1) := by decide +kernel
theorem dX12_holesOf_22 : decode cX12_holesOf 22 = .ok (.iload_n 1, 1) := by decide +kernel
theorem dX12_holesOf_23 : decode cX12_holesOf 23 = .ok (.if_icmp .ne 18, 3) := by decide +kernel
theorem dX12_holesOf_26 : decode cX12_holesOf 26 = .ok (.aload_n 0, 1) := by decide +kernel
theorem dX12_holesOf_27 : decode cX12_holesOf 27 = .ok (.getfield 47, 3) := by decide +kernel
theorem dX12_holesOf_30 : decode cX12_holesOf 30 = .ok (.iload 4, 2) := by decide +kernel
theorem dX12_holesOf_32 : decode cX12_holesOf 32 = .ok (.iaload, 1) := by decide +kernel
theorem dX12_holesOf_33 : decode cX12_holesOf 33 = .ok (.iload_n 2, 1) := by decide +kernel
theorem dX12_holesOf_34 : decode cX12_holesOf 34 = .ok (.if_icmp .lt 7, 3) := by decide +kernel
theorem dX12_holesOf_37 : decode cX12_holesOf 37 = .ok (.iconst 1, 1) := by decide +kernel
theorem dX12_holesOf_38 : decode cX12_holesOf 38 = .ok (.goto 4, 3) := by decide +kernel
theorem dX12_holesOf_41 : decode cX12_holesOf 41 = .ok (.iconst 0, 1) := by decide +kernel
theorem dX12_holesOf_42 : decode cX12_holesOf 42 = .ok (.invokestatic 159, 3) := by decide +kernel
theorem dX12_holesOf_45 : decode cX12_holesOf 45 = .ok (.iadd, 1) := by decide +kernel
theorem dX12_holesOf_46 : decode cX12_holesOf 46 = .ok (.istore_n 3, 1) := by decide +kernel
theorem dX12_holesOf_47 : decode cX12_holesOf 47 = .ok (.iinc 4 1, 3) := by decide +kernel
theorem dX12_holesOf_50 : decode cX12_holesOf 50 = .ok (.goto (-45), 3) := by decide +kernel
theorem dX12_holesOf_53 : decode cX12_holesOf 53 = .ok (.iload_n 3, 1) := by decide +kernel
theorem dX12_holesOf_54 : decode cX12_holesOf 54 = .ok (.ireturn, 1) := by decide +kernel

theorem dX12_init_0 : decode cX12_init 0 = .ok (.aload_n 0, 1) := by decide +kernel
theorem dX12_init_1 : decode cX12_init 1 = .ok (.invokespecial 1, 3) := by decide +kernel
theorem dX12_init_4 : decode cX12_init 4 = .ok (.aload_n 0, 1) := by decide +kernel
theorem dX12_init_5 : decode cX12_init 5 = .ok (.iconst 1, 1) := by decide +kernel
theorem dX12_init_6 : decode cX12_init 6 = .ok (.putfield 7, 3) := by decide +kernel
theorem dX12_init_9 : decode cX12_init 9 = .ok (.aload_n 0, 1) := by decide +kernel
theorem dX12_init_10 : decode cX12_init 10 = .ok (.bipush 40, 2) := by decide +kernel
theorem dX12_init_12 : decode cX12_init 12 = .ok (.newarray .int, 2) := by decide +kernel
theorem dX12_init_14 : decode cX12_init 14 = .ok (.putfield 13, 3) := by decide +kernel
theorem dX12_init_17 : decode cX12_init 17 = .ok (.aload_n 0, 1) := by decide +kernel
theorem dX12_init_18 : decode cX12_init 18 = .ok (.bipush 40, 2) := by decide +kernel
theorem dX12_init_20 : decode cX12_init 20 = .ok (.newarray .int, 2) := by decide +kernel
theorem dX12_init_22 : decode cX12_init 22 = .ok (.putfield 17, 3) := by decide +kernel
theorem dX12_init_25 : decode cX12_init 25 = .ok (.aload_n 0, 1) := by decide +kernel
theorem dX12_init_26 : decode cX12_init 26 = .ok (.bipush 40, 2) := by decide +kernel
theorem dX12_init_28 : decode cX12_init 28 = .ok (.newarray .int, 2) := by decide +kernel
theorem dX12_init_30 : decode cX12_init 30 = .ok (.putfield 20, 3) := by decide +kernel
theorem dX12_init_33 : decode cX12_init 33 = .ok (.aload_n 0, 1) := by decide +kernel
theorem dX12_init_34 : decode cX12_init 34 = .ok (.bipush 40, 2) := by decide +kernel
theorem dX12_init_36 : decode cX12_init 36 = .ok (.newarray .int, 2) := by decide +kernel
theorem dX12_init_38 : decode cX12_init 38 = .ok (.putfield 23, 3) := by decide +kernel
theorem dX12_init_41 : decode cX12_init 41 = .ok (.aload_n 0, 1) := by decide +kernel
theorem dX12_init_42 : decode cX12_init 42 = .ok (.bipush 40, 2) := by decide +kernel
theorem dX12_init_44 : decode cX12_init 44 = .ok (.newarray .int, 2) := by decide +kernel
theorem dX12_init_46 : decode cX12_init 46 = .ok (.putfield 26, 3) := by decide +kernel
theorem dX12_init_49 : decode cX12_init 49 = .ok (.aload_n 0, 1) := by decide +kernel
theorem dX12_init_50 : decode cX12_init 50 = .ok (.bipush 40, 2) := by decide +kernel
theorem dX12_init_52 : decode cX12_init 52 = .ok (.newarray .int, 2) := by decide +kernel
theorem dX12_init_54 : decode cX12_init 54 = .ok (.putfield 29, 3) := by decide +kernel
theorem dX12_init_57 : decode cX12_init 57 = .ok (.aload_n 0, 1) := by decide +kernel
theorem dX12_init_58 : decode cX12_init 58 = .ok (.bipush 60, 2) := by decide +kernel
theorem dX12_init_60 : decode cX12_init 60 = .ok (.newarray .int, 2) := by decide +kernel
theorem dX12_init_62 : decode cX12_init 62 = .ok (.putfield 32, 3) := by decide +kernel
theorem dX12_init_65 : decode cX12_init 65 = .ok (.aload_n 0, 1) := by decide +kernel
theorem dX12_init_66 : decode cX12_init 66 = .ok (.bipush 60, 2) := by decide +kernel
theorem dX12_init_68 : decode cX12_init 68 = .ok (.newarray .int, 2) := by decide +kernel
theorem dX12_init_70 : decode cX12_init 70 = .ok (.putfield 35, 3) := by decide +kernel
theorem dX12_init_73 : decode cX12_init 73 = .ok (.aload_n 0, 1) := by decide +kernel
theorem dX12_init_74 : decode cX12_init 74 = .ok (.bipush 60, 2) := by decide +kernel
theorem dX12_init_76 : decode cX12_init 76 = .ok (.newarray .int, 2) := by decide +kernel
theorem dX12_init_78 : decode cX12_init 78 = .ok (.putfield 38, 3) := by decide +kernel
theorem dX12_init_81 : decode cX12_init 81 = .ok (.aload_n 0, 1) := by decide +kernel
theorem dX12_init_82 : decode cX12_init 82 = .ok (.sipush 300, 3) := by decide +kernel
theorem dX12_init_85 : decode cX12_init 85 = .ok (.newarray .int, 2) := by decide +kernel
theorem dX12_init_87 : decode cX12_init 87 = .ok (.putfield 41, 3) := by decide +kernel
theorem dX12_init_90 : decode cX12_init 90 = .ok (.aload_n 0, 1) := by decide +kernel
theorem dX12_init_91 : decode cX12_init 91 = .ok (.sipush 300, 3) := by decide +kernel
theorem dX12_init_94 : decode cX12_init 94 = .ok (.newarray .int, 2) := by decide +kernel
theorem dX12_init_96 : decode cX12_init 96 = .ok (.putfield 44, 3) := by decide +kernel
theorem dX12_init_99 : decode cX12_init 99 = .ok (.aload_n 0, 1) := by decide +kernel
theorem dX12_init_100 : decode cX12_init 100 = .ok (.sipush 300, 3) := by decide +kernel
theorem dX12_init_103 : decode cX12_init 103 = .ok (.newarray .int, 2) := by decide +kernel
theorem dX12_init_105 : decode cX12_init 105 = .ok (.putfield 47, 3) := by decide +kernel
theorem dX12_init_108 : decode cX12_init 108 = .ok (.aload_n 0, 1) := by decide +kernel
theorem dX12_init_109 : decode cX12_init 109 = .ok (.bipush 10, 2) := by decide +kernel
theorem dX12_init_111 : decode cX12_init 111 = .ok (.newarray .int, 2) := by decide +kernel
theorem dX12_init_113 : decode cX12_init 113 = .ok (.putfield 50, 3) := by decide +kernel
theorem dX12_init_116 : decode cX12_init 116 = .ok (.aload_n 0, 1) := by decide +kernel
theorem dX12_init_117 : decode cX12_init 117 = .ok (.bipush 10, 2) := by decide +kernel
theorem dX12_init_119 : decode cX12_init 119 = .ok (.newarray .int, 2) := by decide +kernel
theorem dX12_init_121 : decode cX12_init 121 = .ok (.putfield 53, 3) := by decide +kernel
theorem dX12_init_124 : decode cX12_init 124 = .ok (.aload_n 0, 1) := by decide +kernel
theorem dX12_init_125 : decode cX12_init 125 = .ok (.bipush 121, 2) := by decide +kernel
theorem dX12_init_127 : decode cX12_init 127 = .ok (.newarray .int, 2) := by decide +kernel
theorem dX12_init_129 : decode cX12_init 129 = .ok (.putfield 56, 3) := by decide +kernel
theorem dX12_init_132 : decode cX12_init 132 = .ok (.aload_n 0, 1) := by decide +kernel
theorem dX12_init_133 : decode cX12_init 133 = .ok (.bipush 121, 2) := by decide +kernel
theorem dX12_init_135 : decode cX12_init 135 = .ok (.newarray .int, 2) := by decide +kernel
theorem dX12_init_137 : decode cX12_init 137 = .ok (.putfield 59, 3) := by decide +kernel
theorem dX12_init_140 : decode cX12_init 140 = .ok (.aload_n 0, 1) := by decide +kernel
theorem dX12_init_141 : decode cX12_init 141 = .ok (.bipush 60, 2) := by decide +kernel
theorem dX12_init_143 : decode cX12_init 143 = .ok (.newarray .int, 2) := by decide +kernel
theorem dX12_init_145 : decode cX12_init 145 = .ok (.putfield 62, 3) := by decide +kernel
theorem dX12_init_148 : decode cX12_init 148 = .ok (.aload_n 0, 1) := by decide +kernel
theorem dX12_init_149 : decode cX12_init 149 = .ok (.bipush 60, 2) := by decide +kernel
theorem dX12_init_151 : decode cX12_init 151 = .ok (.newarray .int, 2) := by decide +kernel
theorem dX12_init_153 : decode cX12_init 153 = .ok (.putfield 65, 3) := by decide +kernel
theorem dX12_init_156 : decode cX12_init 156 = .ok (.aload_n 0, 1) := by decide +kernel
theorem dX12_init_157 : decode cX12_init 157 = .ok (.bipush 60, 2) := by decide +kernel
theorem dX12_init_159 : decode cX12_init 159 = .ok (.newarray .int, 2) := by decide +kernel
theorem dX12_init_161 : decode cX12_init 161 = .ok (.putfield 68, 3) := by decide +kernel
theorem dX12_init_164 : decode cX12_init 164 = .ok (.aload_n 0, 1) := by decide +kernel
theorem dX12_init_165 : decode cX12_init 165 = .ok (.bipush 60, 2) := by decide +kernel
theorem dX12_init_167 : decode cX12_init 167 = .ok (.newarray .int, 2) := by decide +kernel
theorem dX12_init_169 : decode cX12_init 169 = .ok (.putfield 71, 3) := by decide +kernel
theorem dX12_init_172 : decode cX12_init 172 = .ok (.aload_n 0, 1) := by decide +kernel
theorem dX12_init_173 : decode cX12_init 173 = .ok (.bipush 120, 2) := by decide +kernel
theorem dX12_init_175 : decode cX12_init 175 = .ok (.newarray .int, 2) := by decide +kernel
theorem dX12_init_177 : decode cX12_init 177 = .ok (.putfield 74, 3) := by decide +kernel
theorem dX12_init_180 : decode cX12_init 180 = .ok (.aload_n 0, 1) := by decide +kernel
theorem dX12_init_181 : decode cX12_init 181 = .ok (.bipush 60, 2) := by decide +kernel
theorem dX12_init_183 : decode cX12_init 183 = .ok (.newarray .boolean, 2) := by decide +kernel
theorem dX12_init_185 : decode cX12_init 185 = .ok (.putfield 77, 3) := by decide +kernel
theorem dX12_init_188 : decode cX12_init 188 = .ok (.aload_n 0, 1) := by decide +kernel
theorem dX12_init_189 : decode cX12_init 189 = .ok (.bipush 10, 2) := by decide +kernel
theorem dX12_init_191 : decode cX12_init 191 = .ok (.newarray .boolean, 2) := by decide +kernel
theorem dX12_init_193 : decode cX12_init 193 = .ok (.putfield 81, 3) := by decide +kernel
theorem dX12_init_196 : decode cX12_init 196 = .ok (.aload_n 0, 1) := by decide +kernel
theorem dX12_init_197 : decode cX12_init 197 = .ok (.sipush 600, 3) := by decide +kernel
theorem dX12_init_200 : decode cX12_init 200 = .ok (.newarray .byte, 2) := by decide +kernel
theorem dX12_init_202 : decode cX12_init 202 = .ok (.putfield 84, 3) := by decide +kernel
theorem dX12_init_205 : decode cX12_init 205 = .ok (.aload_n 0, 1) := by decide +kernel
theorem dX12_init_206 : decode cX12_init 206 = .ok (.sipush 600, 3) := by decide +kernel
theorem dX12_init_209 : decode cX12_init 209 = .ok (.newarray .byte, 2) := by decide +kernel
theorem dX12_init_211 : decode cX12_init 211 = .ok (.putfield 88, 3) := by decide +kernel
theorem dX12_init_214 : decode cX12_init 214 = .ok (.aload_n 0, 1) := by decide +kernel
theorem dX12_init_215 : decode cX12_init 215 = .ok (.iconst (-1), 1) := by decide +kernel
theorem dX12_init_216 : decode cX12_init 216 = .ok (.putfield 91, 3) := by decide +kernel
theorem dX12_init_219 : decode cX12_init 219 = .ok (.aload_n 0, 1) := by decide +kernel
theorem dX12_init_220 : decode cX12_init 220 = .ok (.bipush 16, 2) := by decide +kernel
theorem dX12_init_222 : decode cX12_init 222 = .ok (.newarray .boolean, 2) := by decide +kernel
theorem dX12_init_224 : decode cX12_init 224 = .ok (.putfield 94, 3) := by decide +kernel
theorem dX12_init_227 : decode cX12_init 227 = .ok (.aload_n 0, 1) := by decide +kernel
theorem dX12_init_228 : decode cX12_init 228 = .ok (.bipush 16, 2) := by decide +kernel
theorem dX12_init_230 : decode cX12_init 230 = .ok (.newarray .boolean, 2) := by decide +kernel
theorem dX12_init_232 : decode cX12_init 232 = .ok (.putfield 97, 3) := by decide +kernel
theorem dX12_init_235 : decode cX12_init 235 = .ok (.aload_n 0, 1) := by decide +kernel
theorem dX12_init_236 : decode cX12_init 236 = .ok (.bipush 16, 2) := by decide +kernel
theorem dX12_init_238 : decode cX12_init 238 = .ok (.newarray .int, 2) := by decide +kernel
theorem dX12_init_240 : decode cX12_init 240 = .ok (.putfield 100, 3) := by decide +kernel
theorem dX12_init_243 : decode cX12_init 243 = .ok (.aload_n 0, 1) := by decide +kernel
theorem dX12_init_244 : decode cX12_init 244 = .ok (.bipush 16, 2) := by decide +kernel
theorem dX12_init_246 : decode cX12_init 246 = .ok (.newarray .int, 2) := by decide +kernel
theorem dX12_init_248 : decode cX12_init 248 = .ok (.putfield 103, 3) := by decide +kernel
theorem dX12_init_251 : decode cX12_init 251 = .ok (.aload_n 0, 1) := by decide +kernel
theorem dX12_init_252 : decode cX12_init 252 = .ok (.bipush 16, 2) := by decide +kernel
theorem dX12_init_254 : decode cX12_init 254 = .ok (.newarray .int, 2) := by decide +kernel
theorem dX12_init_256 : decode cX12_init 256 = .ok (.putfield 106, 3) := by decide +kernel
theorem dX12_init_259 : decode cX12_init 259 = .ok (.aload_n 0, 1) := by decide +kernel
theorem dX12_init_260 : decode cX12_init 260 = .ok (.bipush 48, 2) := by decide +kernel
theorem dX12_init_262 : decode cX12_init 262 = .ok (.newarray .int, 2) := by decide +kernel
theorem dX12_init_264 : decode cX12_init 264 = .ok (.putfield 109, 3) := by decide +kernel
theorem dX12_init_267 : decode cX12_init 267 = .ok (.aload_n 0, 1) := by decide +kernel
theorem dX12_init_268 : decode cX12_init 268 = .ok (.bipush 48, 2) := by decide +kernel
theorem dX12_init_270 : decode cX12_init 270 = .ok (.newarray .int, 2) := by decide +kernel
theorem dX12_init_272 : decode cX12_init 272 = .ok (.putfield 112, 3) := by decide +kernel
theorem dX12_init_275 : decode cX12_init 275 = .ok (.aload_n 0, 1) := by decide +kernel
theorem dX12_init_276 : decode cX12_init 276 = .ok (.bipush 48, 2) := by decide +kernel
theorem dX12_init_278 : decode cX12_init 278 = .ok (.newarray .int, 2) := by decide +kernel
theorem dX12_init_280 : decode cX12_init 280 = .ok (.putfield 115, 3) := by decide +kernel
theorem dX12_init_283 : decode cX12_init 283 = .ok (.aload_n 0, 1) := by decide +kernel
theorem dX12_init_284 : decode cX12_init 284 = .ok (.bipush 16, 2) := by decide +kernel
theorem dX12_init_286 : decode cX12_init 286 = .ok (.newarray .int, 2) := by decide +kernel
theorem dX12_init_288 : decode cX12_init 288 = .ok (.putfield 118, 3) := by decide +kernel
theorem dX12_init_291 : decode cX12_init 291 = .ok (.aload_n 0, 1) := by decide +kernel
theorem dX12_init_292 : decode cX12_init 292 = .ok (.bipush 16, 2) := by decide +kernel
theorem dX12_init_294 : decode cX12_init 294 = .ok (.newarray .int, 2) := by decide +kernel
theorem dX12_init_296 : decode cX12_init 296 = .ok (.putfield 121, 3) := by decide +kernel
theorem dX12_init_299 : decode cX12_init 299 = .ok (.aload_n 0, 1) := by decide +kernel
theorem dX12_init_300 : decode cX12_init 300 = .ok (.bipush 16, 2) := by decide +kernel
theorem dX12_init_302 : decode cX12_init 302 = .ok (.newarray .int, 2) := by decide +kernel
theorem dX12_init_304 : decode cX12_init 304 = .ok (.putfield 124, 3) := by decide +kernel
theorem dX12_init_307 : decode cX12_init 307 = .ok (.aload_n 0, 1) := by decide +kernel
theorem dX12_init_308 : decode cX12_init 308 = .ok (.bipush 48, 2) := by decide +kernel
theorem dX12_init_310 : decode cX12_init 310 = .ok (.newarray .int, 2) := by decide +kernel
theorem dX12_init_312 : decode cX12_init 312 = .ok (.putfield 127, 3) := by decide +kernel
theorem dX12_init_315 : decode cX12_init 315 = .ok (.aload_n 0, 1) := by decide +kernel
theorem dX12_init_316 : decode cX12_init 316 = .ok (.bipush 48, 2) := by decide +kernel
theorem dX12_init_318 : decode cX12_init 318 = .ok (.newarray .int, 2) := by decide +kernel
theorem dX12_init_320 : decode cX12_init 320 = .ok (.putfield 130, 3) := by decide +kernel
theorem dX12_init_323 : decode cX12_init 323 = .ok (.aload_n 0, 1) := by decide +kernel
theorem dX12_init_324 : decode cX12_init 324 = .ok (.bipush 48, 2) := by decide +kernel
theorem dX12_init_326 : decode cX12_init 326 = .ok (.newarray .int, 2) := by decide +kernel
theorem dX12_init_328 : decode cX12_init 328 = .ok (.putfield 133, 3) := by decide +kernel
theorem dX12_init_331 : decode cX12_init 331 = .ok (.iconst 0, 1) := by decide +kernel
theorem dX12_init_332 : decode cX12_init 332 = .ok (.istore_n 1, 1) := by decide +kernel
theorem dX12_init_333 : decode cX12_init 333 = .ok (.iload_n 1, 1) := by decide +kernel
theorem dX12_init_334 : decode cX12_init 334 = .ok (.bipush 40, 2) := by decide +kernel
theorem dX12_init_336 : decode cX12_init 336 = .ok (.if_icmp .ge 16, 3) := by decide +kernel
theorem dX12_init_339 : decode cX12_init 339 = .ok (.aload_n 0, 1) := by decide +kernel
theorem dX12_init_340 : decode cX12_init 340 = .ok (.getfield 29, 3) := by decide +kernel
theorem dX12_init_343 : decode cX12_init 343 = .ok (.iload_n 1, 1) := by decide +kernel
theorem dX12_init_344 : decode cX12_init 344 = .ok (.iconst (-1), 1) := by decide +kernel
theorem dX12_init_345 : decode cX12_init 345 = .ok (.iastore, 1) := by decide +kernel
theorem dX12_init_346 : decode cX12_init 346 = .ok (.iinc 1 1, 3) := by decide +kernel
theorem dX12_init_349 : decode cX12_init 349 = .ok (.goto (-16), 3) := by decide +kernel
theorem dX12_init_352 : decode cX12_init 352 = .ok (.return_, 1) := by decide +kernel

theorem dX12_isBatch_0 : decode cX12_isBatch 0 = .ok (.iload_n 1, 1) := by decide +kernel
theorem dX12_isBatch_1 : decode cX12_isBatch 1 = .ok (.iconst 0, 1) := by decide +kernel
theorem dX12_isBatch_2 : decode cX12_isBatch 2 = .ok (.aload_n 0, 1) := by decide +kernel
theorem dX12_isBatch_3 : decode cX12_isBatch 3 = .ok (.getfield 261, 3) := by decide +kernel
theorem dX12_isBatch_6 : decode cX12_isBatch 6 = .ok (.iconst 1, 1) := by decide +kernel
theorem dX12_isBatch_7 : decode cX12_isBatch 7 = .ok (.isub, 1) := by decide +kernel
theorem dX12_isBatch_8 : decode cX12_isBatch 8 = .ok (.invokestatic 136, 3) := by decide +kernel
theorem dX12_isBatch_11 : decode cX12_isBatch 11 = .ok (.ireturn, 1) := by decide +kernel

theorem dX12_isIn_0 : decode cX12_isIn 0 = .ok (.iload_n 0, 1) := by decide +kernel
theorem dX12_isIn_1 : decode cX12_isIn 1 = .ok (.iload_n 1, 1) := by decide +kernel
theorem dX12_isIn_2 : decode cX12_isIn 2 = .ok (.if_icmp .lt 12, 3) := by decide +kernel
theorem dX12_isIn_5 : decode cX12_isIn 5 = .ok (.iload_n 0, 1) := by decide +kernel
theorem dX12_isIn_6 : decode cX12_isIn 6 = .ok (.iload_n 2, 1) := by decide +kernel
theorem dX12_isIn_7 : decode cX12_isIn 7 = .ok (.if_icmp .gt 7, 3) := by decide +kernel
theorem dX12_isIn_10 : decode cX12_isIn 10 = .ok (.iconst 1, 1) := by decide +kernel
theorem dX12_isIn_11 : decode cX12_isIn 11 = .ok (.goto 4, 3) := by decide +kernel
theorem dX12_isIn_14 : decode cX12_isIn 14 = .ok (.iconst 0, 1) := by decide +kernel
theorem dX12_isIn_15 : decode cX12_isIn 15 = .ok (.ireturn, 1) := by decide +kernel

theorem dX12_isNode_0 : decode cX12_isNode 0 = .ok (.iload_n 1, 1) := by decide +kernel
theorem dX12_isNode_1 : decode cX12_isNode 1 = .ok (.iconst 1, 1) := by decide +kernel
theorem dX12_isNode_2 : decode cX12_isNode 2 = .ok (.aload_n 0, 1) := by decide +kernel
theorem dX12_isNode_3 : decode cX12_isNode 3 = .ok (.getfield 7, 3) := by decide +kernel
theorem dX12_isNode_6 : decode cX12_isNode 6 = .ok (.iconst 1, 1) := by decide +kernel
theorem dX12_isNode_7 : decode cX12_isNode 7 = .ok (.isub, 1) := by decide +kernel
theorem dX12_isNode_8 : decode cX12_isNode 8 = .ok (.invokestatic 136, 3) := by decide +kernel
theorem dX12_isNode_11 : decode cX12_isNode 11 = .ok (.ireturn, 1) := by decide +kernel

theorem dX12_isTree_0 : decode cX12_isTree 0 = .ok (.iload_n 1, 1) := by decide +kernel
theorem dX12_isTree_1 : decode cX12_isTree 1 = .ok (.iconst 0, 1) := by decide +kernel
theorem dX12_isTree_2 : decode cX12_isTree 2 = .ok (.aload_n 0, 1) := by decide +kernel
theorem dX12_isTree_3 : decode cX12_isTree 3 = .ok (.getfield 140, 3) := by decide +kernel
theorem dX12_isTree_6 : decode cX12_isTree 6 = .ok (.iconst 1, 1) := by decide +kernel
theorem dX12_isTree_7 : decode cX12_isTree 7 = .ok (.isub, 1) := by decide +kernel
theorem dX12_isTree_8 : decode cX12_isTree 8 = .ok (.invokestatic 136, 3) := by decide +kernel
theorem dX12_isTree_11 : decode cX12_isTree 11 = .ok (.ireturn, 1) := by decide +kernel

theorem dX12_isWeather_0 : decode cX12_isWeather 0 = .ok (.iload_n 0, 1) := by decide +kernel
theorem dX12_isWeather_1 : decode cX12_isWeather 1 = .ok (.bipush (-30), 2) := by decide +kernel
theorem dX12_isWeather_3 : decode cX12_isWeather 3 = .ok (.bipush 30, 2) := by decide +kernel
theorem dX12_isWeather_5 : decode cX12_isWeather 5 = .ok (.invokestatic 136, 3) := by decide +kernel
theorem dX12_isWeather_8 : decode cX12_isWeather 8 = .ok (.ifCond .eq 23, 3) := by decide +kernel
theorem dX12_isWeather_11 : decode cX12_isWeather 11 = .ok (.iload_n 1, 1) := by decide +kernel
theorem dX12_isWeather_12 : decode cX12_isWeather 12 = .ok (.bipush (-30), 2) := by decide +kernel
theorem dX12_isWeather_14 : decode cX12_isWeather 14 = .ok (.bipush 40, 2) := by decide +kernel
theorem dX12_isWeather_16 : decode cX12_isWeather 16 = .ok (.invokestatic 136, 3) := by decide +kernel
theorem dX12_isWeather_19 : decode cX12_isWeather 19 = .ok (.ifCond .eq 12, 3) := by decide +kernel
theorem dX12_isWeather_22 : decode cX12_isWeather 22 = .ok (.iload_n 1, 1) := by decide +kernel
theorem dX12_isWeather_23 : decode cX12_isWeather 23 = .ok (.iload_n 0, 1) := by decide +kernel
theorem dX12_isWeather_24 : decode cX12_isWeather 24 = .ok (.if_icmp .lt 7, 3) := by decide +kernel
theorem dX12_isWeather_27 : decode cX12_isWeather 27 = .ok (.iconst 1, 1) := by decide +kernel
theorem dX12_isWeather_28 : decode cX12_isWeather 28 = .ok (.goto 4, 3) := by decide +kernel
theorem dX12_isWeather_31 : decode cX12_isWeather 31 = .ok (.iconst 0, 1) := by decide +kernel
theorem dX12_isWeather_32 : decode cX12_isWeather 32 = .ok (.ireturn, 1) := by decide +kernel

theorem dX12_leak_0 : decode cX12_leak 0 = .ok (.aload_n 0, 1) := by decide +kernel
theorem dX12_leak_1 : decode cX12_leak 1 = .ok (.iload_n 1, 1) := by decide +kernel
theorem dX12_leak_2 : decode cX12_leak 2 = .ok (.invokevirtual 152, 3) := by decide +kernel
theorem dX12_leak_5 : decode cX12_leak 5 = .ok (.ifCond .eq 13, 3) := by decide +kernel
theorem dX12_leak_8 : decode cX12_leak 8 = .ok (.iload_n 2, 1) := by decide +kernel
theorem dX12_leak_9 : decode cX12_leak 9 = .ok (.iconst 0, 1) := by decide +kernel
theorem dX12_leak_10 : decode cX12_leak 10 = .ok (.bipush 20, 2) := by decide +kernel
theorem dX12_leak_12 : decode cX12_leak 12 = .ok (.invokestatic 136, 3) := by decide +kernel
theorem dX12_leak_15 : decode cX12_leak 15 = .ok (.ifCond .ne 5, 3) := by decide +kernel
theorem dX12_leak_18 : decode cX12_leak 18 = .ok (.iconst 0, 1) := by decide +kernel
theorem dX12_leak_19 : decode cX12_leak 19 = .ok (.ireturn, 1) := by decide +kernel
theorem dX12_leak_20 : decode cX12_leak 20 = .ok (.aload_n 0, 1) := by decide +kernel
theorem dX12_leak_21 : decode cX12_leak 21 = .ok (.getfield 26, 3) := by decide +kernel
theorem dX12_leak_24 : decode cX12_leak 24 = .ok (.iload_n 1, 1) := by decide +kernel
theorem dX12_leak_25 : decode cX12_leak 25 = .ok (.iload_n 2, 1) := by decide +kernel
theorem dX12_leak_26 : decode cX12_leak 26 = .ok (.iastore, 1) := by decide +kernel
theorem dX12_leak_27 : decode cX12_leak 27 = .ok (.iconst 1, 1) := by decide +kernel
theorem dX12_leak_28 : decode cX12_leak 28 = .ok (.ireturn, 1) := by decide +kernel

theorem dX12_let_0 : decode cX12_let 0 = .ok (.iload_n 1, 1) := by decide +kernel
theorem dX12_let_1 : decode cX12_let 1 = .ok (.iconst 1, 1) := by decide +kernel
theorem dX12_let_2 : decode cX12_let 2 = .ok (.sipush 5000, 3) := by decide +kernel
theorem dX12_let_5 : decode cX12_let 5 = .ok (.invokestatic 136, 3) := by decide +kernel
theorem dX12_let_8 : decode cX12_let 8 = .ok (.ifCond .eq 23, 3) := by decide +kernel
theorem dX12_let_11 : decode cX12_let 11 = .ok (.iload_n 1, 1) := by decide +kernel
theorem dX12_let_12 : decode cX12_let 12 = .ok (.aload_n 0, 1) := by decide +kernel
theorem dX12_let_13 : decode cX12_let 13 = .ok (.getfield 214, 3) := by decide +kernel
theorem dX12_let_16 : decode cX12_let 16 = .ok (.if_icmp .gt 15, 3) := by decide +kernel
theorem dX12_let_19 : decode cX12_let 19 = .ok (.aload_n 0, 1) := by decide +kernel
theorem dX12_let_20 : decode cX12_let 20 = .ok (.getfield 220, 3) := by decide +kernel
theorem dX12_let_23 : decode cX12_let 23 = .ok (.iload_n 1, 1) := by decide +kernel
theorem dX12_let_24 : decode cX12_let 24 = .ok (.iadd, 1) := by decide +kernel
theorem dX12_let_25 : decode cX12_let 25 = .ok (.sipush 5000, 3) := by decide +kernel
theorem dX12_let_28 : decode cX12_let 28 = .ok (.if_icmp .le 5, 3) := by decide +kernel
theorem dX12_let_31 : decode cX12_let 31 = .ok (.iconst (-1), 1) := by decide +kernel
theorem dX12_let_32 : decode cX12_let 32 = .ok (.ireturn, 1) := by decide +kernel
theorem dX12_let_33 : decode cX12_let 33 = .ok (.aload_n 0, 1) := by decide +kernel
theorem dX12_let_34 : decode cX12_let 34 = .ok (.dup, 1) := by decide +kernel
theorem dX12_let_35 : decode cX12_let 35 = .ok (.getfield 214, 3) := by decide +kernel
theorem dX12_let_38 : decode cX12_let 38 = .ok (.iload_n 1, 1) := by decide +kernel
theorem dX12_let_39 : decode cX12_let 39 = .ok (.isub, 1) := by decide +kernel
theorem dX12_let_40 : decode cX12_let 40 = .ok (.putfield 214, 3) := by decide +kernel
theorem dX12_let_43 : decode cX12_let 43 = .ok (.aload_n 0, 1) := by decide +kernel
theorem dX12_let_44 : decode cX12_let 44 = .ok (.dup, 1) := by decide +kernel
theorem dX12_let_45 : decode cX12_let 45 = .ok (.getfield 220, 3) := by decide +kernel
theorem dX12_let_48 : decode cX12_let 48 = .ok (.iload_n 1, 1) := by decide +kernel
theorem dX12_let_49 : decode cX12_let 49 = .ok (.iadd, 1) := by decide +kernel
theorem dX12_let_50 : decode cX12_let 50 = .ok (.putfield 220, 3) := by decide +kernel
theorem dX12_let_53 : decode cX12_let 53 = .ok (.aload_n 0, 1) := by decide +kernel
theorem dX12_let_54 : decode cX12_let 54 = .ok (.dup, 1) := by decide +kernel
theorem dX12_let_55 : decode cX12_let 55 = .ok (.getfield 223, 3) := by decide +kernel
theorem dX12_let_58 : decode cX12_let 58 = .ok (.ldc2_w 242, 3) := by decide +kernel
theorem dX12_let_61 : decode cX12_let 61 = .ok (.iload_n 1, 1) := by decide +kernel
theorem dX12_let_62 : decode cX12_let 62 = .ok (.i2l, 1) := by decide +kernel
theorem dX12_let_63 : decode cX12_let 63 = .ok (.lmul, 1) := by decide +kernel
theorem dX12_let_64 : decode cX12_let 64 = .ok (.ladd, 1) := by decide +kernel
theorem dX12_let_65 : decode cX12_let 65 = .ok (.putfield 223, 3) := by decide +kernel
theorem dX12_let_68 : decode cX12_let 68 = .ok (.aload_n 0, 1) := by decide +kernel
theorem dX12_let_69 : decode cX12_let 69 = .ok (.getfield 220, 3) := by decide +kernel
theorem dX12_let_72 : decode cX12_let 72 = .ok (.ireturn, 1) := by decide +kernel

theorem dX12_look_0 : decode cX12_look 0 = .ok (.aload_n 0, 1) := by decide +kernel
theorem dX12_look_1 : decode cX12_look 1 = .ok (.iload_n 1, 1) := by decide +kernel
theorem dX12_look_2 : decode cX12_look 2 = .ok (.invokevirtual 264, 3) := by decide +kernel
theorem dX12_look_5 : decode cX12_look 5 = .ok (.ifCond .eq 45, 3) := by decide +kernel
theorem dX12_look_8 : decode cX12_look 8 = .ok (.iload_n 2, 1) := by decide +kernel
theorem dX12_look_9 : decode cX12_look 9 = .ok (.iconst 0, 1) := by decide +kernel
theorem dX12_look_10 : decode cX12_look 10 = .ok (.iconst 1, 1) := by decide +kernel
theorem dX12_look_11 : decode cX12_look 11 = .ok (.invokestatic 136, 3) := by decide +kernel
theorem dX12_look_14 : decode cX12_look 14 = .ok (.ifCond .eq 36, 3) := by decide +kernel
theorem dX12_look_17 : decode cX12_look 17 = .ok (.iload_n 3, 1) := by decide +kernel
theorem dX12_look_18 : decode cX12_look 18 = .ok (.iconst 0, 1) := by decide +kernel
theorem dX12_look_19 : decode cX12_look 19 = .ok (.bipush 100, 2) := by decide +kernel
theorem dX12_look_21 : decode cX12_look 21 = .ok (.invokestatic 136, 3) := by decide +kernel
theorem dX12_look_24 : decode cX12_look 24 = .ok (.ifCond .eq 26, 3) := by decide +kernel
theorem dX12_look_27 : decode cX12_look 27 = .ok (.aload_n 0, 1) := by decide +kernel
theorem dX12_look_28 : decode cX12_look 28 = .ok (.getfield 74, 3) := by decide +kernel
theorem dX12_look_31 : decode cX12_look 31 = .ok (.iconst 2, 1) := by decide +kernel
theorem dX12_look_32 : decode cX12_look 32 = .ok (.iload_n 1, 1) := by decide +kernel
theorem dX12_look_33 : decode cX12_look 33 = .ok (.imul, 1) := by decide +kernel
theorem dX12_look_34 : decode cX12_look 34 = .ok (.iload_n 2, 1) := by decide +kernel
theorem dX12_look_35 : decode cX12_look 35 = .ok (.iadd, 1) := by decide +kernel
theorem dX12_look_36 : decode cX12_look 36 = .ok (.iaload, 1) := by decide +kernel
theorem dX12_look_37 : decode cX12_look 37 = .ok (.iconst (-1), 1) := by decide +kernel
theorem dX12_look_38 : decode cX12_look 38 = .ok (.if_icmp .ne 12, 3) := by decide +kernel
theorem dX12_look_41 : decode cX12_look 41 = .ok (.aload_n 0, 1) := by decide +kernel
theorem dX12_look_42 : decode cX12_look 42 = .ok (.getfield 77, 3) := by decide +kernel
theorem dX12_look_45 : decode cX12_look 45 = .ok (.iload_n 1, 1) := by decide +kernel
theorem dX12_look_46 : decode cX12_look 46 = .ok (.baload, 1) := by decide +kernel
theorem dX12_look_47 : decode cX12_look 47 = .ok (.ifCond .eq 5, 3) := by decide +kernel
theorem dX12_look_50 : decode cX12_look 50 = .ok (.iconst 0, 1) := by decide +kernel
theorem dX12_look_51 : decode cX12_look 51 = .ok (.ireturn, 1) := by decide +kernel
theorem dX12_look_52 : decode cX12_look 52 = .ok (.aload_n 0, 1) := by decide +kernel
theorem dX12_look_53 : decode cX12_look 53 = .ok (.getfield 74, 3) := by decide +kernel
theorem dX12_look_56 : decode cX12_look 56 = .ok (.iconst 2, 1) := by decide +kernel
theorem dX12_look_57 : decode cX12_look 57 = .ok (.iload_n 1, 1) := by decide +kernel
theorem dX12_look_58 : decode cX12_look 58 = .ok (.imul, 1) := by decide +kernel
theorem dX12_look_59 : decode cX12_look 59 = .ok (.iload_n 2, 1) := by decide +kernel
theorem dX12_look_60 : decode cX12_look 60 = .ok (.iadd, 1) := by decide +kernel
theorem dX12_look_61 : decode cX12_look 61 = .ok (.iload_n 3, 1) := by decide +kernel
theorem dX12_look_62 : decode cX12_look 62 = .ok (.iastore, 1) := by decide +kernel
theorem dX12_look_63 : decode cX12_look 63 = .ok (.iconst 1, 1) := by decide +kernel
theorem dX12_look_64 : decode cX12_look 64 = .ok (.ireturn, 1) := by decide +kernel

theorem dX12_mayHave_0 : decode cX12_mayHave 0 = .ok (.aload_n 0, 1) := by decide +kernel
theorem dX12_mayHave_1 : decode cX12_mayHave 1 = .ok (.getfield 35, 3) := by decide +kernel
theorem dX12_mayHave_4 : decode cX12_mayHave 4 = .ok (.iload_n 1, 1) := by decide +kernel
theorem dX12_mayHave_5 : decode cX12_mayHave 5 = .ok (.iaload, 1) := by decide +kernel
theorem dX12_mayHave_6 : decode cX12_mayHave 6 = .ok (.bipush 80, 2) := by decide +kernel
theorem dX12_mayHave_8 : decode cX12_mayHave 8 = .ok (.if_icmp .ge 7, 3) := by decide +kernel
theorem dX12_mayHave_11 : decode cX12_mayHave 11 = .ok (.iconst 0, 1) := by decide +kernel
theorem dX12_mayHave_12 : decode cX12_mayHave 12 = .ok (.goto 36, 3) := by decide +kernel
theorem dX12_mayHave_15 : decode cX12_mayHave 15 = .ok (.aload_n 0, 1) := by decide +kernel
theorem dX12_mayHave_16 : decode cX12_mayHave 16 = .ok (.getfield 35, 3) := by decide +kernel
theorem dX12_mayHave_19 : decode cX12_mayHave 19 = .ok (.iload_n 1, 1) := by decide +kernel
theorem dX12_mayHave_20 : decode cX12_mayHave 20 = .ok (.iaload, 1) := by decide +kernel
theorem dX12_mayHave_21 : decode cX12_mayHave 21 = .ok (.sipush 150, 3) := by decide +kernel
theorem dX12_mayHave_24 : decode cX12_mayHave 24 = .ok (.if_icmp .ge 7, 3) := by decide +kernel
theorem dX12_mayHave_27 : decode cX12_mayHave 27 = .ok (.iconst 1, 1) := by decide +kernel
theorem dX12_mayHave_28 : decode cX12_mayHave 28 = .ok (.goto 20, 3) := by decide +kernel
theorem dX12_mayHave_31 : decode cX12_mayHave 31 = .ok (.aload_n 0, 1) := by decide +kernel
theorem dX12_mayHave_32 : decode cX12_mayHave 32 = .ok (.getfield 35, 3) := by decide +kernel
theorem dX12_mayHave_35 : decode cX12_mayHave 35 = .ok (.iload_n 1, 1) := by decide +kernel
theorem dX12_mayHave_36 : decode cX12_mayHave 36 = .ok (.iaload, 1) := by decide +kernel
theorem dX12_mayHave_37 : decode cX12_mayHave 37 = .ok (.sipush 200, 3) := by decide +kernel
theorem dX12_mayHave_40 : decode cX12_mayHave 40 = .ok (.if_icmp .ge 7, 3) := by decide +kernel
theorem dX12_mayHave_43 : decode cX12_mayHave 43 = .ok (.iconst 2, 1) := by decide +kernel
theorem dX12_mayHave_44 : decode cX12_mayHave 44 = .ok (.goto 4, 3) := by decide +kernel
theorem dX12_mayHave_47 : decode cX12_mayHave 47 = .ok (.iconst 3, 1) := by decide +kernel
theorem dX12_mayHave_48 : decode cX12_mayHave 48 = .ok (.ireturn, 1) := by decide +kernel

theorem dX12_member_0 : decode cX12_member 0 = .ok (.iload_n 1, 1) := by decide +kernel
theorem dX12_member_1 : decode cX12_member 1 = .ok (.iconst 0, 1) := by decide +kernel
theorem dX12_member_2 : decode cX12_member 2 = .ok (.bipush 9, 2) := by decide +kernel
theorem dX12_member_4 : decode cX12_member 4 = .ok (.invokestatic 136, 3) := by decide +kernel
theorem dX12_member_7 : decode cX12_member 7 = .ok (.ifCond .ne 7, 3) := by decide +kernel
theorem dX12_member_10 : decode cX12_member 10 = .ok (.iconst (-1), 1) := by decide +kernel
theorem dX12_member_11 : decode cX12_member 11 = .ok (.goto 31, 3) := by decide +kernel
theorem dX12_member_14 : decode cX12_member 14 = .ok (.iload_n 2, 1) := by decide +kernel
theorem dX12_member_15 : decode cX12_member 15 = .ok (.ifCond .ne 12, 3) := by decide +kernel
theorem dX12_member_18 : decode cX12_member 18 = .ok (.aload_n 0, 1) := by decide +kernel
theorem dX12_member_19 : decode cX12_member 19 = .ok (.getfield 50, 3) := by decide +kernel
theorem dX12_member_22 : decode cX12_member 22 = .ok (.iload_n 1, 1) := by decide +kernel
theorem dX12_member_23 : decode cX12_member 23 = .ok (.iaload, 1) := by decide +kernel
theorem dX12_member_24 : decode cX12_member 24 = .ok (.goto 18, 3) := by decide +kernel
theorem dX12_member_27 : decode cX12_member 27 = .ok (.iload_n 2, 1) := by decide +kernel
theorem dX12_member_28 : decode cX12_member 28 = .ok (.iconst 1, 1) := by decide +kernel
theorem dX12_member_29 : decode cX12_member 29 = .ok (.if_icmp .ne 12, 3) := by decide +kernel
theorem dX12_member_32 : decode cX12_member 32 = .ok (.aload_n 0, 1) := by decide +kernel
theorem dX12_member_33 : decode cX12_member 33 = .ok (.getfield 53, 3) := by decide +kernel
theorem dX12_member_36 : decode cX12_member 36 = .ok (.iload_n 1, 1) := by decide +kernel
theorem dX12_member_37 : decode cX12_member 37 = .ok (.iaload, 1) := by decide +kernel
theorem dX12_member_38 : decode cX12_member 38 = .ok (.goto 4, 3) := by decide +kernel
theorem dX12_member_41 : decode cX12_member 41 = .ok (.iconst (-1), 1) := by decide +kernel
theorem dX12_member_42 : decode cX12_member 42 = .ok (.ireturn, 1) := by decide +kernel

theorem dX12_minute_0 : decode cX12_minute 0 = .ok (.aload_n 0, 1) := by decide +kernel
theorem dX12_minute_1 : decode cX12_minute 1 = .ok (.iconst 1, 1) := by decide +kernel
theorem dX12_minute_2 : decode cX12_minute 2 = .ok (.iconst 0, 1) := by decide +kernel
theorem dX12_minute_3 : decode cX12_minute 3 = .ok (.iconst 0, 1) := by decide +kernel
theorem dX12_minute_4 : decode cX12_minute 4 = .ok (.invokevirtual 253, 3) := by decide +kernel
theorem dX12_minute_7 : decode cX12_minute 7 = .ok (.istore_n 1, 1) := by decide +kernel
theorem dX12_minute_8 : decode cX12_minute 8 = .ok (.iload_n 1, 1) := by decide +kernel
theorem dX12_minute_9 : decode cX12_minute 9 = .ok (.iconst (-1), 1) := by decide +kernel
theorem dX12_minute_10 : decode cX12_minute 10 = .ok (.if_icmp .eq 23, 3) := by decide +kernel
theorem dX12_minute_13 : decode cX12_minute 13 = .ok (.aload_n 0, 1) := by decide +kernel
theorem dX12_minute_14 : decode cX12_minute 14 = .ok (.getfield 100, 3) := by decide +kernel
theorem dX12_minute_17 : decode cX12_minute 17 = .ok (.iload_n 1, 1) := by decide +kernel
theorem dX12_minute_18 : decode cX12_minute 18 = .ok (.iaload, 1) := by decide +kernel
theorem dX12_minute_19 : decode cX12_minute 19 = .ok (.iconst (-1), 1) := by decide +kernel
theorem dX12_minute_20 : decode cX12_minute 20 = .ok (.if_icmp .eq 13, 3) := by decide +kernel
theorem dX12_minute_23 : decode cX12_minute 23 = .ok (.aload_n 0, 1) := by decide +kernel
theorem dX12_minute_24 : decode cX12_minute 24 = .ok (.aload_n 0, 1) := by decide +kernel
theorem dX12_minute_25 : decode cX12_minute 25 = .ok (.getfield 100, 3) := by decide +kernel
theorem dX12_minute_28 : decode cX12_minute 28 = .ok (.iload_n 1, 1) := by decide +kernel
theorem dX12_minute_29 : decode cX12_minute 29 = .ok (.iaload, 1) := by decide +kernel
theorem dX12_minute_30 : decode cX12_minute 30 = .ok (.putfield 227, 3) := by decide +kernel
theorem dX12_minute_33 : decode cX12_minute 33 = .ok (.iload_n 1, 1) := by decide +kernel
theorem dX12_minute_34 : decode cX12_minute 34 = .ok (.iconst (-1), 1) := by decide +kernel
theorem dX12_minute_35 : decode cX12_minute 35 = .ok (.if_icmp .eq 132, 3) := by decide +kernel
theorem dX12_minute_38 : decode cX12_minute 38 = .ok (.aload_n 0, 1) := by decide +kernel
theorem dX12_minute_39 : decode cX12_minute 39 = .ok (.getfield 100, 3) := by decide +kernel
theorem dX12_minute_42 : decode cX12_minute 42 = .ok (.iload_n 1, 1) := by decide +kernel
theorem dX12_minute_43 : decode cX12_minute 43 = .ok (.iaload, 1) := by decide +kernel
theorem dX12_minute_44 : decode cX12_minute 44 = .ok (.iconst (-1), 1) := by decide +kernel
theorem dX12_minute_45 : decode cX12_minute 45 = .ok (.if_icmp .ne 122, 3) := by decide +kernel
theorem dX12_minute_48 : decode cX12_minute 48 = .ok (.aload_n 0, 1) := by decide +kernel
theorem dX12_minute_49 : decode cX12_minute 49 = .ok (.invokevirtual 257, 3) := by decide +kernel
theorem dX12_minute_52 : decode cX12_minute 52 = .ok (.sipush 660, 3) := by decide +kernel
theorem dX12_minute_55 : decode cX12_minute 55 = .ok (.if_icmp .lt 112, 3) := by decide +kernel
theorem dX12_minute_58 : decode cX12_minute 58 = .ok (.aload_n 0, 1) := by decide +kernel
theorem dX12_minute_59 : decode cX12_minute 59 = .ok (.getfield 233, 3) := by decide +kernel
theorem dX12_minute_62 : decode cX12_minute 62 = .ok (.ifCond .ne 105, 3) := by decide +kernel
theorem dX12_minute_65 : decode cX12_minute 65 = .ok (.aload_n 0, 1) := by decide +kernel
theorem dX12_minute_66 : decode cX12_minute 66 = .ok (.getfield 261, 3) := by decide +kernel
theorem dX12_minute_69 : decode cX12_minute 69 = .ok (.bipush 60, 2) := by decide +kernel
theorem dX12_minute_71 : decode cX12_minute 71 = .ok (.if_icmp .ge 96, 3) := by decide +kernel
theorem dX12_minute_74 : decode cX12_minute 74 = .ok (.aload_n 0, 1) := by decide +kernel
theorem dX12_minute_75 : decode cX12_minute 75 = .ok (.getfield 62, 3) := by decide +kernel
theorem dX12_minute_78 : decode cX12_minute 78 = .ok (.aload_n 0, 1) := by decide +kernel
theorem dX12_minute_79 : decode cX12_minute 79 = .ok (.getfield 261, 3) := by decide +kernel
theorem dX12_minute_82 : decode cX12_minute 82 = .ok (.aload_n 0, 1) := by decide +kernel
theorem dX12_minute_83 : decode cX12_minute 83 = .ok (.getfield 220, 3) := by decide +kernel
theorem dX12_minute_86 : decode cX12_minute 86 = .ok (.iastore, 1) := by decide +kernel
theorem dX12_minute_87 : decode cX12_minute 87 = .ok (.aload_n 0, 1) := by decide +kernel
theorem dX12_minute_88 : decode cX12_minute 88 = .ok (.getfield 65, 3) := by decide +kernel
theorem dX12_minute_91 : decode cX12_minute 91 = .ok (.aload_n 0, 1) := by decide +kernel
theorem dX12_minute_92 : decode cX12_minute 92 = .ok (.getfield 261, 3) := by decide +kernel
theorem dX12_minute_95 : decode cX12_minute 95 = .ok (.aload_n 0, 1) := by decide +kernel
theorem dX12_minute_96 : decode cX12_minute 96 = .ok (.invokevirtual 257, 3) := by decide +kernel
theorem dX12_minute_99 : decode cX12_minute 99 = .ok (.iastore, 1) := by decide +kernel
theorem dX12_minute_100 : decode cX12_minute 100 = .ok (.aload_n 0, 1) := by decide +kernel
theorem dX12_minute_101 : decode cX12_minute 101 = .ok (.getfield 68, 3) := by decide +kernel
theorem dX12_minute_104 : decode cX12_minute 104 = .ok (.aload_n 0, 1) := by decide +kernel
theorem dX12_minute_105 : decode cX12_minute 105 = .ok (.getfield 261, 3) := by decide +kernel
theorem dX12_minute_108 : decode cX12_minute 108 = .ok (.aload_n 0, 1) := by decide +kernel
theorem dX12_minute_109 : decode cX12_minute 109 = .ok (.getfield 199, 3) := by decide +kernel
theorem dX12_minute_112 : decode cX12_minute 112 = .ok (.iastore, 1) := by decide +kernel
theorem dX12_minute_113 : decode cX12_minute 113 = .ok (.aload_n 0, 1) := by decide +kernel
theorem dX12_minute_114 : decode cX12_minute 114 = .ok (.getfield 71, 3) := by decide +kernel
theorem dX12_minute_117 : decode cX12_minute 117 = .ok (.aload_n 0, 1) := by decide +kernel
theorem dX12_minute_118 : decode cX12_minute 118 = .ok (.getfield 261, 3) := by decide +kernel
theorem dX12_minute_121 : decode cX12_minute 121 = .ok (.aload_n 0, 1) := by decide +kernel
theorem dX12_minute_122 : decode cX12_minute 122 = .ok (.getfield 176, 3) := by decide +kernel
theorem dX12_minute_125 : decode cX12_minute 125 = .ok (.iastore, 1) := by decide +kernel
theorem dX12_minute_126 : decode cX12_minute 126 = .ok (.aload_n 0, 1) := by decide +kernel
theorem dX12_minute_127 : decode cX12_minute 127 = .ok (.getfield 74, 3) := by decide +kernel
theorem dX12_minute_130 : decode cX12_minute 130 = .ok (.iconst 2, 1) := by decide +kernel
theorem dX12_minute_131 : decode cX12_minute 131 = .ok (.aload_n 0, 1) := by decide +kernel
theorem dX12_minute_132 : decode cX12_minute 132 = .ok (.getfield 261, 3) := by decide +kernel
theorem dX12_minute_135 : decode cX12_minute 135 = .ok (.imul, 1) := by decide +kernel
theorem dX12_minute_136 : decode cX12_minute 136 = .ok (.iconst (-1), 1) := by decide +kernel
theorem dX12_minute_137 : decode cX12_minute 137 = .ok (.iastore, 1) := by decide +kernel
theorem dX12_minute_138 : decode cX12_minute 138 = .ok (.aload_n 0, 1) := by decide +kernel
theorem dX12_minute_139 : decode cX12_minute 139 = .ok (.getfield 74, 3) := by decide +kernel
theorem dX12_minute_142 : decode cX12_minute 142 = .ok (.iconst 2, 1) := by decide +kernel
theorem dX12_minute_143 : decode cX12_minute 143 = .ok (.aload_n 0, 1) := by decide +kernel
theorem dX12_minute_144 : decode cX12_minute 144 = .ok (.getfield 261, 3) := by decide +kernel
theorem dX12_minute_147 : decode cX12_minute 147 = .ok (.imul, 1) := by decide +kernel
theorem dX12_minute_148 : decode cX12_minute 148 = .ok (.iconst 1, 1) := by decide +kernel
theorem dX12_minute_149 : decode cX12_minute 149 = .ok (.iadd, 1) := by decide +kernel
theorem dX12_minute_150 : decode cX12_minute 150 = .ok (.iconst (-1), 1) := by decide +kernel
theorem dX12_minute_151 : decode cX12_minute 151 = .ok (.iastore, 1) := by decide +kernel
theorem dX12_minute_152 : decode cX12_minute 152 = .ok (.aload_n 0, 1) := by decide +kernel
theorem dX12_minute_153 : decode cX12_minute 153 = .ok (.dup, 1) := by decide +kernel
theorem dX12_minute_154 : decode cX12_minute 154 = .ok (.getfield 261, 3) := by decide +kernel
theorem dX12_minute_157 : decode cX12_minute 157 = .ok (.iconst 1, 1) := by decide +kernel
theorem dX12_minute_158 : decode cX12_minute 158 = .ok (.iadd, 1) := by decide +kernel
theorem dX12_minute_159 : decode cX12_minute 159 = .ok (.putfield 261, 3) := by decide +kernel
theorem dX12_minute_162 : decode cX12_minute 162 = .ok (.aload_n 0, 1) := by decide +kernel
theorem dX12_minute_163 : decode cX12_minute 163 = .ok (.invokevirtual 236, 3) := by decide +kernel
theorem dX12_minute_166 : decode cX12_minute 166 = .ok (.return_, 1) := by decide +kernel
theorem dX12_minute_167 : decode cX12_minute 167 = .ok (.aload_n 0, 1) := by decide +kernel
theorem dX12_minute_168 : decode cX12_minute 168 = .ok (.getfield 244, 3) := by decide +kernel
theorem dX12_minute_171 : decode cX12_minute 171 = .ok (.aload_n 0, 1) := by decide +kernel
theorem dX12_minute_172 : decode cX12_minute 172 = .ok (.getfield 227, 3) := by decide +kernel
theorem dX12_minute_175 : decode cX12_minute 175 = .ok (.if_icmp .ge 7, 3) := by decide +kernel
theorem dX12_minute_178 : decode cX12_minute 178 = .ok (.iconst 0, 1) := by decide +kernel
theorem dX12_minute_179 : decode cX12_minute 179 = .ok (.goto 7, 3) := by decide +kernel
theorem dX12_minute_182 : decode cX12_minute 182 = .ok (.aload_n 0, 1) := by decide +kernel
theorem dX12_minute_183 : decode cX12_minute 183 = .ok (.getfield 227, 3) := by decide +kernel
theorem dX12_minute_186 : decode cX12_minute 186 = .ok (.istore_n 2, 1) := by decide +kernel
theorem dX12_minute_187 : decode cX12_minute 187 = .ok (.aload_n 0, 1) := by decide +kernel
theorem dX12_minute_188 : decode cX12_minute 188 = .ok (.dup, 1) := by decide +kernel
theorem dX12_minute_189 : decode cX12_minute 189 = .ok (.getfield 244, 3) := by decide +kernel
theorem dX12_minute_192 : decode cX12_minute 192 = .ok (.iload_n 2, 1) := by decide +kernel
theorem dX12_minute_193 : decode cX12_minute 193 = .ok (.isub, 1) := by decide +kernel
theorem dX12_minute_194 : decode cX12_minute 194 = .ok (.putfield 244, 3) := by decide +kernel
theorem dX12_minute_197 : decode cX12_minute 197 = .ok (.aload_n 0, 1) := by decide +kernel
theorem dX12_minute_198 : decode cX12_minute 198 = .ok (.iconst 1, 1) := by decide +kernel
theorem dX12_minute_199 : decode cX12_minute 199 = .ok (.aload_n 0, 1) := by decide +kernel
theorem dX12_minute_200 : decode cX12_minute 200 = .ok (.getfield 220, 3) := by decide +kernel
theorem dX12_minute_203 : decode cX12_minute 203 = .ok (.iconst 4, 1) := by decide +kernel
theorem dX12_minute_204 : decode cX12_minute 204 = .ok (.iload_n 2, 1) := by decide +kernel
theorem dX12_minute_205 : decode cX12_minute 205 = .ok (.imul, 1) := by decide +kernel
theorem dX12_minute_206 : decode cX12_minute 206 = .ok (.isub, 1) := by decide +kernel
theorem dX12_minute_207 : decode cX12_minute 207 = .ok (.invokestatic 146, 3) := by decide +kernel
theorem dX12_minute_210 : decode cX12_minute 210 = .ok (.putfield 220, 3) := by decide +kernel
theorem dX12_minute_213 : decode cX12_minute 213 = .ok (.aload_n 0, 1) := by decide +kernel
theorem dX12_minute_214 : decode cX12_minute 214 = .ok (.dup, 1) := by decide +kernel
theorem dX12_minute_215 : decode cX12_minute 215 = .ok (.getfield 230, 3) := by decide +kernel
theorem dX12_minute_218 : decode cX12_minute 218 = .ok (.iconst 1, 1) := by decide +kernel
theorem dX12_minute_219 : decode cX12_minute 219 = .ok (.iadd, 1) := by decide +kernel
theorem dX12_minute_220 : decode cX12_minute 220 = .ok (.putfield 230, 3) := by decide +kernel
theorem dX12_minute_223 : decode cX12_minute 223 = .ok (.aload_n 0, 1) := by decide +kernel
theorem dX12_minute_224 : decode cX12_minute 224 = .ok (.invokevirtual 257, 3) := by decide +kernel
theorem dX12_minute_227 : decode cX12_minute 227 = .ok (.sipush 900, 3) := by decide +kernel
theorem dX12_minute_230 : decode cX12_minute 230 = .ok (.if_icmp .lt 8, 3) := by decide +kernel
theorem dX12_minute_233 : decode cX12_minute 233 = .ok (.aload_n 0, 1) := by decide +kernel
theorem dX12_minute_234 : decode cX12_minute 234 = .ok (.iconst 1, 1) := by decide +kernel
theorem dX12_minute_235 : decode cX12_minute 235 = .ok (.putfield 233, 3) := by decide +kernel
theorem dX12_minute_238 : decode cX12_minute 238 = .ok (.return_, 1) := by decide +kernel

theorem dX12_node_0 : decode cX12_node 0 = .ok (.iload_n 1, 1) := by decide +kernel
theorem dX12_node_1 : decode cX12_node 1 = .ok (.iconst 0, 1) := by decide +kernel
theorem dX12_node_2 : decode cX12_node 2 = .ok (.aload_n 0, 1) := by decide +kernel
theorem dX12_node_3 : decode cX12_node 3 = .ok (.getfield 7, 3) := by decide +kernel
theorem dX12_node_6 : decode cX12_node 6 = .ok (.iconst 1, 1) := by decide +kernel
theorem dX12_node_7 : decode cX12_node 7 = .ok (.isub, 1) := by decide +kernel
theorem dX12_node_8 : decode cX12_node 8 = .ok (.invokestatic 136, 3) := by decide +kernel
theorem dX12_node_11 : decode cX12_node 11 = .ok (.ifCond .eq 44, 3) := by decide +kernel
theorem dX12_node_14 : decode cX12_node 14 = .ok (.iload_n 2, 1) := by decide +kernel
theorem dX12_node_15 : decode cX12_node 15 = .ok (.iconst 1, 1) := by decide +kernel
theorem dX12_node_16 : decode cX12_node 16 = .ok (.bipush 100, 2) := by decide +kernel
theorem dX12_node_18 : decode cX12_node 18 = .ok (.invokestatic 136, 3) := by decide +kernel
theorem dX12_node_21 : decode cX12_node 21 = .ok (.ifCond .eq 34, 3) := by decide +kernel
theorem dX12_node_24 : decode cX12_node 24 = .ok (.iload_n 3, 1) := by decide +kernel
theorem dX12_node_25 : decode cX12_node 25 = .ok (.iconst 0, 1) := by decide +kernel
theorem dX12_node_26 : decode cX12_node 26 = .ok (.sipush 500, 3) := by decide +kernel
theorem dX12_node_29 : decode cX12_node 29 = .ok (.invokestatic 136, 3) := by decide +kernel
theorem dX12_node_32 : decode cX12_node 32 = .ok (.ifCond .eq 23, 3) := by decide +kernel
theorem dX12_node_35 : decode cX12_node 35 = .ok (.iload 4, 2) := by decide +kernel
theorem dX12_node_37 : decode cX12_node 37 = .ok (.iconst 0, 1) := by decide +kernel
theorem dX12_node_38 : decode cX12_node 38 = .ok (.bipush 9, 2) := by decide +kernel
theorem dX12_node_40 : decode cX12_node 40 = .ok (.invokestatic 136, 3) := by decide +kernel
theorem dX12_node_43 : decode cX12_node 43 = .ok (.ifCond .eq 12, 3) := by decide +kernel
theorem dX12_node_46 : decode cX12_node 46 = .ok (.aload_n 0, 1) := by decide +kernel
theorem dX12_node_47 : decode cX12_node 47 = .ok (.getfield 7, 3) := by decide +kernel
theorem dX12_node_50 : decode cX12_node 50 = .ok (.bipush 40, 2) := by decide +kernel
theorem dX12_node_52 : decode cX12_node 52 = .ok (.if_icmp .ne 5, 3) := by decide +kernel
theorem dX12_node_55 : decode cX12_node 55 = .ok (.iconst (-1), 1) := by decide +kernel
theorem dX12_node_56 : decode cX12_node 56 = .ok (.ireturn, 1) := by decide +kernel
theorem dX12_node_57 : decode cX12_node 57 = .ok (.aload_n 0, 1) := by decide +kernel
theorem dX12_node_58 : decode cX12_node 58 = .ok (.getfield 13, 3) := by decide +kernel
theorem dX12_node_61 : decode cX12_node 61 = .ok (.aload_n 0, 1) := by decide +kernel
theorem dX12_node_62 : decode cX12_node 62 = .ok (.getfield 7, 3) := by decide +kernel
theorem dX12_node_65 : decode cX12_node 65 = .ok (.iload_n 1, 1) := by decide +kernel
theorem dX12_node_66 : decode cX12_node 66 = .ok (.iastore, 1) := by decide +kernel
theorem dX12_node_67 : decode cX12_node 67 = .ok (.aload_n 0, 1) := by decide +kernel
theorem dX12_node_68 : decode cX12_node 68 = .ok (.getfield 17, 3) := by decide +kernel
theorem dX12_node_71 : decode cX12_node 71 = .ok (.aload_n 0, 1) := by decide +kernel
theorem dX12_node_72 : decode cX12_node 72 = .ok (.getfield 7, 3) := by decide +kernel
theorem dX12_node_75 : decode cX12_node 75 = .ok (.iload_n 2, 1) := by decide +kernel
theorem dX12_node_76 : decode cX12_node 76 = .ok (.iastore, 1) := by decide +kernel
theorem dX12_node_77 : decode cX12_node 77 = .ok (.aload_n 0, 1) := by decide +kernel
theorem dX12_node_78 : decode cX12_node 78 = .ok (.getfield 20, 3) := by decide +kernel
theorem dX12_node_81 : decode cX12_node 81 = .ok (.aload_n 0, 1) := by decide +kernel
theorem dX12_node_82 : decode cX12_node 82 = .ok (.getfield 7, 3) := by decide +kernel
theorem dX12_node_85 : decode cX12_node 85 = .ok (.iload_n 3, 1) := by decide +kernel
theorem dX12_node_86 : decode cX12_node 86 = .ok (.iastore, 1) := by decide +kernel
theorem dX12_node_87 : decode cX12_node 87 = .ok (.aload_n 0, 1) := by decide +kernel
theorem dX12_node_88 : decode cX12_node 88 = .ok (.getfield 23, 3) := by decide +kernel
theorem dX12_node_91 : decode cX12_node 91 = .ok (.aload_n 0, 1) := by decide +kernel
theorem dX12_node_92 : decode cX12_node 92 = .ok (.getfield 7, 3) := by decide +kernel
theorem dX12_node_95 : decode cX12_node 95 = .ok (.iload 4, 2) := by decide +kernel
theorem dX12_node_97 : decode cX12_node 97 = .ok (.iastore, 1) := by decide +kernel
theorem dX12_node_98 : decode cX12_node 98 = .ok (.aload_n 0, 1) := by decide +kernel
theorem dX12_node_99 : decode cX12_node 99 = .ok (.dup, 1) := by decide +kernel
theorem dX12_node_100 : decode cX12_node 100 = .ok (.getfield 7, 3) := by decide +kernel
theorem dX12_node_103 : decode cX12_node 103 = .ok (.iconst 1, 1) := by decide +kernel
theorem dX12_node_104 : decode cX12_node 104 = .ok (.iadd, 1) := by decide +kernel
theorem dX12_node_105 : decode cX12_node 105 = .ok (.putfield 7, 3) := by decide +kernel
theorem dX12_node_108 : decode cX12_node 108 = .ok (.aload_n 0, 1) := by decide +kernel
theorem dX12_node_109 : decode cX12_node 109 = .ok (.getfield 7, 3) := by decide +kernel
theorem dX12_node_112 : decode cX12_node 112 = .ok (.iconst 1, 1) := by decide +kernel
theorem dX12_node_113 : decode cX12_node 113 = .ok (.isub, 1) := by decide +kernel
theorem dX12_node_114 : decode cX12_node 114 = .ok (.ireturn, 1) := by decide +kernel

theorem dX12_nodeOf_0 : decode cX12_nodeOf 0 = .ok (.iload_n 1, 1) := by decide +kernel
theorem dX12_nodeOf_1 : decode cX12_nodeOf 1 = .ok (.iconst 0, 1) := by decide +kernel
theorem dX12_nodeOf_2 : decode cX12_nodeOf 2 = .ok (.aload_n 0, 1) := by decide +kernel
theorem dX12_nodeOf_3 : decode cX12_nodeOf 3 = .ok (.getfield 7, 3) := by decide +kernel
theorem dX12_nodeOf_6 : decode cX12_nodeOf 6 = .ok (.iconst 1, 1) := by decide +kernel
theorem dX12_nodeOf_7 : decode cX12_nodeOf 7 = .ok (.isub, 1) := by decide +kernel
theorem dX12_nodeOf_8 : decode cX12_nodeOf 8 = .ok (.invokestatic 136, 3) := by decide +kernel
theorem dX12_nodeOf_11 : decode cX12_nodeOf 11 = .ok (.ifCond .ne 5, 3) := by decide +kernel
theorem dX12_nodeOf_14 : decode cX12_nodeOf 14 = .ok (.iconst (-1), 1) := by decide +kernel
theorem dX12_nodeOf_15 : decode cX12_nodeOf 15 = .ok (.ireturn, 1) := by decide +kernel
theorem dX12_nodeOf_16 : decode cX12_nodeOf 16 = .ok (.iconst 0, 1) := by decide +kernel
theorem dX12_nodeOf_17 : decode cX12_nodeOf 17 = .ok (.istore_n 3, 1) := by decide +kernel
theorem dX12_nodeOf_18 : decode cX12_nodeOf 18 = .ok (.iload_n 2, 1) := by decide +kernel
theorem dX12_nodeOf_19 : decode cX12_nodeOf 19 = .ok (.tableswitch 188 0 8 #[49, 64, 71, 80, 86, 93, 99, 141, 156], 49) := by decide +kernel
theorem dX12_nodeOf_68 : decode cX12_nodeOf 68 = .ok (.iload_n 1, 1) := by decide +kernel
theorem dX12_nodeOf_69 : decode cX12_nodeOf 69 = .ok (.ifCond .ne 7, 3) := by decide +kernel
theorem dX12_nodeOf_72 : decode cX12_nodeOf 72 = .ok (.iconst (-1), 1) := by decide +kernel
theorem dX12_nodeOf_73 : decode cX12_nodeOf 73 = .ok (.goto 9, 3) := by decide +kernel
theorem dX12_nodeOf_76 : decode cX12_nodeOf 76 = .ok (.aload_n 0, 1) := by decide +kernel
theorem dX12_nodeOf_77 : decode cX12_nodeOf 77 = .ok (.getfield 13, 3) := by decide +kernel
theorem dX12_nodeOf_80 : decode cX12_nodeOf 80 = .ok (.iload_n 1, 1) := by decide +kernel
theorem dX12_nodeOf_81 : decode cX12_nodeOf 81 = .ok (.iaload, 1) := by decide +kernel
theorem dX12_nodeOf_82 : decode cX12_nodeOf 82 = .ok (.ireturn, 1) := by decide +kernel
theorem dX12_nodeOf_83 : decode cX12_nodeOf 83 = .ok (.aload_n 0, 1) := by decide +kernel
theorem dX12_nodeOf_84 : decode cX12_nodeOf 84 = .ok (.getfield 20, 3) := by decide +kernel
theorem dX12_nodeOf_87 : decode cX12_nodeOf 87 = .ok (.iload_n 1, 1) := by decide +kernel
theorem dX12_nodeOf_88 : decode cX12_nodeOf 88 = .ok (.iaload, 1) := by decide +kernel
theorem dX12_nodeOf_89 : decode cX12_nodeOf 89 = .ok (.ireturn, 1) := by decide +kernel
theorem dX12_nodeOf_90 : decode cX12_nodeOf 90 = .ok (.aload_n 0, 1) := by decide +kernel
theorem dX12_nodeOf_91 : decode cX12_nodeOf 91 = .ok (.iload_n 1, 1) := by decide +kernel
theorem dX12_nodeOf_92 : decode cX12_nodeOf 92 = .ok (.invokevirtual 156, 3) := by decide +kernel
theorem dX12_nodeOf_95 : decode cX12_nodeOf 95 = .ok (.invokestatic 159, 3) := by decide +kernel
theorem dX12_nodeOf_98 : decode cX12_nodeOf 98 = .ok (.ireturn, 1) := by decide +kernel
theorem dX12_nodeOf_99 : decode cX12_nodeOf 99 = .ok (.aload_n 0, 1) := by decide +kernel
theorem dX12_nodeOf_100 : decode cX12_nodeOf 100 = .ok (.iload_n 1, 1) := by decide +kernel
theorem dX12_nodeOf_101 : decode cX12_nodeOf 101 = .ok (.invokevirtual 163, 3) := by decide +kernel
theorem dX12_nodeOf_104 : decode cX12_nodeOf 104 = .ok (.ireturn, 1) := by decide +kernel
theorem dX12_nodeOf_105 : decode cX12_nodeOf 105 = .ok (.aload_n 0, 1) := by decide +kernel
theorem dX12_nodeOf_106 : decode cX12_nodeOf 106 = .ok (.getfield 29, 3) := by decide +kernel
theorem dX12_nodeOf_109 : decode cX12_nodeOf 109 = .ok (.iload_n 1, 1) := by decide +kernel
theorem dX12_nodeOf_110 : decode cX12_nodeOf 110 = .ok (.iaload, 1) := by decide +kernel
theorem dX12_nodeOf_111 : decode cX12_nodeOf 111 = .ok (.ireturn, 1) := by decide +kernel
theorem dX12_nodeOf_112 : decode cX12_nodeOf 112 = .ok (.aload_n 0, 1) := by decide +kernel
theorem dX12_nodeOf_113 : decode cX12_nodeOf 113 = .ok (.iload_n 1, 1) := by decide +kernel
theorem dX12_nodeOf_114 : decode cX12_nodeOf 114 = .ok (.invokevirtual 167, 3) := by decide +kernel
theorem dX12_nodeOf_117 : decode cX12_nodeOf 117 = .ok (.ireturn, 1) := by decide +kernel
theorem dX12_nodeOf_118 : decode cX12_nodeOf 118 = .ok (.iconst 0, 1) := by decide +kernel
theorem dX12_nodeOf_119 : decode cX12_nodeOf 119 = .ok (.istore 4, 2) := by decide +kernel
theorem dX12_nodeOf_121 : decode cX12_nodeOf 121 = .ok (.iload 4, 2) := by decide +kernel
theorem dX12_nodeOf_123 : decode cX12_nodeOf 123 = .ok (.aload_n 0, 1) := by decide +kernel
theorem dX12_nodeOf_124 : decode cX12_nodeOf 124 = .ok (.getfield 140, 3) := by decide +kernel
theorem dX12_nodeOf_127 : decode cX12_nodeOf 127 = .ok (.if_icmp .ge 31, 3) := by decide +kernel
theorem dX12_nodeOf_130 : decode cX12_nodeOf 130 = .ok (.iload_n 3, 1) := by decide +kernel
theorem dX12_nodeOf_131 : decode cX12_nodeOf 131 = .ok (.aload_n 0, 1) := by decide +kernel
theorem dX12_nodeOf_132 : decode cX12_nodeOf 132 = .ok (.getfield 32, 3) := by decide +kernel
theorem dX12_nodeOf_135 : decode cX12_nodeOf 135 = .ok (.iload 4, 2) := by decide +kernel
theorem dX12_nodeOf_137 : decode cX12_nodeOf 137 = .ok (.iaload, 1) := by decide +kernel
theorem dX12_nodeOf_138 : decode cX12_nodeOf 138 = .ok (.iload_n 1, 1) := by decide +kernel
theorem dX12_nodeOf_139 : decode cX12_nodeOf 139 = .ok (.if_icmp .ne 7, 3) := by decide +kernel
theorem dX12_nodeOf_142 : decode cX12_nodeOf 142 = .ok (.iconst 1, 1) := by decide +kernel
theorem dX12_nodeOf_143 : decode cX12_nodeOf 143 = .ok (.goto 4, 3) := by decide +kernel
theorem dX12_nodeOf_146 : decode cX12_nodeOf 146 = .ok (.iconst 0, 1) := by decide +kernel
theorem dX12_nodeOf_147 : decode cX12_nodeOf 147 = .ok (.invokestatic 159, 3) := by decide +kernel
theorem dX12_nodeOf_150 : decode cX12_nodeOf 150 = .ok (.iadd, 1) := by decide +kernel
theorem dX12_nodeOf_151 : decode cX12_nodeOf 151 = .ok (.istore_n 3, 1) := by decide +kernel
theorem dX12_nodeOf_152 : decode cX12_nodeOf 152 = .ok (.iinc 4 1, 3) := by decide +kernel
theorem dX12_nodeOf_155 : decode cX12_nodeOf 155 = .ok (.goto (-34), 3) := by decide +kernel
theorem dX12_nodeOf_158 : decode cX12_nodeOf 158 = .ok (.iload_n 3, 1) := by decide +kernel
theorem dX12_nodeOf_159 : decode cX12_nodeOf 159 = .ok (.ireturn, 1) := by decide +kernel
theorem dX12_nodeOf_160 : decode cX12_nodeOf 160 = .ok (.iload_n 1, 1) := by decide +kernel
theorem dX12_nodeOf_161 : decode cX12_nodeOf 161 = .ok (.ifCond .ne 7, 3) := by decide +kernel
theorem dX12_nodeOf_164 : decode cX12_nodeOf 164 = .ok (.iconst (-1), 1) := by decide +kernel
theorem dX12_nodeOf_165 : decode cX12_nodeOf 165 = .ok (.goto 9, 3) := by decide +kernel
theorem dX12_nodeOf_168 : decode cX12_nodeOf 168 = .ok (.aload_n 0, 1) := by decide +kernel
theorem dX12_nodeOf_169 : decode cX12_nodeOf 169 = .ok (.getfield 23, 3) := by decide +kernel
theorem dX12_nodeOf_172 : decode cX12_nodeOf 172 = .ok (.iload_n 1, 1) := by decide +kernel
theorem dX12_nodeOf_173 : decode cX12_nodeOf 173 = .ok (.iaload, 1) := by decide +kernel
theorem dX12_nodeOf_174 : decode cX12_nodeOf 174 = .ok (.ireturn, 1) := by decide +kernel
theorem dX12_nodeOf_175 : decode cX12_nodeOf 175 = .ok (.iload_n 1, 1) := by decide +kernel
theorem dX12_nodeOf_176 : decode cX12_nodeOf 176 = .ok (.istore 4, 2) := by decide +kernel
theorem dX12_nodeOf_178 : decode cX12_nodeOf 178 = .ok (.iload 4, 2) := by decide +kernel
theorem dX12_nodeOf_180 : decode cX12_nodeOf 180 = .ok (.ifCond .le 25, 3) := by decide +kernel
theorem dX12_nodeOf_183 : decode cX12_nodeOf 183 = .ok (.iload_n 3, 1) := by decide +kernel
theorem dX12_nodeOf_184 : decode cX12_nodeOf 184 = .ok (.aload_n 0, 1) := by decide +kernel
theorem dX12_nodeOf_185 : decode cX12_nodeOf 185 = .ok (.getfield 17, 3) := by decide +kernel
theorem dX12_nodeOf_188 : decode cX12_nodeOf 188 = .ok (.iload 4, 2) := by decide +kernel
theorem dX12_nodeOf_190 : decode cX12_nodeOf 190 = .ok (.iaload, 1) := by decide +kernel
theorem dX12_nodeOf_191 : decode cX12_nodeOf 191 = .ok (.iadd, 1) := by decide +kernel
theorem dX12_nodeOf_192 : decode cX12_nodeOf 192 = .ok (.istore_n 3, 1) := by decide +kernel
theorem dX12_nodeOf_193 : decode cX12_nodeOf 193 = .ok (.aload_n 0, 1) := by decide +kernel
theorem dX12_nodeOf_194 : decode cX12_nodeOf 194 = .ok (.getfield 13, 3) := by decide +kernel
theorem dX12_nodeOf_197 : decode cX12_nodeOf 197 = .ok (.iload 4, 2) := by decide +kernel
theorem dX12_nodeOf_199 : decode cX12_nodeOf 199 = .ok (.iaload, 1) := by decide +kernel
theorem dX12_nodeOf_200 : decode cX12_nodeOf 200 = .ok (.istore 4, 2) := by decide +kernel
theorem dX12_nodeOf_202 : decode cX12_nodeOf 202 = .ok (.goto (-24), 3) := by decide +kernel
theorem dX12_nodeOf_205 : decode cX12_nodeOf 205 = .ok (.iload_n 3, 1) := by decide +kernel
theorem dX12_nodeOf_206 : decode cX12_nodeOf 206 = .ok (.ireturn, 1) := by decide +kernel
theorem dX12_nodeOf_207 : decode cX12_nodeOf 207 = .ok (.iconst (-1), 1) := by decide +kernel
theorem dX12_nodeOf_208 : decode cX12_nodeOf 208 = .ok (.ireturn, 1) := by decide +kernel

theorem dX12_one_0 : decode cX12_one 0 = .ok (.iload_n 0, 1) := by decide +kernel
theorem dX12_one_1 : decode cX12_one 1 = .ok (.ifCond .eq 7, 3) := by decide +kernel
theorem dX12_one_4 : decode cX12_one 4 = .ok (.iconst 1, 1) := by decide +kernel
theorem dX12_one_5 : decode cX12_one 5 = .ok (.goto 4, 3) := by decide +kernel
theorem dX12_one_8 : decode cX12_one 8 = .ok (.iconst 0, 1) := by decide +kernel
theorem dX12_one_9 : decode cX12_one 9 = .ok (.ireturn, 1) := by decide +kernel

theorem dX12_pan_0 : decode cX12_pan 0 = .ok (.iload_n 1, 1) := by decide +kernel
theorem dX12_pan_1 : decode cX12_pan 1 = .ok (.tableswitch 77 0 5 #[39, 44, 49, 54, 59, 67], 39) := by decide +kernel
theorem dX12_pan_40 : decode cX12_pan 40 = .ok (.aload_n 0, 1) := by decide +kernel
theorem dX12_pan_41 : decode cX12_pan 41 = .ok (.getfield 220, 3) := by decide +kernel
theorem dX12_pan_44 : decode cX12_pan 44 = .ok (.ireturn, 1) := by decide +kernel
theorem dX12_pan_45 : decode cX12_pan 45 = .ok (.aload_n 0, 1) := by decide +kernel
theorem dX12_pan_46 : decode cX12_pan 46 = .ok (.invokevirtual 257, 3) := by decide +kernel
theorem dX12_pan_49 : decode cX12_pan 49 = .ok (.ireturn, 1) := by decide +kernel
theorem dX12_pan_50 : decode cX12_pan 50 = .ok (.aload_n 0, 1) := by decide +kernel
theorem dX12_pan_51 : decode cX12_pan 51 = .ok (.getfield 227, 3) := by decide +kernel
theorem dX12_pan_54 : decode cX12_pan 54 = .ok (.ireturn, 1) := by decide +kernel
theorem dX12_pan_55 : decode cX12_pan 55 = .ok (.aload_n 0, 1) := by decide +kernel
theorem dX12_pan_56 : decode cX12_pan 56 = .ok (.getfield 230, 3) := by decide +kernel
theorem dX12_pan_59 : decode cX12_pan 59 = .ok (.ireturn, 1) := by decide +kernel
theorem dX12_pan_60 : decode cX12_pan 60 = .ok (.aload_n 0, 1) := by decide +kernel
theorem dX12_pan_61 : decode cX12_pan 61 = .ok (.getfield 233, 3) := by decide +kernel
theorem dX12_pan_64 : decode cX12_pan 64 = .ok (.invokestatic 159, 3) := by decide +kernel
theorem dX12_pan_67 : decode cX12_pan 67 = .ok (.ireturn, 1) := by decide +kernel
theorem dX12_pan_68 : decode cX12_pan 68 = .ok (.aload_n 0, 1) := by decide +kernel
theorem dX12_pan_69 : decode cX12_pan 69 = .ok (.getfield 223, 3) := by decide +kernel
theorem dX12_pan_72 : decode cX12_pan 72 = .ok (.ldc2_w 248, 3) := by decide +kernel
theorem dX12_pan_75 : decode cX12_pan 75 = .ok (.ldiv, 1) := by decide +kernel
theorem dX12_pan_76 : decode cX12_pan 76 = .ok (.l2i, 1) := by decide +kernel
theorem dX12_pan_77 : decode cX12_pan 77 = .ok (.ireturn, 1) := by decide +kernel
theorem dX12_pan_78 : decode cX12_pan 78 = .ok (.iconst (-1), 1) := by decide +kernel
theorem dX12_pan_79 : decode cX12_pan 79 = .ok (.ireturn, 1) := by decide +kernel

theorem dX12_pump_0 : decode cX12_pump 0 = .ok (.iload_n 1, 1) := by decide +kernel
theorem dX12_pump_1 : decode cX12_pump 1 = .ok (.iconst 0, 1) := by decide +kernel
theorem dX12_pump_2 : decode cX12_pump 2 = .ok (.bipush 100, 2) := by decide +kernel
theorem dX12_pump_4 : decode cX12_pump 4 = .ok (.invokestatic 136, 3) := by decide +kernel
theorem dX12_pump_7 : decode cX12_pump 7 = .ok (.ifCond .ne 5, 3) := by decide +kernel
theorem dX12_pump_10 : decode cX12_pump 10 = .ok (.iconst 0, 1) := by decide +kernel
theorem dX12_pump_11 : decode cX12_pump 11 = .ok (.ireturn, 1) := by decide +kernel
theorem dX12_pump_12 : decode cX12_pump 12 = .ok (.aload_n 0, 1) := by decide +kernel
theorem dX12_pump_13 : decode cX12_pump 13 = .ok (.iload_n 1, 1) := by decide +kernel
theorem dX12_pump_14 : decode cX12_pump 14 = .ok (.putfield 143, 3) := by decide +kernel
theorem dX12_pump_17 : decode cX12_pump 17 = .ok (.iconst 1, 1) := by decide +kernel
theorem dX12_pump_18 : decode cX12_pump 18 = .ok (.ireturn, 1) := by decide +kernel

theorem dX12_rules_0 : decode cX12_rules 0 = .ok (.iload_n 1, 1) := by decide +kernel
theorem dX12_rules_1 : decode cX12_rules 1 = .ok (.iconst 0, 1) := by decide +kernel
theorem dX12_rules_2 : decode cX12_rules 2 = .ok (.aload_n 0, 1) := by decide +kernel
theorem dX12_rules_3 : decode cX12_rules 3 = .ok (.getfield 273, 3) := by decide +kernel
theorem dX12_rules_6 : decode cX12_rules 6 = .ok (.invokestatic 136, 3) := by decide +kernel
theorem dX12_rules_9 : decode cX12_rules 9 = .ok (.ifCond .ne 6, 3) := by decide +kernel
theorem dX12_rules_12 : decode cX12_rules 12 = .ok (.bipush (-2), 2) := by decide +kernel
theorem dX12_rules_14 : decode cX12_rules 14 = .ok (.ireturn, 1) := by decide +kernel
theorem dX12_rules_15 : decode cX12_rules 15 = .ok (.iconst 0, 1) := by decide +kernel
theorem dX12_rules_16 : decode cX12_rules 16 = .ok (.istore_n 2, 1) := by decide +kernel
theorem dX12_rules_17 : decode cX12_rules 17 = .ok (.iload_n 2, 1) := by decide +kernel
theorem dX12_rules_18 : decode cX12_rules 18 = .ok (.iload_n 1, 1) := by decide +kernel
theorem dX12_rules_19 : decode cX12_rules 19 = .ok (.if_icmp .ge 21, 3) := by decide +kernel
theorem dX12_rules_22 : decode cX12_rules 22 = .ok (.aload_n 0, 1) := by decide +kernel
theorem dX12_rules_23 : decode cX12_rules 23 = .ok (.getfield 88, 3) := by decide +kernel
theorem dX12_rules_26 : decode cX12_rules 26 = .ok (.iload_n 2, 1) := by decide +kernel
theorem dX12_rules_27 : decode cX12_rules 27 = .ok (.aload_n 0, 1) := by decide +kernel
theorem dX12_rules_28 : decode cX12_rules 28 = .ok (.getfield 84, 3) := by decide +kernel
theorem dX12_rules_31 : decode cX12_rules 31 = .ok (.iload_n 2, 1) := by decide +kernel
theorem dX12_rules_32 : decode cX12_rules 32 = .ok (.baload, 1) := by decide +kernel
theorem dX12_rules_33 : decode cX12_rules 33 = .ok (.bastore, 1) := by decide +kernel
theorem dX12_rules_34 : decode cX12_rules 34 = .ok (.iinc 2 1, 3) := by decide +kernel
theorem dX12_rules_37 : decode cX12_rules 37 = .ok (.goto (-20), 3) := by decide +kernel
theorem dX12_rules_40 : decode cX12_rules 40 = .ok (.aload_n 0, 1) := by decide +kernel
theorem dX12_rules_41 : decode cX12_rules 41 = .ok (.iload_n 1, 1) := by decide +kernel
theorem dX12_rules_42 : decode cX12_rules 42 = .ok (.putfield 283, 3) := by decide +kernel
theorem dX12_rules_45 : decode cX12_rules 45 = .ok (.aload_n 0, 1) := by decide +kernel
theorem dX12_rules_46 : decode cX12_rules 46 = .ok (.iconst 0, 1) := by decide +kernel
theorem dX12_rules_47 : decode cX12_rules 47 = .ok (.putfield 273, 3) := by decide +kernel
theorem dX12_rules_50 : decode cX12_rules 50 = .ok (.aload_n 0, 1) := by decide +kernel
theorem dX12_rules_51 : decode cX12_rules 51 = .ok (.iconst 0, 1) := by decide +kernel
theorem dX12_rules_52 : decode cX12_rules 52 = .ok (.putfield 280, 3) := by decide +kernel
theorem dX12_rules_55 : decode cX12_rules 55 = .ok (.aload_n 0, 1) := by decide +kernel
theorem dX12_rules_56 : decode cX12_rules 56 = .ok (.iconst 0, 1) := by decide +kernel
theorem dX12_rules_57 : decode cX12_rules 57 = .ok (.putfield 314, 3) := by decide +kernel
theorem dX12_rules_60 : decode cX12_rules 60 = .ok (.iconst 1, 1) := by decide +kernel
theorem dX12_rules_61 : decode cX12_rules 61 = .ok (.istore_n 2, 1) := by decide +kernel
theorem dX12_rules_62 : decode cX12_rules 62 = .ok (.aload_n 0, 1) := by decide +kernel
theorem dX12_rules_63 : decode cX12_rules 63 = .ok (.invokevirtual 286, 3) := by decide +kernel
theorem dX12_rules_66 : decode cX12_rules 66 = .ok (.iload_n 2, 1) := by decide +kernel
theorem dX12_rules_67 : decode cX12_rules 67 = .ok (.ifCond .eq 30, 3) := by decide +kernel
theorem dX12_rules_70 : decode cX12_rules 70 = .ok (.aload_n 0, 1) := by decide +kernel
theorem dX12_rules_71 : decode cX12_rules 71 = .ok (.getfield 280, 3) := by decide +kernel
theorem dX12_rules_74 : decode cX12_rules 74 = .ok (.aload_n 0, 1) := by decide +kernel
theorem dX12_rules_75 : decode cX12_rules 75 = .ok (.getfield 283, 3) := by decide +kernel
theorem dX12_rules_78 : decode cX12_rules 78 = .ok (.if_icmp .ge 19, 3) := by decide +kernel
theorem dX12_rules_81 : decode cX12_rules 81 = .ok (.aload_n 0, 1) := by decide +kernel
theorem dX12_rules_82 : decode cX12_rules 82 = .ok (.invokevirtual 338, 3) := by decide +kernel
theorem dX12_rules_85 : decode cX12_rules 85 = .ok (.istore_n 2, 1) := by decide +kernel
theorem dX12_rules_86 : decode cX12_rules 86 = .ok (.iload_n 2, 1) := by decide +kernel
theorem dX12_rules_87 : decode cX12_rules 87 = .ok (.ifCond .eq (-21), 3) := by decide +kernel
theorem dX12_rules_90 : decode cX12_rules 90 = .ok (.aload_n 0, 1) := by decide +kernel
theorem dX12_rules_91 : decode cX12_rules 91 = .ok (.invokevirtual 286, 3) := by decide +kernel
theorem dX12_rules_94 : decode cX12_rules 94 = .ok (.goto (-28), 3) := by decide +kernel
theorem dX12_rules_97 : decode cX12_rules 97 = .ok (.aload_n 0, 1) := by decide +kernel
theorem dX12_rules_98 : decode cX12_rules 98 = .ok (.iload_n 2, 1) := by decide +kernel
theorem dX12_rules_99 : decode cX12_rules 99 = .ok (.ifCond .eq 7, 3) := by decide +kernel
theorem dX12_rules_102 : decode cX12_rules 102 = .ok (.iconst (-1), 1) := by decide +kernel
theorem dX12_rules_103 : decode cX12_rules 103 = .ok (.goto 7, 3) := by decide +kernel
theorem dX12_rules_106 : decode cX12_rules 106 = .ok (.aload_n 0, 1) := by decide +kernel
theorem dX12_rules_107 : decode cX12_rules 107 = .ok (.getfield 280, 3) := by decide +kernel
theorem dX12_rules_110 : decode cX12_rules 110 = .ok (.putfield 91, 3) := by decide +kernel
theorem dX12_rules_113 : decode cX12_rules 113 = .ok (.iload_n 2, 1) := by decide +kernel
theorem dX12_rules_114 : decode cX12_rules 114 = .ok (.ifCond .ne 5, 3) := by decide +kernel
theorem dX12_rules_117 : decode cX12_rules 117 = .ok (.iconst (-1), 1) := by decide +kernel
theorem dX12_rules_118 : decode cX12_rules 118 = .ok (.ireturn, 1) := by decide +kernel
theorem dX12_rules_119 : decode cX12_rules 119 = .ok (.aload_n 0, 1) := by decide +kernel
theorem dX12_rules_120 : decode cX12_rules 120 = .ok (.aload_n 0, 1) := by decide +kernel
theorem dX12_rules_121 : decode cX12_rules 121 = .ok (.getfield 314, 3) := by decide +kernel
theorem dX12_rules_124 : decode cX12_rules 124 = .ok (.putfield 342, 3) := by decide +kernel
theorem dX12_rules_127 : decode cX12_rules 127 = .ok (.iconst 0, 1) := by decide +kernel
theorem dX12_rules_128 : decode cX12_rules 128 = .ok (.istore_n 3, 1) := by decide +kernel
theorem dX12_rules_129 : decode cX12_rules 129 = .ok (.iload_n 3, 1) := by decide +kernel
theorem dX12_rules_130 : decode cX12_rules 130 = .ok (.bipush 16, 2) := by decide +kernel
theorem dX12_rules_132 : decode cX12_rules 132 = .ok (.if_icmp .ge 57, 3) := by decide +kernel
theorem dX12_rules_135 : decode cX12_rules 135 = .ok (.aload_n 0, 1) := by decide +kernel
theorem dX12_rules_136 : decode cX12_rules 136 = .ok (.getfield 94, 3) := by decide +kernel
theorem dX12_rules_139 : decode cX12_rules 139 = .ok (.iload_n 3, 1) := by decide +kernel
theorem dX12_rules_140 : decode cX12_rules 140 = .ok (.aload_n 0, 1) := by decide +kernel
theorem dX12_rules_141 : decode cX12_rules 141 = .ok (.getfield 97, 3) := by decide +kernel
theorem dX12_rules_144 : decode cX12_rules 144 = .ok (.iload_n 3, 1) := by decide +kernel
theorem dX12_rules_145 : decode cX12_rules 145 = .ok (.baload, 1) := by decide +kernel
theorem dX12_rules_146 : decode cX12_rules 146 = .ok (.bastore, 1) := by decide +kernel
theorem dX12_rules_147 : decode cX12_rules 147 = .ok (.aload_n 0, 1) := by decide +kernel
theorem dX12_rules_148 : decode cX12_rules 148 = .ok (.getfield 100, 3) := by decide +kernel
theorem dX12_rules_151 : decode cX12_rules 151 = .ok (.iload_n 3, 1) := by decide +kernel
theorem dX12_rules_152 : decode cX12_rules 152 = .ok (.aload_n 0, 1) := by decide +kernel
theorem dX12_rules_153 : decode cX12_rules 153 = .ok (.getfield 118, 3) := by decide +kernel
theorem dX12_rules_156 : decode cX12_rules 156 = .ok (.iload_n 3, 1) := by decide +kernel
theorem dX12_rules_157 : decode cX12_rules 157 = .ok (.iaload, 1) := by decide +kernel
theorem dX12_rules_158 : decode cX12_rules 158 = .ok (.iastore, 1) := by decide +kernel
theorem dX12_rules_159 : decode cX12_rules 159 = .ok (.aload_n 0, 1) := by decide +kernel
theorem dX12_rules_160 : decode cX12_rules 160 = .ok (.getfield 103, 3) := by decide +kernel
theorem dX12_rules_163 : decode cX12_rules 163 = .ok (.iload_n 3, 1) := by decide +kernel
theorem dX12_rules_164 : decode cX12_rules 164 = .ok (.aload_n 0, 1) := by decide +kernel
theorem dX12_rules_165 : decode cX12_rules 165 = .ok (.getfield 121, 3) := by decide +kernel
theorem dX12_rules_168 : decode cX12_rules 168 = .ok (.iload_n 3, 1) := by decide +kernel
theorem dX12_rules_169 : decode cX12_rules 169 = .ok (.iaload, 1) := by decide +kernel
theorem dX12_rules_170 : decode cX12_rules 170 = .ok (.iastore, 1) := by decide +kernel
theorem dX12_rules_171 : decode cX12_rules 171 = .ok (.aload_n 0, 1) := by decide +kernel
theorem dX12_rules_172 : decode cX12_rules 172 = .ok (.getfield 106, 3) := by decide +kernel
theorem dX12_rules_175 : decode cX12_rules 175 = .ok (.iload_n 3, 1) := by decide +kernel
theorem dX12_rules_176 : decode cX12_rules 176 = .ok (.aload_n 0, 1) := by decide +kernel
theorem dX12_rules_177 : decode cX12_rules 177 = .ok (.getfield 124, 3) := by decide +kernel
theorem dX12_rules_180 : decode cX12_rules 180 = .ok (.iload_n 3, 1) := by decide +kernel
theorem dX12_rules_181 : decode cX12_rules 181 = .ok (.iaload, 1) := by decide +kernel
theorem dX12_rules_182 : decode cX12_rules 182 = .ok (.iastore, 1) := by decide +kernel
theorem dX12_rules_183 : decode cX12_rules 183 = .ok (.iinc 3 1, 3) := by decide +kernel
theorem dX12_rules_186 : decode cX12_rules 186 = .ok (.goto (-57), 3) := by decide +kernel
theorem dX12_rules_189 : decode cX12_rules 189 = .ok (.iconst 0, 1) := by decide +kernel
theorem dX12_rules_190 : decode cX12_rules 190 = .ok (.istore_n 3, 1) := by decide +kernel
theorem dX12_rules_191 : decode cX12_rules 191 = .ok (.iload_n 3, 1) := by decide +kernel
theorem dX12_rules_192 : decode cX12_rules 192 = .ok (.bipush 48, 2) := by decide +kernel
theorem dX12_rules_194 : decode cX12_rules 194 = .ok (.if_icmp .ge 45, 3) := by decide +kernel
theorem dX12_rules_197 : decode cX12_rules 197 = .ok (.aload_n 0, 1) := by decide +kernel
theorem dX12_rules_198 : decode cX12_rules 198 = .ok (.getfield 109, 3) := by decide +kernel
theorem dX12_rules_201 : decode cX12_rules 201 = .ok (.iload_n 3, 1) := by decide +kernel
theorem dX12_rules_202 : decode cX12_rules 202 = .ok (.aload_n 0, 1) := by decide +kernel
theorem dX12_rules_203 : decode cX12_rules 203 = .ok (.getfield 127, 3) := by decide +kernel
theorem dX12_rules_206 : decode cX12_rules 206 = .ok (.iload_n 3, 1) := by decide +kernel
theorem dX12_rules_207 : decode cX12_rules 207 = .ok (.iaload, 1) := by decide +kernel
theorem dX12_rules_208 : decode cX12_rules 208 = .ok (.iastore, 1) := by decide +kernel
theorem dX12_rules_209 : decode cX12_rules 209 = .ok (.aload_n 0, 1) := by decide +kernel
theorem dX12_rules_210 : decode cX12_rules 210 = .ok (.getfield 112, 3) := by decide +kernel
theorem dX12_rules_213 : decode cX12_rules 213 = .ok (.iload_n 3, 1) := by decide +kernel
theorem dX12_rules_214 : decode cX12_rules 214 = .ok (.aload_n 0, 1) := by decide +kernel
theorem dX12_rules_215 : decode cX12_rules 215 = .ok (.getfield 130, 3) := by decide +kernel
theorem dX12_rules_218 : decode cX12_rules 218 = .ok (.iload_n 3, 1) := by decide +kernel
theorem dX12_rules_219 : decode cX12_rules 219 = .ok (.iaload, 1) := by decide +kernel
theorem dX12_rules_220 : decode cX12_rules 220 = .ok (.iastore, 1) := by decide +kernel
theorem dX12_rules_221 : decode cX12_rules 221 = .ok (.aload_n 0, 1) := by decide +kernel
theorem dX12_rules_222 : decode cX12_rules 222 = .ok (.getfield 115, 3) := by decide +kernel
theorem dX12_rules_225 : decode cX12_rules 225 = .ok (.iload_n 3, 1) := by decide +kernel
theorem dX12_rules_226 : decode cX12_rules 226 = .ok (.aload_n 0, 1) := by decide +kernel
theorem dX12_rules_227 : decode cX12_rules 227 = .ok (.getfield 133, 3) := by decide +kernel
theorem dX12_rules_230 : decode cX12_rules 230 = .ok (.iload_n 3, 1) := by decide +kernel
theorem dX12_rules_231 : decode cX12_rules 231 = .ok (.iaload, 1) := by decide +kernel
theorem dX12_rules_232 : decode cX12_rules 232 = .ok (.iastore, 1) := by decide +kernel
theorem dX12_rules_233 : decode cX12_rules 233 = .ok (.iinc 3 1, 3) := by decide +kernel
theorem dX12_rules_236 : decode cX12_rules 236 = .ok (.goto (-45), 3) := by decide +kernel
theorem dX12_rules_239 : decode cX12_rules 239 = .ok (.aload_n 0, 1) := by decide +kernel
theorem dX12_rules_240 : decode cX12_rules 240 = .ok (.getfield 342, 3) := by decide +kernel
theorem dX12_rules_243 : decode cX12_rules 243 = .ok (.ireturn, 1) := by decide +kernel

theorem dX12_runs_0 : decode cX12_runs 0 = .ok (.iconst 1, 1) := by decide +kernel
theorem dX12_runs_1 : decode cX12_runs 1 = .ok (.istore_n 2, 1) := by decide +kernel
theorem dX12_runs_2 : decode cX12_runs 2 = .ok (.iload_n 1, 1) := by decide +kernel
theorem dX12_runs_3 : decode cX12_runs 3 = .ok (.istore_n 3, 1) := by decide +kernel
theorem dX12_runs_4 : decode cX12_runs 4 = .ok (.iload_n 3, 1) := by decide +kernel
theorem dX12_runs_5 : decode cX12_runs 5 = .ok (.ifCond .le 43, 3) := by decide +kernel
theorem dX12_runs_8 : decode cX12_runs 8 = .ok (.iload_n 2, 1) := by decide +kernel
theorem dX12_runs_9 : decode cX12_runs 9 = .ok (.ifCond .eq 27, 3) := by decide +kernel
theorem dX12_runs_12 : decode cX12_runs 12 = .ok (.aload_n 0, 1) := by decide +kernel
theorem dX12_runs_13 : decode cX12_runs 13 = .ok (.getfield 20, 3) := by decide +kernel
theorem dX12_runs_16 : decode cX12_runs 16 = .ok (.iload_n 3, 1) := by decide +kernel
theorem dX12_runs_17 : decode cX12_runs 17 = .ok (.iaload, 1) := by decide +kernel
theorem dX12_runs_18 : decode cX12_runs 18 = .ok (.aload_n 0, 1) := by decide +kernel
theorem dX12_runs_19 : decode cX12_runs 19 = .ok (.getfield 20, 3) := by decide +kernel
theorem dX12_runs_22 : decode cX12_runs 22 = .ok (.aload_n 0, 1) := by decide +kernel
theorem dX12_runs_23 : decode cX12_runs 23 = .ok (.getfield 13, 3) := by decide +kernel
theorem dX12_runs_26 : decode cX12_runs 26 = .ok (.iload_n 3, 1) := by decide +kernel
theorem dX12_runs_27 : decode cX12_runs 27 = .ok (.iaload, 1) := by decide +kernel
theorem dX12_runs_28 : decode cX12_runs 28 = .ok (.iaload, 1) := by decide +kernel
theorem dX12_runs_29 : decode cX12_runs 29 = .ok (.if_icmp .le 7, 3) := by decide +kernel
theorem dX12_runs_32 : decode cX12_runs 32 = .ok (.iconst 1, 1) := by decide +kernel
theorem dX12_runs_33 : decode cX12_runs 33 = .ok (.goto 4, 3) := by decide +kernel
theorem dX12_runs_36 : decode cX12_runs 36 = .ok (.iconst 0, 1) := by decide +kernel
theorem dX12_runs_37 : decode cX12_runs 37 = .ok (.istore_n 2, 1) := by decide +kernel
theorem dX12_runs_38 : decode cX12_runs 38 = .ok (.aload_n 0, 1) := by decide +kernel
theorem dX12_runs_39 : decode cX12_runs 39 = .ok (.getfield 13, 3) := by decide +kernel
theorem dX12_runs_42 : decode cX12_runs 42 = .ok (.iload_n 3, 1) := by decide +kernel
theorem dX12_runs_43 : decode cX12_runs 43 = .ok (.iaload, 1) := by decide +kernel
theorem dX12_runs_44 : decode cX12_runs 44 = .ok (.istore_n 3, 1) := by decide +kernel
theorem dX12_runs_45 : decode cX12_runs 45 = .ok (.goto (-41), 3) := by decide +kernel
theorem dX12_runs_48 : decode cX12_runs 48 = .ok (.iload_n 2, 1) := by decide +kernel
theorem dX12_runs_49 : decode cX12_runs 49 = .ok (.ireturn, 1) := by decide +kernel

theorem dX12_sell_0 : decode cX12_sell 0 = .ok (.iload_n 1, 1) := by decide +kernel
theorem dX12_sell_1 : decode cX12_sell 1 = .ok (.iconst 0, 1) := by decide +kernel
theorem dX12_sell_2 : decode cX12_sell 2 = .ok (.iconst 4, 1) := by decide +kernel
theorem dX12_sell_3 : decode cX12_sell 3 = .ok (.invokestatic 136, 3) := by decide +kernel
theorem dX12_sell_6 : decode cX12_sell 6 = .ok (.ifCond .eq 13, 3) := by decide +kernel
theorem dX12_sell_9 : decode cX12_sell 9 = .ok (.iload_n 2, 1) := by decide +kernel
theorem dX12_sell_10 : decode cX12_sell 10 = .ok (.iconst 0, 1) := by decide +kernel
theorem dX12_sell_11 : decode cX12_sell 11 = .ok (.ldc 247, 2) := by decide +kernel
theorem dX12_sell_13 : decode cX12_sell 13 = .ok (.invokestatic 136, 3) := by decide +kernel
theorem dX12_sell_16 : decode cX12_sell 16 = .ok (.ifCond .ne 5, 3) := by decide +kernel
theorem dX12_sell_19 : decode cX12_sell 19 = .ok (.iconst (-1), 1) := by decide +kernel
theorem dX12_sell_20 : decode cX12_sell 20 = .ok (.ireturn, 1) := by decide +kernel
theorem dX12_sell_21 : decode cX12_sell 21 = .ok (.lconst 0, 1) := by decide +kernel
theorem dX12_sell_22 : decode cX12_sell 22 = .ok (.lstore_n 3, 1) := by decide +kernel
theorem dX12_sell_23 : decode cX12_sell 23 = .ok (.iconst 0, 1) := by decide +kernel
theorem dX12_sell_24 : decode cX12_sell 24 = .ok (.istore 5, 2) := by decide +kernel
theorem dX12_sell_26 : decode cX12_sell 26 = .ok (.iload 5, 2) := by decide +kernel
theorem dX12_sell_28 : decode cX12_sell 28 = .ok (.bipush 10, 2) := by decide +kernel
theorem dX12_sell_30 : decode cX12_sell 30 = .ok (.if_icmp .ge 20, 3) := by decide +kernel
theorem dX12_sell_33 : decode cX12_sell 33 = .ok (.lload_n 3, 1) := by decide +kernel
theorem dX12_sell_34 : decode cX12_sell 34 = .ok (.aload_n 0, 1) := by decide +kernel
theorem dX12_sell_35 : decode cX12_sell 35 = .ok (.getfield 50, 3) := by decide +kernel
theorem dX12_sell_38 : decode cX12_sell 38 = .ok (.iload 5, 2) := by decide +kernel
theorem dX12_sell_40 : decode cX12_sell 40 = .ok (.iaload, 1) := by decide +kernel
theorem dX12_sell_41 : decode cX12_sell 41 = .ok (.i2l, 1) := by decide +kernel
theorem dX12_sell_42 : decode cX12_sell 42 = .ok (.ladd, 1) := by decide +kernel
theorem dX12_sell_43 : decode cX12_sell 43 = .ok (.lstore_n 3, 1) := by decide +kernel
theorem dX12_sell_44 : decode cX12_sell 44 = .ok (.iinc 5 1, 3) := by decide +kernel
theorem dX12_sell_47 : decode cX12_sell 47 = .ok (.goto (-21), 3) := by decide +kernel
theorem dX12_sell_50 : decode cX12_sell 50 = .ok (.iconst 0, 1) := by decide +kernel
theorem dX12_sell_51 : decode cX12_sell 51 = .ok (.istore 5, 2) := by decide +kernel
theorem dX12_sell_53 : decode cX12_sell 53 = .ok (.iconst 0, 1) := by decide +kernel
theorem dX12_sell_54 : decode cX12_sell 54 = .ok (.istore 6, 2) := by decide +kernel
theorem dX12_sell_56 : decode cX12_sell 56 = .ok (.iload 6, 2) := by decide +kernel
theorem dX12_sell_58 : decode cX12_sell 58 = .ok (.aload_n 0, 1) := by decide +kernel
theorem dX12_sell_59 : decode cX12_sell 59 = .ok (.getfield 261, 3) := by decide +kernel
theorem dX12_sell_62 : decode cX12_sell 62 = .ok (.if_icmp .ge 42, 3) := by decide +kernel
theorem dX12_sell_65 : decode cX12_sell 65 = .ok (.iload 5, 2) := by decide +kernel
theorem dX12_sell_67 : decode cX12_sell 67 = .ok (.aload_n 0, 1) := by decide +kernel
theorem dX12_sell_68 : decode cX12_sell 68 = .ok (.getfield 77, 3) := by decide +kernel
theorem dX12_sell_71 : decode cX12_sell 71 = .ok (.iload 6, 2) := by decide +kernel
theorem dX12_sell_73 : decode cX12_sell 73 = .ok (.baload, 1) := by decide +kernel
theorem dX12_sell_74 : decode cX12_sell 74 = .ok (.ifCond .ne 17, 3) := by decide +kernel
theorem dX12_sell_77 : decode cX12_sell 77 = .ok (.aload_n 0, 1) := by decide +kernel
theorem dX12_sell_78 : decode cX12_sell 78 = .ok (.iload 6, 2) := by decide +kernel
theorem dX12_sell_80 : decode cX12_sell 80 = .ok (.invokevirtual 270, 3) := by decide +kernel
theorem dX12_sell_83 : decode cX12_sell 83 = .ok (.iload_n 1, 1) := by decide +kernel
theorem dX12_sell_84 : decode cX12_sell 84 = .ok (.if_icmp .ne 7, 3) := by decide +kernel
theorem dX12_sell_87 : decode cX12_sell 87 = .ok (.iconst 1, 1) := by decide +kernel
theorem dX12_sell_88 : decode cX12_sell 88 = .ok (.goto 4, 3) := by decide +kernel
theorem dX12_sell_91 : decode cX12_sell 91 = .ok (.iconst 0, 1) := by decide +kernel
theorem dX12_sell_92 : decode cX12_sell 92 = .ok (.invokestatic 159, 3) := by decide +kernel
theorem dX12_sell_95 : decode cX12_sell 95 = .ok (.iadd, 1) := by decide +kernel
theorem dX12_sell_96 : decode cX12_sell 96 = .ok (.istore 5, 2) := by decide +kernel
theorem dX12_sell_98 : decode cX12_sell 98 = .ok (.iinc 6 1, 3) := by decide +kernel
theorem dX12_sell_101 : decode cX12_sell 101 = .ok (.goto (-45), 3) := by decide +kernel
theorem dX12_sell_104 : decode cX12_sell 104 = .ok (.iload 5, 2) := by decide +kernel
theorem dX12_sell_106 : decode cX12_sell 106 = .ok (.ifCond .eq 9, 3) := by decide +kernel
theorem dX12_sell_109 : decode cX12_sell 109 = .ok (.lload_n 3, 1) := by decide +kernel
theorem dX12_sell_110 : decode cX12_sell 110 = .ok (.lconst 0, 1) := by decide +kernel
theorem dX12_sell_111 : decode cX12_sell 111 = .ok (.lcmp, 1) := by decide +kernel
theorem dX12_sell_112 : decode cX12_sell 112 = .ok (.ifCond .ne 5, 3) := by decide +kernel
theorem dX12_sell_115 : decode cX12_sell 115 = .ok (.iconst (-1), 1) := by decide +kernel
theorem dX12_sell_116 : decode cX12_sell 116 = .ok (.ireturn, 1) := by decide +kernel
theorem dX12_sell_117 : decode cX12_sell 117 = .ok (.iconst 0, 1) := by decide +kernel
theorem dX12_sell_118 : decode cX12_sell 118 = .ok (.istore 6, 2) := by decide +kernel
theorem dX12_sell_120 : decode cX12_sell 120 = .ok (.iload 6, 2) := by decide +kernel
theorem dX12_sell_122 : decode cX12_sell 122 = .ok (.aload_n 0, 1) := by decide +kernel
theorem dX12_sell_123 : decode cX12_sell 123 = .ok (.getfield 261, 3) := by decide +kernel
theorem dX12_sell_126 : decode cX12_sell 126 = .ok (.if_icmp .ge 41, 3) := by decide +kernel
theorem dX12_sell_129 : decode cX12_sell 129 = .ok (.aload_n 0, 1) := by decide +kernel
theorem dX12_sell_130 : decode cX12_sell 130 = .ok (.getfield 77, 3) := by decide +kernel
theorem dX12_sell_133 : decode cX12_sell 133 = .ok (.iload 6, 2) := by decide +kernel
theorem dX12_sell_135 : decode cX12_sell 135 = .ok (.aload_n 0, 1) := by decide +kernel
theorem dX12_sell_136 : decode cX12_sell 136 = .ok (.getfield 77, 3) := by decide +kernel
theorem dX12_sell_139 : decode cX12_sell 139 = .ok (.iload 6, 2) := by decide +kernel
theorem dX12_sell_141 : decode cX12_sell 141 = .ok (.baload, 1) := by decide +kernel
theorem dX12_sell_142 : decode cX12_sell 142 = .ok (.ifCond .ne 13, 3) := by decide +kernel
theorem dX12_sell_145 : decode cX12_sell 145 = .ok (.aload_n 0, 1) := by decide +kernel
theorem dX12_sell_146 : decode cX12_sell 146 = .ok (.iload 6, 2) := by decide +kernel
theorem dX12_sell_148 : decode cX12_sell 148 = .ok (.invokevirtual 270, 3) := by decide +kernel
theorem dX12_sell_151 : decode cX12_sell 151 = .ok (.iload_n 1, 1) := by decide +kernel
theorem dX12_sell_152 : decode cX12_sell 152 = .ok (.if_icmp .ne 7, 3) := by decide +kernel
theorem dX12_sell_155 : decode cX12_sell 155 = .ok (.iconst 1, 1) := by decide +kernel
theorem dX12_sell_156 : decode cX12_sell 156 = .ok (.goto 4, 3) := by decide +kernel
theorem dX12_sell_159 : decode cX12_sell 159 = .ok (.iconst 0, 1) := by decide +kernel
theorem dX12_sell_160 : decode cX12_sell 160 = .ok (.bastore, 1) := by decide +kernel
theorem dX12_sell_161 : decode cX12_sell 161 = .ok (.iinc 6 1, 3) := by decide +kernel
theorem dX12_sell_164 : decode cX12_sell 164 = .ok (.goto (-44), 3) := by decide +kernel
theorem dX12_sell_167 : decode cX12_sell 167 = .ok (.iload_n 2, 1) := by decide +kernel
theorem dX12_sell_168 : decode cX12_sell 168 = .ok (.istore 6, 2) := by decide +kernel
theorem dX12_sell_170 : decode cX12_sell 170 = .ok (.iconst 0, 1) := by decide +kernel
theorem dX12_sell_171 : decode cX12_sell 171 = .ok (.istore 7, 2) := by decide +kernel
theorem dX12_sell_173 : decode cX12_sell 173 = .ok (.iload 7, 2) := by decide +kernel
theorem dX12_sell_175 : decode cX12_sell 175 = .ok (.bipush 10, 2) := by decide +kernel
theorem dX12_sell_177 : decode cX12_sell 177 = .ok (.if_icmp .ge 52, 3) := by decide +kernel
theorem dX12_sell_180 : decode cX12_sell 180 = .ok (.iload_n 2, 1) := by decide +kernel
theorem dX12_sell_181 : decode cX12_sell 181 = .ok (.i2l, 1) := by decide +kernel
theorem dX12_sell_182 : decode cX12_sell 182 = .ok (.aload_n 0, 1) := by decide +kernel
theorem dX12_sell_183 : decode cX12_sell 183 = .ok (.getfield 50, 3) := by decide +kernel
theorem dX12_sell_186 : decode cX12_sell 186 = .ok (.iload 7, 2) := by decide +kernel
theorem dX12_sell_188 : decode cX12_sell 188 = .ok (.iaload, 1) := by decide +kernel
theorem dX12_sell_189 : decode cX12_sell 189 = .ok (.i2l, 1) := by decide +kernel
theorem dX12_sell_190 : decode cX12_sell 190 = .ok (.lmul, 1) := by decide +kernel
theorem dX12_sell_191 : decode cX12_sell 191 = .ok (.lload_n 3, 1) := by decide +kernel
theorem dX12_sell_192 : decode cX12_sell 192 = .ok (.ldiv, 1) := by decide +kernel
theorem dX12_sell_193 : decode cX12_sell 193 = .ok (.l2i, 1) := by decide +kernel
theorem dX12_sell_194 : decode cX12_sell 194 = .ok (.istore 8, 2) := by decide +kernel
theorem dX12_sell_196 : decode cX12_sell 196 = .ok (.aload_n 0, 1) := by decide +kernel
theorem dX12_sell_197 : decode cX12_sell 197 = .ok (.getfield 53, 3) := by decide +kernel
theorem dX12_sell_200 : decode cX12_sell 200 = .ok (.iload 7, 2) := by decide +kernel
theorem dX12_sell_202 : decode cX12_sell 202 = .ok (.dup2, 1) := by decide +kernel
theorem dX12_sell_203 : decode cX12_sell 203 = .ok (.iaload, 1) := by decide +kernel
theorem dX12_sell_204 : decode cX12_sell 204 = .ok (.iload 8, 2) := by decide +kernel
theorem dX12_sell_206 : decode cX12_sell 206 = .ok (.iadd, 1) := by decide +kernel
theorem dX12_sell_207 : decode cX12_sell 207 = .ok (.iastore, 1) := by decide +kernel
theorem dX12_sell_208 : decode cX12_sell 208 = .ok (.iload 6, 2) := by decide +kernel
theorem dX12_sell_210 : decode cX12_sell 210 = .ok (.iload 8, 2) := by decide +kernel
theorem dX12_sell_212 : decode cX12_sell 212 = .ok (.isub, 1) := by decide +kernel
theorem dX12_sell_213 : decode cX12_sell 213 = .ok (.istore 6, 2) := by decide +kernel
theorem dX12_sell_215 : decode cX12_sell 215 = .ok (.aload_n 0, 1) := by decide +kernel
theorem dX12_sell_216 : decode cX12_sell 216 = .ok (.getfield 81, 3) := by decide +kernel
theorem dX12_sell_219 : decode cX12_sell 219 = .ok (.iload 7, 2) := by decide +kernel
theorem dX12_sell_221 : decode cX12_sell 221 = .ok (.iconst 0, 1) := by decide +kernel
theorem dX12_sell_222 : decode cX12_sell 222 = .ok (.bastore, 1) := by decide +kernel
theorem dX12_sell_223 : decode cX12_sell 223 = .ok (.iinc 7 1, 3) := by decide +kernel
theorem dX12_sell_226 : decode cX12_sell 226 = .ok (.goto (-53), 3) := by decide +kernel
theorem dX12_sell_229 : decode cX12_sell 229 = .ok (.iload 6, 2) := by decide +kernel
theorem dX12_sell_231 : decode cX12_sell 231 = .ok (.ifCond .le 97, 3) := by decide +kernel
theorem dX12_sell_234 : decode cX12_sell 234 = .ok (.iconst (-1), 1) := by decide +kernel
theorem dX12_sell_235 : decode cX12_sell 235 = .ok (.istore 7, 2) := by decide +kernel
theorem dX12_sell_237 : decode cX12_sell 237 = .ok (.iconst 0, 1) := by decide +kernel
theorem dX12_sell_238 : decode cX12_sell 238 = .ok (.istore 8, 2) := by decide +kernel
theorem dX12_sell_240 : decode cX12_sell 240 = .ok (.iload 8, 2) := by decide +kernel
theorem dX12_sell_242 : decode cX12_sell 242 = .ok (.bipush 10, 2) := by decide +kernel
theorem dX12_sell_244 : decode cX12_sell 244 = .ok (.if_icmp .ge 59, 3) := by decide +kernel
theorem dX12_sell_247 : decode cX12_sell 247 = .ok (.aload_n 0, 1) := by decide +kernel
theorem dX12_sell_248 : decode cX12_sell 248 = .ok (.getfield 81, 3) := by decide +kernel
theorem dX12_sell_251 : decode cX12_sell 251 = .ok (.iload 8, 2) := by decide +kernel
theorem dX12_sell_253 : decode cX12_sell 253 = .ok (.baload, 1) := by decide +kernel
theorem dX12_sell_254 : decode cX12_sell 254 = .ok (.ifCond .ne 43, 3) := by decide +kernel
theorem dX12_sell_257 : decode cX12_sell 257 = .ok (.iload 7, 2) := by decide +kernel
theorem dX12_sell_259 : decode cX12_sell 259 = .ok (.iconst (-1), 1) := by decide +kernel
theorem dX12_sell_260 : decode cX12_sell 260 = .ok (.if_icmp .eq 33, 3) := by decide +kernel
theorem dX12_sell_263 : decode cX12_sell 263 = .ok (.iload_n 2, 1) := by decide +kernel
theorem dX12_sell_264 : decode cX12_sell 264 = .ok (.i2l, 1) := by decide +kernel
theorem dX12_sell_265 : decode cX12_sell 265 = .ok (.aload_n 0, 1) := by decide +kernel
theorem dX12_sell_266 : decode cX12_sell 266 = .ok (.getfield 50, 3) := by decide +kernel
theorem dX12_sell_269 : decode cX12_sell 269 = .ok (.iload 8, 2) := by decide +kernel
theorem dX12_sell_271 : decode cX12_sell 271 = .ok (.iaload, 1) := by decide +kernel
theorem dX12_sell_272 : decode cX12_sell 272 = .ok (.i2l, 1) := by decide +kernel
theorem dX12_sell_273 : decode cX12_sell 273 = .ok (.lmul, 1) := by decide +kernel
theorem dX12_sell_274 : decode cX12_sell 274 = .ok (.lload_n 3, 1) := by decide +kernel
theorem dX12_sell_275 : decode cX12_sell 275 = .ok (.lrem, 1) := by decide +kernel
theorem dX12_sell_276 : decode cX12_sell 276 = .ok (.iload_n 2, 1) := by decide +kernel
theorem dX12_sell_277 : decode cX12_sell 277 = .ok (.i2l, 1) := by decide +kernel
theorem dX12_sell_278 : decode cX12_sell 278 = .ok (.aload_n 0, 1) := by decide +kernel
theorem dX12_sell_279 : decode cX12_sell 279 = .ok (.getfield 50, 3) := by decide +kernel
theorem dX12_sell_282 : decode cX12_sell 282 = .ok (.iload 7, 2) := by decide +kernel
theorem dX12_sell_284 : decode cX12_sell 284 = .ok (.iaload, 1) := by decide +kernel
theorem dX12_sell_285 : decode cX12_sell 285 = .ok (.i2l, 1) := by decide +kernel
theorem dX12_sell_286 : decode cX12_sell 286 = .ok (.lmul, 1) := by decide +kernel
theorem dX12_sell_287 : decode cX12_sell 287 = .ok (.lload_n 3, 1) := by decide +kernel
theorem dX12_sell_288 : decode cX12_sell 288 = .ok (.lrem, 1) := by decide +kernel
theorem dX12_sell_289 : decode cX12_sell 289 = .ok (.lcmp, 1) := by decide +kernel
theorem dX12_sell_290 : decode cX12_sell 290 = .ok (.ifCond .le 7, 3) := by decide +kernel
theorem dX12_sell_293 : decode cX12_sell 293 = .ok (.iload 8, 2) := by decide +kernel
theorem dX12_sell_295 : decode cX12_sell 295 = .ok (.istore 7, 2) := by decide +kernel
theorem dX12_sell_297 : decode cX12_sell 297 = .ok (.iinc 8 1, 3) := by decide +kernel
theorem dX12_sell_300 : decode cX12_sell 300 = .ok (.goto (-60), 3) := by decide +kernel
theorem dX12_sell_303 : decode cX12_sell 303 = .ok (.aload_n 0, 1) := by decide +kernel
theorem dX12_sell_304 : decode cX12_sell 304 = .ok (.getfield 81, 3) := by decide +kernel
theorem dX12_sell_307 : decode cX12_sell 307 = .ok (.iload 7, 2) := by decide +kernel
theorem dX12_sell_309 : decode cX12_sell 309 = .ok (.iconst 1, 1) := by decide +kernel
theorem dX12_sell_310 : decode cX12_sell 310 = .ok (.bastore, 1) := by decide +kernel
theorem dX12_sell_311 : decode cX12_sell 311 = .ok (.aload_n 0, 1) := by decide +kernel
theorem dX12_sell_312 : decode cX12_sell 312 = .ok (.getfield 53, 3) := by decide +kernel
theorem dX12_sell_315 : decode cX12_sell 315 = .ok (.iload 7, 2) := by decide +kernel
theorem dX12_sell_317 : decode cX12_sell 317 = .ok (.dup2, 1) := by decide +kernel
theorem dX12_sell_318 : decode cX12_sell 318 = .ok (.iaload, 1) := by decide +kernel
theorem dX12_sell_319 : decode cX12_sell 319 = .ok (.iconst 1, 1) := by decide +kernel
theorem dX12_sell_320 : decode cX12_sell 320 = .ok (.iadd, 1) := by decide +kernel
theorem dX12_sell_321 : decode cX12_sell 321 = .ok (.iastore, 1) := by decide +kernel
theorem dX12_sell_322 : decode cX12_sell 322 = .ok (.iinc 6 (-1), 3) := by decide +kernel
theorem dX12_sell_325 : decode cX12_sell 325 = .ok (.goto (-96), 3) := by decide +kernel
theorem dX12_sell_328 : decode cX12_sell 328 = .ok (.iload 5, 2) := by decide +kernel
theorem dX12_sell_330 : decode cX12_sell 330 = .ok (.ireturn, 1) := by decide +kernel

theorem dX12_statement_0 : decode cX12_statement 0 = .ok (.aload_n 0, 1) := by decide +kernel
theorem dX12_statement_1 : decode cX12_statement 1 = .ok (.getfield 314, 3) := by decide +kernel
theorem dX12_statement_4 : decode cX12_statement 4 = .ok (.istore_n 1, 1) := by decide +kernel
theorem dX12_statement_5 : decode cX12_statement 5 = .ok (.aload_n 0, 1) := by decide +kernel
theorem dX12_statement_6 : decode cX12_statement 6 = .ok (.invokevirtual 286, 3) := by decide +kernel
theorem dX12_statement_9 : decode cX12_statement 9 = .ok (.iload_n 1, 1) := by decide +kernel
theorem dX12_statement_10 : decode cX12_statement 10 = .ok (.bipush 16, 2) := by decide +kernel
theorem dX12_statement_12 : decode cX12_statement 12 = .ok (.if_icmp .ne 5, 3) := by decide +kernel
theorem dX12_statement_15 : decode cX12_statement 15 = .ok (.iconst 0, 1) := by decide +kernel
theorem dX12_statement_16 : decode cX12_statement 16 = .ok (.ireturn, 1) := by decide +kernel
theorem dX12_statement_17 : decode cX12_statement 17 = .ok (.aload_n 0, 1) := by decide +kernel
theorem dX12_statement_18 : decode cX12_statement 18 = .ok (.getfield 97, 3) := by decide +kernel
theorem dX12_statement_21 : decode cX12_statement 21 = .ok (.iload_n 1, 1) := by decide +kernel
theorem dX12_statement_22 : decode cX12_statement 22 = .ok (.aload_n 0, 1) := by decide +kernel
theorem dX12_statement_23 : decode cX12_statement 23 = .ok (.ldc2_w 317, 3) := by decide +kernel
theorem dX12_statement_26 : decode cX12_statement 26 = .ok (.invokevirtual 319, 3) := by decide +kernel
theorem dX12_statement_29 : decode cX12_statement 29 = .ok (.bastore, 1) := by decide +kernel
theorem dX12_statement_30 : decode cX12_statement 30 = .ok (.aload_n 0, 1) := by decide +kernel
theorem dX12_statement_31 : decode cX12_statement 31 = .ok (.getfield 97, 3) := by decide +kernel
theorem dX12_statement_34 : decode cX12_statement 34 = .ok (.iload_n 1, 1) := by decide +kernel
theorem dX12_statement_35 : decode cX12_statement 35 = .ok (.baload, 1) := by decide +kernel
theorem dX12_statement_36 : decode cX12_statement 36 = .ok (.ifCond .eq 15, 3) := by decide +kernel
theorem dX12_statement_39 : decode cX12_statement 39 = .ok (.aload_n 0, 1) := by decide +kernel
theorem dX12_statement_40 : decode cX12_statement 40 = .ok (.ldc2_w 323, 3) := by decide +kernel
theorem dX12_statement_43 : decode cX12_statement 43 = .ok (.invokevirtual 319, 3) := by decide +kernel
theorem dX12_statement_46 : decode cX12_statement 46 = .ok (.ifCond .ne 35, 3) := by decide +kernel
theorem dX12_statement_49 : decode cX12_statement 49 = .ok (.iconst 0, 1) := by decide +kernel
theorem dX12_statement_50 : decode cX12_statement 50 = .ok (.ireturn, 1) := by decide +kernel
theorem dX12_statement_51 : decode cX12_statement 51 = .ok (.aload_n 0, 1) := by decide +kernel
theorem dX12_statement_52 : decode cX12_statement 52 = .ok (.ldc2_w 325, 3) := by decide +kernel
theorem dX12_statement_55 : decode cX12_statement 55 = .ok (.invokevirtual 319, 3) := by decide +kernel
theorem dX12_statement_58 : decode cX12_statement 58 = .ok (.ifCond .eq 11, 3) := by decide +kernel
theorem dX12_statement_61 : decode cX12_statement 61 = .ok (.aload_n 0, 1) := by decide +kernel
theorem dX12_statement_62 : decode cX12_statement 62 = .ok (.iconst 4, 1) := by decide +kernel
theorem dX12_statement_63 : decode cX12_statement 63 = .ok (.invokevirtual 311, 3) := by decide +kernel
theorem dX12_statement_66 : decode cX12_statement 66 = .ok (.ifCond .ne 5, 3) := by decide +kernel
theorem dX12_statement_69 : decode cX12_statement 69 = .ok (.iconst 0, 1) := by decide +kernel
theorem dX12_statement_70 : decode cX12_statement 70 = .ok (.ireturn, 1) := by decide +kernel
theorem dX12_statement_71 : decode cX12_statement 71 = .ok (.aload_n 0, 1) := by decide +kernel
theorem dX12_statement_72 : decode cX12_statement 72 = .ok (.getfield 121, 3) := by decide +kernel
theorem dX12_statement_75 : decode cX12_statement 75 = .ok (.iload_n 1, 1) := by decide +kernel
theorem dX12_statement_76 : decode cX12_statement 76 = .ok (.aload_n 0, 1) := by decide +kernel
theorem dX12_statement_77 : decode cX12_statement 77 = .ok (.getfield 296, 3) := by decide +kernel
theorem dX12_statement_80 : decode cX12_statement 80 = .ok (.iastore, 1) := by decide +kernel
theorem dX12_statement_81 : decode cX12_statement 81 = .ok (.aload_n 0, 1) := by decide +kernel
theorem dX12_statement_82 : decode cX12_statement 82 = .ok (.ldc2_w 327, 3) := by decide +kernel
theorem dX12_statement_85 : decode cX12_statement 85 = .ok (.invokevirtual 319, 3) := by decide +kernel
theorem dX12_statement_88 : decode cX12_statement 88 = .ok (.ifCond .ne 5, 3) := by decide +kernel
theorem dX12_statement_91 : decode cX12_statement 91 = .ok (.iconst 0, 1) := by decide +kernel
theorem dX12_statement_92 : decode cX12_statement 92 = .ok (.ireturn, 1) := by decide +kernel
theorem dX12_statement_93 : decode cX12_statement 93 = .ok (.aload_n 0, 1) := by decide +kernel
theorem dX12_statement_94 : decode cX12_statement 94 = .ok (.getfield 124, 3) := by decide +kernel
theorem dX12_statement_97 : decode cX12_statement 97 = .ok (.iload_n 1, 1) := by decide +kernel
theorem dX12_statement_98 : decode cX12_statement 98 = .ok (.iconst 0, 1) := by decide +kernel
theorem dX12_statement_99 : decode cX12_statement 99 = .ok (.iastore, 1) := by decide +kernel
theorem dX12_statement_100 : decode cX12_statement 100 = .ok (.aload_n 0, 1) := by decide +kernel
theorem dX12_statement_101 : decode cX12_statement 101 = .ok (.invokevirtual 286, 3) := by decide +kernel
theorem dX12_statement_104 : decode cX12_statement 104 = .ok (.aload_n 0, 1) := by decide +kernel
theorem dX12_statement_105 : decode cX12_statement 105 = .ok (.getfield 124, 3) := by decide +kernel
theorem dX12_statement_108 : decode cX12_statement 108 = .ok (.iload_n 1, 1) := by decide +kernel
theorem dX12_statement_109 : decode cX12_statement 109 = .ok (.iaload, 1) := by decide +kernel
theorem dX12_statement_110 : decode cX12_statement 110 = .ok (.iconst 3, 1) := by decide +kernel
theorem dX12_statement_111 : decode cX12_statement 111 = .ok (.if_icmp .eq 20, 3) := by decide +kernel
theorem dX12_statement_114 : decode cX12_statement 114 = .ok (.aload_n 0, 1) := by decide +kernel
theorem dX12_statement_115 : decode cX12_statement 115 = .ok (.iconst 3, 1) := by decide +kernel
theorem dX12_statement_116 : decode cX12_statement 116 = .ok (.iload_n 1, 1) := by decide +kernel
theorem dX12_statement_117 : decode cX12_statement 117 = .ok (.imul, 1) := by decide +kernel
theorem dX12_statement_118 : decode cX12_statement 118 = .ok (.aload_n 0, 1) := by decide +kernel
theorem dX12_statement_119 : decode cX12_statement 119 = .ok (.getfield 124, 3) := by decide +kernel
theorem dX12_statement_122 : decode cX12_statement 122 = .ok (.iload_n 1, 1) := by decide +kernel
theorem dX12_statement_123 : decode cX12_statement 123 = .ok (.iaload, 1) := by decide +kernel
theorem dX12_statement_124 : decode cX12_statement 124 = .ok (.iadd, 1) := by decide +kernel
theorem dX12_statement_125 : decode cX12_statement 125 = .ok (.invokevirtual 329, 3) := by decide +kernel
theorem dX12_statement_128 : decode cX12_statement 128 = .ok (.ifCond .ne 5, 3) := by decide +kernel
theorem dX12_statement_131 : decode cX12_statement 131 = .ok (.iconst 0, 1) := by decide +kernel
theorem dX12_statement_132 : decode cX12_statement 132 = .ok (.ireturn, 1) := by decide +kernel
theorem dX12_statement_133 : decode cX12_statement 133 = .ok (.aload_n 0, 1) := by decide +kernel
theorem dX12_statement_134 : decode cX12_statement 134 = .ok (.getfield 124, 3) := by decide +kernel
theorem dX12_statement_137 : decode cX12_statement 137 = .ok (.iload_n 1, 1) := by decide +kernel
theorem dX12_statement_138 : decode cX12_statement 138 = .ok (.dup2, 1) := by decide +kernel
theorem dX12_statement_139 : decode cX12_statement 139 = .ok (.iaload, 1) := by decide +kernel
theorem dX12_statement_140 : decode cX12_statement 140 = .ok (.iconst 1, 1) := by decide +kernel
theorem dX12_statement_141 : decode cX12_statement 141 = .ok (.iadd, 1) := by decide +kernel
theorem dX12_statement_142 : decode cX12_statement 142 = .ok (.iastore, 1) := by decide +kernel
theorem dX12_statement_143 : decode cX12_statement 143 = .ok (.aload_n 0, 1) := by decide +kernel
theorem dX12_statement_144 : decode cX12_statement 144 = .ok (.ldc2_w 332, 3) := by decide +kernel
theorem dX12_statement_147 : decode cX12_statement 147 = .ok (.invokevirtual 319, 3) := by decide +kernel
theorem dX12_statement_150 : decode cX12_statement 150 = .ok (.ifCond .ne (-50), 3) := by decide +kernel
theorem dX12_statement_153 : decode cX12_statement 153 = .ok (.aload_n 0, 1) := by decide +kernel
theorem dX12_statement_154 : decode cX12_statement 154 = .ok (.getfield 118, 3) := by decide +kernel
theorem dX12_statement_157 : decode cX12_statement 157 = .ok (.iload_n 1, 1) := by decide +kernel
theorem dX12_statement_158 : decode cX12_statement 158 = .ok (.iconst (-1), 1) := by decide +kernel
theorem dX12_statement_159 : decode cX12_statement 159 = .ok (.iastore, 1) := by decide +kernel
theorem dX12_statement_160 : decode cX12_statement 160 = .ok (.aload_n 0, 1) := by decide +kernel
theorem dX12_statement_161 : decode cX12_statement 161 = .ok (.getfield 97, 3) := by decide +kernel
theorem dX12_statement_164 : decode cX12_statement 164 = .ok (.iload_n 1, 1) := by decide +kernel
theorem dX12_statement_165 : decode cX12_statement 165 = .ok (.baload, 1) := by decide +kernel
theorem dX12_statement_166 : decode cX12_statement 166 = .ok (.ifCond .eq 56, 3) := by decide +kernel
theorem dX12_statement_169 : decode cX12_statement 169 = .ok (.aload_n 0, 1) := by decide +kernel
theorem dX12_statement_170 : decode cX12_statement 170 = .ok (.ldc2_w 334, 3) := by decide +kernel
theorem dX12_statement_173 : decode cX12_statement 173 = .ok (.invokevirtual 319, 3) := by decide +kernel
theorem dX12_statement_176 : decode cX12_statement 176 = .ok (.ifCond .ne 5, 3) := by decide +kernel
theorem dX12_statement_179 : decode cX12_statement 179 = .ok (.iconst 0, 1) := by decide +kernel
theorem dX12_statement_180 : decode cX12_statement 180 = .ok (.ireturn, 1) := by decide +kernel
theorem dX12_statement_181 : decode cX12_statement 181 = .ok (.aload_n 0, 1) := by decide +kernel
theorem dX12_statement_182 : decode cX12_statement 182 = .ok (.ldc2_w 336, 3) := by decide +kernel
theorem dX12_statement_185 : decode cX12_statement 185 = .ok (.invokevirtual 319, 3) := by decide +kernel
theorem dX12_statement_188 : decode cX12_statement 188 = .ok (.ifCond .ne 34, 3) := by decide +kernel
theorem dX12_statement_191 : decode cX12_statement 191 = .ok (.aload_n 0, 1) := by decide +kernel
theorem dX12_statement_192 : decode cX12_statement 192 = .ok (.ldc2_w 303, 3) := by decide +kernel
theorem dX12_statement_195 : decode cX12_statement 195 = .ok (.invokevirtual 319, 3) := by decide +kernel
theorem dX12_statement_198 : decode cX12_statement 198 = .ok (.ifCond .eq 12, 3) := by decide +kernel
theorem dX12_statement_201 : decode cX12_statement 201 = .ok (.aload_n 0, 1) := by decide +kernel
theorem dX12_statement_202 : decode cX12_statement 202 = .ok (.bipush 9, 2) := by decide +kernel
theorem dX12_statement_204 : decode cX12_statement 204 = .ok (.invokevirtual 311, 3) := by decide +kernel
theorem dX12_statement_207 : decode cX12_statement 207 = .ok (.ifCond .ne 5, 3) := by decide +kernel
theorem dX12_statement_210 : decode cX12_statement 210 = .ok (.iconst 0, 1) := by decide +kernel
theorem dX12_statement_211 : decode cX12_statement 211 = .ok (.ireturn, 1) := by decide +kernel
theorem dX12_statement_212 : decode cX12_statement 212 = .ok (.aload_n 0, 1) := by decide +kernel
theorem dX12_statement_213 : decode cX12_statement 213 = .ok (.getfield 118, 3) := by decide +kernel
theorem dX12_statement_216 : decode cX12_statement 216 = .ok (.iload_n 1, 1) := by decide +kernel
theorem dX12_statement_217 : decode cX12_statement 217 = .ok (.aload_n 0, 1) := by decide +kernel
theorem dX12_statement_218 : decode cX12_statement 218 = .ok (.getfield 296, 3) := by decide +kernel
theorem dX12_statement_221 : decode cX12_statement 221 = .ok (.iastore, 1) := by decide +kernel
theorem dX12_statement_222 : decode cX12_statement 222 = .ok (.aload_n 0, 1) := by decide +kernel
theorem dX12_statement_223 : decode cX12_statement 223 = .ok (.invokevirtual 286, 3) := by decide +kernel
theorem dX12_statement_226 : decode cX12_statement 226 = .ok (.aload_n 0, 1) := by decide +kernel
theorem dX12_statement_227 : decode cX12_statement 227 = .ok (.getfield 280, 3) := by decide +kernel
theorem dX12_statement_230 : decode cX12_statement 230 = .ok (.aload_n 0, 1) := by decide +kernel
theorem dX12_statement_231 : decode cX12_statement 231 = .ok (.getfield 283, 3) := by decide +kernel
theorem dX12_statement_234 : decode cX12_statement 234 = .ok (.if_icmp .eq 17, 3) := by decide +kernel
theorem dX12_statement_237 : decode cX12_statement 237 = .ok (.aload_n 0, 1) := by decide +kernel
theorem dX12_statement_238 : decode cX12_statement 238 = .ok (.getfield 88, 3) := by decide +kernel
theorem dX12_statement_241 : decode cX12_statement 241 = .ok (.aload_n 0, 1) := by decide +kernel
theorem dX12_statement_242 : decode cX12_statement 242 = .ok (.getfield 280, 3) := by decide +kernel
theorem dX12_statement_245 : decode cX12_statement 245 = .ok (.baload, 1) := by decide +kernel
theorem dX12_statement_246 : decode cX12_statement 246 = .ok (.bipush 59, 2) := by decide +kernel
theorem dX12_statement_248 : decode cX12_statement 248 = .ok (.if_icmp .eq 5, 3) := by decide +kernel
theorem dX12_statement_251 : decode cX12_statement 251 = .ok (.iconst 0, 1) := by decide +kernel
theorem dX12_statement_252 : decode cX12_statement 252 = .ok (.ireturn, 1) := by decide +kernel
theorem dX12_statement_253 : decode cX12_statement 253 = .ok (.aload_n 0, 1) := by decide +kernel
theorem dX12_statement_254 : decode cX12_statement 254 = .ok (.dup, 1) := by decide +kernel
theorem dX12_statement_255 : decode cX12_statement 255 = .ok (.getfield 280, 3) := by decide +kernel
theorem dX12_statement_258 : decode cX12_statement 258 = .ok (.iconst 1, 1) := by decide +kernel
theorem dX12_statement_259 : decode cX12_statement 259 = .ok (.iadd, 1) := by decide +kernel
theorem dX12_statement_260 : decode cX12_statement 260 = .ok (.putfield 280, 3) := by decide +kernel
theorem dX12_statement_263 : decode cX12_statement 263 = .ok (.aload_n 0, 1) := by decide +kernel
theorem dX12_statement_264 : decode cX12_statement 264 = .ok (.dup, 1) := by decide +kernel
theorem dX12_statement_265 : decode cX12_statement 265 = .ok (.getfield 314, 3) := by decide +kernel
theorem dX12_statement_268 : decode cX12_statement 268 = .ok (.iconst 1, 1) := by decide +kernel
theorem dX12_statement_269 : decode cX12_statement 269 = .ok (.iadd, 1) := by decide +kernel
theorem dX12_statement_270 : decode cX12_statement 270 = .ok (.putfield 314, 3) := by decide +kernel
theorem dX12_statement_273 : decode cX12_statement 273 = .ok (.iconst 1, 1) := by decide +kernel
theorem dX12_statement_274 : decode cX12_statement 274 = .ok (.ireturn, 1) := by decide +kernel

theorem dX12_strength_0 : decode cX12_strength 0 = .ok (.aload_n 0, 1) := by decide +kernel
theorem dX12_strength_1 : decode cX12_strength 1 = .ok (.getfield 220, 3) := by decide +kernel
theorem dX12_strength_4 : decode cX12_strength 4 = .ok (.ifCond .ne 7, 3) := by decide +kernel
theorem dX12_strength_7 : decode cX12_strength 7 = .ok (.iconst 0, 1) := by decide +kernel
theorem dX12_strength_8 : decode cX12_strength 8 = .ok (.goto 18, 3) := by decide +kernel
theorem dX12_strength_11 : decode cX12_strength 11 = .ok (.aload_n 0, 1) := by decide +kernel
theorem dX12_strength_12 : decode cX12_strength 12 = .ok (.getfield 223, 3) := by decide +kernel
theorem dX12_strength_15 : decode cX12_strength 15 = .ok (.ldc2_w 248, 3) := by decide +kernel
theorem dX12_strength_18 : decode cX12_strength 18 = .ok (.aload_n 0, 1) := by decide +kernel
theorem dX12_strength_19 : decode cX12_strength 19 = .ok (.getfield 220, 3) := by decide +kernel
theorem dX12_strength_22 : decode cX12_strength 22 = .ok (.i2l, 1) := by decide +kernel
theorem dX12_strength_23 : decode cX12_strength 23 = .ok (.lmul, 1) := by decide +kernel
theorem dX12_strength_24 : decode cX12_strength 24 = .ok (.ldiv, 1) := by decide +kernel
theorem dX12_strength_25 : decode cX12_strength 25 = .ok (.l2i, 1) := by decide +kernel
theorem dX12_strength_26 : decode cX12_strength 26 = .ok (.ireturn, 1) := by decide +kernel

theorem dX12_suspect_0 : decode cX12_suspect 0 = .ok (.iload_n 1, 1) := by decide +kernel
theorem dX12_suspect_1 : decode cX12_suspect 1 = .ok (.ifCond .eq 13, 3) := by decide +kernel
theorem dX12_suspect_4 : decode cX12_suspect 4 = .ok (.aload_n 0, 1) := by decide +kernel
theorem dX12_suspect_5 : decode cX12_suspect 5 = .ok (.getfield 29, 3) := by decide +kernel
theorem dX12_suspect_8 : decode cX12_suspect 8 = .ok (.iload_n 1, 1) := by decide +kernel
theorem dX12_suspect_9 : decode cX12_suspect 9 = .ok (.iaload, 1) := by decide +kernel
theorem dX12_suspect_10 : decode cX12_suspect 10 = .ok (.iconst (-1), 1) := by decide +kernel
theorem dX12_suspect_11 : decode cX12_suspect 11 = .ok (.if_icmp .ne 5, 3) := by decide +kernel
theorem dX12_suspect_14 : decode cX12_suspect 14 = .ok (.iconst 0, 1) := by decide +kernel
theorem dX12_suspect_15 : decode cX12_suspect 15 = .ok (.ireturn, 1) := by decide +kernel
theorem dX12_suspect_16 : decode cX12_suspect 16 = .ok (.aload_n 0, 1) := by decide +kernel
theorem dX12_suspect_17 : decode cX12_suspect 17 = .ok (.getfield 13, 3) := by decide +kernel
theorem dX12_suspect_20 : decode cX12_suspect 20 = .ok (.iload_n 1, 1) := by decide +kernel
theorem dX12_suspect_21 : decode cX12_suspect 21 = .ok (.iaload, 1) := by decide +kernel
theorem dX12_suspect_22 : decode cX12_suspect 22 = .ok (.istore_n 2, 1) := by decide +kernel
theorem dX12_suspect_23 : decode cX12_suspect 23 = .ok (.iload_n 2, 1) := by decide +kernel
theorem dX12_suspect_24 : decode cX12_suspect 24 = .ok (.ifCond .le 23, 3) := by decide +kernel
theorem dX12_suspect_27 : decode cX12_suspect 27 = .ok (.aload_n 0, 1) := by decide +kernel
theorem dX12_suspect_28 : decode cX12_suspect 28 = .ok (.getfield 29, 3) := by decide +kernel
theorem dX12_suspect_31 : decode cX12_suspect 31 = .ok (.iload_n 2, 1) := by decide +kernel
theorem dX12_suspect_32 : decode cX12_suspect 32 = .ok (.iaload, 1) := by decide +kernel
theorem dX12_suspect_33 : decode cX12_suspect 33 = .ok (.iconst (-1), 1) := by decide +kernel
theorem dX12_suspect_34 : decode cX12_suspect 34 = .ok (.if_icmp .ne 13, 3) := by decide +kernel
theorem dX12_suspect_37 : decode cX12_suspect 37 = .ok (.aload_n 0, 1) := by decide +kernel
theorem dX12_suspect_38 : decode cX12_suspect 38 = .ok (.getfield 13, 3) := by decide +kernel
theorem dX12_suspect_41 : decode cX12_suspect 41 = .ok (.iload_n 2, 1) := by decide +kernel
theorem dX12_suspect_42 : decode cX12_suspect 42 = .ok (.iaload, 1) := by decide +kernel
theorem dX12_suspect_43 : decode cX12_suspect 43 = .ok (.istore_n 2, 1) := by decide +kernel
theorem dX12_suspect_44 : decode cX12_suspect 44 = .ok (.goto (-21), 3) := by decide +kernel
theorem dX12_suspect_47 : decode cX12_suspect 47 = .ok (.iconst 0, 1) := by decide +kernel
theorem dX12_suspect_48 : decode cX12_suspect 48 = .ok (.iload_n 2, 1) := by decide +kernel
theorem dX12_suspect_49 : decode cX12_suspect 49 = .ok (.ifCond .ne 10, 3) := by decide +kernel
theorem dX12_suspect_52 : decode cX12_suspect 52 = .ok (.aload_n 0, 1) := by decide +kernel
theorem dX12_suspect_53 : decode cX12_suspect 53 = .ok (.getfield 143, 3) := by decide +kernel
theorem dX12_suspect_56 : decode cX12_suspect 56 = .ok (.goto 9, 3) := by decide +kernel
theorem dX12_suspect_59 : decode cX12_suspect 59 = .ok (.aload_n 0, 1) := by decide +kernel
theorem dX12_suspect_60 : decode cX12_suspect 60 = .ok (.getfield 29, 3) := by decide +kernel
theorem dX12_suspect_63 : decode cX12_suspect 63 = .ok (.iload_n 2, 1) := by decide +kernel
theorem dX12_suspect_64 : decode cX12_suspect 64 = .ok (.iaload, 1) := by decide +kernel
theorem dX12_suspect_65 : decode cX12_suspect 65 = .ok (.aload_n 0, 1) := by decide +kernel
theorem dX12_suspect_66 : decode cX12_suspect 66 = .ok (.getfield 29, 3) := by decide +kernel
theorem dX12_suspect_69 : decode cX12_suspect 69 = .ok (.iload_n 1, 1) := by decide +kernel
theorem dX12_suspect_70 : decode cX12_suspect 70 = .ok (.iaload, 1) := by decide +kernel
theorem dX12_suspect_71 : decode cX12_suspect 71 = .ok (.isub, 1) := by decide +kernel
theorem dX12_suspect_72 : decode cX12_suspect 72 = .ok (.invokestatic 146, 3) := by decide +kernel
theorem dX12_suspect_75 : decode cX12_suspect 75 = .ok (.ireturn, 1) := by decide +kernel

theorem dX12_takes_0 : decode cX12_takes 0 = .ok (.aload_n 0, 1) := by decide +kernel
theorem dX12_takes_1 : decode cX12_takes 1 = .ok (.invokevirtual 292, 3) := by decide +kernel
theorem dX12_takes_4 : decode cX12_takes 4 = .ok (.lload_n 1, 1) := by decide +kernel
theorem dX12_takes_5 : decode cX12_takes 5 = .ok (.lcmp, 1) := by decide +kernel
theorem dX12_takes_6 : decode cX12_takes 6 = .ok (.ifCond .eq 5, 3) := by decide +kernel
theorem dX12_takes_9 : decode cX12_takes 9 = .ok (.iconst 0, 1) := by decide +kernel
theorem dX12_takes_10 : decode cX12_takes 10 = .ok (.ireturn, 1) := by decide +kernel
theorem dX12_takes_11 : decode cX12_takes 11 = .ok (.aload_n 0, 1) := by decide +kernel
theorem dX12_takes_12 : decode cX12_takes 12 = .ok (.aload_n 0, 1) := by decide +kernel
theorem dX12_takes_13 : decode cX12_takes 13 = .ok (.getfield 289, 3) := by decide +kernel
theorem dX12_takes_16 : decode cX12_takes 16 = .ok (.putfield 280, 3) := by decide +kernel
theorem dX12_takes_19 : decode cX12_takes 19 = .ok (.iconst 1, 1) := by decide +kernel
theorem dX12_takes_20 : decode cX12_takes 20 = .ok (.ireturn, 1) := by decide +kernel

theorem dX12_takesNumber_0 : decode cX12_takesNumber 0 = .ok (.aload_n 0, 1) := by decide +kernel
theorem dX12_takesNumber_1 : decode cX12_takesNumber 1 = .ok (.invokevirtual 286, 3) := by decide +kernel
theorem dX12_takesNumber_4 : decode cX12_takesNumber 4 = .ok (.aload_n 0, 1) := by decide +kernel
theorem dX12_takesNumber_5 : decode cX12_takesNumber 5 = .ok (.getfield 280, 3) := by decide +kernel
theorem dX12_takesNumber_8 : decode cX12_takesNumber 8 = .ok (.istore_n 2, 1) := by decide +kernel
theorem dX12_takesNumber_9 : decode cX12_takesNumber 9 = .ok (.aload_n 0, 1) := by decide +kernel
theorem dX12_takesNumber_10 : decode cX12_takesNumber 10 = .ok (.iconst 0, 1) := by decide +kernel
theorem dX12_takesNumber_11 : decode cX12_takesNumber 11 = .ok (.putfield 296, 3) := by decide +kernel
theorem dX12_takesNumber_14 : decode cX12_takesNumber 14 = .ok (.iload_n 2, 1) := by decide +kernel
theorem dX12_takesNumber_15 : decode cX12_takesNumber 15 = .ok (.aload_n 0, 1) := by decide +kernel
theorem dX12_takesNumber_16 : decode cX12_takesNumber 16 = .ok (.getfield 283, 3) := by decide +kernel
theorem dX12_takesNumber_19 : decode cX12_takesNumber 19 = .ok (.if_icmp .ge 62, 3) := by decide +kernel
theorem dX12_takesNumber_22 : decode cX12_takesNumber 22 = .ok (.aload_n 0, 1) := by decide +kernel
theorem dX12_takesNumber_23 : decode cX12_takesNumber 23 = .ok (.getfield 88, 3) := by decide +kernel
theorem dX12_takesNumber_26 : decode cX12_takesNumber 26 = .ok (.iload_n 2, 1) := by decide +kernel
theorem dX12_takesNumber_27 : decode cX12_takesNumber 27 = .ok (.baload, 1) := by decide +kernel
theorem dX12_takesNumber_28 : decode cX12_takesNumber 28 = .ok (.bipush 48, 2) := by decide +kernel
theorem dX12_takesNumber_30 : decode cX12_takesNumber 30 = .ok (.if_icmp .lt 51, 3) := by decide +kernel
theorem dX12_takesNumber_33 : decode cX12_takesNumber 33 = .ok (.aload_n 0, 1) := by decide +kernel
theorem dX12_takesNumber_34 : decode cX12_takesNumber 34 = .ok (.getfield 88, 3) := by decide +kernel
theorem dX12_takesNumber_37 : decode cX12_takesNumber 37 = .ok (.iload_n 2, 1) := by decide +kernel
theorem dX12_takesNumber_38 : decode cX12_takesNumber 38 = .ok (.baload, 1) := by decide +kernel
theorem dX12_takesNumber_39 : decode cX12_takesNumber 39 = .ok (.bipush 57, 2) := by decide +kernel
theorem dX12_takesNumber_41 : decode cX12_takesNumber 41 = .ok (.if_icmp .gt 40, 3) := by decide +kernel
theorem dX12_takesNumber_44 : decode cX12_takesNumber 44 = .ok (.iload_n 2, 1) := by decide +kernel
theorem dX12_takesNumber_45 : decode cX12_takesNumber 45 = .ok (.aload_n 0, 1) := by decide +kernel
theorem dX12_takesNumber_46 : decode cX12_takesNumber 46 = .ok (.getfield 280, 3) := by decide +kernel
theorem dX12_takesNumber_49 : decode cX12_takesNumber 49 = .ok (.isub, 1) := by decide +kernel
theorem dX12_takesNumber_50 : decode cX12_takesNumber 50 = .ok (.iconst 4, 1) := by decide +kernel
theorem dX12_takesNumber_51 : decode cX12_takesNumber 51 = .ok (.if_icmp .ge 24, 3) := by decide +kernel
theorem dX12_takesNumber_54 : decode cX12_takesNumber 54 = .ok (.aload_n 0, 1) := by decide +kernel
theorem dX12_takesNumber_55 : decode cX12_takesNumber 55 = .ok (.bipush 10, 2) := by decide +kernel
theorem dX12_takesNumber_57 : decode cX12_takesNumber 57 = .ok (.aload_n 0, 1) := by decide +kernel
theorem dX12_takesNumber_58 : decode cX12_takesNumber 58 = .ok (.getfield 296, 3) := by decide +kernel
theorem dX12_takesNumber_61 : decode cX12_takesNumber 61 = .ok (.imul, 1) := by decide +kernel
theorem dX12_takesNumber_62 : decode cX12_takesNumber 62 = .ok (.aload_n 0, 1) := by decide +kernel
theorem dX12_takesNumber_63 : decode cX12_takesNumber 63 = .ok (.getfield 88, 3) := by decide +kernel
theorem dX12_takesNumber_66 : decode cX12_takesNumber 66 = .ok (.iload_n 2, 1) := by decide +kernel
theorem dX12_takesNumber_67 : decode cX12_takesNumber 67 = .ok (.baload, 1) := by decide +kernel
theorem dX12_takesNumber_68 : decode cX12_takesNumber 68 = .ok (.iadd, 1) := by decide +kernel
theorem dX12_takesNumber_69 : decode cX12_takesNumber 69 = .ok (.bipush 48, 2) := by decide +kernel
theorem dX12_takesNumber_71 : decode cX12_takesNumber 71 = .ok (.isub, 1) := by decide +kernel
theorem dX12_takesNumber_72 : decode cX12_takesNumber 72 = .ok (.putfield 296, 3) := by decide +kernel
theorem dX12_takesNumber_75 : decode cX12_takesNumber 75 = .ok (.iinc 2 1, 3) := by decide +kernel
theorem dX12_takesNumber_78 : decode cX12_takesNumber 78 = .ok (.goto (-64), 3) := by decide +kernel
theorem dX12_takesNumber_81 : decode cX12_takesNumber 81 = .ok (.iload_n 2, 1) := by decide +kernel
theorem dX12_takesNumber_82 : decode cX12_takesNumber 82 = .ok (.aload_n 0, 1) := by decide +kernel
theorem dX12_takesNumber_83 : decode cX12_takesNumber 83 = .ok (.getfield 280, 3) := by decide +kernel
theorem dX12_takesNumber_86 : decode cX12_takesNumber 86 = .ok (.if_icmp .eq 21, 3) := by decide +kernel
theorem dX12_takesNumber_89 : decode cX12_takesNumber 89 = .ok (.iload_n 2, 1) := by decide +kernel
theorem dX12_takesNumber_90 : decode cX12_takesNumber 90 = .ok (.aload_n 0, 1) := by decide +kernel
theorem dX12_takesNumber_91 : decode cX12_takesNumber 91 = .ok (.getfield 280, 3) := by decide +kernel
theorem dX12_takesNumber_94 : decode cX12_takesNumber 94 = .ok (.isub, 1) := by decide +kernel
theorem dX12_takesNumber_95 : decode cX12_takesNumber 95 = .ok (.iconst 4, 1) := by decide +kernel
theorem dX12_takesNumber_96 : decode cX12_takesNumber 96 = .ok (.if_icmp .gt 11, 3) := by decide +kernel
theorem dX12_takesNumber_99 : decode cX12_takesNumber 99 = .ok (.aload_n 0, 1) := by decide +kernel
theorem dX12_takesNumber_100 : decode cX12_takesNumber 100 = .ok (.getfield 296, 3) := by decide +kernel
theorem dX12_takesNumber_103 : decode cX12_takesNumber 103 = .ok (.iload_n 1, 1) := by decide +kernel
theorem dX12_takesNumber_104 : decode cX12_takesNumber 104 = .ok (.if_icmp .le 5, 3) := by decide +kernel
theorem dX12_takesNumber_107 : decode cX12_takesNumber 107 = .ok (.iconst 0, 1) := by decide +kernel
theorem dX12_takesNumber_108 : decode cX12_takesNumber 108 = .ok (.ireturn, 1) := by decide +kernel
theorem dX12_takesNumber_109 : decode cX12_takesNumber 109 = .ok (.aload_n 0, 1) := by decide +kernel
theorem dX12_takesNumber_110 : decode cX12_takesNumber 110 = .ok (.iload_n 2, 1) := by decide +kernel
theorem dX12_takesNumber_111 : decode cX12_takesNumber 111 = .ok (.putfield 280, 3) := by decide +kernel
theorem dX12_takesNumber_114 : decode cX12_takesNumber 114 = .ok (.iconst 1, 1) := by decide +kernel
theorem dX12_takesNumber_115 : decode cX12_takesNumber 115 = .ok (.ireturn, 1) := by decide +kernel

theorem dX12_tap_0 : decode cX12_tap 0 = .ok (.aload_n 0, 1) := by decide +kernel
theorem dX12_tap_1 : decode cX12_tap 1 = .ok (.iload_n 1, 1) := by decide +kernel
theorem dX12_tap_2 : decode cX12_tap 2 = .ok (.invokevirtual 173, 3) := by decide +kernel
theorem dX12_tap_5 : decode cX12_tap 5 = .ok (.ifCond .eq 14, 3) := by decide +kernel
theorem dX12_tap_8 : decode cX12_tap 8 = .ok (.iload_n 2, 1) := by decide +kernel
theorem dX12_tap_9 : decode cX12_tap 9 = .ok (.iconst 0, 1) := by decide +kernel
theorem dX12_tap_10 : decode cX12_tap 10 = .ok (.sipush 359, 3) := by decide +kernel
theorem dX12_tap_13 : decode cX12_tap 13 = .ok (.invokestatic 136, 3) := by decide +kernel
theorem dX12_tap_16 : decode cX12_tap 16 = .ok (.ifCond .ne 6, 3) := by decide +kernel
theorem dX12_tap_19 : decode cX12_tap 19 = .ok (.bipush (-2), 2) := by decide +kernel
theorem dX12_tap_21 : decode cX12_tap 21 = .ok (.ireturn, 1) := by decide +kernel
theorem dX12_tap_22 : decode cX12_tap 22 = .ok (.aload_n 0, 1) := by decide +kernel
theorem dX12_tap_23 : decode cX12_tap 23 = .ok (.iload_n 1, 1) := by decide +kernel
theorem dX12_tap_24 : decode cX12_tap 24 = .ok (.aload_n 0, 1) := by decide +kernel
theorem dX12_tap_25 : decode cX12_tap 25 = .ok (.getfield 176, 3) := by decide +kernel
theorem dX12_tap_28 : decode cX12_tap 28 = .ok (.invokevirtual 179, 3) := by decide +kernel
theorem dX12_tap_31 : decode cX12_tap 31 = .ok (.aload_n 0, 1) := by decide +kernel
theorem dX12_tap_32 : decode cX12_tap 32 = .ok (.iload_n 1, 1) := by decide +kernel
theorem dX12_tap_33 : decode cX12_tap 33 = .ok (.invokevirtual 182, 3) := by decide +kernel
theorem dX12_tap_36 : decode cX12_tap 36 = .ok (.if_icmp .lt 6, 3) := by decide +kernel
theorem dX12_tap_39 : decode cX12_tap 39 = .ok (.bipush (-3), 2) := by decide +kernel
theorem dX12_tap_41 : decode cX12_tap 41 = .ok (.ireturn, 1) := by decide +kernel
theorem dX12_tap_42 : decode cX12_tap 42 = .ok (.iconst 0, 1) := by decide +kernel
theorem dX12_tap_43 : decode cX12_tap 43 = .ok (.istore_n 3, 1) := by decide +kernel
theorem dX12_tap_44 : decode cX12_tap 44 = .ok (.iload_n 3, 1) := by decide +kernel
theorem dX12_tap_45 : decode cX12_tap 45 = .ok (.aload_n 0, 1) := by decide +kernel
theorem dX12_tap_46 : decode cX12_tap 46 = .ok (.getfield 170, 3) := by decide +kernel
theorem dX12_tap_49 : decode cX12_tap 49 = .ok (.if_icmp .ge 66, 3) := by decide +kernel
theorem dX12_tap_52 : decode cX12_tap 52 = .ok (.aload_n 0, 1) := by decide +kernel
theorem dX12_tap_53 : decode cX12_tap 53 = .ok (.getfield 44, 3) := by decide +kernel
theorem dX12_tap_56 : decode cX12_tap 56 = .ok (.iload_n 3, 1) := by decide +kernel
theorem dX12_tap_57 : decode cX12_tap 57 = .ok (.iaload, 1) := by decide +kernel
theorem dX12_tap_58 : decode cX12_tap 58 = .ok (.iload_n 2, 1) := by decide +kernel
theorem dX12_tap_59 : decode cX12_tap 59 = .ok (.isub, 1) := by decide +kernel
theorem dX12_tap_60 : decode cX12_tap 60 = .ok (.invokestatic 185, 3) := by decide +kernel
theorem dX12_tap_63 : decode cX12_tap 63 = .ok (.istore 4, 2) := by decide +kernel
theorem dX12_tap_65 : decode cX12_tap 65 = .ok (.aload_n 0, 1) := by decide +kernel
theorem dX12_tap_66 : decode cX12_tap 66 = .ok (.getfield 41, 3) := by decide +kernel
theorem dX12_tap_69 : decode cX12_tap 69 = .ok (.iload_n 3, 1) := by decide +kernel
theorem dX12_tap_70 : decode cX12_tap 70 = .ok (.iaload, 1) := by decide +kernel
theorem dX12_tap_71 : decode cX12_tap 71 = .ok (.iload_n 1, 1) := by decide +kernel
theorem dX12_tap_72 : decode cX12_tap 72 = .ok (.if_icmp .ne 37, 3) := by decide +kernel
theorem dX12_tap_75 : decode cX12_tap 75 = .ok (.aload_n 0, 1) := by decide +kernel
theorem dX12_tap_76 : decode cX12_tap 76 = .ok (.getfield 47, 3) := by decide +kernel
theorem dX12_tap_79 : decode cX12_tap 79 = .ok (.iload_n 3, 1) := by decide +kernel
theorem dX12_tap_80 : decode cX12_tap 80 = .ok (.iaload, 1) := by decide +kernel
theorem dX12_tap_81 : decode cX12_tap 81 = .ok (.aload_n 0, 1) := by decide +kernel
theorem dX12_tap_82 : decode cX12_tap 82 = .ok (.getfield 176, 3) := by decide +kernel
theorem dX12_tap_85 : decode cX12_tap 85 = .ok (.iconst 3, 1) := by decide +kernel
theorem dX12_tap_86 : decode cX12_tap 86 = .ok (.isub, 1) := by decide +kernel
theorem dX12_tap_87 : decode cX12_tap 87 = .ok (.if_icmp .lt 22, 3) := by decide +kernel
theorem dX12_tap_90 : decode cX12_tap 90 = .ok (.iload 4, 2) := by decide +kernel
theorem dX12_tap_92 : decode cX12_tap 92 = .ok (.sipush 360, 3) := by decide +kernel
theorem dX12_tap_95 : decode cX12_tap 95 = .ok (.iload 4, 2) := by decide +kernel
theorem dX12_tap_97 : decode cX12_tap 97 = .ok (.isub, 1) := by decide +kernel
theorem dX12_tap_98 : decode cX12_tap 98 = .ok (.invokestatic 188, 3) := by decide +kernel
theorem dX12_tap_101 : decode cX12_tap 101 = .ok (.bipush 40, 2) := by decide +kernel
theorem dX12_tap_103 : decode cX12_tap 103 = .ok (.if_icmp .ge 6, 3) := by decide +kernel
theorem dX12_tap_106 : decode cX12_tap 106 = .ok (.bipush (-4), 2) := by decide +kernel
theorem dX12_tap_108 : decode cX12_tap 108 = .ok (.ireturn, 1) := by decide +kernel
theorem dX12_tap_109 : decode cX12_tap 109 = .ok (.iinc 3 1, 3) := by decide +kernel
theorem dX12_tap_112 : decode cX12_tap 112 = .ok (.goto (-68), 3) := by decide +kernel
theorem dX12_tap_115 : decode cX12_tap 115 = .ok (.aload_n 0, 1) := by decide +kernel
theorem dX12_tap_116 : decode cX12_tap 116 = .ok (.getfield 170, 3) := by decide +kernel
theorem dX12_tap_119 : decode cX12_tap 119 = .ok (.sipush 300, 3) := by decide +kernel
theorem dX12_tap_122 : decode cX12_tap 122 = .ok (.if_icmp .ne 6, 3) := by decide +kernel
theorem dX12_tap_125 : decode cX12_tap 125 = .ok (.bipush (-5), 2) := by decide +kernel
theorem dX12_tap_127 : decode cX12_tap 127 = .ok (.ireturn, 1) := by decide +kernel
theorem dX12_tap_128 : decode cX12_tap 128 = .ok (.aload_n 0, 1) := by decide +kernel
theorem dX12_tap_129 : decode cX12_tap 129 = .ok (.getfield 41, 3) := by decide +kernel
theorem dX12_tap_132 : decode cX12_tap 132 = .ok (.aload_n 0, 1) := by decide +kernel
theorem dX12_tap_133 : decode cX12_tap 133 = .ok (.getfield 170, 3) := by decide +kernel
theorem dX12_tap_136 : decode cX12_tap 136 = .ok (.iload_n 1, 1) := by decide +kernel
theorem dX12_tap_137 : decode cX12_tap 137 = .ok (.iastore, 1) := by decide +kernel
theorem dX12_tap_138 : decode cX12_tap 138 = .ok (.aload_n 0, 1) := by decide +kernel
theorem dX12_tap_139 : decode cX12_tap 139 = .ok (.getfield 44, 3) := by decide +kernel
theorem dX12_tap_142 : decode cX12_tap 142 = .ok (.aload_n 0, 1) := by decide +kernel
theorem dX12_tap_143 : decode cX12_tap 143 = .ok (.getfield 170, 3) := by decide +kernel
theorem dX12_tap_146 : decode cX12_tap 146 = .ok (.iload_n 2, 1) := by decide +kernel
theorem dX12_tap_147 : decode cX12_tap 147 = .ok (.iastore, 1) := by decide +kernel
theorem dX12_tap_148 : decode cX12_tap 148 = .ok (.aload_n 0, 1) := by decide +kernel
theorem dX12_tap_149 : decode cX12_tap 149 = .ok (.getfield 47, 3) := by decide +kernel
theorem dX12_tap_152 : decode cX12_tap 152 = .ok (.aload_n 0, 1) := by decide +kernel
theorem dX12_tap_153 : decode cX12_tap 153 = .ok (.getfield 170, 3) := by decide +kernel
theorem dX12_tap_156 : decode cX12_tap 156 = .ok (.aload_n 0, 1) := by decide +kernel
theorem dX12_tap_157 : decode cX12_tap 157 = .ok (.getfield 176, 3) := by decide +kernel
theorem dX12_tap_160 : decode cX12_tap 160 = .ok (.iastore, 1) := by decide +kernel
theorem dX12_tap_161 : decode cX12_tap 161 = .ok (.aload_n 0, 1) := by decide +kernel
theorem dX12_tap_162 : decode cX12_tap 162 = .ok (.dup, 1) := by decide +kernel
theorem dX12_tap_163 : decode cX12_tap 163 = .ok (.getfield 170, 3) := by decide +kernel
theorem dX12_tap_166 : decode cX12_tap 166 = .ok (.iconst 1, 1) := by decide +kernel
theorem dX12_tap_167 : decode cX12_tap 167 = .ok (.iadd, 1) := by decide +kernel
theorem dX12_tap_168 : decode cX12_tap 168 = .ok (.putfield 170, 3) := by decide +kernel
theorem dX12_tap_171 : decode cX12_tap 171 = .ok (.aload_n 0, 1) := by decide +kernel
theorem dX12_tap_172 : decode cX12_tap 172 = .ok (.iload_n 1, 1) := by decide +kernel
theorem dX12_tap_173 : decode cX12_tap 173 = .ok (.iconst 0, 1) := by decide +kernel
theorem dX12_tap_174 : decode cX12_tap 174 = .ok (.invokevirtual 179, 3) := by decide +kernel
theorem dX12_tap_177 : decode cX12_tap 177 = .ok (.ireturn, 1) := by decide +kernel

theorem dX12_test_0 : decode cX12_test 0 = .ok (.aload_n 0, 1) := by decide +kernel
theorem dX12_test_1 : decode cX12_test 1 = .ok (.invokevirtual 292, 3) := by decide +kernel
theorem dX12_test_4 : decode cX12_test 4 = .ok (.lstore_n 2, 1) := by decide +kernel
theorem dX12_test_5 : decode cX12_test 5 = .ok (.aload_n 0, 1) := by decide +kernel
theorem dX12_test_6 : decode cX12_test 6 = .ok (.getfield 127, 3) := by decide +kernel
theorem dX12_test_9 : decode cX12_test 9 = .ok (.iload_n 1, 1) := by decide +kernel
theorem dX12_test_10 : decode cX12_test 10 = .ok (.lload_n 2, 1) := by decide +kernel
theorem dX12_test_11 : decode cX12_test 11 = .ok (.ldc2_w 299, 3) := by decide +kernel
theorem dX12_test_14 : decode cX12_test 14 = .ok (.lcmp, 1) := by decide +kernel
theorem dX12_test_15 : decode cX12_test 15 = .ok (.ifCond .ne 7, 3) := by decide +kernel
theorem dX12_test_18 : decode cX12_test 18 = .ok (.iconst 0, 1) := by decide +kernel
theorem dX12_test_19 : decode cX12_test 19 = .ok (.goto 64, 3) := by decide +kernel
theorem dX12_test_22 : decode cX12_test 22 = .ok (.lload_n 2, 1) := by decide +kernel
theorem dX12_test_23 : decode cX12_test 23 = .ok (.ldc2_w 301, 3) := by decide +kernel
theorem dX12_test_26 : decode cX12_test 26 = .ok (.lcmp, 1) := by decide +kernel
theorem dX12_test_27 : decode cX12_test 27 = .ok (.ifCond .ne 7, 3) := by decide +kernel
theorem dX12_test_30 : decode cX12_test 30 = .ok (.iconst 1, 1) := by decide +kernel
theorem dX12_test_31 : decode cX12_test 31 = .ok (.goto 52, 3) := by decide +kernel
theorem dX12_test_34 : decode cX12_test 34 = .ok (.lload_n 2, 1) := by decide +kernel
theorem dX12_test_35 : decode cX12_test 35 = .ok (.ldc2_w 303, 3) := by decide +kernel
theorem dX12_test_38 : decode cX12_test 38 = .ok (.lcmp, 1) := by decide +kernel
theorem dX12_test_39 : decode cX12_test 39 = .ok (.ifCond .ne 7, 3) := by decide +kernel
theorem dX12_test_42 : decode cX12_test 42 = .ok (.iconst 2, 1) := by decide +kernel
theorem dX12_test_43 : decode cX12_test 43 = .ok (.goto 40, 3) := by decide +kernel
theorem dX12_test_46 : decode cX12_test 46 = .ok (.lload_n 2, 1) := by decide +kernel
theorem dX12_test_47 : decode cX12_test 47 = .ok (.ldc2_w 305, 3) := by decide +kernel
theorem dX12_test_50 : decode cX12_test 50 = .ok (.lcmp, 1) := by decide +kernel
theorem dX12_test_51 : decode cX12_test 51 = .ok (.ifCond .ne 7, 3) := by decide +kernel
theorem dX12_test_54 : decode cX12_test 54 = .ok (.iconst 3, 1) := by decide +kernel
theorem dX12_test_55 : decode cX12_test 55 = .ok (.goto 28, 3) := by decide +kernel
theorem dX12_test_58 : decode cX12_test 58 = .ok (.lload_n 2, 1) := by decide +kernel
theorem dX12_test_59 : decode cX12_test 59 = .ok (.ldc2_w 307, 3) := by decide +kernel
theorem dX12_test_62 : decode cX12_test 62 = .ok (.lcmp, 1) := by decide +kernel
theorem dX12_test_63 : decode cX12_test 63 = .ok (.ifCond .ne 7, 3) := by decide +kernel
theorem dX12_test_66 : decode cX12_test 66 = .ok (.iconst 4, 1) := by decide +kernel
theorem dX12_test_67 : decode cX12_test 67 = .ok (.goto 16, 3) := by decide +kernel
theorem dX12_test_70 : decode cX12_test 70 = .ok (.lload_n 2, 1) := by decide +kernel
theorem dX12_test_71 : decode cX12_test 71 = .ok (.ldc2_w 309, 3) := by decide +kernel
theorem dX12_test_74 : decode cX12_test 74 = .ok (.lcmp, 1) := by decide +kernel
theorem dX12_test_75 : decode cX12_test 75 = .ok (.ifCond .ne 7, 3) := by decide +kernel
theorem dX12_test_78 : decode cX12_test 78 = .ok (.iconst 5, 1) := by decide +kernel
theorem dX12_test_79 : decode cX12_test 79 = .ok (.goto 4, 3) := by decide +kernel
theorem dX12_test_82 : decode cX12_test 82 = .ok (.iconst (-1), 1) := by decide +kernel
theorem dX12_test_83 : decode cX12_test 83 = .ok (.iastore, 1) := by decide +kernel
theorem dX12_test_84 : decode cX12_test 84 = .ok (.aload_n 0, 1) := by decide +kernel
theorem dX12_test_85 : decode cX12_test 85 = .ok (.getfield 127, 3) := by decide +kernel
theorem dX12_test_88 : decode cX12_test 88 = .ok (.iload_n 1, 1) := by decide +kernel
theorem dX12_test_89 : decode cX12_test 89 = .ok (.iaload, 1) := by decide +kernel
theorem dX12_test_90 : decode cX12_test 90 = .ok (.iconst (-1), 1) := by decide +kernel
theorem dX12_test_91 : decode cX12_test 91 = .ok (.if_icmp .ne 5, 3) := by decide +kernel
theorem dX12_test_94 : decode cX12_test 94 = .ok (.iconst 0, 1) := by decide +kernel
theorem dX12_test_95 : decode cX12_test 95 = .ok (.ireturn, 1) := by decide +kernel
theorem dX12_test_96 : decode cX12_test 96 = .ok (.aload_n 0, 1) := by decide +kernel
theorem dX12_test_97 : decode cX12_test 97 = .ok (.aload_n 0, 1) := by decide +kernel
theorem dX12_test_98 : decode cX12_test 98 = .ok (.getfield 289, 3) := by decide +kernel
theorem dX12_test_101 : decode cX12_test 101 = .ok (.putfield 280, 3) := by decide +kernel
theorem dX12_test_104 : decode cX12_test 104 = .ok (.aload_n 0, 1) := by decide +kernel
theorem dX12_test_105 : decode cX12_test 105 = .ok (.invokevirtual 286, 3) := by decide +kernel
theorem dX12_test_108 : decode cX12_test 108 = .ok (.aload_n 0, 1) := by decide +kernel
theorem dX12_test_109 : decode cX12_test 109 = .ok (.getfield 280, 3) := by decide +kernel
theorem dX12_test_112 : decode cX12_test 112 = .ok (.aload_n 0, 1) := by decide +kernel
theorem dX12_test_113 : decode cX12_test 113 = .ok (.getfield 283, 3) := by decide +kernel
theorem dX12_test_116 : decode cX12_test 116 = .ok (.if_icmp .eq 45, 3) := by decide +kernel
theorem dX12_test_119 : decode cX12_test 119 = .ok (.aload_n 0, 1) := by decide +kernel
theorem dX12_test_120 : decode cX12_test 120 = .ok (.getfield 88, 3) := by decide +kernel
theorem dX12_test_123 : decode cX12_test 123 = .ok (.aload_n 0, 1) := by decide +kernel
theorem dX12_test_124 : decode cX12_test 124 = .ok (.getfield 280, 3) := by decide +kernel
theorem dX12_test_127 : decode cX12_test 127 = .ok (.baload, 1) := by decide +kernel
theorem dX12_test_128 : decode cX12_test 128 = .ok (.bipush 60, 2) := by decide +kernel
theorem dX12_test_130 : decode cX12_test 130 = .ok (.if_icmp .eq 33, 3) := by decide +kernel
theorem dX12_test_133 : decode cX12_test 133 = .ok (.aload_n 0, 1) := by decide +kernel
theorem dX12_test_134 : decode cX12_test 134 = .ok (.getfield 88, 3) := by decide +kernel
theorem dX12_test_137 : decode cX12_test 137 = .ok (.aload_n 0, 1) := by decide +kernel
theorem dX12_test_138 : decode cX12_test 138 = .ok (.getfield 280, 3) := by decide +kernel
theorem dX12_test_141 : decode cX12_test 141 = .ok (.baload, 1) := by decide +kernel
theorem dX12_test_142 : decode cX12_test 142 = .ok (.bipush 62, 2) := by decide +kernel
theorem dX12_test_144 : decode cX12_test 144 = .ok (.if_icmp .eq 19, 3) := by decide +kernel
theorem dX12_test_147 : decode cX12_test 147 = .ok (.aload_n 0, 1) := by decide +kernel
theorem dX12_test_148 : decode cX12_test 148 = .ok (.getfield 88, 3) := by decide +kernel
theorem dX12_test_151 : decode cX12_test 151 = .ok (.aload_n 0, 1) := by decide +kernel
theorem dX12_test_152 : decode cX12_test 152 = .ok (.getfield 280, 3) := by decide +kernel
theorem dX12_test_155 : decode cX12_test 155 = .ok (.baload, 1) := by decide +kernel
theorem dX12_test_156 : decode cX12_test 156 = .ok (.bipush 61, 2) := by decide +kernel
theorem dX12_test_158 : decode cX12_test 158 = .ok (.if_icmp .eq 5, 3) := by decide +kernel
theorem dX12_test_161 : decode cX12_test 161 = .ok (.iconst 0, 1) := by decide +kernel
theorem dX12_test_162 : decode cX12_test 162 = .ok (.ireturn, 1) := by decide +kernel
theorem dX12_test_163 : decode cX12_test 163 = .ok (.aload_n 0, 1) := by decide +kernel
theorem dX12_test_164 : decode cX12_test 164 = .ok (.getfield 130, 3) := by decide +kernel
theorem dX12_test_167 : decode cX12_test 167 = .ok (.iload_n 1, 1) := by decide +kernel
theorem dX12_test_168 : decode cX12_test 168 = .ok (.aload_n 0, 1) := by decide +kernel
theorem dX12_test_169 : decode cX12_test 169 = .ok (.getfield 88, 3) := by decide +kernel
theorem dX12_test_172 : decode cX12_test 172 = .ok (.aload_n 0, 1) := by decide +kernel
theorem dX12_test_173 : decode cX12_test 173 = .ok (.getfield 280, 3) := by decide +kernel
theorem dX12_test_176 : decode cX12_test 176 = .ok (.baload, 1) := by decide +kernel
theorem dX12_test_177 : decode cX12_test 177 = .ok (.iastore, 1) := by decide +kernel
theorem dX12_test_178 : decode cX12_test 178 = .ok (.aload_n 0, 1) := by decide +kernel
theorem dX12_test_179 : decode cX12_test 179 = .ok (.dup, 1) := by decide +kernel
theorem dX12_test_180 : decode cX12_test 180 = .ok (.getfield 280, 3) := by decide +kernel
theorem dX12_test_183 : decode cX12_test 183 = .ok (.iconst 1, 1) := by decide +kernel
theorem dX12_test_184 : decode cX12_test 184 = .ok (.iadd, 1) := by decide +kernel
theorem dX12_test_185 : decode cX12_test 185 = .ok (.putfield 280, 3) := by decide +kernel
theorem dX12_test_188 : decode cX12_test 188 = .ok (.aload_n 0, 1) := by decide +kernel
theorem dX12_test_189 : decode cX12_test 189 = .ok (.sipush 9999, 3) := by decide +kernel
theorem dX12_test_192 : decode cX12_test 192 = .ok (.invokevirtual 311, 3) := by decide +kernel
theorem dX12_test_195 : decode cX12_test 195 = .ok (.ifCond .ne 5, 3) := by decide +kernel
theorem dX12_test_198 : decode cX12_test 198 = .ok (.iconst 0, 1) := by decide +kernel
theorem dX12_test_199 : decode cX12_test 199 = .ok (.ireturn, 1) := by decide +kernel
theorem dX12_test_200 : decode cX12_test 200 = .ok (.aload_n 0, 1) := by decide +kernel
theorem dX12_test_201 : decode cX12_test 201 = .ok (.getfield 133, 3) := by decide +kernel
theorem dX12_test_204 : decode cX12_test 204 = .ok (.iload_n 1, 1) := by decide +kernel
theorem dX12_test_205 : decode cX12_test 205 = .ok (.aload_n 0, 1) := by decide +kernel
theorem dX12_test_206 : decode cX12_test 206 = .ok (.getfield 296, 3) := by decide +kernel
theorem dX12_test_209 : decode cX12_test 209 = .ok (.iastore, 1) := by decide +kernel
theorem dX12_test_210 : decode cX12_test 210 = .ok (.iconst 1, 1) := by decide +kernel
theorem dX12_test_211 : decode cX12_test 211 = .ok (.ireturn, 1) := by decide +kernel

theorem dX12_tree_0 : decode cX12_tree 0 = .ok (.aload_n 0, 1) := by decide +kernel
theorem dX12_tree_1 : decode cX12_tree 1 = .ok (.iload_n 1, 1) := by decide +kernel
theorem dX12_tree_2 : decode cX12_tree 2 = .ok (.invokevirtual 152, 3) := by decide +kernel
theorem dX12_tree_5 : decode cX12_tree 5 = .ok (.ifCond .eq 24, 3) := by decide +kernel
theorem dX12_tree_8 : decode cX12_tree 8 = .ok (.iload_n 2, 1) := by decide +kernel
theorem dX12_tree_9 : decode cX12_tree 9 = .ok (.bipush 30, 2) := by decide +kernel
theorem dX12_tree_11 : decode cX12_tree 11 = .ok (.sipush 400, 3) := by decide +kernel
theorem dX12_tree_14 : decode cX12_tree 14 = .ok (.invokestatic 136, 3) := by decide +kernel
theorem dX12_tree_17 : decode cX12_tree 17 = .ok (.ifCond .eq 12, 3) := by decide +kernel
theorem dX12_tree_20 : decode cX12_tree 20 = .ok (.aload_n 0, 1) := by decide +kernel
theorem dX12_tree_21 : decode cX12_tree 21 = .ok (.getfield 140, 3) := by decide +kernel
theorem dX12_tree_24 : decode cX12_tree 24 = .ok (.bipush 60, 2) := by decide +kernel
theorem dX12_tree_26 : decode cX12_tree 26 = .ok (.if_icmp .ne 5, 3) := by decide +kernel
theorem dX12_tree_29 : decode cX12_tree 29 = .ok (.iconst (-1), 1) := by decide +kernel
theorem dX12_tree_30 : decode cX12_tree 30 = .ok (.ireturn, 1) := by decide +kernel
theorem dX12_tree_31 : decode cX12_tree 31 = .ok (.aload_n 0, 1) := by decide +kernel
theorem dX12_tree_32 : decode cX12_tree 32 = .ok (.getfield 32, 3) := by decide +kernel
theorem dX12_tree_35 : decode cX12_tree 35 = .ok (.aload_n 0, 1) := by decide +kernel
theorem dX12_tree_36 : decode cX12_tree 36 = .ok (.getfield 140, 3) := by decide +kernel
theorem dX12_tree_39 : decode cX12_tree 39 = .ok (.iload_n 1, 1) := by decide +kernel
theorem dX12_tree_40 : decode cX12_tree 40 = .ok (.iastore, 1) := by decide +kernel
theorem dX12_tree_41 : decode cX12_tree 41 = .ok (.aload_n 0, 1) := by decide +kernel
theorem dX12_tree_42 : decode cX12_tree 42 = .ok (.getfield 35, 3) := by decide +kernel
theorem dX12_tree_45 : decode cX12_tree 45 = .ok (.aload_n 0, 1) := by decide +kernel
theorem dX12_tree_46 : decode cX12_tree 46 = .ok (.getfield 140, 3) := by decide +kernel
theorem dX12_tree_49 : decode cX12_tree 49 = .ok (.iload_n 2, 1) := by decide +kernel
theorem dX12_tree_50 : decode cX12_tree 50 = .ok (.iastore, 1) := by decide +kernel
theorem dX12_tree_51 : decode cX12_tree 51 = .ok (.aload_n 0, 1) := by decide +kernel
theorem dX12_tree_52 : decode cX12_tree 52 = .ok (.dup, 1) := by decide +kernel
theorem dX12_tree_53 : decode cX12_tree 53 = .ok (.getfield 140, 3) := by decide +kernel
theorem dX12_tree_56 : decode cX12_tree 56 = .ok (.iconst 1, 1) := by decide +kernel
theorem dX12_tree_57 : decode cX12_tree 57 = .ok (.iadd, 1) := by decide +kernel
theorem dX12_tree_58 : decode cX12_tree 58 = .ok (.putfield 140, 3) := by decide +kernel
theorem dX12_tree_61 : decode cX12_tree 61 = .ok (.aload_n 0, 1) := by decide +kernel
theorem dX12_tree_62 : decode cX12_tree 62 = .ok (.getfield 140, 3) := by decide +kernel
theorem dX12_tree_65 : decode cX12_tree 65 = .ok (.iconst 1, 1) := by decide +kernel
theorem dX12_tree_66 : decode cX12_tree 66 = .ok (.isub, 1) := by decide +kernel
theorem dX12_tree_67 : decode cX12_tree 67 = .ok (.ireturn, 1) := by decide +kernel

theorem dX12_treeOf_0 : decode cX12_treeOf 0 = .ok (.aload_n 0, 1) := by decide +kernel
theorem dX12_treeOf_1 : decode cX12_treeOf 1 = .ok (.iload_n 1, 1) := by decide +kernel
theorem dX12_treeOf_2 : decode cX12_treeOf 2 = .ok (.invokevirtual 173, 3) := by decide +kernel
theorem dX12_treeOf_5 : decode cX12_treeOf 5 = .ok (.ifCond .ne 5, 3) := by decide +kernel
theorem dX12_treeOf_8 : decode cX12_treeOf 8 = .ok (.iconst (-1), 1) := by decide +kernel
theorem dX12_treeOf_9 : decode cX12_treeOf 9 = .ok (.ireturn, 1) := by decide +kernel
theorem dX12_treeOf_10 : decode cX12_treeOf 10 = .ok (.iload_n 2, 1) := by decide +kernel
theorem dX12_treeOf_11 : decode cX12_treeOf 11 = .ok (.tableswitch 113 0 6 #[41, 48, 55, 65, 71, 78, 85], 41) := by decide +kernel
theorem dX12_treeOf_52 : decode cX12_treeOf 52 = .ok (.aload_n 0, 1) := by decide +kernel
theorem dX12_treeOf_53 : decode cX12_treeOf 53 = .ok (.getfield 32, 3) := by decide +kernel
theorem dX12_treeOf_56 : decode cX12_treeOf 56 = .ok (.iload_n 1, 1) := by decide +kernel
theorem dX12_treeOf_57 : decode cX12_treeOf 57 = .ok (.iaload, 1) := by decide +kernel
theorem dX12_treeOf_58 : decode cX12_treeOf 58 = .ok (.ireturn, 1) := by decide +kernel
theorem dX12_treeOf_59 : decode cX12_treeOf 59 = .ok (.aload_n 0, 1) := by decide +kernel
theorem dX12_treeOf_60 : decode cX12_treeOf 60 = .ok (.getfield 35, 3) := by decide +kernel
theorem dX12_treeOf_63 : decode cX12_treeOf 63 = .ok (.iload_n 1, 1) := by decide +kernel
theorem dX12_treeOf_64 : decode cX12_treeOf 64 = .ok (.iaload, 1) := by decide +kernel
theorem dX12_treeOf_65 : decode cX12_treeOf 65 = .ok (.ireturn, 1) := by decide +kernel
theorem dX12_treeOf_66 : decode cX12_treeOf 66 = .ok (.aload_n 0, 1) := by decide +kernel
theorem dX12_treeOf_67 : decode cX12_treeOf 67 = .ok (.iload_n 1, 1) := by decide +kernel
theorem dX12_treeOf_68 : decode cX12_treeOf 68 = .ok (.aload_n 0, 1) := by decide +kernel
theorem dX12_treeOf_69 : decode cX12_treeOf 69 = .ok (.getfield 176, 3) := by decide +kernel
theorem dX12_treeOf_72 : decode cX12_treeOf 72 = .ok (.invokevirtual 179, 3) := by decide +kernel
theorem dX12_treeOf_75 : decode cX12_treeOf 75 = .ok (.ireturn, 1) := by decide +kernel
theorem dX12_treeOf_76 : decode cX12_treeOf 76 = .ok (.aload_n 0, 1) := by decide +kernel
theorem dX12_treeOf_77 : decode cX12_treeOf 77 = .ok (.iload_n 1, 1) := by decide +kernel
theorem dX12_treeOf_78 : decode cX12_treeOf 78 = .ok (.invokevirtual 182, 3) := by decide +kernel
theorem dX12_treeOf_81 : decode cX12_treeOf 81 = .ok (.ireturn, 1) := by decide +kernel
theorem dX12_treeOf_82 : decode cX12_treeOf 82 = .ok (.aload_n 0, 1) := by decide +kernel
theorem dX12_treeOf_83 : decode cX12_treeOf 83 = .ok (.iload_n 1, 1) := by decide +kernel
theorem dX12_treeOf_84 : decode cX12_treeOf 84 = .ok (.iconst 0, 1) := by decide +kernel
theorem dX12_treeOf_85 : decode cX12_treeOf 85 = .ok (.invokevirtual 179, 3) := by decide +kernel
theorem dX12_treeOf_88 : decode cX12_treeOf 88 = .ok (.ireturn, 1) := by decide +kernel
theorem dX12_treeOf_89 : decode cX12_treeOf 89 = .ok (.aload_n 0, 1) := by decide +kernel
theorem dX12_treeOf_90 : decode cX12_treeOf 90 = .ok (.getfield 38, 3) := by decide +kernel
theorem dX12_treeOf_93 : decode cX12_treeOf 93 = .ok (.iload_n 1, 1) := by decide +kernel
theorem dX12_treeOf_94 : decode cX12_treeOf 94 = .ok (.iaload, 1) := by decide +kernel
theorem dX12_treeOf_95 : decode cX12_treeOf 95 = .ok (.ireturn, 1) := by decide +kernel
theorem dX12_treeOf_96 : decode cX12_treeOf 96 = .ok (.aload_n 0, 1) := by decide +kernel
theorem dX12_treeOf_97 : decode cX12_treeOf 97 = .ok (.getfield 191, 3) := by decide +kernel
theorem dX12_treeOf_100 : decode cX12_treeOf 100 = .ok (.ifCond .eq 19, 3) := by decide +kernel
theorem dX12_treeOf_103 : decode cX12_treeOf 103 = .ok (.aload_n 0, 1) := by decide +kernel
theorem dX12_treeOf_104 : decode cX12_treeOf 104 = .ok (.iload_n 1, 1) := by decide +kernel
theorem dX12_treeOf_105 : decode cX12_treeOf 105 = .ok (.aload_n 0, 1) := by decide +kernel
theorem dX12_treeOf_106 : decode cX12_treeOf 106 = .ok (.getfield 176, 3) := by decide +kernel
theorem dX12_treeOf_109 : decode cX12_treeOf 109 = .ok (.invokevirtual 179, 3) := by decide +kernel
theorem dX12_treeOf_112 : decode cX12_treeOf 112 = .ok (.ifCond .le 7, 3) := by decide +kernel
theorem dX12_treeOf_115 : decode cX12_treeOf 115 = .ok (.iconst 1, 1) := by decide +kernel
theorem dX12_treeOf_116 : decode cX12_treeOf 116 = .ok (.goto 4, 3) := by decide +kernel
theorem dX12_treeOf_119 : decode cX12_treeOf 119 = .ok (.iconst 0, 1) := by decide +kernel
theorem dX12_treeOf_120 : decode cX12_treeOf 120 = .ok (.invokestatic 159, 3) := by decide +kernel
theorem dX12_treeOf_123 : decode cX12_treeOf 123 = .ok (.ireturn, 1) := by decide +kernel
theorem dX12_treeOf_124 : decode cX12_treeOf 124 = .ok (.iconst (-1), 1) := by decide +kernel
theorem dX12_treeOf_125 : decode cX12_treeOf 125 = .ok (.ireturn, 1) := by decide +kernel

theorem dX12_vacuumAt_0 : decode cX12_vacuumAt 0 = .ok (.iconst 0, 1) := by decide +kernel
theorem dX12_vacuumAt_1 : decode cX12_vacuumAt 1 = .ok (.istore_n 2, 1) := by decide +kernel
theorem dX12_vacuumAt_2 : decode cX12_vacuumAt 2 = .ok (.iload_n 1, 1) := by decide +kernel
theorem dX12_vacuumAt_3 : decode cX12_vacuumAt 3 = .ok (.istore_n 3, 1) := by decide +kernel
theorem dX12_vacuumAt_4 : decode cX12_vacuumAt 4 = .ok (.iload_n 3, 1) := by decide +kernel
theorem dX12_vacuumAt_5 : decode cX12_vacuumAt 5 = .ok (.ifCond .le 22, 3) := by decide +kernel
theorem dX12_vacuumAt_8 : decode cX12_vacuumAt 8 = .ok (.iload_n 2, 1) := by decide +kernel
theorem dX12_vacuumAt_9 : decode cX12_vacuumAt 9 = .ok (.aload_n 0, 1) := by decide +kernel
theorem dX12_vacuumAt_10 : decode cX12_vacuumAt 10 = .ok (.getfield 26, 3) := by decide +kernel
theorem dX12_vacuumAt_13 : decode cX12_vacuumAt 13 = .ok (.iload_n 3, 1) := by decide +kernel
theorem dX12_vacuumAt_14 : decode cX12_vacuumAt 14 = .ok (.iaload, 1) := by decide +kernel
theorem dX12_vacuumAt_15 : decode cX12_vacuumAt 15 = .ok (.iadd, 1) := by decide +kernel
theorem dX12_vacuumAt_16 : decode cX12_vacuumAt 16 = .ok (.istore_n 2, 1) := by decide +kernel
theorem dX12_vacuumAt_17 : decode cX12_vacuumAt 17 = .ok (.aload_n 0, 1) := by decide +kernel
theorem dX12_vacuumAt_18 : decode cX12_vacuumAt 18 = .ok (.getfield 13, 3) := by decide +kernel
theorem dX12_vacuumAt_21 : decode cX12_vacuumAt 21 = .ok (.iload_n 3, 1) := by decide +kernel
theorem dX12_vacuumAt_22 : decode cX12_vacuumAt 22 = .ok (.iaload, 1) := by decide +kernel
theorem dX12_vacuumAt_23 : decode cX12_vacuumAt 23 = .ok (.istore_n 3, 1) := by decide +kernel
theorem dX12_vacuumAt_24 : decode cX12_vacuumAt 24 = .ok (.goto (-20), 3) := by decide +kernel
theorem dX12_vacuumAt_27 : decode cX12_vacuumAt 27 = .ok (.iconst 0, 1) := by decide +kernel
theorem dX12_vacuumAt_28 : decode cX12_vacuumAt 28 = .ok (.aload_n 0, 1) := by decide +kernel
theorem dX12_vacuumAt_29 : decode cX12_vacuumAt 29 = .ok (.getfield 143, 3) := by decide +kernel
theorem dX12_vacuumAt_32 : decode cX12_vacuumAt 32 = .ok (.iload_n 2, 1) := by decide +kernel
theorem dX12_vacuumAt_33 : decode cX12_vacuumAt 33 = .ok (.isub, 1) := by decide +kernel
theorem dX12_vacuumAt_34 : decode cX12_vacuumAt 34 = .ok (.invokestatic 146, 3) := by decide +kernel
theorem dX12_vacuumAt_37 : decode cX12_vacuumAt 37 = .ok (.ireturn, 1) := by decide +kernel

theorem dX12_wood_0 : decode cX12_wood 0 = .ok (.iload_n 1, 1) := by decide +kernel
theorem dX12_wood_1 : decode cX12_wood 1 = .ok (.iconst 0, 1) := by decide +kernel
theorem dX12_wood_2 : decode cX12_wood 2 = .ok (.sipush 10000, 3) := by decide +kernel
theorem dX12_wood_5 : decode cX12_wood 5 = .ok (.invokestatic 136, 3) := by decide +kernel
theorem dX12_wood_8 : decode cX12_wood 8 = .ok (.ifCond .eq 14, 3) := by decide +kernel
theorem dX12_wood_11 : decode cX12_wood 11 = .ok (.aload_n 0, 1) := by decide +kernel
theorem dX12_wood_12 : decode cX12_wood 12 = .ok (.getfield 244, 3) := by decide +kernel
theorem dX12_wood_15 : decode cX12_wood 15 = .ok (.iload_n 1, 1) := by decide +kernel
theorem dX12_wood_16 : decode cX12_wood 16 = .ok (.iadd, 1) := by decide +kernel
theorem dX12_wood_17 : decode cX12_wood 17 = .ok (.ldc 247, 2) := by decide +kernel
theorem dX12_wood_19 : decode cX12_wood 19 = .ok (.if_icmp .le 5, 3) := by decide +kernel
theorem dX12_wood_22 : decode cX12_wood 22 = .ok (.iconst (-1), 1) := by decide +kernel
theorem dX12_wood_23 : decode cX12_wood 23 = .ok (.ireturn, 1) := by decide +kernel
theorem dX12_wood_24 : decode cX12_wood 24 = .ok (.aload_n 0, 1) := by decide +kernel
theorem dX12_wood_25 : decode cX12_wood 25 = .ok (.dup, 1) := by decide +kernel
theorem dX12_wood_26 : decode cX12_wood 26 = .ok (.getfield 244, 3) := by decide +kernel
theorem dX12_wood_29 : decode cX12_wood 29 = .ok (.iload_n 1, 1) := by decide +kernel
theorem dX12_wood_30 : decode cX12_wood 30 = .ok (.iadd, 1) := by decide +kernel
theorem dX12_wood_31 : decode cX12_wood 31 = .ok (.putfield 244, 3) := by decide +kernel
theorem dX12_wood_34 : decode cX12_wood 34 = .ok (.aload_n 0, 1) := by decide +kernel
theorem dX12_wood_35 : decode cX12_wood 35 = .ok (.getfield 244, 3) := by decide +kernel
theorem dX12_wood_38 : decode cX12_wood 38 = .ok (.ireturn, 1) := by decide +kernel

theorem dX12_word_0 : decode cX12_word 0 = .ok (.aload_n 0, 1) := by decide +kernel
theorem dX12_word_1 : decode cX12_word 1 = .ok (.invokevirtual 286, 3) := by decide +kernel
theorem dX12_word_4 : decode cX12_word 4 = .ok (.aload_n 0, 1) := by decide +kernel
theorem dX12_word_5 : decode cX12_word 5 = .ok (.aload_n 0, 1) := by decide +kernel
theorem dX12_word_6 : decode cX12_word 6 = .ok (.getfield 280, 3) := by decide +kernel
theorem dX12_word_9 : decode cX12_word 9 = .ok (.putfield 289, 3) := by decide +kernel
theorem dX12_word_12 : decode cX12_word 12 = .ok (.lconst 0, 1) := by decide +kernel
theorem dX12_word_13 : decode cX12_word 13 = .ok (.lstore_n 1, 1) := by decide +kernel
theorem dX12_word_14 : decode cX12_word 14 = .ok (.aload_n 0, 1) := by decide +kernel
theorem dX12_word_15 : decode cX12_word 15 = .ok (.getfield 289, 3) := by decide +kernel
theorem dX12_word_18 : decode cX12_word 18 = .ok (.aload_n 0, 1) := by decide +kernel
theorem dX12_word_19 : decode cX12_word 19 = .ok (.getfield 283, 3) := by decide +kernel
theorem dX12_word_22 : decode cX12_word 22 = .ok (.if_icmp .ge 78, 3) := by decide +kernel
theorem dX12_word_25 : decode cX12_word 25 = .ok (.aload_n 0, 1) := by decide +kernel
theorem dX12_word_26 : decode cX12_word 26 = .ok (.getfield 88, 3) := by decide +kernel
theorem dX12_word_29 : decode cX12_word 29 = .ok (.aload_n 0, 1) := by decide +kernel
theorem dX12_word_30 : decode cX12_word 30 = .ok (.getfield 289, 3) := by decide +kernel
theorem dX12_word_33 : decode cX12_word 33 = .ok (.baload, 1) := by decide +kernel
theorem dX12_word_34 : decode cX12_word 34 = .ok (.bipush 97, 2) := by decide +kernel
theorem dX12_word_36 : decode cX12_word 36 = .ok (.if_icmp .lt 64, 3) := by decide +kernel
theorem dX12_word_39 : decode cX12_word 39 = .ok (.aload_n 0, 1) := by decide +kernel
theorem dX12_word_40 : decode cX12_word 40 = .ok (.getfield 88, 3) := by decide +kernel
theorem dX12_word_43 : decode cX12_word 43 = .ok (.aload_n 0, 1) := by decide +kernel
theorem dX12_word_44 : decode cX12_word 44 = .ok (.getfield 289, 3) := by decide +kernel
theorem dX12_word_47 : decode cX12_word 47 = .ok (.baload, 1) := by decide +kernel
theorem dX12_word_48 : decode cX12_word 48 = .ok (.bipush 122, 2) := by decide +kernel
theorem dX12_word_50 : decode cX12_word 50 = .ok (.if_icmp .gt 50, 3) := by decide +kernel
theorem dX12_word_53 : decode cX12_word 53 = .ok (.aload_n 0, 1) := by decide +kernel
theorem dX12_word_54 : decode cX12_word 54 = .ok (.getfield 289, 3) := by decide +kernel
theorem dX12_word_57 : decode cX12_word 57 = .ok (.aload_n 0, 1) := by decide +kernel
theorem dX12_word_58 : decode cX12_word 58 = .ok (.getfield 280, 3) := by decide +kernel
theorem dX12_word_61 : decode cX12_word 61 = .ok (.isub, 1) := by decide +kernel
theorem dX12_word_62 : decode cX12_word 62 = .ok (.bipush 8, 2) := by decide +kernel
theorem dX12_word_64 : decode cX12_word 64 = .ok (.if_icmp .ge 21, 3) := by decide +kernel
theorem dX12_word_67 : decode cX12_word 67 = .ok (.lload_n 1, 1) := by decide +kernel
theorem dX12_word_68 : decode cX12_word 68 = .ok (.bipush 8, 2) := by decide +kernel
theorem dX12_word_70 : decode cX12_word 70 = .ok (.lshl, 1) := by decide +kernel
theorem dX12_word_71 : decode cX12_word 71 = .ok (.aload_n 0, 1) := by decide +kernel
theorem dX12_word_72 : decode cX12_word 72 = .ok (.getfield 88, 3) := by decide +kernel
theorem dX12_word_75 : decode cX12_word 75 = .ok (.aload_n 0, 1) := by decide +kernel
theorem dX12_word_76 : decode cX12_word 76 = .ok (.getfield 289, 3) := by decide +kernel
theorem dX12_word_79 : decode cX12_word 79 = .ok (.baload, 1) := by decide +kernel
theorem dX12_word_80 : decode cX12_word 80 = .ok (.i2l, 1) := by decide +kernel
theorem dX12_word_81 : decode cX12_word 81 = .ok (.lor, 1) := by decide +kernel
theorem dX12_word_82 : decode cX12_word 82 = .ok (.goto 4, 3) := by decide +kernel
theorem dX12_word_85 : decode cX12_word 85 = .ok (.lconst 0, 1) := by decide +kernel
theorem dX12_word_86 : decode cX12_word 86 = .ok (.lstore_n 1, 1) := by decide +kernel
theorem dX12_word_87 : decode cX12_word 87 = .ok (.aload_n 0, 1) := by decide +kernel
theorem dX12_word_88 : decode cX12_word 88 = .ok (.dup, 1) := by decide +kernel
theorem dX12_word_89 : decode cX12_word 89 = .ok (.getfield 289, 3) := by decide +kernel
theorem dX12_word_92 : decode cX12_word 92 = .ok (.iconst 1, 1) := by decide +kernel
theorem dX12_word_93 : decode cX12_word 93 = .ok (.iadd, 1) := by decide +kernel
theorem dX12_word_94 : decode cX12_word 94 = .ok (.putfield 289, 3) := by decide +kernel
theorem dX12_word_97 : decode cX12_word 97 = .ok (.goto (-83), 3) := by decide +kernel
theorem dX12_word_100 : decode cX12_word 100 = .ok (.aload_n 0, 1) := by decide +kernel
theorem dX12_word_101 : decode cX12_word 101 = .ok (.getfield 289, 3) := by decide +kernel
theorem dX12_word_104 : decode cX12_word 104 = .ok (.aload_n 0, 1) := by decide +kernel
theorem dX12_word_105 : decode cX12_word 105 = .ok (.getfield 280, 3) := by decide +kernel
theorem dX12_word_108 : decode cX12_word 108 = .ok (.isub, 1) := by decide +kernel
theorem dX12_word_109 : decode cX12_word 109 = .ok (.bipush 8, 2) := by decide +kernel
theorem dX12_word_111 : decode cX12_word 111 = .ok (.if_icmp .le 7, 3) := by decide +kernel
theorem dX12_word_114 : decode cX12_word 114 = .ok (.lconst 0, 1) := by decide +kernel
theorem dX12_word_115 : decode cX12_word 115 = .ok (.goto 4, 3) := by decide +kernel
theorem dX12_word_118 : decode cX12_word 118 = .ok (.lload_n 1, 1) := by decide +kernel
theorem dX12_word_119 : decode cX12_word 119 = .ok (.lreturn, 1) := by decide +kernel

theorem dX12_year_0 : decode cX12_year 0 = .ok (.aload_n 0, 1) := by decide +kernel
theorem dX12_year_1 : decode cX12_year 1 = .ok (.getfield 176, 3) := by decide +kernel
theorem dX12_year_4 : decode cX12_year 4 = .ok (.bipush 20, 2) := by decide +kernel
theorem dX12_year_6 : decode cX12_year 6 = .ok (.if_icmp .ne 5, 3) := by decide +kernel
theorem dX12_year_9 : decode cX12_year 9 = .ok (.iconst (-1), 1) := by decide +kernel
theorem dX12_year_10 : decode cX12_year 10 = .ok (.ireturn, 1) := by decide +kernel
theorem dX12_year_11 : decode cX12_year 11 = .ok (.aload_n 0, 1) := by decide +kernel
theorem dX12_year_12 : decode cX12_year 12 = .ok (.dup, 1) := by decide +kernel
theorem dX12_year_13 : decode cX12_year 13 = .ok (.getfield 176, 3) := by decide +kernel
theorem dX12_year_16 : decode cX12_year 16 = .ok (.iconst 1, 1) := by decide +kernel
theorem dX12_year_17 : decode cX12_year 17 = .ok (.iadd, 1) := by decide +kernel
theorem dX12_year_18 : decode cX12_year 18 = .ok (.putfield 176, 3) := by decide +kernel
theorem dX12_year_21 : decode cX12_year 21 = .ok (.aload_n 0, 1) := by decide +kernel
theorem dX12_year_22 : decode cX12_year 22 = .ok (.iconst 0, 1) := by decide +kernel
theorem dX12_year_23 : decode cX12_year 23 = .ok (.putfield 199, 3) := by decide +kernel
theorem dX12_year_26 : decode cX12_year 26 = .ok (.aload_n 0, 1) := by decide +kernel
theorem dX12_year_27 : decode cX12_year 27 = .ok (.iconst 0, 1) := by decide +kernel
theorem dX12_year_28 : decode cX12_year 28 = .ok (.putfield 205, 3) := by decide +kernel
theorem dX12_year_31 : decode cX12_year 31 = .ok (.aload_n 0, 1) := by decide +kernel
theorem dX12_year_32 : decode cX12_year 32 = .ok (.iconst 0, 1) := by decide +kernel
theorem dX12_year_33 : decode cX12_year 33 = .ok (.putfield 191, 3) := by decide +kernel
theorem dX12_year_36 : decode cX12_year 36 = .ok (.aload_n 0, 1) := by decide +kernel
theorem dX12_year_37 : decode cX12_year 37 = .ok (.iconst 0, 1) := by decide +kernel
theorem dX12_year_38 : decode cX12_year 38 = .ok (.putfield 214, 3) := by decide +kernel
theorem dX12_year_41 : decode cX12_year 41 = .ok (.aload_n 0, 1) := by decide +kernel
theorem dX12_year_42 : decode cX12_year 42 = .ok (.invokevirtual 236, 3) := by decide +kernel
theorem dX12_year_45 : decode cX12_year 45 = .ok (.iconst 0, 1) := by decide +kernel
theorem dX12_year_46 : decode cX12_year 46 = .ok (.istore_n 1, 1) := by decide +kernel
theorem dX12_year_47 : decode cX12_year 47 = .ok (.iload_n 1, 1) := by decide +kernel
theorem dX12_year_48 : decode cX12_year 48 = .ok (.aload_n 0, 1) := by decide +kernel
theorem dX12_year_49 : decode cX12_year 49 = .ok (.getfield 140, 3) := by decide +kernel
theorem dX12_year_52 : decode cX12_year 52 = .ok (.if_icmp .ge 16, 3) := by decide +kernel
theorem dX12_year_55 : decode cX12_year 55 = .ok (.aload_n 0, 1) := by decide +kernel
theorem dX12_year_56 : decode cX12_year 56 = .ok (.getfield 38, 3) := by decide +kernel
theorem dX12_year_59 : decode cX12_year 59 = .ok (.iload_n 1, 1) := by decide +kernel
theorem dX12_year_60 : decode cX12_year 60 = .ok (.iconst 0, 1) := by decide +kernel
theorem dX12_year_61 : decode cX12_year 61 = .ok (.iastore, 1) := by decide +kernel
theorem dX12_year_62 : decode cX12_year 62 = .ok (.iinc 1 1, 3) := by decide +kernel
theorem dX12_year_65 : decode cX12_year 65 = .ok (.goto (-18), 3) := by decide +kernel
theorem dX12_year_68 : decode cX12_year 68 = .ok (.iconst 0, 1) := by decide +kernel
theorem dX12_year_69 : decode cX12_year 69 = .ok (.istore_n 1, 1) := by decide +kernel
theorem dX12_year_70 : decode cX12_year 70 = .ok (.iload_n 1, 1) := by decide +kernel
theorem dX12_year_71 : decode cX12_year 71 = .ok (.bipush 10, 2) := by decide +kernel
theorem dX12_year_73 : decode cX12_year 73 = .ok (.if_icmp .ge 16, 3) := by decide +kernel
theorem dX12_year_76 : decode cX12_year 76 = .ok (.aload_n 0, 1) := by decide +kernel
theorem dX12_year_77 : decode cX12_year 77 = .ok (.getfield 50, 3) := by decide +kernel
theorem dX12_year_80 : decode cX12_year 80 = .ok (.iload_n 1, 1) := by decide +kernel
theorem dX12_year_81 : decode cX12_year 81 = .ok (.iconst 0, 1) := by decide +kernel
theorem dX12_year_82 : decode cX12_year 82 = .ok (.iastore, 1) := by decide +kernel
theorem dX12_year_83 : decode cX12_year 83 = .ok (.iinc 1 1, 3) := by decide +kernel
theorem dX12_year_86 : decode cX12_year 86 = .ok (.goto (-16), 3) := by decide +kernel
theorem dX12_year_89 : decode cX12_year 89 = .ok (.aload_n 0, 1) := by decide +kernel
theorem dX12_year_90 : decode cX12_year 90 = .ok (.getfield 176, 3) := by decide +kernel
theorem dX12_year_93 : decode cX12_year 93 = .ok (.ireturn, 1) := by decide +kernel
