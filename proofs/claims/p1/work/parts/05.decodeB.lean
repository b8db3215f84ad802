theorem dX12_batch_0 : decode cX12_batch 0 = .ok (.aload_n 0, 1) := by decide +kernel
theorem dX12_batch_1 : decode cX12_batch 1 = .ok (.iload_n 1, 1) := by decide +kernel
theorem dX12_batch_2 : decode cX12_batch 2 = .ok (.invokevirtual 264, 3) := by decide +kernel
theorem dX12_batch_5 : decode cX12_batch 5 = .ok (.ifCond .ne 5, 3) := by decide +kernel
theorem dX12_batch_8 : decode cX12_batch 8 = .ok (.iconst (-1), 1) := by decide +kernel
theorem dX12_batch_9 : decode cX12_batch 9 = .ok (.ireturn, 1) := by decide +kernel
theorem dX12_batch_10 : decode cX12_batch 10 = .ok (.iload_n 2, 1) := by decide +kernel
theorem dX12_batch_11 : decode cX12_batch 11 = .ok (.tableswitch 109 0 7 #[45, 52, 59, 66, 73, 79, 89, 98], 45) := by decide +kernel
theorem dX12_batch_56 : decode cX12_batch 56 = .ok (.aload_n 0, 1) := by decide +kernel
theorem dX12_batch_57 : decode cX12_batch 57 = .ok (.getfield 62, 3) := by decide +kernel
theorem dX12_batch_60 : decode cX12_batch 60 = .ok (.iload_n 1, 1) := by decide +kernel
theorem dX12_batch_61 : decode cX12_batch 61 = .ok (.iaload, 1) := by decide +kernel
theorem dX12_batch_62 : decode cX12_batch 62 = .ok (.ireturn, 1) := by decide +kernel
theorem dX12_batch_63 : decode cX12_batch 63 = .ok (.aload_n 0, 1) := by decide +kernel
theorem dX12_batch_64 : decode cX12_batch 64 = .ok (.getfield 65, 3) := by decide +kernel
theorem dX12_batch_67 : decode cX12_batch 67 = .ok (.iload_n 1, 1) := by decide +kernel
theorem dX12_batch_68 : decode cX12_batch 68 = .ok (.iaload, 1) := by decide +kernel
theorem dX12_batch_69 : decode cX12_batch 69 = .ok (.ireturn, 1) := by decide +kernel
theorem dX12_batch_70 : decode cX12_batch 70 = .ok (.aload_n 0, 1) := by decide +kernel
theorem dX12_batch_71 : decode cX12_batch 71 = .ok (.getfield 68, 3) := by decide +kernel
theorem dX12_batch_74 : decode cX12_batch 74 = .ok (.iload_n 1, 1) := by decide +kernel
theorem dX12_batch_75 : decode cX12_batch 75 = .ok (.iaload, 1) := by decide +kernel
theorem dX12_batch_76 : decode cX12_batch 76 = .ok (.ireturn, 1) := by decide +kernel
theorem dX12_batch_77 : decode cX12_batch 77 = .ok (.aload_n 0, 1) := by decide +kernel
theorem dX12_batch_78 : decode cX12_batch 78 = .ok (.getfield 71, 3) := by decide +kernel
theorem dX12_batch_81 : decode cX12_batch 81 = .ok (.iload_n 1, 1) := by decide +kernel
theorem dX12_batch_82 : decode cX12_batch 82 = .ok (.iaload, 1) := by decide +kernel
theorem dX12_batch_83 : decode cX12_batch 83 = .ok (.ireturn, 1) := by decide +kernel
theorem dX12_batch_84 : decode cX12_batch 84 = .ok (.aload_n 0, 1) := by decide +kernel
theorem dX12_batch_85 : decode cX12_batch 85 = .ok (.iload_n 1, 1) := by decide +kernel
theorem dX12_batch_86 : decode cX12_batch 86 = .ok (.invokevirtual 270, 3) := by decide +kernel
theorem dX12_batch_89 : decode cX12_batch 89 = .ok (.ireturn, 1) := by decide +kernel
theorem dX12_batch_90 : decode cX12_batch 90 = .ok (.aload_n 0, 1) := by decide +kernel
theorem dX12_batch_91 : decode cX12_batch 91 = .ok (.getfield 77, 3) := by decide +kernel
theorem dX12_batch_94 : decode cX12_batch 94 = .ok (.iload_n 1, 1) := by decide +kernel
theorem dX12_batch_95 : decode cX12_batch 95 = .ok (.baload, 1) := by decide +kernel
theorem dX12_batch_96 : decode cX12_batch 96 = .ok (.invokestatic 159, 3) := by decide +kernel
theorem dX12_batch_99 : decode cX12_batch 99 = .ok (.ireturn, 1) := by decide +kernel
theorem dX12_batch_100 : decode cX12_batch 100 = .ok (.aload_n 0, 1) := by decide +kernel
theorem dX12_batch_101 : decode cX12_batch 101 = .ok (.getfield 74, 3) := by decide +kernel
theorem dX12_batch_104 : decode cX12_batch 104 = .ok (.iconst 2, 1) := by decide +kernel
theorem dX12_batch_105 : decode cX12_batch 105 = .ok (.iload_n 1, 1) := by decide +kernel
theorem dX12_batch_106 : decode cX12_batch 106 = .ok (.imul, 1) := by decide +kernel
theorem dX12_batch_107 : decode cX12_batch 107 = .ok (.iaload, 1) := by decide +kernel
theorem dX12_batch_108 : decode cX12_batch 108 = .ok (.ireturn, 1) := by decide +kernel
theorem dX12_batch_109 : decode cX12_batch 109 = .ok (.aload_n 0, 1) := by decide +kernel
theorem dX12_batch_110 : decode cX12_batch 110 = .ok (.getfield 74, 3) := by decide +kernel
theorem dX12_batch_113 : decode cX12_batch 113 = .ok (.iconst 2, 1) := by decide +kernel
theorem dX12_batch_114 : decode cX12_batch 114 = .ok (.iload_n 1, 1) := by decide +kernel
theorem dX12_batch_115 : decode cX12_batch 115 = .ok (.imul, 1) := by decide +kernel
theorem dX12_batch_116 : decode cX12_batch 116 = .ok (.iconst 1, 1) := by decide +kernel
theorem dX12_batch_117 : decode cX12_batch 117 = .ok (.iadd, 1) := by decide +kernel
theorem dX12_batch_118 : decode cX12_batch 118 = .ok (.iaload, 1) := by decide +kernel
theorem dX12_batch_119 : decode cX12_batch 119 = .ok (.ireturn, 1) := by decide +kernel
theorem dX12_batch_120 : decode cX12_batch 120 = .ok (.iconst (-1), 1) := by decide +kernel
theorem dX12_batch_121 : decode cX12_batch 121 = .ok (.ireturn, 1) := by decide +kernel

theorem dX12_blanks_0 : decode cX12_blanks 0 = .ok (.aload_n 0, 1) := by decide +kernel
theorem dX12_blanks_1 : decode cX12_blanks 1 = .ok (.getfield 280, 3) := by decide +kernel
theorem dX12_blanks_4 : decode cX12_blanks 4 = .ok (.aload_n 0, 1) := by decide +kernel
theorem dX12_blanks_5 : decode cX12_blanks 5 = .ok (.getfield 283, 3) := by decide +kernel
theorem dX12_blanks_8 : decode cX12_blanks 8 = .ok (.if_icmp .ge 44, 3) := by decide +kernel
theorem dX12_blanks_11 : decode cX12_blanks 11 = .ok (.aload_n 0, 1) := by decide +kernel
theorem dX12_blanks_12 : decode cX12_blanks 12 = .ok (.getfield 88, 3) := by decide +kernel
theorem dX12_blanks_15 : decode cX12_blanks 15 = .ok (.aload_n 0, 1) := by decide +kernel
theorem dX12_blanks_16 : decode cX12_blanks 16 = .ok (.getfield 280, 3) := by decide +kernel
theorem dX12_blanks_19 : decode cX12_blanks 19 = .ok (.baload, 1) := by decide +kernel
theorem dX12_blanks_20 : decode cX12_blanks 20 = .ok (.bipush 32, 2) := by decide +kernel
theorem dX12_blanks_22 : decode cX12_blanks 22 = .ok (.if_icmp .eq 17, 3) := by decide +kernel
theorem dX12_blanks_25 : decode cX12_blanks 25 = .ok (.aload_n 0, 1) := by decide +kernel
theorem dX12_blanks_26 : decode cX12_blanks 26 = .ok (.getfield 88, 3) := by decide +kernel
theorem dX12_blanks_29 : decode cX12_blanks 29 = .ok (.aload_n 0, 1) := by decide +kernel
theorem dX12_blanks_30 : decode cX12_blanks 30 = .ok (.getfield 280, 3) := by decide +kernel
theorem dX12_blanks_33 : decode cX12_blanks 33 = .ok (.baload, 1) := by decide +kernel
theorem dX12_blanks_34 : decode cX12_blanks 34 = .ok (.bipush 10, 2) := by decide +kernel
theorem dX12_blanks_36 : decode cX12_blanks 36 = .ok (.if_icmp .ne 16, 3) := by decide +kernel
theorem dX12_blanks_39 : decode cX12_blanks 39 = .ok (.aload_n 0, 1) := by decide +kernel
theorem dX12_blanks_40 : decode cX12_blanks 40 = .ok (.dup, 1) := by decide +kernel
theorem dX12_blanks_41 : decode cX12_blanks 41 = .ok (.getfield 280, 3) := by decide +kernel
theorem dX12_blanks_44 : decode cX12_blanks 44 = .ok (.iconst 1, 1) := by decide +kernel
theorem dX12_blanks_45 : decode cX12_blanks 45 = .ok (.iadd, 1) := by decide +kernel
theorem dX12_blanks_46 : decode cX12_blanks 46 = .ok (.putfield 280, 3) := by decide +kernel
theorem dX12_blanks_49 : decode cX12_blanks 49 = .ok (.goto (-49), 3) := by decide +kernel
theorem dX12_blanks_52 : decode cX12_blanks 52 = .ok (.return_, 1) := by decide +kernel

theorem dX12_boil_0 : decode cX12_boil 0 = .ok (.iload_n 1, 1) := by decide +kernel
theorem dX12_boil_1 : decode cX12_boil 1 = .ok (.iconst 0, 1) := by decide +kernel
theorem dX12_boil_2 : decode cX12_boil 2 = .ok (.sipush 300, 3) := by decide +kernel
theorem dX12_boil_5 : decode cX12_boil 5 = .ok (.invokestatic 136, 3) := by decide +kernel
theorem dX12_boil_8 : decode cX12_boil 8 = .ok (.ifCond .ne 5, 3) := by decide +kernel
theorem dX12_boil_11 : decode cX12_boil 11 = .ok (.iconst (-1), 1) := by decide +kernel
theorem dX12_boil_12 : decode cX12_boil 12 = .ok (.ireturn, 1) := by decide +kernel
theorem dX12_boil_13 : decode cX12_boil 13 = .ok (.iconst 0, 1) := by decide +kernel
theorem dX12_boil_14 : decode cX12_boil 14 = .ok (.istore_n 2, 1) := by decide +kernel
theorem dX12_boil_15 : decode cX12_boil 15 = .ok (.iload_n 2, 1) := by decide +kernel
theorem dX12_boil_16 : decode cX12_boil 16 = .ok (.iload_n 1, 1) := by decide +kernel
theorem dX12_boil_17 : decode cX12_boil 17 = .ok (.if_icmp .ge 20, 3) := by decide +kernel
theorem dX12_boil_20 : decode cX12_boil 20 = .ok (.aload_n 0, 1) := by decide +kernel
theorem dX12_boil_21 : decode cX12_boil 21 = .ok (.getfield 220, 3) := by decide +kernel
theorem dX12_boil_24 : decode cX12_boil 24 = .ok (.ifCond .le 13, 3) := by decide +kernel
theorem dX12_boil_27 : decode cX12_boil 27 = .ok (.iinc 2 1, 3) := by decide +kernel
theorem dX12_boil_30 : decode cX12_boil 30 = .ok (.aload_n 0, 1) := by decide +kernel
theorem dX12_boil_31 : decode cX12_boil 31 = .ok (.invokevirtual 250, 3) := by decide +kernel
theorem dX12_boil_34 : decode cX12_boil 34 = .ok (.goto (-19), 3) := by decide +kernel
theorem dX12_boil_37 : decode cX12_boil 37 = .ok (.iload_n 2, 1) := by decide +kernel
theorem dX12_boil_38 : decode cX12_boil 38 = .ok (.ireturn, 1) := by decide +kernel

theorem dX12_count_0 : decode cX12_count 0 = .ok (.iload_n 1, 1) := by decide +kernel
theorem dX12_count_1 : decode cX12_count 1 = .ok (.tableswitch 132 0 12 #[67, 72, 77, 82, 87, 92, 97, 102, 107, 112, 117, 122, 127], 67) := by decide +kernel
theorem dX12_count_68 : decode cX12_count 68 = .ok (.aload_n 0, 1) := by decide +kernel
theorem dX12_count_69 : decode cX12_count 69 = .ok (.getfield 176, 3) := by decide +kernel
theorem dX12_count_72 : decode cX12_count 72 = .ok (.ireturn, 1) := by decide +kernel
theorem dX12_count_73 : decode cX12_count 73 = .ok (.aload_n 0, 1) := by decide +kernel
theorem dX12_count_74 : decode cX12_count 74 = .ok (.getfield 199, 3) := by decide +kernel
theorem dX12_count_77 : decode cX12_count 77 = .ok (.ireturn, 1) := by decide +kernel
theorem dX12_count_78 : decode cX12_count 78 = .ok (.aload_n 0, 1) := by decide +kernel
theorem dX12_count_79 : decode cX12_count 79 = .ok (.getfield 7, 3) := by decide +kernel
theorem dX12_count_82 : decode cX12_count 82 = .ok (.ireturn, 1) := by decide +kernel
theorem dX12_count_83 : decode cX12_count 83 = .ok (.aload_n 0, 1) := by decide +kernel
theorem dX12_count_84 : decode cX12_count 84 = .ok (.getfield 140, 3) := by decide +kernel
theorem dX12_count_87 : decode cX12_count 87 = .ok (.ireturn, 1) := by decide +kernel
theorem dX12_count_88 : decode cX12_count 88 = .ok (.aload_n 0, 1) := by decide +kernel
theorem dX12_count_89 : decode cX12_count 89 = .ok (.getfield 170, 3) := by decide +kernel
theorem dX12_count_92 : decode cX12_count 92 = .ok (.ireturn, 1) := by decide +kernel
theorem dX12_count_93 : decode cX12_count 93 = .ok (.aload_n 0, 1) := by decide +kernel
theorem dX12_count_94 : decode cX12_count 94 = .ok (.getfield 214, 3) := by decide +kernel
theorem dX12_count_97 : decode cX12_count 97 = .ok (.ireturn, 1) := by decide +kernel
theorem dX12_count_98 : decode cX12_count 98 = .ok (.aload_n 0, 1) := by decide +kernel
theorem dX12_count_99 : decode cX12_count 99 = .ok (.getfield 217, 3) := by decide +kernel
theorem dX12_count_102 : decode cX12_count 102 = .ok (.ireturn, 1) := by decide +kernel
theorem dX12_count_103 : decode cX12_count 103 = .ok (.aload_n 0, 1) := by decide +kernel
theorem dX12_count_104 : decode cX12_count 104 = .ok (.getfield 208, 3) := by decide +kernel
theorem dX12_count_107 : decode cX12_count 107 = .ok (.ireturn, 1) := by decide +kernel
theorem dX12_count_108 : decode cX12_count 108 = .ok (.aload_n 0, 1) := by decide +kernel
theorem dX12_count_109 : decode cX12_count 109 = .ok (.getfield 244, 3) := by decide +kernel
theorem dX12_count_112 : decode cX12_count 112 = .ok (.ireturn, 1) := by decide +kernel
theorem dX12_count_113 : decode cX12_count 113 = .ok (.aload_n 0, 1) := by decide +kernel
theorem dX12_count_114 : decode cX12_count 114 = .ok (.getfield 261, 3) := by decide +kernel
theorem dX12_count_117 : decode cX12_count 117 = .ok (.ireturn, 1) := by decide +kernel
theorem dX12_count_118 : decode cX12_count 118 = .ok (.aload_n 0, 1) := by decide +kernel
theorem dX12_count_119 : decode cX12_count 119 = .ok (.getfield 342, 3) := by decide +kernel
theorem dX12_count_122 : decode cX12_count 122 = .ok (.ireturn, 1) := by decide +kernel
theorem dX12_count_123 : decode cX12_count 123 = .ok (.aload_n 0, 1) := by decide +kernel
theorem dX12_count_124 : decode cX12_count 124 = .ok (.getfield 273, 3) := by decide +kernel
theorem dX12_count_127 : decode cX12_count 127 = .ok (.ireturn, 1) := by decide +kernel
theorem dX12_count_128 : decode cX12_count 128 = .ok (.aload_n 0, 1) := by decide +kernel
theorem dX12_count_129 : decode cX12_count 129 = .ok (.getfield 211, 3) := by decide +kernel
theorem dX12_count_132 : decode cX12_count 132 = .ok (.ireturn, 1) := by decide +kernel
theorem dX12_count_133 : decode cX12_count 133 = .ok (.iconst (-1), 1) := by decide +kernel
theorem dX12_count_134 : decode cX12_count 134 = .ok (.ireturn, 1) := by decide +kernel

theorem dX12_day_0 : decode cX12_day 0 = .ok (.iload_n 1, 1) := by decide +kernel
theorem dX12_day_1 : decode cX12_day 1 = .ok (.iload_n 2, 1) := by decide +kernel
theorem dX12_day_2 : decode cX12_day 2 = .ok (.invokestatic 195, 3) := by decide +kernel
theorem dX12_day_5 : decode cX12_day 5 = .ok (.ifCond .eq 12, 3) := by decide +kernel
theorem dX12_day_8 : decode cX12_day 8 = .ok (.aload_n 0, 1) := by decide +kernel
theorem dX12_day_9 : decode cX12_day 9 = .ok (.getfield 199, 3) := by decide +kernel
theorem dX12_day_12 : decode cX12_day 12 = .ok (.bipush 99, 2) := by decide +kernel
theorem dX12_day_14 : decode cX12_day 14 = .ok (.if_icmp .ne 5, 3) := by decide +kernel
theorem dX12_day_17 : decode cX12_day 17 = .ok (.iconst (-1), 1) := by decide +kernel
theorem dX12_day_18 : decode cX12_day 18 = .ok (.ireturn, 1) := by decide +kernel
theorem dX12_day_19 : decode cX12_day 19 = .ok (.iload_n 1, 1) := by decide +kernel
theorem dX12_day_20 : decode cX12_day 20 = .ok (.ineg, 1) := by decide +kernel
theorem dX12_day_21 : decode cX12_day 21 = .ok (.invokestatic 202, 3) := by decide +kernel
theorem dX12_day_24 : decode cX12_day 24 = .ok (.istore_n 3, 1) := by decide +kernel
theorem dX12_day_25 : decode cX12_day 25 = .ok (.iload_n 2, 1) := by decide +kernel
theorem dX12_day_26 : decode cX12_day 26 = .ok (.invokestatic 202, 3) := by decide +kernel
theorem dX12_day_29 : decode cX12_day 29 = .ok (.istore 4, 2) := by decide +kernel
theorem dX12_day_31 : decode cX12_day 31 = .ok (.aload_n 0, 1) := by decide +kernel
theorem dX12_day_32 : decode cX12_day 32 = .ok (.iload_n 3, 1) := by decide +kernel
theorem dX12_day_33 : decode cX12_day 33 = .ok (.ifCond .ne 12, 3) := by decide +kernel
theorem dX12_day_36 : decode cX12_day 36 = .ok (.aload_n 0, 1) := by decide +kernel
theorem dX12_day_37 : decode cX12_day 37 = .ok (.getfield 205, 3) := by decide +kernel
theorem dX12_day_40 : decode cX12_day 40 = .ok (.iconst 1, 1) := by decide +kernel
theorem dX12_day_41 : decode cX12_day 41 = .ok (.iadd, 1) := by decide +kernel
theorem dX12_day_42 : decode cX12_day 42 = .ok (.goto 4, 3) := by decide +kernel
theorem dX12_day_45 : decode cX12_day 45 = .ok (.iconst 0, 1) := by decide +kernel
theorem dX12_day_46 : decode cX12_day 46 = .ok (.putfield 205, 3) := by decide +kernel
theorem dX12_day_49 : decode cX12_day 49 = .ok (.aload_n 0, 1) := by decide +kernel
theorem dX12_day_50 : decode cX12_day 50 = .ok (.getfield 205, 3) := by decide +kernel
theorem dX12_day_53 : decode cX12_day 53 = .ok (.iconst 5, 1) := by decide +kernel
theorem dX12_day_54 : decode cX12_day 54 = .ok (.if_icmp .ne 8, 3) := by decide +kernel
theorem dX12_day_57 : decode cX12_day 57 = .ok (.aload_n 0, 1) := by decide +kernel
theorem dX12_day_58 : decode cX12_day 58 = .ok (.iconst 1, 1) := by decide +kernel
theorem dX12_day_59 : decode cX12_day 59 = .ok (.putfield 191, 3) := by decide +kernel
theorem dX12_day_62 : decode cX12_day 62 = .ok (.iconst 0, 1) := by decide +kernel
theorem dX12_day_63 : decode cX12_day 63 = .ok (.istore 5, 2) := by decide +kernel
theorem dX12_day_65 : decode cX12_day 65 = .ok (.iconst 0, 1) := by decide +kernel
theorem dX12_day_66 : decode cX12_day 66 = .ok (.istore 6, 2) := by decide +kernel
theorem dX12_day_68 : decode cX12_day 68 = .ok (.iload 6, 2) := by decide +kernel
theorem dX12_day_70 : decode cX12_day 70 = .ok (.aload_n 0, 1) := by decide +kernel
theorem dX12_day_71 : decode cX12_day 71 = .ok (.getfield 140, 3) := by decide +kernel
theorem dX12_day_74 : decode cX12_day 74 = .ok (.if_icmp .ge 169, 3) := by decide +kernel
theorem dX12_day_77 : decode cX12_day 77 = .ok (.aload_n 0, 1) := by decide +kernel
theorem dX12_day_78 : decode cX12_day 78 = .ok (.getfield 32, 3) := by decide +kernel
theorem dX12_day_81 : decode cX12_day 81 = .ok (.iload 6, 2) := by decide +kernel
theorem dX12_day_83 : decode cX12_day 83 = .ok (.iaload, 1) := by decide +kernel
theorem dX12_day_84 : decode cX12_day 84 = .ok (.istore 7, 2) := by decide +kernel
theorem dX12_day_86 : decode cX12_day 86 = .ok (.aload_n 0, 1) := by decide +kernel
theorem dX12_day_87 : decode cX12_day 87 = .ok (.getfield 191, 3) := by decide +kernel
theorem dX12_day_90 : decode cX12_day 90 = .ok (.ifCond .eq 7, 3) := by decide +kernel
theorem dX12_day_93 : decode cX12_day 93 = .ok (.iconst 0, 1) := by decide +kernel
theorem dX12_day_94 : decode cX12_day 94 = .ok (.goto 31, 3) := by decide +kernel
theorem dX12_day_97 : decode cX12_day 97 = .ok (.aload_n 0, 1) := by decide +kernel
theorem dX12_day_98 : decode cX12_day 98 = .ok (.iload 6, 2) := by decide +kernel
theorem dX12_day_100 : decode cX12_day 100 = .ok (.aload_n 0, 1) := by decide +kernel
theorem dX12_day_101 : decode cX12_day 101 = .ok (.getfield 176, 3) := by decide +kernel
theorem dX12_day_104 : decode cX12_day 104 = .ok (.invokevirtual 179, 3) := by decide +kernel
theorem dX12_day_107 : decode cX12_day 107 = .ok (.iload_n 3, 1) := by decide +kernel
theorem dX12_day_108 : decode cX12_day 108 = .ok (.iload 4, 2) := by decide +kernel
theorem dX12_day_110 : decode cX12_day 110 = .ok (.imul, 1) := by decide +kernel
theorem dX12_day_111 : decode cX12_day 111 = .ok (.bipush 100, 2) := by decide +kernel
theorem dX12_day_113 : decode cX12_day 113 = .ok (.aload_n 0, 1) := by decide +kernel
theorem dX12_day_114 : decode cX12_day 114 = .ok (.iload 7, 2) := by decide +kernel
theorem dX12_day_116 : decode cX12_day 116 = .ok (.invokevirtual 163, 3) := by decide +kernel
theorem dX12_day_119 : decode cX12_day 119 = .ok (.iadd, 1) := by decide +kernel
theorem dX12_day_120 : decode cX12_day 120 = .ok (.imul, 1) := by decide +kernel
theorem dX12_day_121 : decode cX12_day 121 = .ok (.bipush 100, 2) := by decide +kernel
theorem dX12_day_123 : decode cX12_day 123 = .ok (.idiv, 1) := by decide +kernel
theorem dX12_day_124 : decode cX12_day 124 = .ok (.imul, 1) := by decide +kernel
theorem dX12_day_125 : decode cX12_day 125 = .ok (.istore 8, 2) := by decide +kernel
theorem dX12_day_127 : decode cX12_day 127 = .ok (.aload_n 0, 1) := by decide +kernel
theorem dX12_day_128 : decode cX12_day 128 = .ok (.getfield 38, 3) := by decide +kernel
theorem dX12_day_131 : decode cX12_day 131 = .ok (.iload 6, 2) := by decide +kernel
theorem dX12_day_133 : decode cX12_day 133 = .ok (.dup2, 1) := by decide +kernel
theorem dX12_day_134 : decode cX12_day 134 = .ok (.iaload, 1) := by decide +kernel
theorem dX12_day_135 : decode cX12_day 135 = .ok (.iload 8, 2) := by decide +kernel
theorem dX12_day_137 : decode cX12_day 137 = .ok (.iadd, 1) := by decide +kernel
theorem dX12_day_138 : decode cX12_day 138 = .ok (.iastore, 1) := by decide +kernel
theorem dX12_day_139 : decode cX12_day 139 = .ok (.iload 5, 2) := by decide +kernel
theorem dX12_day_141 : decode cX12_day 141 = .ok (.iload 8, 2) := by decide +kernel
theorem dX12_day_143 : decode cX12_day 143 = .ok (.iadd, 1) := by decide +kernel
theorem dX12_day_144 : decode cX12_day 144 = .ok (.istore 5, 2) := by decide +kernel
theorem dX12_day_146 : decode cX12_day 146 = .ok (.aload_n 0, 1) := by decide +kernel
theorem dX12_day_147 : decode cX12_day 147 = .ok (.iload 7, 2) := by decide +kernel
theorem dX12_day_149 : decode cX12_day 149 = .ok (.invokevirtual 156, 3) := by decide +kernel
theorem dX12_day_152 : decode cX12_day 152 = .ok (.ifCond .ne 17, 3) := by decide +kernel
theorem dX12_day_155 : decode cX12_day 155 = .ok (.aload_n 0, 1) := by decide +kernel
theorem dX12_day_156 : decode cX12_day 156 = .ok (.dup, 1) := by decide +kernel
theorem dX12_day_157 : decode cX12_day 157 = .ok (.getfield 208, 3) := by decide +kernel
theorem dX12_day_160 : decode cX12_day 160 = .ok (.iload 8, 2) := by decide +kernel
theorem dX12_day_162 : decode cX12_day 162 = .ok (.iadd, 1) := by decide +kernel
theorem dX12_day_163 : decode cX12_day 163 = .ok (.putfield 208, 3) := by decide +kernel
theorem dX12_day_166 : decode cX12_day 166 = .ok (.goto 71, 3) := by decide +kernel
theorem dX12_day_169 : decode cX12_day 169 = .ok (.aload_n 0, 1) := by decide +kernel
theorem dX12_day_170 : decode cX12_day 170 = .ok (.dup, 1) := by decide +kernel
theorem dX12_day_171 : decode cX12_day 171 = .ok (.getfield 211, 3) := by decide +kernel
theorem dX12_day_174 : decode cX12_day 174 = .ok (.iload 8, 2) := by decide +kernel
theorem dX12_day_176 : decode cX12_day 176 = .ok (.iadd, 1) := by decide +kernel
theorem dX12_day_177 : decode cX12_day 177 = .ok (.putfield 211, 3) := by decide +kernel
theorem dX12_day_180 : decode cX12_day 180 = .ok (.aload_n 0, 1) := by decide +kernel
theorem dX12_day_181 : decode cX12_day 181 = .ok (.getfield 50, 3) := by decide +kernel
theorem dX12_day_184 : decode cX12_day 184 = .ok (.aload_n 0, 1) := by decide +kernel
theorem dX12_day_185 : decode cX12_day 185 = .ok (.getfield 23, 3) := by decide +kernel
theorem dX12_day_188 : decode cX12_day 188 = .ok (.iload 7, 2) := by decide +kernel
theorem dX12_day_190 : decode cX12_day 190 = .ok (.iaload, 1) := by decide +kernel
theorem dX12_day_191 : decode cX12_day 191 = .ok (.dup2, 1) := by decide +kernel
theorem dX12_day_192 : decode cX12_day 192 = .ok (.iaload, 1) := by decide +kernel
theorem dX12_day_193 : decode cX12_day 193 = .ok (.iload 8, 2) := by decide +kernel
theorem dX12_day_195 : decode cX12_day 195 = .ok (.iadd, 1) := by decide +kernel
theorem dX12_day_196 : decode cX12_day 196 = .ok (.iastore, 1) := by decide +kernel
theorem dX12_day_197 : decode cX12_day 197 = .ok (.iload 8, 2) := by decide +kernel
theorem dX12_day_199 : decode cX12_day 199 = .ok (.sipush 20000, 3) := by decide +kernel
theorem dX12_day_202 : decode cX12_day 202 = .ok (.aload_n 0, 1) := by decide +kernel
theorem dX12_day_203 : decode cX12_day 203 = .ok (.getfield 214, 3) := by decide +kernel
theorem dX12_day_206 : decode cX12_day 206 = .ok (.isub, 1) := by decide +kernel
theorem dX12_day_207 : decode cX12_day 207 = .ok (.invokestatic 188, 3) := by decide +kernel
theorem dX12_day_210 : decode cX12_day 210 = .ok (.istore 9, 2) := by decide +kernel
theorem dX12_day_212 : decode cX12_day 212 = .ok (.aload_n 0, 1) := by decide +kernel
theorem dX12_day_213 : decode cX12_day 213 = .ok (.dup, 1) := by decide +kernel
theorem dX12_day_214 : decode cX12_day 214 = .ok (.getfield 214, 3) := by decide +kernel
theorem dX12_day_217 : decode cX12_day 217 = .ok (.iload 9, 2) := by decide +kernel
theorem dX12_day_219 : decode cX12_day 219 = .ok (.iadd, 1) := by decide +kernel
theorem dX12_day_220 : decode cX12_day 220 = .ok (.putfield 214, 3) := by decide +kernel
theorem dX12_day_223 : decode cX12_day 223 = .ok (.aload_n 0, 1) := by decide +kernel
theorem dX12_day_224 : decode cX12_day 224 = .ok (.dup, 1) := by decide +kernel
theorem dX12_day_225 : decode cX12_day 225 = .ok (.getfield 217, 3) := by decide +kernel
theorem dX12_day_228 : decode cX12_day 228 = .ok (.iload 8, 2) := by decide +kernel
theorem dX12_day_230 : decode cX12_day 230 = .ok (.iload 9, 2) := by decide +kernel
theorem dX12_day_232 : decode cX12_day 232 = .ok (.isub, 1) := by decide +kernel
theorem dX12_day_233 : decode cX12_day 233 = .ok (.iadd, 1) := by decide +kernel
theorem dX12_day_234 : decode cX12_day 234 = .ok (.putfield 217, 3) := by decide +kernel
theorem dX12_day_237 : decode cX12_day 237 = .ok (.iinc 6 1, 3) := by decide +kernel
theorem dX12_day_240 : decode cX12_day 240 = .ok (.goto (-172), 3) := by decide +kernel
theorem dX12_day_243 : decode cX12_day 243 = .ok (.aload_n 0, 1) := by decide +kernel
theorem dX12_day_244 : decode cX12_day 244 = .ok (.getfield 56, 3) := by decide +kernel
theorem dX12_day_247 : decode cX12_day 247 = .ok (.bipush 11, 2) := by decide +kernel
theorem dX12_day_249 : decode cX12_day 249 = .ok (.iload_n 3, 1) := by decide +kernel
theorem dX12_day_250 : decode cX12_day 250 = .ok (.imul, 1) := by decide +kernel
theorem dX12_day_251 : decode cX12_day 251 = .ok (.iload 4, 2) := by decide +kernel
theorem dX12_day_253 : decode cX12_day 253 = .ok (.iadd, 1) := by decide +kernel
theorem dX12_day_254 : decode cX12_day 254 = .ok (.dup2, 1) := by decide +kernel
theorem dX12_day_255 : decode cX12_day 255 = .ok (.iaload, 1) := by decide +kernel
theorem dX12_day_256 : decode cX12_day 256 = .ok (.iload 5, 2) := by decide +kernel
theorem dX12_day_258 : decode cX12_day 258 = .ok (.iadd, 1) := by decide +kernel
theorem dX12_day_259 : decode cX12_day 259 = .ok (.iastore, 1) := by decide +kernel
theorem dX12_day_260 : decode cX12_day 260 = .ok (.aload_n 0, 1) := by decide +kernel
theorem dX12_day_261 : decode cX12_day 261 = .ok (.getfield 59, 3) := by decide +kernel
theorem dX12_day_264 : decode cX12_day 264 = .ok (.bipush 11, 2) := by decide +kernel
theorem dX12_day_266 : decode cX12_day 266 = .ok (.iload_n 3, 1) := by decide +kernel
theorem dX12_day_267 : decode cX12_day 267 = .ok (.imul, 1) := by decide +kernel
theorem dX12_day_268 : decode cX12_day 268 = .ok (.iload 4, 2) := by decide +kernel
theorem dX12_day_270 : decode cX12_day 270 = .ok (.iadd, 1) := by decide +kernel
theorem dX12_day_271 : decode cX12_day 271 = .ok (.dup2, 1) := by decide +kernel
theorem dX12_day_272 : decode cX12_day 272 = .ok (.iaload, 1) := by decide +kernel
theorem dX12_day_273 : decode cX12_day 273 = .ok (.iconst 1, 1) := by decide +kernel
theorem dX12_day_274 : decode cX12_day 274 = .ok (.iadd, 1) := by decide +kernel
theorem dX12_day_275 : decode cX12_day 275 = .ok (.iastore, 1) := by decide +kernel
theorem dX12_day_276 : decode cX12_day 276 = .ok (.aload_n 0, 1) := by decide +kernel
theorem dX12_day_277 : decode cX12_day 277 = .ok (.dup, 1) := by decide +kernel
theorem dX12_day_278 : decode cX12_day 278 = .ok (.getfield 199, 3) := by decide +kernel
theorem dX12_day_281 : decode cX12_day 281 = .ok (.iconst 1, 1) := by decide +kernel
theorem dX12_day_282 : decode cX12_day 282 = .ok (.iadd, 1) := by decide +kernel
theorem dX12_day_283 : decode cX12_day 283 = .ok (.putfield 199, 3) := by decide +kernel
theorem dX12_day_286 : decode cX12_day 286 = .ok (.aload_n 0, 1) := by decide +kernel
theorem dX12_day_287 : decode cX12_day 287 = .ok (.getfield 199, 3) := by decide +kernel
theorem dX12_day_290 : decode cX12_day 290 = .ok (.ireturn, 1) := by decide +kernel

theorem dX12_dump_0 : decode cX12_dump 0 = .ok (.aload_n 0, 1) := by decide +kernel
theorem dX12_dump_1 : decode cX12_dump 1 = .ok (.getfield 220, 3) := by decide +kernel
theorem dX12_dump_4 : decode cX12_dump 4 = .ok (.istore_n 1, 1) := by decide +kernel
theorem dX12_dump_5 : decode cX12_dump 5 = .ok (.aload_n 0, 1) := by decide +kernel
theorem dX12_dump_6 : decode cX12_dump 6 = .ok (.invokevirtual 236, 3) := by decide +kernel
theorem dX12_dump_9 : decode cX12_dump 9 = .ok (.iload_n 1, 1) := by decide +kernel
theorem dX12_dump_10 : decode cX12_dump 10 = .ok (.ireturn, 1) := by decide +kernel

theorem dX12_emptyPan_0 : decode cX12_emptyPan 0 = .ok (.aload_n 0, 1) := by decide +kernel
theorem dX12_emptyPan_1 : decode cX12_emptyPan 1 = .ok (.iconst 0, 1) := by decide +kernel
theorem dX12_emptyPan_2 : decode cX12_emptyPan 2 = .ok (.putfield 220, 3) := by decide +kernel
theorem dX12_emptyPan_5 : decode cX12_emptyPan 5 = .ok (.aload_n 0, 1) := by decide +kernel
theorem dX12_emptyPan_6 : decode cX12_emptyPan 6 = .ok (.lconst 0, 1) := by decide +kernel
theorem dX12_emptyPan_7 : decode cX12_emptyPan 7 = .ok (.putfield 223, 3) := by decide +kernel
theorem dX12_emptyPan_10 : decode cX12_emptyPan 10 = .ok (.aload_n 0, 1) := by decide +kernel
theorem dX12_emptyPan_11 : decode cX12_emptyPan 11 = .ok (.iconst 0, 1) := by decide +kernel
theorem dX12_emptyPan_12 : decode cX12_emptyPan 12 = .ok (.putfield 227, 3) := by decide +kernel
theorem dX12_emptyPan_15 : decode cX12_emptyPan 15 = .ok (.aload_n 0, 1) := by decide +kernel
theorem dX12_emptyPan_16 : decode cX12_emptyPan 16 = .ok (.iconst 0, 1) := by decide +kernel
theorem dX12_emptyPan_17 : decode cX12_emptyPan 17 = .ok (.putfield 230, 3) := by decide +kernel
theorem dX12_emptyPan_20 : decode cX12_emptyPan 20 = .ok (.aload_n 0, 1) := by decide +kernel
theorem dX12_emptyPan_21 : decode cX12_emptyPan 21 = .ok (.iconst 0, 1) := by decide +kernel
theorem dX12_emptyPan_22 : decode cX12_emptyPan 22 = .ok (.putfield 233, 3) := by decide +kernel
theorem dX12_emptyPan_25 : decode cX12_emptyPan 25 = .ok (.return_, 1) := by decide +kernel

theorem dX12_fault_0 : decode cX12_fault 0 = .ok (.aload_n 0, 1) := by decide +kernel
theorem dX12_fault_1 : decode cX12_fault 1 = .ok (.getfield 91, 3) := by decide +kernel
theorem dX12_fault_4 : decode cX12_fault 4 = .ok (.ireturn, 1) := by decide +kernel

theorem dX12_feed_0 : decode cX12_feed 0 = .ok (.aload_n 0, 1) := by decide +kernel
theorem dX12_feed_1 : decode cX12_feed 1 = .ok (.getfield 273, 3) := by decide +kernel
theorem dX12_feed_4 : decode cX12_feed 4 = .ok (.bipush 20, 2) := by decide +kernel
theorem dX12_feed_6 : decode cX12_feed 6 = .ok (.iadd, 1) := by decide +kernel
theorem dX12_feed_7 : decode cX12_feed 7 = .ok (.sipush 600, 3) := by decide +kernel
theorem dX12_feed_10 : decode cX12_feed 10 = .ok (.if_icmp .le 5, 3) := by decide +kernel
theorem dX12_feed_13 : decode cX12_feed 13 = .ok (.iconst (-1), 1) := by decide +kernel
theorem dX12_feed_14 : decode cX12_feed 14 = .ok (.ireturn, 1) := by decide +kernel
theorem dX12_feed_15 : decode cX12_feed 15 = .ok (.aload_n 0, 1) := by decide +kernel
theorem dX12_feed_16 : decode cX12_feed 16 = .ok (.iload_n 1, 1) := by decide +kernel
theorem dX12_feed_17 : decode cX12_feed 17 = .ok (.invokevirtual 276, 3) := by decide +kernel
theorem dX12_feed_20 : decode cX12_feed 20 = .ok (.aload_n 0, 1) := by decide +kernel
theorem dX12_feed_21 : decode cX12_feed 21 = .ok (.iload_n 2, 1) := by decide +kernel
theorem dX12_feed_22 : decode cX12_feed 22 = .ok (.invokevirtual 276, 3) := by decide +kernel
theorem dX12_feed_25 : decode cX12_feed 25 = .ok (.aload_n 0, 1) := by decide +kernel
theorem dX12_feed_26 : decode cX12_feed 26 = .ok (.iload_n 3, 1) := by decide +kernel
theorem dX12_feed_27 : decode cX12_feed 27 = .ok (.invokevirtual 276, 3) := by decide +kernel
theorem dX12_feed_30 : decode cX12_feed 30 = .ok (.aload_n 0, 1) := by decide +kernel
theorem dX12_feed_31 : decode cX12_feed 31 = .ok (.iload 4, 2) := by decide +kernel
theorem dX12_feed_33 : decode cX12_feed 33 = .ok (.invokevirtual 276, 3) := by decide +kernel
theorem dX12_feed_36 : decode cX12_feed 36 = .ok (.aload_n 0, 1) := by decide +kernel
theorem dX12_feed_37 : decode cX12_feed 37 = .ok (.iload 5, 2) := by decide +kernel
theorem dX12_feed_39 : decode cX12_feed 39 = .ok (.invokevirtual 276, 3) := by decide +kernel
theorem dX12_feed_42 : decode cX12_feed 42 = .ok (.aload_n 0, 1) := by decide +kernel
theorem dX12_feed_43 : decode cX12_feed 43 = .ok (.getfield 273, 3) := by decide +kernel
theorem dX12_feed_46 : decode cX12_feed 46 = .ok (.ireturn, 1) := by decide +kernel

theorem dX12_foretold_0 : decode cX12_foretold 0 = .ok (.iload_n 1, 1) := by decide +kernel
theorem dX12_foretold_1 : decode cX12_foretold 1 = .ok (.iload_n 2, 1) := by decide +kernel
theorem dX12_foretold_2 : decode cX12_foretold 2 = .ok (.invokestatic 195, 3) := by decide +kernel
theorem dX12_foretold_5 : decode cX12_foretold 5 = .ok (.ifCond .eq 12, 3) := by decide +kernel
theorem dX12_foretold_8 : decode cX12_foretold 8 = .ok (.iload_n 3, 1) := by decide +kernel
theorem dX12_foretold_9 : decode cX12_foretold 9 = .ok (.iconst 0, 1) := by decide +kernel
theorem dX12_foretold_10 : decode cX12_foretold 10 = .ok (.iconst 1, 1) := by decide +kernel
theorem dX12_foretold_11 : decode cX12_foretold 11 = .ok (.invokestatic 136, 3) := by decide +kernel
theorem dX12_foretold_14 : decode cX12_foretold 14 = .ok (.ifCond .ne 5, 3) := by decide +kernel
theorem dX12_foretold_17 : decode cX12_foretold 17 = .ok (.iconst (-1), 1) := by decide +kernel
theorem dX12_foretold_18 : decode cX12_foretold 18 = .ok (.ireturn, 1) := by decide +kernel
theorem dX12_foretold_19 : decode cX12_foretold 19 = .ok (.bipush 11, 2) := by decide +kernel
theorem dX12_foretold_21 : decode cX12_foretold 21 = .ok (.iload_n 1, 1) := by decide +kernel
theorem dX12_foretold_22 : decode cX12_foretold 22 = .ok (.ineg, 1) := by decide +kernel
theorem dX12_foretold_23 : decode cX12_foretold 23 = .ok (.invokestatic 202, 3) := by decide +kernel
theorem dX12_foretold_26 : decode cX12_foretold 26 = .ok (.imul, 1) := by decide +kernel
theorem dX12_foretold_27 : decode cX12_foretold 27 = .ok (.iload_n 2, 1) := by decide +kernel
theorem dX12_foretold_28 : decode cX12_foretold 28 = .ok (.invokestatic 202, 3) := by decide +kernel
theorem dX12_foretold_31 : decode cX12_foretold 31 = .ok (.iadd, 1) := by decide +kernel
theorem dX12_foretold_32 : decode cX12_foretold 32 = .ok (.istore 4, 2) := by decide +kernel
theorem dX12_foretold_34 : decode cX12_foretold 34 = .ok (.aload_n 0, 1) := by decide +kernel
theorem dX12_foretold_35 : decode cX12_foretold 35 = .ok (.getfield 59, 3) := by decide +kernel
theorem dX12_foretold_38 : decode cX12_foretold 38 = .ok (.iload 4, 2) := by decide +kernel
theorem dX12_foretold_40 : decode cX12_foretold 40 = .ok (.iaload, 1) := by decide +kernel
theorem dX12_foretold_41 : decode cX12_foretold 41 = .ok (.ifCond .ne 5, 3) := by decide +kernel
theorem dX12_foretold_44 : decode cX12_foretold 44 = .ok (.iconst (-1), 1) := by decide +kernel
theorem dX12_foretold_45 : decode cX12_foretold 45 = .ok (.ireturn, 1) := by decide +kernel
theorem dX12_foretold_46 : decode cX12_foretold 46 = .ok (.aload_n 0, 1) := by decide +kernel
theorem dX12_foretold_47 : decode cX12_foretold 47 = .ok (.getfield 56, 3) := by decide +kernel
theorem dX12_foretold_50 : decode cX12_foretold 50 = .ok (.iload 4, 2) := by decide +kernel
theorem dX12_foretold_52 : decode cX12_foretold 52 = .ok (.iaload, 1) := by decide +kernel
theorem dX12_foretold_53 : decode cX12_foretold 53 = .ok (.aload_n 0, 1) := by decide +kernel
theorem dX12_foretold_54 : decode cX12_foretold 54 = .ok (.getfield 59, 3) := by decide +kernel
theorem dX12_foretold_57 : decode cX12_foretold 57 = .ok (.iload 4, 2) := by decide +kernel
theorem dX12_foretold_59 : decode cX12_foretold 59 = .ok (.iaload, 1) := by decide +kernel
theorem dX12_foretold_60 : decode cX12_foretold 60 = .ok (.invokestatic 239, 3) := by decide +kernel
theorem dX12_foretold_63 : decode cX12_foretold 63 = .ok (.istore 5, 2) := by decide +kernel
theorem dX12_foretold_65 : decode cX12_foretold 65 = .ok (.iload_n 3, 1) := by decide +kernel
theorem dX12_foretold_66 : decode cX12_foretold 66 = .ok (.ifCond .ne 16, 3) := by decide +kernel
theorem dX12_foretold_69 : decode cX12_foretold 69 = .ok (.aload_n 0, 1) := by decide +kernel
theorem dX12_foretold_70 : decode cX12_foretold 70 = .ok (.getfield 56, 3) := by decide +kernel
theorem dX12_foretold_73 : decode cX12_foretold 73 = .ok (.iload 4, 2) := by decide +kernel
theorem dX12_foretold_75 : decode cX12_foretold 75 = .ok (.iaload, 1) := by decide +kernel
theorem dX12_foretold_76 : decode cX12_foretold 76 = .ok (.iload 5, 2) := by decide +kernel
theorem dX12_foretold_78 : decode cX12_foretold 78 = .ok (.idiv, 1) := by decide +kernel
theorem dX12_foretold_79 : decode cX12_foretold 79 = .ok (.goto 13, 3) := by decide +kernel
theorem dX12_foretold_82 : decode cX12_foretold 82 = .ok (.aload_n 0, 1) := by decide +kernel
theorem dX12_foretold_83 : decode cX12_foretold 83 = .ok (.getfield 59, 3) := by decide +kernel
theorem dX12_foretold_86 : decode cX12_foretold 86 = .ok (.iload 4, 2) := by decide +kernel
theorem dX12_foretold_88 : decode cX12_foretold 88 = .ok (.iaload, 1) := by decide +kernel
theorem dX12_foretold_89 : decode cX12_foretold 89 = .ok (.iload 5, 2) := by decide +kernel
theorem dX12_foretold_91 : decode cX12_foretold 91 = .ok (.idiv, 1) := by decide +kernel
theorem dX12_foretold_92 : decode cX12_foretold 92 = .ok (.ireturn, 1) := by decide +kernel

theorem dX12_four_0 : decode cX12_four 0 = .ok (.bipush 24, 2) := by decide +kernel
theorem dX12_four_2 : decode cX12_four 2 = .ok (.istore_n 2, 1) := by decide +kernel
theorem dX12_four_3 : decode cX12_four 3 = .ok (.iload_n 2, 1) := by decide +kernel
theorem dX12_four_4 : decode cX12_four 4 = .ok (.ifCond .lt 32, 3) := by decide +kernel
theorem dX12_four_7 : decode cX12_four 7 = .ok (.aload_n 0, 1) := by decide +kernel
theorem dX12_four_8 : decode cX12_four 8 = .ok (.getfield 84, 3) := by decide +kernel
theorem dX12_four_11 : decode cX12_four 11 = .ok (.aload_n 0, 1) := by decide +kernel
theorem dX12_four_12 : decode cX12_four 12 = .ok (.getfield 273, 3) := by decide +kernel
theorem dX12_four_15 : decode cX12_four 15 = .ok (.iload_n 1, 1) := by decide +kernel
theorem dX12_four_16 : decode cX12_four 16 = .ok (.iload_n 2, 1) := by decide +kernel
theorem dX12_four_17 : decode cX12_four 17 = .ok (.ishr, 1) := by decide +kernel
theorem dX12_four_18 : decode cX12_four 18 = .ok (.i2b, 1) := by decide +kernel
theorem dX12_four_19 : decode cX12_four 19 = .ok (.bastore, 1) := by decide +kernel
theorem dX12_four_20 : decode cX12_four 20 = .ok (.aload_n 0, 1) := by decide +kernel
theorem dX12_four_21 : decode cX12_four 21 = .ok (.dup, 1) := by decide +kernel
theorem dX12_four_22 : decode cX12_four 22 = .ok (.getfield 273, 3) := by decide +kernel
theorem dX12_four_25 : decode cX12_four 25 = .ok (.iconst 1, 1) := by decide +kernel
theorem dX12_four_26 : decode cX12_four 26 = .ok (.iadd, 1) := by decide +kernel
theorem dX12_four_27 : decode cX12_four 27 = .ok (.putfield 273, 3) := by decide +kernel
theorem dX12_four_30 : decode cX12_four 30 = .ok (.iinc 2 (-8), 3) := by decide +kernel
theorem dX12_four_33 : decode cX12_four 33 = .ok (.goto (-30), 3) := by decide +kernel
theorem dX12_four_36 : decode cX12_four 36 = .ok (.return_, 1) := by decide +kernel

theorem dX12_gauge_0 : decode cX12_gauge 0 = .ok (.aload_n 0, 1) := by decide +kernel
theorem dX12_gauge_1 : decode cX12_gauge 1 = .ok (.iload_n 1, 1) := by decide +kernel
theorem dX12_gauge_2 : decode cX12_gauge 2 = .ok (.invokevirtual 152, 3) := by decide +kernel
theorem dX12_gauge_5 : decode cX12_gauge 5 = .ok (.ifCond .eq 13, 3) := by decide +kernel
theorem dX12_gauge_8 : decode cX12_gauge 8 = .ok (.iload_n 2, 1) := by decide +kernel
theorem dX12_gauge_9 : decode cX12_gauge 9 = .ok (.iconst (-1), 1) := by decide +kernel
theorem dX12_gauge_10 : decode cX12_gauge 10 = .ok (.bipush 100, 2) := by decide +kernel
theorem dX12_gauge_12 : decode cX12_gauge 12 = .ok (.invokestatic 136, 3) := by decide +kernel
theorem dX12_gauge_15 : decode cX12_gauge 15 = .ok (.ifCond .ne 5, 3) := by decide +kernel
theorem dX12_gauge_18 : decode cX12_gauge 18 = .ok (.iconst 0, 1) := by decide +kernel
theorem dX12_gauge_19 : decode cX12_gauge 19 = .ok (.ireturn, 1) := by decide +kernel
theorem dX12_gauge_20 : decode cX12_gauge 20 = .ok (.aload_n 0, 1) := by decide +kernel
theorem dX12_gauge_21 : decode cX12_gauge 21 = .ok (.getfield 29, 3) := by decide +kernel
theorem dX12_gauge_24 : decode cX12_gauge 24 = .ok (.iload_n 1, 1) := by decide +kernel
theorem dX12_gauge_25 : decode cX12_gauge 25 = .ok (.iload_n 2, 1) := by decide +kernel
theorem dX12_gauge_26 : decode cX12_gauge 26 = .ok (.iastore, 1) := by decide +kernel
theorem dX12_gauge_27 : decode cX12_gauge 27 = .ok (.iconst 1, 1) := by decide +kernel
theorem dX12_gauge_28 : decode cX12_gauge 28 = .ok (.ireturn, 1) := by decide +kernel

theorem dX12_held_0 : decode cX12_held 0 = .ok (.iconst 0, 1) := by decide +kernel
theorem dX12_held_1 : decode cX12_held 1 = .ok (.bipush 10, 2) := by decide +kernel
theorem dX12_held_3 : decode cX12_held 3 = .ok (.iload_n 0, 1) := by decide +kernel
theorem dX12_held_4 : decode cX12_held 4 = .ok (.invokestatic 188, 3) := by decide +kernel
theorem dX12_held_7 : decode cX12_held 7 = .ok (.invokestatic 146, 3) := by decide +kernel
theorem dX12_held_10 : decode cX12_held 10 = .ok (.ireturn, 1) := by decide +kernel

theorem dX12_init_0 : decode cX12_init 0 = .ok (.aload_n 0, 1) := by decide +kernel
theorem dX12_init_1 : decode cX12_init 1 = .ok (.invokespecial 1, 3) := by decide +kernel
theorem dX12_init_4 : decode cX12_init 4 = .ok (.aload_n 0, 1) := by decide +kernel
theorem dX12_init_5 : decode cX12_init 5 = .ok (.iconst 1, 1) := by decide +kernel
theorem dX12_init_6 : decode cX12_init 6 = .ok (.putfield 7, 3) := by decide +kernel
theorem dX12_init_9 : decode cX12_init 9 = .ok (.aload_n 0, 1) := by decide +kernel
theorem dX12_init_10 : decode cX12_init 10 = .ok (.bipush 40, 2) := by decide +kernel
theorem dX12_init_12 : decode cX12_init 12 = .ok (.newarray .int, 2) := by decide +kernel
theorem dX12_init_14 : decode cX12_init 14 = .ok (.putfield 13, 3) := by decide +kernel
theorem dX12_init_17 : decode cX12_init 17 = .ok (.aload_n 0, 1) := by decide +kernel
theorem dX12_init_18 : decode cX12_init 18 = .ok (.bipush 40, 2) := by decide +kernel
theorem dX12_init_20 : decode cX12_init 20 = .ok (.newarray .int, 2) := by decide +kernel
theorem dX12_init_22 : decode cX12_init 22 = .ok (.putfield 17, 3) := by decide +kernel
theorem dX12_init_25 : decode cX12_init 25 = .ok (.aload_n 0, 1) := by decide +kernel
theorem dX12_init_26 : decode cX12_init 26 = .ok (.bipush 40, 2) := by decide +kernel
theorem dX12_init_28 : decode cX12_init 28 = .ok (.newarray .int, 2) := by decide +kernel
theorem dX12_init_30 : decode cX12_init 30 = .ok (.putfield 20, 3) := by decide +kernel
theorem dX12_init_33 : decode cX12_init 33 = .ok (.aload_n 0, 1) := by decide +kernel
theorem dX12_init_34 : decode cX12_init 34 = .ok (.bipush 40, 2) := by decide +kernel
theorem dX12_init_36 : decode cX12_init 36 = .ok (.newarray .int, 2) := by decide +kernel
theorem dX12_init_38 : decode cX12_init 38 = .ok (.putfield 23, 3) := by decide +kernel
theorem dX12_init_41 : decode cX12_init 41 = .ok (.aload_n 0, 1) := by decide +kernel
theorem dX12_init_42 : decode cX12_init 42 = .ok (.bipush 40, 2) := by decide +kernel
theorem dX12_init_44 : decode cX12_init 44 = .ok (.newarray .int, 2) := by decide +kernel
theorem dX12_init_46 : decode cX12_init 46 = .ok (.putfield 26, 3) := by decide +kernel
theorem dX12_init_49 : decode cX12_init 49 = .ok (.aload_n 0, 1) := by decide +kernel
theorem dX12_init_50 : decode cX12_init 50 = .ok (.bipush 40, 2) := by decide +kernel
theorem dX12_init_52 : decode cX12_init 52 = .ok (.newarray .int, 2) := by decide +kernel
theorem dX12_init_54 : decode cX12_init 54 = .ok (.putfield 29, 3) := by decide +kernel
theorem dX12_init_57 : decode cX12_init 57 = .ok (.aload_n 0, 1) := by decide +kernel
theorem dX12_init_58 : decode cX12_init 58 = .ok (.bipush 60, 2) := by decide +kernel
theorem dX12_init_60 : decode cX12_init 60 = .ok (.newarray .int, 2) := by decide +kernel
theorem dX12_init_62 : decode cX12_init 62 = .ok (.putfield 32, 3) := by decide +kernel
theorem dX12_init_65 : decode cX12_init 65 = .ok (.aload_n 0, 1) := by decide +kernel
theorem dX12_init_66 : decode cX12_init 66 = .ok (.bipush 60, 2) := by decide +kernel
theorem dX12_init_68 : decode cX12_init 68 = .ok (.newarray .int, 2) := by decide +kernel
theorem dX12_init_70 : decode cX12_init 70 = .ok (.putfield 35, 3) := by decide +kernel
theorem dX12_init_73 : decode cX12_init 73 = .ok (.aload_n 0, 1) := by decide +kernel
theorem dX12_init_74 : decode cX12_init 74 = .ok (.bipush 60, 2) := by decide +kernel
theorem dX12_init_76 : decode cX12_init 76 = .ok (.newarray .int, 2) := by decide +kernel
theorem dX12_init_78 : decode cX12_init 78 = .ok (.putfield 38, 3) := by decide +kernel
theorem dX12_init_81 : decode cX12_init 81 = .ok (.aload_n 0, 1) := by decide +kernel
theorem dX12_init_82 : decode cX12_init 82 = .ok (.sipush 300, 3) := by decide +kernel
theorem dX12_init_85 : decode cX12_init 85 = .ok (.newarray .int, 2) := by decide +kernel
theorem dX12_init_87 : decode cX12_init 87 = .ok (.putfield 41, 3) := by decide +kernel
theorem dX12_init_90 : decode cX12_init 90 = .ok (.aload_n 0, 1) := by decide +kernel
theorem dX12_init_91 : decode cX12_init 91 = .ok (.sipush 300, 3) := by decide +kernel
theorem dX12_init_94 : decode cX12_init 94 = .ok (.newarray .int, 2) := by decide +kernel
theorem dX12_init_96 : decode cX12_init 96 = .ok (.putfield 44, 3) := by decide +kernel
theorem dX12_init_99 : decode cX12_init 99 = .ok (.aload_n 0, 1) := by decide +kernel
theorem dX12_init_100 : decode cX12_init 100 = .ok (.sipush 300, 3) := by decide +kernel
theorem dX12_init_103 : decode cX12_init 103 = .ok (.newarray .int, 2) := by decide +kernel
theorem dX12_init_105 : decode cX12_init 105 = .ok (.putfield 47, 3) := by decide +kernel
theorem dX12_init_108 : decode cX12_init 108 = .ok (.aload_n 0, 1) := by decide +kernel
theorem dX12_init_109 : decode cX12_init 109 = .ok (.bipush 10, 2) := by decide +kernel
theorem dX12_init_111 : decode cX12_init 111 = .ok (.newarray .int, 2) := by decide +kernel
theorem dX12_init_113 : decode cX12_init 113 = .ok (.putfield 50, 3) := by decide +kernel
theorem dX12_init_116 : decode cX12_init 116 = .ok (.aload_n 0, 1) := by decide +kernel
theorem dX12_init_117 : decode cX12_init 117 = .ok (.bipush 10, 2) := by decide +kernel
theorem dX12_init_119 : decode cX12_init 119 = .ok (.newarray .int, 2) := by decide +kernel
theorem dX12_init_121 : decode cX12_init 121 = .ok (.putfield 53, 3) := by decide +kernel
theorem dX12_init_124 : decode cX12_init 124 = .ok (.aload_n 0, 1) := by decide +kernel
theorem dX12_init_125 : decode cX12_init 125 = .ok (.bipush 121, 2) := by decide +kernel
theorem dX12_init_127 : decode cX12_init 127 = .ok (.newarray .int, 2) := by decide +kernel
theorem dX12_init_129 : decode cX12_init 129 = .ok (.putfield 56, 3) := by decide +kernel
theorem dX12_init_132 : decode cX12_init 132 = .ok (.aload_n 0, 1) := by decide +kernel
theorem dX12_init_133 : decode cX12_init 133 = .ok (.bipush 121, 2) := by decide +kernel
theorem dX12_init_135 : decode cX12_init 135 = .ok (.newarray .int, 2) := by decide +kernel
theorem dX12_init_137 : decode cX12_init 137 = .ok (.putfield 59, 3) := by decide +kernel
theorem dX12_init_140 : decode cX12_init 140 = .ok (.aload_n 0, 1) := by decide +kernel
theorem dX12_init_141 : decode cX12_init 141 = .ok (.bipush 60, 2) := by decide +kernel
theorem dX12_init_143 : decode cX12_init 143 = .ok (.newarray .int, 2) := by decide +kernel
theorem dX12_init_145 : decode cX12_init 145 = .ok (.putfield 62, 3) := by decide +kernel
theorem dX12_init_148 : decode cX12_init 148 = .ok (.aload_n 0, 1) := by decide +kernel
theorem dX12_init_149 : decode cX12_init 149 = .ok (.bipush 60, 2) := by decide +kernel
theorem dX12_init_151 : decode cX12_init 151 = .ok (.newarray .int, 2) := by decide +kernel
theorem dX12_init_153 : decode cX12_init 153 = .ok (.putfield 65, 3) := by decide +kernel
theorem dX12_init_156 : decode cX12_init 156 = .ok (.aload_n 0, 1) := by decide +kernel
theorem dX12_init_157 : decode cX12_init 157 = .ok (.bipush 60, 2) := by decide +kernel
theorem dX12_init_159 : decode cX12_init 159 = .ok (.newarray .int, 2) := by decide +kernel
theorem dX12_init_161 : decode cX12_init 161 = .ok (.putfield 68, 3) := by decide +kernel
theorem dX12_init_164 : decode cX12_init 164 = .ok (.aload_n 0, 1) := by decide +kernel
theorem dX12_init_165 : decode cX12_init 165 = .ok (.bipush 60, 2) := by decide +kernel
theorem dX12_init_167 : decode cX12_init 167 = .ok (.newarray .int, 2) := by decide +kernel
theorem dX12_init_169 : decode cX12_init 169 = .ok (.putfield 71, 3) := by decide +kernel
theorem dX12_init_172 : decode cX12_init 172 = .ok (.aload_n 0, 1) := by decide +kernel
theorem dX12_init_173 : decode cX12_init 173 = .ok (.bipush 120, 2) := by decide +kernel
theorem dX12_init_175 : decode cX12_init 175 = .ok (.newarray .int, 2) := by decide +kernel
theorem dX12_init_177 : decode cX12_init 177 = .ok (.putfield 74, 3) := by decide +kernel
theorem dX12_init_180 : decode cX12_init 180 = .ok (.aload_n 0, 1) := by decide +kernel
theorem dX12_init_181 : decode cX12_init 181 = .ok (.bipush 60, 2) := by decide +kernel
theorem dX12_init_183 : decode cX12_init 183 = .ok (.newarray .boolean, 2) := by decide +kernel
theorem dX12_init_185 : decode cX12_init 185 = .ok (.putfield 77, 3) := by decide +kernel
theorem dX12_init_188 : decode cX12_init 188 = .ok (.aload_n 0, 1) := by decide +kernel
theorem dX12_init_189 : decode cX12_init 189 = .ok (.bipush 10, 2) := by decide +kernel
theorem dX12_init_191 : decode cX12_init 191 = .ok (.newarray .boolean, 2) := by decide +kernel
theorem dX12_init_193 : decode cX12_init 193 = .ok (.putfield 81, 3) := by decide +kernel
theorem dX12_init_196 : decode cX12_init 196 = .ok (.aload_n 0, 1) := by decide +kernel
theorem dX12_init_197 : decode cX12_init 197 = .ok (.sipush 600, 3) := by decide +kernel
theorem dX12_init_200 : decode cX12_init 200 = .ok (.newarray .byte, 2) := by decide +kernel
theorem dX12_init_202 : decode cX12_init 202 = .ok (.putfield 84, 3) := by decide +kernel
theorem dX12_init_205 : decode cX12_init 205 = .ok (.aload_n 0, 1) := by decide +kernel
theorem dX12_init_206 : decode cX12_init 206 = .ok (.sipush 600, 3) := by decide +kernel
theorem dX12_init_209 : decode cX12_init 209 = .ok (.newarray .byte, 2) := by decide +kernel
theorem dX12_init_211 : decode cX12_init 211 = .ok (.putfield 88, 3) := by decide +kernel
theorem dX12_init_214 : decode cX12_init 214 = .ok (.aload_n 0, 1) := by decide +kernel
theorem dX12_init_215 : decode cX12_init 215 = .ok (.iconst (-1), 1) := by decide +kernel
theorem dX12_init_216 : decode cX12_init 216 = .ok (.putfield 91, 3) := by decide +kernel
theorem dX12_init_219 : decode cX12_init 219 = .ok (.aload_n 0, 1) := by decide +kernel
theorem dX12_init_220 : decode cX12_init 220 = .ok (.bipush 16, 2) := by decide +kernel
theorem dX12_init_222 : decode cX12_init 222 = .ok (.newarray .boolean, 2) := by decide +kernel
theorem dX12_init_224 : decode cX12_init 224 = .ok (.putfield 94, 3) := by decide +kernel
theorem dX12_init_227 : decode cX12_init 227 = .ok (.aload_n 0, 1) := by decide +kernel
theorem dX12_init_228 : decode cX12_init 228 = .ok (.bipush 16, 2) := by decide +kernel
theorem dX12_init_230 : decode cX12_init 230 = .ok (.newarray .boolean, 2) := by decide +kernel
theorem dX12_init_232 : decode cX12_init 232 = .ok (.putfield 97, 3) := by decide +kernel
theorem dX12_init_235 : decode cX12_init 235 = .ok (.aload_n 0, 1) := by decide +kernel
theorem dX12_init_236 : decode cX12_init 236 = .ok (.bipush 16, 2) := by decide +kernel
theorem dX12_init_238 : decode cX12_init 238 = .ok (.newarray .int, 2) := by decide +kernel
theorem dX12_init_240 : decode cX12_init 240 = .ok (.putfield 100, 3) := by decide +kernel
theorem dX12_init_243 : decode cX12_init 243 = .ok (.aload_n 0, 1) := by decide +kernel
theorem dX12_init_244 : decode cX12_init 244 = .ok (.bipush 16, 2) := by decide +kernel
theorem dX12_init_246 : decode cX12_init 246 = .ok (.newarray .int, 2) := by decide +kernel
theorem dX12_init_248 : decode cX12_init 248 = .ok (.putfield 103, 3) := by decide +kernel
theorem dX12_init_251 : decode cX12_init 251 = .ok (.aload_n 0, 1) := by decide +kernel
theorem dX12_init_252 : decode cX12_init 252 = .ok (.bipush 16, 2) := by decide +kernel
theorem dX12_init_254 : decode cX12_init 254 = .ok (.newarray .int, 2) := by decide +kernel
theorem dX12_init_256 : decode cX12_init 256 = .ok (.putfield 106, 3) := by decide +kernel
theorem dX12_init_259 : decode cX12_init 259 = .ok (.aload_n 0, 1) := by decide +kernel
theorem dX12_init_260 : decode cX12_init 260 = .ok (.bipush 48, 2) := by decide +kernel
theorem dX12_init_262 : decode cX12_init 262 = .ok (.newarray .int, 2) := by decide +kernel
theorem dX12_init_264 : decode cX12_init 264 = .ok (.putfield 109, 3) := by decide +kernel
theorem dX12_init_267 : decode cX12_init 267 = .ok (.aload_n 0, 1) := by decide +kernel
theorem dX12_init_268 : decode cX12_init 268 = .ok (.bipush 48, 2) := by decide +kernel
theorem dX12_init_270 : decode cX12_init 270 = .ok (.newarray .int, 2) := by decide +kernel
theorem dX12_init_272 : decode cX12_init 272 = .ok (.putfield 112, 3) := by decide +kernel
theorem dX12_init_275 : decode cX12_init 275 = .ok (.aload_n 0, 1) := by decide +kernel
theorem dX12_init_276 : decode cX12_init 276 = .ok (.bipush 48, 2) := by decide +kernel
theorem dX12_init_278 : decode cX12_init 278 = .ok (.newarray .int, 2) := by decide +kernel
theorem dX12_init_280 : decode cX12_init 280 = .ok (.putfield 115, 3) := by decide +kernel
theorem dX12_init_283 : decode cX12_init 283 = .ok (.aload_n 0, 1) := by decide +kernel
theorem dX12_init_284 : decode cX12_init 284 = .ok (.bipush 16, 2) := by decide +kernel
theorem dX12_init_286 : decode cX12_init 286 = .ok (.newarray .int, 2) := by decide +kernel
theorem dX12_init_288 : decode cX12_init 288 = .ok (.putfield 118, 3) := by decide +kernel
theorem dX12_init_291 : decode cX12_init 291 = .ok (.aload_n 0, 1) := by decide +kernel
theorem dX12_init_292 : decode cX12_init 292 = .ok (.bipush 16, 2) := by decide +kernel
theorem dX12_init_294 : decode cX12_init 294 = .ok (.newarray .int, 2) := by decide +kernel
theorem dX12_init_296 : decode cX12_init 296 = .ok (.putfield 121, 3) := by decide +kernel
theorem dX12_init_299 : decode cX12_init 299 = .ok (.aload_n 0, 1) := by decide +kernel
theorem dX12_init_300 : decode cX12_init 300 = .ok (.bipush 16, 2) := by decide +kernel
theorem dX12_init_302 : decode cX12_init 302 = .ok (.newarray .int, 2) := by decide +kernel
theorem dX12_init_304 : decode cX12_init 304 = .ok (.putfield 124, 3) := by decide +kernel
theorem dX12_init_307 : decode cX12_init 307 = .ok (.aload_n 0, 1) := by decide +kernel
theorem dX12_init_308 : decode cX12_init 308 = .ok (.bipush 48, 2) := by decide +kernel
theorem dX12_init_310 : decode cX12_init 310 = .ok (.newarray .int, 2) := by decide +kernel
theorem dX12_init_312 : decode cX12_init 312 = .ok (.putfield 127, 3) := by decide +kernel
theorem dX12_init_315 : decode cX12_init 315 = .ok (.aload_n 0, 1) := by decide +kernel
theorem dX12_init_316 : decode cX12_init 316 = .ok (.bipush 48, 2) := by decide +kernel
theorem dX12_init_318 : decode cX12_init 318 = .ok (.newarray .int, 2) := by decide +kernel
theorem dX12_init_320 : decode cX12_init 320 = .ok (.putfield 130, 3) := by decide +kernel
theorem dX12_init_323 : decode cX12_init 323 = .ok (.aload_n 0, 1) := by decide +kernel
theorem dX12_init_324 : decode cX12_init 324 = .ok (.bipush 48, 2) := by decide +kernel
theorem dX12_init_326 : decode cX12_init 326 = .ok (.newarray .int, 2) := by decide +kernel
theorem dX12_init_328 : decode cX12_init 328 = .ok (.putfield 133, 3) := by decide +kernel
theorem dX12_init_331 : decode cX12_init 331 = .ok (.iconst 0, 1) := by decide +kernel
theorem dX12_init_332 : decode cX12_init 332 = .ok (.istore_n 1, 1) := by decide +kernel
theorem dX12_init_333 : decode cX12_init 333 = .ok (.iload_n 1, 1) := by decide +kernel
theorem dX12_init_334 : decode cX12_init 334 = .ok (.bipush 40, 2) := by decide +kernel
theorem dX12_init_336 : decode cX12_init 336 = .ok (.if_icmp .ge 16, 3) := by decide +kernel
theorem dX12_init_339 : decode cX12_init 339 = .ok (.aload_n 0, 1) := by decide +kernel
theorem dX12_init_340 : decode cX12_init 340 = .ok (.getfield 29, 3) := by decide +kernel
theorem dX12_init_343 : decode cX12_init 343 = .ok (.iload_n 1, 1) := by decide +kernel
theorem dX12_init_344 : decode cX12_init 344 = .ok (.iconst (-1), 1) := by decide +kernel
theorem dX12_init_345 : decode cX12_init 345 = .ok (.iastore, 1) := by decide +kernel
theorem dX12_init_346 : decode cX12_init 346 = .ok (.iinc 1 1, 3) := by decide +kernel
theorem dX12_init_349 : decode cX12_init 349 = .ok (.goto (-16), 3) := by decide +kernel
theorem dX12_init_352 : decode cX12_init 352 = .ok (.return_, 1) := by decide +kernel

theorem dX12_isBatch_0 : decode cX12_isBatch 0 = .ok (.iload_n 1, 1) := by decide +kernel
theorem dX12_isBatch_1 : decode cX12_isBatch 1 = .ok (.iconst 0, 1) := by decide +kernel
theorem dX12_isBatch_2 : decode cX12_isBatch 2 = .ok (.aload_n 0, 1) := by decide +kernel
theorem dX12_isBatch_3 : decode cX12_isBatch 3 = .ok (.getfield 261, 3) := by decide +kernel
theorem dX12_isBatch_6 : decode cX12_isBatch 6 = .ok (.iconst 1, 1) := by decide +kernel
theorem dX12_isBatch_7 : decode cX12_isBatch 7 = .ok (.isub, 1) := by decide +kernel
theorem dX12_isBatch_8 : decode cX12_isBatch 8 = .ok (.invokestatic 136, 3) := by decide +kernel
theorem dX12_isBatch_11 : decode cX12_isBatch 11 = .ok (.ireturn, 1) := by decide +kernel

theorem dX12_isIn_0 : decode cX12_isIn 0 = .ok (.iload_n 0, 1) := by decide +kernel
theorem dX12_isIn_1 : decode cX12_isIn 1 = .ok (.iload_n 1, 1) := by decide +kernel
theorem dX12_isIn_2 : decode cX12_isIn 2 = .ok (.if_icmp .lt 12, 3) := by decide +kernel
theorem dX12_isIn_5 : decode cX12_isIn 5 = .ok (.iload_n 0, 1) := by decide +kernel
theorem dX12_isIn_6 : decode cX12_isIn 6 = .ok (.iload_n 2, 1) := by decide +kernel
theorem dX12_isIn_7 : decode cX12_isIn 7 = .ok (.if_icmp .gt 7, 3) := by decide +kernel
theorem dX12_isIn_10 : decode cX12_isIn 10 = .ok (.iconst 1, 1) := by decide +kernel
theorem dX12_isIn_11 : decode cX12_isIn 11 = .ok (.goto 4, 3) := by decide +kernel
theorem dX12_isIn_14 : decode cX12_isIn 14 = .ok (.iconst 0, 1) := by decide +kernel
theorem dX12_isIn_15 : decode cX12_isIn 15 = .ok (.ireturn, 1) := by decide +kernel

theorem dX12_isNode_0 : decode cX12_isNode 0 = .ok (.iload_n 1, 1) := by decide +kernel
theorem dX12_isNode_1 : decode cX12_isNode 1 = .ok (.iconst 1, 1) := by decide +kernel
theorem dX12_isNode_2 : decode cX12_isNode 2 = .ok (.aload_n 0, 1) := by decide +kernel
theorem dX12_isNode_3 : decode cX12_isNode 3 = .ok (.getfield 7, 3) := by decide +kernel
theorem dX12_isNode_6 : decode cX12_isNode 6 = .ok (.iconst 1, 1) := by decide +kernel
theorem dX12_isNode_7 : decode cX12_isNode 7 = .ok (.isub, 1) := by decide +kernel
theorem dX12_isNode_8 : decode cX12_isNode 8 = .ok (.invokestatic 136, 3) := by decide +kernel
theorem dX12_isNode_11 : decode cX12_isNode 11 = .ok (.ireturn, 1) := by decide +kernel

theorem dX12_isTree_0 : decode cX12_isTree 0 = .ok (.iload_n 1, 1) := by decide +kernel
theorem dX12_isTree_1 : decode cX12_isTree 1 = .ok (.iconst 0, 1) := by decide +kernel
theorem dX12_isTree_2 : decode cX12_isTree 2 = .ok (.aload_n 0, 1) := by decide +kernel
theorem dX12_isTree_3 : decode cX12_isTree 3 = .ok (.getfield 140, 3) := by decide +kernel
theorem dX12_isTree_6 : decode cX12_isTree 6 = .ok (.iconst 1, 1) := by decide +kernel
theorem dX12_isTree_7 : decode cX12_isTree 7 = .ok (.isub, 1) := by decide +kernel
theorem dX12_isTree_8 : decode cX12_isTree 8 = .ok (.invokestatic 136, 3) := by decide +kernel
theorem dX12_isTree_11 : decode cX12_isTree 11 = .ok (.ireturn, 1) := by decide +kernel

theorem dX12_isWeather_0 : decode cX12_isWeather 0 = .ok (.iload_n 0, 1) := by decide +kernel
theorem dX12_isWeather_1 : decode cX12_isWeather 1 = .ok (.bipush (-30), 2) := by decide +kernel
theorem dX12_isWeather_3 : decode cX12_isWeather 3 = .ok (.bipush 30, 2) := by decide +kernel
theorem dX12_isWeather_5 : decode cX12_isWeather 5 = .ok (.invokestatic 136, 3) := by decide +kernel
theorem dX12_isWeather_8 : decode cX12_isWeather 8 = .ok (.ifCond .eq 23, 3) := by decide +kernel
theorem dX12_isWeather_11 : decode cX12_isWeather 11 = .ok (.iload_n 1, 1) := by decide +kernel
theorem dX12_isWeather_12 : decode cX12_isWeather 12 = .ok (.bipush (-30), 2) := by decide +kernel
theorem dX12_isWeather_14 : decode cX12_isWeather 14 = .ok (.bipush 40, 2) := by decide +kernel
theorem dX12_isWeather_16 : decode cX12_isWeather 16 = .ok (.invokestatic 136, 3) := by decide +kernel
theorem dX12_isWeather_19 : decode cX12_isWeather 19 = .ok (.ifCond .eq 12, 3) := by decide +kernel
theorem dX12_isWeather_22 : decode cX12_isWeather 22 = .ok (.iload_n 1, 1) := by decide +kernel
theorem dX12_isWeather_23 : decode cX12_isWeather 23 = .ok (.iload_n 0, 1) := by decide +kernel
theorem dX12_isWeather_24 : decode cX12_isWeather 24 = .ok (.if_icmp .lt 7, 3) := by decide +kernel
theorem dX12_isWeather_27 : decode cX12_isWeather 27 = .ok (.iconst 1, 1) := by decide +kernel
theorem dX12_isWeather_28 : decode cX12_isWeather 28 = .ok (.goto 4, 3) := by decide +kernel
theorem dX12_isWeather_31 : decode cX12_isWeather 31 = .ok (.iconst 0, 1) := by decide +kernel
theorem dX12_isWeather_32 : decode cX12_isWeather 32 = .ok (.ireturn, 1) := by decide +kernel

theorem dX12_leak_0 : decode cX12_leak 0 = .ok (.aload_n 0, 1) := by decide +kernel
theorem dX12_leak_1 : decode cX12_leak 1 = .ok (.iload_n 1, 1) := by decide +kernel
theorem dX12_leak_2 : decode cX12_leak 2 = .ok (.invokevirtual 152, 3) := by decide +kernel
theorem dX12_leak_5 : decode cX12_leak 5 = .ok (.ifCond .eq 13, 3) := by decide +kernel
theorem dX12_leak_8 : decode cX12_leak 8 = .ok (.iload_n 2, 1) := by decide +kernel
theorem dX12_leak_9 : decode cX12_leak 9 = .ok (.iconst 0, 1) := by decide +kernel
theorem dX12_leak_10 : decode cX12_leak 10 = .ok (.bipush 20, 2) := by decide +kernel
theorem dX12_leak_12 : decode cX12_leak 12 = .ok (.invokestatic 136, 3) := by decide +kernel
theorem dX12_leak_15 : decode cX12_leak 15 = .ok (.ifCond .ne 5, 3) := by decide +kernel
theorem dX12_leak_18 : decode cX12_leak 18 = .ok (.iconst 0, 1) := by decide +kernel
theorem dX12_leak_19 : decode cX12_leak 19 = .ok (.ireturn, 1) := by decide +kernel
theorem dX12_leak_20 : decode cX12_leak 20 = .ok (.aload_n 0, 1) := by decide +kernel
theorem dX12_leak_21 : decode cX12_leak 21 = .ok (.getfield 26, 3) := by decide +kernel
theorem dX12_leak_24 : decode cX12_leak 24 = .ok (.iload_n 1, 1) := by decide +kernel
theorem dX12_leak_25 : decode cX12_leak 25 = .ok (.iload_n 2, 1) := by decide +kernel
theorem dX12_leak_26 : decode cX12_leak 26 = .ok (.iastore, 1) := by decide +kernel
theorem dX12_leak_27 : decode cX12_leak 27 = .ok (.iconst 1, 1) := by decide +kernel
theorem dX12_leak_28 : decode cX12_leak 28 = .ok (.ireturn, 1) := by decide +kernel

theorem dX12_let_0 : decode cX12_let 0 = .ok (.iload_n 1, 1) := by decide +kernel
theorem dX12_let_1 : decode cX12_let 1 = .ok (.iconst 1, 1) := by decide +kernel
theorem dX12_let_2 : decode cX12_let 2 = .ok (.sipush 5000, 3) := by decide +kernel
theorem dX12_let_5 : decode cX12_let 5 = .ok (.invokestatic 136, 3) := by decide +kernel
theorem dX12_let_8 : decode cX12_let 8 = .ok (.ifCond .eq 23, 3) := by decide +kernel
theorem dX12_let_11 : decode cX12_let 11 = .ok (.iload_n 1, 1) := by decide +kernel
theorem dX12_let_12 : decode cX12_let 12 = .ok (.aload_n 0, 1) := by decide +kernel
theorem dX12_let_13 : decode cX12_let 13 = .ok (.getfield 214, 3) := by decide +kernel
theorem dX12_let_16 : decode cX12_let 16 = .ok (.if_icmp .gt 15, 3) := by decide +kernel
theorem dX12_let_19 : decode cX12_let 19 = .ok (.aload_n 0, 1) := by decide +kernel
theorem dX12_let_20 : decode cX12_let 20 = .ok (.getfield 220, 3) := by decide +kernel
theorem dX12_let_23 : decode cX12_let 23 = .ok (.iload_n 1, 1) := by decide +kernel
theorem dX12_let_24 : decode cX12_let 24 = .ok (.iadd, 1) := by decide +kernel
theorem dX12_let_25 : decode cX12_let 25 = .ok (.sipush 5000, 3) := by decide +kernel
theorem dX12_let_28 : decode cX12_let 28 = .ok (.if_icmp .le 5, 3) := by decide +kernel
theorem dX12_let_31 : decode cX12_let 31 = .ok (.iconst (-1), 1) := by decide +kernel
theorem dX12_let_32 : decode cX12_let 32 = .ok (.ireturn, 1) := by decide +kernel
theorem dX12_let_33 : decode cX12_let 33 = .ok (.aload_n 0, 1) := by decide +kernel
theorem dX12_let_34 : decode cX12_let 34 = .ok (.dup, 1) := by decide +kernel
theorem dX12_let_35 : decode cX12_let 35 = .ok (.getfield 214, 3) := by decide +kernel
theorem dX12_let_38 : decode cX12_let 38 = .ok (.iload_n 1, 1) := by decide +kernel
theorem dX12_let_39 : decode cX12_let 39 = .ok (.isub, 1) := by decide +kernel
theorem dX12_let_40 : decode cX12_let 40 = .ok (.putfield 214, 3) := by decide +kernel
theorem dX12_let_43 : decode cX12_let 43 = .ok (.aload_n 0, 1) := by decide +kernel
theorem dX12_let_44 : decode cX12_let 44 = .ok (.dup, 1) := by decide +kernel
theorem dX12_let_45 : decode cX12_let 45 = .ok (.getfield 220, 3) := by decide +kernel
theorem dX12_let_48 : decode cX12_let 48 = .ok (.iload_n 1, 1) := by decide +kernel
theorem dX12_let_49 : decode cX12_let 49 = .ok (.iadd, 1) := by decide +kernel
theorem dX12_let_50 : decode cX12_let 50 = .ok (.putfield 220, 3) := by decide +kernel
theorem dX12_let_53 : decode cX12_let 53 = .ok (.aload_n 0, 1) := by decide +kernel
theorem dX12_let_54 : decode cX12_let 54 = .ok (.dup, 1) := by decide +kernel
theorem dX12_let_55 : decode cX12_let 55 = .ok (.getfield 223, 3) := by decide +kernel
theorem dX12_let_58 : decode cX12_let 58 = .ok (.ldc2_w 242, 3) := by decide +kernel
theorem dX12_let_61 : decode cX12_let 61 = .ok (.iload_n 1, 1) := by decide +kernel
theorem dX12_let_62 : decode cX12_let 62 = .ok (.i2l, 1) := by decide +kernel
theorem dX12_let_63 : decode cX12_let 63 = .ok (.lmul, 1) := by decide +kernel
theorem dX12_let_64 : decode cX12_let 64 = .ok (.ladd, 1) := by decide +kernel
theorem dX12_let_65 : decode cX12_let 65 = .ok (.putfield 223, 3) := by decide +kernel
theorem dX12_let_68 : decode cX12_let 68 = .ok (.aload_n 0, 1) := by decide +kernel
theorem dX12_let_69 : decode cX12_let 69 = .ok (.getfield 220, 3) := by decide +kernel
theorem dX12_let_72 : decode cX12_let 72 = .ok (.ireturn, 1) := by decide +kernel

theorem dX12_look_0 : decode cX12_look 0 = .ok (.aload_n 0, 1) := by decide +kernel
theorem dX12_look_1 : decode cX12_look 1 = .ok (.iload_n 1, 1) := by decide +kernel
theorem dX12_look_2 : decode cX12_look 2 = .ok (.invokevirtual 264, 3) := by decide +kernel
theorem dX12_look_5 : decode cX12_look 5 = .ok (.ifCond .eq 45, 3) := by decide +kernel
theorem dX12_look_8 : decode cX12_look 8 = .ok (.iload_n 2, 1) := by decide +kernel
theorem dX12_look_9 : decode cX12_look 9 = .ok (.iconst 0, 1) := by decide +kernel
theorem dX12_look_10 : decode cX12_look 10 = .ok (.iconst 1, 1) := by decide +kernel
theorem dX12_look_11 : decode cX12_look 11 = .ok (.invokestatic 136, 3) := by decide +kernel
theorem dX12_look_14 : decode cX12_look 14 = .ok (.ifCond .eq 36, 3) := by decide +kernel
theorem dX12_look_17 : decode cX12_look 17 = .ok (.iload_n 3, 1) := by decide +kernel
theorem dX12_look_18 : decode cX12_look 18 = .ok (.iconst 0, 1) := by decide +kernel
theorem dX12_look_19 : decode cX12_look 19 = .ok (.bipush 100, 2) := by decide +kernel
theorem dX12_look_21 : decode cX12_look 21 = .ok (.invokestatic 136, 3) := by decide +kernel
theorem dX12_look_24 : decode cX12_look 24 = .ok (.ifCond .eq 26, 3) := by decide +kernel
theorem dX12_look_27 : decode cX12_look 27 = .ok (.aload_n 0, 1) := by decide +kernel
theorem dX12_look_28 : decode cX12_look 28 = .ok (.getfield 74, 3) := by decide +kernel
theorem dX12_look_31 : decode cX12_look 31 = .ok (.iconst 2, 1) := by decide +kernel
theorem dX12_look_32 : decode cX12_look 32 = .ok (.iload_n 1, 1) := by decide +kernel
theorem dX12_look_33 : decode cX12_look 33 = .ok (.imul, 1) := by decide +kernel
theorem dX12_look_34 : decode cX12_look 34 = .ok (.iload_n 2, 1) := by decide +kernel
theorem dX12_look_35 : decode cX12_look 35 = .ok (.iadd, 1) := by decide +kernel
theorem dX12_look_36 : decode cX12_look 36 = .ok (.iaload, 1) := by decide +kernel
theorem dX12_look_37 : decode cX12_look 37 = .ok (.iconst (-1), 1) := by decide +kernel
theorem dX12_look_38 : decode cX12_look 38 = .ok (.if_icmp .ne 12, 3) := by decide +kernel
theorem dX12_look_41 : decode cX12_look 41 = .ok (.aload_n 0, 1) := by decide +kernel
theorem dX12_look_42 : decode cX12_look 42 = .ok (.getfield 77, 3) := by decide +kernel
theorem dX12_look_45 : decode cX12_look 45 = .ok (.iload_n 1, 1) := by decide +kernel
theorem dX12_look_46 : decode cX12_look 46 = .ok (.baload, 1) := by decide +kernel
theorem dX12_look_47 : decode cX12_look 47 = .ok (.ifCond .eq 5, 3) := by decide +kernel
theorem dX12_look_50 : decode cX12_look 50 = .ok (.iconst 0, 1) := by decide +kernel
theorem dX12_look_51 : decode cX12_look 51 = .ok (.ireturn, 1) := by decide +kernel
theorem dX12_look_52 : decode cX12_look 52 = .ok (.aload_n 0, 1) := by decide +kernel
theorem dX12_look_53 : decode cX12_look 53 = .ok (.getfield 74, 3) := by decide +kernel
theorem dX12_look_56 : decode cX12_look 56 = .ok (.iconst 2, 1) := by decide +kernel
theorem dX12_look_57 : decode cX12_look 57 = .ok (.iload_n 1, 1) := by decide +kernel
theorem dX12_look_58 : decode cX12_look 58 = .ok (.imul, 1) := by decide +kernel
theorem dX12_look_59 : decode cX12_look 59 = .ok (.iload_n 2, 1) := by decide +kernel
theorem dX12_look_60 : decode cX12_look 60 = .ok (.iadd, 1) := by decide +kernel
theorem dX12_look_61 : decode cX12_look 61 = .ok (.iload_n 3, 1) := by decide +kernel
theorem dX12_look_62 : decode cX12_look 62 = .ok (.iastore, 1) := by decide +kernel
theorem dX12_look_63 : decode cX12_look 63 = .ok (.iconst 1, 1) := by decide +kernel
theorem dX12_look_64 : decode cX12_look 64 = .ok (.ireturn, 1) := by decide +kernel

theorem dX12_member_0 : decode cX12_member 0 = .ok (.iload_n 1, 1) := by decide +kernel
theorem dX12_member_1 : decode cX12_member 1 = .ok (.iconst 0, 1) := by decide +kernel
theorem dX12_member_2 : decode cX12_member 2 = .ok (.bipush 9, 2) := by decide +kernel
theorem dX12_member_4 : decode cX12_member 4 = .ok (.invokestatic 136, 3) := by decide +kernel
theorem dX12_member_7 : decode cX12_member 7 = .ok (.ifCond .ne 7, 3) := by decide +kernel
theorem dX12_member_10 : decode cX12_member 10 = .ok (.iconst (-1), 1) := by decide +kernel
theorem dX12_member_11 : decode cX12_member 11 = .ok (.goto 31, 3) := by decide +kernel
theorem dX12_member_14 : decode cX12_member 14 = .ok (.iload_n 2, 1) := by decide +kernel
theorem dX12_member_15 : decode cX12_member 15 = .ok (.ifCond .ne 12, 3) := by decide +kernel
theorem dX12_member_18 : decode cX12_member 18 = .ok (.aload_n 0, 1) := by decide +kernel
theorem dX12_member_19 : decode cX12_member 19 = .ok (.getfield 50, 3) := by decide +kernel
theorem dX12_member_22 : decode cX12_member 22 = .ok (.iload_n 1, 1) := by decide +kernel
theorem dX12_member_23 : decode cX12_member 23 = .ok (.iaload, 1) := by decide +kernel
theorem dX12_member_24 : decode cX12_member 24 = .ok (.goto 18, 3) := by decide +kernel
theorem dX12_member_27 : decode cX12_member 27 = .ok (.iload_n 2, 1) := by decide +kernel
theorem dX12_member_28 : decode cX12_member 28 = .ok (.iconst 1, 1) := by decide +kernel
theorem dX12_member_29 : decode cX12_member 29 = .ok (.if_icmp .ne 12, 3) := by decide +kernel
theorem dX12_member_32 : decode cX12_member 32 = .ok (.aload_n 0, 1) := by decide +kernel
theorem dX12_member_33 : decode cX12_member 33 = .ok (.getfield 53, 3) := by decide +kernel
theorem dX12_member_36 : decode cX12_member 36 = .ok (.iload_n 1, 1) := by decide +kernel
theorem dX12_member_37 : decode cX12_member 37 = .ok (.iaload, 1) := by decide +kernel
theorem dX12_member_38 : decode cX12_member 38 = .ok (.goto 4, 3) := by decide +kernel
theorem dX12_member_41 : decode cX12_member 41 = .ok (.iconst (-1), 1) := by decide +kernel
theorem dX12_member_42 : decode cX12_member 42 = .ok (.ireturn, 1) := by decide +kernel

theorem dX12_node_0 : decode cX12_node 0 = .ok (.iload_n 1, 1) := by decide +kernel
theorem dX12_node_1 : decode cX12_node 1 = .ok (.iconst 0, 1) := by decide +kernel
theorem dX12_node_2 : decode cX12_node 2 = .ok (.aload_n 0, 1) := by decide +kernel
theorem dX12_node_3 : decode cX12_node 3 = .ok (.getfield 7, 3) := by decide +kernel
theorem dX12_node_6 : decode cX12_node 6 = .ok (.iconst 1, 1) := by decide +kernel
theorem dX12_node_7 : decode cX12_node 7 = .ok (.isub, 1) := by decide +kernel
theorem dX12_node_8 : decode cX12_node 8 = .ok (.invokestatic 136, 3) := by decide +kernel
theorem dX12_node_11 : decode cX12_node 11 = .ok (.ifCond .eq 44, 3) := by decide +kernel
theorem dX12_node_14 : decode cX12_node 14 = .ok (.iload_n 2, 1) := by decide +kernel
theorem dX12_node_15 : decode cX12_node 15 = .ok (.iconst 1, 1) := by decide +kernel
theorem dX12_node_16 : decode cX12_node 16 = .ok (.bipush 100, 2) := by decide +kernel
theorem dX12_node_18 : decode cX12_node 18 = .ok (.invokestatic 136, 3) := by decide +kernel
theorem dX12_node_21 : decode cX12_node 21 = .ok (.ifCond .eq 34, 3) := by decide +kernel
theorem dX12_node_24 : decode cX12_node 24 = .ok (.iload_n 3, 1) := by decide +kernel
theorem dX12_node_25 : decode cX12_node 25 = .ok (.iconst 0, 1) := by decide +kernel
theorem dX12_node_26 : decode cX12_node 26 = .ok (.sipush 500, 3) := by decide +kernel
theorem dX12_node_29 : decode cX12_node 29 = .ok (.invokestatic 136, 3) := by decide +kernel
theorem dX12_node_32 : decode cX12_node 32 = .ok (.ifCond .eq 23, 3) := by decide +kernel
theorem dX12_node_35 : decode cX12_node 35 = .ok (.iload 4, 2) := by decide +kernel
theorem dX12_node_37 : decode cX12_node 37 = .ok (.iconst 0, 1) := by decide +kernel
theorem dX12_node_38 : decode cX12_node 38 = .ok (.bipush 9, 2) := by decide +kernel
theorem dX12_node_40 : decode cX12_node 40 = .ok (.invokestatic 136, 3) := by decide +kernel
theorem dX12_node_43 : decode cX12_node 43 = .ok (.ifCond .eq 12, 3) := by decide +kernel
theorem dX12_node_46 : decode cX12_node 46 = .ok (.aload_n 0, 1) := by decide +kernel
theorem dX12_node_47 : decode cX12_node 47 = .ok (.getfield 7, 3) := by decide +kernel
theorem dX12_node_50 : decode cX12_node 50 = .ok (.bipush 40, 2) := by decide +kernel
theorem dX12_node_52 : decode cX12_node 52 = .ok (.if_icmp .ne 5, 3) := by decide +kernel
theorem dX12_node_55 : decode cX12_node 55 = .ok (.iconst (-1), 1) := by decide +kernel
theorem dX12_node_56 : decode cX12_node 56 = .ok (.ireturn, 1) := by decide +kernel
theorem dX12_node_57 : decode cX12_node 57 = .ok (.aload_n 0, 1) := by decide +kernel
theorem dX12_node_58 : decode cX12_node 58 = .ok (.getfield 13, 3) := by decide +kernel
theorem dX12_node_61 : decode cX12_node 61 = .ok (.aload_n 0, 1) := by decide +kernel
theorem dX12_node_62 : decode cX12_node 62 = .ok (.getfield 7, 3) := by decide +kernel
theorem dX12_node_65 : decode cX12_node 65 = .ok (.iload_n 1, 1) := by decide +kernel
theorem dX12_node_66 : decode cX12_node 66 = .ok (.iastore, 1) := by decide +kernel
theorem dX12_node_67 : decode cX12_node 67 = .ok (.aload_n 0, 1) := by decide +kernel
theorem dX12_node_68 : decode cX12_node 68 = .ok (.getfield 17, 3) := by decide +kernel
theorem dX12_node_71 : decode cX12_node 71 = .ok (.aload_n 0, 1) := by decide +kernel
theorem dX12_node_72 : decode cX12_node 72 = .ok (.getfield 7, 3) := by decide +kernel
theorem dX12_node_75 : decode cX12_node 75 = .ok (.iload_n 2, 1) := by decide +kernel
theorem dX12_node_76 : decode cX12_node 76 = .ok (.iastore, 1) := by decide +kernel
theorem dX12_node_77 : decode cX12_node 77 = .ok (.aload_n 0, 1) := by decide +kernel
theorem dX12_node_78 : decode cX12_node 78 = .ok (.getfield 20, 3) := by decide +kernel
theorem dX12_node_81 : decode cX12_node 81 = .ok (.aload_n 0, 1) := by decide +kernel
theorem dX12_node_82 : decode cX12_node 82 = .ok (.getfield 7, 3) := by decide +kernel
theorem dX12_node_85 : decode cX12_node 85 = .ok (.iload_n 3, 1) := by decide +kernel
theorem dX12_node_86 : decode cX12_node 86 = .ok (.iastore, 1) := by decide +kernel
theorem dX12_node_87 : decode cX12_node 87 = .ok (.aload_n 0, 1) := by decide +kernel
theorem dX12_node_88 : decode cX12_node 88 = .ok (.getfield 23, 3) := by decide +kernel
theorem dX12_node_91 : decode cX12_node 91 = .ok (.aload_n 0, 1) := by decide +kernel
theorem dX12_node_92 : decode cX12_node 92 = .ok (.getfield 7, 3) := by decide +kernel
theorem dX12_node_95 : decode cX12_node 95 = .ok (.iload 4, 2) := by decide +kernel
theorem dX12_node_97 : decode cX12_node 97 = .ok (.iastore, 1) := by decide +kernel
theorem dX12_node_98 : decode cX12_node 98 = .ok (.aload_n 0, 1) := by decide +kernel
theorem dX12_node_99 : decode cX12_node 99 = .ok (.dup, 1) := by decide +kernel
theorem dX12_node_100 : decode cX12_node 100 = .ok (.getfield 7, 3) := by decide +kernel
theorem dX12_node_103 : decode cX12_node 103 = .ok (.iconst 1, 1) := by decide +kernel
theorem dX12_node_104 : decode cX12_node 104 = .ok (.iadd, 1) := by decide +kernel
theorem dX12_node_105 : decode cX12_node 105 = .ok (.putfield 7, 3) := by decide +kernel
theorem dX12_node_108 : decode cX12_node 108 = .ok (.aload_n 0, 1) := by decide +kernel
theorem dX12_node_109 : decode cX12_node 109 = .ok (.getfield 7, 3) := by decide +kernel
theorem dX12_node_112 : decode cX12_node 112 = .ok (.iconst 1, 1) := by decide +kernel
theorem dX12_node_113 : decode cX12_node 113 = .ok (.isub, 1) := by decide +kernel
theorem dX12_node_114 : decode cX12_node 114 = .ok (.ireturn, 1) := by decide +kernel

theorem dX12_nodeOf_0 : decode cX12_nodeOf 0 = .ok (.iload_n 1, 1) := by decide +kernel
theorem dX12_nodeOf_1 : decode cX12_nodeOf 1 = .ok (.iconst 0, 1) := by decide +kernel
theorem dX12_nodeOf_2 : decode cX12_nodeOf 2 = .ok (.aload_n 0, 1) := by decide +kernel
theorem dX12_nodeOf_3 : decode cX12_nodeOf 3 = .ok (.getfield 7, 3) := by decide +kernel
theorem dX12_nodeOf_6 : decode cX12_nodeOf 6 = .ok (.iconst 1, 1) := by decide +kernel
theorem dX12_nodeOf_7 : decode cX12_nodeOf 7 = .ok (.isub, 1) := by decide +kernel
theorem dX12_nodeOf_8 : decode cX12_nodeOf 8 = .ok (.invokestatic 136, 3) := by decide +kernel
theorem dX12_nodeOf_11 : decode cX12_nodeOf 11 = .ok (.ifCond .ne 5, 3) := by decide +kernel
theorem dX12_nodeOf_14 : decode cX12_nodeOf 14 = .ok (.iconst (-1), 1) := by decide +kernel
theorem dX12_nodeOf_15 : decode cX12_nodeOf 15 = .ok (.ireturn, 1) := by decide +kernel
theorem dX12_nodeOf_16 : decode cX12_nodeOf 16 = .ok (.iconst 0, 1) := by decide +kernel
theorem dX12_nodeOf_17 : decode cX12_nodeOf 17 = .ok (.istore_n 3, 1) := by decide +kernel
theorem dX12_nodeOf_18 : decode cX12_nodeOf 18 = .ok (.iload_n 2, 1) := by decide +kernel
theorem dX12_nodeOf_19 : decode cX12_nodeOf 19 = .ok (.tableswitch 188 0 8 #[49, 64, 71, 80, 86, 93, 99, 141, 156], 49) := by decide +kernel
theorem dX12_nodeOf_68 : decode cX12_nodeOf 68 = .ok (.iload_n 1, 1) := by decide +kernel
theorem dX12_nodeOf_69 : decode cX12_nodeOf 69 = .ok (.ifCond .ne 7, 3) := by decide +kernel
theorem dX12_nodeOf_72 : decode cX12_nodeOf 72 = .ok (.iconst (-1), 1) := by decide +kernel
theorem dX12_nodeOf_73 : decode cX12_nodeOf 73 = .ok (.goto 9, 3) := by decide +kernel
theorem dX12_nodeOf_76 : decode cX12_nodeOf 76 = .ok (.aload_n 0, 1) := by decide +kernel
theorem dX12_nodeOf_77 : decode cX12_nodeOf 77 = .ok (.getfield 13, 3) := by decide +kernel
theorem dX12_nodeOf_80 : decode cX12_nodeOf 80 = .ok (.iload_n 1, 1) := by decide +kernel
theorem dX12_nodeOf_81 : decode cX12_nodeOf 81 = .ok (.iaload, 1) := by decide +kernel
theorem dX12_nodeOf_82 : decode cX12_nodeOf 82 = .ok (.ireturn, 1) := by decide +kernel
theorem dX12_nodeOf_83 : decode cX12_nodeOf 83 = .ok (.aload_n 0, 1) := by decide +kernel
theorem dX12_nodeOf_84 : decode cX12_nodeOf 84 = .ok (.getfield 20, 3) := by decide +kernel
theorem dX12_nodeOf_87 : decode cX12_nodeOf 87 = .ok (.iload_n 1, 1) := by decide +kernel
theorem dX12_nodeOf_88 : decode cX12_nodeOf 88 = .ok (.iaload, 1) := by decide +kernel
theorem dX12_nodeOf_89 : decode cX12_nodeOf 89 = .ok (.ireturn, 1) := by decide +kernel
theorem dX12_nodeOf_90 : decode cX12_nodeOf 90 = .ok (.aload_n 0, 1) := by decide +kernel
theorem dX12_nodeOf_91 : decode cX12_nodeOf 91 = .ok (.iload_n 1, 1) := by decide +kernel
theorem dX12_nodeOf_92 : decode cX12_nodeOf 92 = .ok (.invokevirtual 156, 3) := by decide +kernel
theorem dX12_nodeOf_95 : decode cX12_nodeOf 95 = .ok (.invokestatic 159, 3) := by decide +kernel
theorem dX12_nodeOf_98 : decode cX12_nodeOf 98 = .ok (.ireturn, 1) := by decide +kernel
theorem dX12_nodeOf_99 : decode cX12_nodeOf 99 = .ok (.aload_n 0, 1) := by decide +kernel
theorem dX12_nodeOf_100 : decode cX12_nodeOf 100 = .ok (.iload_n 1, 1) := by decide +kernel
theorem dX12_nodeOf_101 : decode cX12_nodeOf 101 = .ok (.invokevirtual 163, 3) := by decide +kernel
theorem dX12_nodeOf_104 : decode cX12_nodeOf 104 = .ok (.ireturn, 1) := by decide +kernel
theorem dX12_nodeOf_105 : decode cX12_nodeOf 105 = .ok (.aload_n 0, 1) := by decide +kernel
theorem dX12_nodeOf_106 : decode cX12_nodeOf 106 = .ok (.getfield 29, 3) := by decide +kernel
theorem dX12_nodeOf_109 : decode cX12_nodeOf 109 = .ok (.iload_n 1, 1) := by decide +kernel
theorem dX12_nodeOf_110 : decode cX12_nodeOf 110 = .ok (.iaload, 1) := by decide +kernel
theorem dX12_nodeOf_111 : decode cX12_nodeOf 111 = .ok (.ireturn, 1) := by decide +kernel
theorem dX12_nodeOf_112 : decode cX12_nodeOf 112 = .ok (.aload_n 0, 1) := by decide +kernel
theorem dX12_nodeOf_113 : decode cX12_nodeOf 113 = .ok (.iload_n 1, 1) := by decide +kernel
theorem dX12_nodeOf_114 : decode cX12_nodeOf 114 = .ok (.invokevirtual 167, 3) := by decide +kernel
theorem dX12_nodeOf_117 : decode cX12_nodeOf 117 = .ok (.ireturn, 1) := by decide +kernel
theorem dX12_nodeOf_118 : decode cX12_nodeOf 118 = .ok (.iconst 0, 1) := by decide +kernel
theorem dX12_nodeOf_119 : decode cX12_nodeOf 119 = .ok (.istore 4, 2) := by decide +kernel
theorem dX12_nodeOf_121 : decode cX12_nodeOf 121 = .ok (.iload 4, 2) := by decide +kernel
theorem dX12_nodeOf_123 : decode cX12_nodeOf 123 = .ok (.aload_n 0, 1) := by decide +kernel
theorem dX12_nodeOf_124 : decode cX12_nodeOf 124 = .ok (.getfield 140, 3) := by decide +kernel
theorem dX12_nodeOf_127 : decode cX12_nodeOf 127 = .ok (.if_icmp .ge 31, 3) := by decide +kernel
theorem dX12_nodeOf_130 : decode cX12_nodeOf 130 = .ok (.iload_n 3, 1) := by decide +kernel
theorem dX12_nodeOf_131 : decode cX12_nodeOf 131 = .ok (.aload_n 0, 1) := by decide +kernel
theorem dX12_nodeOf_132 : decode cX12_nodeOf 132 = .ok (.getfield 32, 3) := by decide +kernel
theorem dX12_nodeOf_135 : decode cX12_nodeOf 135 = .ok (.iload 4, 2) := by decide +kernel
theorem dX12_nodeOf_137 : decode cX12_nodeOf 137 = .ok (.iaload, 1) := by decide +kernel
theorem dX12_nodeOf_138 : decode cX12_nodeOf 138 = .ok (.iload_n 1, 1) := by decide +kernel
theorem dX12_nodeOf_139 : decode cX12_nodeOf 139 = .ok (.if_icmp .ne 7, 3) := by decide +kernel
theorem dX12_nodeOf_142 : decode cX12_nodeOf 142 = .ok (.iconst 1, 1) := by decide +kernel
theorem dX12_nodeOf_143 : decode cX12_nodeOf 143 = .ok (.goto 4, 3) := by decide +kernel
theorem dX12_nodeOf_146 : decode cX12_nodeOf 146 = .ok (.iconst 0, 1) := by decide +kernel
theorem dX12_nodeOf_147 : decode cX12_nodeOf 147 = .ok (.invokestatic 159, 3) := by decide +kernel
theorem dX12_nodeOf_150 : decode cX12_nodeOf 150 = .ok (.iadd, 1) := by decide +kernel
theorem dX12_nodeOf_151 : decode cX12_nodeOf 151 = .ok (.istore_n 3, 1) := by decide +kernel
theorem dX12_nodeOf_152 : decode cX12_nodeOf 152 = .ok (.iinc 4 1, 3) := by decide +kernel
theorem dX12_nodeOf_155 : decode cX12_nodeOf 155 = .ok (.goto (-34), 3) := by decide +kernel
theorem dX12_nodeOf_158 : decode cX12_nodeOf 158 = .ok (.iload_n 3, 1) := by decide +kernel
theorem dX12_nodeOf_159 : decode cX12_nodeOf 159 = .ok (.ireturn, 1) := by decide +kernel
theorem dX12_nodeOf_160 : decode cX12_nodeOf 160 = .ok (.iload_n 1, 1) := by decide +kernel
theorem dX12_nodeOf_161 : decode cX12_nodeOf 161 = .ok (.ifCond .ne 7, 3) := by decide +kernel
theorem dX12_nodeOf_164 : decode cX12_nodeOf 164 = .ok (.iconst (-1), 1) := by decide +kernel
theorem dX12_nodeOf_165 : decode cX12_nodeOf 165 = .ok (.goto 9, 3) := by decide +kernel
theorem dX12_nodeOf_168 : decode cX12_nodeOf 168 = .ok (.aload_n 0, 1) := by decide +kernel
theorem dX12_nodeOf_169 : decode cX12_nodeOf 169 = .ok (.getfield 23, 3) := by decide +kernel
theorem dX12_nodeOf_172 : decode cX12_nodeOf 172 = .ok (.iload_n 1, 1) := by decide +kernel
theorem dX12_nodeOf_173 : decode cX12_nodeOf 173 = .ok (.iaload, 1) := by decide +kernel
theorem dX12_nodeOf_174 : decode cX12_nodeOf 174 = .ok (.ireturn, 1) := by decide +kernel
theorem dX12_nodeOf_175 : decode cX12_nodeOf 175 = .ok (.iload_n 1, 1) := by decide +kernel
theorem dX12_nodeOf_176 : decode cX12_nodeOf 176 = .ok (.istore 4, 2) := by decide +kernel
theorem dX12_nodeOf_178 : decode cX12_nodeOf 178 = .ok (.iload 4, 2) := by decide +kernel
theorem dX12_nodeOf_180 : decode cX12_nodeOf 180 = .ok (.ifCond .le 25, 3) := by decide +kernel
theorem dX12_nodeOf_183 : decode cX12_nodeOf 183 = .ok (.iload_n 3, 1) := by decide +kernel
theorem dX12_nodeOf_184 : decode cX12_nodeOf 184 = .ok (.aload_n 0, 1) := by decide +kernel
theorem dX12_nodeOf_185 : decode cX12_nodeOf 185 = .ok (.getfield 17, 3) := by decide +kernel
theorem dX12_nodeOf_188 : decode cX12_nodeOf 188 = .ok (.iload 4, 2) := by decide +kernel
theorem dX12_nodeOf_190 : decode cX12_nodeOf 190 = .ok (.iaload, 1) := by decide +kernel
theorem dX12_nodeOf_191 : decode cX12_nodeOf 191 = .ok (.iadd, 1) := by decide +kernel
theorem dX12_nodeOf_192 : decode cX12_nodeOf 192 = .ok (.istore_n 3, 1) := by decide +kernel
theorem dX12_nodeOf_193 : decode cX12_nodeOf 193 = .ok (.aload_n 0, 1) := by decide +kernel
theorem dX12_nodeOf_194 : decode cX12_nodeOf 194 = .ok (.getfield 13, 3) := by decide +kernel
theorem dX12_nodeOf_197 : decode cX12_nodeOf 197 = .ok (.iload 4, 2) := by decide +kernel
theorem dX12_nodeOf_199 : decode cX12_nodeOf 199 = .ok (.iaload, 1) := by decide +kernel
theorem dX12_nodeOf_200 : decode cX12_nodeOf 200 = .ok (.istore 4, 2) := by decide +kernel
theorem dX12_nodeOf_202 : decode cX12_nodeOf 202 = .ok (.goto (-24), 3) := by decide +kernel
theorem dX12_nodeOf_205 : decode cX12_nodeOf 205 = .ok (.iload_n 3, 1) := by decide +kernel
theorem dX12_nodeOf_206 : decode cX12_nodeOf 206 = .ok (.ireturn, 1) := by decide +kernel
theorem dX12_nodeOf_207 : decode cX12_nodeOf 207 = .ok (.iconst (-1), 1) := by decide +kernel
theorem dX12_nodeOf_208 : decode cX12_nodeOf 208 = .ok (.ireturn, 1) := by decide +kernel

theorem dX12_one_0 : decode cX12_one 0 = .ok (.iload_n 0, 1) := by decide +kernel
theorem dX12_one_1 : decode cX12_one 1 = .ok (.ifCond .eq 7, 3) := by decide +kernel
theorem dX12_one_4 : decode cX12_one 4 = .ok (.iconst 1, 1) := by decide +kernel
theorem dX12_one_5 : decode cX12_one 5 = .ok (.goto 4, 3) := by decide +kernel
theorem dX12_one_8 : decode cX12_one 8 = .ok (.iconst 0, 1) := by decide +kernel
theorem dX12_one_9 : decode cX12_one 9 = .ok (.ireturn, 1) := by decide +kernel

theorem dX12_pan_0 : decode cX12_pan 0 = .ok (.iload_n 1, 1) := by decide +kernel
theorem dX12_pan_1 : decode cX12_pan 1 = .ok (.tableswitch 77 0 5 #[39, 44, 49, 54, 59, 67], 39) := by decide +kernel
theorem dX12_pan_40 : decode cX12_pan 40 = .ok (.aload_n 0, 1) := by decide +kernel
theorem dX12_pan_41 : decode cX12_pan 41 = .ok (.getfield 220, 3) := by decide +kernel
theorem dX12_pan_44 : decode cX12_pan 44 = .ok (.ireturn, 1) := by decide +kernel
theorem dX12_pan_45 : decode cX12_pan 45 = .ok (.aload_n 0, 1) := by decide +kernel
theorem dX12_pan_46 : decode cX12_pan 46 = .ok (.invokevirtual 257, 3) := by decide +kernel
theorem dX12_pan_49 : decode cX12_pan 49 = .ok (.ireturn, 1) := by decide +kernel
theorem dX12_pan_50 : decode cX12_pan 50 = .ok (.aload_n 0, 1) := by decide +kernel
theorem dX12_pan_51 : decode cX12_pan 51 = .ok (.getfield 227, 3) := by decide +kernel
theorem dX12_pan_54 : decode cX12_pan 54 = .ok (.ireturn, 1) := by decide +kernel
theorem dX12_pan_55 : decode cX12_pan 55 = .ok (.aload_n 0, 1) := by decide +kernel
theorem dX12_pan_56 : decode cX12_pan 56 = .ok (.getfield 230, 3) := by decide +kernel
theorem dX12_pan_59 : decode cX12_pan 59 = .ok (.ireturn, 1) := by decide +kernel
theorem dX12_pan_60 : decode cX12_pan 60 = .ok (.aload_n 0, 1) := by decide +kernel
theorem dX12_pan_61 : decode cX12_pan 61 = .ok (.getfield 233, 3) := by decide +kernel
theorem dX12_pan_64 : decode cX12_pan 64 = .ok (.invokestatic 159, 3) := by decide +kernel
theorem dX12_pan_67 : decode cX12_pan 67 = .ok (.ireturn, 1) := by decide +kernel
theorem dX12_pan_68 : decode cX12_pan 68 = .ok (.aload_n 0, 1) := by decide +kernel
theorem dX12_pan_69 : decode cX12_pan 69 = .ok (.getfield 223, 3) := by decide +kernel
theorem dX12_pan_72 : decode cX12_pan 72 = .ok (.ldc2_w 248, 3) := by decide +kernel
theorem dX12_pan_75 : decode cX12_pan 75 = .ok (.ldiv, 1) := by decide +kernel
theorem dX12_pan_76 : decode cX12_pan 76 = .ok (.l2i, 1) := by decide +kernel
theorem dX12_pan_77 : decode cX12_pan 77 = .ok (.ireturn, 1) := by decide +kernel
theorem dX12_pan_78 : decode cX12_pan 78 = .ok (.iconst (-1), 1) := by decide +kernel
theorem dX12_pan_79 : decode cX12_pan 79 = .ok (.ireturn, 1) := by decide +kernel

theorem dX12_pump_0 : decode cX12_pump 0 = .ok (.iload_n 1, 1) := by decide +kernel
theorem dX12_pump_1 : decode cX12_pump 1 = .ok (.iconst 0, 1) := by decide +kernel
theorem dX12_pump_2 : decode cX12_pump 2 = .ok (.bipush 100, 2) := by decide +kernel
theorem dX12_pump_4 : decode cX12_pump 4 = .ok (.invokestatic 136, 3) := by decide +kernel
theorem dX12_pump_7 : decode cX12_pump 7 = .ok (.ifCond .ne 5, 3) := by decide +kernel
theorem dX12_pump_10 : decode cX12_pump 10 = .ok (.iconst 0, 1) := by decide +kernel
theorem dX12_pump_11 : decode cX12_pump 11 = .ok (.ireturn, 1) := by decide +kernel
theorem dX12_pump_12 : decode cX12_pump 12 = .ok (.aload_n 0, 1) := by decide +kernel
theorem dX12_pump_13 : decode cX12_pump 13 = .ok (.iload_n 1, 1) := by decide +kernel
theorem dX12_pump_14 : decode cX12_pump 14 = .ok (.putfield 143, 3) := by decide +kernel
theorem dX12_pump_17 : decode cX12_pump 17 = .ok (.iconst 1, 1) := by decide +kernel
theorem dX12_pump_18 : decode cX12_pump 18 = .ok (.ireturn, 1) := by decide +kernel

theorem dX12_rules_0 : decode cX12_rules 0 = .ok (.iload_n 1, 1) := by decide +kernel
theorem dX12_rules_1 : decode cX12_rules 1 = .ok (.iconst 0, 1) := by decide +kernel
theorem dX12_rules_2 : decode cX12_rules 2 = .ok (.aload_n 0, 1) := by decide +kernel
theorem dX12_rules_3 : decode cX12_rules 3 = .ok (.getfield 273, 3) := by decide +kernel
theorem dX12_rules_6 : decode cX12_rules 6 = .ok (.invokestatic 136, 3) := by decide +kernel
theorem dX12_rules_9 : decode cX12_rules 9 = .ok (.ifCond .ne 6, 3) := by decide +kernel
theorem dX12_rules_12 : decode cX12_rules 12 = .ok (.bipush (-2), 2) := by decide +kernel
theorem dX12_rules_14 : decode cX12_rules 14 = .ok (.ireturn, 1) := by decide +kernel
theorem dX12_rules_15 : decode cX12_rules 15 = .ok (.iconst 0, 1) := by decide +kernel
theorem dX12_rules_16 : decode cX12_rules 16 = .ok (.istore_n 2, 1) := by decide +kernel
theorem dX12_rules_17 : decode cX12_rules 17 = .ok (.iload_n 2, 1) := by decide +kernel
theorem dX12_rules_18 : decode cX12_rules 18 = .ok (.iload_n 1, 1) := by decide +kernel
theorem dX12_rules_19 : decode cX12_rules 19 = .ok (.if_icmp .ge 21, 3) := by decide +kernel
theorem dX12_rules_22 : decode cX12_rules 22 = .ok (.aload_n 0, 1) := by decide +kernel
theorem dX12_rules_23 : decode cX12_rules 23 = .ok (.getfield 88, 3) := by decide +kernel
theorem dX12_rules_26 : decode cX12_rules 26 = .ok (.iload_n 2, 1) := by decide +kernel
theorem dX12_rules_27 : decode cX12_rules 27 = .ok (.aload_n 0, 1) := by decide +kernel
theorem dX12_rules_28 : decode cX12_rules 28 = .ok (.getfield 84, 3) := by decide +kernel
theorem dX12_rules_31 : decode cX12_rules 31 = .ok (.iload_n 2, 1) := by decide +kernel
theorem dX12_rules_32 : decode cX12_rules 32 = .ok (.baload, 1) := by decide +kernel
theorem dX12_rules_33 : decode cX12_rules 33 = .ok (.bastore, 1) := by decide +kernel
theorem dX12_rules_34 : decode cX12_rules 34 = .ok (.iinc 2 1, 3) := by decide +kernel
theorem dX12_rules_37 : decode cX12_rules 37 = .ok (.goto (-20), 3) := by decide +kernel
theorem dX12_rules_40 : decode cX12_rules 40 = .ok (.aload_n 0, 1) := by decide +kernel
theorem dX12_rules_41 : decode cX12_rules 41 = .ok (.iload_n 1, 1) := by decide +kernel
theorem dX12_rules_42 : decode cX12_rules 42 = .ok (.putfield 283, 3) := by decide +kernel
theorem dX12_rules_45 : decode cX12_rules 45 = .ok (.aload_n 0, 1) := by decide +kernel
theorem dX12_rules_46 : decode cX12_rules 46 = .ok (.iconst 0, 1) := by decide +kernel
theorem dX12_rules_47 : decode cX12_rules 47 = .ok (.putfield 273, 3) := by decide +kernel
theorem dX12_rules_50 : decode cX12_rules 50 = .ok (.aload_n 0, 1) := by decide +kernel
theorem dX12_rules_51 : decode cX12_rules 51 = .ok (.iconst 0, 1) := by decide +kernel
theorem dX12_rules_52 : decode cX12_rules 52 = .ok (.putfield 280, 3) := by decide +kernel
theorem dX12_rules_55 : decode cX12_rules 55 = .ok (.aload_n 0, 1) := by decide +kernel
theorem dX12_rules_56 : decode cX12_rules 56 = .ok (.iconst 0, 1) := by decide +kernel
theorem dX12_rules_57 : decode cX12_rules 57 = .ok (.putfield 314, 3) := by decide +kernel
theorem dX12_rules_60 : decode cX12_rules 60 = .ok (.iconst 1, 1) := by decide +kernel
theorem dX12_rules_61 : decode cX12_rules 61 = .ok (.istore_n 2, 1) := by decide +kernel
theorem dX12_rules_62 : decode cX12_rules 62 = .ok (.aload_n 0, 1) := by decide +kernel
theorem dX12_rules_63 : decode cX12_rules 63 = .ok (.invokevirtual 286, 3) := by decide +kernel
theorem dX12_rules_66 : decode cX12_rules 66 = .ok (.iload_n 2, 1) := by decide +kernel
theorem dX12_rules_67 : decode cX12_rules 67 = .ok (.ifCond .eq 30, 3) := by decide +kernel
theorem dX12_rules_70 : decode cX12_rules 70 = .ok (.aload_n 0, 1) := by decide +kernel
theorem dX12_rules_71 : decode cX12_rules 71 = .ok (.getfield 280, 3) := by decide +kernel
theorem dX12_rules_74 : decode cX12_rules 74 = .ok (.aload_n 0, 1) := by decide +kernel
theorem dX12_rules_75 : decode cX12_rules 75 = .ok (.getfield 283, 3) := by decide +kernel
theorem dX12_rules_78 : decode cX12_rules 78 = .ok (.if_icmp .ge 19, 3) := by decide +kernel
theorem dX12_rules_81 : decode cX12_rules 81 = .ok (.aload_n 0, 1) := by decide +kernel
theorem dX12_rules_82 : decode cX12_rules 82 = .ok (.invokevirtual 338, 3) := by decide +kernel
theorem dX12_rules_85 : decode cX12_rules 85 = .ok (.istore_n 2, 1) := by decide +kernel
theorem dX12_rules_86 : decode cX12_rules 86 = .ok (.iload_n 2, 1) := by decide +kernel
theorem dX12_rules_87 : decode cX12_rules 87 = .ok (.ifCond .eq (-21), 3) := by decide +kernel
theorem dX12_rules_90 : decode cX12_rules 90 = .ok (.aload_n 0, 1) := by decide +kernel
theorem dX12_rules_91 : decode cX12_rules 91 = .ok (.invokevirtual 286, 3) := by decide +kernel
theorem dX12_rules_94 : decode cX12_rules 94 = .ok (.goto (-28), 3) := by decide +kernel
theorem dX12_rules_97 : decode cX12_rules 97 = .ok (.aload_n 0, 1) := by decide +kernel
theorem dX12_rules_98 : decode cX12_rules 98 = .ok (.iload_n 2, 1) := by decide +kernel
theorem dX12_rules_99 : decode cX12_rules 99 = .ok (.ifCond .eq 7, 3) := by decide +kernel
theorem dX12_rules_102 : decode cX12_rules 102 = .ok (.iconst (-1), 1) := by decide +kernel
theorem dX12_rules_103 : decode cX12_rules 103 = .ok (.goto 7, 3) := by decide +kernel
theorem dX12_rules_106 : decode cX12_rules 106 = .ok (.aload_n 0, 1) := by decide +kernel
theorem dX12_rules_107 : decode cX12_rules 107 = .ok (.getfield 280, 3) := by decide +kernel
theorem dX12_rules_110 : decode cX12_rules 110 = .ok (.putfield 91, 3) := by decide +kernel
theorem dX12_rules_113 : decode cX12_rules 113 = .ok (.iload_n 2, 1) := by decide +kernel
theorem dX12_rules_114 : decode cX12_rules 114 = .ok (.ifCond .ne 5, 3) := by decide +kernel
theorem dX12_rules_117 : decode cX12_rules 117 = .ok (.iconst (-1), 1) := by decide +kernel
theorem dX12_rules_118 : decode cX12_rules 118 = .ok (.ireturn, 1) := by decide +kernel
theorem dX12_rules_119 : decode cX12_rules 119 = .ok (.aload_n 0, 1) := by decide +kernel
theorem dX12_rules_120 : decode cX12_rules 120 = .ok (.aload_n 0, 1) := by decide +kernel
theorem dX12_rules_121 : decode cX12_rules 121 = .ok (.getfield 314, 3) := by decide +kernel
theorem dX12_rules_124 : decode cX12_rules 124 = .ok (.putfield 342, 3) := by decide +kernel
theorem dX12_rules_127 : decode cX12_rules 127 = .ok (.iconst 0, 1) := by decide +kernel
theorem dX12_rules_128 : decode cX12_rules 128 = .ok (.istore_n 3, 1) := by decide +kernel
theorem dX12_rules_129 : decode cX12_rules 129 = .ok (.iload_n 3, 1) := by decide +kernel
theorem dX12_rules_130 : decode cX12_rules 130 = .ok (.bipush 16, 2) := by decide +kernel
theorem dX12_rules_132 : decode cX12_rules 132 = .ok (.if_icmp .ge 57, 3) := by decide +kernel
theorem dX12_rules_135 : decode cX12_rules 135 = .ok (.aload_n 0, 1) := by decide +kernel
theorem dX12_rules_136 : decode cX12_rules 136 = .ok (.getfield 94, 3) := by decide +kernel
theorem dX12_rules_139 : decode cX12_rules 139 = .ok (.iload_n 3, 1) := by decide +kernel
theorem dX12_rules_140 : decode cX12_rules 140 = .ok (.aload_n 0, 1) := by decide +kernel
theorem dX12_rules_141 : decode cX12_rules 141 = .ok (.getfield 97, 3) := by decide +kernel
theorem dX12_rules_144 : decode cX12_rules 144 = .ok (.iload_n 3, 1) := by decide +kernel
theorem dX12_rules_145 : decode cX12_rules 145 = .ok (.baload, 1) := by decide +kernel
theorem dX12_rules_146 : decode cX12_rules 146 = .ok (.bastore, 1) := by decide +kernel
theorem dX12_rules_147 : decode cX12_rules 147 = .ok (.aload_n 0, 1) := by decide +kernel
theorem dX12_rules_148 : decode cX12_rules 148 = .ok (.getfield 100, 3) := by decide +kernel
theorem dX12_rules_151 : decode cX12_rules 151 = .ok (.iload_n 3, 1) := by decide +kernel
theorem dX12_rules_152 : decode cX12_rules 152 = .ok (.aload_n 0, 1) := by decide +kernel
theorem dX12_rules_153 : decode cX12_rules 153 = .ok (.getfield 118, 3) := by decide +kernel
theorem dX12_rules_156 : decode cX12_rules 156 = .ok (.iload_n 3, 1) := by decide +kernel
theorem dX12_rules_157 : decode cX12_rules 157 = .ok (.iaload, 1) := by decide +kernel
theorem dX12_rules_158 : decode cX12_rules 158 = .ok (.iastore, 1) := by decide +kernel
theorem dX12_rules_159 : decode cX12_rules 159 = .ok (.aload_n 0, 1) := by decide +kernel
theorem dX12_rules_160 : decode cX12_rules 160 = .ok (.getfield 103, 3) := by decide +kernel
theorem dX12_rules_163 : decode cX12_rules 163 = .ok (.iload_n 3, 1) := by decide +kernel
theorem dX12_rules_164 : decode cX12_rules 164 = .ok (.aload_n 0, 1) := by decide +kernel
theorem dX12_rules_165 : decode cX12_rules 165 = .ok (.getfield 121, 3) := by decide +kernel
theorem dX12_rules_168 : decode cX12_rules 168 = .ok (.iload_n 3, 1) := by decide +kernel
theorem dX12_rules_169 : decode cX12_rules 169 = .ok (.iaload, 1) := by decide +kernel
theorem dX12_rules_170 : decode cX12_rules 170 = .ok (.iastore, 1) := by decide +kernel
theorem dX12_rules_171 : decode cX12_rules 171 = .ok (.aload_n 0, 1) := by decide +kernel
theorem dX12_rules_172 : decode cX12_rules 172 = .ok (.getfield 106, 3) := by decide +kernel
theorem dX12_rules_175 : decode cX12_rules 175 = .ok (.iload_n 3, 1) := by decide +kernel
theorem dX12_rules_176 : decode cX12_rules 176 = .ok (.aload_n 0, 1) := by decide +kernel
theorem dX12_rules_177 : decode cX12_rules 177 = .ok (.getfield 124, 3) := by decide +kernel
theorem dX12_rules_180 : decode cX12_rules 180 = .ok (.iload_n 3, 1) := by decide +kernel
theorem dX12_rules_181 : decode cX12_rules 181 = .ok (.iaload, 1) := by decide +kernel
theorem dX12_rules_182 : decode cX12_rules 182 = .ok (.iastore, 1) := by decide +kernel
theorem dX12_rules_183 : decode cX12_rules 183 = .ok (.iinc 3 1, 3) := by decide +kernel
theorem dX12_rules_186 : decode cX12_rules 186 = .ok (.goto (-57), 3) := by decide +kernel
theorem dX12_rules_189 : decode cX12_rules 189 = .ok (.iconst 0, 1) := by decide +kernel
theorem dX12_rules_190 : decode cX12_rules 190 = .ok (.istore_n 3, 1) := by decide +kernel
theorem dX12_rules_191 : decode cX12_rules 191 = .ok (.iload_n 3, 1) := by decide +kernel
theorem dX12_rules_192 : decode cX12_rules 192 = .ok (.bipush 48, 2) := by decide +kernel
theorem dX12_rules_194 : decode cX12_rules 194 = .ok (.if_icmp .ge 45, 3) := by decide +kernel
theorem dX12_rules_197 : decode cX12_rules 197 = .ok (.aload_n 0, 1) := by decide +kernel
theorem dX12_rules_198 : decode cX12_rules 198 = .ok (.getfield 109, 3) := by decide +kernel
theorem dX12_rules_201 : decode cX12_rules 201 = .ok (.iload_n 3, 1) := by decide +kernel
theorem dX12_rules_202 : decode cX12_rules 202 = .ok (.aload_n 0, 1) := by decide +kernel
theorem dX12_rules_203 : decode cX12_rules 203 = .ok (.getfield 127, 3) := by decide +kernel
theorem dX12_rules_206 : decode cX12_rules 206 = .ok (.iload_n 3, 1) := by decide +kernel
theorem dX12_rules_207 : decode cX12_rules 207 = .ok (.iaload, 1) := by decide +kernel
theorem dX12_rules_208 : decode cX12_rules 208 = .ok (.iastore, 1) := by decide +kernel
theorem dX12_rules_209 : decode cX12_rules 209 = .ok (.aload_n 0, 1) := by decide +kernel
theorem dX12_rules_210 : decode cX12_rules 210 = .ok (.getfield 112, 3) := by decide +kernel
theorem dX12_rules_213 : decode cX12_rules 213 = .ok (.iload_n 3, 1) := by decide +kernel
theorem dX12_rules_214 : decode cX12_rules 214 = .ok (.aload_n 0, 1) := by decide +kernel
theorem dX12_rules_215 : decode cX12_rules 215 = .ok (.getfield 130, 3) := by decide +kernel
theorem dX12_rules_218 : decode cX12_rules 218 = .ok (.iload_n 3, 1) := by decide +kernel
theorem dX12_rules_219 : decode cX12_rules 219 = .ok (.iaload, 1) := by decide +kernel
theorem dX12_rules_220 : decode cX12_rules 220 = .ok (.iastore, 1) := by decide +kernel
theorem dX12_rules_221 : decode cX12_rules 221 = .ok (.aload_n 0, 1) := by decide +kernel
theorem dX12_rules_222 : decode cX12_rules 222 = .ok (.getfield 115, 3) := by decide +kernel
theorem dX12_rules_225 : decode cX12_rules 225 = .ok (.iload_n 3, 1) := by decide +kernel
theorem dX12_rules_226 : decode cX12_rules 226 = .ok (.aload_n 0, 1) := by decide +kernel
theorem dX12_rules_227 : decode cX12_rules 227 = .ok (.getfield 133, 3) := by decide +kernel
theorem dX12_rules_230 : decode cX12_rules 230 = .ok (.iload_n 3, 1) := by decide +kernel
theorem dX12_rules_231 : decode cX12_rules 231 = .ok (.iaload, 1) := by decide +kernel
theorem dX12_rules_232 : decode cX12_rules 232 = .ok (.iastore, 1) := by decide +kernel
theorem dX12_rules_233 : decode cX12_rules 233 = .ok (.iinc 3 1, 3) := by decide +kernel
theorem dX12_rules_236 : decode cX12_rules 236 = .ok (.goto (-45), 3) := by decide +kernel
theorem dX12_rules_239 : decode cX12_rules 239 = .ok (.aload_n 0, 1) := by decide +kernel
theorem dX12_rules_240 : decode cX12_rules 240 = .ok (.getfield 342, 3) := by decide +kernel
theorem dX12_rules_243 : decode cX12_rules 243 = .ok (.ireturn, 1) := by decide +kernel

theorem dX12_runs_0 : decode cX12_runs 0 = .ok (.iconst 1, 1) := by decide +kernel
theorem dX12_runs_1 : decode cX12_runs 1 = .ok (.istore_n 2, 1) := by decide +kernel
theorem dX12_runs_2 : decode cX12_runs 2 = .ok (.iload_n 1, 1) := by decide +kernel
theorem dX12_runs_3 : decode cX12_runs 3 = .ok (.istore_n 3, 1) := by decide +kernel
theorem dX12_runs_4 : decode cX12_runs 4 = .ok (.iload_n 3, 1) := by decide +kernel
theorem dX12_runs_5 : decode cX12_runs 5 = .ok (.ifCond .le 43, 3) := by decide +kernel
theorem dX12_runs_8 : decode cX12_runs 8 = .ok (.iload_n 2, 1) := by decide +kernel
theorem dX12_runs_9 : decode cX12_runs 9 = .ok (.ifCond .eq 27, 3) := by decide +kernel
theorem dX12_runs_12 : decode cX12_runs 12 = .ok (.aload_n 0, 1) := by decide +kernel
theorem dX12_runs_13 : decode cX12_runs 13 = .ok (.getfield 20, 3) := by decide +kernel
theorem dX12_runs_16 : decode cX12_runs 16 = .ok (.iload_n 3, 1) := by decide +kernel
theorem dX12_runs_17 : decode cX12_runs 17 = .ok (.iaload, 1) := by decide +kernel
theorem dX12_runs_18 : decode cX12_runs 18 = .ok (.aload_n 0, 1) := by decide +kernel
theorem dX12_runs_19 : decode cX12_runs 19 = .ok (.getfield 20, 3) := by decide +kernel
theorem dX12_runs_22 : decode cX12_runs 22 = .ok (.aload_n 0, 1) := by decide +kernel
theorem dX12_runs_23 : decode cX12_runs 23 = .ok (.getfield 13, 3) := by decide +kernel
theorem dX12_runs_26 : decode cX12_runs 26 = .ok (.iload_n 3, 1) := by decide +kernel
theorem dX12_runs_27 : decode cX12_runs 27 = .ok (.iaload, 1) := by decide +kernel
theorem dX12_runs_28 : decode cX12_runs 28 = .ok (.iaload, 1) := by decide +kernel
theorem dX12_runs_29 : decode cX12_runs 29 = .ok (.if_icmp .le 7, 3) := by decide +kernel
theorem dX12_runs_32 : decode cX12_runs 32 = .ok (.iconst 1, 1) := by decide +kernel
theorem dX12_runs_33 : decode cX12_runs 33 = .ok (.goto 4, 3) := by decide +kernel
theorem dX12_runs_36 : decode cX12_runs 36 = .ok (.iconst 0, 1) := by decide +kernel
theorem dX12_runs_37 : decode cX12_runs 37 = .ok (.istore_n 2, 1) := by decide +kernel
theorem dX12_runs_38 : decode cX12_runs 38 = .ok (.aload_n 0, 1) := by decide +kernel
theorem dX12_runs_39 : decode cX12_runs 39 = .ok (.getfield 13, 3) := by decide +kernel
theorem dX12_runs_42 : decode cX12_runs 42 = .ok (.iload_n 3, 1) := by decide +kernel
theorem dX12_runs_43 : decode cX12_runs 43 = .ok (.iaload, 1) := by decide +kernel
theorem dX12_runs_44 : decode cX12_runs 44 = .ok (.istore_n 3, 1) := by decide +kernel
theorem dX12_runs_45 : decode cX12_runs 45 = .ok (.goto (-41), 3) := by decide +kernel
theorem dX12_runs_48 : decode cX12_runs 48 = .ok (.iload_n 2, 1) := by decide +kernel
theorem dX12_runs_49 : decode cX12_runs 49 = .ok (.ireturn, 1) := by decide +kernel

theorem dX12_sell_0 : decode cX12_sell 0 = .ok (.iload_n 1, 1) := by decide +kernel
theorem dX12_sell_1 : decode cX12_sell 1 = .ok (.iconst 0, 1) := by decide +kernel
theorem dX12_sell_2 : decode cX12_sell 2 = .ok (.iconst 4, 1) := by decide +kernel
theorem dX12_sell_3 : decode cX12_sell 3 = .ok (.invokestatic 136, 3) := by decide +kernel
theorem dX12_sell_6 : decode cX12_sell 6 = .ok (.ifCond .eq 13, 3) := by decide +kernel
theorem dX12_sell_9 : decode cX12_sell 9 = .ok (.iload_n 2, 1) := by decide +kernel
theorem dX12_sell_10 : decode cX12_sell 10 = .ok (.iconst 0, 1) := by decide +kernel
theorem dX12_sell_11 : decode cX12_sell 11 = .ok (.ldc 247, 2) := by decide +kernel
theorem dX12_sell_13 : decode cX12_sell 13 = .ok (.invokestatic 136, 3) := by decide +kernel
theorem dX12_sell_16 : decode cX12_sell 16 = .ok (.ifCond .ne 5, 3) := by decide +kernel
theorem dX12_sell_19 : decode cX12_sell 19 = .ok (.iconst (-1), 1) := by decide +kernel
theorem dX12_sell_20 : decode cX12_sell 20 = .ok (.ireturn, 1) := by decide +kernel
theorem dX12_sell_21 : decode cX12_sell 21 = .ok (.lconst 0, 1) := by decide +kernel
theorem dX12_sell_22 : decode cX12_sell 22 = .ok (.lstore_n 3, 1) := by decide +kernel
theorem dX12_sell_23 : decode cX12_sell 23 = .ok (.iconst 0, 1) := by decide +kernel
theorem dX12_sell_24 : decode cX12_sell 24 = .ok (.istore 5, 2) := by decide +kernel
theorem dX12_sell_26 : decode cX12_sell 26 = .ok (.iload 5, 2) := by decide +kernel
theorem dX12_sell_28 : decode cX12_sell 28 = .ok (.bipush 10, 2) := by decide +kernel
theorem dX12_sell_30 : decode cX12_sell 30 = .ok (.if_icmp .ge 20, 3) := by decide +kernel
theorem dX12_sell_33 : decode cX12_sell 33 = .ok (.lload_n 3, 1) := by decide +kernel
theorem dX12_sell_34 : decode cX12_sell 34 = .ok (.aload_n 0, 1) := by decide +kernel
theorem dX12_sell_35 : decode cX12_sell 35 = .ok (.getfield 50, 3) := by decide +kernel
theorem dX12_sell_38 : decode cX12_sell 38 = .ok (.iload 5, 2) := by decide +kernel
theorem dX12_sell_40 : decode cX12_sell 40 = .ok (.iaload, 1) := by decide +kernel
theorem dX12_sell_41 : decode cX12_sell 41 = .ok (.i2l, 1) := by decide +kernel
theorem dX12_sell_42 : decode cX12_sell 42 = .ok (.ladd, 1) := by decide +kernel
theorem dX12_sell_43 : decode cX12_sell 43 = .ok (.lstore_n 3, 1) := by decide +kernel
theorem dX12_sell_44 : decode cX12_sell 44 = .ok (.iinc 5 1, 3) := by decide +kernel
theorem dX12_sell_47 : decode cX12_sell 47 = .ok (.goto (-21), 3) := by decide +kernel
theorem dX12_sell_50 : decode cX12_sell 50 = .ok (.iconst 0, 1) := by decide +kernel
theorem dX12_sell_51 : decode cX12_sell 51 = .ok (.istore 5, 2) := by decide +kernel
theorem dX12_sell_53 : decode cX12_sell 53 = .ok (.iconst 0, 1) := by decide +kernel
theorem dX12_sell_54 : decode cX12_sell 54 = .ok (.istore 6, 2) := by decide +kernel
theorem dX12_sell_56 : decode cX12_sell 56 = .ok (.iload 6, 2) := by decide +kernel
theorem dX12_sell_58 : decode cX12_sell 58 = .ok (.aload_n 0, 1) := by decide +kernel
theorem dX12_sell_59 : decode cX12_sell 59 = .ok (.getfield 261, 3) := by decide +kernel
theorem dX12_sell_62 : decode cX12_sell 62 = .ok (.if_icmp .ge 42, 3) := by decide +kernel
theorem dX12_sell_65 : decode cX12_sell 65 = .ok (.iload 5, 2) := by decide +kernel
theorem dX12_sell_67 : decode cX12_sell 67 = .ok (.aload_n 0, 1) := by decide +kernel
theorem dX12_sell_68 : decode cX12_sell 68 = .ok (.getfield 77, 3) := by decide +kernel
theorem dX12_sell_71 : decode cX12_sell 71 = .ok (.iload 6, 2) := by decide +kernel
theorem dX12_sell_73 : decode cX12_sell 73 = .ok (.baload, 1) := by decide +kernel
theorem dX12_sell_74 : decode cX12_sell 74 = .ok (.ifCond .ne 17, 3) := by decide +kernel
theorem dX12_sell_77 : decode cX12_sell 77 = .ok (.aload_n 0, 1) := by decide +kernel
theorem dX12_sell_78 : decode cX12_sell 78 = .ok (.iload 6, 2) := by decide +kernel
theorem dX12_sell_80 : decode cX12_sell 80 = .ok (.invokevirtual 270, 3) := by decide +kernel
theorem dX12_sell_83 : decode cX12_sell 83 = .ok (.iload_n 1, 1) := by decide +kernel
theorem dX12_sell_84 : decode cX12_sell 84 = .ok (.if_icmp .ne 7, 3) := by decide +kernel
theorem dX12_sell_87 : decode cX12_sell 87 = .ok (.iconst 1, 1) := by decide +kernel
theorem dX12_sell_88 : decode cX12_sell 88 = .ok (.goto 4, 3) := by decide +kernel
theorem dX12_sell_91 : decode cX12_sell 91 = .ok (.iconst 0, 1) := by decide +kernel
theorem dX12_sell_92 : decode cX12_sell 92 = .ok (.invokestatic 159, 3) := by decide +kernel
theorem dX12_sell_95 : decode cX12_sell 95 = .ok (.iadd, 1) := by decide +kernel
theorem dX12_sell_96 : decode cX12_sell 96 = .ok (.istore 5, 2) := by decide +kernel
theorem dX12_sell_98 : decode cX12_sell 98 = .ok (.iinc 6 1, 3) := by decide +kernel
theorem dX12_sell_101 : decode cX12_sell 101 = .ok (.goto (-45), 3) := by decide +kernel
theorem dX12_sell_104 : decode cX12_sell 104 = .ok (.iload 5, 2) := by decide +kernel
theorem dX12_sell_106 : decode cX12_sell 106 = .ok (.ifCond .eq 9, 3) := by decide +kernel
theorem dX12_sell_109 : decode cX12_sell 109 = .ok (.lload_n 3, 1) := by decide +kernel
theorem dX12_sell_110 : decode cX12_sell 110 = .ok (.lconst 0, 1) := by decide +kernel
theorem dX12_sell_111 : decode cX12_sell 111 = .ok (.lcmp, 1) := by decide +kernel
theorem dX12_sell_112 : decode cX12_sell 112 = .ok (.ifCond .ne 5, 3) := by decide +kernel
theorem dX12_sell_115 : decode cX12_sell 115 = .ok (.iconst (-1), 1) := by decide +kernel
theorem dX12_sell_116 : decode cX12_sell 116 = .ok (.ireturn, 1) := by decide +kernel
theorem dX12_sell_117 : decode cX12_sell 117 = .ok (.iconst 0, 1) := by decide +kernel
theorem dX12_sell_118 : decode cX12_sell 118 = .ok (.istore 6, 2) := by decide +kernel
theorem dX12_sell_120 : decode cX12_sell 120 = .ok (.iload 6, 2) := by decide +kernel
theorem dX12_sell_122 : decode cX12_sell 122 = .ok (.aload_n 0, 1) := by decide +kernel
theorem dX12_sell_123 : decode cX12_sell 123 = .ok (.getfield 261, 3) := by decide +kernel
theorem dX12_sell_126 : decode cX12_sell 126 = .ok (.if_icmp .ge 41, 3) := by decide +kernel
theorem dX12_sell_129 : decode cX12_sell 129 = .ok (.aload_n 0, 1) := by decide +kernel
theorem dX12_sell_130 : decode cX12_sell 130 = .ok (.getfield 77, 3) := by decide +kernel
theorem dX12_sell_133 : decode cX12_sell 133 = .ok (.iload 6, 2) := by decide +kernel
theorem dX12_sell_135 : decode cX12_sell 135 = .ok (.aload_n 0, 1) := by decide +kernel
theorem dX12_sell_136 : decode cX12_sell 136 = .ok (.getfield 77, 3) := by decide +kernel
theorem dX12_sell_139 : decode cX12_sell 139 = .ok (.iload 6, 2) := by decide +kernel
theorem dX12_sell_141 : decode cX12_sell 141 = .ok (.baload, 1) := by decide +kernel
theorem dX12_sell_142 : decode cX12_sell 142 = .ok (.ifCond .ne 13, 3) := by decide +kernel
theorem dX12_sell_145 : decode cX12_sell 145 = .ok (.aload_n 0, 1) := by decide +kernel
theorem dX12_sell_146 : decode cX12_sell 146 = .ok (.iload 6, 2) := by decide +kernel
theorem dX12_sell_148 : decode cX12_sell 148 = .ok (.invokevirtual 270, 3) := by decide +kernel
theorem dX12_sell_151 : decode cX12_sell 151 = .ok (.iload_n 1, 1) := by decide +kernel
theorem dX12_sell_152 : decode cX12_sell 152 = .ok (.if_icmp .ne 7, 3) := by decide +kernel
theorem dX12_sell_155 : decode cX12_sell 155 = .ok (.iconst 1, 1) := by decide +kernel
theorem dX12_sell_156 : decode cX12_sell 156 = .ok (.goto 4, 3) := by decide +kernel
theorem dX12_sell_159 : decode cX12_sell 159 = .ok (.iconst 0, 1) := by decide +kernel
theorem dX12_sell_160 : decode cX12_sell 160 = .ok (.bastore, 1) := by decide +kernel
theorem dX12_sell_161 : decode cX12_sell 161 = .ok (.iinc 6 1, 3) := by decide +kernel
theorem dX12_sell_164 : decode cX12_sell 164 = .ok (.goto (-44), 3) := by decide +kernel
theorem dX12_sell_167 : decode cX12_sell 167 = .ok (.iload_n 2, 1) := by decide +kernel
theorem dX12_sell_168 : decode cX12_sell 168 = .ok (.istore 6, 2) := by decide +kernel
theorem dX12_sell_170 : decode cX12_sell 170 = .ok (.iconst 0, 1) := by decide +kernel
theorem dX12_sell_171 : decode cX12_sell 171 = .ok (.istore 7, 2) := by decide +kernel
theorem dX12_sell_173 : decode cX12_sell 173 = .ok (.iload 7, 2) := by decide +kernel
theorem dX12_sell_175 : decode cX12_sell 175 = .ok (.bipush 10, 2) := by decide +kernel
theorem dX12_sell_177 : decode cX12_sell 177 = .ok (.if_icmp .ge 52, 3) := by decide +kernel
theorem dX12_sell_180 : decode cX12_sell 180 = .ok (.iload_n 2, 1) := by decide +kernel
theorem dX12_sell_181 : decode cX12_sell 181 = .ok (.i2l, 1) := by decide +kernel
theorem dX12_sell_182 : decode cX12_sell 182 = .ok (.aload_n 0, 1) := by decide +kernel
theorem dX12_sell_183 : decode cX12_sell 183 = .ok (.getfield 50, 3) := by decide +kernel
theorem dX12_sell_186 : decode cX12_sell 186 = .ok (.iload 7, 2) := by decide +kernel
theorem dX12_sell_188 : decode cX12_sell 188 = .ok (.iaload, 1) := by decide +kernel
theorem dX12_sell_189 : decode cX12_sell 189 = .ok (.i2l, 1) := by decide +kernel
theorem dX12_sell_190 : decode cX12_sell 190 = .ok (.lmul, 1) := by decide +kernel
theorem dX12_sell_191 : decode cX12_sell 191 = .ok (.lload_n 3, 1) := by decide +kernel
theorem dX12_sell_192 : decode cX12_sell 192 = .ok (.ldiv, 1) := by decide +kernel
theorem dX12_sell_193 : decode cX12_sell 193 = .ok (.l2i, 1) := by decide +kernel
theorem dX12_sell_194 : decode cX12_sell 194 = .ok (.istore 8, 2) := by decide +kernel
theorem dX12_sell_196 : decode cX12_sell 196 = .ok (.aload_n 0, 1) := by decide +kernel
theorem dX12_sell_197 : decode cX12_sell 197 = .ok (.getfield 53, 3) := by decide +kernel
theorem dX12_sell_200 : decode cX12_sell 200 = .ok (.iload 7, 2) := by decide +kernel
theorem dX12_sell_202 : decode cX12_sell 202 = .ok (.dup2, 1) := by decide +kernel
theorem dX12_sell_203 : decode cX12_sell 203 = .ok (.iaload, 1) := by decide +kernel
theorem dX12_sell_204 : decode cX12_sell 204 = .ok (.iload 8, 2) := by decide +kernel
theorem dX12_sell_206 : decode cX12_sell 206 = .ok (.iadd, 1) := by decide +kernel
theorem dX12_sell_207 : decode cX12_sell 207 = .ok (.iastore, 1) := by decide +kernel
theorem dX12_sell_208 : decode cX12_sell 208 = .ok (.iload 6, 2) := by decide +kernel
theorem dX12_sell_210 : decode cX12_sell 210 = .ok (.iload 8, 2) := by decide +kernel
theorem dX12_sell_212 : decode cX12_sell 212 = .ok (.isub, 1) := by decide +kernel
theorem dX12_sell_213 : decode cX12_sell 213 = .ok (.istore 6, 2) := by decide +kernel
theorem dX12_sell_215 : decode cX12_sell 215 = .ok (.aload_n 0, 1) := by decide +kernel
theorem dX12_sell_216 : decode cX12_sell 216 = .ok (.getfield 81, 3) := by decide +kernel
theorem dX12_sell_219 : decode cX12_sell 219 = .ok (.iload 7, 2) := by decide +kernel
theorem dX12_sell_221 : decode cX12_sell 221 = .ok (.iconst 0, 1) := by decide +kernel
theorem dX12_sell_222 : decode cX12_sell 222 = .ok (.bastore, 1) := by decide +kernel
theorem dX12_sell_223 : decode cX12_sell 223 = .ok (.iinc 7 1, 3) := by decide +kernel
theorem dX12_sell_226 : decode cX12_sell 226 = .ok (.goto (-53), 3) := by decide +kernel
theorem dX12_sell_229 : decode cX12_sell 229 = .ok (.iload 6, 2) := by decide +kernel
theorem dX12_sell_231 : decode cX12_sell 231 = .ok (.ifCond .le 97, 3) := by decide +kernel
theorem dX12_sell_234 : decode cX12_sell 234 = .ok (.iconst (-1), 1) := by decide +kernel
theorem dX12_sell_235 : decode cX12_sell 235 = .ok (.istore 7, 2) := by decide +kernel
theorem dX12_sell_237 : decode cX12_sell 237 = .ok (.iconst 0, 1) := by decide +kernel
theorem dX12_sell_238 : decode cX12_sell 238 = .ok (.istore 8, 2) := by decide +kernel
theorem dX12_sell_240 : decode cX12_sell 240 = .ok (.iload 8, 2) := by decide +kernel
theorem dX12_sell_242 : decode cX12_sell 242 = .ok (.bipush 10, 2) := by decide +kernel
theorem dX12_sell_244 : decode cX12_sell 244 = .ok (.if_icmp .ge 59, 3) := by decide +kernel
theorem dX12_sell_247 : decode cX12_sell 247 = .ok (.aload_n 0, 1) := by decide +kernel
theorem dX12_sell_248 : decode cX12_sell 248 = .ok (.getfield 81, 3) := by decide +kernel
theorem dX12_sell_251 : decode cX12_sell 251 = .ok (.iload 8, 2) := by decide +kernel
theorem dX12_sell_253 : decode cX12_sell 253 = .ok (.baload, 1) := by decide +kernel
theorem dX12_sell_254 : decode cX12_sell 254 = .ok (.ifCond .ne 43, 3) := by decide +kernel
theorem dX12_sell_257 : decode cX12_sell 257 = .ok (.iload 7, 2) := by decide +kernel
theorem dX12_sell_259 : decode cX12_sell 259 = .ok (.iconst (-1), 1) := by decide +kernel
theorem dX12_sell_260 : decode cX12_sell 260 = .ok (.if_icmp .eq 33, 3) := by decide +kernel
theorem dX12_sell_263 : decode cX12_sell 263 = .ok (.iload_n 2, 1) := by decide +kernel
theorem dX12_sell_264 : decode cX12_sell 264 = .ok (.i2l, 1) := by decide +kernel
theorem dX12_sell_265 : decode cX12_sell 265 = .ok (.aload_n 0, 1) := by decide +kernel
theorem dX12_sell_266 : decode cX12_sell 266 = .ok (.getfield 50, 3) := by decide +kernel
theorem dX12_sell_269 : decode cX12_sell 269 = .ok (.iload 8, 2) := by decide +kernel
theorem dX12_sell_271 : decode cX12_sell 271 = .ok (.iaload, 1) := by decide +kernel
theorem dX12_sell_272 : decode cX12_sell 272 = .ok (.i2l, 1) := by decide +kernel
theorem dX12_sell_273 : decode cX12_sell 273 = .ok (.lmul, 1) := by decide +kernel
theorem dX12_sell_274 : decode cX12_sell 274 = .ok (.lload_n 3, 1) := by decide +kernel
theorem dX12_sell_275 : decode cX12_sell 275 = .ok (.lrem, 1) := by decide +kernel
theorem dX12_sell_276 : decode cX12_sell 276 = .ok (.iload_n 2, 1) := by decide +kernel
theorem dX12_sell_277 : decode cX12_sell 277 = .ok (.i2l, 1) := by decide +kernel
theorem dX12_sell_278 : decode cX12_sell 278 = .ok (.aload_n 0, 1) := by decide +kernel
theorem dX12_sell_279 : decode cX12_sell 279 = .ok (.getfield 50, 3) := by decide +kernel
theorem dX12_sell_282 : decode cX12_sell 282 = .ok (.iload 7, 2) := by decide +kernel
theorem dX12_sell_284 : decode cX12_sell 284 = .ok (.iaload, 1) := by decide +kernel
theorem dX12_sell_285 : decode cX12_sell 285 = .ok (.i2l, 1) := by decide +kernel
theorem dX12_sell_286 : decode cX12_sell 286 = .ok (.lmul, 1) := by decide +kernel
theorem dX12_sell_287 : decode cX12_sell 287 = .ok (.lload_n 3, 1) := by decide +kernel
theorem dX12_sell_288 : decode cX12_sell 288 = .ok (.lrem, 1) := by decide +kernel
theorem dX12_sell_289 : decode cX12_sell 289 = .ok (.lcmp, 1) := by decide +kernel
theorem dX12_sell_290 : decode cX12_sell 290 = .ok (.ifCond .le 7, 3) := by decide +kernel
theorem dX12_sell_293 : decode cX12_sell 293 = .ok (.iload 8, 2) := by decide +kernel
theorem dX12_sell_295 : decode cX12_sell 295 = .ok (.istore 7, 2) := by decide +kernel
theorem dX12_sell_297 : decode cX12_sell 297 = .ok (.iinc 8 1, 3) := by decide +kernel
theorem dX12_sell_300 : decode cX12_sell 300 = .ok (.goto (-60), 3) := by decide +kernel
theorem dX12_sell_303 : decode cX12_sell 303 = .ok (.aload_n 0, 1) := by decide +kernel
theorem dX12_sell_304 : decode cX12_sell 304 = .ok (.getfield 81, 3) := by decide +kernel
theorem dX12_sell_307 : decode cX12_sell 307 = .ok (.iload 7, 2) := by decide +kernel
theorem dX12_sell_309 : decode cX12_sell 309 = .ok (.iconst 1, 1) := by decide +kernel
theorem dX12_sell_310 : decode cX12_sell 310 = .ok (.bastore, 1) := by decide +kernel
theorem dX12_sell_311 : decode cX12_sell 311 = .ok (.aload_n 0, 1) := by decide +kernel
theorem dX12_sell_312 : decode cX12_sell 312 = .ok (.getfield 53, 3) := by decide +kernel
theorem dX12_sell_315 : decode cX12_sell 315 = .ok (.iload 7, 2) := by decide +kernel
theorem dX12_sell_317 : decode cX12_sell 317 = .ok (.dup2, 1) := by decide +kernel
theorem dX12_sell_318 : decode cX12_sell 318 = .ok (.iaload, 1) := by decide +kernel
theorem dX12_sell_319 : decode cX12_sell 319 = .ok (.iconst 1, 1) := by decide +kernel
theorem dX12_sell_320 : decode cX12_sell 320 = .ok (.iadd, 1) := by decide +kernel
theorem dX12_sell_321 : decode cX12_sell 321 = .ok (.iastore, 1) := by decide +kernel
theorem dX12_sell_322 : decode cX12_sell 322 = .ok (.iinc 6 (-1), 3) := by decide +kernel
theorem dX12_sell_325 : decode cX12_sell 325 = .ok (.goto (-96), 3) := by decide +kernel
theorem dX12_sell_328 : decode cX12_sell 328 = .ok (.iload 5, 2) := by decide +kernel
theorem dX12_sell_330 : decode cX12_sell 330 = .ok (.ireturn, 1) := by decide +kernel

theorem dX12_strength_0 : decode cX12_strength 0 = .ok (.aload_n 0, 1) := by decide +kernel
theorem dX12_strength_1 : decode cX12_strength 1 = .ok (.getfield 220, 3) := by decide +kernel
theorem dX12_strength_4 : decode cX12_strength 4 = .ok (.ifCond .ne 7, 3) := by decide +kernel
theorem dX12_strength_7 : decode cX12_strength 7 = .ok (.iconst 0, 1) := by decide +kernel
theorem dX12_strength_8 : decode cX12_strength 8 = .ok (.goto 18, 3) := by decide +kernel
theorem dX12_strength_11 : decode cX12_strength 11 = .ok (.aload_n 0, 1) := by decide +kernel
theorem dX12_strength_12 : decode cX12_strength 12 = .ok (.getfield 223, 3) := by decide +kernel
theorem dX12_strength_15 : decode cX12_strength 15 = .ok (.ldc2_w 248, 3) := by decide +kernel
theorem dX12_strength_18 : decode cX12_strength 18 = .ok (.aload_n 0, 1) := by decide +kernel
theorem dX12_strength_19 : decode cX12_strength 19 = .ok (.getfield 220, 3) := by decide +kernel
theorem dX12_strength_22 : decode cX12_strength 22 = .ok (.i2l, 1) := by decide +kernel
theorem dX12_strength_23 : decode cX12_strength 23 = .ok (.lmul, 1) := by decide +kernel
theorem dX12_strength_24 : decode cX12_strength 24 = .ok (.ldiv, 1) := by decide +kernel
theorem dX12_strength_25 : decode cX12_strength 25 = .ok (.l2i, 1) := by decide +kernel
theorem dX12_strength_26 : decode cX12_strength 26 = .ok (.ireturn, 1) := by decide +kernel

theorem dX12_suspect_0 : decode cX12_suspect 0 = .ok (.iload_n 1, 1) := by decide +kernel
theorem dX12_suspect_1 : decode cX12_suspect 1 = .ok (.ifCond .eq 13, 3) := by decide +kernel
theorem dX12_suspect_4 : decode cX12_suspect 4 = .ok (.aload_n 0, 1) := by decide +kernel
theorem dX12_suspect_5 : decode cX12_suspect 5 = .ok (.getfield 29, 3) := by decide +kernel
theorem dX12_suspect_8 : decode cX12_suspect 8 = .ok (.iload_n 1, 1) := by decide +kernel
theorem dX12_suspect_9 : decode cX12_suspect 9 = .ok (.iaload, 1) := by decide +kernel
theorem dX12_suspect_10 : decode cX12_suspect 10 = .ok (.iconst (-1), 1) := by decide +kernel
theorem dX12_suspect_11 : decode cX12_suspect 11 = .ok (.if_icmp .ne 5, 3) := by decide +kernel
theorem dX12_suspect_14 : decode cX12_suspect 14 = .ok (.iconst 0, 1) := by decide +kernel
theorem dX12_suspect_15 : decode cX12_suspect 15 = .ok (.ireturn, 1) := by decide +kernel
theorem dX12_suspect_16 : decode cX12_suspect 16 = .ok (.aload_n 0, 1) := by decide +kernel
theorem dX12_suspect_17 : decode cX12_suspect 17 = .ok (.getfield 13, 3) := by decide +kernel
theorem dX12_suspect_20 : decode cX12_suspect 20 = .ok (.iload_n 1, 1) := by decide +kernel
theorem dX12_suspect_21 : decode cX12_suspect 21 = .ok (.iaload, 1) := by decide +kernel
theorem dX12_suspect_22 : decode cX12_suspect 22 = .ok (.istore_n 2, 1) := by decide +kernel
theorem dX12_suspect_23 : decode cX12_suspect 23 = .ok (.iload_n 2, 1) := by decide +kernel
theorem dX12_suspect_24 : decode cX12_suspect 24 = .ok (.ifCond .le 23, 3) := by decide +kernel
theorem dX12_suspect_27 : decode cX12_suspect 27 = .ok (.aload_n 0, 1) := by decide +kernel
theorem dX12_suspect_28 : decode cX12_suspect 28 = .ok (.getfield 29, 3) := by decide +kernel
theorem dX12_suspect_31 : decode cX12_suspect 31 = .ok (.iload_n 2, 1) := by decide +kernel
theorem dX12_suspect_32 : decode cX12_suspect 32 = .ok (.iaload, 1) := by decide +kernel
theorem dX12_suspect_33 : decode cX12_suspect 33 = .ok (.iconst (-1), 1) := by decide +kernel
theorem dX12_suspect_34 : decode cX12_suspect 34 = .ok (.if_icmp .ne 13, 3) := by decide +kernel
theorem dX12_suspect_37 : decode cX12_suspect 37 = .ok (.aload_n 0, 1) := by decide +kernel
theorem dX12_suspect_38 : decode cX12_suspect 38 = .ok (.getfield 13, 3) := by decide +kernel
theorem dX12_suspect_41 : decode cX12_suspect 41 = .ok (.iload_n 2, 1) := by decide +kernel
theorem dX12_suspect_42 : decode cX12_suspect 42 = .ok (.iaload, 1) := by decide +kernel
theorem dX12_suspect_43 : decode cX12_suspect 43 = .ok (.istore_n 2, 1) := by decide +kernel
theorem dX12_suspect_44 : decode cX12_suspect 44 = .ok (.goto (-21), 3) := by decide +kernel
theorem dX12_suspect_47 : decode cX12_suspect 47 = .ok (.iconst 0, 1) := by decide +kernel
theorem dX12_suspect_48 : decode cX12_suspect 48 = .ok (.iload_n 2, 1) := by decide +kernel
theorem dX12_suspect_49 : decode cX12_suspect 49 = .ok (.ifCond .ne 10, 3) := by decide +kernel
theorem dX12_suspect_52 : decode cX12_suspect 52 = .ok (.aload_n 0, 1) := by decide +kernel
theorem dX12_suspect_53 : decode cX12_suspect 53 = .ok (.getfield 143, 3) := by decide +kernel
theorem dX12_suspect_56 : decode cX12_suspect 56 = .ok (.goto 9, 3) := by decide +kernel
theorem dX12_suspect_59 : decode cX12_suspect 59 = .ok (.aload_n 0, 1) := by decide +kernel
theorem dX12_suspect_60 : decode cX12_suspect 60 = .ok (.getfield 29, 3) := by decide +kernel
theorem dX12_suspect_63 : decode cX12_suspect 63 = .ok (.iload_n 2, 1) := by decide +kernel
theorem dX12_suspect_64 : decode cX12_suspect 64 = .ok (.iaload, 1) := by decide +kernel
theorem dX12_suspect_65 : decode cX12_suspect 65 = .ok (.aload_n 0, 1) := by decide +kernel
theorem dX12_suspect_66 : decode cX12_suspect 66 = .ok (.getfield 29, 3) := by decide +kernel
theorem dX12_suspect_69 : decode cX12_suspect 69 = .ok (.iload_n 1, 1) := by decide +kernel
theorem dX12_suspect_70 : decode cX12_suspect 70 = .ok (.iaload, 1) := by decide +kernel
theorem dX12_suspect_71 : decode cX12_suspect 71 = .ok (.isub, 1) := by decide +kernel
theorem dX12_suspect_72 : decode cX12_suspect 72 = .ok (.invokestatic 146, 3) := by decide +kernel
theorem dX12_suspect_75 : decode cX12_suspect 75 = .ok (.ireturn, 1) := by decide +kernel

theorem dX12_tap_0 : decode cX12_tap 0 = .ok (.aload_n 0, 1) := by decide +kernel
theorem dX12_tap_1 : decode cX12_tap 1 = .ok (.iload_n 1, 1) := by decide +kernel
theorem dX12_tap_2 : decode cX12_tap 2 = .ok (.invokevirtual 173, 3) := by decide +kernel
theorem dX12_tap_5 : decode cX12_tap 5 = .ok (.ifCond .eq 14, 3) := by decide +kernel
theorem dX12_tap_8 : decode cX12_tap 8 = .ok (.iload_n 2, 1) := by decide +kernel
theorem dX12_tap_9 : decode cX12_tap 9 = .ok (.iconst 0, 1) := by decide +kernel
theorem dX12_tap_10 : decode cX12_tap 10 = .ok (.sipush 359, 3) := by decide +kernel
theorem dX12_tap_13 : decode cX12_tap 13 = .ok (.invokestatic 136, 3) := by decide +kernel
theorem dX12_tap_16 : decode cX12_tap 16 = .ok (.ifCond .ne 6, 3) := by decide +kernel
theorem dX12_tap_19 : decode cX12_tap 19 = .ok (.bipush (-2), 2) := by decide +kernel
theorem dX12_tap_21 : decode cX12_tap 21 = .ok (.ireturn, 1) := by decide +kernel
theorem dX12_tap_22 : decode cX12_tap 22 = .ok (.aload_n 0, 1) := by decide +kernel
theorem dX12_tap_23 : decode cX12_tap 23 = .ok (.iload_n 1, 1) := by decide +kernel
theorem dX12_tap_24 : decode cX12_tap 24 = .ok (.aload_n 0, 1) := by decide +kernel
theorem dX12_tap_25 : decode cX12_tap 25 = .ok (.getfield 176, 3) := by decide +kernel
theorem dX12_tap_28 : decode cX12_tap 28 = .ok (.invokevirtual 179, 3) := by decide +kernel
theorem dX12_tap_31 : decode cX12_tap 31 = .ok (.aload_n 0, 1) := by decide +kernel
theorem dX12_tap_32 : decode cX12_tap 32 = .ok (.iload_n 1, 1) := by decide +kernel
theorem dX12_tap_33 : decode cX12_tap 33 = .ok (.invokevirtual 182, 3) := by decide +kernel
theorem dX12_tap_36 : decode cX12_tap 36 = .ok (.if_icmp .lt 6, 3) := by decide +kernel
theorem dX12_tap_39 : decode cX12_tap 39 = .ok (.bipush (-3), 2) := by decide +kernel
theorem dX12_tap_41 : decode cX12_tap 41 = .ok (.ireturn, 1) := by decide +kernel
theorem dX12_tap_42 : decode cX12_tap 42 = .ok (.iconst 0, 1) := by decide +kernel
theorem dX12_tap_43 : decode cX12_tap 43 = .ok (.istore_n 3, 1) := by decide +kernel
theorem dX12_tap_44 : decode cX12_tap 44 = .ok (.iload_n 3, 1) := by decide +kernel
theorem dX12_tap_45 : decode cX12_tap 45 = .ok (.aload_n 0, 1) := by decide +kernel
theorem dX12_tap_46 : decode cX12_tap 46 = .ok (.getfield 170, 3) := by decide +kernel
theorem dX12_tap_49 : decode cX12_tap 49 = .ok (.if_icmp .ge 66, 3) := by decide +kernel
theorem dX12_tap_52 : decode cX12_tap 52 = .ok (.aload_n 0, 1) := by decide +kernel
theorem dX12_tap_53 : decode cX12_tap 53 = .ok (.getfield 44, 3) := by decide +kernel
theorem dX12_tap_56 : decode cX12_tap 56 = .ok (.iload_n 3, 1) := by decide +kernel
theorem dX12_tap_57 : decode cX12_tap 57 = .ok (.iaload, 1) := by decide +kernel
theorem dX12_tap_58 : decode cX12_tap 58 = .ok (.iload_n 2, 1) := by decide +kernel
theorem dX12_tap_59 : decode cX12_tap 59 = .ok (.isub, 1) := by decide +kernel
theorem dX12_tap_60 : decode cX12_tap 60 = .ok (.invokestatic 185, 3) := by decide +kernel
theorem dX12_tap_63 : decode cX12_tap 63 = .ok (.istore 4, 2) := by decide +kernel
theorem dX12_tap_65 : decode cX12_tap 65 = .ok (.aload_n 0, 1) := by decide +kernel
theorem dX12_tap_66 : decode cX12_tap 66 = .ok (.getfield 41, 3) := by decide +kernel
theorem dX12_tap_69 : decode cX12_tap 69 = .ok (.iload_n 3, 1) := by decide +kernel
theorem dX12_tap_70 : decode cX12_tap 70 = .ok (.iaload, 1) := by decide +kernel
theorem dX12_tap_71 : decode cX12_tap 71 = .ok (.iload_n 1, 1) := by decide +kernel
theorem dX12_tap_72 : decode cX12_tap 72 = .ok (.if_icmp .ne 37, 3) := by decide +kernel
theorem dX12_tap_75 : decode cX12_tap 75 = .ok (.aload_n 0, 1) := by decide +kernel
theorem dX12_tap_76 : decode cX12_tap 76 = .ok (.getfield 47, 3) := by decide +kernel
theorem dX12_tap_79 : decode cX12_tap 79 = .ok (.iload_n 3, 1) := by decide +kernel
theorem dX12_tap_80 : decode cX12_tap 80 = .ok (.iaload, 1) := by decide +kernel
theorem dX12_tap_81 : decode cX12_tap 81 = .ok (.aload_n 0, 1) := by decide +kernel
theorem dX12_tap_82 : decode cX12_tap 82 = .ok (.getfield 176, 3) := by decide +kernel
theorem dX12_tap_85 : decode cX12_tap 85 = .ok (.iconst 3, 1) := by decide +kernel
theorem dX12_tap_86 : decode cX12_tap 86 = .ok (.isub, 1) := by decide +kernel
theorem dX12_tap_87 : decode cX12_tap 87 = .ok (.if_icmp .lt 22, 3) := by decide +kernel
theorem dX12_tap_90 : decode cX12_tap 90 = .ok (.iload 4, 2) := by decide +kernel
theorem dX12_tap_92 : decode cX12_tap 92 = .ok (.sipush 360, 3) := by decide +kernel
theorem dX12_tap_95 : decode cX12_tap 95 = .ok (.iload 4, 2) := by decide +kernel
theorem dX12_tap_97 : decode cX12_tap 97 = .ok (.isub, 1) := by decide +kernel
theorem dX12_tap_98 : decode cX12_tap 98 = .ok (.invokestatic 188, 3) := by decide +kernel
theorem dX12_tap_101 : decode cX12_tap 101 = .ok (.bipush 40, 2) := by decide +kernel
theorem dX12_tap_103 : decode cX12_tap 103 = .ok (.if_icmp .ge 6, 3) := by decide +kernel
theorem dX12_tap_106 : decode cX12_tap 106 = .ok (.bipush (-4), 2) := by decide +kernel
theorem dX12_tap_108 : decode cX12_tap 108 = .ok (.ireturn, 1) := by decide +kernel
theorem dX12_tap_109 : decode cX12_tap 109 = .ok (.iinc 3 1, 3) := by decide +kernel
theorem dX12_tap_112 : decode cX12_tap 112 = .ok (.goto (-68), 3) := by decide +kernel
theorem dX12_tap_115 : decode cX12_tap 115 = .ok (.aload_n 0, 1) := by decide +kernel
theorem dX12_tap_116 : decode cX12_tap 116 = .ok (.getfield 170, 3) := by decide +kernel
theorem dX12_tap_119 : decode cX12_tap 119 = .ok (.sipush 300, 3) := by decide +kernel
theorem dX12_tap_122 : decode cX12_tap 122 = .ok (.if_icmp .ne 6, 3) := by decide +kernel
theorem dX12_tap_125 : decode cX12_tap 125 = .ok (.bipush (-5), 2) := by decide +kernel
theorem dX12_tap_127 : decode cX12_tap 127 = .ok (.ireturn, 1) := by decide +kernel
theorem dX12_tap_128 : decode cX12_tap 128 = .ok (.aload_n 0, 1) := by decide +kernel
theorem dX12_tap_129 : decode cX12_tap 129 = .ok (.getfield 41, 3) := by decide +kernel
theorem dX12_tap_132 : decode cX12_tap 132 = .ok (.aload_n 0, 1) := by decide +kernel
theorem dX12_tap_133 : decode cX12_tap 133 = .ok (.getfield 170, 3) := by decide +kernel
theorem dX12_tap_136 : decode cX12_tap 136 = .ok (.iload_n 1, 1) := by decide +kernel
theorem dX12_tap_137 : decode cX12_tap 137 = .ok (.iastore, 1) := by decide +kernel
theorem dX12_tap_138 : decode cX12_tap 138 = .ok (.aload_n 0, 1) := by decide +kernel
theorem dX12_tap_139 : decode cX12_tap 139 = .ok (.getfield 44, 3) := by decide +kernel
theorem dX12_tap_142 : decode cX12_tap 142 = .ok (.aload_n 0, 1) := by decide +kernel
theorem dX12_tap_143 : decode cX12_tap 143 = .ok (.getfield 170, 3) := by decide +kernel
theorem dX12_tap_146 : decode cX12_tap 146 = .ok (.iload_n 2, 1) := by decide +kernel
theorem dX12_tap_147 : decode cX12_tap 147 = .ok (.iastore, 1) := by decide +kernel
theorem dX12_tap_148 : decode cX12_tap 148 = .ok (.aload_n 0, 1) := by decide +kernel
theorem dX12_tap_149 : decode cX12_tap 149 = .ok (.getfield 47, 3) := by decide +kernel
theorem dX12_tap_152 : decode cX12_tap 152 = .ok (.aload_n 0, 1) := by decide +kernel
theorem dX12_tap_153 : decode cX12_tap 153 = .ok (.getfield 170, 3) := by decide +kernel
theorem dX12_tap_156 : decode cX12_tap 156 = .ok (.aload_n 0, 1) := by decide +kernel
theorem dX12_tap_157 : decode cX12_tap 157 = .ok (.getfield 176, 3) := by decide +kernel
theorem dX12_tap_160 : decode cX12_tap 160 = .ok (.iastore, 1) := by decide +kernel
theorem dX12_tap_161 : decode cX12_tap 161 = .ok (.aload_n 0, 1) := by decide +kernel
theorem dX12_tap_162 : decode cX12_tap 162 = .ok (.dup, 1) := by decide +kernel
theorem dX12_tap_163 : decode cX12_tap 163 = .ok (.getfield 170, 3) := by decide +kernel
theorem dX12_tap_166 : decode cX12_tap 166 = .ok (.iconst 1, 1) := by decide +kernel
theorem dX12_tap_167 : decode cX12_tap 167 = .ok (.iadd, 1) := by decide +kernel
theorem dX12_tap_168 : decode cX12_tap 168 = .ok (.putfield 170, 3) := by decide +kernel
theorem dX12_tap_171 : decode cX12_tap 171 = .ok (.aload_n 0, 1) := by decide +kernel
theorem dX12_tap_172 : decode cX12_tap 172 = .ok (.iload_n 1, 1) := by decide +kernel
theorem dX12_tap_173 : decode cX12_tap 173 = .ok (.iconst 0, 1) := by decide +kernel
theorem dX12_tap_174 : decode cX12_tap 174 = .ok (.invokevirtual 179, 3) := by decide +kernel
theorem dX12_tap_177 : decode cX12_tap 177 = .ok (.ireturn, 1) := by decide +kernel

theorem dX12_tree_0 : decode cX12_tree 0 = .ok (.aload_n 0, 1) := by decide +kernel
theorem dX12_tree_1 : decode cX12_tree 1 = .ok (.iload_n 1, 1) := by decide +kernel
theorem dX12_tree_2 : decode cX12_tree 2 = .ok (.invokevirtual 152, 3) := by decide +kernel
theorem dX12_tree_5 : decode cX12_tree 5 = .ok (.ifCond .eq 24, 3) := by decide +kernel
theorem dX12_tree_8 : decode cX12_tree 8 = .ok (.iload_n 2, 1) := by decide +kernel
theorem dX12_tree_9 : decode cX12_tree 9 = .ok (.bipush 30, 2) := by decide +kernel
theorem dX12_tree_11 : decode cX12_tree 11 = .ok (.sipush 400, 3) := by decide +kernel
theorem dX12_tree_14 : decode cX12_tree 14 = .ok (.invokestatic 136, 3) := by decide +kernel
theorem dX12_tree_17 : decode cX12_tree 17 = .ok (.ifCond .eq 12, 3) := by decide +kernel
theorem dX12_tree_20 : decode cX12_tree 20 = .ok (.aload_n 0, 1) := by decide +kernel
theorem dX12_tree_21 : decode cX12_tree 21 = .ok (.getfield 140, 3) := by decide +kernel
theorem dX12_tree_24 : decode cX12_tree 24 = .ok (.bipush 60, 2) := by decide +kernel
theorem dX12_tree_26 : decode cX12_tree 26 = .ok (.if_icmp .ne 5, 3) := by decide +kernel
theorem dX12_tree_29 : decode cX12_tree 29 = .ok (.iconst (-1), 1) := by decide +kernel
theorem dX12_tree_30 : decode cX12_tree 30 = .ok (.ireturn, 1) := by decide +kernel
theorem dX12_tree_31 : decode cX12_tree 31 = .ok (.aload_n 0, 1) := by decide +kernel
theorem dX12_tree_32 : decode cX12_tree 32 = .ok (.getfield 32, 3) := by decide +kernel
theorem dX12_tree_35 : decode cX12_tree 35 = .ok (.aload_n 0, 1) := by decide +kernel
theorem dX12_tree_36 : decode cX12_tree 36 = .ok (.getfield 140, 3) := by decide +kernel
theorem dX12_tree_39 : decode cX12_tree 39 = .ok (.iload_n 1, 1) := by decide +kernel
theorem dX12_tree_40 : decode cX12_tree 40 = .ok (.iastore, 1) := by decide +kernel
theorem dX12_tree_41 : decode cX12_tree 41 = .ok (.aload_n 0, 1) := by decide +kernel
theorem dX12_tree_42 : decode cX12_tree 42 = .ok (.getfield 35, 3) := by decide +kernel
theorem dX12_tree_45 : decode cX12_tree 45 = .ok (.aload_n 0, 1) := by decide +kernel
theorem dX12_tree_46 : decode cX12_tree 46 = .ok (.getfield 140, 3) := by decide +kernel
theorem dX12_tree_49 : decode cX12_tree 49 = .ok (.iload_n 2, 1) := by decide +kernel
theorem dX12_tree_50 : decode cX12_tree 50 = .ok (.iastore, 1) := by decide +kernel
theorem dX12_tree_51 : decode cX12_tree 51 = .ok (.aload_n 0, 1) := by decide +kernel
theorem dX12_tree_52 : decode cX12_tree 52 = .ok (.dup, 1) := by decide +kernel
theorem dX12_tree_53 : decode cX12_tree 53 = .ok (.getfield 140, 3) := by decide +kernel
theorem dX12_tree_56 : decode cX12_tree 56 = .ok (.iconst 1, 1) := by decide +kernel
theorem dX12_tree_57 : decode cX12_tree 57 = .ok (.iadd, 1) := by decide +kernel
theorem dX12_tree_58 : decode cX12_tree 58 = .ok (.putfield 140, 3) := by decide +kernel
theorem dX12_tree_61 : decode cX12_tree 61 = .ok (.aload_n 0, 1) := by decide +kernel
theorem dX12_tree_62 : decode cX12_tree 62 = .ok (.getfield 140, 3) := by decide +kernel
theorem dX12_tree_65 : decode cX12_tree 65 = .ok (.iconst 1, 1) := by decide +kernel
theorem dX12_tree_66 : decode cX12_tree 66 = .ok (.isub, 1) := by decide +kernel
theorem dX12_tree_67 : decode cX12_tree 67 = .ok (.ireturn, 1) := by decide +kernel

theorem dX12_treeOf_0 : decode cX12_treeOf 0 = .ok (.aload_n 0, 1) := by decide +kernel
theorem dX12_treeOf_1 : decode cX12_treeOf 1 = .ok (.iload_n 1, 1) := by decide +kernel
theorem dX12_treeOf_2 : decode cX12_treeOf 2 = .ok (.invokevirtual 173, 3) := by decide +kernel
theorem dX12_treeOf_5 : decode cX12_treeOf 5 = .ok (.ifCond .ne 5, 3) := by decide +kernel
theorem dX12_treeOf_8 : decode cX12_treeOf 8 = .ok (.iconst (-1), 1) := by decide +kernel
theorem dX12_treeOf_9 : decode cX12_treeOf 9 = .ok (.ireturn, 1) := by decide +kernel
theorem dX12_treeOf_10 : decode cX12_treeOf 10 = .ok (.iload_n 2, 1) := by decide +kernel
theorem dX12_treeOf_11 : decode cX12_treeOf 11 = .ok (.tableswitch 113 0 6 #[41, 48, 55, 65, 71, 78, 85], 41) := by decide +kernel
theorem dX12_treeOf_52 : decode cX12_treeOf 52 = .ok (.aload_n 0, 1) := by decide +kernel
theorem dX12_treeOf_53 : decode cX12_treeOf 53 = .ok (.getfield 32, 3) := by decide +kernel
theorem dX12_treeOf_56 : decode cX12_treeOf 56 = .ok (.iload_n 1, 1) := by decide +kernel
theorem dX12_treeOf_57 : decode cX12_treeOf 57 = .ok (.iaload, 1) := by decide +kernel
theorem dX12_treeOf_58 : decode cX12_treeOf 58 = .ok (.ireturn, 1) := by decide +kernel
theorem dX12_treeOf_59 : decode cX12_treeOf 59 = .ok (.aload_n 0, 1) := by decide +kernel
theorem dX12_treeOf_60 : decode cX12_treeOf 60 = .ok (.getfield 35, 3) := by decide +kernel
theorem dX12_treeOf_63 : decode cX12_treeOf 63 = .ok (.iload_n 1, 1) := by decide +kernel
theorem dX12_treeOf_64 : decode cX12_treeOf 64 = .ok (.iaload, 1) := by decide +kernel
theorem dX12_treeOf_65 : decode cX12_treeOf 65 = .ok (.ireturn, 1) := by decide +kernel
theorem dX12_treeOf_66 : decode cX12_treeOf 66 = .ok (.aload_n 0, 1) := by decide +kernel
theorem dX12_treeOf_67 : decode cX12_treeOf 67 = .ok (.iload_n 1, 1) := by decide +kernel
theorem dX12_treeOf_68 : decode cX12_treeOf 68 = .ok (.aload_n 0, 1) := by decide +kernel
theorem dX12_treeOf_69 : decode cX12_treeOf 69 = .ok (.getfield 176, 3) := by decide +kernel
theorem dX12_treeOf_72 : decode cX12_treeOf 72 = .ok (.invokevirtual 179, 3) := by decide +kernel
theorem dX12_treeOf_75 : decode cX12_treeOf 75 = .ok (.ireturn, 1) := by decide +kernel
theorem dX12_treeOf_76 : decode cX12_treeOf 76 = .ok (.aload_n 0, 1) := by decide +kernel
theorem dX12_treeOf_77 : decode cX12_treeOf 77 = .ok (.iload_n 1, 1) := by decide +kernel
theorem dX12_treeOf_78 : decode cX12_treeOf 78 = .ok (.invokevirtual 182, 3) := by decide +kernel
theorem dX12_treeOf_81 : decode cX12_treeOf 81 = .ok (.ireturn, 1) := by decide +kernel
theorem dX12_treeOf_82 : decode cX12_treeOf 82 = .ok (.aload_n 0, 1) := by decide +kernel
theorem dX12_treeOf_83 : decode cX12_treeOf 83 = .ok (.iload_n 1, 1) := by decide +kernel
theorem dX12_treeOf_84 : decode cX12_treeOf 84 = .ok (.iconst 0, 1) := by decide +kernel
theorem dX12_treeOf_85 : decode cX12_treeOf 85 = .ok (.invokevirtual 179, 3) := by decide +kernel
theorem dX12_treeOf_88 : decode cX12_treeOf 88 = .ok (.ireturn, 1) := by decide +kernel
theorem dX12_treeOf_89 : decode cX12_treeOf 89 = .ok (.aload_n 0, 1) := by decide +kernel
theorem dX12_treeOf_90 : decode cX12_treeOf 90 = .ok (.getfield 38, 3) := by decide +kernel
theorem dX12_treeOf_93 : decode cX12_treeOf 93 = .ok (.iload_n 1, 1) := by decide +kernel
theorem dX12_treeOf_94 : decode cX12_treeOf 94 = .ok (.iaload, 1) := by decide +kernel
theorem dX12_treeOf_95 : decode cX12_treeOf 95 = .ok (.ireturn, 1) := by decide +kernel
theorem dX12_treeOf_96 : decode cX12_treeOf 96 = .ok (.aload_n 0, 1) := by decide +kernel
theorem dX12_treeOf_97 : decode cX12_treeOf 97 = .ok (.getfield 191, 3) := by decide +kernel
theorem dX12_treeOf_100 : decode cX12_treeOf 100 = .ok (.ifCond .eq 19, 3) := by decide +kernel
theorem dX12_treeOf_103 : decode cX12_treeOf 103 = .ok (.aload_n 0, 1) := by decide +kernel
theorem dX12_treeOf_104 : decode cX12_treeOf 104 = .ok (.iload_n 1, 1) := by decide +kernel
theorem dX12_treeOf_105 : decode cX12_treeOf 105 = .ok (.aload_n 0, 1) := by decide +kernel
theorem dX12_treeOf_106 : decode cX12_treeOf 106 = .ok (.getfield 176, 3) := by decide +kernel
theorem dX12_treeOf_109 : decode cX12_treeOf 109 = .ok (.invokevirtual 179, 3) := by decide +kernel
theorem dX12_treeOf_112 : decode cX12_treeOf 112 = .ok (.ifCond .le 7, 3) := by decide +kernel
theorem dX12_treeOf_115 : decode cX12_treeOf 115 = .ok (.iconst 1, 1) := by decide +kernel
theorem dX12_treeOf_116 : decode cX12_treeOf 116 = .ok (.goto 4, 3) := by decide +kernel
theorem dX12_treeOf_119 : decode cX12_treeOf 119 = .ok (.iconst 0, 1) := by decide +kernel
theorem dX12_treeOf_120 : decode cX12_treeOf 120 = .ok (.invokestatic 159, 3) := by decide +kernel
theorem dX12_treeOf_123 : decode cX12_treeOf 123 = .ok (.ireturn, 1) := by decide +kernel
theorem dX12_treeOf_124 : decode cX12_treeOf 124 = .ok (.iconst (-1), 1) := by decide +kernel
theorem dX12_treeOf_125 : decode cX12_treeOf 125 = .ok (.ireturn, 1) := by decide +kernel

theorem dX12_vacuumAt_0 : decode cX12_vacuumAt 0 = .ok (.iconst 0, 1) := by decide +kernel
theorem dX12_vacuumAt_1 : decode cX12_vacuumAt 1 = .ok (.istore_n 2, 1) := by decide +kernel
theorem dX12_vacuumAt_2 : decode cX12_vacuumAt 2 = .ok (.iload_n 1, 1) := by decide +kernel
theorem dX12_vacuumAt_3 : decode cX12_vacuumAt 3 = .ok (.istore_n 3, 1) := by decide +kernel
theorem dX12_vacuumAt_4 : decode cX12_vacuumAt 4 = .ok (.iload_n 3, 1) := by decide +kernel
theorem dX12_vacuumAt_5 : decode cX12_vacuumAt 5 = .ok (.ifCond .le 22, 3) := by decide +kernel
theorem dX12_vacuumAt_8 : decode cX12_vacuumAt 8 = .ok (.iload_n 2, 1) := by decide +kernel
theorem dX12_vacuumAt_9 : decode cX12_vacuumAt 9 = .ok (.aload_n 0, 1) := by decide +kernel
theorem dX12_vacuumAt_10 : decode cX12_vacuumAt 10 = .ok (.getfield 26, 3) := by decide +kernel
theorem dX12_vacuumAt_13 : decode cX12_vacuumAt 13 = .ok (.iload_n 3, 1) := by decide +kernel
theorem dX12_vacuumAt_14 : decode cX12_vacuumAt 14 = .ok (.iaload, 1) := by decide +kernel
theorem dX12_vacuumAt_15 : decode cX12_vacuumAt 15 = .ok (.iadd, 1) := by decide +kernel
theorem dX12_vacuumAt_16 : decode cX12_vacuumAt 16 = .ok (.istore_n 2, 1) := by decide +kernel
theorem dX12_vacuumAt_17 : decode cX12_vacuumAt 17 = .ok (.aload_n 0, 1) := by decide +kernel
theorem dX12_vacuumAt_18 : decode cX12_vacuumAt 18 = .ok (.getfield 13, 3) := by decide +kernel
theorem dX12_vacuumAt_21 : decode cX12_vacuumAt 21 = .ok (.iload_n 3, 1) := by decide +kernel
theorem dX12_vacuumAt_22 : decode cX12_vacuumAt 22 = .ok (.iaload, 1) := by decide +kernel
theorem dX12_vacuumAt_23 : decode cX12_vacuumAt 23 = .ok (.istore_n 3, 1) := by decide +kernel
theorem dX12_vacuumAt_24 : decode cX12_vacuumAt 24 = .ok (.goto (-20), 3) := by decide +kernel
theorem dX12_vacuumAt_27 : decode cX12_vacuumAt 27 = .ok (.iconst 0, 1) := by decide +kernel
theorem dX12_vacuumAt_28 : decode cX12_vacuumAt 28 = .ok (.aload_n 0, 1) := by decide +kernel
theorem dX12_vacuumAt_29 : decode cX12_vacuumAt 29 = .ok (.getfield 143, 3) := by decide +kernel
theorem dX12_vacuumAt_32 : decode cX12_vacuumAt 32 = .ok (.iload_n 2, 1) := by decide +kernel
theorem dX12_vacuumAt_33 : decode cX12_vacuumAt 33 = .ok (.isub, 1) := by decide +kernel
theorem dX12_vacuumAt_34 : decode cX12_vacuumAt 34 = .ok (.invokestatic 146, 3) := by decide +kernel
theorem dX12_vacuumAt_37 : decode cX12_vacuumAt 37 = .ok (.ireturn, 1) := by decide +kernel

theorem dX12_wood_0 : decode cX12_wood 0 = .ok (.iload_n 1, 1) := by decide +kernel
theorem dX12_wood_1 : decode cX12_wood 1 = .ok (.iconst 0, 1) := by decide +kernel
theorem dX12_wood_2 : decode cX12_wood 2 = .ok (.sipush 10000, 3) := by decide +kernel
theorem dX12_wood_5 : decode cX12_wood 5 = .ok (.invokestatic 136, 3) := by decide +kernel
theorem dX12_wood_8 : decode cX12_wood 8 = .ok (.ifCond .eq 14, 3) := by decide +kernel
theorem dX12_wood_11 : decode cX12_wood 11 = .ok (.aload_n 0, 1) := by decide +kernel
theorem dX12_wood_12 : decode cX12_wood 12 = .ok (.getfield 244, 3) := by decide +kernel
theorem dX12_wood_15 : decode cX12_wood 15 = .ok (.iload_n 1, 1) := by decide +kernel
theorem dX12_wood_16 : decode cX12_wood 16 = .ok (.iadd, 1) := by decide +kernel
theorem dX12_wood_17 : decode cX12_wood 17 = .ok (.ldc 247, 2) := by decide +kernel
theorem dX12_wood_19 : decode cX12_wood 19 = .ok (.if_icmp .le 5, 3) := by decide +kernel
theorem dX12_wood_22 : decode cX12_wood 22 = .ok (.iconst (-1), 1) := by decide +kernel
theorem dX12_wood_23 : decode cX12_wood 23 = .ok (.ireturn, 1) := by decide +kernel
theorem dX12_wood_24 : decode cX12_wood 24 = .ok (.aload_n 0, 1) := by decide +kernel
theorem dX12_wood_25 : decode cX12_wood 25 = .ok (.dup, 1) := by decide +kernel
theorem dX12_wood_26 : decode cX12_wood 26 = .ok (.getfield 244, 3) := by decide +kernel
theorem dX12_wood_29 : decode cX12_wood 29 = .ok (.iload_n 1, 1) := by decide +kernel
theorem dX12_wood_30 : decode cX12_wood 30 = .ok (.iadd, 1) := by decide +kernel
theorem dX12_wood_31 : decode cX12_wood 31 = .ok (.putfield 244, 3) := by decide +kernel
theorem dX12_wood_34 : decode cX12_wood 34 = .ok (.aload_n 0, 1) := by decide +kernel
theorem dX12_wood_35 : decode cX12_wood 35 = .ok (.getfield 244, 3) := by decide +kernel
theorem dX12_wood_38 : decode cX12_wood 38 = .ok (.ireturn, 1) := by decide +kernel

theorem dX12_year_0 : decode cX12_year 0 = .ok (.aload_n 0, 1) := by decide +kernel
theorem dX12_year_1 : decode cX12_year 1 = .ok (.getfield 176, 3) := by decide +kernel
theorem dX12_year_4 : decode cX12_year 4 = .ok (.bipush 20, 2) := by decide +kernel
theorem dX12_year_6 : decode cX12_year 6 = .ok (.if_icmp .ne 5, 3) := by decide +kernel
theorem dX12_year_9 : decode cX12_year 9 = .ok (.iconst (-1), 1) := by decide +kernel
theorem dX12_year_10 : decode cX12_year 10 = .ok (.ireturn, 1) := by decide +kernel
theorem dX12_year_11 : decode cX12_year 11 = .ok (.aload_n 0, 1) := by decide +kernel
theorem dX12_year_12 : decode cX12_year 12 = .ok (.dup, 1) := by decide +kernel
theorem dX12_year_13 : decode cX12_year 13 = .ok (.getfield 176, 3) := by decide +kernel
theorem dX12_year_16 : decode cX12_year 16 = .ok (.iconst 1, 1) := by decide +kernel
theorem dX12_year_17 : decode cX12_year 17 = .ok (.iadd, 1) := by decide +kernel
theorem dX12_year_18 : decode cX12_year 18 = .ok (.putfield 176, 3) := by decide +kernel
theorem dX12_year_21 : decode cX12_year 21 = .ok (.aload_n 0, 1) := by decide +kernel
theorem dX12_year_22 : decode cX12_year 22 = .ok (.iconst 0, 1) := by decide +kernel
theorem dX12_year_23 : decode cX12_year 23 = .ok (.putfield 199, 3) := by decide +kernel
theorem dX12_year_26 : decode cX12_year 26 = .ok (.aload_n 0, 1) := by decide +kernel
theorem dX12_year_27 : decode cX12_year 27 = .ok (.iconst 0, 1) := by decide +kernel
theorem dX12_year_28 : decode cX12_year 28 = .ok (.putfield 205, 3) := by decide +kernel
theorem dX12_year_31 : decode cX12_year 31 = .ok (.aload_n 0, 1) := by decide +kernel
theorem dX12_year_32 : decode cX12_year 32 = .ok (.iconst 0, 1) := by decide +kernel
theorem dX12_year_33 : decode cX12_year 33 = .ok (.putfield 191, 3) := by decide +kernel
theorem dX12_year_36 : decode cX12_year 36 = .ok (.aload_n 0, 1) := by decide +kernel
theorem dX12_year_37 : decode cX12_year 37 = .ok (.iconst 0, 1) := by decide +kernel
theorem dX12_year_38 : decode cX12_year 38 = .ok (.putfield 214, 3) := by decide +kernel
theorem dX12_year_41 : decode cX12_year 41 = .ok (.aload_n 0, 1) := by decide +kernel
theorem dX12_year_42 : decode cX12_year 42 = .ok (.invokevirtual 236, 3) := by decide +kernel
theorem dX12_year_45 : decode cX12_year 45 = .ok (.iconst 0, 1) := by decide +kernel
theorem dX12_year_46 : decode cX12_year 46 = .ok (.istore_n 1, 1) := by decide +kernel
theorem dX12_year_47 : decode cX12_year 47 = .ok (.iload_n 1, 1) := by decide +kernel
theorem dX12_year_48 : decode cX12_year 48 = .ok (.aload_n 0, 1) := by decide +kernel
theorem dX12_year_49 : decode cX12_year 49 = .ok (.getfield 140, 3) := by decide +kernel
theorem dX12_year_52 : decode cX12_year 52 = .ok (.if_icmp .ge 16, 3) := by decide +kernel
theorem dX12_year_55 : decode cX12_year 55 = .ok (.aload_n 0, 1) := by decide +kernel
theorem dX12_year_56 : decode cX12_year 56 = .ok (.getfield 38, 3) := by decide +kernel
theorem dX12_year_59 : decode cX12_year 59 = .ok (.iload_n 1, 1) := by decide +kernel
theorem dX12_year_60 : decode cX12_year 60 = .ok (.iconst 0, 1) := by decide +kernel
theorem dX12_year_61 : decode cX12_year 61 = .ok (.iastore, 1) := by decide +kernel
theorem dX12_year_62 : decode cX12_year 62 = .ok (.iinc 1 1, 3) := by decide +kernel
theorem dX12_year_65 : decode cX12_year 65 = .ok (.goto (-18), 3) := by decide +kernel
theorem dX12_year_68 : decode cX12_year 68 = .ok (.iconst 0, 1) := by decide +kernel
theorem dX12_year_69 : decode cX12_year 69 = .ok (.istore_n 1, 1) := by decide +kernel
theorem dX12_year_70 : decode cX12_year 70 = .ok (.iload_n 1, 1) := by decide +kernel
theorem dX12_year_71 : decode cX12_year 71 = .ok (.bipush 10, 2) := by decide +kernel
theorem dX12_year_73 : decode cX12_year 73 = .ok (.if_icmp .ge 16, 3) := by decide +kernel
theorem dX12_year_76 : decode cX12_year 76 = .ok (.aload_n 0, 1) := by decide +kernel
theorem dX12_year_77 : decode cX12_year 77 = .ok (.getfield 50, 3) := by decide +kernel
theorem dX12_year_80 : decode cX12_year 80 = .ok (.iload_n 1, 1) := by decide +kernel
theorem dX12_year_81 : decode cX12_year 81 = .ok (.iconst 0, 1) := by decide +kernel
theorem dX12_year_82 : decode cX12_year 82 = .ok (.iastore, 1) := by decide +kernel
theorem dX12_year_83 : decode cX12_year 83 = .ok (.iinc 1 1, 3) := by decide +kernel
theorem dX12_year_86 : decode cX12_year 86 = .ok (.goto (-16), 3) := by decide +kernel
theorem dX12_year_89 : decode cX12_year 89 = .ok (.aload_n 0, 1) := by decide +kernel
theorem dX12_year_90 : decode cX12_year 90 = .ok (.getfield 176, 3) := by decide +kernel
theorem dX12_year_93 : decode cX12_year 93 = .ok (.ireturn, 1) := by decide +kernel
theorem dL_law_0 : decode code 0 = .ok (.new 7, 3) := by decide +kernel
theorem dL_law_3 : decode code 3 = .ok (.dup, 1) := by decide +kernel
theorem dL_law_4 : decode code 4 = .ok (.invokespecial 9, 3) := by decide +kernel
theorem dL_law_7 : decode code 7 = .ok (.astore_n 1, 1) := by decide +kernel
theorem dL_law_8 : decode code 8 = .ok (.new 10, 3) := by decide +kernel
theorem dL_law_11 : decode code 11 = .ok (.dup, 1) := by decide +kernel
theorem dL_law_12 : decode code 12 = .ok (.invokespecial 12, 3) := by decide +kernel
theorem dL_law_15 : decode code 15 = .ok (.astore_n 2, 1) := by decide +kernel
theorem dL_law_16 : decode code 16 = .ok (.iconst 0, 1) := by decide +kernel
theorem dL_law_17 : decode code 17 = .ok (.istore_n 3, 1) := by decide +kernel
theorem dL_law_18 : decode code 18 = .ok (.iload_n 3, 1) := by decide +kernel
theorem dL_law_19 : decode code 19 = .ok (.aload_n 0, 1) := by decide +kernel
theorem dL_law_20 : decode code 20 = .ok (.arraylength, 1) := by decide +kernel
theorem dL_law_21 : decode code 21 = .ok (.bipush 6, 2) := by decide +kernel
theorem dL_law_23 : decode code 23 = .ok (.isub, 1) := by decide +kernel
theorem dL_law_24 : decode code 24 = .ok (.if_icmp .gt 858, 3) := by decide +kernel
theorem dL_law_27 : decode code 27 = .ok (.aload_n 0, 1) := by decide +kernel
theorem dL_law_28 : decode code 28 = .ok (.iload_n 3, 1) := by decide +kernel
theorem dL_law_29 : decode code 29 = .ok (.iaload, 1) := by decide +kernel
theorem dL_law_30 : decode code 30 = .ok (.bipush 31, 2) := by decide +kernel
theorem dL_law_32 : decode code 32 = .ok (.iand, 1) := by decide +kernel
theorem dL_law_33 : decode code 33 = .ok (.tableswitch 843 0 23 #[111, 164, 197, 230, 263, 286, 319, 352, 385, 418, 431, 474, 497, 510, 533, 556, 579, 622, 655, 688, 721, 784, 807, 820], 111) := by decide +kernel
theorem dL_law_144 : decode code 144 = .ok (.aload_n 1, 1) := by decide +kernel
theorem dL_law_145 : decode code 145 = .ok (.aload_n 0, 1) := by decide +kernel
theorem dL_law_146 : decode code 146 = .ok (.iload_n 3, 1) := by decide +kernel
theorem dL_law_147 : decode code 147 = .ok (.iconst 1, 1) := by decide +kernel
theorem dL_law_148 : decode code 148 = .ok (.iadd, 1) := by decide +kernel
theorem dL_law_149 : decode code 149 = .ok (.iaload, 1) := by decide +kernel
theorem dL_law_150 : decode code 150 = .ok (.aload_n 0, 1) := by decide +kernel
theorem dL_law_151 : decode code 151 = .ok (.iload_n 3, 1) := by decide +kernel
theorem dL_law_152 : decode code 152 = .ok (.iconst 2, 1) := by decide +kernel
theorem dL_law_153 : decode code 153 = .ok (.iadd, 1) := by decide +kernel
theorem dL_law_154 : decode code 154 = .ok (.iaload, 1) := by decide +kernel
theorem dL_law_155 : decode code 155 = .ok (.aload_n 0, 1) := by decide +kernel
theorem dL_law_156 : decode code 156 = .ok (.iload_n 3, 1) := by decide +kernel
theorem dL_law_157 : decode code 157 = .ok (.iconst 3, 1) := by decide +kernel
theorem dL_law_158 : decode code 158 = .ok (.iadd, 1) := by decide +kernel
theorem dL_law_159 : decode code 159 = .ok (.iaload, 1) := by decide +kernel
theorem dL_law_160 : decode code 160 = .ok (.aload_n 0, 1) := by decide +kernel
theorem dL_law_161 : decode code 161 = .ok (.iload_n 3, 1) := by decide +kernel
theorem dL_law_162 : decode code 162 = .ok (.iconst 4, 1) := by decide +kernel
theorem dL_law_163 : decode code 163 = .ok (.iadd, 1) := by decide +kernel
theorem dL_law_164 : decode code 164 = .ok (.iaload, 1) := by decide +kernel
theorem dL_law_165 : decode code 165 = .ok (.invokevirtual 13, 3) := by decide +kernel
theorem dL_law_168 : decode code 168 = .ok (.aload_n 2, 1) := by decide +kernel
theorem dL_law_169 : decode code 169 = .ok (.aload_n 0, 1) := by decide +kernel
theorem dL_law_170 : decode code 170 = .ok (.iload_n 3, 1) := by decide +kernel
theorem dL_law_171 : decode code 171 = .ok (.iconst 1, 1) := by decide +kernel
theorem dL_law_172 : decode code 172 = .ok (.iadd, 1) := by decide +kernel
theorem dL_law_173 : decode code 173 = .ok (.iaload, 1) := by decide +kernel
theorem dL_law_174 : decode code 174 = .ok (.aload_n 0, 1) := by decide +kernel
theorem dL_law_175 : decode code 175 = .ok (.iload_n 3, 1) := by decide +kernel
theorem dL_law_176 : decode code 176 = .ok (.iconst 2, 1) := by decide +kernel
theorem dL_law_177 : decode code 177 = .ok (.iadd, 1) := by decide +kernel
theorem dL_law_178 : decode code 178 = .ok (.iaload, 1) := by decide +kernel
theorem dL_law_179 : decode code 179 = .ok (.aload_n 0, 1) := by decide +kernel
theorem dL_law_180 : decode code 180 = .ok (.iload_n 3, 1) := by decide +kernel
theorem dL_law_181 : decode code 181 = .ok (.iconst 3, 1) := by decide +kernel
theorem dL_law_182 : decode code 182 = .ok (.iadd, 1) := by decide +kernel
theorem dL_law_183 : decode code 183 = .ok (.iaload, 1) := by decide +kernel
theorem dL_law_184 : decode code 184 = .ok (.aload_n 0, 1) := by decide +kernel
theorem dL_law_185 : decode code 185 = .ok (.iload_n 3, 1) := by decide +kernel
theorem dL_law_186 : decode code 186 = .ok (.iconst 4, 1) := by decide +kernel
theorem dL_law_187 : decode code 187 = .ok (.iadd, 1) := by decide +kernel
theorem dL_law_188 : decode code 188 = .ok (.iaload, 1) := by decide +kernel
theorem dL_law_189 : decode code 189 = .ok (.invokevirtual 17, 3) := by decide +kernel
theorem dL_law_192 : decode code 192 = .ok (.if_icmp .eq 684, 3) := by decide +kernel
theorem dL_law_195 : decode code 195 = .ok (.iconst 0, 1) := by decide +kernel
theorem dL_law_196 : decode code 196 = .ok (.ireturn, 1) := by decide +kernel
theorem dL_law_197 : decode code 197 = .ok (.aload_n 1, 1) := by decide +kernel
theorem dL_law_198 : decode code 198 = .ok (.aload_n 0, 1) := by decide +kernel
theorem dL_law_199 : decode code 199 = .ok (.iload_n 3, 1) := by decide +kernel
theorem dL_law_200 : decode code 200 = .ok (.iconst 1, 1) := by decide +kernel
theorem dL_law_201 : decode code 201 = .ok (.iadd, 1) := by decide +kernel
theorem dL_law_202 : decode code 202 = .ok (.iaload, 1) := by decide +kernel
theorem dL_law_203 : decode code 203 = .ok (.aload_n 0, 1) := by decide +kernel
theorem dL_law_204 : decode code 204 = .ok (.iload_n 3, 1) := by decide +kernel
theorem dL_law_205 : decode code 205 = .ok (.iconst 2, 1) := by decide +kernel
theorem dL_law_206 : decode code 206 = .ok (.iadd, 1) := by decide +kernel
theorem dL_law_207 : decode code 207 = .ok (.iaload, 1) := by decide +kernel
theorem dL_law_208 : decode code 208 = .ok (.invokevirtual 18, 3) := by decide +kernel
theorem dL_law_211 : decode code 211 = .ok (.aload_n 2, 1) := by decide +kernel
theorem dL_law_212 : decode code 212 = .ok (.aload_n 0, 1) := by decide +kernel
theorem dL_law_213 : decode code 213 = .ok (.iload_n 3, 1) := by decide +kernel
theorem dL_law_214 : decode code 214 = .ok (.iconst 1, 1) := by decide +kernel
theorem dL_law_215 : decode code 215 = .ok (.iadd, 1) := by decide +kernel
theorem dL_law_216 : decode code 216 = .ok (.iaload, 1) := by decide +kernel
theorem dL_law_217 : decode code 217 = .ok (.aload_n 0, 1) := by decide +kernel
theorem dL_law_218 : decode code 218 = .ok (.iload_n 3, 1) := by decide +kernel
theorem dL_law_219 : decode code 219 = .ok (.iconst 2, 1) := by decide +kernel
theorem dL_law_220 : decode code 220 = .ok (.iadd, 1) := by decide +kernel
theorem dL_law_221 : decode code 221 = .ok (.iaload, 1) := by decide +kernel
theorem dL_law_222 : decode code 222 = .ok (.invokevirtual 22, 3) := by decide +kernel
theorem dL_law_225 : decode code 225 = .ok (.if_icmp .eq 651, 3) := by decide +kernel
theorem dL_law_228 : decode code 228 = .ok (.iconst 0, 1) := by decide +kernel
theorem dL_law_229 : decode code 229 = .ok (.ireturn, 1) := by decide +kernel
theorem dL_law_230 : decode code 230 = .ok (.aload_n 1, 1) := by decide +kernel
theorem dL_law_231 : decode code 231 = .ok (.aload_n 0, 1) := by decide +kernel
theorem dL_law_232 : decode code 232 = .ok (.iload_n 3, 1) := by decide +kernel
theorem dL_law_233 : decode code 233 = .ok (.iconst 1, 1) := by decide +kernel
theorem dL_law_234 : decode code 234 = .ok (.iadd, 1) := by decide +kernel
theorem dL_law_235 : decode code 235 = .ok (.iaload, 1) := by decide +kernel
theorem dL_law_236 : decode code 236 = .ok (.aload_n 0, 1) := by decide +kernel
theorem dL_law_237 : decode code 237 = .ok (.iload_n 3, 1) := by decide +kernel
theorem dL_law_238 : decode code 238 = .ok (.iconst 2, 1) := by decide +kernel
theorem dL_law_239 : decode code 239 = .ok (.iadd, 1) := by decide +kernel
theorem dL_law_240 : decode code 240 = .ok (.iaload, 1) := by decide +kernel
theorem dL_law_241 : decode code 241 = .ok (.invokevirtual 23, 3) := by decide +kernel
theorem dL_law_244 : decode code 244 = .ok (.aload_n 2, 1) := by decide +kernel
theorem dL_law_245 : decode code 245 = .ok (.aload_n 0, 1) := by decide +kernel
theorem dL_law_246 : decode code 246 = .ok (.iload_n 3, 1) := by decide +kernel
theorem dL_law_247 : decode code 247 = .ok (.iconst 1, 1) := by decide +kernel
theorem dL_law_248 : decode code 248 = .ok (.iadd, 1) := by decide +kernel
theorem dL_law_249 : decode code 249 = .ok (.iaload, 1) := by decide +kernel
theorem dL_law_250 : decode code 250 = .ok (.aload_n 0, 1) := by decide +kernel
theorem dL_law_251 : decode code 251 = .ok (.iload_n 3, 1) := by decide +kernel
theorem dL_law_252 : decode code 252 = .ok (.iconst 2, 1) := by decide +kernel
theorem dL_law_253 : decode code 253 = .ok (.iadd, 1) := by decide +kernel
theorem dL_law_254 : decode code 254 = .ok (.iaload, 1) := by decide +kernel
theorem dL_law_255 : decode code 255 = .ok (.invokevirtual 26, 3) := by decide +kernel
theorem dL_law_258 : decode code 258 = .ok (.if_icmp .eq 618, 3) := by decide +kernel
theorem dL_law_261 : decode code 261 = .ok (.iconst 0, 1) := by decide +kernel
theorem dL_law_262 : decode code 262 = .ok (.ireturn, 1) := by decide +kernel
theorem dL_law_263 : decode code 263 = .ok (.aload_n 1, 1) := by decide +kernel
theorem dL_law_264 : decode code 264 = .ok (.aload_n 0, 1) := by decide +kernel
theorem dL_law_265 : decode code 265 = .ok (.iload_n 3, 1) := by decide +kernel
theorem dL_law_266 : decode code 266 = .ok (.iconst 1, 1) := by decide +kernel
theorem dL_law_267 : decode code 267 = .ok (.iadd, 1) := by decide +kernel
theorem dL_law_268 : decode code 268 = .ok (.iaload, 1) := by decide +kernel
theorem dL_law_269 : decode code 269 = .ok (.aload_n 0, 1) := by decide +kernel
theorem dL_law_270 : decode code 270 = .ok (.iload_n 3, 1) := by decide +kernel
theorem dL_law_271 : decode code 271 = .ok (.iconst 2, 1) := by decide +kernel
theorem dL_law_272 : decode code 272 = .ok (.iadd, 1) := by decide +kernel
theorem dL_law_273 : decode code 273 = .ok (.iaload, 1) := by decide +kernel
theorem dL_law_274 : decode code 274 = .ok (.invokevirtual 27, 3) := by decide +kernel
theorem dL_law_277 : decode code 277 = .ok (.aload_n 2, 1) := by decide +kernel
theorem dL_law_278 : decode code 278 = .ok (.aload_n 0, 1) := by decide +kernel
theorem dL_law_279 : decode code 279 = .ok (.iload_n 3, 1) := by decide +kernel
theorem dL_law_280 : decode code 280 = .ok (.iconst 1, 1) := by decide +kernel
theorem dL_law_281 : decode code 281 = .ok (.iadd, 1) := by decide +kernel
theorem dL_law_282 : decode code 282 = .ok (.iaload, 1) := by decide +kernel
theorem dL_law_283 : decode code 283 = .ok (.aload_n 0, 1) := by decide +kernel
theorem dL_law_284 : decode code 284 = .ok (.iload_n 3, 1) := by decide +kernel
theorem dL_law_285 : decode code 285 = .ok (.iconst 2, 1) := by decide +kernel
theorem dL_law_286 : decode code 286 = .ok (.iadd, 1) := by decide +kernel
theorem dL_law_287 : decode code 287 = .ok (.iaload, 1) := by decide +kernel
theorem dL_law_288 : decode code 288 = .ok (.invokevirtual 31, 3) := by decide +kernel
theorem dL_law_291 : decode code 291 = .ok (.if_icmp .eq 585, 3) := by decide +kernel
theorem dL_law_294 : decode code 294 = .ok (.iconst 0, 1) := by decide +kernel
theorem dL_law_295 : decode code 295 = .ok (.ireturn, 1) := by decide +kernel
theorem dL_law_296 : decode code 296 = .ok (.aload_n 1, 1) := by decide +kernel
theorem dL_law_297 : decode code 297 = .ok (.aload_n 0, 1) := by decide +kernel
theorem dL_law_298 : decode code 298 = .ok (.iload_n 3, 1) := by decide +kernel
theorem dL_law_299 : decode code 299 = .ok (.iconst 1, 1) := by decide +kernel
theorem dL_law_300 : decode code 300 = .ok (.iadd, 1) := by decide +kernel
theorem dL_law_301 : decode code 301 = .ok (.iaload, 1) := by decide +kernel
theorem dL_law_302 : decode code 302 = .ok (.invokevirtual 32, 3) := by decide +kernel
theorem dL_law_305 : decode code 305 = .ok (.aload_n 2, 1) := by decide +kernel
theorem dL_law_306 : decode code 306 = .ok (.aload_n 0, 1) := by decide +kernel
theorem dL_law_307 : decode code 307 = .ok (.iload_n 3, 1) := by decide +kernel
theorem dL_law_308 : decode code 308 = .ok (.iconst 1, 1) := by decide +kernel
theorem dL_law_309 : decode code 309 = .ok (.iadd, 1) := by decide +kernel
theorem dL_law_310 : decode code 310 = .ok (.iaload, 1) := by decide +kernel
theorem dL_law_311 : decode code 311 = .ok (.invokevirtual 36, 3) := by decide +kernel
theorem dL_law_314 : decode code 314 = .ok (.if_icmp .eq 562, 3) := by decide +kernel
theorem dL_law_317 : decode code 317 = .ok (.iconst 0, 1) := by decide +kernel
theorem dL_law_318 : decode code 318 = .ok (.ireturn, 1) := by decide +kernel
theorem dL_law_319 : decode code 319 = .ok (.aload_n 1, 1) := by decide +kernel
theorem dL_law_320 : decode code 320 = .ok (.aload_n 0, 1) := by decide +kernel
theorem dL_law_321 : decode code 321 = .ok (.iload_n 3, 1) := by decide +kernel
theorem dL_law_322 : decode code 322 = .ok (.iconst 1, 1) := by decide +kernel
theorem dL_law_323 : decode code 323 = .ok (.iadd, 1) := by decide +kernel
theorem dL_law_324 : decode code 324 = .ok (.iaload, 1) := by decide +kernel
theorem dL_law_325 : decode code 325 = .ok (.aload_n 0, 1) := by decide +kernel
theorem dL_law_326 : decode code 326 = .ok (.iload_n 3, 1) := by decide +kernel
theorem dL_law_327 : decode code 327 = .ok (.iconst 2, 1) := by decide +kernel
theorem dL_law_328 : decode code 328 = .ok (.iadd, 1) := by decide +kernel
theorem dL_law_329 : decode code 329 = .ok (.iaload, 1) := by decide +kernel
theorem dL_law_330 : decode code 330 = .ok (.invokevirtual 37, 3) := by decide +kernel
theorem dL_law_333 : decode code 333 = .ok (.aload_n 2, 1) := by decide +kernel
theorem dL_law_334 : decode code 334 = .ok (.aload_n 0, 1) := by decide +kernel
theorem dL_law_335 : decode code 335 = .ok (.iload_n 3, 1) := by decide +kernel
theorem dL_law_336 : decode code 336 = .ok (.iconst 1, 1) := by decide +kernel
theorem dL_law_337 : decode code 337 = .ok (.iadd, 1) := by decide +kernel
theorem dL_law_338 : decode code 338 = .ok (.iaload, 1) := by decide +kernel
theorem dL_law_339 : decode code 339 = .ok (.aload_n 0, 1) := by decide +kernel
theorem dL_law_340 : decode code 340 = .ok (.iload_n 3, 1) := by decide +kernel
theorem dL_law_341 : decode code 341 = .ok (.iconst 2, 1) := by decide +kernel
theorem dL_law_342 : decode code 342 = .ok (.iadd, 1) := by decide +kernel
theorem dL_law_343 : decode code 343 = .ok (.iaload, 1) := by decide +kernel
theorem dL_law_344 : decode code 344 = .ok (.invokevirtual 40, 3) := by decide +kernel
theorem dL_law_347 : decode code 347 = .ok (.if_icmp .eq 529, 3) := by decide +kernel
theorem dL_law_350 : decode code 350 = .ok (.iconst 0, 1) := by decide +kernel
theorem dL_law_351 : decode code 351 = .ok (.ireturn, 1) := by decide +kernel
theorem dL_law_352 : decode code 352 = .ok (.aload_n 1, 1) := by decide +kernel
theorem dL_law_353 : decode code 353 = .ok (.aload_n 0, 1) := by decide +kernel
theorem dL_law_354 : decode code 354 = .ok (.iload_n 3, 1) := by decide +kernel
theorem dL_law_355 : decode code 355 = .ok (.iconst 1, 1) := by decide +kernel
theorem dL_law_356 : decode code 356 = .ok (.iadd, 1) := by decide +kernel
theorem dL_law_357 : decode code 357 = .ok (.iaload, 1) := by decide +kernel
theorem dL_law_358 : decode code 358 = .ok (.aload_n 0, 1) := by decide +kernel
theorem dL_law_359 : decode code 359 = .ok (.iload_n 3, 1) := by decide +kernel
theorem dL_law_360 : decode code 360 = .ok (.iconst 2, 1) := by decide +kernel
theorem dL_law_361 : decode code 361 = .ok (.iadd, 1) := by decide +kernel
theorem dL_law_362 : decode code 362 = .ok (.iaload, 1) := by decide +kernel
theorem dL_law_363 : decode code 363 = .ok (.invokevirtual 41, 3) := by decide +kernel
theorem dL_law_366 : decode code 366 = .ok (.aload_n 2, 1) := by decide +kernel
theorem dL_law_367 : decode code 367 = .ok (.aload_n 0, 1) := by decide +kernel
theorem dL_law_368 : decode code 368 = .ok (.iload_n 3, 1) := by decide +kernel
theorem dL_law_369 : decode code 369 = .ok (.iconst 1, 1) := by decide +kernel
theorem dL_law_370 : decode code 370 = .ok (.iadd, 1) := by decide +kernel
theorem dL_law_371 : decode code 371 = .ok (.iaload, 1) := by decide +kernel
theorem dL_law_372 : decode code 372 = .ok (.aload_n 0, 1) := by decide +kernel
theorem dL_law_373 : decode code 373 = .ok (.iload_n 3, 1) := by decide +kernel
theorem dL_law_374 : decode code 374 = .ok (.iconst 2, 1) := by decide +kernel
theorem dL_law_375 : decode code 375 = .ok (.iadd, 1) := by decide +kernel
theorem dL_law_376 : decode code 376 = .ok (.iaload, 1) := by decide +kernel
theorem dL_law_377 : decode code 377 = .ok (.invokevirtual 44, 3) := by decide +kernel
theorem dL_law_380 : decode code 380 = .ok (.if_icmp .eq 496, 3) := by decide +kernel
theorem dL_law_383 : decode code 383 = .ok (.iconst 0, 1) := by decide +kernel
theorem dL_law_384 : decode code 384 = .ok (.ireturn, 1) := by decide +kernel
theorem dL_law_385 : decode code 385 = .ok (.aload_n 1, 1) := by decide +kernel
theorem dL_law_386 : decode code 386 = .ok (.aload_n 0, 1) := by decide +kernel
theorem dL_law_387 : decode code 387 = .ok (.iload_n 3, 1) := by decide +kernel
theorem dL_law_388 : decode code 388 = .ok (.iconst 1, 1) := by decide +kernel
theorem dL_law_389 : decode code 389 = .ok (.iadd, 1) := by decide +kernel
theorem dL_law_390 : decode code 390 = .ok (.iaload, 1) := by decide +kernel
theorem dL_law_391 : decode code 391 = .ok (.aload_n 0, 1) := by decide +kernel
theorem dL_law_392 : decode code 392 = .ok (.iload_n 3, 1) := by decide +kernel
theorem dL_law_393 : decode code 393 = .ok (.iconst 2, 1) := by decide +kernel
theorem dL_law_394 : decode code 394 = .ok (.iadd, 1) := by decide +kernel
theorem dL_law_395 : decode code 395 = .ok (.iaload, 1) := by decide +kernel
theorem dL_law_396 : decode code 396 = .ok (.invokevirtual 45, 3) := by decide +kernel
theorem dL_law_399 : decode code 399 = .ok (.aload_n 2, 1) := by decide +kernel
theorem dL_law_400 : decode code 400 = .ok (.aload_n 0, 1) := by decide +kernel
theorem dL_law_401 : decode code 401 = .ok (.iload_n 3, 1) := by decide +kernel
theorem dL_law_402 : decode code 402 = .ok (.iconst 1, 1) := by decide +kernel
theorem dL_law_403 : decode code 403 = .ok (.iadd, 1) := by decide +kernel
theorem dL_law_404 : decode code 404 = .ok (.iaload, 1) := by decide +kernel
theorem dL_law_405 : decode code 405 = .ok (.aload_n 0, 1) := by decide +kernel
theorem dL_law_406 : decode code 406 = .ok (.iload_n 3, 1) := by decide +kernel
theorem dL_law_407 : decode code 407 = .ok (.iconst 2, 1) := by decide +kernel
theorem dL_law_408 : decode code 408 = .ok (.iadd, 1) := by decide +kernel
theorem dL_law_409 : decode code 409 = .ok (.iaload, 1) := by decide +kernel
theorem dL_law_410 : decode code 410 = .ok (.invokevirtual 48, 3) := by decide +kernel
theorem dL_law_413 : decode code 413 = .ok (.if_icmp .eq 463, 3) := by decide +kernel
theorem dL_law_416 : decode code 416 = .ok (.iconst 0, 1) := by decide +kernel
theorem dL_law_417 : decode code 417 = .ok (.ireturn, 1) := by decide +kernel
theorem dL_law_418 : decode code 418 = .ok (.aload_n 1, 1) := by decide +kernel
theorem dL_law_419 : decode code 419 = .ok (.aload_n 0, 1) := by decide +kernel
theorem dL_law_420 : decode code 420 = .ok (.iload_n 3, 1) := by decide +kernel
theorem dL_law_421 : decode code 421 = .ok (.iconst 1, 1) := by decide +kernel
theorem dL_law_422 : decode code 422 = .ok (.iadd, 1) := by decide +kernel
theorem dL_law_423 : decode code 423 = .ok (.iaload, 1) := by decide +kernel
theorem dL_law_424 : decode code 424 = .ok (.aload_n 0, 1) := by decide +kernel
theorem dL_law_425 : decode code 425 = .ok (.iload_n 3, 1) := by decide +kernel
theorem dL_law_426 : decode code 426 = .ok (.iconst 2, 1) := by decide +kernel
theorem dL_law_427 : decode code 427 = .ok (.iadd, 1) := by decide +kernel
theorem dL_law_428 : decode code 428 = .ok (.iaload, 1) := by decide +kernel
theorem dL_law_429 : decode code 429 = .ok (.invokevirtual 49, 3) := by decide +kernel
theorem dL_law_432 : decode code 432 = .ok (.aload_n 2, 1) := by decide +kernel
theorem dL_law_433 : decode code 433 = .ok (.aload_n 0, 1) := by decide +kernel
theorem dL_law_434 : decode code 434 = .ok (.iload_n 3, 1) := by decide +kernel
theorem dL_law_435 : decode code 435 = .ok (.iconst 1, 1) := by decide +kernel
theorem dL_law_436 : decode code 436 = .ok (.iadd, 1) := by decide +kernel
theorem dL_law_437 : decode code 437 = .ok (.iaload, 1) := by decide +kernel
theorem dL_law_438 : decode code 438 = .ok (.aload_n 0, 1) := by decide +kernel
theorem dL_law_439 : decode code 439 = .ok (.iload_n 3, 1) := by decide +kernel
theorem dL_law_440 : decode code 440 = .ok (.iconst 2, 1) := by decide +kernel
theorem dL_law_441 : decode code 441 = .ok (.iadd, 1) := by decide +kernel
theorem dL_law_442 : decode code 442 = .ok (.iaload, 1) := by decide +kernel
theorem dL_law_443 : decode code 443 = .ok (.invokevirtual 52, 3) := by decide +kernel
theorem dL_law_446 : decode code 446 = .ok (.if_icmp .eq 430, 3) := by decide +kernel
theorem dL_law_449 : decode code 449 = .ok (.iconst 0, 1) := by decide +kernel
theorem dL_law_450 : decode code 450 = .ok (.ireturn, 1) := by decide +kernel
theorem dL_law_451 : decode code 451 = .ok (.aload_n 1, 1) := by decide +kernel
theorem dL_law_452 : decode code 452 = .ok (.invokevirtual 53, 3) := by decide +kernel
theorem dL_law_455 : decode code 455 = .ok (.aload_n 2, 1) := by decide +kernel
theorem dL_law_456 : decode code 456 = .ok (.invokevirtual 57, 3) := by decide +kernel
theorem dL_law_459 : decode code 459 = .ok (.if_icmp .eq 417, 3) := by decide +kernel
theorem dL_law_462 : decode code 462 = .ok (.iconst 0, 1) := by decide +kernel
theorem dL_law_463 : decode code 463 = .ok (.ireturn, 1) := by decide +kernel
theorem dL_law_464 : decode code 464 = .ok (.aload_n 1, 1) := by decide +kernel
theorem dL_law_465 : decode code 465 = .ok (.aload_n 0, 1) := by decide +kernel
theorem dL_law_466 : decode code 466 = .ok (.iload_n 3, 1) := by decide +kernel
theorem dL_law_467 : decode code 467 = .ok (.iconst 1, 1) := by decide +kernel
theorem dL_law_468 : decode code 468 = .ok (.iadd, 1) := by decide +kernel
theorem dL_law_469 : decode code 469 = .ok (.iaload, 1) := by decide +kernel
theorem dL_law_470 : decode code 470 = .ok (.aload_n 0, 1) := by decide +kernel
theorem dL_law_471 : decode code 471 = .ok (.iload_n 3, 1) := by decide +kernel
theorem dL_law_472 : decode code 472 = .ok (.iconst 2, 1) := by decide +kernel
theorem dL_law_473 : decode code 473 = .ok (.iadd, 1) := by decide +kernel
theorem dL_law_474 : decode code 474 = .ok (.iaload, 1) := by decide +kernel
theorem dL_law_475 : decode code 475 = .ok (.aload_n 0, 1) := by decide +kernel
theorem dL_law_476 : decode code 476 = .ok (.iload_n 3, 1) := by decide +kernel
theorem dL_law_477 : decode code 477 = .ok (.iconst 3, 1) := by decide +kernel
theorem dL_law_478 : decode code 478 = .ok (.iadd, 1) := by decide +kernel
theorem dL_law_479 : decode code 479 = .ok (.iaload, 1) := by decide +kernel
theorem dL_law_480 : decode code 480 = .ok (.invokevirtual 58, 3) := by decide +kernel
theorem dL_law_483 : decode code 483 = .ok (.aload_n 2, 1) := by decide +kernel
theorem dL_law_484 : decode code 484 = .ok (.aload_n 0, 1) := by decide +kernel
theorem dL_law_485 : decode code 485 = .ok (.iload_n 3, 1) := by decide +kernel
theorem dL_law_486 : decode code 486 = .ok (.iconst 1, 1) := by decide +kernel
theorem dL_law_487 : decode code 487 = .ok (.iadd, 1) := by decide +kernel
theorem dL_law_488 : decode code 488 = .ok (.iaload, 1) := by decide +kernel
theorem dL_law_489 : decode code 489 = .ok (.aload_n 0, 1) := by decide +kernel
theorem dL_law_490 : decode code 490 = .ok (.iload_n 3, 1) := by decide +kernel
theorem dL_law_491 : decode code 491 = .ok (.iconst 2, 1) := by decide +kernel
theorem dL_law_492 : decode code 492 = .ok (.iadd, 1) := by decide +kernel
theorem dL_law_493 : decode code 493 = .ok (.iaload, 1) := by decide +kernel
theorem dL_law_494 : decode code 494 = .ok (.aload_n 0, 1) := by decide +kernel
theorem dL_law_495 : decode code 495 = .ok (.iload_n 3, 1) := by decide +kernel
theorem dL_law_496 : decode code 496 = .ok (.iconst 3, 1) := by decide +kernel
theorem dL_law_497 : decode code 497 = .ok (.iadd, 1) := by decide +kernel
theorem dL_law_498 : decode code 498 = .ok (.iaload, 1) := by decide +kernel
theorem dL_law_499 : decode code 499 = .ok (.invokevirtual 62, 3) := by decide +kernel
theorem dL_law_502 : decode code 502 = .ok (.if_icmp .eq 374, 3) := by decide +kernel
theorem dL_law_505 : decode code 505 = .ok (.iconst 0, 1) := by decide +kernel
theorem dL_law_506 : decode code 506 = .ok (.ireturn, 1) := by decide +kernel
theorem dL_law_507 : decode code 507 = .ok (.aload_n 1, 1) := by decide +kernel
theorem dL_law_508 : decode code 508 = .ok (.aload_n 0, 1) := by decide +kernel
theorem dL_law_509 : decode code 509 = .ok (.iload_n 3, 1) := by decide +kernel
theorem dL_law_510 : decode code 510 = .ok (.iconst 1, 1) := by decide +kernel
theorem dL_law_511 : decode code 511 = .ok (.iadd, 1) := by decide +kernel
theorem dL_law_512 : decode code 512 = .ok (.iaload, 1) := by decide +kernel
theorem dL_law_513 : decode code 513 = .ok (.invokevirtual 63, 3) := by decide +kernel
theorem dL_law_516 : decode code 516 = .ok (.aload_n 2, 1) := by decide +kernel
theorem dL_law_517 : decode code 517 = .ok (.aload_n 0, 1) := by decide +kernel
theorem dL_law_518 : decode code 518 = .ok (.iload_n 3, 1) := by decide +kernel
theorem dL_law_519 : decode code 519 = .ok (.iconst 1, 1) := by decide +kernel
theorem dL_law_520 : decode code 520 = .ok (.iadd, 1) := by decide +kernel
theorem dL_law_521 : decode code 521 = .ok (.iaload, 1) := by decide +kernel
theorem dL_law_522 : decode code 522 = .ok (.invokevirtual 67, 3) := by decide +kernel
theorem dL_law_525 : decode code 525 = .ok (.if_icmp .eq 351, 3) := by decide +kernel
theorem dL_law_528 : decode code 528 = .ok (.iconst 0, 1) := by decide +kernel
theorem dL_law_529 : decode code 529 = .ok (.ireturn, 1) := by decide +kernel
theorem dL_law_530 : decode code 530 = .ok (.aload_n 1, 1) := by decide +kernel
theorem dL_law_531 : decode code 531 = .ok (.invokevirtual 68, 3) := by decide +kernel
theorem dL_law_534 : decode code 534 = .ok (.aload_n 2, 1) := by decide +kernel
theorem dL_law_535 : decode code 535 = .ok (.invokevirtual 71, 3) := by decide +kernel
theorem dL_law_538 : decode code 538 = .ok (.if_icmp .eq 338, 3) := by decide +kernel
theorem dL_law_541 : decode code 541 = .ok (.iconst 0, 1) := by decide +kernel
theorem dL_law_542 : decode code 542 = .ok (.ireturn, 1) := by decide +kernel
theorem dL_law_543 : decode code 543 = .ok (.aload_n 1, 1) := by decide +kernel
theorem dL_law_544 : decode code 544 = .ok (.aload_n 0, 1) := by decide +kernel
theorem dL_law_545 : decode code 545 = .ok (.iload_n 3, 1) := by decide +kernel
theorem dL_law_546 : decode code 546 = .ok (.iconst 1, 1) := by decide +kernel
theorem dL_law_547 : decode code 547 = .ok (.iadd, 1) := by decide +kernel
theorem dL_law_548 : decode code 548 = .ok (.iaload, 1) := by decide +kernel
theorem dL_law_549 : decode code 549 = .ok (.invokevirtual 72, 3) := by decide +kernel
theorem dL_law_552 : decode code 552 = .ok (.aload_n 2, 1) := by decide +kernel
theorem dL_law_553 : decode code 553 = .ok (.aload_n 0, 1) := by decide +kernel
theorem dL_law_554 : decode code 554 = .ok (.iload_n 3, 1) := by decide +kernel
theorem dL_law_555 : decode code 555 = .ok (.iconst 1, 1) := by decide +kernel
theorem dL_law_556 : decode code 556 = .ok (.iadd, 1) := by decide +kernel
theorem dL_law_557 : decode code 557 = .ok (.iaload, 1) := by decide +kernel
theorem dL_law_558 : decode code 558 = .ok (.invokevirtual 75, 3) := by decide +kernel
theorem dL_law_561 : decode code 561 = .ok (.if_icmp .eq 315, 3) := by decide +kernel
theorem dL_law_564 : decode code 564 = .ok (.iconst 0, 1) := by decide +kernel
theorem dL_law_565 : decode code 565 = .ok (.ireturn, 1) := by decide +kernel
theorem dL_law_566 : decode code 566 = .ok (.aload_n 1, 1) := by decide +kernel
theorem dL_law_567 : decode code 567 = .ok (.aload_n 0, 1) := by decide +kernel
theorem dL_law_568 : decode code 568 = .ok (.iload_n 3, 1) := by decide +kernel
theorem dL_law_569 : decode code 569 = .ok (.iconst 1, 1) := by decide +kernel
theorem dL_law_570 : decode code 570 = .ok (.iadd, 1) := by decide +kernel
theorem dL_law_571 : decode code 571 = .ok (.iaload, 1) := by decide +kernel
theorem dL_law_572 : decode code 572 = .ok (.invokevirtual 76, 3) := by decide +kernel
theorem dL_law_575 : decode code 575 = .ok (.aload_n 2, 1) := by decide +kernel
theorem dL_law_576 : decode code 576 = .ok (.aload_n 0, 1) := by decide +kernel
theorem dL_law_577 : decode code 577 = .ok (.iload_n 3, 1) := by decide +kernel
theorem dL_law_578 : decode code 578 = .ok (.iconst 1, 1) := by decide +kernel
theorem dL_law_579 : decode code 579 = .ok (.iadd, 1) := by decide +kernel
theorem dL_law_580 : decode code 580 = .ok (.iaload, 1) := by decide +kernel
theorem dL_law_581 : decode code 581 = .ok (.invokevirtual 79, 3) := by decide +kernel
theorem dL_law_584 : decode code 584 = .ok (.if_icmp .eq 292, 3) := by decide +kernel
theorem dL_law_587 : decode code 587 = .ok (.iconst 0, 1) := by decide +kernel
theorem dL_law_588 : decode code 588 = .ok (.ireturn, 1) := by decide +kernel
theorem dL_law_589 : decode code 589 = .ok (.aload_n 1, 1) := by decide +kernel
theorem dL_law_590 : decode code 590 = .ok (.aload_n 0, 1) := by decide +kernel
theorem dL_law_591 : decode code 591 = .ok (.iload_n 3, 1) := by decide +kernel
theorem dL_law_592 : decode code 592 = .ok (.iconst 1, 1) := by decide +kernel
theorem dL_law_593 : decode code 593 = .ok (.iadd, 1) := by decide +kernel
theorem dL_law_594 : decode code 594 = .ok (.iaload, 1) := by decide +kernel
theorem dL_law_595 : decode code 595 = .ok (.invokevirtual 80, 3) := by decide +kernel
theorem dL_law_598 : decode code 598 = .ok (.aload_n 2, 1) := by decide +kernel
theorem dL_law_599 : decode code 599 = .ok (.aload_n 0, 1) := by decide +kernel
theorem dL_law_600 : decode code 600 = .ok (.iload_n 3, 1) := by decide +kernel
theorem dL_law_601 : decode code 601 = .ok (.iconst 1, 1) := by decide +kernel
theorem dL_law_602 : decode code 602 = .ok (.iadd, 1) := by decide +kernel
theorem dL_law_603 : decode code 603 = .ok (.iaload, 1) := by decide +kernel
theorem dL_law_604 : decode code 604 = .ok (.invokevirtual 83, 3) := by decide +kernel
theorem dL_law_607 : decode code 607 = .ok (.if_icmp .eq 269, 3) := by decide +kernel
theorem dL_law_610 : decode code 610 = .ok (.iconst 0, 1) := by decide +kernel
theorem dL_law_611 : decode code 611 = .ok (.ireturn, 1) := by decide +kernel
theorem dL_law_612 : decode code 612 = .ok (.aload_n 1, 1) := by decide +kernel
theorem dL_law_613 : decode code 613 = .ok (.aload_n 0, 1) := by decide +kernel
theorem dL_law_614 : decode code 614 = .ok (.iload_n 3, 1) := by decide +kernel
theorem dL_law_615 : decode code 615 = .ok (.iconst 1, 1) := by decide +kernel
theorem dL_law_616 : decode code 616 = .ok (.iadd, 1) := by decide +kernel
theorem dL_law_617 : decode code 617 = .ok (.iaload, 1) := by decide +kernel
theorem dL_law_618 : decode code 618 = .ok (.aload_n 0, 1) := by decide +kernel
theorem dL_law_619 : decode code 619 = .ok (.iload_n 3, 1) := by decide +kernel
theorem dL_law_620 : decode code 620 = .ok (.iconst 2, 1) := by decide +kernel
theorem dL_law_621 : decode code 621 = .ok (.iadd, 1) := by decide +kernel
theorem dL_law_622 : decode code 622 = .ok (.iaload, 1) := by decide +kernel
theorem dL_law_623 : decode code 623 = .ok (.aload_n 0, 1) := by decide +kernel
theorem dL_law_624 : decode code 624 = .ok (.iload_n 3, 1) := by decide +kernel
theorem dL_law_625 : decode code 625 = .ok (.iconst 3, 1) := by decide +kernel
theorem dL_law_626 : decode code 626 = .ok (.iadd, 1) := by decide +kernel
theorem dL_law_627 : decode code 627 = .ok (.iaload, 1) := by decide +kernel
theorem dL_law_628 : decode code 628 = .ok (.invokevirtual 84, 3) := by decide +kernel
theorem dL_law_631 : decode code 631 = .ok (.aload_n 2, 1) := by decide +kernel
theorem dL_law_632 : decode code 632 = .ok (.aload_n 0, 1) := by decide +kernel
theorem dL_law_633 : decode code 633 = .ok (.iload_n 3, 1) := by decide +kernel
theorem dL_law_634 : decode code 634 = .ok (.iconst 1, 1) := by decide +kernel
theorem dL_law_635 : decode code 635 = .ok (.iadd, 1) := by decide +kernel
theorem dL_law_636 : decode code 636 = .ok (.iaload, 1) := by decide +kernel
theorem dL_law_637 : decode code 637 = .ok (.aload_n 0, 1) := by decide +kernel
theorem dL_law_638 : decode code 638 = .ok (.iload_n 3, 1) := by decide +kernel
theorem dL_law_639 : decode code 639 = .ok (.iconst 2, 1) := by decide +kernel
theorem dL_law_640 : decode code 640 = .ok (.iadd, 1) := by decide +kernel
theorem dL_law_641 : decode code 641 = .ok (.iaload, 1) := by decide +kernel
theorem dL_law_642 : decode code 642 = .ok (.aload_n 0, 1) := by decide +kernel
theorem dL_law_643 : decode code 643 = .ok (.iload_n 3, 1) := by decide +kernel
theorem dL_law_644 : decode code 644 = .ok (.iconst 3, 1) := by decide +kernel
theorem dL_law_645 : decode code 645 = .ok (.iadd, 1) := by decide +kernel
theorem dL_law_646 : decode code 646 = .ok (.iaload, 1) := by decide +kernel
theorem dL_law_647 : decode code 647 = .ok (.invokevirtual 88, 3) := by decide +kernel
theorem dL_law_650 : decode code 650 = .ok (.if_icmp .eq 226, 3) := by decide +kernel
theorem dL_law_653 : decode code 653 = .ok (.iconst 0, 1) := by decide +kernel
theorem dL_law_654 : decode code 654 = .ok (.ireturn, 1) := by decide +kernel
theorem dL_law_655 : decode code 655 = .ok (.aload_n 1, 1) := by decide +kernel
theorem dL_law_656 : decode code 656 = .ok (.aload_n 0, 1) := by decide +kernel
theorem dL_law_657 : decode code 657 = .ok (.iload_n 3, 1) := by decide +kernel
theorem dL_law_658 : decode code 658 = .ok (.iconst 1, 1) := by decide +kernel
theorem dL_law_659 : decode code 659 = .ok (.iadd, 1) := by decide +kernel
theorem dL_law_660 : decode code 660 = .ok (.iaload, 1) := by decide +kernel
theorem dL_law_661 : decode code 661 = .ok (.aload_n 0, 1) := by decide +kernel
theorem dL_law_662 : decode code 662 = .ok (.iload_n 3, 1) := by decide +kernel
theorem dL_law_663 : decode code 663 = .ok (.iconst 2, 1) := by decide +kernel
theorem dL_law_664 : decode code 664 = .ok (.iadd, 1) := by decide +kernel
theorem dL_law_665 : decode code 665 = .ok (.iaload, 1) := by decide +kernel
theorem dL_law_666 : decode code 666 = .ok (.invokevirtual 89, 3) := by decide +kernel
theorem dL_law_669 : decode code 669 = .ok (.aload_n 2, 1) := by decide +kernel
theorem dL_law_670 : decode code 670 = .ok (.aload_n 0, 1) := by decide +kernel
theorem dL_law_671 : decode code 671 = .ok (.iload_n 3, 1) := by decide +kernel
theorem dL_law_672 : decode code 672 = .ok (.iconst 1, 1) := by decide +kernel
theorem dL_law_673 : decode code 673 = .ok (.iadd, 1) := by decide +kernel
theorem dL_law_674 : decode code 674 = .ok (.iaload, 1) := by decide +kernel
theorem dL_law_675 : decode code 675 = .ok (.aload_n 0, 1) := by decide +kernel
theorem dL_law_676 : decode code 676 = .ok (.iload_n 3, 1) := by decide +kernel
theorem dL_law_677 : decode code 677 = .ok (.iconst 2, 1) := by decide +kernel
theorem dL_law_678 : decode code 678 = .ok (.iadd, 1) := by decide +kernel
theorem dL_law_679 : decode code 679 = .ok (.iaload, 1) := by decide +kernel
theorem dL_law_680 : decode code 680 = .ok (.invokevirtual 92, 3) := by decide +kernel
theorem dL_law_683 : decode code 683 = .ok (.if_icmp .eq 193, 3) := by decide +kernel
theorem dL_law_686 : decode code 686 = .ok (.iconst 0, 1) := by decide +kernel
theorem dL_law_687 : decode code 687 = .ok (.ireturn, 1) := by decide +kernel
theorem dL_law_688 : decode code 688 = .ok (.aload_n 1, 1) := by decide +kernel
theorem dL_law_689 : decode code 689 = .ok (.aload_n 0, 1) := by decide +kernel
theorem dL_law_690 : decode code 690 = .ok (.iload_n 3, 1) := by decide +kernel
theorem dL_law_691 : decode code 691 = .ok (.iconst 1, 1) := by decide +kernel
theorem dL_law_692 : decode code 692 = .ok (.iadd, 1) := by decide +kernel
theorem dL_law_693 : decode code 693 = .ok (.iaload, 1) := by decide +kernel
theorem dL_law_694 : decode code 694 = .ok (.aload_n 0, 1) := by decide +kernel
theorem dL_law_695 : decode code 695 = .ok (.iload_n 3, 1) := by decide +kernel
theorem dL_law_696 : decode code 696 = .ok (.iconst 2, 1) := by decide +kernel
theorem dL_law_697 : decode code 697 = .ok (.iadd, 1) := by decide +kernel
theorem dL_law_698 : decode code 698 = .ok (.iaload, 1) := by decide +kernel
theorem dL_law_699 : decode code 699 = .ok (.invokevirtual 93, 3) := by decide +kernel
theorem dL_law_702 : decode code 702 = .ok (.aload_n 2, 1) := by decide +kernel
theorem dL_law_703 : decode code 703 = .ok (.aload_n 0, 1) := by decide +kernel
theorem dL_law_704 : decode code 704 = .ok (.iload_n 3, 1) := by decide +kernel
theorem dL_law_705 : decode code 705 = .ok (.iconst 1, 1) := by decide +kernel
theorem dL_law_706 : decode code 706 = .ok (.iadd, 1) := by decide +kernel
theorem dL_law_707 : decode code 707 = .ok (.iaload, 1) := by decide +kernel
theorem dL_law_708 : decode code 708 = .ok (.aload_n 0, 1) := by decide +kernel
theorem dL_law_709 : decode code 709 = .ok (.iload_n 3, 1) := by decide +kernel
theorem dL_law_710 : decode code 710 = .ok (.iconst 2, 1) := by decide +kernel
theorem dL_law_711 : decode code 711 = .ok (.iadd, 1) := by decide +kernel
theorem dL_law_712 : decode code 712 = .ok (.iaload, 1) := by decide +kernel
theorem dL_law_713 : decode code 713 = .ok (.invokevirtual 96, 3) := by decide +kernel
theorem dL_law_716 : decode code 716 = .ok (.if_icmp .eq 160, 3) := by decide +kernel
theorem dL_law_719 : decode code 719 = .ok (.iconst 0, 1) := by decide +kernel
theorem dL_law_720 : decode code 720 = .ok (.ireturn, 1) := by decide +kernel
theorem dL_law_721 : decode code 721 = .ok (.aload_n 1, 1) := by decide +kernel
theorem dL_law_722 : decode code 722 = .ok (.aload_n 0, 1) := by decide +kernel
theorem dL_law_723 : decode code 723 = .ok (.iload_n 3, 1) := by decide +kernel
theorem dL_law_724 : decode code 724 = .ok (.iconst 1, 1) := by decide +kernel
theorem dL_law_725 : decode code 725 = .ok (.iadd, 1) := by decide +kernel
theorem dL_law_726 : decode code 726 = .ok (.iaload, 1) := by decide +kernel
theorem dL_law_727 : decode code 727 = .ok (.aload_n 0, 1) := by decide +kernel
theorem dL_law_728 : decode code 728 = .ok (.iload_n 3, 1) := by decide +kernel
theorem dL_law_729 : decode code 729 = .ok (.iconst 2, 1) := by decide +kernel
theorem dL_law_730 : decode code 730 = .ok (.iadd, 1) := by decide +kernel
theorem dL_law_731 : decode code 731 = .ok (.iaload, 1) := by decide +kernel
theorem dL_law_732 : decode code 732 = .ok (.invokevirtual 97, 3) := by decide +kernel
theorem dL_law_735 : decode code 735 = .ok (.aload_n 2, 1) := by decide +kernel
theorem dL_law_736 : decode code 736 = .ok (.aload_n 0, 1) := by decide +kernel
theorem dL_law_737 : decode code 737 = .ok (.iload_n 3, 1) := by decide +kernel
theorem dL_law_738 : decode code 738 = .ok (.iconst 1, 1) := by decide +kernel
theorem dL_law_739 : decode code 739 = .ok (.iadd, 1) := by decide +kernel
theorem dL_law_740 : decode code 740 = .ok (.iaload, 1) := by decide +kernel
theorem dL_law_741 : decode code 741 = .ok (.aload_n 0, 1) := by decide +kernel
theorem dL_law_742 : decode code 742 = .ok (.iload_n 3, 1) := by decide +kernel
theorem dL_law_743 : decode code 743 = .ok (.iconst 2, 1) := by decide +kernel
theorem dL_law_744 : decode code 744 = .ok (.iadd, 1) := by decide +kernel
theorem dL_law_745 : decode code 745 = .ok (.iaload, 1) := by decide +kernel
theorem dL_law_746 : decode code 746 = .ok (.invokevirtual 100, 3) := by decide +kernel
theorem dL_law_749 : decode code 749 = .ok (.if_icmp .eq 127, 3) := by decide +kernel
theorem dL_law_752 : decode code 752 = .ok (.iconst 0, 1) := by decide +kernel
theorem dL_law_753 : decode code 753 = .ok (.ireturn, 1) := by decide +kernel
theorem dL_law_754 : decode code 754 = .ok (.aload_n 1, 1) := by decide +kernel
theorem dL_law_755 : decode code 755 = .ok (.aload_n 0, 1) := by decide +kernel
theorem dL_law_756 : decode code 756 = .ok (.iload_n 3, 1) := by decide +kernel
theorem dL_law_757 : decode code 757 = .ok (.iconst 1, 1) := by decide +kernel
theorem dL_law_758 : decode code 758 = .ok (.iadd, 1) := by decide +kernel
theorem dL_law_759 : decode code 759 = .ok (.iaload, 1) := by decide +kernel
theorem dL_law_760 : decode code 760 = .ok (.aload_n 0, 1) := by decide +kernel
theorem dL_law_761 : decode code 761 = .ok (.iload_n 3, 1) := by decide +kernel
theorem dL_law_762 : decode code 762 = .ok (.iconst 2, 1) := by decide +kernel
theorem dL_law_763 : decode code 763 = .ok (.iadd, 1) := by decide +kernel
theorem dL_law_764 : decode code 764 = .ok (.iaload, 1) := by decide +kernel
theorem dL_law_765 : decode code 765 = .ok (.aload_n 0, 1) := by decide +kernel
theorem dL_law_766 : decode code 766 = .ok (.iload_n 3, 1) := by decide +kernel
theorem dL_law_767 : decode code 767 = .ok (.iconst 3, 1) := by decide +kernel
theorem dL_law_768 : decode code 768 = .ok (.iadd, 1) := by decide +kernel
theorem dL_law_769 : decode code 769 = .ok (.iaload, 1) := by decide +kernel
theorem dL_law_770 : decode code 770 = .ok (.aload_n 0, 1) := by decide +kernel
theorem dL_law_771 : decode code 771 = .ok (.iload_n 3, 1) := by decide +kernel
theorem dL_law_772 : decode code 772 = .ok (.iconst 4, 1) := by decide +kernel
theorem dL_law_773 : decode code 773 = .ok (.iadd, 1) := by decide +kernel
theorem dL_law_774 : decode code 774 = .ok (.iaload, 1) := by decide +kernel
theorem dL_law_775 : decode code 775 = .ok (.aload_n 0, 1) := by decide +kernel
theorem dL_law_776 : decode code 776 = .ok (.iload_n 3, 1) := by decide +kernel
theorem dL_law_777 : decode code 777 = .ok (.iconst 5, 1) := by decide +kernel
theorem dL_law_778 : decode code 778 = .ok (.iadd, 1) := by decide +kernel
theorem dL_law_779 : decode code 779 = .ok (.iaload, 1) := by decide +kernel
theorem dL_law_780 : decode code 780 = .ok (.invokevirtual 101, 3) := by decide +kernel
theorem dL_law_783 : decode code 783 = .ok (.aload_n 2, 1) := by decide +kernel
theorem dL_law_784 : decode code 784 = .ok (.aload_n 0, 1) := by decide +kernel
theorem dL_law_785 : decode code 785 = .ok (.iload_n 3, 1) := by decide +kernel
theorem dL_law_786 : decode code 786 = .ok (.iconst 1, 1) := by decide +kernel
theorem dL_law_787 : decode code 787 = .ok (.iadd, 1) := by decide +kernel
theorem dL_law_788 : decode code 788 = .ok (.iaload, 1) := by decide +kernel
theorem dL_law_789 : decode code 789 = .ok (.aload_n 0, 1) := by decide +kernel
theorem dL_law_790 : decode code 790 = .ok (.iload_n 3, 1) := by decide +kernel
theorem dL_law_791 : decode code 791 = .ok (.iconst 2, 1) := by decide +kernel
theorem dL_law_792 : decode code 792 = .ok (.iadd, 1) := by decide +kernel
theorem dL_law_793 : decode code 793 = .ok (.iaload, 1) := by decide +kernel
theorem dL_law_794 : decode code 794 = .ok (.aload_n 0, 1) := by decide +kernel
theorem dL_law_795 : decode code 795 = .ok (.iload_n 3, 1) := by decide +kernel
theorem dL_law_796 : decode code 796 = .ok (.iconst 3, 1) := by decide +kernel
theorem dL_law_797 : decode code 797 = .ok (.iadd, 1) := by decide +kernel
theorem dL_law_798 : decode code 798 = .ok (.iaload, 1) := by decide +kernel
theorem dL_law_799 : decode code 799 = .ok (.aload_n 0, 1) := by decide +kernel
theorem dL_law_800 : decode code 800 = .ok (.iload_n 3, 1) := by decide +kernel
theorem dL_law_801 : decode code 801 = .ok (.iconst 4, 1) := by decide +kernel
theorem dL_law_802 : decode code 802 = .ok (.iadd, 1) := by decide +kernel
theorem dL_law_803 : decode code 803 = .ok (.iaload, 1) := by decide +kernel
theorem dL_law_804 : decode code 804 = .ok (.aload_n 0, 1) := by decide +kernel
theorem dL_law_805 : decode code 805 = .ok (.iload_n 3, 1) := by decide +kernel
theorem dL_law_806 : decode code 806 = .ok (.iconst 5, 1) := by decide +kernel
theorem dL_law_807 : decode code 807 = .ok (.iadd, 1) := by decide +kernel
theorem dL_law_808 : decode code 808 = .ok (.iaload, 1) := by decide +kernel
theorem dL_law_809 : decode code 809 = .ok (.invokevirtual 105, 3) := by decide +kernel
theorem dL_law_812 : decode code 812 = .ok (.if_icmp .eq 64, 3) := by decide +kernel
theorem dL_law_815 : decode code 815 = .ok (.iconst 0, 1) := by decide +kernel
theorem dL_law_816 : decode code 816 = .ok (.ireturn, 1) := by decide +kernel
theorem dL_law_817 : decode code 817 = .ok (.aload_n 1, 1) := by decide +kernel
theorem dL_law_818 : decode code 818 = .ok (.aload_n 0, 1) := by decide +kernel
theorem dL_law_819 : decode code 819 = .ok (.iload_n 3, 1) := by decide +kernel
theorem dL_law_820 : decode code 820 = .ok (.iconst 1, 1) := by decide +kernel
theorem dL_law_821 : decode code 821 = .ok (.iadd, 1) := by decide +kernel
theorem dL_law_822 : decode code 822 = .ok (.iaload, 1) := by decide +kernel
theorem dL_law_823 : decode code 823 = .ok (.invokevirtual 106, 3) := by decide +kernel
theorem dL_law_826 : decode code 826 = .ok (.aload_n 2, 1) := by decide +kernel
theorem dL_law_827 : decode code 827 = .ok (.aload_n 0, 1) := by decide +kernel
theorem dL_law_828 : decode code 828 = .ok (.iload_n 3, 1) := by decide +kernel
theorem dL_law_829 : decode code 829 = .ok (.iconst 1, 1) := by decide +kernel
theorem dL_law_830 : decode code 830 = .ok (.iadd, 1) := by decide +kernel
theorem dL_law_831 : decode code 831 = .ok (.iaload, 1) := by decide +kernel
theorem dL_law_832 : decode code 832 = .ok (.invokevirtual 109, 3) := by decide +kernel
theorem dL_law_835 : decode code 835 = .ok (.if_icmp .eq 41, 3) := by decide +kernel
theorem dL_law_838 : decode code 838 = .ok (.iconst 0, 1) := by decide +kernel
theorem dL_law_839 : decode code 839 = .ok (.ireturn, 1) := by decide +kernel
theorem dL_law_840 : decode code 840 = .ok (.aload_n 1, 1) := by decide +kernel
theorem dL_law_841 : decode code 841 = .ok (.invokevirtual 110, 3) := by decide +kernel
theorem dL_law_844 : decode code 844 = .ok (.aload_n 2, 1) := by decide +kernel
theorem dL_law_845 : decode code 845 = .ok (.invokevirtual 113, 3) := by decide +kernel
theorem dL_law_848 : decode code 848 = .ok (.if_icmp .eq 28, 3) := by decide +kernel
theorem dL_law_851 : decode code 851 = .ok (.iconst 0, 1) := by decide +kernel
theorem dL_law_852 : decode code 852 = .ok (.ireturn, 1) := by decide +kernel
theorem dL_law_853 : decode code 853 = .ok (.aload_n 1, 1) := by decide +kernel
theorem dL_law_854 : decode code 854 = .ok (.aload_n 0, 1) := by decide +kernel
theorem dL_law_855 : decode code 855 = .ok (.iload_n 3, 1) := by decide +kernel
theorem dL_law_856 : decode code 856 = .ok (.iconst 1, 1) := by decide +kernel
theorem dL_law_857 : decode code 857 = .ok (.iadd, 1) := by decide +kernel
theorem dL_law_858 : decode code 858 = .ok (.iaload, 1) := by decide +kernel
theorem dL_law_859 : decode code 859 = .ok (.invokevirtual 114, 3) := by decide +kernel
theorem dL_law_862 : decode code 862 = .ok (.aload_n 2, 1) := by decide +kernel
theorem dL_law_863 : decode code 863 = .ok (.aload_n 0, 1) := by decide +kernel
theorem dL_law_864 : decode code 864 = .ok (.iload_n 3, 1) := by decide +kernel
theorem dL_law_865 : decode code 865 = .ok (.iconst 1, 1) := by decide +kernel
theorem dL_law_866 : decode code 866 = .ok (.iadd, 1) := by decide +kernel
theorem dL_law_867 : decode code 867 = .ok (.iaload, 1) := by decide +kernel
theorem dL_law_868 : decode code 868 = .ok (.invokevirtual 117, 3) := by decide +kernel
theorem dL_law_871 : decode code 871 = .ok (.if_icmp .eq 5, 3) := by decide +kernel
theorem dL_law_874 : decode code 874 = .ok (.iconst 0, 1) := by decide +kernel
theorem dL_law_875 : decode code 875 = .ok (.ireturn, 1) := by decide +kernel
theorem dL_law_876 : decode code 876 = .ok (.iinc 3 6, 3) := by decide +kernel
theorem dL_law_879 : decode code 879 = .ok (.goto (-861), 3) := by decide +kernel
theorem dL_law_882 : decode code 882 = .ok (.iconst 1, 1) := by decide +kernel
theorem dL_law_883 : decode code 883 = .ok (.ireturn, 1) := by decide +kernel
