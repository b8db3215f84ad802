theorem dX11_batch_0 : decode cX11_batch 0 = .ok (.aload_n 0, 1) := by decide +kernel
theorem dX11_batch_1 : decode cX11_batch 1 = .ok (.getfield 54, 3) := by decide +kernel
theorem dX11_batch_4 : decode cX11_batch 4 = .ok (.iload_n 1, 1) := by decide +kernel
theorem dX11_batch_5 : decode cX11_batch 5 = .ok (.invokevirtual 230, 3) := by decide +kernel
theorem dX11_batch_8 : decode cX11_batch 8 = .ok (.ifCond .ne 5, 3) := by decide +kernel
theorem dX11_batch_11 : decode cX11_batch 11 = .ok (.iconst (-1), 1) := by decide +kernel
theorem dX11_batch_12 : decode cX11_batch 12 = .ok (.ireturn, 1) := by decide +kernel
theorem dX11_batch_13 : decode cX11_batch 13 = .ok (.iload_n 2, 1) := by decide +kernel
theorem dX11_batch_14 : decode cX11_batch 14 = .ok (.iconst 4, 1) := by decide +kernel
theorem dX11_batch_15 : decode cX11_batch 15 = .ok (.if_icmp .ne 11, 3) := by decide +kernel
theorem dX11_batch_18 : decode cX11_batch 18 = .ok (.aload_n 0, 1) := by decide +kernel
theorem dX11_batch_19 : decode cX11_batch 19 = .ok (.iload_n 1, 1) := by decide +kernel
theorem dX11_batch_20 : decode cX11_batch 20 = .ok (.invokevirtual 234, 3) := by decide +kernel
theorem dX11_batch_23 : decode cX11_batch 23 = .ok (.goto 12, 3) := by decide +kernel
theorem dX11_batch_26 : decode cX11_batch 26 = .ok (.aload_n 0, 1) := by decide +kernel
theorem dX11_batch_27 : decode cX11_batch 27 = .ok (.getfield 54, 3) := by decide +kernel
theorem dX11_batch_30 : decode cX11_batch 30 = .ok (.iload_n 1, 1) := by decide +kernel
theorem dX11_batch_31 : decode cX11_batch 31 = .ok (.iload_n 2, 1) := by decide +kernel
theorem dX11_batch_32 : decode cX11_batch 32 = .ok (.invokevirtual 237, 3) := by decide +kernel
theorem dX11_batch_35 : decode cX11_batch 35 = .ok (.ireturn, 1) := by decide +kernel

theorem dX11_boil_0 : decode cX11_boil 0 = .ok (.iload_n 1, 1) := by decide +kernel
theorem dX11_boil_1 : decode cX11_boil 1 = .ok (.iconst 0, 1) := by decide +kernel
theorem dX11_boil_2 : decode cX11_boil 2 = .ok (.sipush 300, 3) := by decide +kernel
theorem dX11_boil_5 : decode cX11_boil 5 = .ok (.invokestatic 103, 3) := by decide +kernel
theorem dX11_boil_8 : decode cX11_boil 8 = .ok (.ifCond .ne 5, 3) := by decide +kernel
theorem dX11_boil_11 : decode cX11_boil 11 = .ok (.iconst (-1), 1) := by decide +kernel
theorem dX11_boil_12 : decode cX11_boil 12 = .ok (.ireturn, 1) := by decide +kernel
theorem dX11_boil_13 : decode cX11_boil 13 = .ok (.iconst 0, 1) := by decide +kernel
theorem dX11_boil_14 : decode cX11_boil 14 = .ok (.istore_n 2, 1) := by decide +kernel
theorem dX11_boil_15 : decode cX11_boil 15 = .ok (.iload_n 2, 1) := by decide +kernel
theorem dX11_boil_16 : decode cX11_boil 16 = .ok (.iload_n 1, 1) := by decide +kernel
theorem dX11_boil_17 : decode cX11_boil 17 = .ok (.if_icmp .ge 23, 3) := by decide +kernel
theorem dX11_boil_20 : decode cX11_boil 20 = .ok (.aload_n 0, 1) := by decide +kernel
theorem dX11_boil_21 : decode cX11_boil 21 = .ok (.getfield 47, 3) := by decide +kernel
theorem dX11_boil_24 : decode cX11_boil 24 = .ok (.getfield 213, 3) := by decide +kernel
theorem dX11_boil_27 : decode cX11_boil 27 = .ok (.ifCond .le 13, 3) := by decide +kernel
theorem dX11_boil_30 : decode cX11_boil 30 = .ok (.aload_n 0, 1) := by decide +kernel
theorem dX11_boil_31 : decode cX11_boil 31 = .ok (.invokevirtual 225, 3) := by decide +kernel
theorem dX11_boil_34 : decode cX11_boil 34 = .ok (.iinc 2 1, 3) := by decide +kernel
theorem dX11_boil_37 : decode cX11_boil 37 = .ok (.goto (-22), 3) := by decide +kernel
theorem dX11_boil_40 : decode cX11_boil 40 = .ok (.iload_n 2, 1) := by decide +kernel
theorem dX11_boil_41 : decode cX11_boil 41 = .ok (.ireturn, 1) := by decide +kernel

theorem dX11_count_0 : decode cX11_count 0 = .ok (.iload_n 1, 1) := by decide +kernel
theorem dX11_count_1 : decode cX11_count 1 = .ok (.tableswitch 171 0 12 #[67, 75, 83, 91, 99, 107, 115, 123, 131, 139, 147, 155, 163], 67) := by decide +kernel
theorem dX11_count_68 : decode cX11_count 68 = .ok (.aload_n 0, 1) := by decide +kernel
theorem dX11_count_69 : decode cX11_count 69 = .ok (.getfield 26, 3) := by decide +kernel
theorem dX11_count_72 : decode cX11_count 72 = .ok (.getfield 121, 3) := by decide +kernel
theorem dX11_count_75 : decode cX11_count 75 = .ok (.ireturn, 1) := by decide +kernel
theorem dX11_count_76 : decode cX11_count 76 = .ok (.aload_n 0, 1) := by decide +kernel
theorem dX11_count_77 : decode cX11_count 77 = .ok (.getfield 26, 3) := by decide +kernel
theorem dX11_count_80 : decode cX11_count 80 = .ok (.getfield 174, 3) := by decide +kernel
theorem dX11_count_83 : decode cX11_count 83 = .ok (.ireturn, 1) := by decide +kernel
theorem dX11_count_84 : decode cX11_count 84 = .ok (.aload_n 0, 1) := by decide +kernel
theorem dX11_count_85 : decode cX11_count 85 = .ok (.getfield 10, 3) := by decide +kernel
theorem dX11_count_88 : decode cX11_count 88 = .ok (.getfield 270, 3) := by decide +kernel
theorem dX11_count_91 : decode cX11_count 91 = .ok (.ireturn, 1) := by decide +kernel
theorem dX11_count_92 : decode cX11_count 92 = .ok (.aload_n 0, 1) := by decide +kernel
theorem dX11_count_93 : decode cX11_count 93 = .ok (.getfield 19, 3) := by decide +kernel
theorem dX11_count_96 : decode cX11_count 96 = .ok (.getfield 271, 3) := by decide +kernel
theorem dX11_count_99 : decode cX11_count 99 = .ok (.ireturn, 1) := by decide +kernel
theorem dX11_count_100 : decode cX11_count 100 = .ok (.aload_n 0, 1) := by decide +kernel
theorem dX11_count_101 : decode cX11_count 101 = .ok (.getfield 19, 3) := by decide +kernel
theorem dX11_count_104 : decode cX11_count 104 = .ok (.getfield 274, 3) := by decide +kernel
theorem dX11_count_107 : decode cX11_count 107 = .ok (.ireturn, 1) := by decide +kernel
theorem dX11_count_108 : decode cX11_count 108 = .ok (.aload_n 0, 1) := by decide +kernel
theorem dX11_count_109 : decode cX11_count 109 = .ok (.getfield 40, 3) := by decide +kernel
theorem dX11_count_112 : decode cX11_count 112 = .ok (.getfield 277, 3) := by decide +kernel
theorem dX11_count_115 : decode cX11_count 115 = .ok (.ireturn, 1) := by decide +kernel
theorem dX11_count_116 : decode cX11_count 116 = .ok (.aload_n 0, 1) := by decide +kernel
theorem dX11_count_117 : decode cX11_count 117 = .ok (.getfield 40, 3) := by decide +kernel
theorem dX11_count_120 : decode cX11_count 120 = .ok (.getfield 278, 3) := by decide +kernel
theorem dX11_count_123 : decode cX11_count 123 = .ok (.ireturn, 1) := by decide +kernel
theorem dX11_count_124 : decode cX11_count 124 = .ok (.aload_n 0, 1) := by decide +kernel
theorem dX11_count_125 : decode cX11_count 125 = .ok (.getfield 40, 3) := by decide +kernel
theorem dX11_count_128 : decode cX11_count 128 = .ok (.getfield 281, 3) := by decide +kernel
theorem dX11_count_131 : decode cX11_count 131 = .ok (.ireturn, 1) := by decide +kernel
theorem dX11_count_132 : decode cX11_count 132 = .ok (.aload_n 0, 1) := by decide +kernel
theorem dX11_count_133 : decode cX11_count 133 = .ok (.getfield 47, 3) := by decide +kernel
theorem dX11_count_136 : decode cX11_count 136 = .ok (.getfield 284, 3) := by decide +kernel
theorem dX11_count_139 : decode cX11_count 139 = .ok (.ireturn, 1) := by decide +kernel
theorem dX11_count_140 : decode cX11_count 140 = .ok (.aload_n 0, 1) := by decide +kernel
theorem dX11_count_141 : decode cX11_count 141 = .ok (.getfield 54, 3) := by decide +kernel
theorem dX11_count_144 : decode cX11_count 144 = .ok (.getfield 287, 3) := by decide +kernel
theorem dX11_count_147 : decode cX11_count 147 = .ok (.ireturn, 1) := by decide +kernel
theorem dX11_count_148 : decode cX11_count 148 = .ok (.aload_n 0, 1) := by decide +kernel
theorem dX11_count_149 : decode cX11_count 149 = .ok (.getfield 88, 3) := by decide +kernel
theorem dX11_count_152 : decode cX11_count 152 = .ok (.getfield 269, 3) := by decide +kernel
theorem dX11_count_155 : decode cX11_count 155 = .ok (.ireturn, 1) := by decide +kernel
theorem dX11_count_156 : decode cX11_count 156 = .ok (.aload_n 0, 1) := by decide +kernel
theorem dX11_count_157 : decode cX11_count 157 = .ok (.getfield 68, 3) := by decide +kernel
theorem dX11_count_160 : decode cX11_count 160 = .ok (.getfield 256, 3) := by decide +kernel
theorem dX11_count_163 : decode cX11_count 163 = .ok (.ireturn, 1) := by decide +kernel
theorem dX11_count_164 : decode cX11_count 164 = .ok (.aload_n 0, 1) := by decide +kernel
theorem dX11_count_165 : decode cX11_count 165 = .ok (.getfield 40, 3) := by decide +kernel
theorem dX11_count_168 : decode cX11_count 168 = .ok (.getfield 288, 3) := by decide +kernel
theorem dX11_count_171 : decode cX11_count 171 = .ok (.ireturn, 1) := by decide +kernel
theorem dX11_count_172 : decode cX11_count 172 = .ok (.iconst (-1), 1) := by decide +kernel
theorem dX11_count_173 : decode cX11_count 173 = .ok (.ireturn, 1) := by decide +kernel

theorem dX11_day_0 : decode cX11_day 0 = .ok (.iload_n 1, 1) := by decide +kernel
theorem dX11_day_1 : decode cX11_day 1 = .ok (.iload_n 2, 1) := by decide +kernel
theorem dX11_day_2 : decode cX11_day 2 = .ok (.invokestatic 170, 3) := by decide +kernel
theorem dX11_day_5 : decode cX11_day 5 = .ok (.ifCond .eq 15, 3) := by decide +kernel
theorem dX11_day_8 : decode cX11_day 8 = .ok (.aload_n 0, 1) := by decide +kernel
theorem dX11_day_9 : decode cX11_day 9 = .ok (.getfield 26, 3) := by decide +kernel
theorem dX11_day_12 : decode cX11_day 12 = .ok (.getfield 174, 3) := by decide +kernel
theorem dX11_day_15 : decode cX11_day 15 = .ok (.bipush 99, 2) := by decide +kernel
theorem dX11_day_17 : decode cX11_day 17 = .ok (.if_icmp .lt 5, 3) := by decide +kernel
theorem dX11_day_20 : decode cX11_day 20 = .ok (.iconst (-1), 1) := by decide +kernel
theorem dX11_day_21 : decode cX11_day 21 = .ok (.ireturn, 1) := by decide +kernel
theorem dX11_day_22 : decode cX11_day 22 = .ok (.aload_n 0, 1) := by decide +kernel
theorem dX11_day_23 : decode cX11_day 23 = .ok (.getfield 26, 3) := by decide +kernel
theorem dX11_day_26 : decode cX11_day 26 = .ok (.iload_n 1, 1) := by decide +kernel
theorem dX11_day_27 : decode cX11_day 27 = .ok (.invokestatic 177, 3) := by decide +kernel
theorem dX11_day_30 : decode cX11_day 30 = .ok (.ifCond .le 7, 3) := by decide +kernel
theorem dX11_day_33 : decode cX11_day 33 = .ok (.iconst 1, 1) := by decide +kernel
theorem dX11_day_34 : decode cX11_day 34 = .ok (.goto 4, 3) := by decide +kernel
theorem dX11_day_37 : decode cX11_day 37 = .ok (.iconst 0, 1) := by decide +kernel
theorem dX11_day_38 : decode cX11_day 38 = .ok (.invokevirtual 180, 3) := by decide +kernel
theorem dX11_day_41 : decode cX11_day 41 = .ok (.aload_n 0, 1) := by decide +kernel
theorem dX11_day_42 : decode cX11_day 42 = .ok (.getfield 33, 3) := by decide +kernel
theorem dX11_day_45 : decode cX11_day 45 = .ok (.iload_n 1, 1) := by decide +kernel
theorem dX11_day_46 : decode cX11_day 46 = .ok (.iload_n 2, 1) := by decide +kernel
theorem dX11_day_47 : decode cX11_day 47 = .ok (.aload_n 0, 1) := by decide +kernel
theorem dX11_day_48 : decode cX11_day 48 = .ok (.getfield 26, 3) := by decide +kernel
theorem dX11_day_51 : decode cX11_day 51 = .ok (.getfield 166, 3) := by decide +kernel
theorem dX11_day_54 : decode cX11_day 54 = .ok (.ifCond .eq 7, 3) := by decide +kernel
theorem dX11_day_57 : decode cX11_day 57 = .ok (.iconst 0, 1) := by decide +kernel
theorem dX11_day_58 : decode cX11_day 58 = .ok (.goto 16, 3) := by decide +kernel
theorem dX11_day_61 : decode cX11_day 61 = .ok (.aload_n 0, 1) := by decide +kernel
theorem dX11_day_62 : decode cX11_day 62 = .ok (.iload_n 1, 1) := by decide +kernel
theorem dX11_day_63 : decode cX11_day 63 = .ok (.invokestatic 177, 3) := by decide +kernel
theorem dX11_day_66 : decode cX11_day 66 = .ok (.iload_n 2, 1) := by decide +kernel
theorem dX11_day_67 : decode cX11_day 67 = .ok (.invokestatic 184, 3) := by decide +kernel
theorem dX11_day_70 : decode cX11_day 70 = .ok (.imul, 1) := by decide +kernel
theorem dX11_day_71 : decode cX11_day 71 = .ok (.invokevirtual 187, 3) := by decide +kernel
theorem dX11_day_74 : decode cX11_day 74 = .ok (.invokevirtual 190, 3) := by decide +kernel
theorem dX11_day_77 : decode cX11_day 77 = .ok (.aload_n 0, 1) := by decide +kernel
theorem dX11_day_78 : decode cX11_day 78 = .ok (.getfield 26, 3) := by decide +kernel
theorem dX11_day_81 : decode cX11_day 81 = .ok (.getfield 174, 3) := by decide +kernel
theorem dX11_day_84 : decode cX11_day 84 = .ok (.ireturn, 1) := by decide +kernel

theorem dX11_drawBatch_0 : decode cX11_drawBatch 0 = .ok (.aload_n 0, 1) := by decide +kernel
theorem dX11_drawBatch_1 : decode cX11_drawBatch 1 = .ok (.getfield 47, 3) := by decide +kernel
theorem dX11_drawBatch_4 : decode cX11_drawBatch 4 = .ok (.invokevirtual 352, 3) := by decide +kernel
theorem dX11_drawBatch_7 : decode cX11_drawBatch 7 = .ok (.istore_n 1, 1) := by decide +kernel
theorem dX11_drawBatch_8 : decode cX11_drawBatch 8 = .ok (.iload_n 1, 1) := by decide +kernel
theorem dX11_drawBatch_9 : decode cX11_drawBatch 9 = .ok (.sipush 660, 3) := by decide +kernel
theorem dX11_drawBatch_12 : decode cX11_drawBatch 12 = .ok (.if_icmp .lt 45, 3) := by decide +kernel
theorem dX11_drawBatch_15 : decode cX11_drawBatch 15 = .ok (.aload_n 0, 1) := by decide +kernel
theorem dX11_drawBatch_16 : decode cX11_drawBatch 16 = .ok (.getfield 47, 3) := by decide +kernel
theorem dX11_drawBatch_19 : decode cX11_drawBatch 19 = .ok (.invokevirtual 355, 3) := by decide +kernel
theorem dX11_drawBatch_22 : decode cX11_drawBatch 22 = .ok (.ifCond .ne 35, 3) := by decide +kernel
theorem dX11_drawBatch_25 : decode cX11_drawBatch 25 = .ok (.aload_n 0, 1) := by decide +kernel
theorem dX11_drawBatch_26 : decode cX11_drawBatch 26 = .ok (.getfield 54, 3) := by decide +kernel
theorem dX11_drawBatch_29 : decode cX11_drawBatch 29 = .ok (.aload_n 0, 1) := by decide +kernel
theorem dX11_drawBatch_30 : decode cX11_drawBatch 30 = .ok (.getfield 47, 3) := by decide +kernel
theorem dX11_drawBatch_33 : decode cX11_drawBatch 33 = .ok (.getfield 213, 3) := by decide +kernel
theorem dX11_drawBatch_36 : decode cX11_drawBatch 36 = .ok (.iload_n 1, 1) := by decide +kernel
theorem dX11_drawBatch_37 : decode cX11_drawBatch 37 = .ok (.aload_n 0, 1) := by decide +kernel
theorem dX11_drawBatch_38 : decode cX11_drawBatch 38 = .ok (.getfield 26, 3) := by decide +kernel
theorem dX11_drawBatch_41 : decode cX11_drawBatch 41 = .ok (.getfield 174, 3) := by decide +kernel
theorem dX11_drawBatch_44 : decode cX11_drawBatch 44 = .ok (.aload_n 0, 1) := by decide +kernel
theorem dX11_drawBatch_45 : decode cX11_drawBatch 45 = .ok (.getfield 26, 3) := by decide +kernel
theorem dX11_drawBatch_48 : decode cX11_drawBatch 48 = .ok (.getfield 121, 3) := by decide +kernel
theorem dX11_drawBatch_51 : decode cX11_drawBatch 51 = .ok (.invokevirtual 358, 3) := by decide +kernel
theorem dX11_drawBatch_54 : decode cX11_drawBatch 54 = .ok (.ifCond .ne 5, 3) := by decide +kernel
theorem dX11_drawBatch_57 : decode cX11_drawBatch 57 = .ok (.iconst 0, 1) := by decide +kernel
theorem dX11_drawBatch_58 : decode cX11_drawBatch 58 = .ok (.ireturn, 1) := by decide +kernel
theorem dX11_drawBatch_59 : decode cX11_drawBatch 59 = .ok (.aload_n 0, 1) := by decide +kernel
theorem dX11_drawBatch_60 : decode cX11_drawBatch 60 = .ok (.getfield 47, 3) := by decide +kernel
theorem dX11_drawBatch_63 : decode cX11_drawBatch 63 = .ok (.invokevirtual 204, 3) := by decide +kernel
theorem dX11_drawBatch_66 : decode cX11_drawBatch 66 = .ok (.aload_n 0, 1) := by decide +kernel
theorem dX11_drawBatch_67 : decode cX11_drawBatch 67 = .ok (.getfield 47, 3) := by decide +kernel
theorem dX11_drawBatch_70 : decode cX11_drawBatch 70 = .ok (.iconst 0, 1) := by decide +kernel
theorem dX11_drawBatch_71 : decode cX11_drawBatch 71 = .ok (.putfield 346, 3) := by decide +kernel
theorem dX11_drawBatch_74 : decode cX11_drawBatch 74 = .ok (.iconst 1, 1) := by decide +kernel
theorem dX11_drawBatch_75 : decode cX11_drawBatch 75 = .ok (.ireturn, 1) := by decide +kernel

theorem dX11_dump_0 : decode cX11_dump 0 = .ok (.aload_n 0, 1) := by decide +kernel
theorem dX11_dump_1 : decode cX11_dump 1 = .ok (.getfield 47, 3) := by decide +kernel
theorem dX11_dump_4 : decode cX11_dump 4 = .ok (.getfield 213, 3) := by decide +kernel
theorem dX11_dump_7 : decode cX11_dump 7 = .ok (.istore_n 1, 1) := by decide +kernel
theorem dX11_dump_8 : decode cX11_dump 8 = .ok (.aload_n 0, 1) := by decide +kernel
theorem dX11_dump_9 : decode cX11_dump 9 = .ok (.getfield 47, 3) := by decide +kernel
theorem dX11_dump_12 : decode cX11_dump 12 = .ok (.invokevirtual 204, 3) := by decide +kernel
theorem dX11_dump_15 : decode cX11_dump 15 = .ok (.iload_n 1, 1) := by decide +kernel
theorem dX11_dump_16 : decode cX11_dump 16 = .ok (.ireturn, 1) := by decide +kernel

theorem dX11_fault_0 : decode cX11_fault 0 = .ok (.aload_n 0, 1) := by decide +kernel
theorem dX11_fault_1 : decode cX11_fault 1 = .ok (.getfield 95, 3) := by decide +kernel
theorem dX11_fault_4 : decode cX11_fault 4 = .ok (.ireturn, 1) := by decide +kernel

theorem dX11_feed_0 : decode cX11_feed 0 = .ok (.aload_n 0, 1) := by decide +kernel
theorem dX11_feed_1 : decode cX11_feed 1 = .ok (.getfield 68, 3) := by decide +kernel
theorem dX11_feed_4 : decode cX11_feed 4 = .ok (.bipush 20, 2) := by decide +kernel
theorem dX11_feed_6 : decode cX11_feed 6 = .ok (.invokevirtual 250, 3) := by decide +kernel
theorem dX11_feed_9 : decode cX11_feed 9 = .ok (.ifCond .ne 5, 3) := by decide +kernel
theorem dX11_feed_12 : decode cX11_feed 12 = .ok (.iconst (-1), 1) := by decide +kernel
theorem dX11_feed_13 : decode cX11_feed 13 = .ok (.ireturn, 1) := by decide +kernel
theorem dX11_feed_14 : decode cX11_feed 14 = .ok (.aload_n 0, 1) := by decide +kernel
theorem dX11_feed_15 : decode cX11_feed 15 = .ok (.getfield 68, 3) := by decide +kernel
theorem dX11_feed_18 : decode cX11_feed 18 = .ok (.iload_n 1, 1) := by decide +kernel
theorem dX11_feed_19 : decode cX11_feed 19 = .ok (.invokevirtual 253, 3) := by decide +kernel
theorem dX11_feed_22 : decode cX11_feed 22 = .ok (.aload_n 0, 1) := by decide +kernel
theorem dX11_feed_23 : decode cX11_feed 23 = .ok (.getfield 68, 3) := by decide +kernel
theorem dX11_feed_26 : decode cX11_feed 26 = .ok (.iload_n 2, 1) := by decide +kernel
theorem dX11_feed_27 : decode cX11_feed 27 = .ok (.invokevirtual 253, 3) := by decide +kernel
theorem dX11_feed_30 : decode cX11_feed 30 = .ok (.aload_n 0, 1) := by decide +kernel
theorem dX11_feed_31 : decode cX11_feed 31 = .ok (.getfield 68, 3) := by decide +kernel
theorem dX11_feed_34 : decode cX11_feed 34 = .ok (.iload_n 3, 1) := by decide +kernel
theorem dX11_feed_35 : decode cX11_feed 35 = .ok (.invokevirtual 253, 3) := by decide +kernel
theorem dX11_feed_38 : decode cX11_feed 38 = .ok (.aload_n 0, 1) := by decide +kernel
theorem dX11_feed_39 : decode cX11_feed 39 = .ok (.getfield 68, 3) := by decide +kernel
theorem dX11_feed_42 : decode cX11_feed 42 = .ok (.iload 4, 2) := by decide +kernel
theorem dX11_feed_44 : decode cX11_feed 44 = .ok (.invokevirtual 253, 3) := by decide +kernel
theorem dX11_feed_47 : decode cX11_feed 47 = .ok (.aload_n 0, 1) := by decide +kernel
theorem dX11_feed_48 : decode cX11_feed 48 = .ok (.getfield 68, 3) := by decide +kernel
theorem dX11_feed_51 : decode cX11_feed 51 = .ok (.iload 5, 2) := by decide +kernel
theorem dX11_feed_53 : decode cX11_feed 53 = .ok (.invokevirtual 253, 3) := by decide +kernel
theorem dX11_feed_56 : decode cX11_feed 56 = .ok (.aload_n 0, 1) := by decide +kernel
theorem dX11_feed_57 : decode cX11_feed 57 = .ok (.getfield 68, 3) := by decide +kernel
theorem dX11_feed_60 : decode cX11_feed 60 = .ok (.getfield 256, 3) := by decide +kernel
theorem dX11_feed_63 : decode cX11_feed 63 = .ok (.ireturn, 1) := by decide +kernel

theorem dX11_foretold_0 : decode cX11_foretold 0 = .ok (.iload_n 1, 1) := by decide +kernel
theorem dX11_foretold_1 : decode cX11_foretold 1 = .ok (.iload_n 2, 1) := by decide +kernel
theorem dX11_foretold_2 : decode cX11_foretold 2 = .ok (.invokestatic 170, 3) := by decide +kernel
theorem dX11_foretold_5 : decode cX11_foretold 5 = .ok (.ifCond .eq 12, 3) := by decide +kernel
theorem dX11_foretold_8 : decode cX11_foretold 8 = .ok (.iload_n 3, 1) := by decide +kernel
theorem dX11_foretold_9 : decode cX11_foretold 9 = .ok (.iconst 0, 1) := by decide +kernel
theorem dX11_foretold_10 : decode cX11_foretold 10 = .ok (.iconst 1, 1) := by decide +kernel
theorem dX11_foretold_11 : decode cX11_foretold 11 = .ok (.invokestatic 103, 3) := by decide +kernel
theorem dX11_foretold_14 : decode cX11_foretold 14 = .ok (.ifCond .ne 5, 3) := by decide +kernel
theorem dX11_foretold_17 : decode cX11_foretold 17 = .ok (.iconst (-1), 1) := by decide +kernel
theorem dX11_foretold_18 : decode cX11_foretold 18 = .ok (.ireturn, 1) := by decide +kernel
theorem dX11_foretold_19 : decode cX11_foretold 19 = .ok (.iload_n 3, 1) := by decide +kernel
theorem dX11_foretold_20 : decode cX11_foretold 20 = .ok (.ifCond .ne 15, 3) := by decide +kernel
theorem dX11_foretold_23 : decode cX11_foretold 23 = .ok (.aload_n 0, 1) := by decide +kernel
theorem dX11_foretold_24 : decode cX11_foretold 24 = .ok (.getfield 33, 3) := by decide +kernel
theorem dX11_foretold_27 : decode cX11_foretold 27 = .ok (.iload_n 1, 1) := by decide +kernel
theorem dX11_foretold_28 : decode cX11_foretold 28 = .ok (.iload_n 2, 1) := by decide +kernel
theorem dX11_foretold_29 : decode cX11_foretold 29 = .ok (.invokevirtual 207, 3) := by decide +kernel
theorem dX11_foretold_32 : decode cX11_foretold 32 = .ok (.goto 12, 3) := by decide +kernel
theorem dX11_foretold_35 : decode cX11_foretold 35 = .ok (.aload_n 0, 1) := by decide +kernel
theorem dX11_foretold_36 : decode cX11_foretold 36 = .ok (.getfield 33, 3) := by decide +kernel
theorem dX11_foretold_39 : decode cX11_foretold 39 = .ok (.iload_n 1, 1) := by decide +kernel
theorem dX11_foretold_40 : decode cX11_foretold 40 = .ok (.iload_n 2, 1) := by decide +kernel
theorem dX11_foretold_41 : decode cX11_foretold 41 = .ok (.invokevirtual 210, 3) := by decide +kernel
theorem dX11_foretold_44 : decode cX11_foretold 44 = .ok (.ireturn, 1) := by decide +kernel

theorem dX11_frostOf_0 : decode cX11_frostOf 0 = .ok (.iload_n 0, 1) := by decide +kernel
theorem dX11_frostOf_1 : decode cX11_frostOf 1 = .ok (.ineg, 1) := by decide +kernel
theorem dX11_frostOf_2 : decode cX11_frostOf 2 = .ok (.invokestatic 184, 3) := by decide +kernel
theorem dX11_frostOf_5 : decode cX11_frostOf 5 = .ok (.ireturn, 1) := by decide +kernel

theorem dX11_gatherFrom_0 : decode cX11_gatherFrom 0 = .ok (.aload_n 0, 1) := by decide +kernel
theorem dX11_gatherFrom_1 : decode cX11_gatherFrom 1 = .ok (.getfield 19, 3) := by decide +kernel
theorem dX11_gatherFrom_4 : decode cX11_gatherFrom 4 = .ok (.iload_n 1, 1) := by decide +kernel
theorem dX11_gatherFrom_5 : decode cX11_gatherFrom 5 = .ok (.invokevirtual 157, 3) := by decide +kernel
theorem dX11_gatherFrom_8 : decode cX11_gatherFrom 8 = .ok (.istore_n 3, 1) := by decide +kernel
theorem dX11_gatherFrom_9 : decode cX11_gatherFrom 9 = .ok (.iload_n 2, 1) := by decide +kernel
theorem dX11_gatherFrom_10 : decode cX11_gatherFrom 10 = .ok (.bipush 100, 2) := by decide +kernel
theorem dX11_gatherFrom_12 : decode cX11_gatherFrom 12 = .ok (.aload_n 0, 1) := by decide +kernel
theorem dX11_gatherFrom_13 : decode cX11_gatherFrom 13 = .ok (.getfield 10, 3) := by decide +kernel
theorem dX11_gatherFrom_16 : decode cX11_gatherFrom 16 = .ok (.iload_n 3, 1) := by decide +kernel
theorem dX11_gatherFrom_17 : decode cX11_gatherFrom 17 = .ok (.invokevirtual 308, 3) := by decide +kernel
theorem dX11_gatherFrom_20 : decode cX11_gatherFrom 20 = .ok (.iadd, 1) := by decide +kernel
theorem dX11_gatherFrom_21 : decode cX11_gatherFrom 21 = .ok (.imul, 1) := by decide +kernel
theorem dX11_gatherFrom_22 : decode cX11_gatherFrom 22 = .ok (.bipush 100, 2) := by decide +kernel
theorem dX11_gatherFrom_24 : decode cX11_gatherFrom 24 = .ok (.idiv, 1) := by decide +kernel
theorem dX11_gatherFrom_25 : decode cX11_gatherFrom 25 = .ok (.istore 4, 2) := by decide +kernel
theorem dX11_gatherFrom_27 : decode cX11_gatherFrom 27 = .ok (.aload_n 0, 1) := by decide +kernel
theorem dX11_gatherFrom_28 : decode cX11_gatherFrom 28 = .ok (.getfield 19, 3) := by decide +kernel
theorem dX11_gatherFrom_31 : decode cX11_gatherFrom 31 = .ok (.iload_n 1, 1) := by decide +kernel
theorem dX11_gatherFrom_32 : decode cX11_gatherFrom 32 = .ok (.iload 4, 2) := by decide +kernel
theorem dX11_gatherFrom_34 : decode cX11_gatherFrom 34 = .ok (.invokevirtual 311, 3) := by decide +kernel
theorem dX11_gatherFrom_37 : decode cX11_gatherFrom 37 = .ok (.aload_n 0, 1) := by decide +kernel
theorem dX11_gatherFrom_38 : decode cX11_gatherFrom 38 = .ok (.getfield 10, 3) := by decide +kernel
theorem dX11_gatherFrom_41 : decode cX11_gatherFrom 41 = .ok (.iload_n 3, 1) := by decide +kernel
theorem dX11_gatherFrom_42 : decode cX11_gatherFrom 42 = .ok (.invokevirtual 314, 3) := by decide +kernel
theorem dX11_gatherFrom_45 : decode cX11_gatherFrom 45 = .ok (.ifCond .eq 32, 3) := by decide +kernel
theorem dX11_gatherFrom_48 : decode cX11_gatherFrom 48 = .ok (.aload_n 0, 1) := by decide +kernel
theorem dX11_gatherFrom_49 : decode cX11_gatherFrom 49 = .ok (.getfield 40, 3) := by decide +kernel
theorem dX11_gatherFrom_52 : decode cX11_gatherFrom 52 = .ok (.iload 4, 2) := by decide +kernel
theorem dX11_gatherFrom_54 : decode cX11_gatherFrom 54 = .ok (.invokevirtual 317, 3) := by decide +kernel
theorem dX11_gatherFrom_57 : decode cX11_gatherFrom 57 = .ok (.aload_n 0, 1) := by decide +kernel
theorem dX11_gatherFrom_58 : decode cX11_gatherFrom 58 = .ok (.getfield 61, 3) := by decide +kernel
theorem dX11_gatherFrom_61 : decode cX11_gatherFrom 61 = .ok (.aload_n 0, 1) := by decide +kernel
theorem dX11_gatherFrom_62 : decode cX11_gatherFrom 62 = .ok (.getfield 10, 3) := by decide +kernel
theorem dX11_gatherFrom_65 : decode cX11_gatherFrom 65 = .ok (.iload_n 3, 1) := by decide +kernel
theorem dX11_gatherFrom_66 : decode cX11_gatherFrom 66 = .ok (.invokevirtual 320, 3) := by decide +kernel
theorem dX11_gatherFrom_69 : decode cX11_gatherFrom 69 = .ok (.iload 4, 2) := by decide +kernel
theorem dX11_gatherFrom_71 : decode cX11_gatherFrom 71 = .ok (.invokevirtual 323, 3) := by decide +kernel
theorem dX11_gatherFrom_74 : decode cX11_gatherFrom 74 = .ok (.goto 12, 3) := by decide +kernel
theorem dX11_gatherFrom_77 : decode cX11_gatherFrom 77 = .ok (.aload_n 0, 1) := by decide +kernel
theorem dX11_gatherFrom_78 : decode cX11_gatherFrom 78 = .ok (.getfield 40, 3) := by decide +kernel
theorem dX11_gatherFrom_81 : decode cX11_gatherFrom 81 = .ok (.iload 4, 2) := by decide +kernel
theorem dX11_gatherFrom_83 : decode cX11_gatherFrom 83 = .ok (.invokevirtual 326, 3) := by decide +kernel
theorem dX11_gatherFrom_86 : decode cX11_gatherFrom 86 = .ok (.iload 4, 2) := by decide +kernel
theorem dX11_gatherFrom_88 : decode cX11_gatherFrom 88 = .ok (.ireturn, 1) := by decide +kernel

theorem dX11_gatherPanFacts_0 : decode cX11_gatherPanFacts 0 = .ok (.aload_n 0, 1) := by decide +kernel
theorem dX11_gatherPanFacts_1 : decode cX11_gatherPanFacts 1 = .ok (.getfield 81, 3) := by decide +kernel
theorem dX11_gatherPanFacts_4 : decode cX11_gatherPanFacts 4 = .ok (.iconst 0, 1) := by decide +kernel
theorem dX11_gatherPanFacts_5 : decode cX11_gatherPanFacts 5 = .ok (.aload_n 0, 1) := by decide +kernel
theorem dX11_gatherPanFacts_6 : decode cX11_gatherPanFacts 6 = .ok (.getfield 47, 3) := by decide +kernel
theorem dX11_gatherPanFacts_9 : decode cX11_gatherPanFacts 9 = .ok (.invokevirtual 352, 3) := by decide +kernel
theorem dX11_gatherPanFacts_12 : decode cX11_gatherPanFacts 12 = .ok (.iastore, 1) := by decide +kernel
theorem dX11_gatherPanFacts_13 : decode cX11_gatherPanFacts 13 = .ok (.aload_n 0, 1) := by decide +kernel
theorem dX11_gatherPanFacts_14 : decode cX11_gatherPanFacts 14 = .ok (.getfield 81, 3) := by decide +kernel
theorem dX11_gatherPanFacts_17 : decode cX11_gatherPanFacts 17 = .ok (.iconst 1, 1) := by decide +kernel
theorem dX11_gatherPanFacts_18 : decode cX11_gatherPanFacts 18 = .ok (.aload_n 0, 1) := by decide +kernel
theorem dX11_gatherPanFacts_19 : decode cX11_gatherPanFacts 19 = .ok (.getfield 47, 3) := by decide +kernel
theorem dX11_gatherPanFacts_22 : decode cX11_gatherPanFacts 22 = .ok (.getfield 213, 3) := by decide +kernel
theorem dX11_gatherPanFacts_25 : decode cX11_gatherPanFacts 25 = .ok (.iastore, 1) := by decide +kernel
theorem dX11_gatherPanFacts_26 : decode cX11_gatherPanFacts 26 = .ok (.aload_n 0, 1) := by decide +kernel
theorem dX11_gatherPanFacts_27 : decode cX11_gatherPanFacts 27 = .ok (.getfield 81, 3) := by decide +kernel
theorem dX11_gatherPanFacts_30 : decode cX11_gatherPanFacts 30 = .ok (.iconst 2, 1) := by decide +kernel
theorem dX11_gatherPanFacts_31 : decode cX11_gatherPanFacts 31 = .ok (.aload_n 0, 1) := by decide +kernel
theorem dX11_gatherPanFacts_32 : decode cX11_gatherPanFacts 32 = .ok (.getfield 47, 3) := by decide +kernel
theorem dX11_gatherPanFacts_35 : decode cX11_gatherPanFacts 35 = .ok (.getfield 346, 3) := by decide +kernel
theorem dX11_gatherPanFacts_38 : decode cX11_gatherPanFacts 38 = .ok (.iastore, 1) := by decide +kernel
theorem dX11_gatherPanFacts_39 : decode cX11_gatherPanFacts 39 = .ok (.aload_n 0, 1) := by decide +kernel
theorem dX11_gatherPanFacts_40 : decode cX11_gatherPanFacts 40 = .ok (.getfield 81, 3) := by decide +kernel
theorem dX11_gatherPanFacts_43 : decode cX11_gatherPanFacts 43 = .ok (.iconst 3, 1) := by decide +kernel
theorem dX11_gatherPanFacts_44 : decode cX11_gatherPanFacts 44 = .ok (.aload_n 0, 1) := by decide +kernel
theorem dX11_gatherPanFacts_45 : decode cX11_gatherPanFacts 45 = .ok (.getfield 47, 3) := by decide +kernel
theorem dX11_gatherPanFacts_48 : decode cX11_gatherPanFacts 48 = .ok (.getfield 361, 3) := by decide +kernel
theorem dX11_gatherPanFacts_51 : decode cX11_gatherPanFacts 51 = .ok (.iastore, 1) := by decide +kernel
theorem dX11_gatherPanFacts_52 : decode cX11_gatherPanFacts 52 = .ok (.aload_n 0, 1) := by decide +kernel
theorem dX11_gatherPanFacts_53 : decode cX11_gatherPanFacts 53 = .ok (.getfield 81, 3) := by decide +kernel
theorem dX11_gatherPanFacts_56 : decode cX11_gatherPanFacts 56 = .ok (.iconst 4, 1) := by decide +kernel
theorem dX11_gatherPanFacts_57 : decode cX11_gatherPanFacts 57 = .ok (.iconst (-1), 1) := by decide +kernel
theorem dX11_gatherPanFacts_58 : decode cX11_gatherPanFacts 58 = .ok (.iastore, 1) := by decide +kernel
theorem dX11_gatherPanFacts_59 : decode cX11_gatherPanFacts 59 = .ok (.aload_n 0, 1) := by decide +kernel
theorem dX11_gatherPanFacts_60 : decode cX11_gatherPanFacts 60 = .ok (.getfield 81, 3) := by decide +kernel
theorem dX11_gatherPanFacts_63 : decode cX11_gatherPanFacts 63 = .ok (.iconst 5, 1) := by decide +kernel
theorem dX11_gatherPanFacts_64 : decode cX11_gatherPanFacts 64 = .ok (.aload_n 0, 1) := by decide +kernel
theorem dX11_gatherPanFacts_65 : decode cX11_gatherPanFacts 65 = .ok (.getfield 26, 3) := by decide +kernel
theorem dX11_gatherPanFacts_68 : decode cX11_gatherPanFacts 68 = .ok (.getfield 174, 3) := by decide +kernel
theorem dX11_gatherPanFacts_71 : decode cX11_gatherPanFacts 71 = .ok (.iastore, 1) := by decide +kernel
theorem dX11_gatherPanFacts_72 : decode cX11_gatherPanFacts 72 = .ok (.return_, 1) := by decide +kernel

theorem dX11_gatherSap_0 : decode cX11_gatherSap 0 = .ok (.iconst 0, 1) := by decide +kernel
theorem dX11_gatherSap_1 : decode cX11_gatherSap 1 = .ok (.istore_n 2, 1) := by decide +kernel
theorem dX11_gatherSap_2 : decode cX11_gatherSap 2 = .ok (.iconst 0, 1) := by decide +kernel
theorem dX11_gatherSap_3 : decode cX11_gatherSap 3 = .ok (.istore_n 3, 1) := by decide +kernel
theorem dX11_gatherSap_4 : decode cX11_gatherSap 4 = .ok (.iload_n 3, 1) := by decide +kernel
theorem dX11_gatherSap_5 : decode cX11_gatherSap 5 = .ok (.aload_n 0, 1) := by decide +kernel
theorem dX11_gatherSap_6 : decode cX11_gatherSap 6 = .ok (.getfield 19, 3) := by decide +kernel
theorem dX11_gatherSap_9 : decode cX11_gatherSap 9 = .ok (.getfield 274, 3) := by decide +kernel
theorem dX11_gatherSap_12 : decode cX11_gatherSap 12 = .ok (.if_icmp .ge 43, 3) := by decide +kernel
theorem dX11_gatherSap_15 : decode cX11_gatherSap 15 = .ok (.aload_n 0, 1) := by decide +kernel
theorem dX11_gatherSap_16 : decode cX11_gatherSap 16 = .ok (.getfield 19, 3) := by decide +kernel
theorem dX11_gatherSap_19 : decode cX11_gatherSap 19 = .ok (.iload_n 3, 1) := by decide +kernel
theorem dX11_gatherSap_20 : decode cX11_gatherSap 20 = .ok (.invokevirtual 299, 3) := by decide +kernel
theorem dX11_gatherSap_23 : decode cX11_gatherSap 23 = .ok (.aload_n 0, 1) := by decide +kernel
theorem dX11_gatherSap_24 : decode cX11_gatherSap 24 = .ok (.getfield 26, 3) := by decide +kernel
theorem dX11_gatherSap_27 : decode cX11_gatherSap 27 = .ok (.getfield 121, 3) := by decide +kernel
theorem dX11_gatherSap_30 : decode cX11_gatherSap 30 = .ok (.if_icmp .ne 19, 3) := by decide +kernel
theorem dX11_gatherSap_33 : decode cX11_gatherSap 33 = .ok (.iload_n 2, 1) := by decide +kernel
theorem dX11_gatherSap_34 : decode cX11_gatherSap 34 = .ok (.aload_n 0, 1) := by decide +kernel
theorem dX11_gatherSap_35 : decode cX11_gatherSap 35 = .ok (.aload_n 0, 1) := by decide +kernel
theorem dX11_gatherSap_36 : decode cX11_gatherSap 36 = .ok (.getfield 19, 3) := by decide +kernel
theorem dX11_gatherSap_39 : decode cX11_gatherSap 39 = .ok (.iload_n 3, 1) := by decide +kernel
theorem dX11_gatherSap_40 : decode cX11_gatherSap 40 = .ok (.invokevirtual 302, 3) := by decide +kernel
theorem dX11_gatherSap_43 : decode cX11_gatherSap 43 = .ok (.iload_n 1, 1) := by decide +kernel
theorem dX11_gatherSap_44 : decode cX11_gatherSap 44 = .ok (.invokevirtual 305, 3) := by decide +kernel
theorem dX11_gatherSap_47 : decode cX11_gatherSap 47 = .ok (.iadd, 1) := by decide +kernel
theorem dX11_gatherSap_48 : decode cX11_gatherSap 48 = .ok (.istore_n 2, 1) := by decide +kernel
theorem dX11_gatherSap_49 : decode cX11_gatherSap 49 = .ok (.iinc 3 1, 3) := by decide +kernel
theorem dX11_gatherSap_52 : decode cX11_gatherSap 52 = .ok (.goto (-48), 3) := by decide +kernel
theorem dX11_gatherSap_55 : decode cX11_gatherSap 55 = .ok (.iload_n 2, 1) := by decide +kernel
theorem dX11_gatherSap_56 : decode cX11_gatherSap 56 = .ok (.ireturn, 1) := by decide +kernel

theorem dX11_gauge_0 : decode cX11_gauge 0 = .ok (.aload_n 0, 1) := by decide +kernel
theorem dX11_gauge_1 : decode cX11_gauge 1 = .ok (.getfield 10, 3) := by decide +kernel
theorem dX11_gauge_4 : decode cX11_gauge 4 = .ok (.iload_n 1, 1) := by decide +kernel
theorem dX11_gauge_5 : decode cX11_gauge 5 = .ok (.invokevirtual 114, 3) := by decide +kernel
theorem dX11_gauge_8 : decode cX11_gauge 8 = .ok (.ifCond .eq 18, 3) := by decide +kernel
theorem dX11_gauge_11 : decode cX11_gauge 11 = .ok (.iload_n 2, 1) := by decide +kernel
theorem dX11_gauge_12 : decode cX11_gauge 12 = .ok (.iconst (-1), 1) := by decide +kernel
theorem dX11_gauge_13 : decode cX11_gauge 13 = .ok (.if_icmp .eq 15, 3) := by decide +kernel
theorem dX11_gauge_16 : decode cX11_gauge 16 = .ok (.iload_n 2, 1) := by decide +kernel
theorem dX11_gauge_17 : decode cX11_gauge 17 = .ok (.iconst 0, 1) := by decide +kernel
theorem dX11_gauge_18 : decode cX11_gauge 18 = .ok (.bipush 100, 2) := by decide +kernel
theorem dX11_gauge_20 : decode cX11_gauge 20 = .ok (.invokestatic 103, 3) := by decide +kernel
theorem dX11_gauge_23 : decode cX11_gauge 23 = .ok (.ifCond .ne 5, 3) := by decide +kernel
theorem dX11_gauge_26 : decode cX11_gauge 26 = .ok (.iconst 0, 1) := by decide +kernel
theorem dX11_gauge_27 : decode cX11_gauge 27 = .ok (.ireturn, 1) := by decide +kernel
theorem dX11_gauge_28 : decode cX11_gauge 28 = .ok (.aload_n 0, 1) := by decide +kernel
theorem dX11_gauge_29 : decode cX11_gauge 29 = .ok (.getfield 10, 3) := by decide +kernel
theorem dX11_gauge_32 : decode cX11_gauge 32 = .ok (.iload_n 1, 1) := by decide +kernel
theorem dX11_gauge_33 : decode cX11_gauge 33 = .ok (.iload_n 2, 1) := by decide +kernel
theorem dX11_gauge_34 : decode cX11_gauge 34 = .ok (.invokevirtual 148, 3) := by decide +kernel
theorem dX11_gauge_37 : decode cX11_gauge 37 = .ok (.iconst 1, 1) := by decide +kernel
theorem dX11_gauge_38 : decode cX11_gauge 38 = .ok (.ireturn, 1) := by decide +kernel

theorem dX11_gradeByLook_0 : decode cX11_gradeByLook 0 = .ok (.aload_n 0, 1) := by decide +kernel
theorem dX11_gradeByLook_1 : decode cX11_gradeByLook 1 = .ok (.getfield 81, 3) := by decide +kernel
theorem dX11_gradeByLook_4 : decode cX11_gradeByLook 4 = .ok (.iconst 0, 1) := by decide +kernel
theorem dX11_gradeByLook_5 : decode cX11_gradeByLook 5 = .ok (.aload_n 0, 1) := by decide +kernel
theorem dX11_gradeByLook_6 : decode cX11_gradeByLook 6 = .ok (.getfield 54, 3) := by decide +kernel
theorem dX11_gradeByLook_9 : decode cX11_gradeByLook 9 = .ok (.iload_n 1, 1) := by decide +kernel
theorem dX11_gradeByLook_10 : decode cX11_gradeByLook 10 = .ok (.invokevirtual 370, 3) := by decide +kernel
theorem dX11_gradeByLook_13 : decode cX11_gradeByLook 13 = .ok (.iastore, 1) := by decide +kernel
theorem dX11_gradeByLook_14 : decode cX11_gradeByLook 14 = .ok (.aload_n 0, 1) := by decide +kernel
theorem dX11_gradeByLook_15 : decode cX11_gradeByLook 15 = .ok (.getfield 81, 3) := by decide +kernel
theorem dX11_gradeByLook_18 : decode cX11_gradeByLook 18 = .ok (.iconst 1, 1) := by decide +kernel
theorem dX11_gradeByLook_19 : decode cX11_gradeByLook 19 = .ok (.aload_n 0, 1) := by decide +kernel
theorem dX11_gradeByLook_20 : decode cX11_gradeByLook 20 = .ok (.getfield 54, 3) := by decide +kernel
theorem dX11_gradeByLook_23 : decode cX11_gradeByLook 23 = .ok (.iload_n 1, 1) := by decide +kernel
theorem dX11_gradeByLook_24 : decode cX11_gradeByLook 24 = .ok (.invokevirtual 373, 3) := by decide +kernel
theorem dX11_gradeByLook_27 : decode cX11_gradeByLook 27 = .ok (.iastore, 1) := by decide +kernel
theorem dX11_gradeByLook_28 : decode cX11_gradeByLook 28 = .ok (.aload_n 0, 1) := by decide +kernel
theorem dX11_gradeByLook_29 : decode cX11_gradeByLook 29 = .ok (.getfield 81, 3) := by decide +kernel
theorem dX11_gradeByLook_32 : decode cX11_gradeByLook 32 = .ok (.iconst 2, 1) := by decide +kernel
theorem dX11_gradeByLook_33 : decode cX11_gradeByLook 33 = .ok (.iconst (-1), 1) := by decide +kernel
theorem dX11_gradeByLook_34 : decode cX11_gradeByLook 34 = .ok (.iastore, 1) := by decide +kernel
theorem dX11_gradeByLook_35 : decode cX11_gradeByLook 35 = .ok (.aload_n 0, 1) := by decide +kernel
theorem dX11_gradeByLook_36 : decode cX11_gradeByLook 36 = .ok (.getfield 81, 3) := by decide +kernel
theorem dX11_gradeByLook_39 : decode cX11_gradeByLook 39 = .ok (.iconst 3, 1) := by decide +kernel
theorem dX11_gradeByLook_40 : decode cX11_gradeByLook 40 = .ok (.iconst (-1), 1) := by decide +kernel
theorem dX11_gradeByLook_41 : decode cX11_gradeByLook 41 = .ok (.iastore, 1) := by decide +kernel
theorem dX11_gradeByLook_42 : decode cX11_gradeByLook 42 = .ok (.aload_n 0, 1) := by decide +kernel
theorem dX11_gradeByLook_43 : decode cX11_gradeByLook 43 = .ok (.getfield 81, 3) := by decide +kernel
theorem dX11_gradeByLook_46 : decode cX11_gradeByLook 46 = .ok (.iconst 4, 1) := by decide +kernel
theorem dX11_gradeByLook_47 : decode cX11_gradeByLook 47 = .ok (.iload_n 2, 1) := by decide +kernel
theorem dX11_gradeByLook_48 : decode cX11_gradeByLook 48 = .ok (.iastore, 1) := by decide +kernel
theorem dX11_gradeByLook_49 : decode cX11_gradeByLook 49 = .ok (.aload_n 0, 1) := by decide +kernel
theorem dX11_gradeByLook_50 : decode cX11_gradeByLook 50 = .ok (.getfield 81, 3) := by decide +kernel
theorem dX11_gradeByLook_53 : decode cX11_gradeByLook 53 = .ok (.iconst 5, 1) := by decide +kernel
theorem dX11_gradeByLook_54 : decode cX11_gradeByLook 54 = .ok (.aload_n 0, 1) := by decide +kernel
theorem dX11_gradeByLook_55 : decode cX11_gradeByLook 55 = .ok (.getfield 54, 3) := by decide +kernel
theorem dX11_gradeByLook_58 : decode cX11_gradeByLook 58 = .ok (.iload_n 1, 1) := by decide +kernel
theorem dX11_gradeByLook_59 : decode cX11_gradeByLook 59 = .ok (.invokevirtual 376, 3) := by decide +kernel
theorem dX11_gradeByLook_62 : decode cX11_gradeByLook 62 = .ok (.iastore, 1) := by decide +kernel
theorem dX11_gradeByLook_63 : decode cX11_gradeByLook 63 = .ok (.aload_n 0, 1) := by decide +kernel
theorem dX11_gradeByLook_64 : decode cX11_gradeByLook 64 = .ok (.getfield 88, 3) := by decide +kernel
theorem dX11_gradeByLook_67 : decode cX11_gradeByLook 67 = .ok (.iconst 1, 1) := by decide +kernel
theorem dX11_gradeByLook_68 : decode cX11_gradeByLook 68 = .ok (.aload_n 0, 1) := by decide +kernel
theorem dX11_gradeByLook_69 : decode cX11_gradeByLook 69 = .ok (.getfield 81, 3) := by decide +kernel
theorem dX11_gradeByLook_72 : decode cX11_gradeByLook 72 = .ok (.invokevirtual 332, 3) := by decide +kernel
theorem dX11_gradeByLook_75 : decode cX11_gradeByLook 75 = .ok (.istore_n 3, 1) := by decide +kernel
theorem dX11_gradeByLook_76 : decode cX11_gradeByLook 76 = .ok (.iload_n 3, 1) := by decide +kernel
theorem dX11_gradeByLook_77 : decode cX11_gradeByLook 77 = .ok (.iconst (-1), 1) := by decide +kernel
theorem dX11_gradeByLook_78 : decode cX11_gradeByLook 78 = .ok (.if_icmp .ne 7, 3) := by decide +kernel
theorem dX11_gradeByLook_81 : decode cX11_gradeByLook 81 = .ok (.iconst 4, 1) := by decide +kernel
theorem dX11_gradeByLook_82 : decode cX11_gradeByLook 82 = .ok (.goto 11, 3) := by decide +kernel
theorem dX11_gradeByLook_85 : decode cX11_gradeByLook 85 = .ok (.aload_n 0, 1) := by decide +kernel
theorem dX11_gradeByLook_86 : decode cX11_gradeByLook 86 = .ok (.getfield 88, 3) := by decide +kernel
theorem dX11_gradeByLook_89 : decode cX11_gradeByLook 89 = .ok (.iload_n 3, 1) := by decide +kernel
theorem dX11_gradeByLook_90 : decode cX11_gradeByLook 90 = .ok (.invokevirtual 343, 3) := by decide +kernel
theorem dX11_gradeByLook_93 : decode cX11_gradeByLook 93 = .ok (.ireturn, 1) := by decide +kernel

theorem dX11_gradeOf_0 : decode cX11_gradeOf 0 = .ok (.aload_n 0, 1) := by decide +kernel
theorem dX11_gradeOf_1 : decode cX11_gradeOf 1 = .ok (.getfield 54, 3) := by decide +kernel
theorem dX11_gradeOf_4 : decode cX11_gradeOf 4 = .ok (.iload_n 1, 1) := by decide +kernel
theorem dX11_gradeOf_5 : decode cX11_gradeOf 5 = .ok (.iconst 0, 1) := by decide +kernel
theorem dX11_gradeOf_6 : decode cX11_gradeOf 6 = .ok (.invokevirtual 364, 3) := by decide +kernel
theorem dX11_gradeOf_9 : decode cX11_gradeOf 9 = .ok (.istore_n 2, 1) := by decide +kernel
theorem dX11_gradeOf_10 : decode cX11_gradeOf 10 = .ok (.aload_n 0, 1) := by decide +kernel
theorem dX11_gradeOf_11 : decode cX11_gradeOf 11 = .ok (.getfield 54, 3) := by decide +kernel
theorem dX11_gradeOf_14 : decode cX11_gradeOf 14 = .ok (.iload_n 1, 1) := by decide +kernel
theorem dX11_gradeOf_15 : decode cX11_gradeOf 15 = .ok (.iconst 1, 1) := by decide +kernel
theorem dX11_gradeOf_16 : decode cX11_gradeOf 16 = .ok (.invokevirtual 364, 3) := by decide +kernel
theorem dX11_gradeOf_19 : decode cX11_gradeOf 19 = .ok (.istore_n 3, 1) := by decide +kernel
theorem dX11_gradeOf_20 : decode cX11_gradeOf 20 = .ok (.iload_n 2, 1) := by decide +kernel
theorem dX11_gradeOf_21 : decode cX11_gradeOf 21 = .ok (.iconst (-1), 1) := by decide +kernel
theorem dX11_gradeOf_22 : decode cX11_gradeOf 22 = .ok (.if_icmp .eq 8, 3) := by decide +kernel
theorem dX11_gradeOf_25 : decode cX11_gradeOf 25 = .ok (.iload_n 3, 1) := by decide +kernel
theorem dX11_gradeOf_26 : decode cX11_gradeOf 26 = .ok (.iconst (-1), 1) := by decide +kernel
theorem dX11_gradeOf_27 : decode cX11_gradeOf 27 = .ok (.if_icmp .ne 5, 3) := by decide +kernel
theorem dX11_gradeOf_30 : decode cX11_gradeOf 30 = .ok (.iconst (-1), 1) := by decide +kernel
theorem dX11_gradeOf_31 : decode cX11_gradeOf 31 = .ok (.ireturn, 1) := by decide +kernel
theorem dX11_gradeOf_32 : decode cX11_gradeOf 32 = .ok (.aload_n 0, 1) := by decide +kernel
theorem dX11_gradeOf_33 : decode cX11_gradeOf 33 = .ok (.iload_n 1, 1) := by decide +kernel
theorem dX11_gradeOf_34 : decode cX11_gradeOf 34 = .ok (.iload_n 2, 1) := by decide +kernel
theorem dX11_gradeOf_35 : decode cX11_gradeOf 35 = .ok (.invokevirtual 367, 3) := by decide +kernel
theorem dX11_gradeOf_38 : decode cX11_gradeOf 38 = .ok (.aload_n 0, 1) := by decide +kernel
theorem dX11_gradeOf_39 : decode cX11_gradeOf 39 = .ok (.iload_n 1, 1) := by decide +kernel
theorem dX11_gradeOf_40 : decode cX11_gradeOf 40 = .ok (.iload_n 3, 1) := by decide +kernel
theorem dX11_gradeOf_41 : decode cX11_gradeOf 41 = .ok (.invokevirtual 367, 3) := by decide +kernel
theorem dX11_gradeOf_44 : decode cX11_gradeOf 44 = .ok (.invokestatic 296, 3) := by decide +kernel
theorem dX11_gradeOf_47 : decode cX11_gradeOf 47 = .ok (.ireturn, 1) := by decide +kernel

theorem dX11_init_0 : decode cX11_init 0 = .ok (.aload_n 0, 1) := by decide +kernel
theorem dX11_init_1 : decode cX11_init 1 = .ok (.invokespecial 1, 3) := by decide +kernel
theorem dX11_init_4 : decode cX11_init 4 = .ok (.aload_n 0, 1) := by decide +kernel
theorem dX11_init_5 : decode cX11_init 5 = .ok (.new 7, 3) := by decide +kernel
theorem dX11_init_8 : decode cX11_init 8 = .ok (.dup, 1) := by decide +kernel
theorem dX11_init_9 : decode cX11_init 9 = .ok (.invokespecial 9, 3) := by decide +kernel
theorem dX11_init_12 : decode cX11_init 12 = .ok (.putfield 10, 3) := by decide +kernel
theorem dX11_init_15 : decode cX11_init 15 = .ok (.aload_n 0, 1) := by decide +kernel
theorem dX11_init_16 : decode cX11_init 16 = .ok (.new 16, 3) := by decide +kernel
theorem dX11_init_19 : decode cX11_init 19 = .ok (.dup, 1) := by decide +kernel
theorem dX11_init_20 : decode cX11_init 20 = .ok (.invokespecial 18, 3) := by decide +kernel
theorem dX11_init_23 : decode cX11_init 23 = .ok (.putfield 19, 3) := by decide +kernel
theorem dX11_init_26 : decode cX11_init 26 = .ok (.aload_n 0, 1) := by decide +kernel
theorem dX11_init_27 : decode cX11_init 27 = .ok (.new 23, 3) := by decide +kernel
theorem dX11_init_30 : decode cX11_init 30 = .ok (.dup, 1) := by decide +kernel
theorem dX11_init_31 : decode cX11_init 31 = .ok (.invokespecial 25, 3) := by decide +kernel
theorem dX11_init_34 : decode cX11_init 34 = .ok (.putfield 26, 3) := by decide +kernel
theorem dX11_init_37 : decode cX11_init 37 = .ok (.aload_n 0, 1) := by decide +kernel
theorem dX11_init_38 : decode cX11_init 38 = .ok (.new 30, 3) := by decide +kernel
theorem dX11_init_41 : decode cX11_init 41 = .ok (.dup, 1) := by decide +kernel
theorem dX11_init_42 : decode cX11_init 42 = .ok (.invokespecial 32, 3) := by decide +kernel
theorem dX11_init_45 : decode cX11_init 45 = .ok (.putfield 33, 3) := by decide +kernel
theorem dX11_init_48 : decode cX11_init 48 = .ok (.aload_n 0, 1) := by decide +kernel
theorem dX11_init_49 : decode cX11_init 49 = .ok (.new 37, 3) := by decide +kernel
theorem dX11_init_52 : decode cX11_init 52 = .ok (.dup, 1) := by decide +kernel
theorem dX11_init_53 : decode cX11_init 53 = .ok (.invokespecial 39, 3) := by decide +kernel
theorem dX11_init_56 : decode cX11_init 56 = .ok (.putfield 40, 3) := by decide +kernel
theorem dX11_init_59 : decode cX11_init 59 = .ok (.aload_n 0, 1) := by decide +kernel
theorem dX11_init_60 : decode cX11_init 60 = .ok (.new 44, 3) := by decide +kernel
theorem dX11_init_63 : decode cX11_init 63 = .ok (.dup, 1) := by decide +kernel
theorem dX11_init_64 : decode cX11_init 64 = .ok (.invokespecial 46, 3) := by decide +kernel
theorem dX11_init_67 : decode cX11_init 67 = .ok (.putfield 47, 3) := by decide +kernel
theorem dX11_init_70 : decode cX11_init 70 = .ok (.aload_n 0, 1) := by decide +kernel
theorem dX11_init_71 : decode cX11_init 71 = .ok (.new 51, 3) := by decide +kernel
theorem dX11_init_74 : decode cX11_init 74 = .ok (.dup, 1) := by decide +kernel
theorem dX11_init_75 : decode cX11_init 75 = .ok (.invokespecial 53, 3) := by decide +kernel
theorem dX11_init_78 : decode cX11_init 78 = .ok (.putfield 54, 3) := by decide +kernel
theorem dX11_init_81 : decode cX11_init 81 = .ok (.aload_n 0, 1) := by decide +kernel
theorem dX11_init_82 : decode cX11_init 82 = .ok (.new 58, 3) := by decide +kernel
theorem dX11_init_85 : decode cX11_init 85 = .ok (.dup, 1) := by decide +kernel
theorem dX11_init_86 : decode cX11_init 86 = .ok (.invokespecial 60, 3) := by decide +kernel
theorem dX11_init_89 : decode cX11_init 89 = .ok (.putfield 61, 3) := by decide +kernel
theorem dX11_init_92 : decode cX11_init 92 = .ok (.aload_n 0, 1) := by decide +kernel
theorem dX11_init_93 : decode cX11_init 93 = .ok (.new 65, 3) := by decide +kernel
theorem dX11_init_96 : decode cX11_init 96 = .ok (.dup, 1) := by decide +kernel
theorem dX11_init_97 : decode cX11_init 97 = .ok (.invokespecial 67, 3) := by decide +kernel
theorem dX11_init_100 : decode cX11_init 100 = .ok (.putfield 68, 3) := by decide +kernel
theorem dX11_init_103 : decode cX11_init 103 = .ok (.aload_n 0, 1) := by decide +kernel
theorem dX11_init_104 : decode cX11_init 104 = .ok (.new 72, 3) := by decide +kernel
theorem dX11_init_107 : decode cX11_init 107 = .ok (.dup, 1) := by decide +kernel
theorem dX11_init_108 : decode cX11_init 108 = .ok (.aload_n 0, 1) := by decide +kernel
theorem dX11_init_109 : decode cX11_init 109 = .ok (.getfield 68, 3) := by decide +kernel
theorem dX11_init_112 : decode cX11_init 112 = .ok (.invokespecial 74, 3) := by decide +kernel
theorem dX11_init_115 : decode cX11_init 115 = .ok (.putfield 77, 3) := by decide +kernel
theorem dX11_init_118 : decode cX11_init 118 = .ok (.aload_n 0, 1) := by decide +kernel
theorem dX11_init_119 : decode cX11_init 119 = .ok (.bipush 6, 2) := by decide +kernel
theorem dX11_init_121 : decode cX11_init 121 = .ok (.newarray .int, 2) := by decide +kernel
theorem dX11_init_123 : decode cX11_init 123 = .ok (.putfield 81, 3) := by decide +kernel
theorem dX11_init_126 : decode cX11_init 126 = .ok (.aload_n 0, 1) := by decide +kernel
theorem dX11_init_127 : decode cX11_init 127 = .ok (.new 85, 3) := by decide +kernel
theorem dX11_init_130 : decode cX11_init 130 = .ok (.dup, 1) := by decide +kernel
theorem dX11_init_131 : decode cX11_init 131 = .ok (.invokespecial 87, 3) := by decide +kernel
theorem dX11_init_134 : decode cX11_init 134 = .ok (.putfield 88, 3) := by decide +kernel
theorem dX11_init_137 : decode cX11_init 137 = .ok (.aload_n 0, 1) := by decide +kernel
theorem dX11_init_138 : decode cX11_init 138 = .ok (.new 85, 3) := by decide +kernel
theorem dX11_init_141 : decode cX11_init 141 = .ok (.dup, 1) := by decide +kernel
theorem dX11_init_142 : decode cX11_init 142 = .ok (.invokespecial 87, 3) := by decide +kernel
theorem dX11_init_145 : decode cX11_init 145 = .ok (.putfield 92, 3) := by decide +kernel
theorem dX11_init_148 : decode cX11_init 148 = .ok (.aload_n 0, 1) := by decide +kernel
theorem dX11_init_149 : decode cX11_init 149 = .ok (.iconst (-1), 1) := by decide +kernel
theorem dX11_init_150 : decode cX11_init 150 = .ok (.putfield 95, 3) := by decide +kernel
theorem dX11_init_153 : decode cX11_init 153 = .ok (.return_, 1) := by decide +kernel

theorem dX11_isMember_0 : decode cX11_isMember 0 = .ok (.iload_n 0, 1) := by decide +kernel
theorem dX11_isMember_1 : decode cX11_isMember 1 = .ok (.iconst 0, 1) := by decide +kernel
theorem dX11_isMember_2 : decode cX11_isMember 2 = .ok (.bipush 9, 2) := by decide +kernel
theorem dX11_isMember_4 : decode cX11_isMember 4 = .ok (.invokestatic 103, 3) := by decide +kernel
theorem dX11_isMember_7 : decode cX11_isMember 7 = .ok (.ireturn, 1) := by decide +kernel

theorem dX11_isWeather_0 : decode cX11_isWeather 0 = .ok (.iload_n 0, 1) := by decide +kernel
theorem dX11_isWeather_1 : decode cX11_isWeather 1 = .ok (.bipush (-30), 2) := by decide +kernel
theorem dX11_isWeather_3 : decode cX11_isWeather 3 = .ok (.bipush 30, 2) := by decide +kernel
theorem dX11_isWeather_5 : decode cX11_isWeather 5 = .ok (.invokestatic 103, 3) := by decide +kernel
theorem dX11_isWeather_8 : decode cX11_isWeather 8 = .ok (.ifCond .eq 23, 3) := by decide +kernel
theorem dX11_isWeather_11 : decode cX11_isWeather 11 = .ok (.iload_n 1, 1) := by decide +kernel
theorem dX11_isWeather_12 : decode cX11_isWeather 12 = .ok (.bipush (-30), 2) := by decide +kernel
theorem dX11_isWeather_14 : decode cX11_isWeather 14 = .ok (.bipush 40, 2) := by decide +kernel
theorem dX11_isWeather_16 : decode cX11_isWeather 16 = .ok (.invokestatic 103, 3) := by decide +kernel
theorem dX11_isWeather_19 : decode cX11_isWeather 19 = .ok (.ifCond .eq 12, 3) := by decide +kernel
theorem dX11_isWeather_22 : decode cX11_isWeather 22 = .ok (.iload_n 1, 1) := by decide +kernel
theorem dX11_isWeather_23 : decode cX11_isWeather 23 = .ok (.iload_n 0, 1) := by decide +kernel
theorem dX11_isWeather_24 : decode cX11_isWeather 24 = .ok (.if_icmp .lt 7, 3) := by decide +kernel
theorem dX11_isWeather_27 : decode cX11_isWeather 27 = .ok (.iconst 1, 1) := by decide +kernel
theorem dX11_isWeather_28 : decode cX11_isWeather 28 = .ok (.goto 4, 3) := by decide +kernel
theorem dX11_isWeather_31 : decode cX11_isWeather 31 = .ok (.iconst 0, 1) := by decide +kernel
theorem dX11_isWeather_32 : decode cX11_isWeather 32 = .ok (.ireturn, 1) := by decide +kernel

theorem dX11_isWithin_0 : decode cX11_isWithin 0 = .ok (.iload_n 0, 1) := by decide +kernel
theorem dX11_isWithin_1 : decode cX11_isWithin 1 = .ok (.iload_n 1, 1) := by decide +kernel
theorem dX11_isWithin_2 : decode cX11_isWithin 2 = .ok (.if_icmp .lt 12, 3) := by decide +kernel
theorem dX11_isWithin_5 : decode cX11_isWithin 5 = .ok (.iload_n 0, 1) := by decide +kernel
theorem dX11_isWithin_6 : decode cX11_isWithin 6 = .ok (.iload_n 2, 1) := by decide +kernel
theorem dX11_isWithin_7 : decode cX11_isWithin 7 = .ok (.if_icmp .gt 7, 3) := by decide +kernel
theorem dX11_isWithin_10 : decode cX11_isWithin 10 = .ok (.iconst 1, 1) := by decide +kernel
theorem dX11_isWithin_11 : decode cX11_isWithin 11 = .ok (.goto 4, 3) := by decide +kernel
theorem dX11_isWithin_14 : decode cX11_isWithin 14 = .ok (.iconst 0, 1) := by decide +kernel
theorem dX11_isWithin_15 : decode cX11_isWithin 15 = .ok (.ireturn, 1) := by decide +kernel

theorem dX11_leak_0 : decode cX11_leak 0 = .ok (.aload_n 0, 1) := by decide +kernel
theorem dX11_leak_1 : decode cX11_leak 1 = .ok (.getfield 10, 3) := by decide +kernel
theorem dX11_leak_4 : decode cX11_leak 4 = .ok (.iload_n 1, 1) := by decide +kernel
theorem dX11_leak_5 : decode cX11_leak 5 = .ok (.invokevirtual 114, 3) := by decide +kernel
theorem dX11_leak_8 : decode cX11_leak 8 = .ok (.ifCond .eq 13, 3) := by decide +kernel
theorem dX11_leak_11 : decode cX11_leak 11 = .ok (.iload_n 2, 1) := by decide +kernel
theorem dX11_leak_12 : decode cX11_leak 12 = .ok (.iconst 0, 1) := by decide +kernel
theorem dX11_leak_13 : decode cX11_leak 13 = .ok (.bipush 20, 2) := by decide +kernel
theorem dX11_leak_15 : decode cX11_leak 15 = .ok (.invokestatic 103, 3) := by decide +kernel
theorem dX11_leak_18 : decode cX11_leak 18 = .ok (.ifCond .ne 5, 3) := by decide +kernel
theorem dX11_leak_21 : decode cX11_leak 21 = .ok (.iconst 0, 1) := by decide +kernel
theorem dX11_leak_22 : decode cX11_leak 22 = .ok (.ireturn, 1) := by decide +kernel
theorem dX11_leak_23 : decode cX11_leak 23 = .ok (.aload_n 0, 1) := by decide +kernel
theorem dX11_leak_24 : decode cX11_leak 24 = .ok (.getfield 10, 3) := by decide +kernel
theorem dX11_leak_27 : decode cX11_leak 27 = .ok (.iload_n 1, 1) := by decide +kernel
theorem dX11_leak_28 : decode cX11_leak 28 = .ok (.iload_n 2, 1) := by decide +kernel
theorem dX11_leak_29 : decode cX11_leak 29 = .ok (.invokevirtual 140, 3) := by decide +kernel
theorem dX11_leak_32 : decode cX11_leak 32 = .ok (.iconst 1, 1) := by decide +kernel
theorem dX11_leak_33 : decode cX11_leak 33 = .ok (.ireturn, 1) := by decide +kernel

theorem dX11_let_0 : decode cX11_let 0 = .ok (.iload_n 1, 1) := by decide +kernel
theorem dX11_let_1 : decode cX11_let 1 = .ok (.iconst 1, 1) := by decide +kernel
theorem dX11_let_2 : decode cX11_let 2 = .ok (.sipush 5000, 3) := by decide +kernel
theorem dX11_let_5 : decode cX11_let 5 = .ok (.invokestatic 103, 3) := by decide +kernel
theorem dX11_let_8 : decode cX11_let 8 = .ok (.ifCond .eq 22, 3) := by decide +kernel
theorem dX11_let_11 : decode cX11_let 11 = .ok (.iload_n 1, 1) := by decide +kernel
theorem dX11_let_12 : decode cX11_let 12 = .ok (.sipush 5000, 3) := by decide +kernel
theorem dX11_let_15 : decode cX11_let 15 = .ok (.aload_n 0, 1) := by decide +kernel
theorem dX11_let_16 : decode cX11_let 16 = .ok (.getfield 47, 3) := by decide +kernel
theorem dX11_let_19 : decode cX11_let 19 = .ok (.getfield 213, 3) := by decide +kernel
theorem dX11_let_22 : decode cX11_let 22 = .ok (.isub, 1) := by decide +kernel
theorem dX11_let_23 : decode cX11_let 23 = .ok (.if_icmp .gt 7, 3) := by decide +kernel
theorem dX11_let_26 : decode cX11_let 26 = .ok (.iconst 1, 1) := by decide +kernel
theorem dX11_let_27 : decode cX11_let 27 = .ok (.goto 4, 3) := by decide +kernel
theorem dX11_let_30 : decode cX11_let 30 = .ok (.iconst 0, 1) := by decide +kernel
theorem dX11_let_31 : decode cX11_let 31 = .ok (.istore_n 2, 1) := by decide +kernel
theorem dX11_let_32 : decode cX11_let 32 = .ok (.iload_n 2, 1) := by decide +kernel
theorem dX11_let_33 : decode cX11_let 33 = .ok (.ifCond .eq 14, 3) := by decide +kernel
theorem dX11_let_36 : decode cX11_let 36 = .ok (.aload_n 0, 1) := by decide +kernel
theorem dX11_let_37 : decode cX11_let 37 = .ok (.getfield 40, 3) := by decide +kernel
theorem dX11_let_40 : decode cX11_let 40 = .ok (.iload_n 1, 1) := by decide +kernel
theorem dX11_let_41 : decode cX11_let 41 = .ok (.invokevirtual 216, 3) := by decide +kernel
theorem dX11_let_44 : decode cX11_let 44 = .ok (.ifCond .ne 5, 3) := by decide +kernel
theorem dX11_let_47 : decode cX11_let 47 = .ok (.iconst (-1), 1) := by decide +kernel
theorem dX11_let_48 : decode cX11_let 48 = .ok (.ireturn, 1) := by decide +kernel
theorem dX11_let_49 : decode cX11_let 49 = .ok (.aload_n 0, 1) := by decide +kernel
theorem dX11_let_50 : decode cX11_let 50 = .ok (.getfield 47, 3) := by decide +kernel
theorem dX11_let_53 : decode cX11_let 53 = .ok (.iload_n 1, 1) := by decide +kernel
theorem dX11_let_54 : decode cX11_let 54 = .ok (.invokevirtual 219, 3) := by decide +kernel
theorem dX11_let_57 : decode cX11_let 57 = .ok (.aload_n 0, 1) := by decide +kernel
theorem dX11_let_58 : decode cX11_let 58 = .ok (.getfield 47, 3) := by decide +kernel
theorem dX11_let_61 : decode cX11_let 61 = .ok (.getfield 213, 3) := by decide +kernel
theorem dX11_let_64 : decode cX11_let 64 = .ok (.ireturn, 1) := by decide +kernel

theorem dX11_look_0 : decode cX11_look 0 = .ok (.aload_n 0, 1) := by decide +kernel
theorem dX11_look_1 : decode cX11_look 1 = .ok (.getfield 54, 3) := by decide +kernel
theorem dX11_look_4 : decode cX11_look 4 = .ok (.iload_n 1, 1) := by decide +kernel
theorem dX11_look_5 : decode cX11_look 5 = .ok (.invokevirtual 230, 3) := by decide +kernel
theorem dX11_look_8 : decode cX11_look 8 = .ok (.ifCond .eq 26, 3) := by decide +kernel
theorem dX11_look_11 : decode cX11_look 11 = .ok (.iload_n 2, 1) := by decide +kernel
theorem dX11_look_12 : decode cX11_look 12 = .ok (.iconst 0, 1) := by decide +kernel
theorem dX11_look_13 : decode cX11_look 13 = .ok (.iconst 1, 1) := by decide +kernel
theorem dX11_look_14 : decode cX11_look 14 = .ok (.invokestatic 103, 3) := by decide +kernel
theorem dX11_look_17 : decode cX11_look 17 = .ok (.ifCond .eq 17, 3) := by decide +kernel
theorem dX11_look_20 : decode cX11_look 20 = .ok (.iload_n 3, 1) := by decide +kernel
theorem dX11_look_21 : decode cX11_look 21 = .ok (.iconst 0, 1) := by decide +kernel
theorem dX11_look_22 : decode cX11_look 22 = .ok (.bipush 100, 2) := by decide +kernel
theorem dX11_look_24 : decode cX11_look 24 = .ok (.invokestatic 103, 3) := by decide +kernel
theorem dX11_look_27 : decode cX11_look 27 = .ok (.ifCond .eq 7, 3) := by decide +kernel
theorem dX11_look_30 : decode cX11_look 30 = .ok (.iconst 1, 1) := by decide +kernel
theorem dX11_look_31 : decode cX11_look 31 = .ok (.goto 4, 3) := by decide +kernel
theorem dX11_look_34 : decode cX11_look 34 = .ok (.iconst 0, 1) := by decide +kernel
theorem dX11_look_35 : decode cX11_look 35 = .ok (.istore 4, 2) := by decide +kernel
theorem dX11_look_37 : decode cX11_look 37 = .ok (.iload 4, 2) := by decide +kernel
theorem dX11_look_39 : decode cX11_look 39 = .ok (.ifCond .eq 20, 3) := by decide +kernel
theorem dX11_look_42 : decode cX11_look 42 = .ok (.aload_n 0, 1) := by decide +kernel
theorem dX11_look_43 : decode cX11_look 43 = .ok (.getfield 54, 3) := by decide +kernel
theorem dX11_look_46 : decode cX11_look 46 = .ok (.iload_n 1, 1) := by decide +kernel
theorem dX11_look_47 : decode cX11_look 47 = .ok (.iload_n 2, 1) := by decide +kernel
theorem dX11_look_48 : decode cX11_look 48 = .ok (.iload_n 3, 1) := by decide +kernel
theorem dX11_look_49 : decode cX11_look 49 = .ok (.invokevirtual 231, 3) := by decide +kernel
theorem dX11_look_52 : decode cX11_look 52 = .ok (.ifCond .eq 7, 3) := by decide +kernel
theorem dX11_look_55 : decode cX11_look 55 = .ok (.iconst 1, 1) := by decide +kernel
theorem dX11_look_56 : decode cX11_look 56 = .ok (.goto 4, 3) := by decide +kernel
theorem dX11_look_59 : decode cX11_look 59 = .ok (.iconst 0, 1) := by decide +kernel
theorem dX11_look_60 : decode cX11_look 60 = .ok (.ireturn, 1) := by decide +kernel

theorem dX11_member_0 : decode cX11_member 0 = .ok (.iload_n 1, 1) := by decide +kernel
theorem dX11_member_1 : decode cX11_member 1 = .ok (.invokestatic 107, 3) := by decide +kernel
theorem dX11_member_4 : decode cX11_member 4 = .ok (.ifCond .eq 15, 3) := by decide +kernel
theorem dX11_member_7 : decode cX11_member 7 = .ok (.aload_n 0, 1) := by decide +kernel
theorem dX11_member_8 : decode cX11_member 8 = .ok (.getfield 61, 3) := by decide +kernel
theorem dX11_member_11 : decode cX11_member 11 = .ok (.iload_n 1, 1) := by decide +kernel
theorem dX11_member_12 : decode cX11_member 12 = .ok (.iload_n 2, 1) := by decide +kernel
theorem dX11_member_13 : decode cX11_member 13 = .ok (.invokevirtual 249, 3) := by decide +kernel
theorem dX11_member_16 : decode cX11_member 16 = .ok (.goto 4, 3) := by decide +kernel
theorem dX11_member_19 : decode cX11_member 19 = .ok (.iconst (-1), 1) := by decide +kernel
theorem dX11_member_20 : decode cX11_member 20 = .ok (.ireturn, 1) := by decide +kernel

theorem dX11_node_0 : decode cX11_node 0 = .ok (.aload_n 0, 1) := by decide +kernel
theorem dX11_node_1 : decode cX11_node 1 = .ok (.getfield 10, 3) := by decide +kernel
theorem dX11_node_4 : decode cX11_node 4 = .ok (.iload_n 1, 1) := by decide +kernel
theorem dX11_node_5 : decode cX11_node 5 = .ok (.invokevirtual 99, 3) := by decide +kernel
theorem dX11_node_8 : decode cX11_node 8 = .ok (.ifCond .eq 36, 3) := by decide +kernel
theorem dX11_node_11 : decode cX11_node 11 = .ok (.iload_n 2, 1) := by decide +kernel
theorem dX11_node_12 : decode cX11_node 12 = .ok (.iconst 1, 1) := by decide +kernel
theorem dX11_node_13 : decode cX11_node 13 = .ok (.bipush 100, 2) := by decide +kernel
theorem dX11_node_15 : decode cX11_node 15 = .ok (.invokestatic 103, 3) := by decide +kernel
theorem dX11_node_18 : decode cX11_node 18 = .ok (.ifCond .eq 26, 3) := by decide +kernel
theorem dX11_node_21 : decode cX11_node 21 = .ok (.iload_n 3, 1) := by decide +kernel
theorem dX11_node_22 : decode cX11_node 22 = .ok (.iconst 0, 1) := by decide +kernel
theorem dX11_node_23 : decode cX11_node 23 = .ok (.sipush 500, 3) := by decide +kernel
theorem dX11_node_26 : decode cX11_node 26 = .ok (.invokestatic 103, 3) := by decide +kernel
theorem dX11_node_29 : decode cX11_node 29 = .ok (.ifCond .eq 15, 3) := by decide +kernel
theorem dX11_node_32 : decode cX11_node 32 = .ok (.iload 4, 2) := by decide +kernel
theorem dX11_node_34 : decode cX11_node 34 = .ok (.invokestatic 107, 3) := by decide +kernel
theorem dX11_node_37 : decode cX11_node 37 = .ok (.ifCond .eq 7, 3) := by decide +kernel
theorem dX11_node_40 : decode cX11_node 40 = .ok (.iconst 1, 1) := by decide +kernel
theorem dX11_node_41 : decode cX11_node 41 = .ok (.goto 4, 3) := by decide +kernel
theorem dX11_node_44 : decode cX11_node 44 = .ok (.iconst 0, 1) := by decide +kernel
theorem dX11_node_45 : decode cX11_node 45 = .ok (.istore 5, 2) := by decide +kernel
theorem dX11_node_47 : decode cX11_node 47 = .ok (.iload 5, 2) := by decide +kernel
theorem dX11_node_49 : decode cX11_node 49 = .ok (.ifCond .eq 18, 3) := by decide +kernel
theorem dX11_node_52 : decode cX11_node 52 = .ok (.aload_n 0, 1) := by decide +kernel
theorem dX11_node_53 : decode cX11_node 53 = .ok (.getfield 10, 3) := by decide +kernel
theorem dX11_node_56 : decode cX11_node 56 = .ok (.iload_n 1, 1) := by decide +kernel
theorem dX11_node_57 : decode cX11_node 57 = .ok (.iload_n 2, 1) := by decide +kernel
theorem dX11_node_58 : decode cX11_node 58 = .ok (.iload_n 3, 1) := by decide +kernel
theorem dX11_node_59 : decode cX11_node 59 = .ok (.iload 4, 2) := by decide +kernel
theorem dX11_node_61 : decode cX11_node 61 = .ok (.invokevirtual 110, 3) := by decide +kernel
theorem dX11_node_64 : decode cX11_node 64 = .ok (.goto 4, 3) := by decide +kernel
theorem dX11_node_67 : decode cX11_node 67 = .ok (.iconst (-1), 1) := by decide +kernel
theorem dX11_node_68 : decode cX11_node 68 = .ok (.ireturn, 1) := by decide +kernel

theorem dX11_nodeOf_0 : decode cX11_nodeOf 0 = .ok (.aload_n 0, 1) := by decide +kernel
theorem dX11_nodeOf_1 : decode cX11_nodeOf 1 = .ok (.getfield 10, 3) := by decide +kernel
theorem dX11_nodeOf_4 : decode cX11_nodeOf 4 = .ok (.iload_n 1, 1) := by decide +kernel
theorem dX11_nodeOf_5 : decode cX11_nodeOf 5 = .ok (.invokevirtual 99, 3) := by decide +kernel
theorem dX11_nodeOf_8 : decode cX11_nodeOf 8 = .ok (.ifCond .ne 5, 3) := by decide +kernel
theorem dX11_nodeOf_11 : decode cX11_nodeOf 11 = .ok (.iconst (-1), 1) := by decide +kernel
theorem dX11_nodeOf_12 : decode cX11_nodeOf 12 = .ok (.ireturn, 1) := by decide +kernel
theorem dX11_nodeOf_13 : decode cX11_nodeOf 13 = .ok (.iload_n 2, 1) := by decide +kernel
theorem dX11_nodeOf_14 : decode cX11_nodeOf 14 = .ok (.bipush 6, 2) := by decide +kernel
theorem dX11_nodeOf_16 : decode cX11_nodeOf 16 = .ok (.if_icmp .ne 14, 3) := by decide +kernel
theorem dX11_nodeOf_19 : decode cX11_nodeOf 19 = .ok (.aload_n 0, 1) := by decide +kernel
theorem dX11_nodeOf_20 : decode cX11_nodeOf 20 = .ok (.getfield 19, 3) := by decide +kernel
theorem dX11_nodeOf_23 : decode cX11_nodeOf 23 = .ok (.iload_n 1, 1) := by decide +kernel
theorem dX11_nodeOf_24 : decode cX11_nodeOf 24 = .ok (.invokevirtual 151, 3) := by decide +kernel
theorem dX11_nodeOf_27 : decode cX11_nodeOf 27 = .ok (.goto 12, 3) := by decide +kernel
theorem dX11_nodeOf_30 : decode cX11_nodeOf 30 = .ok (.aload_n 0, 1) := by decide +kernel
theorem dX11_nodeOf_31 : decode cX11_nodeOf 31 = .ok (.getfield 10, 3) := by decide +kernel
theorem dX11_nodeOf_34 : decode cX11_nodeOf 34 = .ok (.iload_n 1, 1) := by decide +kernel
theorem dX11_nodeOf_35 : decode cX11_nodeOf 35 = .ok (.iload_n 2, 1) := by decide +kernel
theorem dX11_nodeOf_36 : decode cX11_nodeOf 36 = .ok (.invokevirtual 154, 3) := by decide +kernel
theorem dX11_nodeOf_39 : decode cX11_nodeOf 39 = .ok (.ireturn, 1) := by decide +kernel

theorem dX11_pan_0 : decode cX11_pan 0 = .ok (.aload_n 0, 1) := by decide +kernel
theorem dX11_pan_1 : decode cX11_pan 1 = .ok (.getfield 47, 3) := by decide +kernel
theorem dX11_pan_4 : decode cX11_pan 4 = .ok (.iload_n 1, 1) := by decide +kernel
theorem dX11_pan_5 : decode cX11_pan 5 = .ok (.invokevirtual 228, 3) := by decide +kernel
theorem dX11_pan_8 : decode cX11_pan 8 = .ok (.ireturn, 1) := by decide +kernel

theorem dX11_passMinute_0 : decode cX11_passMinute 0 = .ok (.aload_n 0, 1) := by decide +kernel
theorem dX11_passMinute_1 : decode cX11_passMinute 1 = .ok (.invokevirtual 329, 3) := by decide +kernel
theorem dX11_passMinute_4 : decode cX11_passMinute 4 = .ok (.aload_n 0, 1) := by decide +kernel
theorem dX11_passMinute_5 : decode cX11_passMinute 5 = .ok (.getfield 88, 3) := by decide +kernel
theorem dX11_passMinute_8 : decode cX11_passMinute 8 = .ok (.iconst 0, 1) := by decide +kernel
theorem dX11_passMinute_9 : decode cX11_passMinute 9 = .ok (.aload_n 0, 1) := by decide +kernel
theorem dX11_passMinute_10 : decode cX11_passMinute 10 = .ok (.getfield 81, 3) := by decide +kernel
theorem dX11_passMinute_13 : decode cX11_passMinute 13 = .ok (.invokevirtual 332, 3) := by decide +kernel
theorem dX11_passMinute_16 : decode cX11_passMinute 16 = .ok (.istore_n 1, 1) := by decide +kernel
theorem dX11_passMinute_17 : decode cX11_passMinute 17 = .ok (.aload_n 0, 1) := by decide +kernel
theorem dX11_passMinute_18 : decode cX11_passMinute 18 = .ok (.getfield 88, 3) := by decide +kernel
theorem dX11_passMinute_21 : decode cX11_passMinute 21 = .ok (.iload_n 1, 1) := by decide +kernel
theorem dX11_passMinute_22 : decode cX11_passMinute 22 = .ok (.invokevirtual 336, 3) := by decide +kernel
theorem dX11_passMinute_25 : decode cX11_passMinute 25 = .ok (.istore_n 2, 1) := by decide +kernel
theorem dX11_passMinute_26 : decode cX11_passMinute 26 = .ok (.iload_n 2, 1) := by decide +kernel
theorem dX11_passMinute_27 : decode cX11_passMinute 27 = .ok (.bipush 11, 2) := by decide +kernel
theorem dX11_passMinute_29 : decode cX11_passMinute 29 = .ok (.if_icmp .ne 11, 3) := by decide +kernel
theorem dX11_passMinute_32 : decode cX11_passMinute 32 = .ok (.aload_n 0, 1) := by decide +kernel
theorem dX11_passMinute_33 : decode cX11_passMinute 33 = .ok (.invokevirtual 339, 3) := by decide +kernel
theorem dX11_passMinute_36 : decode cX11_passMinute 36 = .ok (.ifCond .eq 4, 3) := by decide +kernel
theorem dX11_passMinute_39 : decode cX11_passMinute 39 = .ok (.return_, 1) := by decide +kernel
theorem dX11_passMinute_40 : decode cX11_passMinute 40 = .ok (.iload_n 2, 1) := by decide +kernel
theorem dX11_passMinute_41 : decode cX11_passMinute 41 = .ok (.iconst 2, 1) := by decide +kernel
theorem dX11_passMinute_42 : decode cX11_passMinute 42 = .ok (.if_icmp .ne 18, 3) := by decide +kernel
theorem dX11_passMinute_45 : decode cX11_passMinute 45 = .ok (.aload_n 0, 1) := by decide +kernel
theorem dX11_passMinute_46 : decode cX11_passMinute 46 = .ok (.getfield 47, 3) := by decide +kernel
theorem dX11_passMinute_49 : decode cX11_passMinute 49 = .ok (.aload_n 0, 1) := by decide +kernel
theorem dX11_passMinute_50 : decode cX11_passMinute 50 = .ok (.getfield 88, 3) := by decide +kernel
theorem dX11_passMinute_53 : decode cX11_passMinute 53 = .ok (.iload_n 1, 1) := by decide +kernel
theorem dX11_passMinute_54 : decode cX11_passMinute 54 = .ok (.invokevirtual 343, 3) := by decide +kernel
theorem dX11_passMinute_57 : decode cX11_passMinute 57 = .ok (.putfield 346, 3) := by decide +kernel
theorem dX11_passMinute_60 : decode cX11_passMinute 60 = .ok (.aload_n 0, 1) := by decide +kernel
theorem dX11_passMinute_61 : decode cX11_passMinute 61 = .ok (.getfield 47, 3) := by decide +kernel
theorem dX11_passMinute_64 : decode cX11_passMinute 64 = .ok (.invokevirtual 349, 3) := by decide +kernel
theorem dX11_passMinute_67 : decode cX11_passMinute 67 = .ok (.return_, 1) := by decide +kernel

theorem dX11_pump_0 : decode cX11_pump 0 = .ok (.iload_n 1, 1) := by decide +kernel
theorem dX11_pump_1 : decode cX11_pump 1 = .ok (.iconst 0, 1) := by decide +kernel
theorem dX11_pump_2 : decode cX11_pump 2 = .ok (.bipush 100, 2) := by decide +kernel
theorem dX11_pump_4 : decode cX11_pump 4 = .ok (.invokestatic 103, 3) := by decide +kernel
theorem dX11_pump_7 : decode cX11_pump 7 = .ok (.ifCond .ne 5, 3) := by decide +kernel
theorem dX11_pump_10 : decode cX11_pump 10 = .ok (.iconst 0, 1) := by decide +kernel
theorem dX11_pump_11 : decode cX11_pump 11 = .ok (.ireturn, 1) := by decide +kernel
theorem dX11_pump_12 : decode cX11_pump 12 = .ok (.aload_n 0, 1) := by decide +kernel
theorem dX11_pump_13 : decode cX11_pump 13 = .ok (.getfield 10, 3) := by decide +kernel
theorem dX11_pump_16 : decode cX11_pump 16 = .ok (.iload_n 1, 1) := by decide +kernel
theorem dX11_pump_17 : decode cX11_pump 17 = .ok (.invokevirtual 144, 3) := by decide +kernel
theorem dX11_pump_20 : decode cX11_pump 20 = .ok (.iconst 1, 1) := by decide +kernel
theorem dX11_pump_21 : decode cX11_pump 21 = .ok (.ireturn, 1) := by decide +kernel

theorem dX11_rules_0 : decode cX11_rules 0 = .ok (.iload_n 1, 1) := by decide +kernel
theorem dX11_rules_1 : decode cX11_rules 1 = .ok (.iconst 0, 1) := by decide +kernel
theorem dX11_rules_2 : decode cX11_rules 2 = .ok (.aload_n 0, 1) := by decide +kernel
theorem dX11_rules_3 : decode cX11_rules 3 = .ok (.getfield 68, 3) := by decide +kernel
theorem dX11_rules_6 : decode cX11_rules 6 = .ok (.getfield 256, 3) := by decide +kernel
theorem dX11_rules_9 : decode cX11_rules 9 = .ok (.invokestatic 103, 3) := by decide +kernel
theorem dX11_rules_12 : decode cX11_rules 12 = .ok (.ifCond .ne 6, 3) := by decide +kernel
theorem dX11_rules_15 : decode cX11_rules 15 = .ok (.bipush (-2), 2) := by decide +kernel
theorem dX11_rules_17 : decode cX11_rules 17 = .ok (.ireturn, 1) := by decide +kernel
theorem dX11_rules_18 : decode cX11_rules 18 = .ok (.aload_n 0, 1) := by decide +kernel
theorem dX11_rules_19 : decode cX11_rules 19 = .ok (.aload_n 0, 1) := by decide +kernel
theorem dX11_rules_20 : decode cX11_rules 20 = .ok (.getfield 77, 3) := by decide +kernel
theorem dX11_rules_23 : decode cX11_rules 23 = .ok (.iload_n 1, 1) := by decide +kernel
theorem dX11_rules_24 : decode cX11_rules 24 = .ok (.aload_n 0, 1) := by decide +kernel
theorem dX11_rules_25 : decode cX11_rules 25 = .ok (.getfield 92, 3) := by decide +kernel
theorem dX11_rules_28 : decode cX11_rules 28 = .ok (.invokevirtual 259, 3) := by decide +kernel
theorem dX11_rules_31 : decode cX11_rules 31 = .ok (.ifCond .eq 7, 3) := by decide +kernel
theorem dX11_rules_34 : decode cX11_rules 34 = .ok (.iconst (-1), 1) := by decide +kernel
theorem dX11_rules_35 : decode cX11_rules 35 = .ok (.goto 10, 3) := by decide +kernel
theorem dX11_rules_38 : decode cX11_rules 38 = .ok (.aload_n 0, 1) := by decide +kernel
theorem dX11_rules_39 : decode cX11_rules 39 = .ok (.getfield 77, 3) := by decide +kernel
theorem dX11_rules_42 : decode cX11_rules 42 = .ok (.invokevirtual 263, 3) := by decide +kernel
theorem dX11_rules_45 : decode cX11_rules 45 = .ok (.putfield 95, 3) := by decide +kernel
theorem dX11_rules_48 : decode cX11_rules 48 = .ok (.aload_n 0, 1) := by decide +kernel
theorem dX11_rules_49 : decode cX11_rules 49 = .ok (.getfield 68, 3) := by decide +kernel
theorem dX11_rules_52 : decode cX11_rules 52 = .ok (.invokevirtual 266, 3) := by decide +kernel
theorem dX11_rules_55 : decode cX11_rules 55 = .ok (.aload_n 0, 1) := by decide +kernel
theorem dX11_rules_56 : decode cX11_rules 56 = .ok (.getfield 95, 3) := by decide +kernel
theorem dX11_rules_59 : decode cX11_rules 59 = .ok (.iconst (-1), 1) := by decide +kernel
theorem dX11_rules_60 : decode cX11_rules 60 = .ok (.if_icmp .eq 5, 3) := by decide +kernel
theorem dX11_rules_63 : decode cX11_rules 63 = .ok (.iconst (-1), 1) := by decide +kernel
theorem dX11_rules_64 : decode cX11_rules 64 = .ok (.ireturn, 1) := by decide +kernel
theorem dX11_rules_65 : decode cX11_rules 65 = .ok (.aload_n 0, 1) := by decide +kernel
theorem dX11_rules_66 : decode cX11_rules 66 = .ok (.getfield 88, 3) := by decide +kernel
theorem dX11_rules_69 : decode cX11_rules 69 = .ok (.astore_n 2, 1) := by decide +kernel
theorem dX11_rules_70 : decode cX11_rules 70 = .ok (.aload_n 0, 1) := by decide +kernel
theorem dX11_rules_71 : decode cX11_rules 71 = .ok (.aload_n 0, 1) := by decide +kernel
theorem dX11_rules_72 : decode cX11_rules 72 = .ok (.getfield 92, 3) := by decide +kernel
theorem dX11_rules_75 : decode cX11_rules 75 = .ok (.putfield 88, 3) := by decide +kernel
theorem dX11_rules_78 : decode cX11_rules 78 = .ok (.aload_n 0, 1) := by decide +kernel
theorem dX11_rules_79 : decode cX11_rules 79 = .ok (.aload_n 2, 1) := by decide +kernel
theorem dX11_rules_80 : decode cX11_rules 80 = .ok (.putfield 92, 3) := by decide +kernel
theorem dX11_rules_83 : decode cX11_rules 83 = .ok (.aload_n 0, 1) := by decide +kernel
theorem dX11_rules_84 : decode cX11_rules 84 = .ok (.getfield 88, 3) := by decide +kernel
theorem dX11_rules_87 : decode cX11_rules 87 = .ok (.getfield 269, 3) := by decide +kernel
theorem dX11_rules_90 : decode cX11_rules 90 = .ok (.ireturn, 1) := by decide +kernel

theorem dX11_sell_0 : decode cX11_sell 0 = .ok (.iload_n 1, 1) := by decide +kernel
theorem dX11_sell_1 : decode cX11_sell 1 = .ok (.iconst 0, 1) := by decide +kernel
theorem dX11_sell_2 : decode cX11_sell 2 = .ok (.iconst 4, 1) := by decide +kernel
theorem dX11_sell_3 : decode cX11_sell 3 = .ok (.invokestatic 103, 3) := by decide +kernel
theorem dX11_sell_6 : decode cX11_sell 6 = .ok (.ifCond .eq 13, 3) := by decide +kernel
theorem dX11_sell_9 : decode cX11_sell 9 = .ok (.iload_n 2, 1) := by decide +kernel
theorem dX11_sell_10 : decode cX11_sell 10 = .ok (.iconst 0, 1) := by decide +kernel
theorem dX11_sell_11 : decode cX11_sell 11 = .ok (.ldc 238, 2) := by decide +kernel
theorem dX11_sell_13 : decode cX11_sell 13 = .ok (.invokestatic 103, 3) := by decide +kernel
theorem dX11_sell_16 : decode cX11_sell 16 = .ok (.ifCond .ne 5, 3) := by decide +kernel
theorem dX11_sell_19 : decode cX11_sell 19 = .ok (.iconst (-1), 1) := by decide +kernel
theorem dX11_sell_20 : decode cX11_sell 20 = .ok (.ireturn, 1) := by decide +kernel
theorem dX11_sell_21 : decode cX11_sell 21 = .ok (.aload_n 0, 1) := by decide +kernel
theorem dX11_sell_22 : decode cX11_sell 22 = .ok (.getfield 61, 3) := by decide +kernel
theorem dX11_sell_25 : decode cX11_sell 25 = .ok (.invokevirtual 239, 3) := by decide +kernel
theorem dX11_sell_28 : decode cX11_sell 28 = .ok (.ifCond .ne 5, 3) := by decide +kernel
theorem dX11_sell_31 : decode cX11_sell 31 = .ok (.iconst (-1), 1) := by decide +kernel
theorem dX11_sell_32 : decode cX11_sell 32 = .ok (.ireturn, 1) := by decide +kernel
theorem dX11_sell_33 : decode cX11_sell 33 = .ok (.aload_n 0, 1) := by decide +kernel
theorem dX11_sell_34 : decode cX11_sell 34 = .ok (.iload_n 1, 1) := by decide +kernel
theorem dX11_sell_35 : decode cX11_sell 35 = .ok (.invokevirtual 243, 3) := by decide +kernel
theorem dX11_sell_38 : decode cX11_sell 38 = .ok (.istore_n 3, 1) := by decide +kernel
theorem dX11_sell_39 : decode cX11_sell 39 = .ok (.iload_n 3, 1) := by decide +kernel
theorem dX11_sell_40 : decode cX11_sell 40 = .ok (.ifCond .ne 5, 3) := by decide +kernel
theorem dX11_sell_43 : decode cX11_sell 43 = .ok (.iconst (-1), 1) := by decide +kernel
theorem dX11_sell_44 : decode cX11_sell 44 = .ok (.ireturn, 1) := by decide +kernel
theorem dX11_sell_45 : decode cX11_sell 45 = .ok (.aload_n 0, 1) := by decide +kernel
theorem dX11_sell_46 : decode cX11_sell 46 = .ok (.getfield 61, 3) := by decide +kernel
theorem dX11_sell_49 : decode cX11_sell 49 = .ok (.iload_n 2, 1) := by decide +kernel
theorem dX11_sell_50 : decode cX11_sell 50 = .ok (.invokevirtual 246, 3) := by decide +kernel
theorem dX11_sell_53 : decode cX11_sell 53 = .ok (.iload_n 3, 1) := by decide +kernel
theorem dX11_sell_54 : decode cX11_sell 54 = .ok (.ireturn, 1) := by decide +kernel

theorem dX11_sellAllOf_0 : decode cX11_sellAllOf 0 = .ok (.iconst 0, 1) := by decide +kernel
theorem dX11_sellAllOf_1 : decode cX11_sellAllOf 1 = .ok (.istore_n 2, 1) := by decide +kernel
theorem dX11_sellAllOf_2 : decode cX11_sellAllOf 2 = .ok (.iconst 0, 1) := by decide +kernel
theorem dX11_sellAllOf_3 : decode cX11_sellAllOf 3 = .ok (.istore_n 3, 1) := by decide +kernel
theorem dX11_sellAllOf_4 : decode cX11_sellAllOf 4 = .ok (.iload_n 3, 1) := by decide +kernel
theorem dX11_sellAllOf_5 : decode cX11_sellAllOf 5 = .ok (.aload_n 0, 1) := by decide +kernel
theorem dX11_sellAllOf_6 : decode cX11_sellAllOf 6 = .ok (.getfield 54, 3) := by decide +kernel
theorem dX11_sellAllOf_9 : decode cX11_sellAllOf 9 = .ok (.getfield 287, 3) := by decide +kernel
theorem dX11_sellAllOf_12 : decode cX11_sellAllOf 12 = .ok (.if_icmp .ge 40, 3) := by decide +kernel
theorem dX11_sellAllOf_15 : decode cX11_sellAllOf 15 = .ok (.aload_n 0, 1) := by decide +kernel
theorem dX11_sellAllOf_16 : decode cX11_sellAllOf 16 = .ok (.getfield 54, 3) := by decide +kernel
theorem dX11_sellAllOf_19 : decode cX11_sellAllOf 19 = .ok (.iload_n 3, 1) := by decide +kernel
theorem dX11_sellAllOf_20 : decode cX11_sellAllOf 20 = .ok (.invokevirtual 379, 3) := by decide +kernel
theorem dX11_sellAllOf_23 : decode cX11_sellAllOf 23 = .ok (.ifCond .ne 23, 3) := by decide +kernel
theorem dX11_sellAllOf_26 : decode cX11_sellAllOf 26 = .ok (.aload_n 0, 1) := by decide +kernel
theorem dX11_sellAllOf_27 : decode cX11_sellAllOf 27 = .ok (.iload_n 3, 1) := by decide +kernel
theorem dX11_sellAllOf_28 : decode cX11_sellAllOf 28 = .ok (.invokevirtual 234, 3) := by decide +kernel
theorem dX11_sellAllOf_31 : decode cX11_sellAllOf 31 = .ok (.iload_n 1, 1) := by decide +kernel
theorem dX11_sellAllOf_32 : decode cX11_sellAllOf 32 = .ok (.if_icmp .ne 14, 3) := by decide +kernel
theorem dX11_sellAllOf_35 : decode cX11_sellAllOf 35 = .ok (.aload_n 0, 1) := by decide +kernel
theorem dX11_sellAllOf_36 : decode cX11_sellAllOf 36 = .ok (.getfield 54, 3) := by decide +kernel
theorem dX11_sellAllOf_39 : decode cX11_sellAllOf 39 = .ok (.iload_n 3, 1) := by decide +kernel
theorem dX11_sellAllOf_40 : decode cX11_sellAllOf 40 = .ok (.invokevirtual 382, 3) := by decide +kernel
theorem dX11_sellAllOf_43 : decode cX11_sellAllOf 43 = .ok (.iinc 2 1, 3) := by decide +kernel
theorem dX11_sellAllOf_46 : decode cX11_sellAllOf 46 = .ok (.iinc 3 1, 3) := by decide +kernel
theorem dX11_sellAllOf_49 : decode cX11_sellAllOf 49 = .ok (.goto (-45), 3) := by decide +kernel
theorem dX11_sellAllOf_52 : decode cX11_sellAllOf 52 = .ok (.iload_n 2, 1) := by decide +kernel
theorem dX11_sellAllOf_53 : decode cX11_sellAllOf 53 = .ok (.ireturn, 1) := by decide +kernel

theorem dX11_tap_0 : decode cX11_tap 0 = .ok (.aload_n 0, 1) := by decide +kernel
theorem dX11_tap_1 : decode cX11_tap 1 = .ok (.getfield 19, 3) := by decide +kernel
theorem dX11_tap_4 : decode cX11_tap 4 = .ok (.iload_n 1, 1) := by decide +kernel
theorem dX11_tap_5 : decode cX11_tap 5 = .ok (.invokevirtual 120, 3) := by decide +kernel
theorem dX11_tap_8 : decode cX11_tap 8 = .ok (.ifCond .eq 14, 3) := by decide +kernel
theorem dX11_tap_11 : decode cX11_tap 11 = .ok (.iload_n 2, 1) := by decide +kernel
theorem dX11_tap_12 : decode cX11_tap 12 = .ok (.iconst 0, 1) := by decide +kernel
theorem dX11_tap_13 : decode cX11_tap 13 = .ok (.sipush 359, 3) := by decide +kernel
theorem dX11_tap_16 : decode cX11_tap 16 = .ok (.invokestatic 103, 3) := by decide +kernel
theorem dX11_tap_19 : decode cX11_tap 19 = .ok (.ifCond .ne 6, 3) := by decide +kernel
theorem dX11_tap_22 : decode cX11_tap 22 = .ok (.bipush (-2), 2) := by decide +kernel
theorem dX11_tap_24 : decode cX11_tap 24 = .ok (.ireturn, 1) := by decide +kernel
theorem dX11_tap_25 : decode cX11_tap 25 = .ok (.aload_n 0, 1) := by decide +kernel
theorem dX11_tap_26 : decode cX11_tap 26 = .ok (.getfield 19, 3) := by decide +kernel
theorem dX11_tap_29 : decode cX11_tap 29 = .ok (.iload_n 1, 1) := by decide +kernel
theorem dX11_tap_30 : decode cX11_tap 30 = .ok (.aload_n 0, 1) := by decide +kernel
theorem dX11_tap_31 : decode cX11_tap 31 = .ok (.getfield 26, 3) := by decide +kernel
theorem dX11_tap_34 : decode cX11_tap 34 = .ok (.getfield 121, 3) := by decide +kernel
theorem dX11_tap_37 : decode cX11_tap 37 = .ok (.invokevirtual 124, 3) := by decide +kernel
theorem dX11_tap_40 : decode cX11_tap 40 = .ok (.aload_n 0, 1) := by decide +kernel
theorem dX11_tap_41 : decode cX11_tap 41 = .ok (.getfield 19, 3) := by decide +kernel
theorem dX11_tap_44 : decode cX11_tap 44 = .ok (.iload_n 1, 1) := by decide +kernel
theorem dX11_tap_45 : decode cX11_tap 45 = .ok (.invokevirtual 127, 3) := by decide +kernel
theorem dX11_tap_48 : decode cX11_tap 48 = .ok (.if_icmp .lt 6, 3) := by decide +kernel
theorem dX11_tap_51 : decode cX11_tap 51 = .ok (.bipush (-3), 2) := by decide +kernel
theorem dX11_tap_53 : decode cX11_tap 53 = .ok (.ireturn, 1) := by decide +kernel
theorem dX11_tap_54 : decode cX11_tap 54 = .ok (.aload_n 0, 1) := by decide +kernel
theorem dX11_tap_55 : decode cX11_tap 55 = .ok (.getfield 19, 3) := by decide +kernel
theorem dX11_tap_58 : decode cX11_tap 58 = .ok (.iload_n 1, 1) := by decide +kernel
theorem dX11_tap_59 : decode cX11_tap 59 = .ok (.iload_n 2, 1) := by decide +kernel
theorem dX11_tap_60 : decode cX11_tap 60 = .ok (.aload_n 0, 1) := by decide +kernel
theorem dX11_tap_61 : decode cX11_tap 61 = .ok (.getfield 26, 3) := by decide +kernel
theorem dX11_tap_64 : decode cX11_tap 64 = .ok (.getfield 121, 3) := by decide +kernel
theorem dX11_tap_67 : decode cX11_tap 67 = .ok (.invokevirtual 131, 3) := by decide +kernel
theorem dX11_tap_70 : decode cX11_tap 70 = .ok (.ifCond .eq 6, 3) := by decide +kernel
theorem dX11_tap_73 : decode cX11_tap 73 = .ok (.bipush (-4), 2) := by decide +kernel
theorem dX11_tap_75 : decode cX11_tap 75 = .ok (.ireturn, 1) := by decide +kernel
theorem dX11_tap_76 : decode cX11_tap 76 = .ok (.aload_n 0, 1) := by decide +kernel
theorem dX11_tap_77 : decode cX11_tap 77 = .ok (.getfield 19, 3) := by decide +kernel
theorem dX11_tap_80 : decode cX11_tap 80 = .ok (.iload_n 1, 1) := by decide +kernel
theorem dX11_tap_81 : decode cX11_tap 81 = .ok (.iload_n 2, 1) := by decide +kernel
theorem dX11_tap_82 : decode cX11_tap 82 = .ok (.aload_n 0, 1) := by decide +kernel
theorem dX11_tap_83 : decode cX11_tap 83 = .ok (.getfield 26, 3) := by decide +kernel
theorem dX11_tap_86 : decode cX11_tap 86 = .ok (.getfield 121, 3) := by decide +kernel
theorem dX11_tap_89 : decode cX11_tap 89 = .ok (.invokevirtual 134, 3) := by decide +kernel
theorem dX11_tap_92 : decode cX11_tap 92 = .ok (.ifCond .eq 14, 3) := by decide +kernel
theorem dX11_tap_95 : decode cX11_tap 95 = .ok (.aload_n 0, 1) := by decide +kernel
theorem dX11_tap_96 : decode cX11_tap 96 = .ok (.getfield 19, 3) := by decide +kernel
theorem dX11_tap_99 : decode cX11_tap 99 = .ok (.iload_n 1, 1) := by decide +kernel
theorem dX11_tap_100 : decode cX11_tap 100 = .ok (.invokevirtual 137, 3) := by decide +kernel
theorem dX11_tap_103 : decode cX11_tap 103 = .ok (.goto 5, 3) := by decide +kernel
theorem dX11_tap_106 : decode cX11_tap 106 = .ok (.bipush (-5), 2) := by decide +kernel
theorem dX11_tap_108 : decode cX11_tap 108 = .ok (.ireturn, 1) := by decide +kernel

theorem dX11_thawOf_0 : decode cX11_thawOf 0 = .ok (.iconst 0, 1) := by decide +kernel
theorem dX11_thawOf_1 : decode cX11_thawOf 1 = .ok (.bipush 10, 2) := by decide +kernel
theorem dX11_thawOf_3 : decode cX11_thawOf 3 = .ok (.iload_n 0, 1) := by decide +kernel
theorem dX11_thawOf_4 : decode cX11_thawOf 4 = .ok (.invokestatic 291, 3) := by decide +kernel
theorem dX11_thawOf_7 : decode cX11_thawOf 7 = .ok (.invokestatic 296, 3) := by decide +kernel
theorem dX11_thawOf_10 : decode cX11_thawOf 10 = .ok (.ireturn, 1) := by decide +kernel

theorem dX11_tree_0 : decode cX11_tree 0 = .ok (.aload_n 0, 1) := by decide +kernel
theorem dX11_tree_1 : decode cX11_tree 1 = .ok (.getfield 10, 3) := by decide +kernel
theorem dX11_tree_4 : decode cX11_tree 4 = .ok (.iload_n 1, 1) := by decide +kernel
theorem dX11_tree_5 : decode cX11_tree 5 = .ok (.invokevirtual 114, 3) := by decide +kernel
theorem dX11_tree_8 : decode cX11_tree 8 = .ok (.ifCond .eq 19, 3) := by decide +kernel
theorem dX11_tree_11 : decode cX11_tree 11 = .ok (.iload_n 2, 1) := by decide +kernel
theorem dX11_tree_12 : decode cX11_tree 12 = .ok (.bipush 30, 2) := by decide +kernel
theorem dX11_tree_14 : decode cX11_tree 14 = .ok (.sipush 400, 3) := by decide +kernel
theorem dX11_tree_17 : decode cX11_tree 17 = .ok (.invokestatic 103, 3) := by decide +kernel
theorem dX11_tree_20 : decode cX11_tree 20 = .ok (.ifCond .eq 7, 3) := by decide +kernel
theorem dX11_tree_23 : decode cX11_tree 23 = .ok (.iconst 1, 1) := by decide +kernel
theorem dX11_tree_24 : decode cX11_tree 24 = .ok (.goto 4, 3) := by decide +kernel
theorem dX11_tree_27 : decode cX11_tree 27 = .ok (.iconst 0, 1) := by decide +kernel
theorem dX11_tree_28 : decode cX11_tree 28 = .ok (.istore_n 3, 1) := by decide +kernel
theorem dX11_tree_29 : decode cX11_tree 29 = .ok (.iload_n 3, 1) := by decide +kernel
theorem dX11_tree_30 : decode cX11_tree 30 = .ok (.ifCond .eq 15, 3) := by decide +kernel
theorem dX11_tree_33 : decode cX11_tree 33 = .ok (.aload_n 0, 1) := by decide +kernel
theorem dX11_tree_34 : decode cX11_tree 34 = .ok (.getfield 19, 3) := by decide +kernel
theorem dX11_tree_37 : decode cX11_tree 37 = .ok (.iload_n 1, 1) := by decide +kernel
theorem dX11_tree_38 : decode cX11_tree 38 = .ok (.iload_n 2, 1) := by decide +kernel
theorem dX11_tree_39 : decode cX11_tree 39 = .ok (.invokevirtual 117, 3) := by decide +kernel
theorem dX11_tree_42 : decode cX11_tree 42 = .ok (.goto 4, 3) := by decide +kernel
theorem dX11_tree_45 : decode cX11_tree 45 = .ok (.iconst (-1), 1) := by decide +kernel
theorem dX11_tree_46 : decode cX11_tree 46 = .ok (.ireturn, 1) := by decide +kernel

theorem dX11_treeOf_0 : decode cX11_treeOf 0 = .ok (.aload_n 0, 1) := by decide +kernel
theorem dX11_treeOf_1 : decode cX11_treeOf 1 = .ok (.getfield 19, 3) := by decide +kernel
theorem dX11_treeOf_4 : decode cX11_treeOf 4 = .ok (.iload_n 1, 1) := by decide +kernel
theorem dX11_treeOf_5 : decode cX11_treeOf 5 = .ok (.invokevirtual 120, 3) := by decide +kernel
theorem dX11_treeOf_8 : decode cX11_treeOf 8 = .ok (.ifCond .ne 5, 3) := by decide +kernel
theorem dX11_treeOf_11 : decode cX11_treeOf 11 = .ok (.iconst (-1), 1) := by decide +kernel
theorem dX11_treeOf_12 : decode cX11_treeOf 12 = .ok (.ireturn, 1) := by decide +kernel
theorem dX11_treeOf_13 : decode cX11_treeOf 13 = .ok (.iload_n 2, 1) := by decide +kernel
theorem dX11_treeOf_14 : decode cX11_treeOf 14 = .ok (.tableswitch 137 0 6 #[42, 51, 60, 76, 85, 94, 103], 42) := by decide +kernel
theorem dX11_treeOf_56 : decode cX11_treeOf 56 = .ok (.aload_n 0, 1) := by decide +kernel
theorem dX11_treeOf_57 : decode cX11_treeOf 57 = .ok (.getfield 19, 3) := by decide +kernel
theorem dX11_treeOf_60 : decode cX11_treeOf 60 = .ok (.iload_n 1, 1) := by decide +kernel
theorem dX11_treeOf_61 : decode cX11_treeOf 61 = .ok (.invokevirtual 157, 3) := by decide +kernel
theorem dX11_treeOf_64 : decode cX11_treeOf 64 = .ok (.ireturn, 1) := by decide +kernel
theorem dX11_treeOf_65 : decode cX11_treeOf 65 = .ok (.aload_n 0, 1) := by decide +kernel
theorem dX11_treeOf_66 : decode cX11_treeOf 66 = .ok (.getfield 19, 3) := by decide +kernel
theorem dX11_treeOf_69 : decode cX11_treeOf 69 = .ok (.iload_n 1, 1) := by decide +kernel
theorem dX11_treeOf_70 : decode cX11_treeOf 70 = .ok (.invokevirtual 160, 3) := by decide +kernel
theorem dX11_treeOf_73 : decode cX11_treeOf 73 = .ok (.ireturn, 1) := by decide +kernel
theorem dX11_treeOf_74 : decode cX11_treeOf 74 = .ok (.aload_n 0, 1) := by decide +kernel
theorem dX11_treeOf_75 : decode cX11_treeOf 75 = .ok (.getfield 19, 3) := by decide +kernel
theorem dX11_treeOf_78 : decode cX11_treeOf 78 = .ok (.iload_n 1, 1) := by decide +kernel
theorem dX11_treeOf_79 : decode cX11_treeOf 79 = .ok (.aload_n 0, 1) := by decide +kernel
theorem dX11_treeOf_80 : decode cX11_treeOf 80 = .ok (.getfield 26, 3) := by decide +kernel
theorem dX11_treeOf_83 : decode cX11_treeOf 83 = .ok (.getfield 121, 3) := by decide +kernel
theorem dX11_treeOf_86 : decode cX11_treeOf 86 = .ok (.invokevirtual 124, 3) := by decide +kernel
theorem dX11_treeOf_89 : decode cX11_treeOf 89 = .ok (.ireturn, 1) := by decide +kernel
theorem dX11_treeOf_90 : decode cX11_treeOf 90 = .ok (.aload_n 0, 1) := by decide +kernel
theorem dX11_treeOf_91 : decode cX11_treeOf 91 = .ok (.getfield 19, 3) := by decide +kernel
theorem dX11_treeOf_94 : decode cX11_treeOf 94 = .ok (.iload_n 1, 1) := by decide +kernel
theorem dX11_treeOf_95 : decode cX11_treeOf 95 = .ok (.invokevirtual 127, 3) := by decide +kernel
theorem dX11_treeOf_98 : decode cX11_treeOf 98 = .ok (.ireturn, 1) := by decide +kernel
theorem dX11_treeOf_99 : decode cX11_treeOf 99 = .ok (.aload_n 0, 1) := by decide +kernel
theorem dX11_treeOf_100 : decode cX11_treeOf 100 = .ok (.getfield 19, 3) := by decide +kernel
theorem dX11_treeOf_103 : decode cX11_treeOf 103 = .ok (.iload_n 1, 1) := by decide +kernel
theorem dX11_treeOf_104 : decode cX11_treeOf 104 = .ok (.invokevirtual 137, 3) := by decide +kernel
theorem dX11_treeOf_107 : decode cX11_treeOf 107 = .ok (.ireturn, 1) := by decide +kernel
theorem dX11_treeOf_108 : decode cX11_treeOf 108 = .ok (.aload_n 0, 1) := by decide +kernel
theorem dX11_treeOf_109 : decode cX11_treeOf 109 = .ok (.getfield 19, 3) := by decide +kernel
theorem dX11_treeOf_112 : decode cX11_treeOf 112 = .ok (.iload_n 1, 1) := by decide +kernel
theorem dX11_treeOf_113 : decode cX11_treeOf 113 = .ok (.invokevirtual 163, 3) := by decide +kernel
theorem dX11_treeOf_116 : decode cX11_treeOf 116 = .ok (.ireturn, 1) := by decide +kernel
theorem dX11_treeOf_117 : decode cX11_treeOf 117 = .ok (.aload_n 0, 1) := by decide +kernel
theorem dX11_treeOf_118 : decode cX11_treeOf 118 = .ok (.getfield 26, 3) := by decide +kernel
theorem dX11_treeOf_121 : decode cX11_treeOf 121 = .ok (.getfield 166, 3) := by decide +kernel
theorem dX11_treeOf_124 : decode cX11_treeOf 124 = .ok (.ifCond .eq 25, 3) := by decide +kernel
theorem dX11_treeOf_127 : decode cX11_treeOf 127 = .ok (.aload_n 0, 1) := by decide +kernel
theorem dX11_treeOf_128 : decode cX11_treeOf 128 = .ok (.getfield 19, 3) := by decide +kernel
theorem dX11_treeOf_131 : decode cX11_treeOf 131 = .ok (.iload_n 1, 1) := by decide +kernel
theorem dX11_treeOf_132 : decode cX11_treeOf 132 = .ok (.aload_n 0, 1) := by decide +kernel
theorem dX11_treeOf_133 : decode cX11_treeOf 133 = .ok (.getfield 26, 3) := by decide +kernel
theorem dX11_treeOf_136 : decode cX11_treeOf 136 = .ok (.getfield 121, 3) := by decide +kernel
theorem dX11_treeOf_139 : decode cX11_treeOf 139 = .ok (.invokevirtual 124, 3) := by decide +kernel
theorem dX11_treeOf_142 : decode cX11_treeOf 142 = .ok (.ifCond .le 7, 3) := by decide +kernel
theorem dX11_treeOf_145 : decode cX11_treeOf 145 = .ok (.iconst 1, 1) := by decide +kernel
theorem dX11_treeOf_146 : decode cX11_treeOf 146 = .ok (.goto 4, 3) := by decide +kernel
theorem dX11_treeOf_149 : decode cX11_treeOf 149 = .ok (.iconst 0, 1) := by decide +kernel
theorem dX11_treeOf_150 : decode cX11_treeOf 150 = .ok (.ireturn, 1) := by decide +kernel
theorem dX11_treeOf_151 : decode cX11_treeOf 151 = .ok (.iconst (-1), 1) := by decide +kernel
theorem dX11_treeOf_152 : decode cX11_treeOf 152 = .ok (.ireturn, 1) := by decide +kernel

theorem dX11_wood_0 : decode cX11_wood 0 = .ok (.iload_n 1, 1) := by decide +kernel
theorem dX11_wood_1 : decode cX11_wood 1 = .ok (.iconst 0, 1) := by decide +kernel
theorem dX11_wood_2 : decode cX11_wood 2 = .ok (.sipush 10000, 3) := by decide +kernel
theorem dX11_wood_5 : decode cX11_wood 5 = .ok (.invokestatic 103, 3) := by decide +kernel
theorem dX11_wood_8 : decode cX11_wood 8 = .ok (.ifCond .eq 14, 3) := by decide +kernel
theorem dX11_wood_11 : decode cX11_wood 11 = .ok (.aload_n 0, 1) := by decide +kernel
theorem dX11_wood_12 : decode cX11_wood 12 = .ok (.getfield 47, 3) := by decide +kernel
theorem dX11_wood_15 : decode cX11_wood 15 = .ok (.iload_n 1, 1) := by decide +kernel
theorem dX11_wood_16 : decode cX11_wood 16 = .ok (.invokevirtual 222, 3) := by decide +kernel
theorem dX11_wood_19 : decode cX11_wood 19 = .ok (.goto 4, 3) := by decide +kernel
theorem dX11_wood_22 : decode cX11_wood 22 = .ok (.iconst (-1), 1) := by decide +kernel
theorem dX11_wood_23 : decode cX11_wood 23 = .ok (.ireturn, 1) := by decide +kernel

theorem dX11_year_0 : decode cX11_year 0 = .ok (.aload_n 0, 1) := by decide +kernel
theorem dX11_year_1 : decode cX11_year 1 = .ok (.getfield 26, 3) := by decide +kernel
theorem dX11_year_4 : decode cX11_year 4 = .ok (.getfield 121, 3) := by decide +kernel
theorem dX11_year_7 : decode cX11_year 7 = .ok (.bipush 20, 2) := by decide +kernel
theorem dX11_year_9 : decode cX11_year 9 = .ok (.if_icmp .lt 5, 3) := by decide +kernel
theorem dX11_year_12 : decode cX11_year 12 = .ok (.iconst (-1), 1) := by decide +kernel
theorem dX11_year_13 : decode cX11_year 13 = .ok (.ireturn, 1) := by decide +kernel
theorem dX11_year_14 : decode cX11_year 14 = .ok (.aload_n 0, 1) := by decide +kernel
theorem dX11_year_15 : decode cX11_year 15 = .ok (.getfield 26, 3) := by decide +kernel
theorem dX11_year_18 : decode cX11_year 18 = .ok (.invokevirtual 194, 3) := by decide +kernel
theorem dX11_year_21 : decode cX11_year 21 = .ok (.aload_n 0, 1) := by decide +kernel
theorem dX11_year_22 : decode cX11_year 22 = .ok (.getfield 19, 3) := by decide +kernel
theorem dX11_year_25 : decode cX11_year 25 = .ok (.invokevirtual 197, 3) := by decide +kernel
theorem dX11_year_28 : decode cX11_year 28 = .ok (.aload_n 0, 1) := by decide +kernel
theorem dX11_year_29 : decode cX11_year 29 = .ok (.getfield 61, 3) := by decide +kernel
theorem dX11_year_32 : decode cX11_year 32 = .ok (.invokevirtual 200, 3) := by decide +kernel
theorem dX11_year_35 : decode cX11_year 35 = .ok (.aload_n 0, 1) := by decide +kernel
theorem dX11_year_36 : decode cX11_year 36 = .ok (.getfield 40, 3) := by decide +kernel
theorem dX11_year_39 : decode cX11_year 39 = .ok (.invokevirtual 201, 3) := by decide +kernel
theorem dX11_year_42 : decode cX11_year 42 = .ok (.aload_n 0, 1) := by decide +kernel
theorem dX11_year_43 : decode cX11_year 43 = .ok (.getfield 47, 3) := by decide +kernel
theorem dX11_year_46 : decode cX11_year 46 = .ok (.invokevirtual 204, 3) := by decide +kernel
theorem dX11_year_49 : decode cX11_year 49 = .ok (.aload_n 0, 1) := by decide +kernel
theorem dX11_year_50 : decode cX11_year 50 = .ok (.getfield 26, 3) := by decide +kernel
theorem dX11_year_53 : decode cX11_year 53 = .ok (.getfield 121, 3) := by decide +kernel
theorem dX11_year_56 : decode cX11_year 56 = .ok (.ireturn, 1) := by decide +kernel
