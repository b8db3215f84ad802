theorem dJ7_fill_53178_0 : decode cJ7_fill_53178 0 = .ok (.iconst 0, 1) := by decide +kernel
theorem dJ7_fill_53178_1 : decode cJ7_fill_53178 1 = .ok (.istore_n 2, 1) := by decide +kernel
theorem dJ7_fill_53178_2 : decode cJ7_fill_53178 2 = .ok (.aload_n 0, 1) := by decide +kernel
theorem dJ7_fill_53178_3 : decode cJ7_fill_53178 3 = .ok (.arraylength, 1) := by decide +kernel
theorem dJ7_fill_53178_4 : decode cJ7_fill_53178 4 = .ok (.istore_n 3, 1) := by decide +kernel
theorem dJ7_fill_53178_5 : decode cJ7_fill_53178 5 = .ok (.iload_n 2, 1) := by decide +kernel
theorem dJ7_fill_53178_6 : decode cJ7_fill_53178 6 = .ok (.iload_n 3, 1) := by decide +kernel
theorem dJ7_fill_53178_7 : decode cJ7_fill_53178 7 = .ok (.if_icmp .ge 13, 3) := by decide +kernel
theorem dJ7_fill_53178_10 : decode cJ7_fill_53178 10 = .ok (.aload_n 0, 1) := by decide +kernel
theorem dJ7_fill_53178_11 : decode cJ7_fill_53178 11 = .ok (.iload_n 2, 1) := by decide +kernel
theorem dJ7_fill_53178_12 : decode cJ7_fill_53178 12 = .ok (.iload_n 1, 1) := by decide +kernel
theorem dJ7_fill_53178_13 : decode cJ7_fill_53178 13 = .ok (.iastore, 1) := by decide +kernel
theorem dJ7_fill_53178_14 : decode cJ7_fill_53178 14 = .ok (.iinc 2 1, 3) := by decide +kernel
theorem dJ7_fill_53178_17 : decode cJ7_fill_53178 17 = .ok (.goto (-12), 3) := by decide +kernel
theorem dJ7_fill_53178_20 : decode cJ7_fill_53178 20 = .ok (.return_, 1) := by decide +kernel

theorem dX0_has_0 : decode cX0_has 0 = .ok (.iload_n 1, 1) := by decide +kernel
theorem dX0_has_1 : decode cX0_has 1 = .ok (.ifCond .lt 15, 3) := by decide +kernel
theorem dX0_has_4 : decode cX0_has 4 = .ok (.iload_n 1, 1) := by decide +kernel
theorem dX0_has_5 : decode cX0_has 5 = .ok (.aload_n 0, 1) := by decide +kernel
theorem dX0_has_6 : decode cX0_has 6 = .ok (.getfield 33, 3) := by decide +kernel
theorem dX0_has_9 : decode cX0_has 9 = .ok (.if_icmp .ge 7, 3) := by decide +kernel
theorem dX0_has_12 : decode cX0_has 12 = .ok (.iconst 1, 1) := by decide +kernel
theorem dX0_has_13 : decode cX0_has 13 = .ok (.goto 4, 3) := by decide +kernel
theorem dX0_has_16 : decode cX0_has 16 = .ok (.iconst 0, 1) := by decide +kernel
theorem dX0_has_17 : decode cX0_has 17 = .ok (.ireturn, 1) := by decide +kernel

theorem dX0_init_0 : decode cX0_init 0 = .ok (.aload_n 0, 1) := by decide +kernel
theorem dX0_init_1 : decode cX0_init 1 = .ok (.invokespecial 3, 3) := by decide +kernel
theorem dX0_init_4 : decode cX0_init 4 = .ok (.aload_n 0, 1) := by decide +kernel
theorem dX0_init_5 : decode cX0_init 5 = .ok (.bipush 60, 2) := by decide +kernel
theorem dX0_init_7 : decode cX0_init 7 = .ok (.newarray .int, 2) := by decide +kernel
theorem dX0_init_9 : decode cX0_init 9 = .ok (.putfield 9, 3) := by decide +kernel
theorem dX0_init_12 : decode cX0_init 12 = .ok (.aload_n 0, 1) := by decide +kernel
theorem dX0_init_13 : decode cX0_init 13 = .ok (.bipush 60, 2) := by decide +kernel
theorem dX0_init_15 : decode cX0_init 15 = .ok (.newarray .int, 2) := by decide +kernel
theorem dX0_init_17 : decode cX0_init 17 = .ok (.putfield 15, 3) := by decide +kernel
theorem dX0_init_20 : decode cX0_init 20 = .ok (.aload_n 0, 1) := by decide +kernel
theorem dX0_init_21 : decode cX0_init 21 = .ok (.bipush 60, 2) := by decide +kernel
theorem dX0_init_23 : decode cX0_init 23 = .ok (.newarray .int, 2) := by decide +kernel
theorem dX0_init_25 : decode cX0_init 25 = .ok (.putfield 18, 3) := by decide +kernel
theorem dX0_init_28 : decode cX0_init 28 = .ok (.aload_n 0, 1) := by decide +kernel
theorem dX0_init_29 : decode cX0_init 29 = .ok (.bipush 60, 2) := by decide +kernel
theorem dX0_init_31 : decode cX0_init 31 = .ok (.newarray .int, 2) := by decide +kernel
theorem dX0_init_33 : decode cX0_init 33 = .ok (.putfield 21, 3) := by decide +kernel
theorem dX0_init_36 : decode cX0_init 36 = .ok (.aload_n 0, 1) := by decide +kernel
theorem dX0_init_37 : decode cX0_init 37 = .ok (.bipush 60, 2) := by decide +kernel
theorem dX0_init_39 : decode cX0_init 39 = .ok (.newarray .boolean, 2) := by decide +kernel
theorem dX0_init_41 : decode cX0_init 41 = .ok (.putfield 24, 3) := by decide +kernel
theorem dX0_init_44 : decode cX0_init 44 = .ok (.aload_n 0, 1) := by decide +kernel
theorem dX0_init_45 : decode cX0_init 45 = .ok (.iconst 2, 1) := by decide +kernel
theorem dX0_init_46 : decode cX0_init 46 = .ok (.bipush 60, 2) := by decide +kernel
theorem dX0_init_48 : decode cX0_init 48 = .ok (.multianewarray 28 2, 4) := by decide +kernel
theorem dX0_init_52 : decode cX0_init 52 = .ok (.putfield 30, 3) := by decide +kernel
theorem dX0_init_55 : decode cX0_init 55 = .ok (.return_, 1) := by decide +kernel

theorem dX10_add_0 : decode cX10_add 0 = .ok (.aload_n 0, 1) := by decide +kernel
theorem dX10_add_1 : decode cX10_add 1 = .ok (.getfield 37, 3) := by decide +kernel
theorem dX10_add_4 : decode cX10_add 4 = .ok (.bipush 40, 2) := by decide +kernel
theorem dX10_add_6 : decode cX10_add 6 = .ok (.if_icmp .ge 11, 3) := by decide +kernel
theorem dX10_add_9 : decode cX10_add 9 = .ok (.aload_n 0, 1) := by decide +kernel
theorem dX10_add_10 : decode cX10_add 10 = .ok (.iload_n 1, 1) := by decide +kernel
theorem dX10_add_11 : decode cX10_add 11 = .ok (.invokevirtual 41, 3) := by decide +kernel
theorem dX10_add_14 : decode cX10_add 14 = .ok (.ifCond .ne 5, 3) := by decide +kernel
theorem dX10_add_17 : decode cX10_add 17 = .ok (.iconst (-1), 1) := by decide +kernel
theorem dX10_add_18 : decode cX10_add 18 = .ok (.ireturn, 1) := by decide +kernel
theorem dX10_add_19 : decode cX10_add 19 = .ok (.aload_n 0, 1) := by decide +kernel
theorem dX10_add_20 : decode cX10_add 20 = .ok (.getfield 37, 3) := by decide +kernel
theorem dX10_add_23 : decode cX10_add 23 = .ok (.istore 5, 2) := by decide +kernel
theorem dX10_add_25 : decode cX10_add 25 = .ok (.aload_n 0, 1) := by decide +kernel
theorem dX10_add_26 : decode cX10_add 26 = .ok (.dup, 1) := by decide +kernel
theorem dX10_add_27 : decode cX10_add 27 = .ok (.getfield 37, 3) := by decide +kernel
theorem dX10_add_30 : decode cX10_add 30 = .ok (.iconst 1, 1) := by decide +kernel
theorem dX10_add_31 : decode cX10_add 31 = .ok (.iadd, 1) := by decide +kernel
theorem dX10_add_32 : decode cX10_add 32 = .ok (.putfield 37, 3) := by decide +kernel
theorem dX10_add_35 : decode cX10_add 35 = .ok (.aload_n 0, 1) := by decide +kernel
theorem dX10_add_36 : decode cX10_add 36 = .ok (.getfield 9, 3) := by decide +kernel
theorem dX10_add_39 : decode cX10_add 39 = .ok (.iload 5, 2) := by decide +kernel
theorem dX10_add_41 : decode cX10_add 41 = .ok (.iload_n 1, 1) := by decide +kernel
theorem dX10_add_42 : decode cX10_add 42 = .ok (.iastore, 1) := by decide +kernel
theorem dX10_add_43 : decode cX10_add 43 = .ok (.aload_n 0, 1) := by decide +kernel
theorem dX10_add_44 : decode cX10_add 44 = .ok (.getfield 15, 3) := by decide +kernel
theorem dX10_add_47 : decode cX10_add 47 = .ok (.iload 5, 2) := by decide +kernel
theorem dX10_add_49 : decode cX10_add 49 = .ok (.iload_n 3, 1) := by decide +kernel
theorem dX10_add_50 : decode cX10_add 50 = .ok (.iastore, 1) := by decide +kernel
theorem dX10_add_51 : decode cX10_add 51 = .ok (.aload_n 0, 1) := by decide +kernel
theorem dX10_add_52 : decode cX10_add 52 = .ok (.getfield 18, 3) := by decide +kernel
theorem dX10_add_55 : decode cX10_add 55 = .ok (.iload 5, 2) := by decide +kernel
theorem dX10_add_57 : decode cX10_add 57 = .ok (.iload 4, 2) := by decide +kernel
theorem dX10_add_59 : decode cX10_add 59 = .ok (.iastore, 1) := by decide +kernel
theorem dX10_add_60 : decode cX10_add 60 = .ok (.aload_n 0, 1) := by decide +kernel
theorem dX10_add_61 : decode cX10_add 61 = .ok (.getfield 21, 3) := by decide +kernel
theorem dX10_add_64 : decode cX10_add 64 = .ok (.iload 5, 2) := by decide +kernel
theorem dX10_add_66 : decode cX10_add 66 = .ok (.aload_n 0, 1) := by decide +kernel
theorem dX10_add_67 : decode cX10_add 67 = .ok (.getfield 21, 3) := by decide +kernel
theorem dX10_add_70 : decode cX10_add 70 = .ok (.iload_n 1, 1) := by decide +kernel
theorem dX10_add_71 : decode cX10_add 71 = .ok (.iaload, 1) := by decide +kernel
theorem dX10_add_72 : decode cX10_add 72 = .ok (.iload_n 2, 1) := by decide +kernel
theorem dX10_add_73 : decode cX10_add 73 = .ok (.iadd, 1) := by decide +kernel
theorem dX10_add_74 : decode cX10_add 74 = .ok (.iastore, 1) := by decide +kernel
theorem dX10_add_75 : decode cX10_add 75 = .ok (.aload_n 0, 1) := by decide +kernel
theorem dX10_add_76 : decode cX10_add 76 = .ok (.getfield 24, 3) := by decide +kernel
theorem dX10_add_79 : decode cX10_add 79 = .ok (.iload 5, 2) := by decide +kernel
theorem dX10_add_81 : decode cX10_add 81 = .ok (.aload_n 0, 1) := by decide +kernel
theorem dX10_add_82 : decode cX10_add 82 = .ok (.getfield 24, 3) := by decide +kernel
theorem dX10_add_85 : decode cX10_add 85 = .ok (.iload_n 1, 1) := by decide +kernel
theorem dX10_add_86 : decode cX10_add 86 = .ok (.baload, 1) := by decide +kernel
theorem dX10_add_87 : decode cX10_add 87 = .ok (.ifCond .eq 17, 3) := by decide +kernel
theorem dX10_add_90 : decode cX10_add 90 = .ok (.iload_n 3, 1) := by decide +kernel
theorem dX10_add_91 : decode cX10_add 91 = .ok (.aload_n 0, 1) := by decide +kernel
theorem dX10_add_92 : decode cX10_add 92 = .ok (.getfield 15, 3) := by decide +kernel
theorem dX10_add_95 : decode cX10_add 95 = .ok (.iload_n 1, 1) := by decide +kernel
theorem dX10_add_96 : decode cX10_add 96 = .ok (.iaload, 1) := by decide +kernel
theorem dX10_add_97 : decode cX10_add 97 = .ok (.if_icmp .le 7, 3) := by decide +kernel
theorem dX10_add_100 : decode cX10_add 100 = .ok (.iconst 1, 1) := by decide +kernel
theorem dX10_add_101 : decode cX10_add 101 = .ok (.goto 4, 3) := by decide +kernel
theorem dX10_add_104 : decode cX10_add 104 = .ok (.iconst 0, 1) := by decide +kernel
theorem dX10_add_105 : decode cX10_add 105 = .ok (.bastore, 1) := by decide +kernel
theorem dX10_add_106 : decode cX10_add 106 = .ok (.aload_n 0, 1) := by decide +kernel
theorem dX10_add_107 : decode cX10_add 107 = .ok (.getfield 31, 3) := by decide +kernel
theorem dX10_add_110 : decode cX10_add 110 = .ok (.iload 5, 2) := by decide +kernel
theorem dX10_add_112 : decode cX10_add 112 = .ok (.aload_n 0, 1) := by decide +kernel
theorem dX10_add_113 : decode cX10_add 113 = .ok (.getfield 31, 3) := by decide +kernel
theorem dX10_add_116 : decode cX10_add 116 = .ok (.iload_n 1, 1) := by decide +kernel
theorem dX10_add_117 : decode cX10_add 117 = .ok (.iaload, 1) := by decide +kernel
theorem dX10_add_118 : decode cX10_add 118 = .ok (.iastore, 1) := by decide +kernel
theorem dX10_add_119 : decode cX10_add 119 = .ok (.aload_n 0, 1) := by decide +kernel
theorem dX10_add_120 : decode cX10_add 120 = .ok (.getfield 34, 3) := by decide +kernel
theorem dX10_add_123 : decode cX10_add 123 = .ok (.iload 5, 2) := by decide +kernel
theorem dX10_add_125 : decode cX10_add 125 = .ok (.iconst (-1), 1) := by decide +kernel
theorem dX10_add_126 : decode cX10_add 126 = .ok (.iastore, 1) := by decide +kernel
theorem dX10_add_127 : decode cX10_add 127 = .ok (.iload 5, 2) := by decide +kernel
theorem dX10_add_129 : decode cX10_add 129 = .ok (.ireturn, 1) := by decide +kernel

theorem dX10_has_0 : decode cX10_has 0 = .ok (.iload_n 1, 1) := by decide +kernel
theorem dX10_has_1 : decode cX10_has 1 = .ok (.ifCond .lt 15, 3) := by decide +kernel
theorem dX10_has_4 : decode cX10_has 4 = .ok (.iload_n 1, 1) := by decide +kernel
theorem dX10_has_5 : decode cX10_has 5 = .ok (.aload_n 0, 1) := by decide +kernel
theorem dX10_has_6 : decode cX10_has 6 = .ok (.getfield 37, 3) := by decide +kernel
theorem dX10_has_9 : decode cX10_has 9 = .ok (.if_icmp .ge 7, 3) := by decide +kernel
theorem dX10_has_12 : decode cX10_has 12 = .ok (.iconst 1, 1) := by decide +kernel
theorem dX10_has_13 : decode cX10_has 13 = .ok (.goto 4, 3) := by decide +kernel
theorem dX10_has_16 : decode cX10_has 16 = .ok (.iconst 0, 1) := by decide +kernel
theorem dX10_has_17 : decode cX10_has 17 = .ok (.ireturn, 1) := by decide +kernel

theorem dX10_hasTube_0 : decode cX10_hasTube 0 = .ok (.iload_n 1, 1) := by decide +kernel
theorem dX10_hasTube_1 : decode cX10_hasTube 1 = .ok (.ifCond .eq 15, 3) := by decide +kernel
theorem dX10_hasTube_4 : decode cX10_hasTube 4 = .ok (.aload_n 0, 1) := by decide +kernel
theorem dX10_hasTube_5 : decode cX10_hasTube 5 = .ok (.iload_n 1, 1) := by decide +kernel
theorem dX10_hasTube_6 : decode cX10_hasTube 6 = .ok (.invokevirtual 41, 3) := by decide +kernel
theorem dX10_hasTube_9 : decode cX10_hasTube 9 = .ok (.ifCond .eq 7, 3) := by decide +kernel
theorem dX10_hasTube_12 : decode cX10_hasTube 12 = .ok (.iconst 1, 1) := by decide +kernel
theorem dX10_hasTube_13 : decode cX10_hasTube 13 = .ok (.goto 4, 3) := by decide +kernel
theorem dX10_hasTube_16 : decode cX10_hasTube 16 = .ok (.iconst 0, 1) := by decide +kernel
theorem dX10_hasTube_17 : decode cX10_hasTube 17 = .ok (.ireturn, 1) := by decide +kernel

theorem dX10_init_0 : decode cX10_init 0 = .ok (.aload_n 0, 1) := by decide +kernel
theorem dX10_init_1 : decode cX10_init 1 = .ok (.invokespecial 3, 3) := by decide +kernel
theorem dX10_init_4 : decode cX10_init 4 = .ok (.aload_n 0, 1) := by decide +kernel
theorem dX10_init_5 : decode cX10_init 5 = .ok (.bipush 40, 2) := by decide +kernel
theorem dX10_init_7 : decode cX10_init 7 = .ok (.newarray .int, 2) := by decide +kernel
theorem dX10_init_9 : decode cX10_init 9 = .ok (.putfield 9, 3) := by decide +kernel
theorem dX10_init_12 : decode cX10_init 12 = .ok (.aload_n 0, 1) := by decide +kernel
theorem dX10_init_13 : decode cX10_init 13 = .ok (.bipush 40, 2) := by decide +kernel
theorem dX10_init_15 : decode cX10_init 15 = .ok (.newarray .int, 2) := by decide +kernel
theorem dX10_init_17 : decode cX10_init 17 = .ok (.putfield 15, 3) := by decide +kernel
theorem dX10_init_20 : decode cX10_init 20 = .ok (.aload_n 0, 1) := by decide +kernel
theorem dX10_init_21 : decode cX10_init 21 = .ok (.bipush 40, 2) := by decide +kernel
theorem dX10_init_23 : decode cX10_init 23 = .ok (.newarray .int, 2) := by decide +kernel
theorem dX10_init_25 : decode cX10_init 25 = .ok (.putfield 18, 3) := by decide +kernel
theorem dX10_init_28 : decode cX10_init 28 = .ok (.aload_n 0, 1) := by decide +kernel
theorem dX10_init_29 : decode cX10_init 29 = .ok (.bipush 40, 2) := by decide +kernel
theorem dX10_init_31 : decode cX10_init 31 = .ok (.newarray .int, 2) := by decide +kernel
theorem dX10_init_33 : decode cX10_init 33 = .ok (.putfield 21, 3) := by decide +kernel
theorem dX10_init_36 : decode cX10_init 36 = .ok (.aload_n 0, 1) := by decide +kernel
theorem dX10_init_37 : decode cX10_init 37 = .ok (.bipush 40, 2) := by decide +kernel
theorem dX10_init_39 : decode cX10_init 39 = .ok (.newarray .boolean, 2) := by decide +kernel
theorem dX10_init_41 : decode cX10_init 41 = .ok (.putfield 24, 3) := by decide +kernel
theorem dX10_init_44 : decode cX10_init 44 = .ok (.aload_n 0, 1) := by decide +kernel
theorem dX10_init_45 : decode cX10_init 45 = .ok (.bipush 40, 2) := by decide +kernel
theorem dX10_init_47 : decode cX10_init 47 = .ok (.newarray .int, 2) := by decide +kernel
theorem dX10_init_49 : decode cX10_init 49 = .ok (.putfield 28, 3) := by decide +kernel
theorem dX10_init_52 : decode cX10_init 52 = .ok (.aload_n 0, 1) := by decide +kernel
theorem dX10_init_53 : decode cX10_init 53 = .ok (.bipush 40, 2) := by decide +kernel
theorem dX10_init_55 : decode cX10_init 55 = .ok (.newarray .int, 2) := by decide +kernel
theorem dX10_init_57 : decode cX10_init 57 = .ok (.putfield 31, 3) := by decide +kernel
theorem dX10_init_60 : decode cX10_init 60 = .ok (.aload_n 0, 1) := by decide +kernel
theorem dX10_init_61 : decode cX10_init 61 = .ok (.bipush 40, 2) := by decide +kernel
theorem dX10_init_63 : decode cX10_init 63 = .ok (.newarray .int, 2) := by decide +kernel
theorem dX10_init_65 : decode cX10_init 65 = .ok (.putfield 34, 3) := by decide +kernel
theorem dX10_init_68 : decode cX10_init 68 = .ok (.aload_n 0, 1) := by decide +kernel
theorem dX10_init_69 : decode cX10_init 69 = .ok (.iconst 1, 1) := by decide +kernel
theorem dX10_init_70 : decode cX10_init 70 = .ok (.putfield 37, 3) := by decide +kernel
theorem dX10_init_73 : decode cX10_init 73 = .ok (.aload_n 0, 1) := by decide +kernel
theorem dX10_init_74 : decode cX10_init 74 = .ok (.getfield 9, 3) := by decide +kernel
theorem dX10_init_77 : decode cX10_init 77 = .ok (.iconst 0, 1) := by decide +kernel
theorem dX10_init_78 : decode cX10_init 78 = .ok (.iconst (-1), 1) := by decide +kernel
theorem dX10_init_79 : decode cX10_init 79 = .ok (.iastore, 1) := by decide +kernel
theorem dX10_init_80 : decode cX10_init 80 = .ok (.aload_n 0, 1) := by decide +kernel
theorem dX10_init_81 : decode cX10_init 81 = .ok (.getfield 18, 3) := by decide +kernel
theorem dX10_init_84 : decode cX10_init 84 = .ok (.iconst 0, 1) := by decide +kernel
theorem dX10_init_85 : decode cX10_init 85 = .ok (.iconst (-1), 1) := by decide +kernel
theorem dX10_init_86 : decode cX10_init 86 = .ok (.iastore, 1) := by decide +kernel
theorem dX10_init_87 : decode cX10_init 87 = .ok (.aload_n 0, 1) := by decide +kernel
theorem dX10_init_88 : decode cX10_init 88 = .ok (.getfield 34, 3) := by decide +kernel
theorem dX10_init_91 : decode cX10_init 91 = .ok (.iconst 0, 1) := by decide +kernel
theorem dX10_init_92 : decode cX10_init 92 = .ok (.iconst (-1), 1) := by decide +kernel
theorem dX10_init_93 : decode cX10_init 93 = .ok (.iastore, 1) := by decide +kernel
theorem dX10_init_94 : decode cX10_init 94 = .ok (.aload_n 0, 1) := by decide +kernel
theorem dX10_init_95 : decode cX10_init 95 = .ok (.getfield 24, 3) := by decide +kernel
theorem dX10_init_98 : decode cX10_init 98 = .ok (.iconst 0, 1) := by decide +kernel
theorem dX10_init_99 : decode cX10_init 99 = .ok (.iconst 1, 1) := by decide +kernel
theorem dX10_init_100 : decode cX10_init 100 = .ok (.bastore, 1) := by decide +kernel
theorem dX10_init_101 : decode cX10_init 101 = .ok (.return_, 1) := by decide +kernel

theorem dX10_setHouseVacuum_0 : decode cX10_setHouseVacuum 0 = .ok (.aload_n 0, 1) := by decide +kernel
theorem dX10_setHouseVacuum_1 : decode cX10_setHouseVacuum 1 = .ok (.getfield 31, 3) := by decide +kernel
theorem dX10_setHouseVacuum_4 : decode cX10_setHouseVacuum 4 = .ok (.iconst 0, 1) := by decide +kernel
theorem dX10_setHouseVacuum_5 : decode cX10_setHouseVacuum 5 = .ok (.iload_n 1, 1) := by decide +kernel
theorem dX10_setHouseVacuum_6 : decode cX10_setHouseVacuum 6 = .ok (.iastore, 1) := by decide +kernel
theorem dX10_setHouseVacuum_7 : decode cX10_setHouseVacuum 7 = .ok (.aload_n 0, 1) := by decide +kernel
theorem dX10_setHouseVacuum_8 : decode cX10_setHouseVacuum 8 = .ok (.invokevirtual 48, 3) := by decide +kernel
theorem dX10_setHouseVacuum_11 : decode cX10_setHouseVacuum 11 = .ok (.return_, 1) := by decide +kernel

theorem dX10_settleVacuum_0 : decode cX10_settleVacuum 0 = .ok (.iconst 1, 1) := by decide +kernel
theorem dX10_settleVacuum_1 : decode cX10_settleVacuum 1 = .ok (.istore_n 1, 1) := by decide +kernel
theorem dX10_settleVacuum_2 : decode cX10_settleVacuum 2 = .ok (.iload_n 1, 1) := by decide +kernel
theorem dX10_settleVacuum_3 : decode cX10_settleVacuum 3 = .ok (.aload_n 0, 1) := by decide +kernel
theorem dX10_settleVacuum_4 : decode cX10_settleVacuum 4 = .ok (.getfield 37, 3) := by decide +kernel
theorem dX10_settleVacuum_7 : decode cX10_settleVacuum 7 = .ok (.if_icmp .ge 36, 3) := by decide +kernel
theorem dX10_settleVacuum_10 : decode cX10_settleVacuum 10 = .ok (.aload_n 0, 1) := by decide +kernel
theorem dX10_settleVacuum_11 : decode cX10_settleVacuum 11 = .ok (.getfield 31, 3) := by decide +kernel
theorem dX10_settleVacuum_14 : decode cX10_settleVacuum 14 = .ok (.iload_n 1, 1) := by decide +kernel
theorem dX10_settleVacuum_15 : decode cX10_settleVacuum 15 = .ok (.iconst 0, 1) := by decide +kernel
theorem dX10_settleVacuum_16 : decode cX10_settleVacuum 16 = .ok (.aload_n 0, 1) := by decide +kernel
theorem dX10_settleVacuum_17 : decode cX10_settleVacuum 17 = .ok (.aload_n 0, 1) := by decide +kernel
theorem dX10_settleVacuum_18 : decode cX10_settleVacuum 18 = .ok (.getfield 9, 3) := by decide +kernel
theorem dX10_settleVacuum_21 : decode cX10_settleVacuum 21 = .ok (.iload_n 1, 1) := by decide +kernel
theorem dX10_settleVacuum_22 : decode cX10_settleVacuum 22 = .ok (.iaload, 1) := by decide +kernel
theorem dX10_settleVacuum_23 : decode cX10_settleVacuum 23 = .ok (.invokevirtual 51, 3) := by decide +kernel
theorem dX10_settleVacuum_26 : decode cX10_settleVacuum 26 = .ok (.aload_n 0, 1) := by decide +kernel
theorem dX10_settleVacuum_27 : decode cX10_settleVacuum 27 = .ok (.getfield 28, 3) := by decide +kernel
theorem dX10_settleVacuum_30 : decode cX10_settleVacuum 30 = .ok (.iload_n 1, 1) := by decide +kernel
theorem dX10_settleVacuum_31 : decode cX10_settleVacuum 31 = .ok (.iaload, 1) := by decide +kernel
theorem dX10_settleVacuum_32 : decode cX10_settleVacuum 32 = .ok (.isub, 1) := by decide +kernel
theorem dX10_settleVacuum_33 : decode cX10_settleVacuum 33 = .ok (.invokestatic 55, 3) := by decide +kernel
theorem dX10_settleVacuum_36 : decode cX10_settleVacuum 36 = .ok (.iastore, 1) := by decide +kernel
theorem dX10_settleVacuum_37 : decode cX10_settleVacuum 37 = .ok (.iinc 1 1, 3) := by decide +kernel
theorem dX10_settleVacuum_40 : decode cX10_settleVacuum 40 = .ok (.goto (-38), 3) := by decide +kernel
theorem dX10_settleVacuum_43 : decode cX10_settleVacuum 43 = .ok (.return_, 1) := by decide +kernel

theorem dX10_suspectBy_0 : decode cX10_suspectBy 0 = .ok (.aload_n 0, 1) := by decide +kernel
theorem dX10_suspectBy_1 : decode cX10_suspectBy 1 = .ok (.iload_n 1, 1) := by decide +kernel
theorem dX10_suspectBy_2 : decode cX10_suspectBy 2 = .ok (.invokevirtual 45, 3) := by decide +kernel
theorem dX10_suspectBy_5 : decode cX10_suspectBy 5 = .ok (.ifCond .eq 13, 3) := by decide +kernel
theorem dX10_suspectBy_8 : decode cX10_suspectBy 8 = .ok (.aload_n 0, 1) := by decide +kernel
theorem dX10_suspectBy_9 : decode cX10_suspectBy 9 = .ok (.getfield 34, 3) := by decide +kernel
theorem dX10_suspectBy_12 : decode cX10_suspectBy 12 = .ok (.iload_n 1, 1) := by decide +kernel
theorem dX10_suspectBy_13 : decode cX10_suspectBy 13 = .ok (.iaload, 1) := by decide +kernel
theorem dX10_suspectBy_14 : decode cX10_suspectBy 14 = .ok (.iconst (-1), 1) := by decide +kernel
theorem dX10_suspectBy_15 : decode cX10_suspectBy 15 = .ok (.if_icmp .ne 5, 3) := by decide +kernel
theorem dX10_suspectBy_18 : decode cX10_suspectBy 18 = .ok (.iconst 0, 1) := by decide +kernel
theorem dX10_suspectBy_19 : decode cX10_suspectBy 19 = .ok (.ireturn, 1) := by decide +kernel
theorem dX10_suspectBy_20 : decode cX10_suspectBy 20 = .ok (.iconst 0, 1) := by decide +kernel
theorem dX10_suspectBy_21 : decode cX10_suspectBy 21 = .ok (.aload_n 0, 1) := by decide +kernel
theorem dX10_suspectBy_22 : decode cX10_suspectBy 22 = .ok (.iload_n 1, 1) := by decide +kernel
theorem dX10_suspectBy_23 : decode cX10_suspectBy 23 = .ok (.invokevirtual 64, 3) := by decide +kernel
theorem dX10_suspectBy_26 : decode cX10_suspectBy 26 = .ok (.aload_n 0, 1) := by decide +kernel
theorem dX10_suspectBy_27 : decode cX10_suspectBy 27 = .ok (.getfield 34, 3) := by decide +kernel
theorem dX10_suspectBy_30 : decode cX10_suspectBy 30 = .ok (.iload_n 1, 1) := by decide +kernel
theorem dX10_suspectBy_31 : decode cX10_suspectBy 31 = .ok (.iaload, 1) := by decide +kernel
theorem dX10_suspectBy_32 : decode cX10_suspectBy 32 = .ok (.isub, 1) := by decide +kernel
theorem dX10_suspectBy_33 : decode cX10_suspectBy 33 = .ok (.invokestatic 55, 3) := by decide +kernel
theorem dX10_suspectBy_36 : decode cX10_suspectBy 36 = .ok (.ireturn, 1) := by decide +kernel

theorem dX10_tell_0 : decode cX10_tell 0 = .ok (.aload_n 0, 1) := by decide +kernel
theorem dX10_tell_1 : decode cX10_tell 1 = .ok (.iload_n 1, 1) := by decide +kernel
theorem dX10_tell_2 : decode cX10_tell 2 = .ok (.invokevirtual 41, 3) := by decide +kernel
theorem dX10_tell_5 : decode cX10_tell 5 = .ok (.ifCond .ne 5, 3) := by decide +kernel
theorem dX10_tell_8 : decode cX10_tell 8 = .ok (.iconst (-1), 1) := by decide +kernel
theorem dX10_tell_9 : decode cX10_tell 9 = .ok (.ireturn, 1) := by decide +kernel
theorem dX10_tell_10 : decode cX10_tell 10 = .ok (.iload_n 2, 1) := by decide +kernel
theorem dX10_tell_11 : decode cX10_tell 11 = .ok (.tableswitch 112 0 8 #[49, 56, 63, 78, 85, 92, 112, 98, 105], 49) := by decide +kernel
theorem dX10_tell_60 : decode cX10_tell 60 = .ok (.aload_n 0, 1) := by decide +kernel
theorem dX10_tell_61 : decode cX10_tell 61 = .ok (.getfield 9, 3) := by decide +kernel
theorem dX10_tell_64 : decode cX10_tell 64 = .ok (.iload_n 1, 1) := by decide +kernel
theorem dX10_tell_65 : decode cX10_tell 65 = .ok (.iaload, 1) := by decide +kernel
theorem dX10_tell_66 : decode cX10_tell 66 = .ok (.ireturn, 1) := by decide +kernel
theorem dX10_tell_67 : decode cX10_tell 67 = .ok (.aload_n 0, 1) := by decide +kernel
theorem dX10_tell_68 : decode cX10_tell 68 = .ok (.getfield 15, 3) := by decide +kernel
theorem dX10_tell_71 : decode cX10_tell 71 = .ok (.iload_n 1, 1) := by decide +kernel
theorem dX10_tell_72 : decode cX10_tell 72 = .ok (.iaload, 1) := by decide +kernel
theorem dX10_tell_73 : decode cX10_tell 73 = .ok (.ireturn, 1) := by decide +kernel
theorem dX10_tell_74 : decode cX10_tell 74 = .ok (.aload_n 0, 1) := by decide +kernel
theorem dX10_tell_75 : decode cX10_tell 75 = .ok (.getfield 24, 3) := by decide +kernel
theorem dX10_tell_78 : decode cX10_tell 78 = .ok (.iload_n 1, 1) := by decide +kernel
theorem dX10_tell_79 : decode cX10_tell 79 = .ok (.baload, 1) := by decide +kernel
theorem dX10_tell_80 : decode cX10_tell 80 = .ok (.ifCond .eq 7, 3) := by decide +kernel
theorem dX10_tell_83 : decode cX10_tell 83 = .ok (.iconst 1, 1) := by decide +kernel
theorem dX10_tell_84 : decode cX10_tell 84 = .ok (.goto 4, 3) := by decide +kernel
theorem dX10_tell_87 : decode cX10_tell 87 = .ok (.iconst 0, 1) := by decide +kernel
theorem dX10_tell_88 : decode cX10_tell 88 = .ok (.ireturn, 1) := by decide +kernel
theorem dX10_tell_89 : decode cX10_tell 89 = .ok (.aload_n 0, 1) := by decide +kernel
theorem dX10_tell_90 : decode cX10_tell 90 = .ok (.getfield 31, 3) := by decide +kernel
theorem dX10_tell_93 : decode cX10_tell 93 = .ok (.iload_n 1, 1) := by decide +kernel
theorem dX10_tell_94 : decode cX10_tell 94 = .ok (.iaload, 1) := by decide +kernel
theorem dX10_tell_95 : decode cX10_tell 95 = .ok (.ireturn, 1) := by decide +kernel
theorem dX10_tell_96 : decode cX10_tell 96 = .ok (.aload_n 0, 1) := by decide +kernel
theorem dX10_tell_97 : decode cX10_tell 97 = .ok (.getfield 34, 3) := by decide +kernel
theorem dX10_tell_100 : decode cX10_tell 100 = .ok (.iload_n 1, 1) := by decide +kernel
theorem dX10_tell_101 : decode cX10_tell 101 = .ok (.iaload, 1) := by decide +kernel
theorem dX10_tell_102 : decode cX10_tell 102 = .ok (.ireturn, 1) := by decide +kernel
theorem dX10_tell_103 : decode cX10_tell 103 = .ok (.aload_n 0, 1) := by decide +kernel
theorem dX10_tell_104 : decode cX10_tell 104 = .ok (.iload_n 1, 1) := by decide +kernel
theorem dX10_tell_105 : decode cX10_tell 105 = .ok (.invokevirtual 61, 3) := by decide +kernel
theorem dX10_tell_108 : decode cX10_tell 108 = .ok (.ireturn, 1) := by decide +kernel
theorem dX10_tell_109 : decode cX10_tell 109 = .ok (.aload_n 0, 1) := by decide +kernel
theorem dX10_tell_110 : decode cX10_tell 110 = .ok (.getfield 18, 3) := by decide +kernel
theorem dX10_tell_113 : decode cX10_tell 113 = .ok (.iload_n 1, 1) := by decide +kernel
theorem dX10_tell_114 : decode cX10_tell 114 = .ok (.iaload, 1) := by decide +kernel
theorem dX10_tell_115 : decode cX10_tell 115 = .ok (.ireturn, 1) := by decide +kernel
theorem dX10_tell_116 : decode cX10_tell 116 = .ok (.aload_n 0, 1) := by decide +kernel
theorem dX10_tell_117 : decode cX10_tell 117 = .ok (.getfield 21, 3) := by decide +kernel
theorem dX10_tell_120 : decode cX10_tell 120 = .ok (.iload_n 1, 1) := by decide +kernel
theorem dX10_tell_121 : decode cX10_tell 121 = .ok (.iaload, 1) := by decide +kernel
theorem dX10_tell_122 : decode cX10_tell 122 = .ok (.ireturn, 1) := by decide +kernel
theorem dX10_tell_123 : decode cX10_tell 123 = .ok (.iconst (-1), 1) := by decide +kernel
theorem dX10_tell_124 : decode cX10_tell 124 = .ok (.ireturn, 1) := by decide +kernel

theorem dX11_batch_0 : decode cX11_batch 0 = .ok (.aload_n 0, 1) := by decide +kernel
theorem dX11_batch_1 : decode cX11_batch 1 = .ok (.getfield 54, 3) := by decide +kernel
theorem dX11_batch_4 : decode cX11_batch 4 = .ok (.iload_n 1, 1) := by decide +kernel
theorem dX11_batch_5 : decode cX11_batch 5 = .ok (.invokevirtual 230, 3) := by decide +kernel
theorem dX11_batch_8 : decode cX11_batch 8 = .ok (.ifCond .ne 5, 3) := by decide +kernel
theorem dX11_batch_11 : decode cX11_batch 11 = .ok (.iconst (-1), 1) := by decide +kernel
theorem dX11_batch_12 : decode cX11_batch 12 = .ok (.ireturn, 1) := by decide +kernel
theorem dX11_batch_13 : decode cX11_batch 13 = .ok (.iload_n 2, 1) := by decide +kernel
theorem dX11_batch_14 : decode cX11_batch 14 = .ok (.iconst 4, 1) := by decide +kernel
theorem dX11_batch_15 : decode cX11_batch 15 = .ok (.if_icmp .ne 11, 3) := by decide +kernel
theorem dX11_batch_18 : decode cX11_batch 18 = .ok (.aload_n 0, 1) := by decide +kernel
theorem dX11_batch_19 : decode cX11_batch 19 = .ok (.iload_n 1, 1) := by decide +kernel
theorem dX11_batch_20 : decode cX11_batch 20 = .ok (.invokevirtual 234, 3) := by decide +kernel
theorem dX11_batch_23 : decode cX11_batch 23 = .ok (.goto 12, 3) := by decide +kernel
theorem dX11_batch_26 : decode cX11_batch 26 = .ok (.aload_n 0, 1) := by decide +kernel
theorem dX11_batch_27 : decode cX11_batch 27 = .ok (.getfield 54, 3) := by decide +kernel
theorem dX11_batch_30 : decode cX11_batch 30 = .ok (.iload_n 1, 1) := by decide +kernel
theorem dX11_batch_31 : decode cX11_batch 31 = .ok (.iload_n 2, 1) := by decide +kernel
theorem dX11_batch_32 : decode cX11_batch 32 = .ok (.invokevirtual 237, 3) := by decide +kernel
theorem dX11_batch_35 : decode cX11_batch 35 = .ok (.ireturn, 1) := by decide +kernel

theorem dX11_boil_0 : decode cX11_boil 0 = .ok (.iload_n 1, 1) := by decide +kernel
theorem dX11_boil_1 : decode cX11_boil 1 = .ok (.iconst 0, 1) := by decide +kernel
theorem dX11_boil_2 : decode cX11_boil 2 = .ok (.sipush 300, 3) := by decide +kernel
theorem dX11_boil_5 : decode cX11_boil 5 = .ok (.invokestatic 103, 3) := by decide +kernel
theorem dX11_boil_8 : decode cX11_boil 8 = .ok (.ifCond .ne 5, 3) := by decide +kernel
theorem dX11_boil_11 : decode cX11_boil 11 = .ok (.iconst (-1), 1) := by decide +kernel
theorem dX11_boil_12 : decode cX11_boil 12 = .ok (.ireturn, 1) := by decide +kernel
theorem dX11_boil_13 : decode cX11_boil 13 = .ok (.iconst 0, 1) := by decide +kernel
theorem dX11_boil_14 : decode cX11_boil 14 = .ok (.istore_n 2, 1) := by decide +kernel
theorem dX11_boil_15 : decode cX11_boil 15 = .ok (.iload_n 2, 1) := by decide +kernel
theorem dX11_boil_16 : decode cX11_boil 16 = .ok (.iload_n 1, 1) := by decide +kernel
theorem dX11_boil_17 : decode cX11_boil 17 = .ok (.if_icmp .ge 23, 3) := by decide +kernel
theorem dX11_boil_20 : decode cX11_boil 20 = .ok (.aload_n 0, 1) := by decide +kernel
theorem dX11_boil_21 : decode cX11_boil 21 = .ok (.getfield 47, 3) := by decide +kernel
theorem dX11_boil_24 : decode cX11_boil 24 = .ok (.getfield 213, 3) := by decide +kernel
theorem dX11_boil_27 : decode cX11_boil 27 = .ok (.ifCond .le 13, 3) := by decide +kernel
theorem dX11_boil_30 : decode cX11_boil 30 = .ok (.aload_n 0, 1) := by decide +kernel
theorem dX11_boil_31 : decode cX11_boil 31 = .ok (.invokevirtual 225, 3) := by decide +kernel
theorem dX11_boil_34 : decode cX11_boil 34 = .ok (.iinc 2 1, 3) := by decide +kernel
theorem dX11_boil_37 : decode cX11_boil 37 = .ok (.goto (-22), 3) := by decide +kernel
theorem dX11_boil_40 : decode cX11_boil 40 = .ok (.iload_n 2, 1) := by decide +kernel
theorem dX11_boil_41 : decode cX11_boil 41 = .ok (.ireturn, 1) := by decide +kernel

theorem dX11_count_0 : decode cX11_count 0 = .ok (.iload_n 1, 1) := by decide +kernel
theorem dX11_count_1 : decode cX11_count 1 = .ok (.tableswitch 171 0 12 #[67, 75, 83, 91, 99, 107, 115, 123, 131, 139, 147, 155, 163], 67) := by decide +kernel
theorem dX11_count_68 : decode cX11_count 68 = .ok (.aload_n 0, 1) := by decide +kernel
theorem dX11_count_69 : decode cX11_count 69 = .ok (.getfield 26, 3) := by decide +kernel
theorem dX11_count_72 : decode cX11_count 72 = .ok (.getfield 121, 3) := by decide +kernel
theorem dX11_count_75 : decode cX11_count 75 = .ok (.ireturn, 1) := by decide +kernel
theorem dX11_count_76 : decode cX11_count 76 = .ok (.aload_n 0, 1) := by decide +kernel
theorem dX11_count_77 : decode cX11_count 77 = .ok (.getfield 26, 3) := by decide +kernel
theorem dX11_count_80 : decode cX11_count 80 = .ok (.getfield 174, 3) := by decide +kernel
theorem dX11_count_83 : decode cX11_count 83 = .ok (.ireturn, 1) := by decide +kernel
theorem dX11_count_84 : decode cX11_count 84 = .ok (.aload_n 0, 1) := by decide +kernel
theorem dX11_count_85 : decode cX11_count 85 = .ok (.getfield 10, 3) := by decide +kernel
theorem dX11_count_88 : decode cX11_count 88 = .ok (.getfield 270, 3) := by decide +kernel
theorem dX11_count_91 : decode cX11_count 91 = .ok (.ireturn, 1) := by decide +kernel
theorem dX11_count_92 : decode cX11_count 92 = .ok (.aload_n 0, 1) := by decide +kernel
theorem dX11_count_93 : decode cX11_count 93 = .ok (.getfield 19, 3) := by decide +kernel
theorem dX11_count_96 : decode cX11_count 96 = .ok (.getfield 271, 3) := by decide +kernel
theorem dX11_count_99 : decode cX11_count 99 = .ok (.ireturn, 1) := by decide +kernel
theorem dX11_count_100 : decode cX11_count 100 = .ok (.aload_n 0, 1) := by decide +kernel
theorem dX11_count_101 : decode cX11_count 101 = .ok (.getfield 19, 3) := by decide +kernel
theorem dX11_count_104 : decode cX11_count 104 = .ok (.getfield 274, 3) := by decide +kernel
theorem dX11_count_107 : decode cX11_count 107 = .ok (.ireturn, 1) := by decide +kernel
theorem dX11_count_108 : decode cX11_count 108 = .ok (.aload_n 0, 1) := by decide +kernel
theorem dX11_count_109 : decode cX11_count 109 = .ok (.getfield 40, 3) := by decide +kernel
theorem dX11_count_112 : decode cX11_count 112 = .ok (.getfield 277, 3) := by decide +kernel
theorem dX11_count_115 : decode cX11_count 115 = .ok (.ireturn, 1) := by decide +kernel
theorem dX11_count_116 : decode cX11_count 116 = .ok (.aload_n 0, 1) := by decide +kernel
theorem dX11_count_117 : decode cX11_count 117 = .ok (.getfield 40, 3) := by decide +kernel
theorem dX11_count_120 : decode cX11_count 120 = .ok (.getfield 278, 3) := by decide +kernel
theorem dX11_count_123 : decode cX11_count 123 = .ok (.ireturn, 1) := by decide +kernel
theorem dX11_count_124 : decode cX11_count 124 = .ok (.aload_n 0, 1) := by decide +kernel
theorem dX11_count_125 : decode cX11_count 125 = .ok (.getfield 40, 3) := by decide +kernel
theorem dX11_count_128 : decode cX11_count 128 = .ok (.getfield 281, 3) := by decide +kernel
theorem dX11_count_131 : decode cX11_count 131 = .ok (.ireturn, 1) := by decide +kernel
theorem dX11_count_132 : decode cX11_count 132 = .ok (.aload_n 0, 1) := by decide +kernel
theorem dX11_count_133 : decode cX11_count 133 = .ok (.getfield 47, 3) := by decide +kernel
theorem dX11_count_136 : decode cX11_count 136 = .ok (.getfield 284, 3) := by decide +kernel
theorem dX11_count_139 : decode cX11_count 139 = .ok (.ireturn, 1) := by decide +kernel
theorem dX11_count_140 : decode cX11_count 140 = .ok (.aload_n 0, 1) := by decide +kernel
theorem dX11_count_141 : decode cX11_count 141 = .ok (.getfield 54, 3) := by decide +kernel
theorem dX11_count_144 : decode cX11_count 144 = .ok (.getfield 287, 3) := by decide +kernel
theorem dX11_count_147 : decode cX11_count 147 = .ok (.ireturn, 1) := by decide +kernel
theorem dX11_count_148 : decode cX11_count 148 = .ok (.aload_n 0, 1) := by decide +kernel
theorem dX11_count_149 : decode cX11_count 149 = .ok (.getfield 88, 3) := by decide +kernel
theorem dX11_count_152 : decode cX11_count 152 = .ok (.getfield 269, 3) := by decide +kernel
theorem dX11_count_155 : decode cX11_count 155 = .ok (.ireturn, 1) := by decide +kernel
theorem dX11_count_156 : decode cX11_count 156 = .ok (.aload_n 0, 1) := by decide +kernel
theorem dX11_count_157 : decode cX11_count 157 = .ok (.getfield 68, 3) := by decide +kernel
theorem dX11_count_160 : decode cX11_count 160 = .ok (.getfield 256, 3) := by decide +kernel
theorem dX11_count_163 : decode cX11_count 163 = .ok (.ireturn, 1) := by decide +kernel
theorem dX11_count_164 : decode cX11_count 164 = .ok (.aload_n 0, 1) := by decide +kernel
theorem dX11_count_165 : decode cX11_count 165 = .ok (.getfield 40, 3) := by decide +kernel
theorem dX11_count_168 : decode cX11_count 168 = .ok (.getfield 288, 3) := by decide +kernel
theorem dX11_count_171 : decode cX11_count 171 = .ok (.ireturn, 1) := by decide +kernel
theorem dX11_count_172 : decode cX11_count 172 = .ok (.iconst (-1), 1) := by decide +kernel
theorem dX11_count_173 : decode cX11_count 173 = .ok (.ireturn, 1) := by decide +kernel

theorem dX11_day_0 : decode cX11_day 0 = .ok (.iload_n 1, 1) := by decide +kernel
theorem dX11_day_1 : decode cX11_day 1 = .ok (.iload_n 2, 1) := by decide +kernel
theorem dX11_day_2 : decode cX11_day 2 = .ok (.invokestatic 170, 3) := by decide +kernel
theorem dX11_day_5 : decode cX11_day 5 = .ok (.ifCond .eq 15, 3) := by decide +kernel
theorem dX11_day_8 : decode cX11_day 8 = .ok (.aload_n 0, 1) := by decide +kernel
theorem dX11_day_9 : decode cX11_day 9 = .ok (.getfield 26, 3) := by decide +kernel
theorem dX11_day_12 : decode cX11_day 12 = .ok (.getfield 174, 3) := by decide +kernel
theorem dX11_day_15 : decode cX11_day 15 = .ok (.bipush 99, 2) := by decide +kernel
theorem dX11_day_17 : decode cX11_day 17 = .ok (.if_icmp .lt 5, 3) := by decide +kernel
theorem dX11_day_20 : decode cX11_day 20 = .ok (.iconst (-1), 1) := by decide +kernel
theorem dX11_day_21 : decode cX11_day 21 = .ok (.ireturn, 1) := by decide +kernel
theorem dX11_day_22 : decode cX11_day 22 = .ok (.aload_n 0, 1) := by decide +kernel
theorem dX11_day_23 : decode cX11_day 23 = .ok (.getfield 26, 3) := by decide +kernel
theorem dX11_day_26 : decode cX11_day 26 = .ok (.iload_n 1, 1) := by decide +kernel
theorem dX11_day_27 : decode cX11_day 27 = .ok (.invokestatic 177, 3) := by decide +kernel
theorem dX11_day_30 : decode cX11_day 30 = .ok (.ifCond .le 7, 3) := by decide +kernel
theorem dX11_day_33 : decode cX11_day 33 = .ok (.iconst 1, 1) := by decide +kernel
theorem dX11_day_34 : decode cX11_day 34 = .ok (.goto 4, 3) := by decide +kernel
theorem dX11_day_37 : decode cX11_day 37 = .ok (.iconst 0, 1) := by decide +kernel
theorem dX11_day_38 : decode cX11_day 38 = .ok (.invokevirtual 180, 3) := by decide +kernel
theorem dX11_day_41 : decode cX11_day 41 = .ok (.aload_n 0, 1) := by decide +kernel
theorem dX11_day_42 : decode cX11_day 42 = .ok (.getfield 33, 3) := by decide +kernel
theorem dX11_day_45 : decode cX11_day 45 = .ok (.iload_n 1, 1) := by decide +kernel
theorem dX11_day_46 : decode cX11_day 46 = .ok (.iload_n 2, 1) := by decide +kernel
theorem dX11_day_47 : decode cX11_day 47 = .ok (.aload_n 0, 1) := by decide +kernel
theorem dX11_day_48 : decode cX11_day 48 = .ok (.getfield 26, 3) := by decide +kernel
theorem dX11_day_51 : decode cX11_day 51 = .ok (.getfield 166, 3) := by decide +kernel
theorem dX11_day_54 : decode cX11_day 54 = .ok (.ifCond .eq 7, 3) := by decide +kernel
theorem dX11_day_57 : decode cX11_day 57 = .ok (.iconst 0, 1) := by decide +kernel
theorem dX11_day_58 : decode cX11_day 58 = .ok (.goto 16, 3) := by decide +kernel
theorem dX11_day_61 : decode cX11_day 61 = .ok (.aload_n 0, 1) := by decide +kernel
theorem dX11_day_62 : decode cX11_day 62 = .ok (.iload_n 1, 1) := by decide +kernel
theorem dX11_day_63 : decode cX11_day 63 = .ok (.invokestatic 177, 3) := by decide +kernel
theorem dX11_day_66 : decode cX11_day 66 = .ok (.iload_n 2, 1) := by decide +kernel
theorem dX11_day_67 : decode cX11_day 67 = .ok (.invokestatic 184, 3) := by decide +kernel
theorem dX11_day_70 : decode cX11_day 70 = .ok (.imul, 1) := by decide +kernel
theorem dX11_day_71 : decode cX11_day 71 = .ok (.invokevirtual 187, 3) := by decide +kernel
theorem dX11_day_74 : decode cX11_day 74 = .ok (.invokevirtual 190, 3) := by decide +kernel
theorem dX11_day_77 : decode cX11_day 77 = .ok (.aload_n 0, 1) := by decide +kernel
theorem dX11_day_78 : decode cX11_day 78 = .ok (.getfield 26, 3) := by decide +kernel
theorem dX11_day_81 : decode cX11_day 81 = .ok (.getfield 174, 3) := by decide +kernel
theorem dX11_day_84 : decode cX11_day 84 = .ok (.ireturn, 1) := by decide +kernel

theorem dX11_dump_0 : decode cX11_dump 0 = .ok (.aload_n 0, 1) := by decide +kernel
theorem dX11_dump_1 : decode cX11_dump 1 = .ok (.getfield 47, 3) := by decide +kernel
theorem dX11_dump_4 : decode cX11_dump 4 = .ok (.getfield 213, 3) := by decide +kernel
theorem dX11_dump_7 : decode cX11_dump 7 = .ok (.istore_n 1, 1) := by decide +kernel
theorem dX11_dump_8 : decode cX11_dump 8 = .ok (.aload_n 0, 1) := by decide +kernel
theorem dX11_dump_9 : decode cX11_dump 9 = .ok (.getfield 47, 3) := by decide +kernel
theorem dX11_dump_12 : decode cX11_dump 12 = .ok (.invokevirtual 204, 3) := by decide +kernel
theorem dX11_dump_15 : decode cX11_dump 15 = .ok (.iload_n 1, 1) := by decide +kernel
theorem dX11_dump_16 : decode cX11_dump 16 = .ok (.ireturn, 1) := by decide +kernel

theorem dX11_fault_0 : decode cX11_fault 0 = .ok (.aload_n 0, 1) := by decide +kernel
theorem dX11_fault_1 : decode cX11_fault 1 = .ok (.getfield 95, 3) := by decide +kernel
theorem dX11_fault_4 : decode cX11_fault 4 = .ok (.ireturn, 1) := by decide +kernel

theorem dX11_feed_0 : decode cX11_feed 0 = .ok (.aload_n 0, 1) := by decide +kernel
theorem dX11_feed_1 : decode cX11_feed 1 = .ok (.getfield 68, 3) := by decide +kernel
theorem dX11_feed_4 : decode cX11_feed 4 = .ok (.bipush 20, 2) := by decide +kernel
theorem dX11_feed_6 : decode cX11_feed 6 = .ok (.invokevirtual 250, 3) := by decide +kernel
theorem dX11_feed_9 : decode cX11_feed 9 = .ok (.ifCond .ne 5, 3) := by decide +kernel
theorem dX11_feed_12 : decode cX11_feed 12 = .ok (.iconst (-1), 1) := by decide +kernel
theorem dX11_feed_13 : decode cX11_feed 13 = .ok (.ireturn, 1) := by decide +kernel
theorem dX11_feed_14 : decode cX11_feed 14 = .ok (.aload_n 0, 1) := by decide +kernel
theorem dX11_feed_15 : decode cX11_feed 15 = .ok (.getfield 68, 3) := by decide +kernel
theorem dX11_feed_18 : decode cX11_feed 18 = .ok (.iload_n 1, 1) := by decide +kernel
theorem dX11_feed_19 : decode cX11_feed 19 = .ok (.invokevirtual 253, 3) := by decide +kernel
theorem dX11_feed_22 : decode cX11_feed 22 = .ok (.aload_n 0, 1) := by decide +kernel
theorem dX11_feed_23 : decode cX11_feed 23 = .ok (.getfield 68, 3) := by decide +kernel
theorem dX11_feed_26 : decode cX11_feed 26 = .ok (.iload_n 2, 1) := by decide +kernel
theorem dX11_feed_27 : decode cX11_feed 27 = .ok (.invokevirtual 253, 3) := by decide +kernel
theorem dX11_feed_30 : decode cX11_feed 30 = .ok (.aload_n 0, 1) := by decide +kernel
theorem dX11_feed_31 : decode cX11_feed 31 = .ok (.getfield 68, 3) := by decide +kernel
theorem dX11_feed_34 : decode cX11_feed 34 = .ok (.iload_n 3, 1) := by decide +kernel
theorem dX11_feed_35 : decode cX11_feed 35 = .ok (.invokevirtual 253, 3) := by decide +kernel
theorem dX11_feed_38 : decode cX11_feed 38 = .ok (.aload_n 0, 1) := by decide +kernel
theorem dX11_feed_39 : decode cX11_feed 39 = .ok (.getfield 68, 3) := by decide +kernel
theorem dX11_feed_42 : decode cX11_feed 42 = .ok (.iload 4, 2) := by decide +kernel
theorem dX11_feed_44 : decode cX11_feed 44 = .ok (.invokevirtual 253, 3) := by decide +kernel
theorem dX11_feed_47 : decode cX11_feed 47 = .ok (.aload_n 0, 1) := by decide +kernel
theorem dX11_feed_48 : decode cX11_feed 48 = .ok (.getfield 68, 3) := by decide +kernel
theorem dX11_feed_51 : decode cX11_feed 51 = .ok (.iload 5, 2) := by decide +kernel
theorem dX11_feed_53 : decode cX11_feed 53 = .ok (.invokevirtual 253, 3) := by decide +kernel
theorem dX11_feed_56 : decode cX11_feed 56 = .ok (.aload_n 0, 1) := by decide +kernel
theorem dX11_feed_57 : decode cX11_feed 57 = .ok (.getfield 68, 3) := by decide +kernel
theorem dX11_feed_60 : decode cX11_feed 60 = .ok (.getfield 256, 3) := by decide +kernel
theorem dX11_feed_63 : decode cX11_feed 63 = .ok (.ireturn, 1) := by decide +kernel

theorem dX11_foretold_0 : decode cX11_foretold 0 = .ok (.iload_n 1, 1) := by decide +kernel
theorem dX11_foretold_1 : decode cX11_foretold 1 = .ok (.iload_n 2, 1) := by decide +kernel
theorem dX11_foretold_2 : decode cX11_foretold 2 = .ok (.invokestatic 170, 3) := by decide +kernel
theorem dX11_foretold_5 : decode cX11_foretold 5 = .ok (.ifCond .eq 12, 3) := by decide +kernel
theorem dX11_foretold_8 : decode cX11_foretold 8 = .ok (.iload_n 3, 1) := by decide +kernel
theorem dX11_foretold_9 : decode cX11_foretold 9 = .ok (.iconst 0, 1) := by decide +kernel
theorem dX11_foretold_10 : decode cX11_foretold 10 = .ok (.iconst 1, 1) := by decide +kernel
theorem dX11_foretold_11 : decode cX11_foretold 11 = .ok (.invokestatic 103, 3) := by decide +kernel
theorem dX11_foretold_14 : decode cX11_foretold 14 = .ok (.ifCond .ne 5, 3) := by decide +kernel
theorem dX11_foretold_17 : decode cX11_foretold 17 = .ok (.iconst (-1), 1) := by decide +kernel
theorem dX11_foretold_18 : decode cX11_foretold 18 = .ok (.ireturn, 1) := by decide +kernel
theorem dX11_foretold_19 : decode cX11_foretold 19 = .ok (.iload_n 3, 1) := by decide +kernel
theorem dX11_foretold_20 : decode cX11_foretold 20 = .ok (.ifCond .ne 15, 3) := by decide +kernel
theorem dX11_foretold_23 : decode cX11_foretold 23 = .ok (.aload_n 0, 1) := by decide +kernel
theorem dX11_foretold_24 : decode cX11_foretold 24 = .ok (.getfield 33, 3) := by decide +kernel
theorem dX11_foretold_27 : decode cX11_foretold 27 = .ok (.iload_n 1, 1) := by decide +kernel
theorem dX11_foretold_28 : decode cX11_foretold 28 = .ok (.iload_n 2, 1) := by decide +kernel
theorem dX11_foretold_29 : decode cX11_foretold 29 = .ok (.invokevirtual 207, 3) := by decide +kernel
theorem dX11_foretold_32 : decode cX11_foretold 32 = .ok (.goto 12, 3) := by decide +kernel
theorem dX11_foretold_35 : decode cX11_foretold 35 = .ok (.aload_n 0, 1) := by decide +kernel
theorem dX11_foretold_36 : decode cX11_foretold 36 = .ok (.getfield 33, 3) := by decide +kernel
theorem dX11_foretold_39 : decode cX11_foretold 39 = .ok (.iload_n 1, 1) := by decide +kernel
theorem dX11_foretold_40 : decode cX11_foretold 40 = .ok (.iload_n 2, 1) := by decide +kernel
theorem dX11_foretold_41 : decode cX11_foretold 41 = .ok (.invokevirtual 210, 3) := by decide +kernel
theorem dX11_foretold_44 : decode cX11_foretold 44 = .ok (.ireturn, 1) := by decide +kernel

theorem dX11_frostOf_0 : decode cX11_frostOf 0 = .ok (.iload_n 0, 1) := by decide +kernel
theorem dX11_frostOf_1 : decode cX11_frostOf 1 = .ok (.ineg, 1) := by decide +kernel
theorem dX11_frostOf_2 : decode cX11_frostOf 2 = .ok (.invokestatic 184, 3) := by decide +kernel
theorem dX11_frostOf_5 : decode cX11_frostOf 5 = .ok (.ireturn, 1) := by decide +kernel

theorem dX11_gatherSap_0 : decode cX11_gatherSap 0 = .ok (.iconst 0, 1) := by decide +kernel
theorem dX11_gatherSap_1 : decode cX11_gatherSap 1 = .ok (.istore_n 2, 1) := by decide +kernel
theorem dX11_gatherSap_2 : decode cX11_gatherSap 2 = .ok (.iconst 0, 1) := by decide +kernel
theorem dX11_gatherSap_3 : decode cX11_gatherSap 3 = .ok (.istore_n 3, 1) := by decide +kernel
theorem dX11_gatherSap_4 : decode cX11_gatherSap 4 = .ok (.iload_n 3, 1) := by decide +kernel
theorem dX11_gatherSap_5 : decode cX11_gatherSap 5 = .ok (.aload_n 0, 1) := by decide +kernel
theorem dX11_gatherSap_6 : decode cX11_gatherSap 6 = .ok (.getfield 19, 3) := by decide +kernel
theorem dX11_gatherSap_9 : decode cX11_gatherSap 9 = .ok (.getfield 274, 3) := by decide +kernel
theorem dX11_gatherSap_12 : decode cX11_gatherSap 12 = .ok (.if_icmp .ge 43, 3) := by decide +kernel
theorem dX11_gatherSap_15 : decode cX11_gatherSap 15 = .ok (.aload_n 0, 1) := by decide +kernel
theorem dX11_gatherSap_16 : decode cX11_gatherSap 16 = .ok (.getfield 19, 3) := by decide +kernel
theorem dX11_gatherSap_19 : decode cX11_gatherSap 19 = .ok (.iload_n 3, 1) := by decide +kernel
theorem dX11_gatherSap_20 : decode cX11_gatherSap 20 = .ok (.invokevirtual 299, 3) := by decide +kernel
theorem dX11_gatherSap_23 : decode cX11_gatherSap 23 = .ok (.aload_n 0, 1) := by decide +kernel
theorem dX11_gatherSap_24 : decode cX11_gatherSap 24 = .ok (.getfield 26, 3) := by decide +kernel
theorem dX11_gatherSap_27 : decode cX11_gatherSap 27 = .ok (.getfield 121, 3) := by decide +kernel
theorem dX11_gatherSap_30 : decode cX11_gatherSap 30 = .ok (.if_icmp .ne 19, 3) := by decide +kernel
theorem dX11_gatherSap_33 : decode cX11_gatherSap 33 = .ok (.iload_n 2, 1) := by decide +kernel
theorem dX11_gatherSap_34 : decode cX11_gatherSap 34 = .ok (.aload_n 0, 1) := by decide +kernel
theorem dX11_gatherSap_35 : decode cX11_gatherSap 35 = .ok (.aload_n 0, 1) := by decide +kernel
theorem dX11_gatherSap_36 : decode cX11_gatherSap 36 = .ok (.getfield 19, 3) := by decide +kernel
theorem dX11_gatherSap_39 : decode cX11_gatherSap 39 = .ok (.iload_n 3, 1) := by decide +kernel
theorem dX11_gatherSap_40 : decode cX11_gatherSap 40 = .ok (.invokevirtual 302, 3) := by decide +kernel
theorem dX11_gatherSap_43 : decode cX11_gatherSap 43 = .ok (.iload_n 1, 1) := by decide +kernel
theorem dX11_gatherSap_44 : decode cX11_gatherSap 44 = .ok (.invokevirtual 305, 3) := by decide +kernel
theorem dX11_gatherSap_47 : decode cX11_gatherSap 47 = .ok (.iadd, 1) := by decide +kernel
theorem dX11_gatherSap_48 : decode cX11_gatherSap 48 = .ok (.istore_n 2, 1) := by decide +kernel
theorem dX11_gatherSap_49 : decode cX11_gatherSap 49 = .ok (.iinc 3 1, 3) := by decide +kernel
theorem dX11_gatherSap_52 : decode cX11_gatherSap 52 = .ok (.goto (-48), 3) := by decide +kernel
theorem dX11_gatherSap_55 : decode cX11_gatherSap 55 = .ok (.iload_n 2, 1) := by decide +kernel
theorem dX11_gatherSap_56 : decode cX11_gatherSap 56 = .ok (.ireturn, 1) := by decide +kernel

theorem dX11_gauge_0 : decode cX11_gauge 0 = .ok (.aload_n 0, 1) := by decide +kernel
theorem dX11_gauge_1 : decode cX11_gauge 1 = .ok (.getfield 10, 3) := by decide +kernel
theorem dX11_gauge_4 : decode cX11_gauge 4 = .ok (.iload_n 1, 1) := by decide +kernel
theorem dX11_gauge_5 : decode cX11_gauge 5 = .ok (.invokevirtual 114, 3) := by decide +kernel
theorem dX11_gauge_8 : decode cX11_gauge 8 = .ok (.ifCond .eq 18, 3) := by decide +kernel
theorem dX11_gauge_11 : decode cX11_gauge 11 = .ok (.iload_n 2, 1) := by decide +kernel
theorem dX11_gauge_12 : decode cX11_gauge 12 = .ok (.iconst (-1), 1) := by decide +kernel
theorem dX11_gauge_13 : decode cX11_gauge 13 = .ok (.if_icmp .eq 15, 3) := by decide +kernel
theorem dX11_gauge_16 : decode cX11_gauge 16 = .ok (.iload_n 2, 1) := by decide +kernel
theorem dX11_gauge_17 : decode cX11_gauge 17 = .ok (.iconst 0, 1) := by decide +kernel
theorem dX11_gauge_18 : decode cX11_gauge 18 = .ok (.bipush 100, 2) := by decide +kernel
theorem dX11_gauge_20 : decode cX11_gauge 20 = .ok (.invokestatic 103, 3) := by decide +kernel
theorem dX11_gauge_23 : decode cX11_gauge 23 = .ok (.ifCond .ne 5, 3) := by decide +kernel
theorem dX11_gauge_26 : decode cX11_gauge 26 = .ok (.iconst 0, 1) := by decide +kernel
theorem dX11_gauge_27 : decode cX11_gauge 27 = .ok (.ireturn, 1) := by decide +kernel
theorem dX11_gauge_28 : decode cX11_gauge 28 = .ok (.aload_n 0, 1) := by decide +kernel
theorem dX11_gauge_29 : decode cX11_gauge 29 = .ok (.getfield 10, 3) := by decide +kernel
theorem dX11_gauge_32 : decode cX11_gauge 32 = .ok (.iload_n 1, 1) := by decide +kernel
theorem dX11_gauge_33 : decode cX11_gauge 33 = .ok (.iload_n 2, 1) := by decide +kernel
theorem dX11_gauge_34 : decode cX11_gauge 34 = .ok (.invokevirtual 148, 3) := by decide +kernel
theorem dX11_gauge_37 : decode cX11_gauge 37 = .ok (.iconst 1, 1) := by decide +kernel
theorem dX11_gauge_38 : decode cX11_gauge 38 = .ok (.ireturn, 1) := by decide +kernel

theorem dX11_init_0 : decode cX11_init 0 = .ok (.aload_n 0, 1) := by decide +kernel
theorem dX11_init_1 : decode cX11_init 1 = .ok (.invokespecial 1, 3) := by decide +kernel
theorem dX11_init_4 : decode cX11_init 4 = .ok (.aload_n 0, 1) := by decide +kernel
theorem dX11_init_5 : decode cX11_init 5 = .ok (.new 7, 3) := by decide +kernel
theorem dX11_init_8 : decode cX11_init 8 = .ok (.dup, 1) := by decide +kernel
theorem dX11_init_9 : decode cX11_init 9 = .ok (.invokespecial 9, 3) := by decide +kernel
theorem dX11_init_12 : decode cX11_init 12 = .ok (.putfield 10, 3) := by decide +kernel
theorem dX11_init_15 : decode cX11_init 15 = .ok (.aload_n 0, 1) := by decide +kernel
theorem dX11_init_16 : decode cX11_init 16 = .ok (.new 16, 3) := by decide +kernel
theorem dX11_init_19 : decode cX11_init 19 = .ok (.dup, 1) := by decide +kernel
theorem dX11_init_20 : decode cX11_init 20 = .ok (.invokespecial 18, 3) := by decide +kernel
theorem dX11_init_23 : decode cX11_init 23 = .ok (.putfield 19, 3) := by decide +kernel
theorem dX11_init_26 : decode cX11_init 26 = .ok (.aload_n 0, 1) := by decide +kernel
theorem dX11_init_27 : decode cX11_init 27 = .ok (.new 23, 3) := by decide +kernel
theorem dX11_init_30 : decode cX11_init 30 = .ok (.dup, 1) := by decide +kernel
theorem dX11_init_31 : decode cX11_init 31 = .ok (.invokespecial 25, 3) := by decide +kernel
theorem dX11_init_34 : decode cX11_init 34 = .ok (.putfield 26, 3) := by decide +kernel
theorem dX11_init_37 : decode cX11_init 37 = .ok (.aload_n 0, 1) := by decide +kernel
theorem dX11_init_38 : decode cX11_init 38 = .ok (.new 30, 3) := by decide +kernel
theorem dX11_init_41 : decode cX11_init 41 = .ok (.dup, 1) := by decide +kernel
theorem dX11_init_42 : decode cX11_init 42 = .ok (.invokespecial 32, 3) := by decide +kernel
theorem dX11_init_45 : decode cX11_init 45 = .ok (.putfield 33, 3) := by decide +kernel
theorem dX11_init_48 : decode cX11_init 48 = .ok (.aload_n 0, 1) := by decide +kernel
theorem dX11_init_49 : decode cX11_init 49 = .ok (.new 37, 3) := by decide +kernel
theorem dX11_init_52 : decode cX11_init 52 = .ok (.dup, 1) := by decide +kernel
theorem dX11_init_53 : decode cX11_init 53 = .ok (.invokespecial 39, 3) := by decide +kernel
theorem dX11_init_56 : decode cX11_init 56 = .ok (.putfield 40, 3) := by decide +kernel
theorem dX11_init_59 : decode cX11_init 59 = .ok (.aload_n 0, 1) := by decide +kernel
theorem dX11_init_60 : decode cX11_init 60 = .ok (.new 44, 3) := by decide +kernel
theorem dX11_init_63 : decode cX11_init 63 = .ok (.dup, 1) := by decide +kernel
theorem dX11_init_64 : decode cX11_init 64 = .ok (.invokespecial 46, 3) := by decide +kernel
theorem dX11_init_67 : decode cX11_init 67 = .ok (.putfield 47, 3) := by decide +kernel
theorem dX11_init_70 : decode cX11_init 70 = .ok (.aload_n 0, 1) := by decide +kernel
theorem dX11_init_71 : decode cX11_init 71 = .ok (.new 51, 3) := by decide +kernel
theorem dX11_init_74 : decode cX11_init 74 = .ok (.dup, 1) := by decide +kernel
theorem dX11_init_75 : decode cX11_init 75 = .ok (.invokespecial 53, 3) := by decide +kernel
theorem dX11_init_78 : decode cX11_init 78 = .ok (.putfield 54, 3) := by decide +kernel
theorem dX11_init_81 : decode cX11_init 81 = .ok (.aload_n 0, 1) := by decide +kernel
theorem dX11_init_82 : decode cX11_init 82 = .ok (.new 58, 3) := by decide +kernel
theorem dX11_init_85 : decode cX11_init 85 = .ok (.dup, 1) := by decide +kernel
theorem dX11_init_86 : decode cX11_init 86 = .ok (.invokespecial 60, 3) := by decide +kernel
theorem dX11_init_89 : decode cX11_init 89 = .ok (.putfield 61, 3) := by decide +kernel
theorem dX11_init_92 : decode cX11_init 92 = .ok (.aload_n 0, 1) := by decide +kernel
theorem dX11_init_93 : decode cX11_init 93 = .ok (.new 65, 3) := by decide +kernel
theorem dX11_init_96 : decode cX11_init 96 = .ok (.dup, 1) := by decide +kernel
theorem dX11_init_97 : decode cX11_init 97 = .ok (.invokespecial 67, 3) := by decide +kernel
theorem dX11_init_100 : decode cX11_init 100 = .ok (.putfield 68, 3) := by decide +kernel
theorem dX11_init_103 : decode cX11_init 103 = .ok (.aload_n 0, 1) := by decide +kernel
theorem dX11_init_104 : decode cX11_init 104 = .ok (.new 72, 3) := by decide +kernel
theorem dX11_init_107 : decode cX11_init 107 = .ok (.dup, 1) := by decide +kernel
theorem dX11_init_108 : decode cX11_init 108 = .ok (.aload_n 0, 1) := by decide +kernel
theorem dX11_init_109 : decode cX11_init 109 = .ok (.getfield 68, 3) := by decide +kernel
theorem dX11_init_112 : decode cX11_init 112 = .ok (.invokespecial 74, 3) := by decide +kernel
theorem dX11_init_115 : decode cX11_init 115 = .ok (.putfield 77, 3) := by decide +kernel
theorem dX11_init_118 : decode cX11_init 118 = .ok (.aload_n 0, 1) := by decide +kernel
theorem dX11_init_119 : decode cX11_init 119 = .ok (.bipush 6, 2) := by decide +kernel
theorem dX11_init_121 : decode cX11_init 121 = .ok (.newarray .int, 2) := by decide +kernel
theorem dX11_init_123 : decode cX11_init 123 = .ok (.putfield 81, 3) := by decide +kernel
theorem dX11_init_126 : decode cX11_init 126 = .ok (.aload_n 0, 1) := by decide +kernel
theorem dX11_init_127 : decode cX11_init 127 = .ok (.new 85, 3) := by decide +kernel
theorem dX11_init_130 : decode cX11_init 130 = .ok (.dup, 1) := by decide +kernel
theorem dX11_init_131 : decode cX11_init 131 = .ok (.invokespecial 87, 3) := by decide +kernel
theorem dX11_init_134 : decode cX11_init 134 = .ok (.putfield 88, 3) := by decide +kernel
theorem dX11_init_137 : decode cX11_init 137 = .ok (.aload_n 0, 1) := by decide +kernel
theorem dX11_init_138 : decode cX11_init 138 = .ok (.new 85, 3) := by decide +kernel
theorem dX11_init_141 : decode cX11_init 141 = .ok (.dup, 1) := by decide +kernel
theorem dX11_init_142 : decode cX11_init 142 = .ok (.invokespecial 87, 3) := by decide +kernel
theorem dX11_init_145 : decode cX11_init 145 = .ok (.putfield 92, 3) := by decide +kernel
theorem dX11_init_148 : decode cX11_init 148 = .ok (.aload_n 0, 1) := by decide +kernel
theorem dX11_init_149 : decode cX11_init 149 = .ok (.iconst (-1), 1) := by decide +kernel
theorem dX11_init_150 : decode cX11_init 150 = .ok (.putfield 95, 3) := by decide +kernel
theorem dX11_init_153 : decode cX11_init 153 = .ok (.return_, 1) := by decide +kernel

theorem dX11_isMember_0 : decode cX11_isMember 0 = .ok (.iload_n 0, 1) := by decide +kernel
theorem dX11_isMember_1 : decode cX11_isMember 1 = .ok (.iconst 0, 1) := by decide +kernel
theorem dX11_isMember_2 : decode cX11_isMember 2 = .ok (.bipush 9, 2) := by decide +kernel
theorem dX11_isMember_4 : decode cX11_isMember 4 = .ok (.invokestatic 103, 3) := by decide +kernel
theorem dX11_isMember_7 : decode cX11_isMember 7 = .ok (.ireturn, 1) := by decide +kernel

theorem dX11_isWeather_0 : decode cX11_isWeather 0 = .ok (.iload_n 0, 1) := by decide +kernel
theorem dX11_isWeather_1 : decode cX11_isWeather 1 = .ok (.bipush (-30), 2) := by decide +kernel
theorem dX11_isWeather_3 : decode cX11_isWeather 3 = .ok (.bipush 30, 2) := by decide +kernel
theorem dX11_isWeather_5 : decode cX11_isWeather 5 = .ok (.invokestatic 103, 3) := by decide +kernel
theorem dX11_isWeather_8 : decode cX11_isWeather 8 = .ok (.ifCond .eq 23, 3) := by decide +kernel
theorem dX11_isWeather_11 : decode cX11_isWeather 11 = .ok (.iload_n 1, 1) := by decide +kernel
theorem dX11_isWeather_12 : decode cX11_isWeather 12 = .ok (.bipush (-30), 2) := by decide +kernel
theorem dX11_isWeather_14 : decode cX11_isWeather 14 = .ok (.bipush 40, 2) := by decide +kernel
theorem dX11_isWeather_16 : decode cX11_isWeather 16 = .ok (.invokestatic 103, 3) := by decide +kernel
theorem dX11_isWeather_19 : decode cX11_isWeather 19 = .ok (.ifCond .eq 12, 3) := by decide +kernel
theorem dX11_isWeather_22 : decode cX11_isWeather 22 = .ok (.iload_n 1, 1) := by decide +kernel
theorem dX11_isWeather_23 : decode cX11_isWeather 23 = .ok (.iload_n 0, 1) := by decide +kernel
theorem dX11_isWeather_24 : decode cX11_isWeather 24 = .ok (.if_icmp .lt 7, 3) := by decide +kernel
theorem dX11_isWeather_27 : decode cX11_isWeather 27 = .ok (.iconst 1, 1) := by decide +kernel
theorem dX11_isWeather_28 : decode cX11_isWeather 28 = .ok (.goto 4, 3) := by decide +kernel
theorem dX11_isWeather_31 : decode cX11_isWeather 31 = .ok (.iconst 0, 1) := by decide +kernel
theorem dX11_isWeather_32 : decode cX11_isWeather 32 = .ok (.ireturn, 1) := by decide +kernel

theorem dX11_isWithin_0 : decode cX11_isWithin 0 = .ok (.iload_n 0, 1) := by decide +kernel
theorem dX11_isWithin_1 : decode cX11_isWithin 1 = .ok (.iload_n 1, 1) := by decide +kernel
theorem dX11_isWithin_2 : decode cX11_isWithin 2 = .ok (.if_icmp .lt 12, 3) := by decide +kernel
theorem dX11_isWithin_5 : decode cX11_isWithin 5 = .ok (.iload_n 0, 1) := by decide +kernel
theorem dX11_isWithin_6 : decode cX11_isWithin 6 = .ok (.iload_n 2, 1) := by decide +kernel
theorem dX11_isWithin_7 : decode cX11_isWithin 7 = .ok (.if_icmp .gt 7, 3) := by decide +kernel
theorem dX11_isWithin_10 : decode cX11_isWithin 10 = .ok (.iconst 1, 1) := by decide +kernel
theorem dX11_isWithin_11 : decode cX11_isWithin 11 = .ok (.goto 4, 3) := by decide +kernel
theorem dX11_isWithin_14 : decode cX11_isWithin 14 = .ok (.iconst 0, 1) := by decide +kernel
theorem dX11_isWithin_15 : decode cX11_isWithin 15 = .ok (.ireturn, 1) := by decide +kernel

theorem dX11_leak_0 : decode cX11_leak 0 = .ok (.aload_n 0, 1) := by decide +kernel
theorem dX11_leak_1 : decode cX11_leak 1 = .ok (.getfield 10, 3) := by decide +kernel
theorem dX11_leak_4 : decode cX11_leak 4 = .ok (.iload_n 1, 1) := by decide +kernel
theorem dX11_leak_5 : decode cX11_leak 5 = .ok (.invokevirtual 114, 3) := by decide +kernel
theorem dX11_leak_8 : decode cX11_leak 8 = .ok (.ifCond .eq 13, 3) := by decide +kernel
theorem dX11_leak_11 : decode cX11_leak 11 = .ok (.iload_n 2, 1) := by decide +kernel
theorem dX11_leak_12 : decode cX11_leak 12 = .ok (.iconst 0, 1) := by decide +kernel
theorem dX11_leak_13 : decode cX11_leak 13 = .ok (.bipush 20, 2) := by decide +kernel
theorem dX11_leak_15 : decode cX11_leak 15 = .ok (.invokestatic 103, 3) := by decide +kernel
theorem dX11_leak_18 : decode cX11_leak 18 = .ok (.ifCond .ne 5, 3) := by decide +kernel
theorem dX11_leak_21 : decode cX11_leak 21 = .ok (.iconst 0, 1) := by decide +kernel
theorem dX11_leak_22 : decode cX11_leak 22 = .ok (.ireturn, 1) := by decide +kernel
theorem dX11_leak_23 : decode cX11_leak 23 = .ok (.aload_n 0, 1) := by decide +kernel
theorem dX11_leak_24 : decode cX11_leak 24 = .ok (.getfield 10, 3) := by decide +kernel
theorem dX11_leak_27 : decode cX11_leak 27 = .ok (.iload_n 1, 1) := by decide +kernel
theorem dX11_leak_28 : decode cX11_leak 28 = .ok (.iload_n 2, 1) := by decide +kernel
theorem dX11_leak_29 : decode cX11_leak 29 = .ok (.invokevirtual 140, 3) := by decide +kernel
theorem dX11_leak_32 : decode cX11_leak 32 = .ok (.iconst 1, 1) := by decide +kernel
theorem dX11_leak_33 : decode cX11_leak 33 = .ok (.ireturn, 1) := by decide +kernel

theorem dX11_let_0 : decode cX11_let 0 = .ok (.iload_n 1, 1) := by decide +kernel
theorem dX11_let_1 : decode cX11_let 1 = .ok (.iconst 1, 1) := by decide +kernel
theorem dX11_let_2 : decode cX11_let 2 = .ok (.sipush 5000, 3) := by decide +kernel
theorem dX11_let_5 : decode cX11_let 5 = .ok (.invokestatic 103, 3) := by decide +kernel
theorem dX11_let_8 : decode cX11_let 8 = .ok (.ifCond .eq 22, 3) := by decide +kernel
theorem dX11_let_11 : decode cX11_let 11 = .ok (.iload_n 1, 1) := by decide +kernel
theorem dX11_let_12 : decode cX11_let 12 = .ok (.sipush 5000, 3) := by decide +kernel
theorem dX11_let_15 : decode cX11_let 15 = .ok (.aload_n 0, 1) := by decide +kernel
theorem dX11_let_16 : decode cX11_let 16 = .ok (.getfield 47, 3) := by decide +kernel
theorem dX11_let_19 : decode cX11_let 19 = .ok (.getfield 213, 3) := by decide +kernel
theorem dX11_let_22 : decode cX11_let 22 = .ok (.isub, 1) := by decide +kernel
theorem dX11_let_23 : decode cX11_let 23 = .ok (.if_icmp .gt 7, 3) := by decide +kernel
theorem dX11_let_26 : decode cX11_let 26 = .ok (.iconst 1, 1) := by decide +kernel
theorem dX11_let_27 : decode cX11_let 27 = .ok (.goto 4, 3) := by decide +kernel
theorem dX11_let_30 : decode cX11_let 30 = .ok (.iconst 0, 1) := by decide +kernel
theorem dX11_let_31 : decode cX11_let 31 = .ok (.istore_n 2, 1) := by decide +kernel
theorem dX11_let_32 : decode cX11_let 32 = .ok (.iload_n 2, 1) := by decide +kernel
theorem dX11_let_33 : decode cX11_let 33 = .ok (.ifCond .eq 14, 3) := by decide +kernel
theorem dX11_let_36 : decode cX11_let 36 = .ok (.aload_n 0, 1) := by decide +kernel
theorem dX11_let_37 : decode cX11_let 37 = .ok (.getfield 40, 3) := by decide +kernel
theorem dX11_let_40 : decode cX11_let 40 = .ok (.iload_n 1, 1) := by decide +kernel
theorem dX11_let_41 : decode cX11_let 41 = .ok (.invokevirtual 216, 3) := by decide +kernel
theorem dX11_let_44 : decode cX11_let 44 = .ok (.ifCond .ne 5, 3) := by decide +kernel
theorem dX11_let_47 : decode cX11_let 47 = .ok (.iconst (-1), 1) := by decide +kernel
theorem dX11_let_48 : decode cX11_let 48 = .ok (.ireturn, 1) := by decide +kernel
theorem dX11_let_49 : decode cX11_let 49 = .ok (.aload_n 0, 1) := by decide +kernel
theorem dX11_let_50 : decode cX11_let 50 = .ok (.getfield 47, 3) := by decide +kernel
theorem dX11_let_53 : decode cX11_let 53 = .ok (.iload_n 1, 1) := by decide +kernel
theorem dX11_let_54 : decode cX11_let 54 = .ok (.invokevirtual 219, 3) := by decide +kernel
theorem dX11_let_57 : decode cX11_let 57 = .ok (.aload_n 0, 1) := by decide +kernel
theorem dX11_let_58 : decode cX11_let 58 = .ok (.getfield 47, 3) := by decide +kernel
theorem dX11_let_61 : decode cX11_let 61 = .ok (.getfield 213, 3) := by decide +kernel
theorem dX11_let_64 : decode cX11_let 64 = .ok (.ireturn, 1) := by decide +kernel

theorem dX11_look_0 : decode cX11_look 0 = .ok (.aload_n 0, 1) := by decide +kernel
theorem dX11_look_1 : decode cX11_look 1 = .ok (.getfield 54, 3) := by decide +kernel
theorem dX11_look_4 : decode cX11_look 4 = .ok (.iload_n 1, 1) := by decide +kernel
theorem dX11_look_5 : decode cX11_look 5 = .ok (.invokevirtual 230, 3) := by decide +kernel
theorem dX11_look_8 : decode cX11_look 8 = .ok (.ifCond .eq 26, 3) := by decide +kernel
theorem dX11_look_11 : decode cX11_look 11 = .ok (.iload_n 2, 1) := by decide +kernel
theorem dX11_look_12 : decode cX11_look 12 = .ok (.iconst 0, 1) := by decide +kernel
theorem dX11_look_13 : decode cX11_look 13 = .ok (.iconst 1, 1) := by decide +kernel
theorem dX11_look_14 : decode cX11_look 14 = .ok (.invokestatic 103, 3) := by decide +kernel
theorem dX11_look_17 : decode cX11_look 17 = .ok (.ifCond .eq 17, 3) := by decide +kernel
theorem dX11_look_20 : decode cX11_look 20 = .ok (.iload_n 3, 1) := by decide +kernel
theorem dX11_look_21 : decode cX11_look 21 = .ok (.iconst 0, 1) := by decide +kernel
theorem dX11_look_22 : decode cX11_look 22 = .ok (.bipush 100, 2) := by decide +kernel
theorem dX11_look_24 : decode cX11_look 24 = .ok (.invokestatic 103, 3) := by decide +kernel
theorem dX11_look_27 : decode cX11_look 27 = .ok (.ifCond .eq 7, 3) := by decide +kernel
theorem dX11_look_30 : decode cX11_look 30 = .ok (.iconst 1, 1) := by decide +kernel
theorem dX11_look_31 : decode cX11_look 31 = .ok (.goto 4, 3) := by decide +kernel
theorem dX11_look_34 : decode cX11_look 34 = .ok (.iconst 0, 1) := by decide +kernel
theorem dX11_look_35 : decode cX11_look 35 = .ok (.istore 4, 2) := by decide +kernel
theorem dX11_look_37 : decode cX11_look 37 = .ok (.iload 4, 2) := by decide +kernel
theorem dX11_look_39 : decode cX11_look 39 = .ok (.ifCond .eq 20, 3) := by decide +kernel
theorem dX11_look_42 : decode cX11_look 42 = .ok (.aload_n 0, 1) := by decide +kernel
theorem dX11_look_43 : decode cX11_look 43 = .ok (.getfield 54, 3) := by decide +kernel
theorem dX11_look_46 : decode cX11_look 46 = .ok (.iload_n 1, 1) := by decide +kernel
theorem dX11_look_47 : decode cX11_look 47 = .ok (.iload_n 2, 1) := by decide +kernel
theorem dX11_look_48 : decode cX11_look 48 = .ok (.iload_n 3, 1) := by decide +kernel
theorem dX11_look_49 : decode cX11_look 49 = .ok (.invokevirtual 231, 3) := by decide +kernel
theorem dX11_look_52 : decode cX11_look 52 = .ok (.ifCond .eq 7, 3) := by decide +kernel
theorem dX11_look_55 : decode cX11_look 55 = .ok (.iconst 1, 1) := by decide +kernel
theorem dX11_look_56 : decode cX11_look 56 = .ok (.goto 4, 3) := by decide +kernel
theorem dX11_look_59 : decode cX11_look 59 = .ok (.iconst 0, 1) := by decide +kernel
theorem dX11_look_60 : decode cX11_look 60 = .ok (.ireturn, 1) := by decide +kernel

theorem dX11_member_0 : decode cX11_member 0 = .ok (.iload_n 1, 1) := by decide +kernel
theorem dX11_member_1 : decode cX11_member 1 = .ok (.invokestatic 107, 3) := by decide +kernel
theorem dX11_member_4 : decode cX11_member 4 = .ok (.ifCond .eq 15, 3) := by decide +kernel
theorem dX11_member_7 : decode cX11_member 7 = .ok (.aload_n 0, 1) := by decide +kernel
theorem dX11_member_8 : decode cX11_member 8 = .ok (.getfield 61, 3) := by decide +kernel
theorem dX11_member_11 : decode cX11_member 11 = .ok (.iload_n 1, 1) := by decide +kernel
theorem dX11_member_12 : decode cX11_member 12 = .ok (.iload_n 2, 1) := by decide +kernel
theorem dX11_member_13 : decode cX11_member 13 = .ok (.invokevirtual 249, 3) := by decide +kernel
theorem dX11_member_16 : decode cX11_member 16 = .ok (.goto 4, 3) := by decide +kernel
theorem dX11_member_19 : decode cX11_member 19 = .ok (.iconst (-1), 1) := by decide +kernel
theorem dX11_member_20 : decode cX11_member 20 = .ok (.ireturn, 1) := by decide +kernel

theorem dX11_node_0 : decode cX11_node 0 = .ok (.aload_n 0, 1) := by decide +kernel
theorem dX11_node_1 : decode cX11_node 1 = .ok (.getfield 10, 3) := by decide +kernel
theorem dX11_node_4 : decode cX11_node 4 = .ok (.iload_n 1, 1) := by decide +kernel
theorem dX11_node_5 : decode cX11_node 5 = .ok (.invokevirtual 99, 3) := by decide +kernel
theorem dX11_node_8 : decode cX11_node 8 = .ok (.ifCond .eq 36, 3) := by decide +kernel
theorem dX11_node_11 : decode cX11_node 11 = .ok (.iload_n 2, 1) := by decide +kernel
theorem dX11_node_12 : decode cX11_node 12 = .ok (.iconst 1, 1) := by decide +kernel
theorem dX11_node_13 : decode cX11_node 13 = .ok (.bipush 100, 2) := by decide +kernel
theorem dX11_node_15 : decode cX11_node 15 = .ok (.invokestatic 103, 3) := by decide +kernel
theorem dX11_node_18 : decode cX11_node 18 = .ok (.ifCond .eq 26, 3) := by decide +kernel
theorem dX11_node_21 : decode cX11_node 21 = .ok (.iload_n 3, 1) := by decide +kernel
theorem dX11_node_22 : decode cX11_node 22 = .ok (.iconst 0, 1) := by decide +kernel
theorem dX11_node_23 : decode cX11_node 23 = .ok (.sipush 500, 3) := by decide +kernel
theorem dX11_node_26 : decode cX11_node 26 = .ok (.invokestatic 103, 3) := by decide +kernel
theorem dX11_node_29 : decode cX11_node 29 = .ok (.ifCond .eq 15, 3) := by decide +kernel
theorem dX11_node_32 : decode cX11_node 32 = .ok (.iload 4, 2) := by decide +kernel
theorem dX11_node_34 : decode cX11_node 34 = .ok (.invokestatic 107, 3) := by decide +kernel
theorem dX11_node_37 : decode cX11_node 37 = .ok (.ifCond .eq 7, 3) := by decide +kernel
theorem dX11_node_40 : decode cX11_node 40 = .ok (.iconst 1, 1) := by decide +kernel
theorem dX11_node_41 : decode cX11_node 41 = .ok (.goto 4, 3) := by decide +kernel
theorem dX11_node_44 : decode cX11_node 44 = .ok (.iconst 0, 1) := by decide +kernel
theorem dX11_node_45 : decode cX11_node 45 = .ok (.istore 5, 2) := by decide +kernel
theorem dX11_node_47 : decode cX11_node 47 = .ok (.iload 5, 2) := by decide +kernel
theorem dX11_node_49 : decode cX11_node 49 = .ok (.ifCond .eq 18, 3) := by decide +kernel
theorem dX11_node_52 : decode cX11_node 52 = .ok (.aload_n 0, 1) := by decide +kernel
theorem dX11_node_53 : decode cX11_node 53 = .ok (.getfield 10, 3) := by decide +kernel
theorem dX11_node_56 : decode cX11_node 56 = .ok (.iload_n 1, 1) := by decide +kernel
theorem dX11_node_57 : decode cX11_node 57 = .ok (.iload_n 2, 1) := by decide +kernel
theorem dX11_node_58 : decode cX11_node 58 = .ok (.iload_n 3, 1) := by decide +kernel
theorem dX11_node_59 : decode cX11_node 59 = .ok (.iload 4, 2) := by decide +kernel
theorem dX11_node_61 : decode cX11_node 61 = .ok (.invokevirtual 110, 3) := by decide +kernel
theorem dX11_node_64 : decode cX11_node 64 = .ok (.goto 4, 3) := by decide +kernel
theorem dX11_node_67 : decode cX11_node 67 = .ok (.iconst (-1), 1) := by decide +kernel
theorem dX11_node_68 : decode cX11_node 68 = .ok (.ireturn, 1) := by decide +kernel

theorem dX11_nodeOf_0 : decode cX11_nodeOf 0 = .ok (.aload_n 0, 1) := by decide +kernel
theorem dX11_nodeOf_1 : decode cX11_nodeOf 1 = .ok (.getfield 10, 3) := by decide +kernel
theorem dX11_nodeOf_4 : decode cX11_nodeOf 4 = .ok (.iload_n 1, 1) := by decide +kernel
theorem dX11_nodeOf_5 : decode cX11_nodeOf 5 = .ok (.invokevirtual 99, 3) := by decide +kernel
theorem dX11_nodeOf_8 : decode cX11_nodeOf 8 = .ok (.ifCond .ne 5, 3) := by decide +kernel
theorem dX11_nodeOf_11 : decode cX11_nodeOf 11 = .ok (.iconst (-1), 1) := by decide +kernel
theorem dX11_nodeOf_12 : decode cX11_nodeOf 12 = .ok (.ireturn, 1) := by decide +kernel
theorem dX11_nodeOf_13 : decode cX11_nodeOf 13 = .ok (.iload_n 2, 1) := by decide +kernel
theorem dX11_nodeOf_14 : decode cX11_nodeOf 14 = .ok (.bipush 6, 2) := by decide +kernel
theorem dX11_nodeOf_16 : decode cX11_nodeOf 16 = .ok (.if_icmp .ne 14, 3) := by decide +kernel
theorem dX11_nodeOf_19 : decode cX11_nodeOf 19 = .ok (.aload_n 0, 1) := by decide +kernel
theorem dX11_nodeOf_20 : decode cX11_nodeOf 20 = .ok (.getfield 19, 3) := by decide +kernel
theorem dX11_nodeOf_23 : decode cX11_nodeOf 23 = .ok (.iload_n 1, 1) := by decide +kernel
theorem dX11_nodeOf_24 : decode cX11_nodeOf 24 = .ok (.invokevirtual 151, 3) := by decide +kernel
theorem dX11_nodeOf_27 : decode cX11_nodeOf 27 = .ok (.goto 12, 3) := by decide +kernel
theorem dX11_nodeOf_30 : decode cX11_nodeOf 30 = .ok (.aload_n 0, 1) := by decide +kernel
theorem dX11_nodeOf_31 : decode cX11_nodeOf 31 = .ok (.getfield 10, 3) := by decide +kernel
theorem dX11_nodeOf_34 : decode cX11_nodeOf 34 = .ok (.iload_n 1, 1) := by decide +kernel
theorem dX11_nodeOf_35 : decode cX11_nodeOf 35 = .ok (.iload_n 2, 1) := by decide +kernel
theorem dX11_nodeOf_36 : decode cX11_nodeOf 36 = .ok (.invokevirtual 154, 3) := by decide +kernel
theorem dX11_nodeOf_39 : decode cX11_nodeOf 39 = .ok (.ireturn, 1) := by decide +kernel

theorem dX11_pan_0 : decode cX11_pan 0 = .ok (.aload_n 0, 1) := by decide +kernel
theorem dX11_pan_1 : decode cX11_pan 1 = .ok (.getfield 47, 3) := by decide +kernel
theorem dX11_pan_4 : decode cX11_pan 4 = .ok (.iload_n 1, 1) := by decide +kernel
theorem dX11_pan_5 : decode cX11_pan 5 = .ok (.invokevirtual 228, 3) := by decide +kernel
theorem dX11_pan_8 : decode cX11_pan 8 = .ok (.ireturn, 1) := by decide +kernel

theorem dX11_pump_0 : decode cX11_pump 0 = .ok (.iload_n 1, 1) := by decide +kernel
theorem dX11_pump_1 : decode cX11_pump 1 = .ok (.iconst 0, 1) := by decide +kernel
theorem dX11_pump_2 : decode cX11_pump 2 = .ok (.bipush 100, 2) := by decide +kernel
theorem dX11_pump_4 : decode cX11_pump 4 = .ok (.invokestatic 103, 3) := by decide +kernel
theorem dX11_pump_7 : decode cX11_pump 7 = .ok (.ifCond .ne 5, 3) := by decide +kernel
theorem dX11_pump_10 : decode cX11_pump 10 = .ok (.iconst 0, 1) := by decide +kernel
theorem dX11_pump_11 : decode cX11_pump 11 = .ok (.ireturn, 1) := by decide +kernel
theorem dX11_pump_12 : decode cX11_pump 12 = .ok (.aload_n 0, 1) := by decide +kernel
theorem dX11_pump_13 : decode cX11_pump 13 = .ok (.getfield 10, 3) := by decide +kernel
theorem dX11_pump_16 : decode cX11_pump 16 = .ok (.iload_n 1, 1) := by decide +kernel
theorem dX11_pump_17 : decode cX11_pump 17 = .ok (.invokevirtual 144, 3) := by decide +kernel
theorem dX11_pump_20 : decode cX11_pump 20 = .ok (.iconst 1, 1) := by decide +kernel
theorem dX11_pump_21 : decode cX11_pump 21 = .ok (.ireturn, 1) := by decide +kernel

theorem dX11_rules_0 : decode cX11_rules 0 = .ok (.iload_n 1, 1) := by decide +kernel
theorem dX11_rules_1 : decode cX11_rules 1 = .ok (.iconst 0, 1) := by decide +kernel
theorem dX11_rules_2 : decode cX11_rules 2 = .ok (.aload_n 0, 1) := by decide +kernel
theorem dX11_rules_3 : decode cX11_rules 3 = .ok (.getfield 68, 3) := by decide +kernel
theorem dX11_rules_6 : decode cX11_rules 6 = .ok (.getfield 256, 3) := by decide +kernel
theorem dX11_rules_9 : decode cX11_rules 9 = .ok (.invokestatic 103, 3) := by decide +kernel
theorem dX11_rules_12 : decode cX11_rules 12 = .ok (.ifCond .ne 6, 3) := by decide +kernel
theorem dX11_rules_15 : decode cX11_rules 15 = .ok (.bipush (-2), 2) := by decide +kernel
theorem dX11_rules_17 : decode cX11_rules 17 = .ok (.ireturn, 1) := by decide +kernel
theorem dX11_rules_18 : decode cX11_rules 18 = .ok (.aload_n 0, 1) := by decide +kernel
theorem dX11_rules_19 : decode cX11_rules 19 = .ok (.aload_n 0, 1) := by decide +kernel
theorem dX11_rules_20 : decode cX11_rules 20 = .ok (.getfield 77, 3) := by decide +kernel
theorem dX11_rules_23 : decode cX11_rules 23 = .ok (.iload_n 1, 1) := by decide +kernel
theorem dX11_rules_24 : decode cX11_rules 24 = .ok (.aload_n 0, 1) := by decide +kernel
theorem dX11_rules_25 : decode cX11_rules 25 = .ok (.getfield 92, 3) := by decide +kernel
theorem dX11_rules_28 : decode cX11_rules 28 = .ok (.invokevirtual 259, 3) := by decide +kernel
theorem dX11_rules_31 : decode cX11_rules 31 = .ok (.ifCond .eq 7, 3) := by decide +kernel
theorem dX11_rules_34 : decode cX11_rules 34 = .ok (.iconst (-1), 1) := by decide +kernel
theorem dX11_rules_35 : decode cX11_rules 35 = .ok (.goto 10, 3) := by decide +kernel
theorem dX11_rules_38 : decode cX11_rules 38 = .ok (.aload_n 0, 1) := by decide +kernel
theorem dX11_rules_39 : decode cX11_rules 39 = .ok (.getfield 77, 3) := by decide +kernel
theorem dX11_rules_42 : decode cX11_rules 42 = .ok (.invokevirtual 263, 3) := by decide +kernel
theorem dX11_rules_45 : decode cX11_rules 45 = .ok (.putfield 95, 3) := by decide +kernel
theorem dX11_rules_48 : decode cX11_rules 48 = .ok (.aload_n 0, 1) := by decide +kernel
theorem dX11_rules_49 : decode cX11_rules 49 = .ok (.getfield 68, 3) := by decide +kernel
theorem dX11_rules_52 : decode cX11_rules 52 = .ok (.invokevirtual 266, 3) := by decide +kernel
theorem dX11_rules_55 : decode cX11_rules 55 = .ok (.aload_n 0, 1) := by decide +kernel
theorem dX11_rules_56 : decode cX11_rules 56 = .ok (.getfield 95, 3) := by decide +kernel
theorem dX11_rules_59 : decode cX11_rules 59 = .ok (.iconst (-1), 1) := by decide +kernel
theorem dX11_rules_60 : decode cX11_rules 60 = .ok (.if_icmp .eq 5, 3) := by decide +kernel
theorem dX11_rules_63 : decode cX11_rules 63 = .ok (.iconst (-1), 1) := by decide +kernel
theorem dX11_rules_64 : decode cX11_rules 64 = .ok (.ireturn, 1) := by decide +kernel
theorem dX11_rules_65 : decode cX11_rules 65 = .ok (.aload_n 0, 1) := by decide +kernel
theorem dX11_rules_66 : decode cX11_rules 66 = .ok (.getfield 88, 3) := by decide +kernel
theorem dX11_rules_69 : decode cX11_rules 69 = .ok (.astore_n 2, 1) := by decide +kernel
theorem dX11_rules_70 : decode cX11_rules 70 = .ok (.aload_n 0, 1) := by decide +kernel
theorem dX11_rules_71 : decode cX11_rules 71 = .ok (.aload_n 0, 1) := by decide +kernel
theorem dX11_rules_72 : decode cX11_rules 72 = .ok (.getfield 92, 3) := by decide +kernel
theorem dX11_rules_75 : decode cX11_rules 75 = .ok (.putfield 88, 3) := by decide +kernel
theorem dX11_rules_78 : decode cX11_rules 78 = .ok (.aload_n 0, 1) := by decide +kernel
theorem dX11_rules_79 : decode cX11_rules 79 = .ok (.aload_n 2, 1) := by decide +kernel
theorem dX11_rules_80 : decode cX11_rules 80 = .ok (.putfield 92, 3) := by decide +kernel
theorem dX11_rules_83 : decode cX11_rules 83 = .ok (.aload_n 0, 1) := by decide +kernel
theorem dX11_rules_84 : decode cX11_rules 84 = .ok (.getfield 88, 3) := by decide +kernel
theorem dX11_rules_87 : decode cX11_rules 87 = .ok (.getfield 269, 3) := by decide +kernel
theorem dX11_rules_90 : decode cX11_rules 90 = .ok (.ireturn, 1) := by decide +kernel

theorem dX11_sell_0 : decode cX11_sell 0 = .ok (.iload_n 1, 1) := by decide +kernel
theorem dX11_sell_1 : decode cX11_sell 1 = .ok (.iconst 0, 1) := by decide +kernel
theorem dX11_sell_2 : decode cX11_sell 2 = .ok (.iconst 4, 1) := by decide +kernel
theorem dX11_sell_3 : decode cX11_sell 3 = .ok (.invokestatic 103, 3) := by decide +kernel
theorem dX11_sell_6 : decode cX11_sell 6 = .ok (.ifCond .eq 13, 3) := by decide +kernel
theorem dX11_sell_9 : decode cX11_sell 9 = .ok (.iload_n 2, 1) := by decide +kernel
theorem dX11_sell_10 : decode cX11_sell 10 = .ok (.iconst 0, 1) := by decide +kernel
theorem dX11_sell_11 : decode cX11_sell 11 = .ok (.ldc 238, 2) := by decide +kernel
theorem dX11_sell_13 : decode cX11_sell 13 = .ok (.invokestatic 103, 3) := by decide +kernel
theorem dX11_sell_16 : decode cX11_sell 16 = .ok (.ifCond .ne 5, 3) := by decide +kernel
theorem dX11_sell_19 : decode cX11_sell 19 = .ok (.iconst (-1), 1) := by decide +kernel
theorem dX11_sell_20 : decode cX11_sell 20 = .ok (.ireturn, 1) := by decide +kernel
theorem dX11_sell_21 : decode cX11_sell 21 = .ok (.aload_n 0, 1) := by decide +kernel
theorem dX11_sell_22 : decode cX11_sell 22 = .ok (.getfield 61, 3) := by decide +kernel
theorem dX11_sell_25 : decode cX11_sell 25 = .ok (.invokevirtual 239, 3) := by decide +kernel
theorem dX11_sell_28 : decode cX11_sell 28 = .ok (.ifCond .ne 5, 3) := by decide +kernel
theorem dX11_sell_31 : decode cX11_sell 31 = .ok (.iconst (-1), 1) := by decide +kernel
theorem dX11_sell_32 : decode cX11_sell 32 = .ok (.ireturn, 1) := by decide +kernel
theorem dX11_sell_33 : decode cX11_sell 33 = .ok (.aload_n 0, 1) := by decide +kernel
theorem dX11_sell_34 : decode cX11_sell 34 = .ok (.iload_n 1, 1) := by decide +kernel
theorem dX11_sell_35 : decode cX11_sell 35 = .ok (.invokevirtual 243, 3) := by decide +kernel
theorem dX11_sell_38 : decode cX11_sell 38 = .ok (.istore_n 3, 1) := by decide +kernel
theorem dX11_sell_39 : decode cX11_sell 39 = .ok (.iload_n 3, 1) := by decide +kernel
theorem dX11_sell_40 : decode cX11_sell 40 = .ok (.ifCond .ne 5, 3) := by decide +kernel
theorem dX11_sell_43 : decode cX11_sell 43 = .ok (.iconst (-1), 1) := by decide +kernel
theorem dX11_sell_44 : decode cX11_sell 44 = .ok (.ireturn, 1) := by decide +kernel
theorem dX11_sell_45 : decode cX11_sell 45 = .ok (.aload_n 0, 1) := by decide +kernel
theorem dX11_sell_46 : decode cX11_sell 46 = .ok (.getfield 61, 3) := by decide +kernel
theorem dX11_sell_49 : decode cX11_sell 49 = .ok (.iload_n 2, 1) := by decide +kernel
theorem dX11_sell_50 : decode cX11_sell 50 = .ok (.invokevirtual 246, 3) := by decide +kernel
theorem dX11_sell_53 : decode cX11_sell 53 = .ok (.iload_n 3, 1) := by decide +kernel
theorem dX11_sell_54 : decode cX11_sell 54 = .ok (.ireturn, 1) := by decide +kernel

theorem dX11_tap_0 : decode cX11_tap 0 = .ok (.aload_n 0, 1) := by decide +kernel
theorem dX11_tap_1 : decode cX11_tap 1 = .ok (.getfield 19, 3) := by decide +kernel
theorem dX11_tap_4 : decode cX11_tap 4 = .ok (.iload_n 1, 1) := by decide +kernel
theorem dX11_tap_5 : decode cX11_tap 5 = .ok (.invokevirtual 120, 3) := by decide +kernel
theorem dX11_tap_8 : decode cX11_tap 8 = .ok (.ifCond .eq 14, 3) := by decide +kernel
theorem dX11_tap_11 : decode cX11_tap 11 = .ok (.iload_n 2, 1) := by decide +kernel
theorem dX11_tap_12 : decode cX11_tap 12 = .ok (.iconst 0, 1) := by decide +kernel
theorem dX11_tap_13 : decode cX11_tap 13 = .ok (.sipush 359, 3) := by decide +kernel
theorem dX11_tap_16 : decode cX11_tap 16 = .ok (.invokestatic 103, 3) := by decide +kernel
theorem dX11_tap_19 : decode cX11_tap 19 = .ok (.ifCond .ne 6, 3) := by decide +kernel
theorem dX11_tap_22 : decode cX11_tap 22 = .ok (.bipush (-2), 2) := by decide +kernel
theorem dX11_tap_24 : decode cX11_tap 24 = .ok (.ireturn, 1) := by decide +kernel
theorem dX11_tap_25 : decode cX11_tap 25 = .ok (.aload_n 0, 1) := by decide +kernel
theorem dX11_tap_26 : decode cX11_tap 26 = .ok (.getfield 19, 3) := by decide +kernel
theorem dX11_tap_29 : decode cX11_tap 29 = .ok (.iload_n 1, 1) := by decide +kernel
theorem dX11_tap_30 : decode cX11_tap 30 = .ok (.aload_n 0, 1) := by decide +kernel
theorem dX11_tap_31 : decode cX11_tap 31 = .ok (.getfield 26, 3) := by decide +kernel
theorem dX11_tap_34 : decode cX11_tap 34 = .ok (.getfield 121, 3) := by decide +kernel
theorem dX11_tap_37 : decode cX11_tap 37 = .ok (.invokevirtual 124, 3) := by decide +kernel
theorem dX11_tap_40 : decode cX11_tap 40 = .ok (.aload_n 0, 1) := by decide +kernel
theorem dX11_tap_41 : decode cX11_tap 41 = .ok (.getfield 19, 3) := by decide +kernel
theorem dX11_tap_44 : decode cX11_tap 44 = .ok (.iload_n 1, 1) := by decide +kernel
theorem dX11_tap_45 : decode cX11_tap 45 = .ok (.invokevirtual 127, 3) := by decide +kernel
theorem dX11_tap_48 : decode cX11_tap 48 = .ok (.if_icmp .lt 6, 3) := by decide +kernel
theorem dX11_tap_51 : decode cX11_tap 51 = .ok (.bipush (-3), 2) := by decide +kernel
theorem dX11_tap_53 : decode cX11_tap 53 = .ok (.ireturn, 1) := by decide +kernel
theorem dX11_tap_54 : decode cX11_tap 54 = .ok (.aload_n 0, 1) := by decide +kernel
theorem dX11_tap_55 : decode cX11_tap 55 = .ok (.getfield 19, 3) := by decide +kernel
theorem dX11_tap_58 : decode cX11_tap 58 = .ok (.iload_n 1, 1) := by decide +kernel
theorem dX11_tap_59 : decode cX11_tap 59 = .ok (.iload_n 2, 1) := by decide +kernel
theorem dX11_tap_60 : decode cX11_tap 60 = .ok (.aload_n 0, 1) := by decide +kernel
theorem dX11_tap_61 : decode cX11_tap 61 = .ok (.getfield 26, 3) := by decide +kernel
theorem dX11_tap_64 : decode cX11_tap 64 = .ok (.getfield 121, 3) := by decide +kernel
theorem dX11_tap_67 : decode cX11_tap 67 = .ok (.invokevirtual 131, 3) := by decide +kernel
theorem dX11_tap_70 : decode cX11_tap 70 = .ok (.ifCond .eq 6, 3) := by decide +kernel
theorem dX11_tap_73 : decode cX11_tap 73 = .ok (.bipush (-4), 2) := by decide +kernel
theorem dX11_tap_75 : decode cX11_tap 75 = .ok (.ireturn, 1) := by decide +kernel
theorem dX11_tap_76 : decode cX11_tap 76 = .ok (.aload_n 0, 1) := by decide +kernel
theorem dX11_tap_77 : decode cX11_tap 77 = .ok (.getfield 19, 3) := by decide +kernel
theorem dX11_tap_80 : decode cX11_tap 80 = .ok (.iload_n 1, 1) := by decide +kernel
theorem dX11_tap_81 : decode cX11_tap 81 = .ok (.iload_n 2, 1) := by decide +kernel
theorem dX11_tap_82 : decode cX11_tap 82 = .ok (.aload_n 0, 1) := by decide +kernel
theorem dX11_tap_83 : decode cX11_tap 83 = .ok (.getfield 26, 3) := by decide +kernel
theorem dX11_tap_86 : decode cX11_tap 86 = .ok (.getfield 121, 3) := by decide +kernel
theorem dX11_tap_89 : decode cX11_tap 89 = .ok (.invokevirtual 134, 3) := by decide +kernel
theorem dX11_tap_92 : decode cX11_tap 92 = .ok (.ifCond .eq 14, 3) := by decide +kernel
theorem dX11_tap_95 : decode cX11_tap 95 = .ok (.aload_n 0, 1) := by decide +kernel
theorem dX11_tap_96 : decode cX11_tap 96 = .ok (.getfield 19, 3) := by decide +kernel
theorem dX11_tap_99 : decode cX11_tap 99 = .ok (.iload_n 1, 1) := by decide +kernel
theorem dX11_tap_100 : decode cX11_tap 100 = .ok (.invokevirtual 137, 3) := by decide +kernel
theorem dX11_tap_103 : decode cX11_tap 103 = .ok (.goto 5, 3) := by decide +kernel
theorem dX11_tap_106 : decode cX11_tap 106 = .ok (.bipush (-5), 2) := by decide +kernel
theorem dX11_tap_108 : decode cX11_tap 108 = .ok (.ireturn, 1) := by decide +kernel

theorem dX11_thawOf_0 : decode cX11_thawOf 0 = .ok (.iconst 0, 1) := by decide +kernel
theorem dX11_thawOf_1 : decode cX11_thawOf 1 = .ok (.bipush 10, 2) := by decide +kernel
theorem dX11_thawOf_3 : decode cX11_thawOf 3 = .ok (.iload_n 0, 1) := by decide +kernel
theorem dX11_thawOf_4 : decode cX11_thawOf 4 = .ok (.invokestatic 291, 3) := by decide +kernel
theorem dX11_thawOf_7 : decode cX11_thawOf 7 = .ok (.invokestatic 296, 3) := by decide +kernel
theorem dX11_thawOf_10 : decode cX11_thawOf 10 = .ok (.ireturn, 1) := by decide +kernel

theorem dX11_tree_0 : decode cX11_tree 0 = .ok (.aload_n 0, 1) := by decide +kernel
theorem dX11_tree_1 : decode cX11_tree 1 = .ok (.getfield 10, 3) := by decide +kernel
theorem dX11_tree_4 : decode cX11_tree 4 = .ok (.iload_n 1, 1) := by decide +kernel
theorem dX11_tree_5 : decode cX11_tree 5 = .ok (.invokevirtual 114, 3) := by decide +kernel
theorem dX11_tree_8 : decode cX11_tree 8 = .ok (.ifCond .eq 19, 3) := by decide +kernel
theorem dX11_tree_11 : decode cX11_tree 11 = .ok (.iload_n 2, 1) := by decide +kernel
theorem dX11_tree_12 : decode cX11_tree 12 = .ok (.bipush 30, 2) := by decide +kernel
theorem dX11_tree_14 : decode cX11_tree 14 = .ok (.sipush 400, 3) := by decide +kernel
theorem dX11_tree_17 : decode cX11_tree 17 = .ok (.invokestatic 103, 3) := by decide +kernel
theorem dX11_tree_20 : decode cX11_tree 20 = .ok (.ifCond .eq 7, 3) := by decide +kernel
theorem dX11_tree_23 : decode cX11_tree 23 = .ok (.iconst 1, 1) := by decide +kernel
theorem dX11_tree_24 : decode cX11_tree 24 = .ok (.goto 4, 3) := by decide +kernel
theorem dX11_tree_27 : decode cX11_tree 27 = .ok (.iconst 0, 1) := by decide +kernel
theorem dX11_tree_28 : decode cX11_tree 28 = .ok (.istore_n 3, 1) := by decide +kernel
theorem dX11_tree_29 : decode cX11_tree 29 = .ok (.iload_n 3, 1) := by decide +kernel
theorem dX11_tree_30 : decode cX11_tree 30 = .ok (.ifCond .eq 15, 3) := by decide +kernel
theorem dX11_tree_33 : decode cX11_tree 33 = .ok (.aload_n 0, 1) := by decide +kernel
theorem dX11_tree_34 : decode cX11_tree 34 = .ok (.getfield 19, 3) := by decide +kernel
theorem dX11_tree_37 : decode cX11_tree 37 = .ok (.iload_n 1, 1) := by decide +kernel
theorem dX11_tree_38 : decode cX11_tree 38 = .ok (.iload_n 2, 1) := by decide +kernel
theorem dX11_tree_39 : decode cX11_tree 39 = .ok (.invokevirtual 117, 3) := by decide +kernel
theorem dX11_tree_42 : decode cX11_tree 42 = .ok (.goto 4, 3) := by decide +kernel
theorem dX11_tree_45 : decode cX11_tree 45 = .ok (.iconst (-1), 1) := by decide +kernel
theorem dX11_tree_46 : decode cX11_tree 46 = .ok (.ireturn, 1) := by decide +kernel

theorem dX11_treeOf_0 : decode cX11_treeOf 0 = .ok (.aload_n 0, 1) := by decide +kernel
theorem dX11_treeOf_1 : decode cX11_treeOf 1 = .ok (.getfield 19, 3) := by decide +kernel
theorem dX11_treeOf_4 : decode cX11_treeOf 4 = .ok (.iload_n 1, 1) := by decide +kernel
theorem dX11_treeOf_5 : decode cX11_treeOf 5 = .ok (.invokevirtual 120, 3) := by decide +kernel
theorem dX11_treeOf_8 : decode cX11_treeOf 8 = .ok (.ifCond .ne 5, 3) := by decide +kernel
theorem dX11_treeOf_11 : decode cX11_treeOf 11 = .ok (.iconst (-1), 1) := by decide +kernel
theorem dX11_treeOf_12 : decode cX11_treeOf 12 = .ok (.ireturn, 1) := by decide +kernel
theorem dX11_treeOf_13 : decode cX11_treeOf 13 = .ok (.iload_n 2, 1) := by decide +kernel
theorem dX11_treeOf_14 : decode cX11_treeOf 14 = .ok (.tableswitch 137 0 6 #[42, 51, 60, 76, 85, 94, 103], 42) := by decide +kernel
theorem dX11_treeOf_56 : decode cX11_treeOf 56 = .ok (.aload_n 0, 1) := by decide +kernel
theorem dX11_treeOf_57 : decode cX11_treeOf 57 = .ok (.getfield 19, 3) := by decide +kernel
theorem dX11_treeOf_60 : decode cX11_treeOf 60 = .ok (.iload_n 1, 1) := by decide +kernel
theorem dX11_treeOf_61 : decode cX11_treeOf 61 = .ok (.invokevirtual 157, 3) := by decide +kernel
theorem dX11_treeOf_64 : decode cX11_treeOf 64 = .ok (.ireturn, 1) := by decide +kernel
theorem dX11_treeOf_65 : decode cX11_treeOf 65 = .ok (.aload_n 0, 1) := by decide +kernel
theorem dX11_treeOf_66 : decode cX11_treeOf 66 = .ok (.getfield 19, 3) := by decide +kernel
theorem dX11_treeOf_69 : decode cX11_treeOf 69 = .ok (.iload_n 1, 1) := by decide +kernel
theorem dX11_treeOf_70 : decode cX11_treeOf 70 = .ok (.invokevirtual 160, 3) := by decide +kernel
theorem dX11_treeOf_73 : decode cX11_treeOf 73 = .ok (.ireturn, 1) := by decide +kernel
theorem dX11_treeOf_74 : decode cX11_treeOf 74 = .ok (.aload_n 0, 1) := by decide +kernel
theorem dX11_treeOf_75 : decode cX11_treeOf 75 = .ok (.getfield 19, 3) := by decide +kernel
theorem dX11_treeOf_78 : decode cX11_treeOf 78 = .ok (.iload_n 1, 1) := by decide +kernel
theorem dX11_treeOf_79 : decode cX11_treeOf 79 = .ok (.aload_n 0, 1) := by decide +kernel
theorem dX11_treeOf_80 : decode cX11_treeOf 80 = .ok (.getfield 26, 3) := by decide +kernel
theorem dX11_treeOf_83 : decode cX11_treeOf 83 = .ok (.getfield 121, 3) := by decide +kernel
theorem dX11_treeOf_86 : decode cX11_treeOf 86 = .ok (.invokevirtual 124, 3) := by decide +kernel
theorem dX11_treeOf_89 : decode cX11_treeOf 89 = .ok (.ireturn, 1) := by decide +kernel
theorem dX11_treeOf_90 : decode cX11_treeOf 90 = .ok (.aload_n 0, 1) := by decide +kernel
theorem dX11_treeOf_91 : decode cX11_treeOf 91 = .ok (.getfield 19, 3) := by decide +kernel
theorem dX11_treeOf_94 : decode cX11_treeOf 94 = .ok (.iload_n 1, 1) := by decide +kernel
theorem dX11_treeOf_95 : decode cX11_treeOf 95 = .ok (.invokevirtual 127, 3) := by decide +kernel
theorem dX11_treeOf_98 : decode cX11_treeOf 98 = .ok (.ireturn, 1) := by decide +kernel
theorem dX11_treeOf_99 : decode cX11_treeOf 99 = .ok (.aload_n 0, 1) := by decide +kernel
theorem dX11_treeOf_100 : decode cX11_treeOf 100 = .ok (.getfield 19, 3) := by decide +kernel
theorem dX11_treeOf_103 : decode cX11_treeOf 103 = .ok (.iload_n 1, 1) := by decide +kernel
theorem dX11_treeOf_104 : decode cX11_treeOf 104 = .ok (.invokevirtual 137, 3) := by decide +kernel
theorem dX11_treeOf_107 : decode cX11_treeOf 107 = .ok (.ireturn, 1) := by decide +kernel
theorem dX11_treeOf_108 : decode cX11_treeOf 108 = .ok (.aload_n 0, 1) := by decide +kernel
theorem dX11_treeOf_109 : decode cX11_treeOf 109 = .ok (.getfield 19, 3) := by decide +kernel
theorem dX11_treeOf_112 : decode cX11_treeOf 112 = .ok (.iload_n 1, 1) := by decide +kernel
theorem dX11_treeOf_113 : decode cX11_treeOf 113 = .ok (.invokevirtual 163, 3) := by decide +kernel
theorem dX11_treeOf_116 : decode cX11_treeOf 116 = .ok (.ireturn, 1) := by decide +kernel
theorem dX11_treeOf_117 : decode cX11_treeOf 117 = .ok (.aload_n 0, 1) := by decide +kernel
theorem dX11_treeOf_118 : decode cX11_treeOf 118 = .ok (.getfield 26, 3) := by decide +kernel
theorem dX11_treeOf_121 : decode cX11_treeOf 121 = .ok (.getfield 166, 3) := by decide +kernel
theorem dX11_treeOf_124 : decode cX11_treeOf 124 = .ok (.ifCond .eq 25, 3) := by decide +kernel
theorem dX11_treeOf_127 : decode cX11_treeOf 127 = .ok (.aload_n 0, 1) := by decide +kernel
theorem dX11_treeOf_128 : decode cX11_treeOf 128 = .ok (.getfield 19, 3) := by decide +kernel
theorem dX11_treeOf_131 : decode cX11_treeOf 131 = .ok (.iload_n 1, 1) := by decide +kernel
theorem dX11_treeOf_132 : decode cX11_treeOf 132 = .ok (.aload_n 0, 1) := by decide +kernel
theorem dX11_treeOf_133 : decode cX11_treeOf 133 = .ok (.getfield 26, 3) := by decide +kernel
theorem dX11_treeOf_136 : decode cX11_treeOf 136 = .ok (.getfield 121, 3) := by decide +kernel
theorem dX11_treeOf_139 : decode cX11_treeOf 139 = .ok (.invokevirtual 124, 3) := by decide +kernel
theorem dX11_treeOf_142 : decode cX11_treeOf 142 = .ok (.ifCond .le 7, 3) := by decide +kernel
theorem dX11_treeOf_145 : decode cX11_treeOf 145 = .ok (.iconst 1, 1) := by decide +kernel
theorem dX11_treeOf_146 : decode cX11_treeOf 146 = .ok (.goto 4, 3) := by decide +kernel
theorem dX11_treeOf_149 : decode cX11_treeOf 149 = .ok (.iconst 0, 1) := by decide +kernel
theorem dX11_treeOf_150 : decode cX11_treeOf 150 = .ok (.ireturn, 1) := by decide +kernel
theorem dX11_treeOf_151 : decode cX11_treeOf 151 = .ok (.iconst (-1), 1) := by decide +kernel
theorem dX11_treeOf_152 : decode cX11_treeOf 152 = .ok (.ireturn, 1) := by decide +kernel

theorem dX11_wood_0 : decode cX11_wood 0 = .ok (.iload_n 1, 1) := by decide +kernel
theorem dX11_wood_1 : decode cX11_wood 1 = .ok (.iconst 0, 1) := by decide +kernel
theorem dX11_wood_2 : decode cX11_wood 2 = .ok (.sipush 10000, 3) := by decide +kernel
theorem dX11_wood_5 : decode cX11_wood 5 = .ok (.invokestatic 103, 3) := by decide +kernel
theorem dX11_wood_8 : decode cX11_wood 8 = .ok (.ifCond .eq 14, 3) := by decide +kernel
theorem dX11_wood_11 : decode cX11_wood 11 = .ok (.aload_n 0, 1) := by decide +kernel
theorem dX11_wood_12 : decode cX11_wood 12 = .ok (.getfield 47, 3) := by decide +kernel
theorem dX11_wood_15 : decode cX11_wood 15 = .ok (.iload_n 1, 1) := by decide +kernel
theorem dX11_wood_16 : decode cX11_wood 16 = .ok (.invokevirtual 222, 3) := by decide +kernel
theorem dX11_wood_19 : decode cX11_wood 19 = .ok (.goto 4, 3) := by decide +kernel
theorem dX11_wood_22 : decode cX11_wood 22 = .ok (.iconst (-1), 1) := by decide +kernel
theorem dX11_wood_23 : decode cX11_wood 23 = .ok (.ireturn, 1) := by decide +kernel

theorem dX11_year_0 : decode cX11_year 0 = .ok (.aload_n 0, 1) := by decide +kernel
theorem dX11_year_1 : decode cX11_year 1 = .ok (.getfield 26, 3) := by decide +kernel
theorem dX11_year_4 : decode cX11_year 4 = .ok (.getfield 121, 3) := by decide +kernel
theorem dX11_year_7 : decode cX11_year 7 = .ok (.bipush 20, 2) := by decide +kernel
theorem dX11_year_9 : decode cX11_year 9 = .ok (.if_icmp .lt 5, 3) := by decide +kernel
theorem dX11_year_12 : decode cX11_year 12 = .ok (.iconst (-1), 1) := by decide +kernel
theorem dX11_year_13 : decode cX11_year 13 = .ok (.ireturn, 1) := by decide +kernel
theorem dX11_year_14 : decode cX11_year 14 = .ok (.aload_n 0, 1) := by decide +kernel
theorem dX11_year_15 : decode cX11_year 15 = .ok (.getfield 26, 3) := by decide +kernel
theorem dX11_year_18 : decode cX11_year 18 = .ok (.invokevirtual 194, 3) := by decide +kernel
theorem dX11_year_21 : decode cX11_year 21 = .ok (.aload_n 0, 1) := by decide +kernel
theorem dX11_year_22 : decode cX11_year 22 = .ok (.getfield 19, 3) := by decide +kernel
theorem dX11_year_25 : decode cX11_year 25 = .ok (.invokevirtual 197, 3) := by decide +kernel
theorem dX11_year_28 : decode cX11_year 28 = .ok (.aload_n 0, 1) := by decide +kernel
theorem dX11_year_29 : decode cX11_year 29 = .ok (.getfield 61, 3) := by decide +kernel
theorem dX11_year_32 : decode cX11_year 32 = .ok (.invokevirtual 200, 3) := by decide +kernel
theorem dX11_year_35 : decode cX11_year 35 = .ok (.aload_n 0, 1) := by decide +kernel
theorem dX11_year_36 : decode cX11_year 36 = .ok (.getfield 40, 3) := by decide +kernel
theorem dX11_year_39 : decode cX11_year 39 = .ok (.invokevirtual 201, 3) := by decide +kernel
theorem dX11_year_42 : decode cX11_year 42 = .ok (.aload_n 0, 1) := by decide +kernel
theorem dX11_year_43 : decode cX11_year 43 = .ok (.getfield 47, 3) := by decide +kernel
theorem dX11_year_46 : decode cX11_year 46 = .ok (.invokevirtual 204, 3) := by decide +kernel
theorem dX11_year_49 : decode cX11_year 49 = .ok (.aload_n 0, 1) := by decide +kernel
theorem dX11_year_50 : decode cX11_year 50 = .ok (.getfield 26, 3) := by decide +kernel
theorem dX11_year_53 : decode cX11_year 53 = .ok (.getfield 121, 3) := by decide +kernel
theorem dX11_year_56 : decode cX11_year 56 = .ok (.ireturn, 1) := by decide +kernel

theorem dX1_cameTogether_0 : decode cX1_cameTogether 0 = .ok (.iconst 0, 1) := by decide +kernel
theorem dX1_cameTogether_1 : decode cX1_cameTogether 1 = .ok (.istore_n 1, 1) := by decide +kernel
theorem dX1_cameTogether_2 : decode cX1_cameTogether 2 = .ok (.iconst 0, 1) := by decide +kernel
theorem dX1_cameTogether_3 : decode cX1_cameTogether 3 = .ok (.istore_n 2, 1) := by decide +kernel
theorem dX1_cameTogether_4 : decode cX1_cameTogether 4 = .ok (.iload_n 2, 1) := by decide +kernel
theorem dX1_cameTogether_5 : decode cX1_cameTogether 5 = .ok (.bipush 10, 2) := by decide +kernel
theorem dX1_cameTogether_7 : decode cX1_cameTogether 7 = .ok (.if_icmp .ge 18, 3) := by decide +kernel
theorem dX1_cameTogether_10 : decode cX1_cameTogether 10 = .ok (.iload_n 1, 1) := by decide +kernel
theorem dX1_cameTogether_11 : decode cX1_cameTogether 11 = .ok (.aload_n 0, 1) := by decide +kernel
theorem dX1_cameTogether_12 : decode cX1_cameTogether 12 = .ok (.getfield 9, 3) := by decide +kernel
theorem dX1_cameTogether_15 : decode cX1_cameTogether 15 = .ok (.iload_n 2, 1) := by decide +kernel
theorem dX1_cameTogether_16 : decode cX1_cameTogether 16 = .ok (.iaload, 1) := by decide +kernel
theorem dX1_cameTogether_17 : decode cX1_cameTogether 17 = .ok (.iadd, 1) := by decide +kernel
theorem dX1_cameTogether_18 : decode cX1_cameTogether 18 = .ok (.istore_n 1, 1) := by decide +kernel
theorem dX1_cameTogether_19 : decode cX1_cameTogether 19 = .ok (.iinc 2 1, 3) := by decide +kernel
theorem dX1_cameTogether_22 : decode cX1_cameTogether 22 = .ok (.goto (-18), 3) := by decide +kernel
theorem dX1_cameTogether_25 : decode cX1_cameTogether 25 = .ok (.iload_n 1, 1) := by decide +kernel
theorem dX1_cameTogether_26 : decode cX1_cameTogether 26 = .ok (.ireturn, 1) := by decide +kernel

theorem dX1_forgetYear_0 : decode cX1_forgetYear 0 = .ok (.aload_n 0, 1) := by decide +kernel
theorem dX1_forgetYear_1 : decode cX1_forgetYear 1 = .ok (.getfield 9, 3) := by decide +kernel
theorem dX1_forgetYear_4 : decode cX1_forgetYear 4 = .ok (.iconst 0, 1) := by decide +kernel
theorem dX1_forgetYear_5 : decode cX1_forgetYear 5 = .ok (.invokestatic 26, 3) := by decide +kernel
theorem dX1_forgetYear_8 : decode cX1_forgetYear 8 = .ok (.return_, 1) := by decide +kernel

theorem dX1_init_0 : decode cX1_init 0 = .ok (.aload_n 0, 1) := by decide +kernel
theorem dX1_init_1 : decode cX1_init 1 = .ok (.invokespecial 3, 3) := by decide +kernel
theorem dX1_init_4 : decode cX1_init 4 = .ok (.aload_n 0, 1) := by decide +kernel
theorem dX1_init_5 : decode cX1_init 5 = .ok (.bipush 10, 2) := by decide +kernel
theorem dX1_init_7 : decode cX1_init 7 = .ok (.newarray .int, 2) := by decide +kernel
theorem dX1_init_9 : decode cX1_init 9 = .ok (.putfield 9, 3) := by decide +kernel
theorem dX1_init_12 : decode cX1_init 12 = .ok (.aload_n 0, 1) := by decide +kernel
theorem dX1_init_13 : decode cX1_init 13 = .ok (.bipush 10, 2) := by decide +kernel
theorem dX1_init_15 : decode cX1_init 15 = .ok (.newarray .int, 2) := by decide +kernel
theorem dX1_init_17 : decode cX1_init 17 = .ok (.putfield 15, 3) := by decide +kernel
theorem dX1_init_20 : decode cX1_init 20 = .ok (.aload_n 0, 1) := by decide +kernel
theorem dX1_init_21 : decode cX1_init 21 = .ok (.bipush 10, 2) := by decide +kernel
theorem dX1_init_23 : decode cX1_init 23 = .ok (.newarray .long, 2) := by decide +kernel
theorem dX1_init_25 : decode cX1_init 25 = .ok (.putfield 18, 3) := by decide +kernel
theorem dX1_init_28 : decode cX1_init 28 = .ok (.return_, 1) := by decide +kernel

theorem dX1_tell_0 : decode cX1_tell 0 = .ok (.iload_n 1, 1) := by decide +kernel
theorem dX1_tell_1 : decode cX1_tell 1 = .ok (.invokestatic 22, 3) := by decide +kernel
theorem dX1_tell_4 : decode cX1_tell 4 = .ok (.ifCond .ne 5, 3) := by decide +kernel
theorem dX1_tell_7 : decode cX1_tell 7 = .ok (.iconst (-1), 1) := by decide +kernel
theorem dX1_tell_8 : decode cX1_tell 8 = .ok (.ireturn, 1) := by decide +kernel
theorem dX1_tell_9 : decode cX1_tell 9 = .ok (.iload_n 2, 1) := by decide +kernel
theorem dX1_tell_10 : decode cX1_tell 10 = .ok (.lookupswitch 40 #[(0, 26), (1, 33)], 26) := by decide +kernel
theorem dX1_tell_36 : decode cX1_tell 36 = .ok (.aload_n 0, 1) := by decide +kernel
theorem dX1_tell_37 : decode cX1_tell 37 = .ok (.getfield 9, 3) := by decide +kernel
theorem dX1_tell_40 : decode cX1_tell 40 = .ok (.iload_n 1, 1) := by decide +kernel
theorem dX1_tell_41 : decode cX1_tell 41 = .ok (.iaload, 1) := by decide +kernel
theorem dX1_tell_42 : decode cX1_tell 42 = .ok (.ireturn, 1) := by decide +kernel
theorem dX1_tell_43 : decode cX1_tell 43 = .ok (.aload_n 0, 1) := by decide +kernel
theorem dX1_tell_44 : decode cX1_tell 44 = .ok (.getfield 15, 3) := by decide +kernel
theorem dX1_tell_47 : decode cX1_tell 47 = .ok (.iload_n 1, 1) := by decide +kernel
theorem dX1_tell_48 : decode cX1_tell 48 = .ok (.iaload, 1) := by decide +kernel
theorem dX1_tell_49 : decode cX1_tell 49 = .ok (.ireturn, 1) := by decide +kernel
theorem dX1_tell_50 : decode cX1_tell 50 = .ok (.iconst (-1), 1) := by decide +kernel
theorem dX1_tell_51 : decode cX1_tell 51 = .ok (.ireturn, 1) := by decide +kernel

theorem dX2_forgetYear_0 : decode cX2_forgetYear 0 = .ok (.aload_n 0, 1) := by decide +kernel
theorem dX2_forgetYear_1 : decode cX2_forgetYear 1 = .ok (.getfield 18, 3) := by decide +kernel
theorem dX2_forgetYear_4 : decode cX2_forgetYear 4 = .ok (.iconst 0, 1) := by decide +kernel
theorem dX2_forgetYear_5 : decode cX2_forgetYear 5 = .ok (.invokestatic 41, 3) := by decide +kernel
theorem dX2_forgetYear_8 : decode cX2_forgetYear 8 = .ok (.return_, 1) := by decide +kernel

theorem dX2_has_0 : decode cX2_has 0 = .ok (.iload_n 1, 1) := by decide +kernel
theorem dX2_has_1 : decode cX2_has 1 = .ok (.ifCond .lt 15, 3) := by decide +kernel
theorem dX2_has_4 : decode cX2_has 4 = .ok (.iload_n 1, 1) := by decide +kernel
theorem dX2_has_5 : decode cX2_has 5 = .ok (.aload_n 0, 1) := by decide +kernel
theorem dX2_has_6 : decode cX2_has 6 = .ok (.getfield 30, 3) := by decide +kernel
theorem dX2_has_9 : decode cX2_has 9 = .ok (.if_icmp .ge 7, 3) := by decide +kernel
theorem dX2_has_12 : decode cX2_has 12 = .ok (.iconst 1, 1) := by decide +kernel
theorem dX2_has_13 : decode cX2_has 13 = .ok (.goto 4, 3) := by decide +kernel
theorem dX2_has_16 : decode cX2_has 16 = .ok (.iconst 0, 1) := by decide +kernel
theorem dX2_has_17 : decode cX2_has 17 = .ok (.ireturn, 1) := by decide +kernel

theorem dX2_init_0 : decode cX2_init 0 = .ok (.aload_n 0, 1) := by decide +kernel
theorem dX2_init_1 : decode cX2_init 1 = .ok (.invokespecial 3, 3) := by decide +kernel
theorem dX2_init_4 : decode cX2_init 4 = .ok (.aload_n 0, 1) := by decide +kernel
theorem dX2_init_5 : decode cX2_init 5 = .ok (.bipush 60, 2) := by decide +kernel
theorem dX2_init_7 : decode cX2_init 7 = .ok (.newarray .int, 2) := by decide +kernel
theorem dX2_init_9 : decode cX2_init 9 = .ok (.putfield 9, 3) := by decide +kernel
theorem dX2_init_12 : decode cX2_init 12 = .ok (.aload_n 0, 1) := by decide +kernel
theorem dX2_init_13 : decode cX2_init 13 = .ok (.bipush 60, 2) := by decide +kernel
theorem dX2_init_15 : decode cX2_init 15 = .ok (.newarray .int, 2) := by decide +kernel
theorem dX2_init_17 : decode cX2_init 17 = .ok (.putfield 15, 3) := by decide +kernel
theorem dX2_init_20 : decode cX2_init 20 = .ok (.aload_n 0, 1) := by decide +kernel
theorem dX2_init_21 : decode cX2_init 21 = .ok (.bipush 60, 2) := by decide +kernel
theorem dX2_init_23 : decode cX2_init 23 = .ok (.newarray .int, 2) := by decide +kernel
theorem dX2_init_25 : decode cX2_init 25 = .ok (.putfield 18, 3) := by decide +kernel
theorem dX2_init_28 : decode cX2_init 28 = .ok (.aload_n 0, 1) := by decide +kernel
theorem dX2_init_29 : decode cX2_init 29 = .ok (.sipush 300, 3) := by decide +kernel
theorem dX2_init_32 : decode cX2_init 32 = .ok (.newarray .int, 2) := by decide +kernel
theorem dX2_init_34 : decode cX2_init 34 = .ok (.putfield 21, 3) := by decide +kernel
theorem dX2_init_37 : decode cX2_init 37 = .ok (.aload_n 0, 1) := by decide +kernel
theorem dX2_init_38 : decode cX2_init 38 = .ok (.sipush 300, 3) := by decide +kernel
theorem dX2_init_41 : decode cX2_init 41 = .ok (.newarray .int, 2) := by decide +kernel
theorem dX2_init_43 : decode cX2_init 43 = .ok (.putfield 24, 3) := by decide +kernel
theorem dX2_init_46 : decode cX2_init 46 = .ok (.aload_n 0, 1) := by decide +kernel
theorem dX2_init_47 : decode cX2_init 47 = .ok (.sipush 300, 3) := by decide +kernel
theorem dX2_init_50 : decode cX2_init 50 = .ok (.newarray .int, 2) := by decide +kernel
theorem dX2_init_52 : decode cX2_init 52 = .ok (.putfield 27, 3) := by decide +kernel
theorem dX2_init_55 : decode cX2_init 55 = .ok (.return_, 1) := by decide +kernel

theorem dX2_treesAt_0 : decode cX2_treesAt 0 = .ok (.iconst 0, 1) := by decide +kernel
theorem dX2_treesAt_1 : decode cX2_treesAt 1 = .ok (.istore_n 2, 1) := by decide +kernel
theorem dX2_treesAt_2 : decode cX2_treesAt 2 = .ok (.iconst 0, 1) := by decide +kernel
theorem dX2_treesAt_3 : decode cX2_treesAt 3 = .ok (.istore_n 3, 1) := by decide +kernel
theorem dX2_treesAt_4 : decode cX2_treesAt 4 = .ok (.iload_n 3, 1) := by decide +kernel
theorem dX2_treesAt_5 : decode cX2_treesAt 5 = .ok (.aload_n 0, 1) := by decide +kernel
theorem dX2_treesAt_6 : decode cX2_treesAt 6 = .ok (.getfield 30, 3) := by decide +kernel
theorem dX2_treesAt_9 : decode cX2_treesAt 9 = .ok (.if_icmp .ge 22, 3) := by decide +kernel
theorem dX2_treesAt_12 : decode cX2_treesAt 12 = .ok (.aload_n 0, 1) := by decide +kernel
theorem dX2_treesAt_13 : decode cX2_treesAt 13 = .ok (.getfield 9, 3) := by decide +kernel
theorem dX2_treesAt_16 : decode cX2_treesAt 16 = .ok (.iload_n 3, 1) := by decide +kernel
theorem dX2_treesAt_17 : decode cX2_treesAt 17 = .ok (.iaload, 1) := by decide +kernel
theorem dX2_treesAt_18 : decode cX2_treesAt 18 = .ok (.iload_n 1, 1) := by decide +kernel
theorem dX2_treesAt_19 : decode cX2_treesAt 19 = .ok (.if_icmp .ne 6, 3) := by decide +kernel
theorem dX2_treesAt_22 : decode cX2_treesAt 22 = .ok (.iinc 2 1, 3) := by decide +kernel
theorem dX2_treesAt_25 : decode cX2_treesAt 25 = .ok (.iinc 3 1, 3) := by decide +kernel
theorem dX2_treesAt_28 : decode cX2_treesAt 28 = .ok (.goto (-24), 3) := by decide +kernel
theorem dX2_treesAt_31 : decode cX2_treesAt 31 = .ok (.iload_n 2, 1) := by decide +kernel
theorem dX2_treesAt_32 : decode cX2_treesAt 32 = .ok (.ireturn, 1) := by decide +kernel

theorem dX3_empty_0 : decode cX3_empty 0 = .ok (.aload_n 0, 1) := by decide +kernel
theorem dX3_empty_1 : decode cX3_empty 1 = .ok (.iconst 0, 1) := by decide +kernel
theorem dX3_empty_2 : decode cX3_empty 2 = .ok (.putfield 9, 3) := by decide +kernel
theorem dX3_empty_5 : decode cX3_empty 5 = .ok (.aload_n 0, 1) := by decide +kernel
theorem dX3_empty_6 : decode cX3_empty 6 = .ok (.lconst 0, 1) := by decide +kernel
theorem dX3_empty_7 : decode cX3_empty 7 = .ok (.putfield 15, 3) := by decide +kernel
theorem dX3_empty_10 : decode cX3_empty 10 = .ok (.aload_n 0, 1) := by decide +kernel
theorem dX3_empty_11 : decode cX3_empty 11 = .ok (.iconst 0, 1) := by decide +kernel
theorem dX3_empty_12 : decode cX3_empty 12 = .ok (.putfield 21, 3) := by decide +kernel
theorem dX3_empty_15 : decode cX3_empty 15 = .ok (.return_, 1) := by decide +kernel

theorem dX3_init_0 : decode cX3_init 0 = .ok (.aload_n 0, 1) := by decide +kernel
theorem dX3_init_1 : decode cX3_init 1 = .ok (.invokespecial 3, 3) := by decide +kernel
theorem dX3_init_4 : decode cX3_init 4 = .ok (.return_, 1) := by decide +kernel

theorem dX3_isBurnt_0 : decode cX3_isBurnt 0 = .ok (.aload_n 0, 1) := by decide +kernel
theorem dX3_isBurnt_1 : decode cX3_isBurnt 1 = .ok (.invokevirtual 30, 3) := by decide +kernel
theorem dX3_isBurnt_4 : decode cX3_isBurnt 4 = .ok (.sipush 900, 3) := by decide +kernel
theorem dX3_isBurnt_7 : decode cX3_isBurnt 7 = .ok (.if_icmp .lt 7, 3) := by decide +kernel
theorem dX3_isBurnt_10 : decode cX3_isBurnt 10 = .ok (.iconst 1, 1) := by decide +kernel
theorem dX3_isBurnt_11 : decode cX3_isBurnt 11 = .ok (.goto 4, 3) := by decide +kernel
theorem dX3_isBurnt_14 : decode cX3_isBurnt 14 = .ok (.iconst 0, 1) := by decide +kernel
theorem dX3_isBurnt_15 : decode cX3_isBurnt 15 = .ok (.ireturn, 1) := by decide +kernel

theorem dX3_stack_0 : decode cX3_stack 0 = .ok (.aload_n 0, 1) := by decide +kernel
theorem dX3_stack_1 : decode cX3_stack 1 = .ok (.getfield 24, 3) := by decide +kernel
theorem dX3_stack_4 : decode cX3_stack 4 = .ok (.ldc 27, 2) := by decide +kernel
theorem dX3_stack_6 : decode cX3_stack 6 = .ok (.iload_n 1, 1) := by decide +kernel
theorem dX3_stack_7 : decode cX3_stack 7 = .ok (.isub, 1) := by decide +kernel
theorem dX3_stack_8 : decode cX3_stack 8 = .ok (.if_icmp .le 5, 3) := by decide +kernel
theorem dX3_stack_11 : decode cX3_stack 11 = .ok (.iconst (-1), 1) := by decide +kernel
theorem dX3_stack_12 : decode cX3_stack 12 = .ok (.ireturn, 1) := by decide +kernel
theorem dX3_stack_13 : decode cX3_stack 13 = .ok (.aload_n 0, 1) := by decide +kernel
theorem dX3_stack_14 : decode cX3_stack 14 = .ok (.dup, 1) := by decide +kernel
theorem dX3_stack_15 : decode cX3_stack 15 = .ok (.getfield 24, 3) := by decide +kernel
theorem dX3_stack_18 : decode cX3_stack 18 = .ok (.iload_n 1, 1) := by decide +kernel
theorem dX3_stack_19 : decode cX3_stack 19 = .ok (.iadd, 1) := by decide +kernel
theorem dX3_stack_20 : decode cX3_stack 20 = .ok (.putfield 24, 3) := by decide +kernel
theorem dX3_stack_23 : decode cX3_stack 23 = .ok (.aload_n 0, 1) := by decide +kernel
theorem dX3_stack_24 : decode cX3_stack 24 = .ok (.getfield 24, 3) := by decide +kernel
theorem dX3_stack_27 : decode cX3_stack 27 = .ok (.ireturn, 1) := by decide +kernel

theorem dX3_strength_0 : decode cX3_strength 0 = .ok (.aload_n 0, 1) := by decide +kernel
theorem dX3_strength_1 : decode cX3_strength 1 = .ok (.getfield 9, 3) := by decide +kernel
theorem dX3_strength_4 : decode cX3_strength 4 = .ok (.iconst 1, 1) := by decide +kernel
theorem dX3_strength_5 : decode cX3_strength 5 = .ok (.if_icmp .ge 7, 3) := by decide +kernel
theorem dX3_strength_8 : decode cX3_strength 8 = .ok (.iconst 0, 1) := by decide +kernel
theorem dX3_strength_9 : decode cX3_strength 9 = .ok (.goto 18, 3) := by decide +kernel
theorem dX3_strength_12 : decode cX3_strength 12 = .ok (.aload_n 0, 1) := by decide +kernel
theorem dX3_strength_13 : decode cX3_strength 13 = .ok (.getfield 15, 3) := by decide +kernel
theorem dX3_strength_16 : decode cX3_strength 16 = .ok (.aload_n 0, 1) := by decide +kernel
theorem dX3_strength_17 : decode cX3_strength 17 = .ok (.getfield 9, 3) := by decide +kernel
theorem dX3_strength_20 : decode cX3_strength 20 = .ok (.i2l, 1) := by decide +kernel
theorem dX3_strength_21 : decode cX3_strength 21 = .ok (.ldiv, 1) := by decide +kernel
theorem dX3_strength_22 : decode cX3_strength 22 = .ok (.ldc2_w 28, 3) := by decide +kernel
theorem dX3_strength_25 : decode cX3_strength 25 = .ok (.ldiv, 1) := by decide +kernel
theorem dX3_strength_26 : decode cX3_strength 26 = .ok (.l2i, 1) := by decide +kernel
theorem dX3_strength_27 : decode cX3_strength 27 = .ok (.ireturn, 1) := by decide +kernel

theorem dX3_tell_0 : decode cX3_tell 0 = .ok (.iload_n 1, 1) := by decide +kernel
theorem dX3_tell_1 : decode cX3_tell 1 = .ok (.tableswitch 82 0 5 #[39, 44, 49, 54, 59, 72], 39) := by decide +kernel
theorem dX3_tell_40 : decode cX3_tell 40 = .ok (.aload_n 0, 1) := by decide +kernel
theorem dX3_tell_41 : decode cX3_tell 41 = .ok (.getfield 9, 3) := by decide +kernel
theorem dX3_tell_44 : decode cX3_tell 44 = .ok (.ireturn, 1) := by decide +kernel
theorem dX3_tell_45 : decode cX3_tell 45 = .ok (.aload_n 0, 1) := by decide +kernel
theorem dX3_tell_46 : decode cX3_tell 46 = .ok (.invokevirtual 30, 3) := by decide +kernel
theorem dX3_tell_49 : decode cX3_tell 49 = .ok (.ireturn, 1) := by decide +kernel
theorem dX3_tell_50 : decode cX3_tell 50 = .ok (.aload_n 0, 1) := by decide +kernel
theorem dX3_tell_51 : decode cX3_tell 51 = .ok (.getfield 34, 3) := by decide +kernel
theorem dX3_tell_54 : decode cX3_tell 54 = .ok (.ireturn, 1) := by decide +kernel
theorem dX3_tell_55 : decode cX3_tell 55 = .ok (.aload_n 0, 1) := by decide +kernel
theorem dX3_tell_56 : decode cX3_tell 56 = .ok (.getfield 21, 3) := by decide +kernel
theorem dX3_tell_59 : decode cX3_tell 59 = .ok (.ireturn, 1) := by decide +kernel
theorem dX3_tell_60 : decode cX3_tell 60 = .ok (.aload_n 0, 1) := by decide +kernel
theorem dX3_tell_61 : decode cX3_tell 61 = .ok (.invokevirtual 46, 3) := by decide +kernel
theorem dX3_tell_64 : decode cX3_tell 64 = .ok (.ifCond .eq 7, 3) := by decide +kernel
theorem dX3_tell_67 : decode cX3_tell 67 = .ok (.iconst 1, 1) := by decide +kernel
theorem dX3_tell_68 : decode cX3_tell 68 = .ok (.goto 4, 3) := by decide +kernel
theorem dX3_tell_71 : decode cX3_tell 71 = .ok (.iconst 0, 1) := by decide +kernel
theorem dX3_tell_72 : decode cX3_tell 72 = .ok (.ireturn, 1) := by decide +kernel
theorem dX3_tell_73 : decode cX3_tell 73 = .ok (.aload_n 0, 1) := by decide +kernel
theorem dX3_tell_74 : decode cX3_tell 74 = .ok (.getfield 15, 3) := by decide +kernel
theorem dX3_tell_77 : decode cX3_tell 77 = .ok (.ldc2_w 28, 3) := by decide +kernel
theorem dX3_tell_80 : decode cX3_tell 80 = .ok (.ldiv, 1) := by decide +kernel
theorem dX3_tell_81 : decode cX3_tell 81 = .ok (.l2i, 1) := by decide +kernel
theorem dX3_tell_82 : decode cX3_tell 82 = .ok (.ireturn, 1) := by decide +kernel
theorem dX3_tell_83 : decode cX3_tell 83 = .ok (.iconst (-1), 1) := by decide +kernel
theorem dX3_tell_84 : decode cX3_tell 84 = .ok (.ireturn, 1) := by decide +kernel

theorem dX4_greatestDivisor_0 : decode cX4_greatestDivisor 0 = .ok (.iload_n 0, 1) := by decide +kernel
theorem dX4_greatestDivisor_1 : decode cX4_greatestDivisor 1 = .ok (.istore_n 2, 1) := by decide +kernel
theorem dX4_greatestDivisor_2 : decode cX4_greatestDivisor 2 = .ok (.iload_n 1, 1) := by decide +kernel
theorem dX4_greatestDivisor_3 : decode cX4_greatestDivisor 3 = .ok (.istore_n 3, 1) := by decide +kernel
theorem dX4_greatestDivisor_4 : decode cX4_greatestDivisor 4 = .ok (.iconst 0, 1) := by decide +kernel
theorem dX4_greatestDivisor_5 : decode cX4_greatestDivisor 5 = .ok (.istore 4, 2) := by decide +kernel
theorem dX4_greatestDivisor_7 : decode cX4_greatestDivisor 7 = .ok (.iload 4, 2) := by decide +kernel
theorem dX4_greatestDivisor_9 : decode cX4_greatestDivisor 9 = .ok (.bipush 64, 2) := by decide +kernel
theorem dX4_greatestDivisor_11 : decode cX4_greatestDivisor 11 = .ok (.if_icmp .ge 23, 3) := by decide +kernel
theorem dX4_greatestDivisor_14 : decode cX4_greatestDivisor 14 = .ok (.iload_n 3, 1) := by decide +kernel
theorem dX4_greatestDivisor_15 : decode cX4_greatestDivisor 15 = .ok (.ifCond .eq 19, 3) := by decide +kernel
theorem dX4_greatestDivisor_18 : decode cX4_greatestDivisor 18 = .ok (.iload_n 2, 1) := by decide +kernel
theorem dX4_greatestDivisor_19 : decode cX4_greatestDivisor 19 = .ok (.iload_n 3, 1) := by decide +kernel
theorem dX4_greatestDivisor_20 : decode cX4_greatestDivisor 20 = .ok (.irem, 1) := by decide +kernel
theorem dX4_greatestDivisor_21 : decode cX4_greatestDivisor 21 = .ok (.istore 5, 2) := by decide +kernel
theorem dX4_greatestDivisor_23 : decode cX4_greatestDivisor 23 = .ok (.iload_n 3, 1) := by decide +kernel
theorem dX4_greatestDivisor_24 : decode cX4_greatestDivisor 24 = .ok (.istore_n 2, 1) := by decide +kernel
theorem dX4_greatestDivisor_25 : decode cX4_greatestDivisor 25 = .ok (.iload 5, 2) := by decide +kernel
theorem dX4_greatestDivisor_27 : decode cX4_greatestDivisor 27 = .ok (.istore_n 3, 1) := by decide +kernel
theorem dX4_greatestDivisor_28 : decode cX4_greatestDivisor 28 = .ok (.iinc 4 1, 3) := by decide +kernel
theorem dX4_greatestDivisor_31 : decode cX4_greatestDivisor 31 = .ok (.goto (-24), 3) := by decide +kernel
theorem dX4_greatestDivisor_34 : decode cX4_greatestDivisor 34 = .ok (.iload_n 2, 1) := by decide +kernel
theorem dX4_greatestDivisor_35 : decode cX4_greatestDivisor 35 = .ok (.ireturn, 1) := by decide +kernel

theorem dX4_inLowestTerms_0 : decode cX4_inLowestTerms 0 = .ok (.aload_n 0, 1) := by decide +kernel
theorem dX4_inLowestTerms_1 : decode cX4_inLowestTerms 1 = .ok (.getfield 11, 3) := by decide +kernel
theorem dX4_inLowestTerms_4 : decode cX4_inLowestTerms 4 = .ok (.iload_n 2, 1) := by decide +kernel
theorem dX4_inLowestTerms_5 : decode cX4_inLowestTerms 5 = .ok (.iaload, 1) := by decide +kernel
theorem dX4_inLowestTerms_6 : decode cX4_inLowestTerms 6 = .ok (.aload_n 0, 1) := by decide +kernel
theorem dX4_inLowestTerms_7 : decode cX4_inLowestTerms 7 = .ok (.getfield 15, 3) := by decide +kernel
theorem dX4_inLowestTerms_10 : decode cX4_inLowestTerms 10 = .ok (.iload_n 2, 1) := by decide +kernel
theorem dX4_inLowestTerms_11 : decode cX4_inLowestTerms 11 = .ok (.iaload, 1) := by decide +kernel
theorem dX4_inLowestTerms_12 : decode cX4_inLowestTerms 12 = .ok (.invokestatic 32, 3) := by decide +kernel
theorem dX4_inLowestTerms_15 : decode cX4_inLowestTerms 15 = .ok (.istore_n 3, 1) := by decide +kernel
theorem dX4_inLowestTerms_16 : decode cX4_inLowestTerms 16 = .ok (.aload_n 0, 1) := by decide +kernel
theorem dX4_inLowestTerms_17 : decode cX4_inLowestTerms 17 = .ok (.getfield 15, 3) := by decide +kernel
theorem dX4_inLowestTerms_20 : decode cX4_inLowestTerms 20 = .ok (.iload_n 2, 1) := by decide +kernel
theorem dX4_inLowestTerms_21 : decode cX4_inLowestTerms 21 = .ok (.iaload, 1) := by decide +kernel
theorem dX4_inLowestTerms_22 : decode cX4_inLowestTerms 22 = .ok (.ifCond .eq 7, 3) := by decide +kernel
theorem dX4_inLowestTerms_25 : decode cX4_inLowestTerms 25 = .ok (.iload_n 3, 1) := by decide +kernel
theorem dX4_inLowestTerms_26 : decode cX4_inLowestTerms 26 = .ok (.ifCond .ne 7, 3) := by decide +kernel
theorem dX4_inLowestTerms_29 : decode cX4_inLowestTerms 29 = .ok (.iconst (-1), 1) := by decide +kernel
theorem dX4_inLowestTerms_30 : decode cX4_inLowestTerms 30 = .ok (.goto 6, 3) := by decide +kernel
theorem dX4_inLowestTerms_33 : decode cX4_inLowestTerms 33 = .ok (.iload_n 1, 1) := by decide +kernel
theorem dX4_inLowestTerms_34 : decode cX4_inLowestTerms 34 = .ok (.iload_n 3, 1) := by decide +kernel
theorem dX4_inLowestTerms_35 : decode cX4_inLowestTerms 35 = .ok (.idiv, 1) := by decide +kernel
theorem dX4_inLowestTerms_36 : decode cX4_inLowestTerms 36 = .ok (.ireturn, 1) := by decide +kernel

theorem dX4_init_0 : decode cX4_init 0 = .ok (.aload_n 0, 1) := by decide +kernel
theorem dX4_init_1 : decode cX4_init 1 = .ok (.invokespecial 3, 3) := by decide +kernel
theorem dX4_init_4 : decode cX4_init 4 = .ok (.aload_n 0, 1) := by decide +kernel
theorem dX4_init_5 : decode cX4_init 5 = .ok (.bipush 121, 2) := by decide +kernel
theorem dX4_init_7 : decode cX4_init 7 = .ok (.newarray .int, 2) := by decide +kernel
theorem dX4_init_9 : decode cX4_init 9 = .ok (.putfield 11, 3) := by decide +kernel
theorem dX4_init_12 : decode cX4_init 12 = .ok (.aload_n 0, 1) := by decide +kernel
theorem dX4_init_13 : decode cX4_init 13 = .ok (.bipush 121, 2) := by decide +kernel
theorem dX4_init_15 : decode cX4_init 15 = .ok (.newarray .int, 2) := by decide +kernel
theorem dX4_init_17 : decode cX4_init 17 = .ok (.putfield 15, 3) := by decide +kernel
theorem dX4_init_20 : decode cX4_init 20 = .ok (.return_, 1) := by decide +kernel

theorem dX4_keep_0 : decode cX4_keep 0 = .ok (.iload_n 1, 1) := by decide +kernel
theorem dX4_keep_1 : decode cX4_keep 1 = .ok (.iload_n 2, 1) := by decide +kernel
theorem dX4_keep_2 : decode cX4_keep 2 = .ok (.invokestatic 25, 3) := by decide +kernel
theorem dX4_keep_5 : decode cX4_keep 5 = .ok (.istore 4, 2) := by decide +kernel
theorem dX4_keep_7 : decode cX4_keep 7 = .ok (.aload_n 0, 1) := by decide +kernel
theorem dX4_keep_8 : decode cX4_keep 8 = .ok (.getfield 11, 3) := by decide +kernel
theorem dX4_keep_11 : decode cX4_keep 11 = .ok (.iload 4, 2) := by decide +kernel
theorem dX4_keep_13 : decode cX4_keep 13 = .ok (.dup2, 1) := by decide +kernel
theorem dX4_keep_14 : decode cX4_keep 14 = .ok (.iaload, 1) := by decide +kernel
theorem dX4_keep_15 : decode cX4_keep 15 = .ok (.iload_n 3, 1) := by decide +kernel
theorem dX4_keep_16 : decode cX4_keep 16 = .ok (.iadd, 1) := by decide +kernel
theorem dX4_keep_17 : decode cX4_keep 17 = .ok (.iastore, 1) := by decide +kernel
theorem dX4_keep_18 : decode cX4_keep 18 = .ok (.aload_n 0, 1) := by decide +kernel
theorem dX4_keep_19 : decode cX4_keep 19 = .ok (.getfield 15, 3) := by decide +kernel
theorem dX4_keep_22 : decode cX4_keep 22 = .ok (.iload 4, 2) := by decide +kernel
theorem dX4_keep_24 : decode cX4_keep 24 = .ok (.dup2, 1) := by decide +kernel
theorem dX4_keep_25 : decode cX4_keep 25 = .ok (.iaload, 1) := by decide +kernel
theorem dX4_keep_26 : decode cX4_keep 26 = .ok (.iconst 1, 1) := by decide +kernel
theorem dX4_keep_27 : decode cX4_keep 27 = .ok (.iadd, 1) := by decide +kernel
theorem dX4_keep_28 : decode cX4_keep 28 = .ok (.iastore, 1) := by decide +kernel
theorem dX4_keep_29 : decode cX4_keep 29 = .ok (.return_, 1) := by decide +kernel

theorem dX4_meanLower_0 : decode cX4_meanLower 0 = .ok (.iload_n 1, 1) := by decide +kernel
theorem dX4_meanLower_1 : decode cX4_meanLower 1 = .ok (.iload_n 2, 1) := by decide +kernel
theorem dX4_meanLower_2 : decode cX4_meanLower 2 = .ok (.invokestatic 25, 3) := by decide +kernel
theorem dX4_meanLower_5 : decode cX4_meanLower 5 = .ok (.istore_n 3, 1) := by decide +kernel
theorem dX4_meanLower_6 : decode cX4_meanLower 6 = .ok (.aload_n 0, 1) := by decide +kernel
theorem dX4_meanLower_7 : decode cX4_meanLower 7 = .ok (.aload_n 0, 1) := by decide +kernel
theorem dX4_meanLower_8 : decode cX4_meanLower 8 = .ok (.getfield 15, 3) := by decide +kernel
theorem dX4_meanLower_11 : decode cX4_meanLower 11 = .ok (.iload_n 3, 1) := by decide +kernel
theorem dX4_meanLower_12 : decode cX4_meanLower 12 = .ok (.iaload, 1) := by decide +kernel
theorem dX4_meanLower_13 : decode cX4_meanLower 13 = .ok (.iload_n 3, 1) := by decide +kernel
theorem dX4_meanLower_14 : decode cX4_meanLower 14 = .ok (.invokevirtual 29, 3) := by decide +kernel
theorem dX4_meanLower_17 : decode cX4_meanLower 17 = .ok (.ireturn, 1) := by decide +kernel

theorem dX4_meanUpper_0 : decode cX4_meanUpper 0 = .ok (.iload_n 1, 1) := by decide +kernel
theorem dX4_meanUpper_1 : decode cX4_meanUpper 1 = .ok (.iload_n 2, 1) := by decide +kernel
theorem dX4_meanUpper_2 : decode cX4_meanUpper 2 = .ok (.invokestatic 25, 3) := by decide +kernel
theorem dX4_meanUpper_5 : decode cX4_meanUpper 5 = .ok (.istore_n 3, 1) := by decide +kernel
theorem dX4_meanUpper_6 : decode cX4_meanUpper 6 = .ok (.aload_n 0, 1) := by decide +kernel
theorem dX4_meanUpper_7 : decode cX4_meanUpper 7 = .ok (.aload_n 0, 1) := by decide +kernel
theorem dX4_meanUpper_8 : decode cX4_meanUpper 8 = .ok (.getfield 11, 3) := by decide +kernel
theorem dX4_meanUpper_11 : decode cX4_meanUpper 11 = .ok (.iload_n 3, 1) := by decide +kernel
theorem dX4_meanUpper_12 : decode cX4_meanUpper 12 = .ok (.iaload, 1) := by decide +kernel
theorem dX4_meanUpper_13 : decode cX4_meanUpper 13 = .ok (.iload_n 3, 1) := by decide +kernel
theorem dX4_meanUpper_14 : decode cX4_meanUpper 14 = .ok (.invokevirtual 29, 3) := by decide +kernel
theorem dX4_meanUpper_17 : decode cX4_meanUpper 17 = .ok (.ireturn, 1) := by decide +kernel

theorem dX4_placeOf_0 : decode cX4_placeOf 0 = .ok (.iload_n 0, 1) := by decide +kernel
theorem dX4_placeOf_1 : decode cX4_placeOf 1 = .ok (.invokestatic 18, 3) := by decide +kernel
theorem dX4_placeOf_4 : decode cX4_placeOf 4 = .ok (.bipush 11, 2) := by decide +kernel
theorem dX4_placeOf_6 : decode cX4_placeOf 6 = .ok (.imul, 1) := by decide +kernel
theorem dX4_placeOf_7 : decode cX4_placeOf 7 = .ok (.iload_n 1, 1) := by decide +kernel
theorem dX4_placeOf_8 : decode cX4_placeOf 8 = .ok (.invokestatic 22, 3) := by decide +kernel
theorem dX4_placeOf_11 : decode cX4_placeOf 11 = .ok (.iadd, 1) := by decide +kernel
theorem dX4_placeOf_12 : decode cX4_placeOf 12 = .ok (.ireturn, 1) := by decide +kernel

theorem dX5_clear_0 : decode cX5_clear 0 = .ok (.aload_n 0, 1) := by decide +kernel
theorem dX5_clear_1 : decode cX5_clear 1 = .ok (.iconst 0, 1) := by decide +kernel
theorem dX5_clear_2 : decode cX5_clear 2 = .ok (.putfield 30, 3) := by decide +kernel
theorem dX5_clear_5 : decode cX5_clear 5 = .ok (.aload_n 0, 1) := by decide +kernel
theorem dX5_clear_6 : decode cX5_clear 6 = .ok (.getfield 18, 3) := by decide +kernel
theorem dX5_clear_9 : decode cX5_clear 9 = .ok (.iconst 0, 1) := by decide +kernel
theorem dX5_clear_10 : decode cX5_clear 10 = .ok (.invokestatic 34, 3) := by decide +kernel
theorem dX5_clear_13 : decode cX5_clear 13 = .ok (.return_, 1) := by decide +kernel

theorem dX5_init_0 : decode cX5_init 0 = .ok (.aload_n 0, 1) := by decide +kernel
theorem dX5_init_1 : decode cX5_init 1 = .ok (.invokespecial 3, 3) := by decide +kernel
theorem dX5_init_4 : decode cX5_init 4 = .ok (.aload_n 0, 1) := by decide +kernel
theorem dX5_init_5 : decode cX5_init 5 = .ok (.bipush 16, 2) := by decide +kernel
theorem dX5_init_7 : decode cX5_init 7 = .ok (.newarray .int, 2) := by decide +kernel
theorem dX5_init_9 : decode cX5_init 9 = .ok (.putfield 9, 3) := by decide +kernel
theorem dX5_init_12 : decode cX5_init 12 = .ok (.aload_n 0, 1) := by decide +kernel
theorem dX5_init_13 : decode cX5_init 13 = .ok (.bipush 16, 2) := by decide +kernel
theorem dX5_init_15 : decode cX5_init 15 = .ok (.newarray .int, 2) := by decide +kernel
theorem dX5_init_17 : decode cX5_init 17 = .ok (.putfield 15, 3) := by decide +kernel
theorem dX5_init_20 : decode cX5_init 20 = .ok (.aload_n 0, 1) := by decide +kernel
theorem dX5_init_21 : decode cX5_init 21 = .ok (.bipush 16, 2) := by decide +kernel
theorem dX5_init_23 : decode cX5_init 23 = .ok (.newarray .int, 2) := by decide +kernel
theorem dX5_init_25 : decode cX5_init 25 = .ok (.putfield 18, 3) := by decide +kernel
theorem dX5_init_28 : decode cX5_init 28 = .ok (.aload_n 0, 1) := by decide +kernel
theorem dX5_init_29 : decode cX5_init 29 = .ok (.bipush 48, 2) := by decide +kernel
theorem dX5_init_31 : decode cX5_init 31 = .ok (.newarray .int, 2) := by decide +kernel
theorem dX5_init_33 : decode cX5_init 33 = .ok (.putfield 21, 3) := by decide +kernel
theorem dX5_init_36 : decode cX5_init 36 = .ok (.aload_n 0, 1) := by decide +kernel
theorem dX5_init_37 : decode cX5_init 37 = .ok (.bipush 48, 2) := by decide +kernel
theorem dX5_init_39 : decode cX5_init 39 = .ok (.newarray .int, 2) := by decide +kernel
theorem dX5_init_41 : decode cX5_init 41 = .ok (.putfield 24, 3) := by decide +kernel
theorem dX5_init_44 : decode cX5_init 44 = .ok (.aload_n 0, 1) := by decide +kernel
theorem dX5_init_45 : decode cX5_init 45 = .ok (.bipush 48, 2) := by decide +kernel
theorem dX5_init_47 : decode cX5_init 47 = .ok (.newarray .int, 2) := by decide +kernel
theorem dX5_init_49 : decode cX5_init 49 = .ok (.putfield 27, 3) := by decide +kernel
theorem dX5_init_52 : decode cX5_init 52 = .ok (.return_, 1) := by decide +kernel

theorem dX6_init_0 : decode cX6_init 0 = .ok (.aload_n 0, 1) := by decide +kernel
theorem dX6_init_1 : decode cX6_init 1 = .ok (.invokespecial 3, 3) := by decide +kernel
theorem dX6_init_4 : decode cX6_init 4 = .ok (.aload_n 0, 1) := by decide +kernel
theorem dX6_init_5 : decode cX6_init 5 = .ok (.aload_n 1, 1) := by decide +kernel
theorem dX6_init_6 : decode cX6_init 6 = .ok (.putfield 9, 3) := by decide +kernel
theorem dX6_init_9 : decode cX6_init 9 = .ok (.return_, 1) := by decide +kernel

theorem dX6_read_0 : decode cX6_read 0 = .ok (.aload_n 0, 1) := by decide +kernel
theorem dX6_read_1 : decode cX6_read 1 = .ok (.getfield 9, 3) := by decide +kernel
theorem dX6_read_4 : decode cX6_read 4 = .ok (.iload_n 1, 1) := by decide +kernel
theorem dX6_read_5 : decode cX6_read 5 = .ok (.invokevirtual 25, 3) := by decide +kernel
theorem dX6_read_8 : decode cX6_read 8 = .ok (.aload_n 0, 1) := by decide +kernel
theorem dX6_read_9 : decode cX6_read 9 = .ok (.iconst 0, 1) := by decide +kernel
theorem dX6_read_10 : decode cX6_read 10 = .ok (.putfield 15, 3) := by decide +kernel
theorem dX6_read_13 : decode cX6_read 13 = .ok (.aload_n 2, 1) := by decide +kernel
theorem dX6_read_14 : decode cX6_read 14 = .ok (.invokevirtual 29, 3) := by decide +kernel
theorem dX6_read_17 : decode cX6_read 17 = .ok (.iconst 0, 1) := by decide +kernel
theorem dX6_read_18 : decode cX6_read 18 = .ok (.istore_n 3, 1) := by decide +kernel
theorem dX6_read_19 : decode cX6_read 19 = .ok (.iload_n 3, 1) := by decide +kernel
theorem dX6_read_20 : decode cX6_read 20 = .ok (.bipush 16, 2) := by decide +kernel
theorem dX6_read_22 : decode cX6_read 22 = .ok (.if_icmp .ge 33, 3) := by decide +kernel
theorem dX6_read_25 : decode cX6_read 25 = .ok (.aload_n 0, 1) := by decide +kernel
theorem dX6_read_26 : decode cX6_read 26 = .ok (.getfield 9, 3) := by decide +kernel
theorem dX6_read_29 : decode cX6_read 29 = .ok (.aload_n 0, 1) := by decide +kernel
theorem dX6_read_30 : decode cX6_read 30 = .ok (.getfield 15, 3) := by decide +kernel
theorem dX6_read_33 : decode cX6_read 33 = .ok (.invokevirtual 34, 3) := by decide +kernel
theorem dX6_read_36 : decode cX6_read 36 = .ok (.ifCond .eq 19, 3) := by decide +kernel
theorem dX6_read_39 : decode cX6_read 39 = .ok (.aload_n 0, 1) := by decide +kernel
theorem dX6_read_40 : decode cX6_read 40 = .ok (.aload_n 2, 1) := by decide +kernel
theorem dX6_read_41 : decode cX6_read 41 = .ok (.invokevirtual 38, 3) := by decide +kernel
theorem dX6_read_44 : decode cX6_read 44 = .ok (.ifCond .ne 5, 3) := by decide +kernel
theorem dX6_read_47 : decode cX6_read 47 = .ok (.iconst 0, 1) := by decide +kernel
theorem dX6_read_48 : decode cX6_read 48 = .ok (.ireturn, 1) := by decide +kernel
theorem dX6_read_49 : decode cX6_read 49 = .ok (.iinc 3 1, 3) := by decide +kernel
theorem dX6_read_52 : decode cX6_read 52 = .ok (.goto (-33), 3) := by decide +kernel
theorem dX6_read_55 : decode cX6_read 55 = .ok (.aload_n 0, 1) := by decide +kernel
theorem dX6_read_56 : decode cX6_read 56 = .ok (.getfield 9, 3) := by decide +kernel
theorem dX6_read_59 : decode cX6_read 59 = .ok (.aload_n 0, 1) := by decide +kernel
theorem dX6_read_60 : decode cX6_read 60 = .ok (.getfield 15, 3) := by decide +kernel
theorem dX6_read_63 : decode cX6_read 63 = .ok (.invokevirtual 34, 3) := by decide +kernel
theorem dX6_read_66 : decode cX6_read 66 = .ok (.ifCond .ne 7, 3) := by decide +kernel
theorem dX6_read_69 : decode cX6_read 69 = .ok (.iconst 1, 1) := by decide +kernel
theorem dX6_read_70 : decode cX6_read 70 = .ok (.goto 4, 3) := by decide +kernel
theorem dX6_read_73 : decode cX6_read 73 = .ok (.iconst 0, 1) := by decide +kernel
theorem dX6_read_74 : decode cX6_read 74 = .ok (.ireturn, 1) := by decide +kernel

theorem dX7_beginYear_0 : decode cX7_beginYear 0 = .ok (.aload_n 0, 1) := by decide +kernel
theorem dX7_beginYear_1 : decode cX7_beginYear 1 = .ok (.dup, 1) := by decide +kernel
theorem dX7_beginYear_2 : decode cX7_beginYear 2 = .ok (.getfield 20, 3) := by decide +kernel
theorem dX7_beginYear_5 : decode cX7_beginYear 5 = .ok (.iconst 1, 1) := by decide +kernel
theorem dX7_beginYear_6 : decode cX7_beginYear 6 = .ok (.iadd, 1) := by decide +kernel
theorem dX7_beginYear_7 : decode cX7_beginYear 7 = .ok (.putfield 20, 3) := by decide +kernel
theorem dX7_beginYear_10 : decode cX7_beginYear 10 = .ok (.aload_n 0, 1) := by decide +kernel
theorem dX7_beginYear_11 : decode cX7_beginYear 11 = .ok (.iconst 0, 1) := by decide +kernel
theorem dX7_beginYear_12 : decode cX7_beginYear 12 = .ok (.putfield 7, 3) := by decide +kernel
theorem dX7_beginYear_15 : decode cX7_beginYear 15 = .ok (.aload_n 0, 1) := by decide +kernel
theorem dX7_beginYear_16 : decode cX7_beginYear 16 = .ok (.iconst 0, 1) := by decide +kernel
theorem dX7_beginYear_17 : decode cX7_beginYear 17 = .ok (.putfield 13, 3) := by decide +kernel
theorem dX7_beginYear_20 : decode cX7_beginYear 20 = .ok (.aload_n 0, 1) := by decide +kernel
theorem dX7_beginYear_21 : decode cX7_beginYear 21 = .ok (.iconst 0, 1) := by decide +kernel
theorem dX7_beginYear_22 : decode cX7_beginYear 22 = .ok (.putfield 16, 3) := by decide +kernel
theorem dX7_beginYear_25 : decode cX7_beginYear 25 = .ok (.return_, 1) := by decide +kernel

theorem dX7_init_0 : decode cX7_init 0 = .ok (.aload_n 0, 1) := by decide +kernel
theorem dX7_init_1 : decode cX7_init 1 = .ok (.invokespecial 1, 3) := by decide +kernel
theorem dX7_init_4 : decode cX7_init 4 = .ok (.return_, 1) := by decide +kernel

theorem dX7_passDay_0 : decode cX7_passDay 0 = .ok (.aload_n 0, 1) := by decide +kernel
theorem dX7_passDay_1 : decode cX7_passDay 1 = .ok (.dup, 1) := by decide +kernel
theorem dX7_passDay_2 : decode cX7_passDay 2 = .ok (.getfield 7, 3) := by decide +kernel
theorem dX7_passDay_5 : decode cX7_passDay 5 = .ok (.iconst 1, 1) := by decide +kernel
theorem dX7_passDay_6 : decode cX7_passDay 6 = .ok (.iadd, 1) := by decide +kernel
theorem dX7_passDay_7 : decode cX7_passDay 7 = .ok (.putfield 7, 3) := by decide +kernel
theorem dX7_passDay_10 : decode cX7_passDay 10 = .ok (.aload_n 0, 1) := by decide +kernel
theorem dX7_passDay_11 : decode cX7_passDay 11 = .ok (.iload_n 1, 1) := by decide +kernel
theorem dX7_passDay_12 : decode cX7_passDay 12 = .ok (.ifCond .eq 7, 3) := by decide +kernel
theorem dX7_passDay_15 : decode cX7_passDay 15 = .ok (.iconst 0, 1) := by decide +kernel
theorem dX7_passDay_16 : decode cX7_passDay 16 = .ok (.goto 9, 3) := by decide +kernel
theorem dX7_passDay_19 : decode cX7_passDay 19 = .ok (.aload_n 0, 1) := by decide +kernel
theorem dX7_passDay_20 : decode cX7_passDay 20 = .ok (.getfield 13, 3) := by decide +kernel
theorem dX7_passDay_23 : decode cX7_passDay 23 = .ok (.iconst 1, 1) := by decide +kernel
theorem dX7_passDay_24 : decode cX7_passDay 24 = .ok (.iadd, 1) := by decide +kernel
theorem dX7_passDay_25 : decode cX7_passDay 25 = .ok (.putfield 13, 3) := by decide +kernel
theorem dX7_passDay_28 : decode cX7_passDay 28 = .ok (.aload_n 0, 1) := by decide +kernel
theorem dX7_passDay_29 : decode cX7_passDay 29 = .ok (.getfield 13, 3) := by decide +kernel
theorem dX7_passDay_32 : decode cX7_passDay 32 = .ok (.iconst 5, 1) := by decide +kernel
theorem dX7_passDay_33 : decode cX7_passDay 33 = .ok (.if_icmp .lt 8, 3) := by decide +kernel
theorem dX7_passDay_36 : decode cX7_passDay 36 = .ok (.aload_n 0, 1) := by decide +kernel
theorem dX7_passDay_37 : decode cX7_passDay 37 = .ok (.iconst 1, 1) := by decide +kernel
theorem dX7_passDay_38 : decode cX7_passDay 38 = .ok (.putfield 16, 3) := by decide +kernel
theorem dX7_passDay_41 : decode cX7_passDay 41 = .ok (.return_, 1) := by decide +kernel

theorem dX8_drain_0 : decode cX8_drain 0 = .ok (.aload_n 0, 1) := by decide +kernel
theorem dX8_drain_1 : decode cX8_drain 1 = .ok (.iconst 0, 1) := by decide +kernel
theorem dX8_drain_2 : decode cX8_drain 2 = .ok (.putfield 9, 3) := by decide +kernel
theorem dX8_drain_5 : decode cX8_drain 5 = .ok (.return_, 1) := by decide +kernel

theorem dX8_init_0 : decode cX8_init 0 = .ok (.aload_n 0, 1) := by decide +kernel
theorem dX8_init_1 : decode cX8_init 1 = .ok (.invokespecial 1, 3) := by decide +kernel
theorem dX8_init_4 : decode cX8_init 4 = .ok (.return_, 1) := by decide +kernel

theorem dX8_takeOut_0 : decode cX8_takeOut 0 = .ok (.iload_n 1, 1) := by decide +kernel
theorem dX8_takeOut_1 : decode cX8_takeOut 1 = .ok (.aload_n 0, 1) := by decide +kernel
theorem dX8_takeOut_2 : decode cX8_takeOut 2 = .ok (.getfield 9, 3) := by decide +kernel
theorem dX8_takeOut_5 : decode cX8_takeOut 5 = .ok (.if_icmp .le 5, 3) := by decide +kernel
theorem dX8_takeOut_8 : decode cX8_takeOut 8 = .ok (.iconst 0, 1) := by decide +kernel
theorem dX8_takeOut_9 : decode cX8_takeOut 9 = .ok (.ireturn, 1) := by decide +kernel
theorem dX8_takeOut_10 : decode cX8_takeOut 10 = .ok (.aload_n 0, 1) := by decide +kernel
theorem dX8_takeOut_11 : decode cX8_takeOut 11 = .ok (.dup, 1) := by decide +kernel
theorem dX8_takeOut_12 : decode cX8_takeOut 12 = .ok (.getfield 9, 3) := by decide +kernel
theorem dX8_takeOut_15 : decode cX8_takeOut 15 = .ok (.iload_n 1, 1) := by decide +kernel
theorem dX8_takeOut_16 : decode cX8_takeOut 16 = .ok (.isub, 1) := by decide +kernel
theorem dX8_takeOut_17 : decode cX8_takeOut 17 = .ok (.putfield 9, 3) := by decide +kernel
theorem dX8_takeOut_20 : decode cX8_takeOut 20 = .ok (.iconst 1, 1) := by decide +kernel
theorem dX8_takeOut_21 : decode cX8_takeOut 21 = .ok (.ireturn, 1) := by decide +kernel

theorem dX9_append_0 : decode cX9_append 0 = .ok (.aload_n 0, 1) := by decide +kernel
theorem dX9_append_1 : decode cX9_append 1 = .ok (.iconst 4, 1) := by decide +kernel
theorem dX9_append_2 : decode cX9_append 2 = .ok (.invokevirtual 26, 3) := by decide +kernel
theorem dX9_append_5 : decode cX9_append 5 = .ok (.ifCond .ne 4, 3) := by decide +kernel
theorem dX9_append_8 : decode cX9_append 8 = .ok (.return_, 1) := by decide +kernel
theorem dX9_append_9 : decode cX9_append 9 = .ok (.bipush 24, 2) := by decide +kernel
theorem dX9_append_11 : decode cX9_append 11 = .ok (.istore_n 2, 1) := by decide +kernel
theorem dX9_append_12 : decode cX9_append 12 = .ok (.iload_n 2, 1) := by decide +kernel
theorem dX9_append_13 : decode cX9_append 13 = .ok (.ifCond .lt 32, 3) := by decide +kernel
theorem dX9_append_16 : decode cX9_append 16 = .ok (.aload_n 0, 1) := by decide +kernel
theorem dX9_append_17 : decode cX9_append 17 = .ok (.getfield 11, 3) := by decide +kernel
theorem dX9_append_20 : decode cX9_append 20 = .ok (.aload_n 0, 1) := by decide +kernel
theorem dX9_append_21 : decode cX9_append 21 = .ok (.getfield 22, 3) := by decide +kernel
theorem dX9_append_24 : decode cX9_append 24 = .ok (.iload_n 1, 1) := by decide +kernel
theorem dX9_append_25 : decode cX9_append 25 = .ok (.iload_n 2, 1) := by decide +kernel
theorem dX9_append_26 : decode cX9_append 26 = .ok (.iushr, 1) := by decide +kernel
theorem dX9_append_27 : decode cX9_append 27 = .ok (.i2b, 1) := by decide +kernel
theorem dX9_append_28 : decode cX9_append 28 = .ok (.bastore, 1) := by decide +kernel
theorem dX9_append_29 : decode cX9_append 29 = .ok (.aload_n 0, 1) := by decide +kernel
theorem dX9_append_30 : decode cX9_append 30 = .ok (.dup, 1) := by decide +kernel
theorem dX9_append_31 : decode cX9_append 31 = .ok (.getfield 22, 3) := by decide +kernel
theorem dX9_append_34 : decode cX9_append 34 = .ok (.iconst 1, 1) := by decide +kernel
theorem dX9_append_35 : decode cX9_append 35 = .ok (.iadd, 1) := by decide +kernel
theorem dX9_append_36 : decode cX9_append 36 = .ok (.putfield 22, 3) := by decide +kernel
theorem dX9_append_39 : decode cX9_append 39 = .ok (.iinc 2 (-8), 3) := by decide +kernel
theorem dX9_append_42 : decode cX9_append 42 = .ok (.goto (-30), 3) := by decide +kernel
theorem dX9_append_45 : decode cX9_append 45 = .ok (.return_, 1) := by decide +kernel

theorem dX9_clear_0 : decode cX9_clear 0 = .ok (.aload_n 0, 1) := by decide +kernel
theorem dX9_clear_1 : decode cX9_clear 1 = .ok (.iconst 0, 1) := by decide +kernel
theorem dX9_clear_2 : decode cX9_clear 2 = .ok (.putfield 22, 3) := by decide +kernel
theorem dX9_clear_5 : decode cX9_clear 5 = .ok (.return_, 1) := by decide +kernel

theorem dX9_hasRoomFor_0 : decode cX9_hasRoomFor 0 = .ok (.aload_n 0, 1) := by decide +kernel
theorem dX9_hasRoomFor_1 : decode cX9_hasRoomFor 1 = .ok (.getfield 22, 3) := by decide +kernel
theorem dX9_hasRoomFor_4 : decode cX9_hasRoomFor 4 = .ok (.sipush 600, 3) := by decide +kernel
theorem dX9_hasRoomFor_7 : decode cX9_hasRoomFor 7 = .ok (.iload_n 1, 1) := by decide +kernel
theorem dX9_hasRoomFor_8 : decode cX9_hasRoomFor 8 = .ok (.isub, 1) := by decide +kernel
theorem dX9_hasRoomFor_9 : decode cX9_hasRoomFor 9 = .ok (.if_icmp .gt 7, 3) := by decide +kernel
theorem dX9_hasRoomFor_12 : decode cX9_hasRoomFor 12 = .ok (.iconst 1, 1) := by decide +kernel
theorem dX9_hasRoomFor_13 : decode cX9_hasRoomFor 13 = .ok (.goto 4, 3) := by decide +kernel
theorem dX9_hasRoomFor_16 : decode cX9_hasRoomFor 16 = .ok (.iconst 0, 1) := by decide +kernel
theorem dX9_hasRoomFor_17 : decode cX9_hasRoomFor 17 = .ok (.ireturn, 1) := by decide +kernel

theorem dX9_hasToken_0 : decode cX9_hasToken 0 = .ok (.iload_n 1, 1) := by decide +kernel
theorem dX9_hasToken_1 : decode cX9_hasToken 1 = .ok (.ifCond .lt 15, 3) := by decide +kernel
theorem dX9_hasToken_4 : decode cX9_hasToken 4 = .ok (.iload_n 1, 1) := by decide +kernel
theorem dX9_hasToken_5 : decode cX9_hasToken 5 = .ok (.aload_n 0, 1) := by decide +kernel
theorem dX9_hasToken_6 : decode cX9_hasToken 6 = .ok (.getfield 42, 3) := by decide +kernel
theorem dX9_hasToken_9 : decode cX9_hasToken 9 = .ok (.if_icmp .ge 7, 3) := by decide +kernel
theorem dX9_hasToken_12 : decode cX9_hasToken 12 = .ok (.iconst 1, 1) := by decide +kernel
theorem dX9_hasToken_13 : decode cX9_hasToken 13 = .ok (.goto 4, 3) := by decide +kernel
theorem dX9_hasToken_16 : decode cX9_hasToken 16 = .ok (.iconst 0, 1) := by decide +kernel
theorem dX9_hasToken_17 : decode cX9_hasToken 17 = .ok (.ireturn, 1) := by decide +kernel

theorem dX9_init_0 : decode cX9_init 0 = .ok (.aload_n 0, 1) := by decide +kernel
theorem dX9_init_1 : decode cX9_init 1 = .ok (.invokespecial 3, 3) := by decide +kernel
theorem dX9_init_4 : decode cX9_init 4 = .ok (.aload_n 0, 1) := by decide +kernel
theorem dX9_init_5 : decode cX9_init 5 = .ok (.sipush 600, 3) := by decide +kernel
theorem dX9_init_8 : decode cX9_init 8 = .ok (.newarray .byte, 2) := by decide +kernel
theorem dX9_init_10 : decode cX9_init 10 = .ok (.putfield 11, 3) := by decide +kernel
theorem dX9_init_13 : decode cX9_init 13 = .ok (.aload_n 0, 1) := by decide +kernel
theorem dX9_init_14 : decode cX9_init 14 = .ok (.sipush 600, 3) := by decide +kernel
theorem dX9_init_17 : decode cX9_init 17 = .ok (.newarray .int, 2) := by decide +kernel
theorem dX9_init_19 : decode cX9_init 19 = .ok (.putfield 15, 3) := by decide +kernel
theorem dX9_init_22 : decode cX9_init 22 = .ok (.aload_n 0, 1) := by decide +kernel
theorem dX9_init_23 : decode cX9_init 23 = .ok (.sipush 600, 3) := by decide +kernel
theorem dX9_init_26 : decode cX9_init 26 = .ok (.newarray .int, 2) := by decide +kernel
theorem dX9_init_28 : decode cX9_init 28 = .ok (.putfield 19, 3) := by decide +kernel
theorem dX9_init_31 : decode cX9_init 31 = .ok (.return_, 1) := by decide +kernel

theorem dX9_splitFirst_0 : decode cX9_splitFirst 0 = .ok (.aload_n 0, 1) := by decide +kernel
theorem dX9_splitFirst_1 : decode cX9_splitFirst 1 = .ok (.iconst 0, 1) := by decide +kernel
theorem dX9_splitFirst_2 : decode cX9_splitFirst 2 = .ok (.iload_n 1, 1) := by decide +kernel
theorem dX9_splitFirst_3 : decode cX9_splitFirst 3 = .ok (.aload_n 0, 1) := by decide +kernel
theorem dX9_splitFirst_4 : decode cX9_splitFirst 4 = .ok (.getfield 22, 3) := by decide +kernel
theorem dX9_splitFirst_7 : decode cX9_splitFirst 7 = .ok (.invokestatic 30, 3) := by decide +kernel
theorem dX9_splitFirst_10 : decode cX9_splitFirst 10 = .ok (.invokestatic 36, 3) := by decide +kernel
theorem dX9_splitFirst_13 : decode cX9_splitFirst 13 = .ok (.putfield 39, 3) := by decide +kernel
theorem dX9_splitFirst_16 : decode cX9_splitFirst 16 = .ok (.aload_n 0, 1) := by decide +kernel
theorem dX9_splitFirst_17 : decode cX9_splitFirst 17 = .ok (.iconst 0, 1) := by decide +kernel
theorem dX9_splitFirst_18 : decode cX9_splitFirst 18 = .ok (.putfield 42, 3) := by decide +kernel
theorem dX9_splitFirst_21 : decode cX9_splitFirst 21 = .ok (.iconst 0, 1) := by decide +kernel
theorem dX9_splitFirst_22 : decode cX9_splitFirst 22 = .ok (.istore_n 2, 1) := by decide +kernel
theorem dX9_splitFirst_23 : decode cX9_splitFirst 23 = .ok (.iload_n 2, 1) := by decide +kernel
theorem dX9_splitFirst_24 : decode cX9_splitFirst 24 = .ok (.aload_n 0, 1) := by decide +kernel
theorem dX9_splitFirst_25 : decode cX9_splitFirst 25 = .ok (.getfield 39, 3) := by decide +kernel
theorem dX9_splitFirst_28 : decode cX9_splitFirst 28 = .ok (.if_icmp .ge 51, 3) := by decide +kernel
theorem dX9_splitFirst_31 : decode cX9_splitFirst 31 = .ok (.aload_n 0, 1) := by decide +kernel
theorem dX9_splitFirst_32 : decode cX9_splitFirst 32 = .ok (.iload_n 2, 1) := by decide +kernel
theorem dX9_splitFirst_33 : decode cX9_splitFirst 33 = .ok (.invokevirtual 45, 3) := by decide +kernel
theorem dX9_splitFirst_36 : decode cX9_splitFirst 36 = .ok (.ifCond .eq 37, 3) := by decide +kernel
theorem dX9_splitFirst_39 : decode cX9_splitFirst 39 = .ok (.aload_n 0, 1) := by decide +kernel
theorem dX9_splitFirst_40 : decode cX9_splitFirst 40 = .ok (.getfield 15, 3) := by decide +kernel
theorem dX9_splitFirst_43 : decode cX9_splitFirst 43 = .ok (.aload_n 0, 1) := by decide +kernel
theorem dX9_splitFirst_44 : decode cX9_splitFirst 44 = .ok (.getfield 42, 3) := by decide +kernel
theorem dX9_splitFirst_47 : decode cX9_splitFirst 47 = .ok (.iload_n 2, 1) := by decide +kernel
theorem dX9_splitFirst_48 : decode cX9_splitFirst 48 = .ok (.iastore, 1) := by decide +kernel
theorem dX9_splitFirst_49 : decode cX9_splitFirst 49 = .ok (.aload_n 0, 1) := by decide +kernel
theorem dX9_splitFirst_50 : decode cX9_splitFirst 50 = .ok (.getfield 19, 3) := by decide +kernel
theorem dX9_splitFirst_53 : decode cX9_splitFirst 53 = .ok (.aload_n 0, 1) := by decide +kernel
theorem dX9_splitFirst_54 : decode cX9_splitFirst 54 = .ok (.getfield 42, 3) := by decide +kernel
theorem dX9_splitFirst_57 : decode cX9_splitFirst 57 = .ok (.aload_n 0, 1) := by decide +kernel
theorem dX9_splitFirst_58 : decode cX9_splitFirst 58 = .ok (.iload_n 2, 1) := by decide +kernel
theorem dX9_splitFirst_59 : decode cX9_splitFirst 59 = .ok (.invokevirtual 48, 3) := by decide +kernel
theorem dX9_splitFirst_62 : decode cX9_splitFirst 62 = .ok (.iastore, 1) := by decide +kernel
theorem dX9_splitFirst_63 : decode cX9_splitFirst 63 = .ok (.aload_n 0, 1) := by decide +kernel
theorem dX9_splitFirst_64 : decode cX9_splitFirst 64 = .ok (.dup, 1) := by decide +kernel
theorem dX9_splitFirst_65 : decode cX9_splitFirst 65 = .ok (.getfield 42, 3) := by decide +kernel
theorem dX9_splitFirst_68 : decode cX9_splitFirst 68 = .ok (.iconst 1, 1) := by decide +kernel
theorem dX9_splitFirst_69 : decode cX9_splitFirst 69 = .ok (.iadd, 1) := by decide +kernel
theorem dX9_splitFirst_70 : decode cX9_splitFirst 70 = .ok (.putfield 42, 3) := by decide +kernel
theorem dX9_splitFirst_73 : decode cX9_splitFirst 73 = .ok (.iinc 2 1, 3) := by decide +kernel
theorem dX9_splitFirst_76 : decode cX9_splitFirst 76 = .ok (.goto (-53), 3) := by decide +kernel
theorem dX9_splitFirst_79 : decode cX9_splitFirst 79 = .ok (.return_, 1) := by decide +kernel
