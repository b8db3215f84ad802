theorem dJ0_charAt_5068e_0 : decode cJ0_charAt_5068e 0 = .ok (.aload_n 0, 1) := by decide +kernel
theorem dJ0_charAt_5068e_1 : decode cJ0_charAt_5068e 1 = .ok (.invokevirtual 492, 3) := by decide +kernel
theorem dJ0_charAt_5068e_4 : decode cJ0_charAt_5068e 4 = .ok (.ifCond .eq 12, 3) := by decide +kernel
theorem dJ0_charAt_5068e_7 : decode cJ0_charAt_5068e 7 = .ok (.aload_n 0, 1) := by decide +kernel
theorem dJ0_charAt_5068e_8 : decode cJ0_charAt_5068e 8 = .ok (.getfield 9, 3) := by decide +kernel
theorem dJ0_charAt_5068e_11 : decode cJ0_charAt_5068e 11 = .ok (.iload_n 1, 1) := by decide +kernel
theorem dJ0_charAt_5068e_12 : decode cJ0_charAt_5068e 12 = .ok (.invokestatic 495, 3) := by decide +kernel
theorem dJ0_charAt_5068e_15 : decode cJ0_charAt_5068e 15 = .ok (.ireturn, 1) := by decide +kernel
theorem dJ0_charAt_5068e_16 : decode cJ0_charAt_5068e 16 = .ok (.aload_n 0, 1) := by decide +kernel
theorem dJ0_charAt_5068e_17 : decode cJ0_charAt_5068e 17 = .ok (.getfield 9, 3) := by decide +kernel
theorem dJ0_charAt_5068e_20 : decode cJ0_charAt_5068e 20 = .ok (.iload_n 1, 1) := by decide +kernel
theorem dJ0_charAt_5068e_21 : decode cJ0_charAt_5068e 21 = .ok (.invokestatic 498, 3) := by decide +kernel
theorem dJ0_charAt_5068e_24 : decode cJ0_charAt_5068e 24 = .ok (.ireturn, 1) := by decide +kernel

theorem dJ0_checkIndex_df160_0 : decode cJ0_checkIndex_df160 0 = .ok (.iload_n 0, 1) := by decide +kernel
theorem dJ0_checkIndex_df160_1 : decode cJ0_checkIndex_df160 1 = .ok (.iload_n 1, 1) := by decide +kernel
theorem dJ0_checkIndex_df160_2 : decode cJ0_checkIndex_df160 2 = .ok (.getstatic 1053, 3) := by decide +kernel
theorem dJ0_checkIndex_df160_5 : decode cJ0_checkIndex_df160 5 = .ok (.invokestatic 1059, 3) := by decide +kernel
theorem dJ0_checkIndex_df160_8 : decode cJ0_checkIndex_df160 8 = .ok (.pop, 1) := by decide +kernel
theorem dJ0_checkIndex_df160_9 : decode cJ0_checkIndex_df160 9 = .ok (.return_, 1) := by decide +kernel

theorem dJ0_coder_7d493_0 : decode cJ0_coder_7d493 0 = .ok (.getstatic 38, 3) := by decide +kernel
theorem dJ0_coder_7d493_3 : decode cJ0_coder_7d493 3 = .ok (.ifCond .eq 10, 3) := by decide +kernel
theorem dJ0_coder_7d493_6 : decode cJ0_coder_7d493 6 = .ok (.aload_n 0, 1) := by decide +kernel
theorem dJ0_coder_7d493_7 : decode cJ0_coder_7d493 7 = .ok (.getfield 15, 3) := by decide +kernel
theorem dJ0_coder_7d493_10 : decode cJ0_coder_7d493 10 = .ok (.goto 4, 3) := by decide +kernel
theorem dJ0_coder_7d493_13 : decode cJ0_coder_7d493 13 = .ok (.iconst 1, 1) := by decide +kernel
theorem dJ0_coder_7d493_14 : decode cJ0_coder_7d493 14 = .ok (.ireturn, 1) := by decide +kernel

theorem dJ0_isLatin1_aae02_0 : decode cJ0_isLatin1_aae02 0 = .ok (.getstatic 38, 3) := by decide +kernel
theorem dJ0_isLatin1_aae02_3 : decode cJ0_isLatin1_aae02 3 = .ok (.ifCond .eq 14, 3) := by decide +kernel
theorem dJ0_isLatin1_aae02_6 : decode cJ0_isLatin1_aae02 6 = .ok (.aload_n 0, 1) := by decide +kernel
theorem dJ0_isLatin1_aae02_7 : decode cJ0_isLatin1_aae02 7 = .ok (.getfield 15, 3) := by decide +kernel
theorem dJ0_isLatin1_aae02_10 : decode cJ0_isLatin1_aae02 10 = .ok (.ifCond .ne 7, 3) := by decide +kernel
theorem dJ0_isLatin1_aae02_13 : decode cJ0_isLatin1_aae02 13 = .ok (.iconst 1, 1) := by decide +kernel
theorem dJ0_isLatin1_aae02_14 : decode cJ0_isLatin1_aae02 14 = .ok (.goto 4, 3) := by decide +kernel
theorem dJ0_isLatin1_aae02_17 : decode cJ0_isLatin1_aae02 17 = .ok (.iconst 0, 1) := by decide +kernel
theorem dJ0_isLatin1_aae02_18 : decode cJ0_isLatin1_aae02 18 = .ok (.ireturn, 1) := by decide +kernel

theorem dJ0_length_8abf5_0 : decode cJ0_length_8abf5 0 = .ok (.aload_n 0, 1) := by decide +kernel
theorem dJ0_length_8abf5_1 : decode cJ0_length_8abf5 1 = .ok (.getfield 9, 3) := by decide +kernel
theorem dJ0_length_8abf5_4 : decode cJ0_length_8abf5 4 = .ok (.arraylength, 1) := by decide +kernel
theorem dJ0_length_8abf5_5 : decode cJ0_length_8abf5 5 = .ok (.aload_n 0, 1) := by decide +kernel
theorem dJ0_length_8abf5_6 : decode cJ0_length_8abf5 6 = .ok (.invokevirtual 335, 3) := by decide +kernel
theorem dJ0_length_8abf5_9 : decode cJ0_length_8abf5 9 = .ok (.ishr, 1) := by decide +kernel
theorem dJ0_length_8abf5_10 : decode cJ0_length_8abf5 10 = .ok (.ireturn, 1) := by decide +kernel

theorem dJ1_charAt_3b067_0 : decode cJ1_charAt_3b067 0 = .ok (.iload_n 1, 1) := by decide +kernel
theorem dJ1_charAt_3b067_1 : decode cJ1_charAt_3b067 1 = .ok (.aload_n 0, 1) := by decide +kernel
theorem dJ1_charAt_3b067_2 : decode cJ1_charAt_3b067 2 = .ok (.arraylength, 1) := by decide +kernel
theorem dJ1_charAt_3b067_3 : decode cJ1_charAt_3b067 3 = .ok (.invokestatic 9, 3) := by decide +kernel
theorem dJ1_charAt_3b067_6 : decode cJ1_charAt_3b067 6 = .ok (.aload_n 0, 1) := by decide +kernel
theorem dJ1_charAt_3b067_7 : decode cJ1_charAt_3b067 7 = .ok (.iload_n 1, 1) := by decide +kernel
theorem dJ1_charAt_3b067_8 : decode cJ1_charAt_3b067 8 = .ok (.baload, 1) := by decide +kernel
theorem dJ1_charAt_3b067_9 : decode cJ1_charAt_3b067 9 = .ok (.sipush 255, 3) := by decide +kernel
theorem dJ1_charAt_3b067_12 : decode cJ1_charAt_3b067 12 = .ok (.iand, 1) := by decide +kernel
theorem dJ1_charAt_3b067_13 : decode cJ1_charAt_3b067 13 = .ok (.i2c, 1) := by decide +kernel
theorem dJ1_charAt_3b067_14 : decode cJ1_charAt_3b067 14 = .ok (.ireturn, 1) := by decide +kernel

theorem dJ3_checkIndex_8e157_0 : decode cJ3_checkIndex_8e157 0 = .ok (.iload_n 0, 1) := by decide +kernel
theorem dJ3_checkIndex_8e157_1 : decode cJ3_checkIndex_8e157 1 = .ok (.ifCond .lt 8, 3) := by decide +kernel
theorem dJ3_checkIndex_8e157_4 : decode cJ3_checkIndex_8e157 4 = .ok (.iload_n 0, 1) := by decide +kernel
theorem dJ3_checkIndex_8e157_5 : decode cJ3_checkIndex_8e157 5 = .ok (.iload_n 1, 1) := by decide +kernel
theorem dJ3_checkIndex_8e157_6 : decode cJ3_checkIndex_8e157 6 = .ok (.if_icmp .lt 10, 3) := by decide +kernel
theorem dJ3_checkIndex_8e157_9 : decode cJ3_checkIndex_8e157 9 = .ok (.aload_n 2, 1) := by decide +kernel
theorem dJ3_checkIndex_8e157_10 : decode cJ3_checkIndex_8e157 10 = .ok (.iload_n 0, 1) := by decide +kernel
theorem dJ3_checkIndex_8e157_11 : decode cJ3_checkIndex_8e157 11 = .ok (.iload_n 1, 1) := by decide +kernel
theorem dJ3_checkIndex_8e157_12 : decode cJ3_checkIndex_8e157 12 = .ok (.invokestatic 95, 3) := by decide +kernel
theorem dJ3_checkIndex_8e157_15 : decode cJ3_checkIndex_8e157 15 = .ok (.athrow, 1) := by decide +kernel
theorem dJ3_checkIndex_8e157_16 : decode cJ3_checkIndex_8e157 16 = .ok (.iload_n 0, 1) := by decide +kernel
theorem dJ3_checkIndex_8e157_17 : decode cJ3_checkIndex_8e157 17 = .ok (.ireturn, 1) := by decide +kernel

theorem dJ7_fill_53178_0 : decode cJ7_fill_53178 0 = .ok (.iconst 0, 1) := by decide +kernel
theorem dJ7_fill_53178_1 : decode cJ7_fill_53178 1 = .ok (.istore_n 2, 1) := by decide +kernel
theorem dJ7_fill_53178_2 : decode cJ7_fill_53178 2 = .ok (.aload_n 0, 1) := by decide +kernel
theorem dJ7_fill_53178_3 : decode cJ7_fill_53178 3 = .ok (.arraylength, 1) := by decide +kernel
theorem dJ7_fill_53178_4 : decode cJ7_fill_53178 4 = .ok (.istore_n 3, 1) := by decide +kernel
theorem dJ7_fill_53178_5 : decode cJ7_fill_53178 5 = .ok (.iload_n 2, 1) := by decide +kernel
theorem dJ7_fill_53178_6 : decode cJ7_fill_53178 6 = .ok (.iload_n 3, 1) := by decide +kernel
theorem dJ7_fill_53178_7 : decode cJ7_fill_53178 7 = .ok (.if_icmp .ge 13, 3) := by decide +kernel
theorem dJ7_fill_53178_10 : decode cJ7_fill_53178 10 = .ok (.aload_n 0, 1) := by decide +kernel
theorem dJ7_fill_53178_11 : decode cJ7_fill_53178 11 = .ok (.iload_n 2, 1) := by decide +kernel
theorem dJ7_fill_53178_12 : decode cJ7_fill_53178 12 = .ok (.iload_n 1, 1) := by decide +kernel
theorem dJ7_fill_53178_13 : decode cJ7_fill_53178 13 = .ok (.iastore, 1) := by decide +kernel
theorem dJ7_fill_53178_14 : decode cJ7_fill_53178 14 = .ok (.iinc 2 1, 3) := by decide +kernel
theorem dJ7_fill_53178_17 : decode cJ7_fill_53178 17 = .ok (.goto (-12), 3) := by decide +kernel
theorem dJ7_fill_53178_20 : decode cJ7_fill_53178 20 = .ok (.return_, 1) := by decide +kernel

theorem dX0_add_0 : decode cX0_add 0 = .ok (.aload_n 0, 1) := by decide +kernel
theorem dX0_add_1 : decode cX0_add 1 = .ok (.getfield 33, 3) := by decide +kernel
theorem dX0_add_4 : decode cX0_add 4 = .ok (.bipush 60, 2) := by decide +kernel
theorem dX0_add_6 : decode cX0_add 6 = .ok (.if_icmp .lt 5, 3) := by decide +kernel
theorem dX0_add_9 : decode cX0_add 9 = .ok (.iconst 0, 1) := by decide +kernel
theorem dX0_add_10 : decode cX0_add 10 = .ok (.ireturn, 1) := by decide +kernel
theorem dX0_add_11 : decode cX0_add 11 = .ok (.aload_n 0, 1) := by decide +kernel
theorem dX0_add_12 : decode cX0_add 12 = .ok (.getfield 9, 3) := by decide +kernel
theorem dX0_add_15 : decode cX0_add 15 = .ok (.aload_n 0, 1) := by decide +kernel
theorem dX0_add_16 : decode cX0_add 16 = .ok (.getfield 33, 3) := by decide +kernel
theorem dX0_add_19 : decode cX0_add 19 = .ok (.iload_n 1, 1) := by decide +kernel
theorem dX0_add_20 : decode cX0_add 20 = .ok (.iastore, 1) := by decide +kernel
theorem dX0_add_21 : decode cX0_add 21 = .ok (.aload_n 0, 1) := by decide +kernel
theorem dX0_add_22 : decode cX0_add 22 = .ok (.getfield 15, 3) := by decide +kernel
theorem dX0_add_25 : decode cX0_add 25 = .ok (.aload_n 0, 1) := by decide +kernel
theorem dX0_add_26 : decode cX0_add 26 = .ok (.getfield 33, 3) := by decide +kernel
theorem dX0_add_29 : decode cX0_add 29 = .ok (.iload_n 2, 1) := by decide +kernel
theorem dX0_add_30 : decode cX0_add 30 = .ok (.iastore, 1) := by decide +kernel
theorem dX0_add_31 : decode cX0_add 31 = .ok (.aload_n 0, 1) := by decide +kernel
theorem dX0_add_32 : decode cX0_add 32 = .ok (.getfield 18, 3) := by decide +kernel
theorem dX0_add_35 : decode cX0_add 35 = .ok (.aload_n 0, 1) := by decide +kernel
theorem dX0_add_36 : decode cX0_add 36 = .ok (.getfield 33, 3) := by decide +kernel
theorem dX0_add_39 : decode cX0_add 39 = .ok (.iload_n 3, 1) := by decide +kernel
theorem dX0_add_40 : decode cX0_add 40 = .ok (.iastore, 1) := by decide +kernel
theorem dX0_add_41 : decode cX0_add 41 = .ok (.aload_n 0, 1) := by decide +kernel
theorem dX0_add_42 : decode cX0_add 42 = .ok (.getfield 21, 3) := by decide +kernel
theorem dX0_add_45 : decode cX0_add 45 = .ok (.aload_n 0, 1) := by decide +kernel
theorem dX0_add_46 : decode cX0_add 46 = .ok (.getfield 33, 3) := by decide +kernel
theorem dX0_add_49 : decode cX0_add 49 = .ok (.iload 4, 2) := by decide +kernel
theorem dX0_add_51 : decode cX0_add 51 = .ok (.iastore, 1) := by decide +kernel
theorem dX0_add_52 : decode cX0_add 52 = .ok (.iconst 0, 1) := by decide +kernel
theorem dX0_add_53 : decode cX0_add 53 = .ok (.istore 5, 2) := by decide +kernel
theorem dX0_add_55 : decode cX0_add 55 = .ok (.iload 5, 2) := by decide +kernel
theorem dX0_add_57 : decode cX0_add 57 = .ok (.iconst 2, 1) := by decide +kernel
theorem dX0_add_58 : decode cX0_add 58 = .ok (.if_icmp .ge 22, 3) := by decide +kernel
theorem dX0_add_61 : decode cX0_add 61 = .ok (.aload_n 0, 1) := by decide +kernel
theorem dX0_add_62 : decode cX0_add 62 = .ok (.getfield 30, 3) := by decide +kernel
theorem dX0_add_65 : decode cX0_add 65 = .ok (.iload 5, 2) := by decide +kernel
theorem dX0_add_67 : decode cX0_add 67 = .ok (.aaload, 1) := by decide +kernel
theorem dX0_add_68 : decode cX0_add 68 = .ok (.aload_n 0, 1) := by decide +kernel
theorem dX0_add_69 : decode cX0_add 69 = .ok (.getfield 33, 3) := by decide +kernel
theorem dX0_add_72 : decode cX0_add 72 = .ok (.iconst (-1), 1) := by decide +kernel
theorem dX0_add_73 : decode cX0_add 73 = .ok (.iastore, 1) := by decide +kernel
theorem dX0_add_74 : decode cX0_add 74 = .ok (.iinc 5 1, 3) := by decide +kernel
theorem dX0_add_77 : decode cX0_add 77 = .ok (.goto (-22), 3) := by decide +kernel
theorem dX0_add_80 : decode cX0_add 80 = .ok (.aload_n 0, 1) := by decide +kernel
theorem dX0_add_81 : decode cX0_add 81 = .ok (.dup, 1) := by decide +kernel
theorem dX0_add_82 : decode cX0_add 82 = .ok (.getfield 33, 3) := by decide +kernel
theorem dX0_add_85 : decode cX0_add 85 = .ok (.iconst 1, 1) := by decide +kernel
theorem dX0_add_86 : decode cX0_add 86 = .ok (.iadd, 1) := by decide +kernel
theorem dX0_add_87 : decode cX0_add 87 = .ok (.putfield 33, 3) := by decide +kernel
theorem dX0_add_90 : decode cX0_add 90 = .ok (.iconst 1, 1) := by decide +kernel
theorem dX0_add_91 : decode cX0_add 91 = .ok (.ireturn, 1) := by decide +kernel

theorem dX0_dayOf_0 : decode cX0_dayOf 0 = .ok (.aload_n 0, 1) := by decide +kernel
theorem dX0_dayOf_1 : decode cX0_dayOf 1 = .ok (.iload_n 1, 1) := by decide +kernel
theorem dX0_dayOf_2 : decode cX0_dayOf 2 = .ok (.invokevirtual 37, 3) := by decide +kernel
theorem dX0_dayOf_5 : decode cX0_dayOf 5 = .ok (.ifCond .eq 12, 3) := by decide +kernel
theorem dX0_dayOf_8 : decode cX0_dayOf 8 = .ok (.aload_n 0, 1) := by decide +kernel
theorem dX0_dayOf_9 : decode cX0_dayOf 9 = .ok (.getfield 18, 3) := by decide +kernel
theorem dX0_dayOf_12 : decode cX0_dayOf 12 = .ok (.iload_n 1, 1) := by decide +kernel
theorem dX0_dayOf_13 : decode cX0_dayOf 13 = .ok (.iaload, 1) := by decide +kernel
theorem dX0_dayOf_14 : decode cX0_dayOf 14 = .ok (.goto 4, 3) := by decide +kernel
theorem dX0_dayOf_17 : decode cX0_dayOf 17 = .ok (.iconst (-1), 1) := by decide +kernel
theorem dX0_dayOf_18 : decode cX0_dayOf 18 = .ok (.ireturn, 1) := by decide +kernel

theorem dX0_has_0 : decode cX0_has 0 = .ok (.iload_n 1, 1) := by decide +kernel
theorem dX0_has_1 : decode cX0_has 1 = .ok (.ifCond .lt 15, 3) := by decide +kernel
theorem dX0_has_4 : decode cX0_has 4 = .ok (.iload_n 1, 1) := by decide +kernel
theorem dX0_has_5 : decode cX0_has 5 = .ok (.aload_n 0, 1) := by decide +kernel
theorem dX0_has_6 : decode cX0_has 6 = .ok (.getfield 33, 3) := by decide +kernel
theorem dX0_has_9 : decode cX0_has 9 = .ok (.if_icmp .ge 7, 3) := by decide +kernel
theorem dX0_has_12 : decode cX0_has 12 = .ok (.iconst 1, 1) := by decide +kernel
theorem dX0_has_13 : decode cX0_has 13 = .ok (.goto 4, 3) := by decide +kernel
theorem dX0_has_16 : decode cX0_has 16 = .ok (.iconst 0, 1) := by decide +kernel
theorem dX0_has_17 : decode cX0_has 17 = .ok (.ireturn, 1) := by decide +kernel

theorem dX0_init_0 : decode cX0_init 0 = .ok (.aload_n 0, 1) := by decide +kernel
theorem dX0_init_1 : decode cX0_init 1 = .ok (.invokespecial 3, 3) := by decide +kernel
theorem dX0_init_4 : decode cX0_init 4 = .ok (.aload_n 0, 1) := by decide +kernel
theorem dX0_init_5 : decode cX0_init 5 = .ok (.bipush 60, 2) := by decide +kernel
theorem dX0_init_7 : decode cX0_init 7 = .ok (.newarray .int, 2) := by decide +kernel
theorem dX0_init_9 : decode cX0_init 9 = .ok (.putfield 9, 3) := by decide +kernel
theorem dX0_init_12 : decode cX0_init 12 = .ok (.aload_n 0, 1) := by decide +kernel
theorem dX0_init_13 : decode cX0_init 13 = .ok (.bipush 60, 2) := by decide +kernel
theorem dX0_init_15 : decode cX0_init 15 = .ok (.newarray .int, 2) := by decide +kernel
theorem dX0_init_17 : decode cX0_init 17 = .ok (.putfield 15, 3) := by decide +kernel
theorem dX0_init_20 : decode cX0_init 20 = .ok (.aload_n 0, 1) := by decide +kernel
theorem dX0_init_21 : decode cX0_init 21 = .ok (.bipush 60, 2) := by decide +kernel
theorem dX0_init_23 : decode cX0_init 23 = .ok (.newarray .int, 2) := by decide +kernel
theorem dX0_init_25 : decode cX0_init 25 = .ok (.putfield 18, 3) := by decide +kernel
theorem dX0_init_28 : decode cX0_init 28 = .ok (.aload_n 0, 1) := by decide +kernel
theorem dX0_init_29 : decode cX0_init 29 = .ok (.bipush 60, 2) := by decide +kernel
theorem dX0_init_31 : decode cX0_init 31 = .ok (.newarray .int, 2) := by decide +kernel
theorem dX0_init_33 : decode cX0_init 33 = .ok (.putfield 21, 3) := by decide +kernel
theorem dX0_init_36 : decode cX0_init 36 = .ok (.aload_n 0, 1) := by decide +kernel
theorem dX0_init_37 : decode cX0_init 37 = .ok (.bipush 60, 2) := by decide +kernel
theorem dX0_init_39 : decode cX0_init 39 = .ok (.newarray .boolean, 2) := by decide +kernel
theorem dX0_init_41 : decode cX0_init 41 = .ok (.putfield 24, 3) := by decide +kernel
theorem dX0_init_44 : decode cX0_init 44 = .ok (.aload_n 0, 1) := by decide +kernel
theorem dX0_init_45 : decode cX0_init 45 = .ok (.iconst 2, 1) := by decide +kernel
theorem dX0_init_46 : decode cX0_init 46 = .ok (.bipush 60, 2) := by decide +kernel
theorem dX0_init_48 : decode cX0_init 48 = .ok (.multianewarray 28 2, 4) := by decide +kernel
theorem dX0_init_52 : decode cX0_init 52 = .ok (.putfield 30, 3) := by decide +kernel
theorem dX0_init_55 : decode cX0_init 55 = .ok (.return_, 1) := by decide +kernel

theorem dX0_isSold_0 : decode cX0_isSold 0 = .ok (.aload_n 0, 1) := by decide +kernel
theorem dX0_isSold_1 : decode cX0_isSold 1 = .ok (.iload_n 1, 1) := by decide +kernel
theorem dX0_isSold_2 : decode cX0_isSold 2 = .ok (.invokevirtual 37, 3) := by decide +kernel
theorem dX0_isSold_5 : decode cX0_isSold 5 = .ok (.ifCond .eq 16, 3) := by decide +kernel
theorem dX0_isSold_8 : decode cX0_isSold 8 = .ok (.aload_n 0, 1) := by decide +kernel
theorem dX0_isSold_9 : decode cX0_isSold 9 = .ok (.getfield 24, 3) := by decide +kernel
theorem dX0_isSold_12 : decode cX0_isSold 12 = .ok (.iload_n 1, 1) := by decide +kernel
theorem dX0_isSold_13 : decode cX0_isSold 13 = .ok (.baload, 1) := by decide +kernel
theorem dX0_isSold_14 : decode cX0_isSold 14 = .ok (.ifCond .eq 7, 3) := by decide +kernel
theorem dX0_isSold_17 : decode cX0_isSold 17 = .ok (.iconst 1, 1) := by decide +kernel
theorem dX0_isSold_18 : decode cX0_isSold 18 = .ok (.goto 4, 3) := by decide +kernel
theorem dX0_isSold_21 : decode cX0_isSold 21 = .ok (.iconst 0, 1) := by decide +kernel
theorem dX0_isSold_22 : decode cX0_isSold 22 = .ok (.ireturn, 1) := by decide +kernel

theorem dX0_lookAt_0 : decode cX0_lookAt 0 = .ok (.aload_n 0, 1) := by decide +kernel
theorem dX0_lookAt_1 : decode cX0_lookAt 1 = .ok (.iload_n 1, 1) := by decide +kernel
theorem dX0_lookAt_2 : decode cX0_lookAt 2 = .ok (.invokevirtual 37, 3) := by decide +kernel
theorem dX0_lookAt_5 : decode cX0_lookAt 5 = .ok (.ifCond .eq 23, 3) := by decide +kernel
theorem dX0_lookAt_8 : decode cX0_lookAt 8 = .ok (.iload_n 2, 1) := by decide +kernel
theorem dX0_lookAt_9 : decode cX0_lookAt 9 = .ok (.iconst 0, 1) := by decide +kernel
theorem dX0_lookAt_10 : decode cX0_lookAt 10 = .ok (.iconst 1, 1) := by decide +kernel
theorem dX0_lookAt_11 : decode cX0_lookAt 11 = .ok (.invokestatic 41, 3) := by decide +kernel
theorem dX0_lookAt_14 : decode cX0_lookAt 14 = .ok (.ifCond .eq 14, 3) := by decide +kernel
theorem dX0_lookAt_17 : decode cX0_lookAt 17 = .ok (.aload_n 0, 1) := by decide +kernel
theorem dX0_lookAt_18 : decode cX0_lookAt 18 = .ok (.getfield 30, 3) := by decide +kernel
theorem dX0_lookAt_21 : decode cX0_lookAt 21 = .ok (.iload_n 2, 1) := by decide +kernel
theorem dX0_lookAt_22 : decode cX0_lookAt 22 = .ok (.aaload, 1) := by decide +kernel
theorem dX0_lookAt_23 : decode cX0_lookAt 23 = .ok (.iload_n 1, 1) := by decide +kernel
theorem dX0_lookAt_24 : decode cX0_lookAt 24 = .ok (.iaload, 1) := by decide +kernel
theorem dX0_lookAt_25 : decode cX0_lookAt 25 = .ok (.goto 4, 3) := by decide +kernel
theorem dX0_lookAt_28 : decode cX0_lookAt 28 = .ok (.iconst (-1), 1) := by decide +kernel
theorem dX0_lookAt_29 : decode cX0_lookAt 29 = .ok (.ireturn, 1) := by decide +kernel

theorem dX0_markSold_0 : decode cX0_markSold 0 = .ok (.aload_n 0, 1) := by decide +kernel
theorem dX0_markSold_1 : decode cX0_markSold 1 = .ok (.iload_n 1, 1) := by decide +kernel
theorem dX0_markSold_2 : decode cX0_markSold 2 = .ok (.invokevirtual 37, 3) := by decide +kernel
theorem dX0_markSold_5 : decode cX0_markSold 5 = .ok (.ifCond .eq 10, 3) := by decide +kernel
theorem dX0_markSold_8 : decode cX0_markSold 8 = .ok (.aload_n 0, 1) := by decide +kernel
theorem dX0_markSold_9 : decode cX0_markSold 9 = .ok (.getfield 24, 3) := by decide +kernel
theorem dX0_markSold_12 : decode cX0_markSold 12 = .ok (.iload_n 1, 1) := by decide +kernel
theorem dX0_markSold_13 : decode cX0_markSold 13 = .ok (.iconst 1, 1) := by decide +kernel
theorem dX0_markSold_14 : decode cX0_markSold 14 = .ok (.bastore, 1) := by decide +kernel
theorem dX0_markSold_15 : decode cX0_markSold 15 = .ok (.return_, 1) := by decide +kernel

theorem dX0_partsOf_0 : decode cX0_partsOf 0 = .ok (.aload_n 0, 1) := by decide +kernel
theorem dX0_partsOf_1 : decode cX0_partsOf 1 = .ok (.iload_n 1, 1) := by decide +kernel
theorem dX0_partsOf_2 : decode cX0_partsOf 2 = .ok (.invokevirtual 37, 3) := by decide +kernel
theorem dX0_partsOf_5 : decode cX0_partsOf 5 = .ok (.ifCond .eq 12, 3) := by decide +kernel
theorem dX0_partsOf_8 : decode cX0_partsOf 8 = .ok (.aload_n 0, 1) := by decide +kernel
theorem dX0_partsOf_9 : decode cX0_partsOf 9 = .ok (.getfield 9, 3) := by decide +kernel
theorem dX0_partsOf_12 : decode cX0_partsOf 12 = .ok (.iload_n 1, 1) := by decide +kernel
theorem dX0_partsOf_13 : decode cX0_partsOf 13 = .ok (.iaload, 1) := by decide +kernel
theorem dX0_partsOf_14 : decode cX0_partsOf 14 = .ok (.goto 4, 3) := by decide +kernel
theorem dX0_partsOf_17 : decode cX0_partsOf 17 = .ok (.iconst (-1), 1) := by decide +kernel
theorem dX0_partsOf_18 : decode cX0_partsOf 18 = .ok (.ireturn, 1) := by decide +kernel

theorem dX0_strengthOf_0 : decode cX0_strengthOf 0 = .ok (.aload_n 0, 1) := by decide +kernel
theorem dX0_strengthOf_1 : decode cX0_strengthOf 1 = .ok (.iload_n 1, 1) := by decide +kernel
theorem dX0_strengthOf_2 : decode cX0_strengthOf 2 = .ok (.invokevirtual 37, 3) := by decide +kernel
theorem dX0_strengthOf_5 : decode cX0_strengthOf 5 = .ok (.ifCond .eq 12, 3) := by decide +kernel
theorem dX0_strengthOf_8 : decode cX0_strengthOf 8 = .ok (.aload_n 0, 1) := by decide +kernel
theorem dX0_strengthOf_9 : decode cX0_strengthOf 9 = .ok (.getfield 15, 3) := by decide +kernel
theorem dX0_strengthOf_12 : decode cX0_strengthOf 12 = .ok (.iload_n 1, 1) := by decide +kernel
theorem dX0_strengthOf_13 : decode cX0_strengthOf 13 = .ok (.iaload, 1) := by decide +kernel
theorem dX0_strengthOf_14 : decode cX0_strengthOf 14 = .ok (.goto 4, 3) := by decide +kernel
theorem dX0_strengthOf_17 : decode cX0_strengthOf 17 = .ok (.iconst (-1), 1) := by decide +kernel
theorem dX0_strengthOf_18 : decode cX0_strengthOf 18 = .ok (.ireturn, 1) := by decide +kernel

theorem dX0_takeLook_0 : decode cX0_takeLook 0 = .ok (.aload_n 0, 1) := by decide +kernel
theorem dX0_takeLook_1 : decode cX0_takeLook 1 = .ok (.iload_n 1, 1) := by decide +kernel
theorem dX0_takeLook_2 : decode cX0_takeLook 2 = .ok (.invokevirtual 37, 3) := by decide +kernel
theorem dX0_takeLook_5 : decode cX0_takeLook 5 = .ok (.ifCond .eq 24, 3) := by decide +kernel
theorem dX0_takeLook_8 : decode cX0_takeLook 8 = .ok (.iload_n 2, 1) := by decide +kernel
theorem dX0_takeLook_9 : decode cX0_takeLook 9 = .ok (.iconst 0, 1) := by decide +kernel
theorem dX0_takeLook_10 : decode cX0_takeLook 10 = .ok (.iconst 1, 1) := by decide +kernel
theorem dX0_takeLook_11 : decode cX0_takeLook 11 = .ok (.invokestatic 41, 3) := by decide +kernel
theorem dX0_takeLook_14 : decode cX0_takeLook 14 = .ok (.ifCond .eq 15, 3) := by decide +kernel
theorem dX0_takeLook_17 : decode cX0_takeLook 17 = .ok (.aload_n 0, 1) := by decide +kernel
theorem dX0_takeLook_18 : decode cX0_takeLook 18 = .ok (.getfield 30, 3) := by decide +kernel
theorem dX0_takeLook_21 : decode cX0_takeLook 21 = .ok (.iload_n 2, 1) := by decide +kernel
theorem dX0_takeLook_22 : decode cX0_takeLook 22 = .ok (.aaload, 1) := by decide +kernel
theorem dX0_takeLook_23 : decode cX0_takeLook 23 = .ok (.iload_n 1, 1) := by decide +kernel
theorem dX0_takeLook_24 : decode cX0_takeLook 24 = .ok (.iaload, 1) := by decide +kernel
theorem dX0_takeLook_25 : decode cX0_takeLook 25 = .ok (.iconst (-1), 1) := by decide +kernel
theorem dX0_takeLook_26 : decode cX0_takeLook 26 = .ok (.if_icmp .eq 5, 3) := by decide +kernel
theorem dX0_takeLook_29 : decode cX0_takeLook 29 = .ok (.iconst 0, 1) := by decide +kernel
theorem dX0_takeLook_30 : decode cX0_takeLook 30 = .ok (.ireturn, 1) := by decide +kernel
theorem dX0_takeLook_31 : decode cX0_takeLook 31 = .ok (.aload_n 0, 1) := by decide +kernel
theorem dX0_takeLook_32 : decode cX0_takeLook 32 = .ok (.getfield 30, 3) := by decide +kernel
theorem dX0_takeLook_35 : decode cX0_takeLook 35 = .ok (.iload_n 2, 1) := by decide +kernel
theorem dX0_takeLook_36 : decode cX0_takeLook 36 = .ok (.aaload, 1) := by decide +kernel
theorem dX0_takeLook_37 : decode cX0_takeLook 37 = .ok (.iload_n 1, 1) := by decide +kernel
theorem dX0_takeLook_38 : decode cX0_takeLook 38 = .ok (.iload_n 3, 1) := by decide +kernel
theorem dX0_takeLook_39 : decode cX0_takeLook 39 = .ok (.iastore, 1) := by decide +kernel
theorem dX0_takeLook_40 : decode cX0_takeLook 40 = .ok (.iconst 1, 1) := by decide +kernel
theorem dX0_takeLook_41 : decode cX0_takeLook 41 = .ok (.ireturn, 1) := by decide +kernel

theorem dX0_tell_0 : decode cX0_tell 0 = .ok (.aload_n 0, 1) := by decide +kernel
theorem dX0_tell_1 : decode cX0_tell 1 = .ok (.iload_n 1, 1) := by decide +kernel
theorem dX0_tell_2 : decode cX0_tell 2 = .ok (.invokevirtual 37, 3) := by decide +kernel
theorem dX0_tell_5 : decode cX0_tell 5 = .ok (.ifCond .ne 5, 3) := by decide +kernel
theorem dX0_tell_8 : decode cX0_tell 8 = .ok (.iconst (-1), 1) := by decide +kernel
theorem dX0_tell_9 : decode cX0_tell 9 = .ok (.ireturn, 1) := by decide +kernel
theorem dX0_tell_10 : decode cX0_tell 10 = .ok (.iload_n 2, 1) := by decide +kernel
theorem dX0_tell_11 : decode cX0_tell 11 = .ok (.tableswitch 106 0 7 #[45, 52, 59, 66, 106, 73, 88, 97], 45) := by decide +kernel
theorem dX0_tell_56 : decode cX0_tell 56 = .ok (.aload_n 0, 1) := by decide +kernel
theorem dX0_tell_57 : decode cX0_tell 57 = .ok (.getfield 9, 3) := by decide +kernel
theorem dX0_tell_60 : decode cX0_tell 60 = .ok (.iload_n 1, 1) := by decide +kernel
theorem dX0_tell_61 : decode cX0_tell 61 = .ok (.iaload, 1) := by decide +kernel
theorem dX0_tell_62 : decode cX0_tell 62 = .ok (.ireturn, 1) := by decide +kernel
theorem dX0_tell_63 : decode cX0_tell 63 = .ok (.aload_n 0, 1) := by decide +kernel
theorem dX0_tell_64 : decode cX0_tell 64 = .ok (.getfield 15, 3) := by decide +kernel
theorem dX0_tell_67 : decode cX0_tell 67 = .ok (.iload_n 1, 1) := by decide +kernel
theorem dX0_tell_68 : decode cX0_tell 68 = .ok (.iaload, 1) := by decide +kernel
theorem dX0_tell_69 : decode cX0_tell 69 = .ok (.ireturn, 1) := by decide +kernel
theorem dX0_tell_70 : decode cX0_tell 70 = .ok (.aload_n 0, 1) := by decide +kernel
theorem dX0_tell_71 : decode cX0_tell 71 = .ok (.getfield 18, 3) := by decide +kernel
theorem dX0_tell_74 : decode cX0_tell 74 = .ok (.iload_n 1, 1) := by decide +kernel
theorem dX0_tell_75 : decode cX0_tell 75 = .ok (.iaload, 1) := by decide +kernel
theorem dX0_tell_76 : decode cX0_tell 76 = .ok (.ireturn, 1) := by decide +kernel
theorem dX0_tell_77 : decode cX0_tell 77 = .ok (.aload_n 0, 1) := by decide +kernel
theorem dX0_tell_78 : decode cX0_tell 78 = .ok (.getfield 21, 3) := by decide +kernel
theorem dX0_tell_81 : decode cX0_tell 81 = .ok (.iload_n 1, 1) := by decide +kernel
theorem dX0_tell_82 : decode cX0_tell 82 = .ok (.iaload, 1) := by decide +kernel
theorem dX0_tell_83 : decode cX0_tell 83 = .ok (.ireturn, 1) := by decide +kernel
theorem dX0_tell_84 : decode cX0_tell 84 = .ok (.aload_n 0, 1) := by decide +kernel
theorem dX0_tell_85 : decode cX0_tell 85 = .ok (.getfield 24, 3) := by decide +kernel
theorem dX0_tell_88 : decode cX0_tell 88 = .ok (.iload_n 1, 1) := by decide +kernel
theorem dX0_tell_89 : decode cX0_tell 89 = .ok (.baload, 1) := by decide +kernel
theorem dX0_tell_90 : decode cX0_tell 90 = .ok (.ifCond .eq 7, 3) := by decide +kernel
theorem dX0_tell_93 : decode cX0_tell 93 = .ok (.iconst 1, 1) := by decide +kernel
theorem dX0_tell_94 : decode cX0_tell 94 = .ok (.goto 4, 3) := by decide +kernel
theorem dX0_tell_97 : decode cX0_tell 97 = .ok (.iconst 0, 1) := by decide +kernel
theorem dX0_tell_98 : decode cX0_tell 98 = .ok (.ireturn, 1) := by decide +kernel
theorem dX0_tell_99 : decode cX0_tell 99 = .ok (.aload_n 0, 1) := by decide +kernel
theorem dX0_tell_100 : decode cX0_tell 100 = .ok (.getfield 30, 3) := by decide +kernel
theorem dX0_tell_103 : decode cX0_tell 103 = .ok (.iconst 0, 1) := by decide +kernel
theorem dX0_tell_104 : decode cX0_tell 104 = .ok (.aaload, 1) := by decide +kernel
theorem dX0_tell_105 : decode cX0_tell 105 = .ok (.iload_n 1, 1) := by decide +kernel
theorem dX0_tell_106 : decode cX0_tell 106 = .ok (.iaload, 1) := by decide +kernel
theorem dX0_tell_107 : decode cX0_tell 107 = .ok (.ireturn, 1) := by decide +kernel
theorem dX0_tell_108 : decode cX0_tell 108 = .ok (.aload_n 0, 1) := by decide +kernel
theorem dX0_tell_109 : decode cX0_tell 109 = .ok (.getfield 30, 3) := by decide +kernel
theorem dX0_tell_112 : decode cX0_tell 112 = .ok (.iconst 1, 1) := by decide +kernel
theorem dX0_tell_113 : decode cX0_tell 113 = .ok (.aaload, 1) := by decide +kernel
theorem dX0_tell_114 : decode cX0_tell 114 = .ok (.iload_n 1, 1) := by decide +kernel
theorem dX0_tell_115 : decode cX0_tell 115 = .ok (.iaload, 1) := by decide +kernel
theorem dX0_tell_116 : decode cX0_tell 116 = .ok (.ireturn, 1) := by decide +kernel
theorem dX0_tell_117 : decode cX0_tell 117 = .ok (.iconst (-1), 1) := by decide +kernel
theorem dX0_tell_118 : decode cX0_tell 118 = .ok (.ireturn, 1) := by decide +kernel

theorem dX10_add_0 : decode cX10_add 0 = .ok (.aload_n 0, 1) := by decide +kernel
theorem dX10_add_1 : decode cX10_add 1 = .ok (.getfield 37, 3) := by decide +kernel
theorem dX10_add_4 : decode cX10_add 4 = .ok (.bipush 40, 2) := by decide +kernel
theorem dX10_add_6 : decode cX10_add 6 = .ok (.if_icmp .ge 11, 3) := by decide +kernel
theorem dX10_add_9 : decode cX10_add 9 = .ok (.aload_n 0, 1) := by decide +kernel
theorem dX10_add_10 : decode cX10_add 10 = .ok (.iload_n 1, 1) := by decide +kernel
theorem dX10_add_11 : decode cX10_add 11 = .ok (.invokevirtual 41, 3) := by decide +kernel
theorem dX10_add_14 : decode cX10_add 14 = .ok (.ifCond .ne 5, 3) := by decide +kernel
theorem dX10_add_17 : decode cX10_add 17 = .ok (.iconst (-1), 1) := by decide +kernel
theorem dX10_add_18 : decode cX10_add 18 = .ok (.ireturn, 1) := by decide +kernel
theorem dX10_add_19 : decode cX10_add 19 = .ok (.aload_n 0, 1) := by decide +kernel
theorem dX10_add_20 : decode cX10_add 20 = .ok (.getfield 37, 3) := by decide +kernel
theorem dX10_add_23 : decode cX10_add 23 = .ok (.istore 5, 2) := by decide +kernel
theorem dX10_add_25 : decode cX10_add 25 = .ok (.aload_n 0, 1) := by decide +kernel
theorem dX10_add_26 : decode cX10_add 26 = .ok (.dup, 1) := by decide +kernel
theorem dX10_add_27 : decode cX10_add 27 = .ok (.getfield 37, 3) := by decide +kernel
theorem dX10_add_30 : decode cX10_add 30 = .ok (.iconst 1, 1) := by decide +kernel
theorem dX10_add_31 : decode cX10_add 31 = .ok (.iadd, 1) := by decide +kernel
theorem dX10_add_32 : decode cX10_add 32 = .ok (.putfield 37, 3) := by decide +kernel
theorem dX10_add_35 : decode cX10_add 35 = .ok (.aload_n 0, 1) := by decide +kernel
theorem dX10_add_36 : decode cX10_add 36 = .ok (.getfield 9, 3) := by decide +kernel
theorem dX10_add_39 : decode cX10_add 39 = .ok (.iload 5, 2) := by decide +kernel
theorem dX10_add_41 : decode cX10_add 41 = .ok (.iload_n 1, 1) := by decide +kernel
theorem dX10_add_42 : decode cX10_add 42 = .ok (.iastore, 1) := by decide +kernel
theorem dX10_add_43 : decode cX10_add 43 = .ok (.aload_n 0, 1) := by decide +kernel
theorem dX10_add_44 : decode cX10_add 44 = .ok (.getfield 15, 3) := by decide +kernel
theorem dX10_add_47 : decode cX10_add 47 = .ok (.iload 5, 2) := by decide +kernel
theorem dX10_add_49 : decode cX10_add 49 = .ok (.iload_n 3, 1) := by decide +kernel
theorem dX10_add_50 : decode cX10_add 50 = .ok (.iastore, 1) := by decide +kernel
theorem dX10_add_51 : decode cX10_add 51 = .ok (.aload_n 0, 1) := by decide +kernel
theorem dX10_add_52 : decode cX10_add 52 = .ok (.getfield 18, 3) := by decide +kernel
theorem dX10_add_55 : decode cX10_add 55 = .ok (.iload 5, 2) := by decide +kernel
theorem dX10_add_57 : decode cX10_add 57 = .ok (.iload 4, 2) := by decide +kernel
theorem dX10_add_59 : decode cX10_add 59 = .ok (.iastore, 1) := by decide +kernel
theorem dX10_add_60 : decode cX10_add 60 = .ok (.aload_n 0, 1) := by decide +kernel
theorem dX10_add_61 : decode cX10_add 61 = .ok (.getfield 21, 3) := by decide +kernel
theorem dX10_add_64 : decode cX10_add 64 = .ok (.iload 5, 2) := by decide +kernel
theorem dX10_add_66 : decode cX10_add 66 = .ok (.aload_n 0, 1) := by decide +kernel
theorem dX10_add_67 : decode cX10_add 67 = .ok (.getfield 21, 3) := by decide +kernel
theorem dX10_add_70 : decode cX10_add 70 = .ok (.iload_n 1, 1) := by decide +kernel
theorem dX10_add_71 : decode cX10_add 71 = .ok (.iaload, 1) := by decide +kernel
theorem dX10_add_72 : decode cX10_add 72 = .ok (.iload_n 2, 1) := by decide +kernel
theorem dX10_add_73 : decode cX10_add 73 = .ok (.iadd, 1) := by decide +kernel
theorem dX10_add_74 : decode cX10_add 74 = .ok (.iastore, 1) := by decide +kernel
theorem dX10_add_75 : decode cX10_add 75 = .ok (.aload_n 0, 1) := by decide +kernel
theorem dX10_add_76 : decode cX10_add 76 = .ok (.getfield 24, 3) := by decide +kernel
theorem dX10_add_79 : decode cX10_add 79 = .ok (.iload 5, 2) := by decide +kernel
theorem dX10_add_81 : decode cX10_add 81 = .ok (.aload_n 0, 1) := by decide +kernel
theorem dX10_add_82 : decode cX10_add 82 = .ok (.getfield 24, 3) := by decide +kernel
theorem dX10_add_85 : decode cX10_add 85 = .ok (.iload_n 1, 1) := by decide +kernel
theorem dX10_add_86 : decode cX10_add 86 = .ok (.baload, 1) := by decide +kernel
theorem dX10_add_87 : decode cX10_add 87 = .ok (.ifCond .eq 17, 3) := by decide +kernel
theorem dX10_add_90 : decode cX10_add 90 = .ok (.iload_n 3, 1) := by decide +kernel
theorem dX10_add_91 : decode cX10_add 91 = .ok (.aload_n 0, 1) := by decide +kernel
theorem dX10_add_92 : decode cX10_add 92 = .ok (.getfield 15, 3) := by decide +kernel
theorem dX10_add_95 : decode cX10_add 95 = .ok (.iload_n 1, 1) := by decide +kernel
theorem dX10_add_96 : decode cX10_add 96 = .ok (.iaload, 1) := by decide +kernel
theorem dX10_add_97 : decode cX10_add 97 = .ok (.if_icmp .le 7, 3) := by decide +kernel
theorem dX10_add_100 : decode cX10_add 100 = .ok (.iconst 1, 1) := by decide +kernel
theorem dX10_add_101 : decode cX10_add 101 = .ok (.goto 4, 3) := by decide +kernel
theorem dX10_add_104 : decode cX10_add 104 = .ok (.iconst 0, 1) := by decide +kernel
theorem dX10_add_105 : decode cX10_add 105 = .ok (.bastore, 1) := by decide +kernel
theorem dX10_add_106 : decode cX10_add 106 = .ok (.aload_n 0, 1) := by decide +kernel
theorem dX10_add_107 : decode cX10_add 107 = .ok (.getfield 31, 3) := by decide +kernel
theorem dX10_add_110 : decode cX10_add 110 = .ok (.iload 5, 2) := by decide +kernel
theorem dX10_add_112 : decode cX10_add 112 = .ok (.aload_n 0, 1) := by decide +kernel
theorem dX10_add_113 : decode cX10_add 113 = .ok (.getfield 31, 3) := by decide +kernel
theorem dX10_add_116 : decode cX10_add 116 = .ok (.iload_n 1, 1) := by decide +kernel
theorem dX10_add_117 : decode cX10_add 117 = .ok (.iaload, 1) := by decide +kernel
theorem dX10_add_118 : decode cX10_add 118 = .ok (.iastore, 1) := by decide +kernel
theorem dX10_add_119 : decode cX10_add 119 = .ok (.aload_n 0, 1) := by decide +kernel
theorem dX10_add_120 : decode cX10_add 120 = .ok (.getfield 34, 3) := by decide +kernel
theorem dX10_add_123 : decode cX10_add 123 = .ok (.iload 5, 2) := by decide +kernel
theorem dX10_add_125 : decode cX10_add 125 = .ok (.iconst (-1), 1) := by decide +kernel
theorem dX10_add_126 : decode cX10_add 126 = .ok (.iastore, 1) := by decide +kernel
theorem dX10_add_127 : decode cX10_add 127 = .ok (.iload 5, 2) := by decide +kernel
theorem dX10_add_129 : decode cX10_add 129 = .ok (.ireturn, 1) := by decide +kernel

theorem dX10_has_0 : decode cX10_has 0 = .ok (.iload_n 1, 1) := by decide +kernel
theorem dX10_has_1 : decode cX10_has 1 = .ok (.ifCond .lt 15, 3) := by decide +kernel
theorem dX10_has_4 : decode cX10_has 4 = .ok (.iload_n 1, 1) := by decide +kernel
theorem dX10_has_5 : decode cX10_has 5 = .ok (.aload_n 0, 1) := by decide +kernel
theorem dX10_has_6 : decode cX10_has 6 = .ok (.getfield 37, 3) := by decide +kernel
theorem dX10_has_9 : decode cX10_has 9 = .ok (.if_icmp .ge 7, 3) := by decide +kernel
theorem dX10_has_12 : decode cX10_has 12 = .ok (.iconst 1, 1) := by decide +kernel
theorem dX10_has_13 : decode cX10_has 13 = .ok (.goto 4, 3) := by decide +kernel
theorem dX10_has_16 : decode cX10_has 16 = .ok (.iconst 0, 1) := by decide +kernel
theorem dX10_has_17 : decode cX10_has 17 = .ok (.ireturn, 1) := by decide +kernel

theorem dX10_hasTube_0 : decode cX10_hasTube 0 = .ok (.iload_n 1, 1) := by decide +kernel
theorem dX10_hasTube_1 : decode cX10_hasTube 1 = .ok (.ifCond .eq 15, 3) := by decide +kernel
theorem dX10_hasTube_4 : decode cX10_hasTube 4 = .ok (.aload_n 0, 1) := by decide +kernel
theorem dX10_hasTube_5 : decode cX10_hasTube 5 = .ok (.iload_n 1, 1) := by decide +kernel
theorem dX10_hasTube_6 : decode cX10_hasTube 6 = .ok (.invokevirtual 41, 3) := by decide +kernel
theorem dX10_hasTube_9 : decode cX10_hasTube 9 = .ok (.ifCond .eq 7, 3) := by decide +kernel
theorem dX10_hasTube_12 : decode cX10_hasTube 12 = .ok (.iconst 1, 1) := by decide +kernel
theorem dX10_hasTube_13 : decode cX10_hasTube 13 = .ok (.goto 4, 3) := by decide +kernel
theorem dX10_hasTube_16 : decode cX10_hasTube 16 = .ok (.iconst 0, 1) := by decide +kernel
theorem dX10_hasTube_17 : decode cX10_hasTube 17 = .ok (.ireturn, 1) := by decide +kernel

theorem dX10_init_0 : decode cX10_init 0 = .ok (.aload_n 0, 1) := by decide +kernel
theorem dX10_init_1 : decode cX10_init 1 = .ok (.invokespecial 3, 3) := by decide +kernel
theorem dX10_init_4 : decode cX10_init 4 = .ok (.aload_n 0, 1) := by decide +kernel
theorem dX10_init_5 : decode cX10_init 5 = .ok (.bipush 40, 2) := by decide +kernel
theorem dX10_init_7 : decode cX10_init 7 = .ok (.newarray .int, 2) := by decide +kernel
theorem dX10_init_9 : decode cX10_init 9 = .ok (.putfield 9, 3) := by decide +kernel
theorem dX10_init_12 : decode cX10_init 12 = .ok (.aload_n 0, 1) := by decide +kernel
theorem dX10_init_13 : decode cX10_init 13 = .ok (.bipush 40, 2) := by decide +kernel
theorem dX10_init_15 : decode cX10_init 15 = .ok (.newarray .int, 2) := by decide +kernel
theorem dX10_init_17 : decode cX10_init 17 = .ok (.putfield 15, 3) := by decide +kernel
theorem dX10_init_20 : decode cX10_init 20 = .ok (.aload_n 0, 1) := by decide +kernel
theorem dX10_init_21 : decode cX10_init 21 = .ok (.bipush 40, 2) := by decide +kernel
theorem dX10_init_23 : decode cX10_init 23 = .ok (.newarray .int, 2) := by decide +kernel
theorem dX10_init_25 : decode cX10_init 25 = .ok (.putfield 18, 3) := by decide +kernel
theorem dX10_init_28 : decode cX10_init 28 = .ok (.aload_n 0, 1) := by decide +kernel
theorem dX10_init_29 : decode cX10_init 29 = .ok (.bipush 40, 2) := by decide +kernel
theorem dX10_init_31 : decode cX10_init 31 = .ok (.newarray .int, 2) := by decide +kernel
theorem dX10_init_33 : decode cX10_init 33 = .ok (.putfield 21, 3) := by decide +kernel
theorem dX10_init_36 : decode cX10_init 36 = .ok (.aload_n 0, 1) := by decide +kernel
theorem dX10_init_37 : decode cX10_init 37 = .ok (.bipush 40, 2) := by decide +kernel
theorem dX10_init_39 : decode cX10_init 39 = .ok (.newarray .boolean, 2) := by decide +kernel
theorem dX10_init_41 : decode cX10_init 41 = .ok (.putfield 24, 3) := by decide +kernel
theorem dX10_init_44 : decode cX10_init 44 = .ok (.aload_n 0, 1) := by decide +kernel
theorem dX10_init_45 : decode cX10_init 45 = .ok (.bipush 40, 2) := by decide +kernel
theorem dX10_init_47 : decode cX10_init 47 = .ok (.newarray .int, 2) := by decide +kernel
theorem dX10_init_49 : decode cX10_init 49 = .ok (.putfield 28, 3) := by decide +kernel
theorem dX10_init_52 : decode cX10_init 52 = .ok (.aload_n 0, 1) := by decide +kernel
theorem dX10_init_53 : decode cX10_init 53 = .ok (.bipush 40, 2) := by decide +kernel
theorem dX10_init_55 : decode cX10_init 55 = .ok (.newarray .int, 2) := by decide +kernel
theorem dX10_init_57 : decode cX10_init 57 = .ok (.putfield 31, 3) := by decide +kernel
theorem dX10_init_60 : decode cX10_init 60 = .ok (.aload_n 0, 1) := by decide +kernel
theorem dX10_init_61 : decode cX10_init 61 = .ok (.bipush 40, 2) := by decide +kernel
theorem dX10_init_63 : decode cX10_init 63 = .ok (.newarray .int, 2) := by decide +kernel
theorem dX10_init_65 : decode cX10_init 65 = .ok (.putfield 34, 3) := by decide +kernel
theorem dX10_init_68 : decode cX10_init 68 = .ok (.aload_n 0, 1) := by decide +kernel
theorem dX10_init_69 : decode cX10_init 69 = .ok (.iconst 1, 1) := by decide +kernel
theorem dX10_init_70 : decode cX10_init 70 = .ok (.putfield 37, 3) := by decide +kernel
theorem dX10_init_73 : decode cX10_init 73 = .ok (.aload_n 0, 1) := by decide +kernel
theorem dX10_init_74 : decode cX10_init 74 = .ok (.getfield 9, 3) := by decide +kernel
theorem dX10_init_77 : decode cX10_init 77 = .ok (.iconst 0, 1) := by decide +kernel
theorem dX10_init_78 : decode cX10_init 78 = .ok (.iconst (-1), 1) := by decide +kernel
theorem dX10_init_79 : decode cX10_init 79 = .ok (.iastore, 1) := by decide +kernel
theorem dX10_init_80 : decode cX10_init 80 = .ok (.aload_n 0, 1) := by decide +kernel
theorem dX10_init_81 : decode cX10_init 81 = .ok (.getfield 18, 3) := by decide +kernel
theorem dX10_init_84 : decode cX10_init 84 = .ok (.iconst 0, 1) := by decide +kernel
theorem dX10_init_85 : decode cX10_init 85 = .ok (.iconst (-1), 1) := by decide +kernel
theorem dX10_init_86 : decode cX10_init 86 = .ok (.iastore, 1) := by decide +kernel
theorem dX10_init_87 : decode cX10_init 87 = .ok (.aload_n 0, 1) := by decide +kernel
theorem dX10_init_88 : decode cX10_init 88 = .ok (.getfield 34, 3) := by decide +kernel
theorem dX10_init_91 : decode cX10_init 91 = .ok (.iconst 0, 1) := by decide +kernel
theorem dX10_init_92 : decode cX10_init 92 = .ok (.iconst (-1), 1) := by decide +kernel
theorem dX10_init_93 : decode cX10_init 93 = .ok (.iastore, 1) := by decide +kernel
theorem dX10_init_94 : decode cX10_init 94 = .ok (.aload_n 0, 1) := by decide +kernel
theorem dX10_init_95 : decode cX10_init 95 = .ok (.getfield 24, 3) := by decide +kernel
theorem dX10_init_98 : decode cX10_init 98 = .ok (.iconst 0, 1) := by decide +kernel
theorem dX10_init_99 : decode cX10_init 99 = .ok (.iconst 1, 1) := by decide +kernel
theorem dX10_init_100 : decode cX10_init 100 = .ok (.bastore, 1) := by decide +kernel
theorem dX10_init_101 : decode cX10_init 101 = .ok (.return_, 1) := by decide +kernel

theorem dX10_memberAt_0 : decode cX10_memberAt 0 = .ok (.aload_n 0, 1) := by decide +kernel
theorem dX10_memberAt_1 : decode cX10_memberAt 1 = .ok (.iload_n 1, 1) := by decide +kernel
theorem dX10_memberAt_2 : decode cX10_memberAt 2 = .ok (.invokevirtual 41, 3) := by decide +kernel
theorem dX10_memberAt_5 : decode cX10_memberAt 5 = .ok (.ifCond .eq 12, 3) := by decide +kernel
theorem dX10_memberAt_8 : decode cX10_memberAt 8 = .ok (.aload_n 0, 1) := by decide +kernel
theorem dX10_memberAt_9 : decode cX10_memberAt 9 = .ok (.getfield 18, 3) := by decide +kernel
theorem dX10_memberAt_12 : decode cX10_memberAt 12 = .ok (.iload_n 1, 1) := by decide +kernel
theorem dX10_memberAt_13 : decode cX10_memberAt 13 = .ok (.iaload, 1) := by decide +kernel
theorem dX10_memberAt_14 : decode cX10_memberAt 14 = .ok (.goto 4, 3) := by decide +kernel
theorem dX10_memberAt_17 : decode cX10_memberAt 17 = .ok (.iconst (-1), 1) := by decide +kernel
theorem dX10_memberAt_18 : decode cX10_memberAt 18 = .ok (.ireturn, 1) := by decide +kernel

theorem dX10_readingAhead_0 : decode cX10_readingAhead 0 = .ok (.aload_n 0, 1) := by decide +kernel
theorem dX10_readingAhead_1 : decode cX10_readingAhead 1 = .ok (.getfield 9, 3) := by decide +kernel
theorem dX10_readingAhead_4 : decode cX10_readingAhead 4 = .ok (.iload_n 1, 1) := by decide +kernel
theorem dX10_readingAhead_5 : decode cX10_readingAhead 5 = .ok (.iaload, 1) := by decide +kernel
theorem dX10_readingAhead_6 : decode cX10_readingAhead 6 = .ok (.istore_n 2, 1) := by decide +kernel
theorem dX10_readingAhead_7 : decode cX10_readingAhead 7 = .ok (.iconst 0, 1) := by decide +kernel
theorem dX10_readingAhead_8 : decode cX10_readingAhead 8 = .ok (.istore_n 3, 1) := by decide +kernel
theorem dX10_readingAhead_9 : decode cX10_readingAhead 9 = .ok (.iload_n 3, 1) := by decide +kernel
theorem dX10_readingAhead_10 : decode cX10_readingAhead 10 = .ok (.bipush 40, 2) := by decide +kernel
theorem dX10_readingAhead_12 : decode cX10_readingAhead 12 = .ok (.if_icmp .ge 41, 3) := by decide +kernel
theorem dX10_readingAhead_15 : decode cX10_readingAhead 15 = .ok (.aload_n 0, 1) := by decide +kernel
theorem dX10_readingAhead_16 : decode cX10_readingAhead 16 = .ok (.iload_n 2, 1) := by decide +kernel
theorem dX10_readingAhead_17 : decode cX10_readingAhead 17 = .ok (.invokevirtual 45, 3) := by decide +kernel
theorem dX10_readingAhead_20 : decode cX10_readingAhead 20 = .ok (.ifCond .eq 33, 3) := by decide +kernel
theorem dX10_readingAhead_23 : decode cX10_readingAhead 23 = .ok (.aload_n 0, 1) := by decide +kernel
theorem dX10_readingAhead_24 : decode cX10_readingAhead 24 = .ok (.getfield 34, 3) := by decide +kernel
theorem dX10_readingAhead_27 : decode cX10_readingAhead 27 = .ok (.iload_n 2, 1) := by decide +kernel
theorem dX10_readingAhead_28 : decode cX10_readingAhead 28 = .ok (.iaload, 1) := by decide +kernel
theorem dX10_readingAhead_29 : decode cX10_readingAhead 29 = .ok (.iconst (-1), 1) := by decide +kernel
theorem dX10_readingAhead_30 : decode cX10_readingAhead 30 = .ok (.if_icmp .eq 10, 3) := by decide +kernel
theorem dX10_readingAhead_33 : decode cX10_readingAhead 33 = .ok (.aload_n 0, 1) := by decide +kernel
theorem dX10_readingAhead_34 : decode cX10_readingAhead 34 = .ok (.getfield 34, 3) := by decide +kernel
theorem dX10_readingAhead_37 : decode cX10_readingAhead 37 = .ok (.iload_n 2, 1) := by decide +kernel
theorem dX10_readingAhead_38 : decode cX10_readingAhead 38 = .ok (.iaload, 1) := by decide +kernel
theorem dX10_readingAhead_39 : decode cX10_readingAhead 39 = .ok (.ireturn, 1) := by decide +kernel
theorem dX10_readingAhead_40 : decode cX10_readingAhead 40 = .ok (.aload_n 0, 1) := by decide +kernel
theorem dX10_readingAhead_41 : decode cX10_readingAhead 41 = .ok (.getfield 9, 3) := by decide +kernel
theorem dX10_readingAhead_44 : decode cX10_readingAhead 44 = .ok (.iload_n 2, 1) := by decide +kernel
theorem dX10_readingAhead_45 : decode cX10_readingAhead 45 = .ok (.iaload, 1) := by decide +kernel
theorem dX10_readingAhead_46 : decode cX10_readingAhead 46 = .ok (.istore_n 2, 1) := by decide +kernel
theorem dX10_readingAhead_47 : decode cX10_readingAhead 47 = .ok (.iinc 3 1, 3) := by decide +kernel
theorem dX10_readingAhead_50 : decode cX10_readingAhead 50 = .ok (.goto (-41), 3) := by decide +kernel
theorem dX10_readingAhead_53 : decode cX10_readingAhead 53 = .ok (.aload_n 0, 1) := by decide +kernel
theorem dX10_readingAhead_54 : decode cX10_readingAhead 54 = .ok (.getfield 31, 3) := by decide +kernel
theorem dX10_readingAhead_57 : decode cX10_readingAhead 57 = .ok (.iconst 0, 1) := by decide +kernel
theorem dX10_readingAhead_58 : decode cX10_readingAhead 58 = .ok (.iaload, 1) := by decide +kernel
theorem dX10_readingAhead_59 : decode cX10_readingAhead 59 = .ok (.ireturn, 1) := by decide +kernel

theorem dX10_runsHome_0 : decode cX10_runsHome 0 = .ok (.aload_n 0, 1) := by decide +kernel
theorem dX10_runsHome_1 : decode cX10_runsHome 1 = .ok (.iload_n 1, 1) := by decide +kernel
theorem dX10_runsHome_2 : decode cX10_runsHome 2 = .ok (.invokevirtual 41, 3) := by decide +kernel
theorem dX10_runsHome_5 : decode cX10_runsHome 5 = .ok (.ifCond .eq 16, 3) := by decide +kernel
theorem dX10_runsHome_8 : decode cX10_runsHome 8 = .ok (.aload_n 0, 1) := by decide +kernel
theorem dX10_runsHome_9 : decode cX10_runsHome 9 = .ok (.getfield 24, 3) := by decide +kernel
theorem dX10_runsHome_12 : decode cX10_runsHome 12 = .ok (.iload_n 1, 1) := by decide +kernel
theorem dX10_runsHome_13 : decode cX10_runsHome 13 = .ok (.baload, 1) := by decide +kernel
theorem dX10_runsHome_14 : decode cX10_runsHome 14 = .ok (.ifCond .eq 7, 3) := by decide +kernel
theorem dX10_runsHome_17 : decode cX10_runsHome 17 = .ok (.iconst 1, 1) := by decide +kernel
theorem dX10_runsHome_18 : decode cX10_runsHome 18 = .ok (.goto 4, 3) := by decide +kernel
theorem dX10_runsHome_21 : decode cX10_runsHome 21 = .ok (.iconst 0, 1) := by decide +kernel
theorem dX10_runsHome_22 : decode cX10_runsHome 22 = .ok (.ireturn, 1) := by decide +kernel

theorem dX10_setHouseVacuum_0 : decode cX10_setHouseVacuum 0 = .ok (.aload_n 0, 1) := by decide +kernel
theorem dX10_setHouseVacuum_1 : decode cX10_setHouseVacuum 1 = .ok (.getfield 31, 3) := by decide +kernel
theorem dX10_setHouseVacuum_4 : decode cX10_setHouseVacuum 4 = .ok (.iconst 0, 1) := by decide +kernel
theorem dX10_setHouseVacuum_5 : decode cX10_setHouseVacuum 5 = .ok (.iload_n 1, 1) := by decide +kernel
theorem dX10_setHouseVacuum_6 : decode cX10_setHouseVacuum 6 = .ok (.iastore, 1) := by decide +kernel
theorem dX10_setHouseVacuum_7 : decode cX10_setHouseVacuum 7 = .ok (.aload_n 0, 1) := by decide +kernel
theorem dX10_setHouseVacuum_8 : decode cX10_setHouseVacuum 8 = .ok (.invokevirtual 48, 3) := by decide +kernel
theorem dX10_setHouseVacuum_11 : decode cX10_setHouseVacuum 11 = .ok (.return_, 1) := by decide +kernel

theorem dX10_setLeak_0 : decode cX10_setLeak 0 = .ok (.aload_n 0, 1) := by decide +kernel
theorem dX10_setLeak_1 : decode cX10_setLeak 1 = .ok (.iload_n 1, 1) := by decide +kernel
theorem dX10_setLeak_2 : decode cX10_setLeak 2 = .ok (.invokevirtual 45, 3) := by decide +kernel
theorem dX10_setLeak_5 : decode cX10_setLeak 5 = .ok (.ifCond .eq 14, 3) := by decide +kernel
theorem dX10_setLeak_8 : decode cX10_setLeak 8 = .ok (.aload_n 0, 1) := by decide +kernel
theorem dX10_setLeak_9 : decode cX10_setLeak 9 = .ok (.getfield 28, 3) := by decide +kernel
theorem dX10_setLeak_12 : decode cX10_setLeak 12 = .ok (.iload_n 1, 1) := by decide +kernel
theorem dX10_setLeak_13 : decode cX10_setLeak 13 = .ok (.iload_n 2, 1) := by decide +kernel
theorem dX10_setLeak_14 : decode cX10_setLeak 14 = .ok (.iastore, 1) := by decide +kernel
theorem dX10_setLeak_15 : decode cX10_setLeak 15 = .ok (.aload_n 0, 1) := by decide +kernel
theorem dX10_setLeak_16 : decode cX10_setLeak 16 = .ok (.invokevirtual 48, 3) := by decide +kernel
theorem dX10_setLeak_19 : decode cX10_setLeak 19 = .ok (.return_, 1) := by decide +kernel

theorem dX10_setReading_0 : decode cX10_setReading 0 = .ok (.aload_n 0, 1) := by decide +kernel
theorem dX10_setReading_1 : decode cX10_setReading 1 = .ok (.iload_n 1, 1) := by decide +kernel
theorem dX10_setReading_2 : decode cX10_setReading 2 = .ok (.invokevirtual 45, 3) := by decide +kernel
theorem dX10_setReading_5 : decode cX10_setReading 5 = .ok (.ifCond .eq 10, 3) := by decide +kernel
theorem dX10_setReading_8 : decode cX10_setReading 8 = .ok (.aload_n 0, 1) := by decide +kernel
theorem dX10_setReading_9 : decode cX10_setReading 9 = .ok (.getfield 34, 3) := by decide +kernel
theorem dX10_setReading_12 : decode cX10_setReading 12 = .ok (.iload_n 1, 1) := by decide +kernel
theorem dX10_setReading_13 : decode cX10_setReading 13 = .ok (.iload_n 2, 1) := by decide +kernel
theorem dX10_setReading_14 : decode cX10_setReading 14 = .ok (.iastore, 1) := by decide +kernel
theorem dX10_setReading_15 : decode cX10_setReading 15 = .ok (.return_, 1) := by decide +kernel

theorem dX10_settleVacuum_0 : decode cX10_settleVacuum 0 = .ok (.iconst 1, 1) := by decide +kernel
theorem dX10_settleVacuum_1 : decode cX10_settleVacuum 1 = .ok (.istore_n 1, 1) := by decide +kernel
theorem dX10_settleVacuum_2 : decode cX10_settleVacuum 2 = .ok (.iload_n 1, 1) := by decide +kernel
theorem dX10_settleVacuum_3 : decode cX10_settleVacuum 3 = .ok (.aload_n 0, 1) := by decide +kernel
theorem dX10_settleVacuum_4 : decode cX10_settleVacuum 4 = .ok (.getfield 37, 3) := by decide +kernel
theorem dX10_settleVacuum_7 : decode cX10_settleVacuum 7 = .ok (.if_icmp .ge 36, 3) := by decide +kernel
theorem dX10_settleVacuum_10 : decode cX10_settleVacuum 10 = .ok (.aload_n 0, 1) := by decide +kernel
theorem dX10_settleVacuum_11 : decode cX10_settleVacuum 11 = .ok (.getfield 31, 3) := by decide +kernel
theorem dX10_settleVacuum_14 : decode cX10_settleVacuum 14 = .ok (.iload_n 1, 1) := by decide +kernel
theorem dX10_settleVacuum_15 : decode cX10_settleVacuum 15 = .ok (.iconst 0, 1) := by decide +kernel
theorem dX10_settleVacuum_16 : decode cX10_settleVacuum 16 = .ok (.aload_n 0, 1) := by decide +kernel
theorem dX10_settleVacuum_17 : decode cX10_settleVacuum 17 = .ok (.aload_n 0, 1) := by decide +kernel
theorem dX10_settleVacuum_18 : decode cX10_settleVacuum 18 = .ok (.getfield 9, 3) := by decide +kernel
theorem dX10_settleVacuum_21 : decode cX10_settleVacuum 21 = .ok (.iload_n 1, 1) := by decide +kernel
theorem dX10_settleVacuum_22 : decode cX10_settleVacuum 22 = .ok (.iaload, 1) := by decide +kernel
theorem dX10_settleVacuum_23 : decode cX10_settleVacuum 23 = .ok (.invokevirtual 51, 3) := by decide +kernel
theorem dX10_settleVacuum_26 : decode cX10_settleVacuum 26 = .ok (.aload_n 0, 1) := by decide +kernel
theorem dX10_settleVacuum_27 : decode cX10_settleVacuum 27 = .ok (.getfield 28, 3) := by decide +kernel
theorem dX10_settleVacuum_30 : decode cX10_settleVacuum 30 = .ok (.iload_n 1, 1) := by decide +kernel
theorem dX10_settleVacuum_31 : decode cX10_settleVacuum 31 = .ok (.iaload, 1) := by decide +kernel
theorem dX10_settleVacuum_32 : decode cX10_settleVacuum 32 = .ok (.isub, 1) := by decide +kernel
theorem dX10_settleVacuum_33 : decode cX10_settleVacuum 33 = .ok (.invokestatic 55, 3) := by decide +kernel
theorem dX10_settleVacuum_36 : decode cX10_settleVacuum 36 = .ok (.iastore, 1) := by decide +kernel
theorem dX10_settleVacuum_37 : decode cX10_settleVacuum 37 = .ok (.iinc 1 1, 3) := by decide +kernel
theorem dX10_settleVacuum_40 : decode cX10_settleVacuum 40 = .ok (.goto (-38), 3) := by decide +kernel
theorem dX10_settleVacuum_43 : decode cX10_settleVacuum 43 = .ok (.return_, 1) := by decide +kernel

theorem dX10_suspectBy_0 : decode cX10_suspectBy 0 = .ok (.aload_n 0, 1) := by decide +kernel
theorem dX10_suspectBy_1 : decode cX10_suspectBy 1 = .ok (.iload_n 1, 1) := by decide +kernel
theorem dX10_suspectBy_2 : decode cX10_suspectBy 2 = .ok (.invokevirtual 45, 3) := by decide +kernel
theorem dX10_suspectBy_5 : decode cX10_suspectBy 5 = .ok (.ifCond .eq 13, 3) := by decide +kernel
theorem dX10_suspectBy_8 : decode cX10_suspectBy 8 = .ok (.aload_n 0, 1) := by decide +kernel
theorem dX10_suspectBy_9 : decode cX10_suspectBy 9 = .ok (.getfield 34, 3) := by decide +kernel
theorem dX10_suspectBy_12 : decode cX10_suspectBy 12 = .ok (.iload_n 1, 1) := by decide +kernel
theorem dX10_suspectBy_13 : decode cX10_suspectBy 13 = .ok (.iaload, 1) := by decide +kernel
theorem dX10_suspectBy_14 : decode cX10_suspectBy 14 = .ok (.iconst (-1), 1) := by decide +kernel
theorem dX10_suspectBy_15 : decode cX10_suspectBy 15 = .ok (.if_icmp .ne 5, 3) := by decide +kernel
theorem dX10_suspectBy_18 : decode cX10_suspectBy 18 = .ok (.iconst 0, 1) := by decide +kernel
theorem dX10_suspectBy_19 : decode cX10_suspectBy 19 = .ok (.ireturn, 1) := by decide +kernel
theorem dX10_suspectBy_20 : decode cX10_suspectBy 20 = .ok (.iconst 0, 1) := by decide +kernel
theorem dX10_suspectBy_21 : decode cX10_suspectBy 21 = .ok (.aload_n 0, 1) := by decide +kernel
theorem dX10_suspectBy_22 : decode cX10_suspectBy 22 = .ok (.iload_n 1, 1) := by decide +kernel
theorem dX10_suspectBy_23 : decode cX10_suspectBy 23 = .ok (.invokevirtual 64, 3) := by decide +kernel
theorem dX10_suspectBy_26 : decode cX10_suspectBy 26 = .ok (.aload_n 0, 1) := by decide +kernel
theorem dX10_suspectBy_27 : decode cX10_suspectBy 27 = .ok (.getfield 34, 3) := by decide +kernel
theorem dX10_suspectBy_30 : decode cX10_suspectBy 30 = .ok (.iload_n 1, 1) := by decide +kernel
theorem dX10_suspectBy_31 : decode cX10_suspectBy 31 = .ok (.iaload, 1) := by decide +kernel
theorem dX10_suspectBy_32 : decode cX10_suspectBy 32 = .ok (.isub, 1) := by decide +kernel
theorem dX10_suspectBy_33 : decode cX10_suspectBy 33 = .ok (.invokestatic 55, 3) := by decide +kernel
theorem dX10_suspectBy_36 : decode cX10_suspectBy 36 = .ok (.ireturn, 1) := by decide +kernel

theorem dX10_tell_0 : decode cX10_tell 0 = .ok (.aload_n 0, 1) := by decide +kernel
theorem dX10_tell_1 : decode cX10_tell 1 = .ok (.iload_n 1, 1) := by decide +kernel
theorem dX10_tell_2 : decode cX10_tell 2 = .ok (.invokevirtual 41, 3) := by decide +kernel
theorem dX10_tell_5 : decode cX10_tell 5 = .ok (.ifCond .ne 5, 3) := by decide +kernel
theorem dX10_tell_8 : decode cX10_tell 8 = .ok (.iconst (-1), 1) := by decide +kernel
theorem dX10_tell_9 : decode cX10_tell 9 = .ok (.ireturn, 1) := by decide +kernel
theorem dX10_tell_10 : decode cX10_tell 10 = .ok (.iload_n 2, 1) := by decide +kernel
theorem dX10_tell_11 : decode cX10_tell 11 = .ok (.tableswitch 112 0 8 #[49, 56, 63, 78, 85, 92, 112, 98, 105], 49) := by decide +kernel
theorem dX10_tell_60 : decode cX10_tell 60 = .ok (.aload_n 0, 1) := by decide +kernel
theorem dX10_tell_61 : decode cX10_tell 61 = .ok (.getfield 9, 3) := by decide +kernel
theorem dX10_tell_64 : decode cX10_tell 64 = .ok (.iload_n 1, 1) := by decide +kernel
theorem dX10_tell_65 : decode cX10_tell 65 = .ok (.iaload, 1) := by decide +kernel
theorem dX10_tell_66 : decode cX10_tell 66 = .ok (.ireturn, 1) := by decide +kernel
theorem dX10_tell_67 : decode cX10_tell 67 = .ok (.aload_n 0, 1) := by decide +kernel
theorem dX10_tell_68 : decode cX10_tell 68 = .ok (.getfield 15, 3) := by decide +kernel
theorem dX10_tell_71 : decode cX10_tell 71 = .ok (.iload_n 1, 1) := by decide +kernel
theorem dX10_tell_72 : decode cX10_tell 72 = .ok (.iaload, 1) := by decide +kernel
theorem dX10_tell_73 : decode cX10_tell 73 = .ok (.ireturn, 1) := by decide +kernel
theorem dX10_tell_74 : decode cX10_tell 74 = .ok (.aload_n 0, 1) := by decide +kernel
theorem dX10_tell_75 : decode cX10_tell 75 = .ok (.getfield 24, 3) := by decide +kernel
theorem dX10_tell_78 : decode cX10_tell 78 = .ok (.iload_n 1, 1) := by decide +kernel
theorem dX10_tell_79 : decode cX10_tell 79 = .ok (.baload, 1) := by decide +kernel
theorem dX10_tell_80 : decode cX10_tell 80 = .ok (.ifCond .eq 7, 3) := by decide +kernel
theorem dX10_tell_83 : decode cX10_tell 83 = .ok (.iconst 1, 1) := by decide +kernel
theorem dX10_tell_84 : decode cX10_tell 84 = .ok (.goto 4, 3) := by decide +kernel
theorem dX10_tell_87 : decode cX10_tell 87 = .ok (.iconst 0, 1) := by decide +kernel
theorem dX10_tell_88 : decode cX10_tell 88 = .ok (.ireturn, 1) := by decide +kernel
theorem dX10_tell_89 : decode cX10_tell 89 = .ok (.aload_n 0, 1) := by decide +kernel
theorem dX10_tell_90 : decode cX10_tell 90 = .ok (.getfield 31, 3) := by decide +kernel
theorem dX10_tell_93 : decode cX10_tell 93 = .ok (.iload_n 1, 1) := by decide +kernel
theorem dX10_tell_94 : decode cX10_tell 94 = .ok (.iaload, 1) := by decide +kernel
theorem dX10_tell_95 : decode cX10_tell 95 = .ok (.ireturn, 1) := by decide +kernel
theorem dX10_tell_96 : decode cX10_tell 96 = .ok (.aload_n 0, 1) := by decide +kernel
theorem dX10_tell_97 : decode cX10_tell 97 = .ok (.getfield 34, 3) := by decide +kernel
theorem dX10_tell_100 : decode cX10_tell 100 = .ok (.iload_n 1, 1) := by decide +kernel
theorem dX10_tell_101 : decode cX10_tell 101 = .ok (.iaload, 1) := by decide +kernel
theorem dX10_tell_102 : decode cX10_tell 102 = .ok (.ireturn, 1) := by decide +kernel
theorem dX10_tell_103 : decode cX10_tell 103 = .ok (.aload_n 0, 1) := by decide +kernel
theorem dX10_tell_104 : decode cX10_tell 104 = .ok (.iload_n 1, 1) := by decide +kernel
theorem dX10_tell_105 : decode cX10_tell 105 = .ok (.invokevirtual 61, 3) := by decide +kernel
theorem dX10_tell_108 : decode cX10_tell 108 = .ok (.ireturn, 1) := by decide +kernel
theorem dX10_tell_109 : decode cX10_tell 109 = .ok (.aload_n 0, 1) := by decide +kernel
theorem dX10_tell_110 : decode cX10_tell 110 = .ok (.getfield 18, 3) := by decide +kernel
theorem dX10_tell_113 : decode cX10_tell 113 = .ok (.iload_n 1, 1) := by decide +kernel
theorem dX10_tell_114 : decode cX10_tell 114 = .ok (.iaload, 1) := by decide +kernel
theorem dX10_tell_115 : decode cX10_tell 115 = .ok (.ireturn, 1) := by decide +kernel
theorem dX10_tell_116 : decode cX10_tell 116 = .ok (.aload_n 0, 1) := by decide +kernel
theorem dX10_tell_117 : decode cX10_tell 117 = .ok (.getfield 21, 3) := by decide +kernel
theorem dX10_tell_120 : decode cX10_tell 120 = .ok (.iload_n 1, 1) := by decide +kernel
theorem dX10_tell_121 : decode cX10_tell 121 = .ok (.iaload, 1) := by decide +kernel
theorem dX10_tell_122 : decode cX10_tell 122 = .ok (.ireturn, 1) := by decide +kernel
theorem dX10_tell_123 : decode cX10_tell 123 = .ok (.iconst (-1), 1) := by decide +kernel
theorem dX10_tell_124 : decode cX10_tell 124 = .ok (.ireturn, 1) := by decide +kernel

theorem dX10_vacuumAt_0 : decode cX10_vacuumAt 0 = .ok (.aload_n 0, 1) := by decide +kernel
theorem dX10_vacuumAt_1 : decode cX10_vacuumAt 1 = .ok (.iload_n 1, 1) := by decide +kernel
theorem dX10_vacuumAt_2 : decode cX10_vacuumAt 2 = .ok (.invokevirtual 41, 3) := by decide +kernel
theorem dX10_vacuumAt_5 : decode cX10_vacuumAt 5 = .ok (.ifCond .eq 12, 3) := by decide +kernel
theorem dX10_vacuumAt_8 : decode cX10_vacuumAt 8 = .ok (.aload_n 0, 1) := by decide +kernel
theorem dX10_vacuumAt_9 : decode cX10_vacuumAt 9 = .ok (.getfield 31, 3) := by decide +kernel
theorem dX10_vacuumAt_12 : decode cX10_vacuumAt 12 = .ok (.iload_n 1, 1) := by decide +kernel
theorem dX10_vacuumAt_13 : decode cX10_vacuumAt 13 = .ok (.iaload, 1) := by decide +kernel
theorem dX10_vacuumAt_14 : decode cX10_vacuumAt 14 = .ok (.goto 4, 3) := by decide +kernel
theorem dX10_vacuumAt_17 : decode cX10_vacuumAt 17 = .ok (.iconst 0, 1) := by decide +kernel
theorem dX10_vacuumAt_18 : decode cX10_vacuumAt 18 = .ok (.ireturn, 1) := by decide +kernel

theorem dX1_cameTogether_0 : decode cX1_cameTogether 0 = .ok (.iconst 0, 1) := by decide +kernel
theorem dX1_cameTogether_1 : decode cX1_cameTogether 1 = .ok (.istore_n 1, 1) := by decide +kernel
theorem dX1_cameTogether_2 : decode cX1_cameTogether 2 = .ok (.iconst 0, 1) := by decide +kernel
theorem dX1_cameTogether_3 : decode cX1_cameTogether 3 = .ok (.istore_n 2, 1) := by decide +kernel
theorem dX1_cameTogether_4 : decode cX1_cameTogether 4 = .ok (.iload_n 2, 1) := by decide +kernel
theorem dX1_cameTogether_5 : decode cX1_cameTogether 5 = .ok (.bipush 10, 2) := by decide +kernel
theorem dX1_cameTogether_7 : decode cX1_cameTogether 7 = .ok (.if_icmp .ge 18, 3) := by decide +kernel
theorem dX1_cameTogether_10 : decode cX1_cameTogether 10 = .ok (.iload_n 1, 1) := by decide +kernel
theorem dX1_cameTogether_11 : decode cX1_cameTogether 11 = .ok (.aload_n 0, 1) := by decide +kernel
theorem dX1_cameTogether_12 : decode cX1_cameTogether 12 = .ok (.getfield 9, 3) := by decide +kernel
theorem dX1_cameTogether_15 : decode cX1_cameTogether 15 = .ok (.iload_n 2, 1) := by decide +kernel
theorem dX1_cameTogether_16 : decode cX1_cameTogether 16 = .ok (.iaload, 1) := by decide +kernel
theorem dX1_cameTogether_17 : decode cX1_cameTogether 17 = .ok (.iadd, 1) := by decide +kernel
theorem dX1_cameTogether_18 : decode cX1_cameTogether 18 = .ok (.istore_n 1, 1) := by decide +kernel
theorem dX1_cameTogether_19 : decode cX1_cameTogether 19 = .ok (.iinc 2 1, 3) := by decide +kernel
theorem dX1_cameTogether_22 : decode cX1_cameTogether 22 = .ok (.goto (-18), 3) := by decide +kernel
theorem dX1_cameTogether_25 : decode cX1_cameTogether 25 = .ok (.iload_n 1, 1) := by decide +kernel
theorem dX1_cameTogether_26 : decode cX1_cameTogether 26 = .ok (.ireturn, 1) := by decide +kernel

theorem dX1_credit_0 : decode cX1_credit 0 = .ok (.iload_n 1, 1) := by decide +kernel
theorem dX1_credit_1 : decode cX1_credit 1 = .ok (.invokestatic 22, 3) := by decide +kernel
theorem dX1_credit_4 : decode cX1_credit 4 = .ok (.ifCond .eq 13, 3) := by decide +kernel
theorem dX1_credit_7 : decode cX1_credit 7 = .ok (.aload_n 0, 1) := by decide +kernel
theorem dX1_credit_8 : decode cX1_credit 8 = .ok (.getfield 9, 3) := by decide +kernel
theorem dX1_credit_11 : decode cX1_credit 11 = .ok (.iload_n 1, 1) := by decide +kernel
theorem dX1_credit_12 : decode cX1_credit 12 = .ok (.dup2, 1) := by decide +kernel
theorem dX1_credit_13 : decode cX1_credit 13 = .ok (.iaload, 1) := by decide +kernel
theorem dX1_credit_14 : decode cX1_credit 14 = .ok (.iload_n 2, 1) := by decide +kernel
theorem dX1_credit_15 : decode cX1_credit 15 = .ok (.iadd, 1) := by decide +kernel
theorem dX1_credit_16 : decode cX1_credit 16 = .ok (.iastore, 1) := by decide +kernel
theorem dX1_credit_17 : decode cX1_credit 17 = .ok (.return_, 1) := by decide +kernel

theorem dX1_forgetYear_0 : decode cX1_forgetYear 0 = .ok (.aload_n 0, 1) := by decide +kernel
theorem dX1_forgetYear_1 : decode cX1_forgetYear 1 = .ok (.getfield 9, 3) := by decide +kernel
theorem dX1_forgetYear_4 : decode cX1_forgetYear 4 = .ok (.iconst 0, 1) := by decide +kernel
theorem dX1_forgetYear_5 : decode cX1_forgetYear 5 = .ok (.invokestatic 26, 3) := by decide +kernel
theorem dX1_forgetYear_8 : decode cX1_forgetYear 8 = .ok (.return_, 1) := by decide +kernel

theorem dX1_greatestRemainder_0 : decode cX1_greatestRemainder 0 = .ok (.iconst 0, 1) := by decide +kernel
theorem dX1_greatestRemainder_1 : decode cX1_greatestRemainder 1 = .ok (.istore_n 1, 1) := by decide +kernel
theorem dX1_greatestRemainder_2 : decode cX1_greatestRemainder 2 = .ok (.iconst 1, 1) := by decide +kernel
theorem dX1_greatestRemainder_3 : decode cX1_greatestRemainder 3 = .ok (.istore_n 2, 1) := by decide +kernel
theorem dX1_greatestRemainder_4 : decode cX1_greatestRemainder 4 = .ok (.iload_n 2, 1) := by decide +kernel
theorem dX1_greatestRemainder_5 : decode cX1_greatestRemainder 5 = .ok (.bipush 10, 2) := by decide +kernel
theorem dX1_greatestRemainder_7 : decode cX1_greatestRemainder 7 = .ok (.if_icmp .ge 27, 3) := by decide +kernel
theorem dX1_greatestRemainder_10 : decode cX1_greatestRemainder 10 = .ok (.aload_n 0, 1) := by decide +kernel
theorem dX1_greatestRemainder_11 : decode cX1_greatestRemainder 11 = .ok (.getfield 18, 3) := by decide +kernel
theorem dX1_greatestRemainder_14 : decode cX1_greatestRemainder 14 = .ok (.iload_n 2, 1) := by decide +kernel
theorem dX1_greatestRemainder_15 : decode cX1_greatestRemainder 15 = .ok (.laload, 1) := by decide +kernel
theorem dX1_greatestRemainder_16 : decode cX1_greatestRemainder 16 = .ok (.aload_n 0, 1) := by decide +kernel
theorem dX1_greatestRemainder_17 : decode cX1_greatestRemainder 17 = .ok (.getfield 18, 3) := by decide +kernel
theorem dX1_greatestRemainder_20 : decode cX1_greatestRemainder 20 = .ok (.iload_n 1, 1) := by decide +kernel
theorem dX1_greatestRemainder_21 : decode cX1_greatestRemainder 21 = .ok (.laload, 1) := by decide +kernel
theorem dX1_greatestRemainder_22 : decode cX1_greatestRemainder 22 = .ok (.lcmp, 1) := by decide +kernel
theorem dX1_greatestRemainder_23 : decode cX1_greatestRemainder 23 = .ok (.ifCond .le 5, 3) := by decide +kernel
theorem dX1_greatestRemainder_26 : decode cX1_greatestRemainder 26 = .ok (.iload_n 2, 1) := by decide +kernel
theorem dX1_greatestRemainder_27 : decode cX1_greatestRemainder 27 = .ok (.istore_n 1, 1) := by decide +kernel
theorem dX1_greatestRemainder_28 : decode cX1_greatestRemainder 28 = .ok (.iinc 2 1, 3) := by decide +kernel
theorem dX1_greatestRemainder_31 : decode cX1_greatestRemainder 31 = .ok (.goto (-27), 3) := by decide +kernel
theorem dX1_greatestRemainder_34 : decode cX1_greatestRemainder 34 = .ok (.iload_n 1, 1) := by decide +kernel
theorem dX1_greatestRemainder_35 : decode cX1_greatestRemainder 35 = .ok (.ireturn, 1) := by decide +kernel

theorem dX1_init_0 : decode cX1_init 0 = .ok (.aload_n 0, 1) := by decide +kernel
theorem dX1_init_1 : decode cX1_init 1 = .ok (.invokespecial 3, 3) := by decide +kernel
theorem dX1_init_4 : decode cX1_init 4 = .ok (.aload_n 0, 1) := by decide +kernel
theorem dX1_init_5 : decode cX1_init 5 = .ok (.bipush 10, 2) := by decide +kernel
theorem dX1_init_7 : decode cX1_init 7 = .ok (.newarray .int, 2) := by decide +kernel
theorem dX1_init_9 : decode cX1_init 9 = .ok (.putfield 9, 3) := by decide +kernel
theorem dX1_init_12 : decode cX1_init 12 = .ok (.aload_n 0, 1) := by decide +kernel
theorem dX1_init_13 : decode cX1_init 13 = .ok (.bipush 10, 2) := by decide +kernel
theorem dX1_init_15 : decode cX1_init 15 = .ok (.newarray .int, 2) := by decide +kernel
theorem dX1_init_17 : decode cX1_init 17 = .ok (.putfield 15, 3) := by decide +kernel
theorem dX1_init_20 : decode cX1_init 20 = .ok (.aload_n 0, 1) := by decide +kernel
theorem dX1_init_21 : decode cX1_init 21 = .ok (.bipush 10, 2) := by decide +kernel
theorem dX1_init_23 : decode cX1_init 23 = .ok (.newarray .long, 2) := by decide +kernel
theorem dX1_init_25 : decode cX1_init 25 = .ok (.putfield 18, 3) := by decide +kernel
theorem dX1_init_28 : decode cX1_init 28 = .ok (.return_, 1) := by decide +kernel

theorem dX1_share_0 : decode cX1_share 0 = .ok (.aload_n 0, 1) := by decide +kernel
theorem dX1_share_1 : decode cX1_share 1 = .ok (.invokevirtual 32, 3) := by decide +kernel
theorem dX1_share_4 : decode cX1_share 4 = .ok (.istore_n 2, 1) := by decide +kernel
theorem dX1_share_5 : decode cX1_share 5 = .ok (.iload_n 2, 1) := by decide +kernel
theorem dX1_share_6 : decode cX1_share 6 = .ok (.ifCond .gt 4, 3) := by decide +kernel
theorem dX1_share_9 : decode cX1_share 9 = .ok (.return_, 1) := by decide +kernel
theorem dX1_share_10 : decode cX1_share 10 = .ok (.iload_n 1, 1) := by decide +kernel
theorem dX1_share_11 : decode cX1_share 11 = .ok (.istore_n 3, 1) := by decide +kernel
theorem dX1_share_12 : decode cX1_share 12 = .ok (.iconst 0, 1) := by decide +kernel
theorem dX1_share_13 : decode cX1_share 13 = .ok (.istore 4, 2) := by decide +kernel
theorem dX1_share_15 : decode cX1_share 15 = .ok (.iload 4, 2) := by decide +kernel
theorem dX1_share_17 : decode cX1_share 17 = .ok (.bipush 10, 2) := by decide +kernel
theorem dX1_share_19 : decode cX1_share 19 = .ok (.if_icmp .ge 59, 3) := by decide +kernel
theorem dX1_share_22 : decode cX1_share 22 = .ok (.iload_n 1, 1) := by decide +kernel
theorem dX1_share_23 : decode cX1_share 23 = .ok (.i2l, 1) := by decide +kernel
theorem dX1_share_24 : decode cX1_share 24 = .ok (.aload_n 0, 1) := by decide +kernel
theorem dX1_share_25 : decode cX1_share 25 = .ok (.getfield 9, 3) := by decide +kernel
theorem dX1_share_28 : decode cX1_share 28 = .ok (.iload 4, 2) := by decide +kernel
theorem dX1_share_30 : decode cX1_share 30 = .ok (.iaload, 1) := by decide +kernel
theorem dX1_share_31 : decode cX1_share 31 = .ok (.i2l, 1) := by decide +kernel
theorem dX1_share_32 : decode cX1_share 32 = .ok (.lmul, 1) := by decide +kernel
theorem dX1_share_33 : decode cX1_share 33 = .ok (.lstore 5, 2) := by decide +kernel
theorem dX1_share_35 : decode cX1_share 35 = .ok (.lload 5, 2) := by decide +kernel
theorem dX1_share_37 : decode cX1_share 37 = .ok (.iload_n 2, 1) := by decide +kernel
theorem dX1_share_38 : decode cX1_share 38 = .ok (.i2l, 1) := by decide +kernel
theorem dX1_share_39 : decode cX1_share 39 = .ok (.ldiv, 1) := by decide +kernel
theorem dX1_share_40 : decode cX1_share 40 = .ok (.l2i, 1) := by decide +kernel
theorem dX1_share_41 : decode cX1_share 41 = .ok (.istore 7, 2) := by decide +kernel
theorem dX1_share_43 : decode cX1_share 43 = .ok (.aload_n 0, 1) := by decide +kernel
theorem dX1_share_44 : decode cX1_share 44 = .ok (.getfield 15, 3) := by decide +kernel
theorem dX1_share_47 : decode cX1_share 47 = .ok (.iload 4, 2) := by decide +kernel
theorem dX1_share_49 : decode cX1_share 49 = .ok (.dup2, 1) := by decide +kernel
theorem dX1_share_50 : decode cX1_share 50 = .ok (.iaload, 1) := by decide +kernel
theorem dX1_share_51 : decode cX1_share 51 = .ok (.iload 7, 2) := by decide +kernel
theorem dX1_share_53 : decode cX1_share 53 = .ok (.iadd, 1) := by decide +kernel
theorem dX1_share_54 : decode cX1_share 54 = .ok (.iastore, 1) := by decide +kernel
theorem dX1_share_55 : decode cX1_share 55 = .ok (.iload_n 3, 1) := by decide +kernel
theorem dX1_share_56 : decode cX1_share 56 = .ok (.iload 7, 2) := by decide +kernel
theorem dX1_share_58 : decode cX1_share 58 = .ok (.isub, 1) := by decide +kernel
theorem dX1_share_59 : decode cX1_share 59 = .ok (.istore_n 3, 1) := by decide +kernel
theorem dX1_share_60 : decode cX1_share 60 = .ok (.aload_n 0, 1) := by decide +kernel
theorem dX1_share_61 : decode cX1_share 61 = .ok (.getfield 18, 3) := by decide +kernel
theorem dX1_share_64 : decode cX1_share 64 = .ok (.iload 4, 2) := by decide +kernel
theorem dX1_share_66 : decode cX1_share 66 = .ok (.lload 5, 2) := by decide +kernel
theorem dX1_share_68 : decode cX1_share 68 = .ok (.iload_n 2, 1) := by decide +kernel
theorem dX1_share_69 : decode cX1_share 69 = .ok (.i2l, 1) := by decide +kernel
theorem dX1_share_70 : decode cX1_share 70 = .ok (.lrem, 1) := by decide +kernel
theorem dX1_share_71 : decode cX1_share 71 = .ok (.lastore, 1) := by decide +kernel
theorem dX1_share_72 : decode cX1_share 72 = .ok (.iinc 4 1, 3) := by decide +kernel
theorem dX1_share_75 : decode cX1_share 75 = .ok (.goto (-60), 3) := by decide +kernel
theorem dX1_share_78 : decode cX1_share 78 = .ok (.iconst 0, 1) := by decide +kernel
theorem dX1_share_79 : decode cX1_share 79 = .ok (.istore 4, 2) := by decide +kernel
theorem dX1_share_81 : decode cX1_share 81 = .ok (.iload 4, 2) := by decide +kernel
theorem dX1_share_83 : decode cX1_share 83 = .ok (.bipush 10, 2) := by decide +kernel
theorem dX1_share_85 : decode cX1_share 85 = .ok (.if_icmp .ge 41, 3) := by decide +kernel
theorem dX1_share_88 : decode cX1_share 88 = .ok (.iload_n 3, 1) := by decide +kernel
theorem dX1_share_89 : decode cX1_share 89 = .ok (.ifCond .le 37, 3) := by decide +kernel
theorem dX1_share_92 : decode cX1_share 92 = .ok (.aload_n 0, 1) := by decide +kernel
theorem dX1_share_93 : decode cX1_share 93 = .ok (.invokevirtual 36, 3) := by decide +kernel
theorem dX1_share_96 : decode cX1_share 96 = .ok (.istore 5, 2) := by decide +kernel
theorem dX1_share_98 : decode cX1_share 98 = .ok (.aload_n 0, 1) := by decide +kernel
theorem dX1_share_99 : decode cX1_share 99 = .ok (.getfield 15, 3) := by decide +kernel
theorem dX1_share_102 : decode cX1_share 102 = .ok (.iload 5, 2) := by decide +kernel
theorem dX1_share_104 : decode cX1_share 104 = .ok (.dup2, 1) := by decide +kernel
theorem dX1_share_105 : decode cX1_share 105 = .ok (.iaload, 1) := by decide +kernel
theorem dX1_share_106 : decode cX1_share 106 = .ok (.iconst 1, 1) := by decide +kernel
theorem dX1_share_107 : decode cX1_share 107 = .ok (.iadd, 1) := by decide +kernel
theorem dX1_share_108 : decode cX1_share 108 = .ok (.iastore, 1) := by decide +kernel
theorem dX1_share_109 : decode cX1_share 109 = .ok (.aload_n 0, 1) := by decide +kernel
theorem dX1_share_110 : decode cX1_share 110 = .ok (.getfield 18, 3) := by decide +kernel
theorem dX1_share_113 : decode cX1_share 113 = .ok (.iload 5, 2) := by decide +kernel
theorem dX1_share_115 : decode cX1_share 115 = .ok (.lconst 0, 1) := by decide +kernel
theorem dX1_share_116 : decode cX1_share 116 = .ok (.lastore, 1) := by decide +kernel
theorem dX1_share_117 : decode cX1_share 117 = .ok (.iinc 3 (-1), 3) := by decide +kernel
theorem dX1_share_120 : decode cX1_share 120 = .ok (.iinc 4 1, 3) := by decide +kernel
theorem dX1_share_123 : decode cX1_share 123 = .ok (.goto (-42), 3) := by decide +kernel
theorem dX1_share_126 : decode cX1_share 126 = .ok (.return_, 1) := by decide +kernel

theorem dX1_tell_0 : decode cX1_tell 0 = .ok (.iload_n 1, 1) := by decide +kernel
theorem dX1_tell_1 : decode cX1_tell 1 = .ok (.invokestatic 22, 3) := by decide +kernel
theorem dX1_tell_4 : decode cX1_tell 4 = .ok (.ifCond .ne 5, 3) := by decide +kernel
theorem dX1_tell_7 : decode cX1_tell 7 = .ok (.iconst (-1), 1) := by decide +kernel
theorem dX1_tell_8 : decode cX1_tell 8 = .ok (.ireturn, 1) := by decide +kernel
theorem dX1_tell_9 : decode cX1_tell 9 = .ok (.iload_n 2, 1) := by decide +kernel
theorem dX1_tell_10 : decode cX1_tell 10 = .ok (.lookupswitch 40 #[(0, 26), (1, 33)], 26) := by decide +kernel
theorem dX1_tell_36 : decode cX1_tell 36 = .ok (.aload_n 0, 1) := by decide +kernel
theorem dX1_tell_37 : decode cX1_tell 37 = .ok (.getfield 9, 3) := by decide +kernel
theorem dX1_tell_40 : decode cX1_tell 40 = .ok (.iload_n 1, 1) := by decide +kernel
theorem dX1_tell_41 : decode cX1_tell 41 = .ok (.iaload, 1) := by decide +kernel
theorem dX1_tell_42 : decode cX1_tell 42 = .ok (.ireturn, 1) := by decide +kernel
theorem dX1_tell_43 : decode cX1_tell 43 = .ok (.aload_n 0, 1) := by decide +kernel
theorem dX1_tell_44 : decode cX1_tell 44 = .ok (.getfield 15, 3) := by decide +kernel
theorem dX1_tell_47 : decode cX1_tell 47 = .ok (.iload_n 1, 1) := by decide +kernel
theorem dX1_tell_48 : decode cX1_tell 48 = .ok (.iaload, 1) := by decide +kernel
theorem dX1_tell_49 : decode cX1_tell 49 = .ok (.ireturn, 1) := by decide +kernel
theorem dX1_tell_50 : decode cX1_tell 50 = .ok (.iconst (-1), 1) := by decide +kernel
theorem dX1_tell_51 : decode cX1_tell 51 = .ok (.ireturn, 1) := by decide +kernel

theorem dX2_add_0 : decode cX2_add 0 = .ok (.aload_n 0, 1) := by decide +kernel
theorem dX2_add_1 : decode cX2_add 1 = .ok (.getfield 30, 3) := by decide +kernel
theorem dX2_add_4 : decode cX2_add 4 = .ok (.bipush 60, 2) := by decide +kernel
theorem dX2_add_6 : decode cX2_add 6 = .ok (.if_icmp .lt 5, 3) := by decide +kernel
theorem dX2_add_9 : decode cX2_add 9 = .ok (.iconst (-1), 1) := by decide +kernel
theorem dX2_add_10 : decode cX2_add 10 = .ok (.ireturn, 1) := by decide +kernel
theorem dX2_add_11 : decode cX2_add 11 = .ok (.aload_n 0, 1) := by decide +kernel
theorem dX2_add_12 : decode cX2_add 12 = .ok (.getfield 30, 3) := by decide +kernel
theorem dX2_add_15 : decode cX2_add 15 = .ok (.istore_n 3, 1) := by decide +kernel
theorem dX2_add_16 : decode cX2_add 16 = .ok (.aload_n 0, 1) := by decide +kernel
theorem dX2_add_17 : decode cX2_add 17 = .ok (.dup, 1) := by decide +kernel
theorem dX2_add_18 : decode cX2_add 18 = .ok (.getfield 30, 3) := by decide +kernel
theorem dX2_add_21 : decode cX2_add 21 = .ok (.iconst 1, 1) := by decide +kernel
theorem dX2_add_22 : decode cX2_add 22 = .ok (.iadd, 1) := by decide +kernel
theorem dX2_add_23 : decode cX2_add 23 = .ok (.putfield 30, 3) := by decide +kernel
theorem dX2_add_26 : decode cX2_add 26 = .ok (.aload_n 0, 1) := by decide +kernel
theorem dX2_add_27 : decode cX2_add 27 = .ok (.getfield 9, 3) := by decide +kernel
theorem dX2_add_30 : decode cX2_add 30 = .ok (.iload_n 3, 1) := by decide +kernel
theorem dX2_add_31 : decode cX2_add 31 = .ok (.iload_n 1, 1) := by decide +kernel
theorem dX2_add_32 : decode cX2_add 32 = .ok (.iastore, 1) := by decide +kernel
theorem dX2_add_33 : decode cX2_add 33 = .ok (.aload_n 0, 1) := by decide +kernel
theorem dX2_add_34 : decode cX2_add 34 = .ok (.getfield 15, 3) := by decide +kernel
theorem dX2_add_37 : decode cX2_add 37 = .ok (.iload_n 3, 1) := by decide +kernel
theorem dX2_add_38 : decode cX2_add 38 = .ok (.iload_n 2, 1) := by decide +kernel
theorem dX2_add_39 : decode cX2_add 39 = .ok (.iastore, 1) := by decide +kernel
theorem dX2_add_40 : decode cX2_add 40 = .ok (.iload_n 3, 1) := by decide +kernel
theorem dX2_add_41 : decode cX2_add 41 = .ok (.ireturn, 1) := by decide +kernel

theorem dX2_degreesApart_0 : decode cX2_degreesApart 0 = .ok (.iload_n 0, 1) := by decide +kernel
theorem dX2_degreesApart_1 : decode cX2_degreesApart 1 = .ok (.iload_n 1, 1) := by decide +kernel
theorem dX2_degreesApart_2 : decode cX2_degreesApart 2 = .ok (.isub, 1) := by decide +kernel
theorem dX2_degreesApart_3 : decode cX2_degreesApart 3 = .ok (.invokestatic 55, 3) := by decide +kernel
theorem dX2_degreesApart_6 : decode cX2_degreesApart 6 = .ok (.istore_n 2, 1) := by decide +kernel
theorem dX2_degreesApart_7 : decode cX2_degreesApart 7 = .ok (.iload_n 2, 1) := by decide +kernel
theorem dX2_degreesApart_8 : decode cX2_degreesApart 8 = .ok (.sipush 360, 3) := by decide +kernel
theorem dX2_degreesApart_11 : decode cX2_degreesApart 11 = .ok (.iload_n 2, 1) := by decide +kernel
theorem dX2_degreesApart_12 : decode cX2_degreesApart 12 = .ok (.isub, 1) := by decide +kernel
theorem dX2_degreesApart_13 : decode cX2_degreesApart 13 = .ok (.invokestatic 60, 3) := by decide +kernel
theorem dX2_degreesApart_16 : decode cX2_degreesApart 16 = .ok (.ireturn, 1) := by decide +kernel

theorem dX2_drill_0 : decode cX2_drill 0 = .ok (.aload_n 0, 1) := by decide +kernel
theorem dX2_drill_1 : decode cX2_drill 1 = .ok (.getfield 34, 3) := by decide +kernel
theorem dX2_drill_4 : decode cX2_drill 4 = .ok (.sipush 300, 3) := by decide +kernel
theorem dX2_drill_7 : decode cX2_drill 7 = .ok (.if_icmp .lt 5, 3) := by decide +kernel
theorem dX2_drill_10 : decode cX2_drill 10 = .ok (.iconst 0, 1) := by decide +kernel
theorem dX2_drill_11 : decode cX2_drill 11 = .ok (.ireturn, 1) := by decide +kernel
theorem dX2_drill_12 : decode cX2_drill 12 = .ok (.aload_n 0, 1) := by decide +kernel
theorem dX2_drill_13 : decode cX2_drill 13 = .ok (.getfield 21, 3) := by decide +kernel
theorem dX2_drill_16 : decode cX2_drill 16 = .ok (.aload_n 0, 1) := by decide +kernel
theorem dX2_drill_17 : decode cX2_drill 17 = .ok (.getfield 34, 3) := by decide +kernel
theorem dX2_drill_20 : decode cX2_drill 20 = .ok (.iload_n 1, 1) := by decide +kernel
theorem dX2_drill_21 : decode cX2_drill 21 = .ok (.iastore, 1) := by decide +kernel
theorem dX2_drill_22 : decode cX2_drill 22 = .ok (.aload_n 0, 1) := by decide +kernel
theorem dX2_drill_23 : decode cX2_drill 23 = .ok (.getfield 24, 3) := by decide +kernel
theorem dX2_drill_26 : decode cX2_drill 26 = .ok (.aload_n 0, 1) := by decide +kernel
theorem dX2_drill_27 : decode cX2_drill 27 = .ok (.getfield 34, 3) := by decide +kernel
theorem dX2_drill_30 : decode cX2_drill 30 = .ok (.iload_n 2, 1) := by decide +kernel
theorem dX2_drill_31 : decode cX2_drill 31 = .ok (.iastore, 1) := by decide +kernel
theorem dX2_drill_32 : decode cX2_drill 32 = .ok (.aload_n 0, 1) := by decide +kernel
theorem dX2_drill_33 : decode cX2_drill 33 = .ok (.getfield 27, 3) := by decide +kernel
theorem dX2_drill_36 : decode cX2_drill 36 = .ok (.aload_n 0, 1) := by decide +kernel
theorem dX2_drill_37 : decode cX2_drill 37 = .ok (.getfield 34, 3) := by decide +kernel
theorem dX2_drill_40 : decode cX2_drill 40 = .ok (.iload_n 3, 1) := by decide +kernel
theorem dX2_drill_41 : decode cX2_drill 41 = .ok (.iastore, 1) := by decide +kernel
theorem dX2_drill_42 : decode cX2_drill 42 = .ok (.aload_n 0, 1) := by decide +kernel
theorem dX2_drill_43 : decode cX2_drill 43 = .ok (.dup, 1) := by decide +kernel
theorem dX2_drill_44 : decode cX2_drill 44 = .ok (.getfield 34, 3) := by decide +kernel
theorem dX2_drill_47 : decode cX2_drill 47 = .ok (.iconst 1, 1) := by decide +kernel
theorem dX2_drill_48 : decode cX2_drill 48 = .ok (.iadd, 1) := by decide +kernel
theorem dX2_drill_49 : decode cX2_drill 49 = .ok (.putfield 34, 3) := by decide +kernel
theorem dX2_drill_52 : decode cX2_drill 52 = .ok (.iconst 1, 1) := by decide +kernel
theorem dX2_drill_53 : decode cX2_drill 53 = .ok (.ireturn, 1) := by decide +kernel

theorem dX2_forgetYear_0 : decode cX2_forgetYear 0 = .ok (.aload_n 0, 1) := by decide +kernel
theorem dX2_forgetYear_1 : decode cX2_forgetYear 1 = .ok (.getfield 18, 3) := by decide +kernel
theorem dX2_forgetYear_4 : decode cX2_forgetYear 4 = .ok (.iconst 0, 1) := by decide +kernel
theorem dX2_forgetYear_5 : decode cX2_forgetYear 5 = .ok (.invokestatic 41, 3) := by decide +kernel
theorem dX2_forgetYear_8 : decode cX2_forgetYear 8 = .ok (.return_, 1) := by decide +kernel

theorem dX2_gaveThisYear_0 : decode cX2_gaveThisYear 0 = .ok (.aload_n 0, 1) := by decide +kernel
theorem dX2_gaveThisYear_1 : decode cX2_gaveThisYear 1 = .ok (.iload_n 1, 1) := by decide +kernel
theorem dX2_gaveThisYear_2 : decode cX2_gaveThisYear 2 = .ok (.invokevirtual 37, 3) := by decide +kernel
theorem dX2_gaveThisYear_5 : decode cX2_gaveThisYear 5 = .ok (.ifCond .eq 12, 3) := by decide +kernel
theorem dX2_gaveThisYear_8 : decode cX2_gaveThisYear 8 = .ok (.aload_n 0, 1) := by decide +kernel
theorem dX2_gaveThisYear_9 : decode cX2_gaveThisYear 9 = .ok (.getfield 18, 3) := by decide +kernel
theorem dX2_gaveThisYear_12 : decode cX2_gaveThisYear 12 = .ok (.iload_n 1, 1) := by decide +kernel
theorem dX2_gaveThisYear_13 : decode cX2_gaveThisYear 13 = .ok (.iaload, 1) := by decide +kernel
theorem dX2_gaveThisYear_14 : decode cX2_gaveThisYear 14 = .ok (.goto 4, 3) := by decide +kernel
theorem dX2_gaveThisYear_17 : decode cX2_gaveThisYear 17 = .ok (.iconst (-1), 1) := by decide +kernel
theorem dX2_gaveThisYear_18 : decode cX2_gaveThisYear 18 = .ok (.ireturn, 1) := by decide +kernel

theorem dX2_girthOf_0 : decode cX2_girthOf 0 = .ok (.aload_n 0, 1) := by decide +kernel
theorem dX2_girthOf_1 : decode cX2_girthOf 1 = .ok (.iload_n 1, 1) := by decide +kernel
theorem dX2_girthOf_2 : decode cX2_girthOf 2 = .ok (.invokevirtual 37, 3) := by decide +kernel
theorem dX2_girthOf_5 : decode cX2_girthOf 5 = .ok (.ifCond .eq 12, 3) := by decide +kernel
theorem dX2_girthOf_8 : decode cX2_girthOf 8 = .ok (.aload_n 0, 1) := by decide +kernel
theorem dX2_girthOf_9 : decode cX2_girthOf 9 = .ok (.getfield 15, 3) := by decide +kernel
theorem dX2_girthOf_12 : decode cX2_girthOf 12 = .ok (.iload_n 1, 1) := by decide +kernel
theorem dX2_girthOf_13 : decode cX2_girthOf 13 = .ok (.iaload, 1) := by decide +kernel
theorem dX2_girthOf_14 : decode cX2_girthOf 14 = .ok (.goto 4, 3) := by decide +kernel
theorem dX2_girthOf_17 : decode cX2_girthOf 17 = .ok (.iconst (-1), 1) := by decide +kernel
theorem dX2_girthOf_18 : decode cX2_girthOf 18 = .ok (.ireturn, 1) := by decide +kernel

theorem dX2_give_0 : decode cX2_give 0 = .ok (.aload_n 0, 1) := by decide +kernel
theorem dX2_give_1 : decode cX2_give 1 = .ok (.iload_n 1, 1) := by decide +kernel
theorem dX2_give_2 : decode cX2_give 2 = .ok (.invokevirtual 37, 3) := by decide +kernel
theorem dX2_give_5 : decode cX2_give 5 = .ok (.ifCond .eq 13, 3) := by decide +kernel
theorem dX2_give_8 : decode cX2_give 8 = .ok (.aload_n 0, 1) := by decide +kernel
theorem dX2_give_9 : decode cX2_give 9 = .ok (.getfield 18, 3) := by decide +kernel
theorem dX2_give_12 : decode cX2_give 12 = .ok (.iload_n 1, 1) := by decide +kernel
theorem dX2_give_13 : decode cX2_give 13 = .ok (.dup2, 1) := by decide +kernel
theorem dX2_give_14 : decode cX2_give 14 = .ok (.iaload, 1) := by decide +kernel
theorem dX2_give_15 : decode cX2_give 15 = .ok (.iload_n 2, 1) := by decide +kernel
theorem dX2_give_16 : decode cX2_give 16 = .ok (.iadd, 1) := by decide +kernel
theorem dX2_give_17 : decode cX2_give 17 = .ok (.iastore, 1) := by decide +kernel
theorem dX2_give_18 : decode cX2_give 18 = .ok (.return_, 1) := by decide +kernel

theorem dX2_has_0 : decode cX2_has 0 = .ok (.iload_n 1, 1) := by decide +kernel
theorem dX2_has_1 : decode cX2_has 1 = .ok (.ifCond .lt 15, 3) := by decide +kernel
theorem dX2_has_4 : decode cX2_has 4 = .ok (.iload_n 1, 1) := by decide +kernel
theorem dX2_has_5 : decode cX2_has 5 = .ok (.aload_n 0, 1) := by decide +kernel
theorem dX2_has_6 : decode cX2_has 6 = .ok (.getfield 30, 3) := by decide +kernel
theorem dX2_has_9 : decode cX2_has 9 = .ok (.if_icmp .ge 7, 3) := by decide +kernel
theorem dX2_has_12 : decode cX2_has 12 = .ok (.iconst 1, 1) := by decide +kernel
theorem dX2_has_13 : decode cX2_has 13 = .ok (.goto 4, 3) := by decide +kernel
theorem dX2_has_16 : decode cX2_has 16 = .ok (.iconst 0, 1) := by decide +kernel
theorem dX2_has_17 : decode cX2_has 17 = .ok (.ireturn, 1) := by decide +kernel

theorem dX2_hasHole_0 : decode cX2_hasHole 0 = .ok (.iload_n 1, 1) := by decide +kernel
theorem dX2_hasHole_1 : decode cX2_hasHole 1 = .ok (.ifCond .lt 15, 3) := by decide +kernel
theorem dX2_hasHole_4 : decode cX2_hasHole 4 = .ok (.iload_n 1, 1) := by decide +kernel
theorem dX2_hasHole_5 : decode cX2_hasHole 5 = .ok (.aload_n 0, 1) := by decide +kernel
theorem dX2_hasHole_6 : decode cX2_hasHole 6 = .ok (.getfield 34, 3) := by decide +kernel
theorem dX2_hasHole_9 : decode cX2_hasHole 9 = .ok (.if_icmp .ge 7, 3) := by decide +kernel
theorem dX2_hasHole_12 : decode cX2_hasHole 12 = .ok (.iconst 1, 1) := by decide +kernel
theorem dX2_hasHole_13 : decode cX2_hasHole 13 = .ok (.goto 4, 3) := by decide +kernel
theorem dX2_hasHole_16 : decode cX2_hasHole 16 = .ok (.iconst 0, 1) := by decide +kernel
theorem dX2_hasHole_17 : decode cX2_hasHole 17 = .ok (.ireturn, 1) := by decide +kernel

theorem dX2_holesOf_0 : decode cX2_holesOf 0 = .ok (.iconst 0, 1) := by decide +kernel
theorem dX2_holesOf_1 : decode cX2_holesOf 1 = .ok (.istore_n 2, 1) := by decide +kernel
theorem dX2_holesOf_2 : decode cX2_holesOf 2 = .ok (.iconst 0, 1) := by decide +kernel
theorem dX2_holesOf_3 : decode cX2_holesOf 3 = .ok (.istore_n 3, 1) := by decide +kernel
theorem dX2_holesOf_4 : decode cX2_holesOf 4 = .ok (.iload_n 3, 1) := by decide +kernel
theorem dX2_holesOf_5 : decode cX2_holesOf 5 = .ok (.aload_n 0, 1) := by decide +kernel
theorem dX2_holesOf_6 : decode cX2_holesOf 6 = .ok (.getfield 34, 3) := by decide +kernel
theorem dX2_holesOf_9 : decode cX2_holesOf 9 = .ok (.if_icmp .ge 22, 3) := by decide +kernel
theorem dX2_holesOf_12 : decode cX2_holesOf 12 = .ok (.aload_n 0, 1) := by decide +kernel
theorem dX2_holesOf_13 : decode cX2_holesOf 13 = .ok (.getfield 21, 3) := by decide +kernel
theorem dX2_holesOf_16 : decode cX2_holesOf 16 = .ok (.iload_n 3, 1) := by decide +kernel
theorem dX2_holesOf_17 : decode cX2_holesOf 17 = .ok (.iaload, 1) := by decide +kernel
theorem dX2_holesOf_18 : decode cX2_holesOf 18 = .ok (.iload_n 1, 1) := by decide +kernel
theorem dX2_holesOf_19 : decode cX2_holesOf 19 = .ok (.if_icmp .ne 6, 3) := by decide +kernel
theorem dX2_holesOf_22 : decode cX2_holesOf 22 = .ok (.iinc 2 1, 3) := by decide +kernel
theorem dX2_holesOf_25 : decode cX2_holesOf 25 = .ok (.iinc 3 1, 3) := by decide +kernel
theorem dX2_holesOf_28 : decode cX2_holesOf 28 = .ok (.goto (-24), 3) := by decide +kernel
theorem dX2_holesOf_31 : decode cX2_holesOf 31 = .ok (.iload_n 2, 1) := by decide +kernel
theorem dX2_holesOf_32 : decode cX2_holesOf 32 = .ok (.ireturn, 1) := by decide +kernel

theorem dX2_init_0 : decode cX2_init 0 = .ok (.aload_n 0, 1) := by decide +kernel
theorem dX2_init_1 : decode cX2_init 1 = .ok (.invokespecial 3, 3) := by decide +kernel
theorem dX2_init_4 : decode cX2_init 4 = .ok (.aload_n 0, 1) := by decide +kernel
theorem dX2_init_5 : decode cX2_init 5 = .ok (.bipush 60, 2) := by decide +kernel
theorem dX2_init_7 : decode cX2_init 7 = .ok (.newarray .int, 2) := by decide +kernel
theorem dX2_init_9 : decode cX2_init 9 = .ok (.putfield 9, 3) := by decide +kernel
theorem dX2_init_12 : decode cX2_init 12 = .ok (.aload_n 0, 1) := by decide +kernel
theorem dX2_init_13 : decode cX2_init 13 = .ok (.bipush 60, 2) := by decide +kernel
theorem dX2_init_15 : decode cX2_init 15 = .ok (.newarray .int, 2) := by decide +kernel
theorem dX2_init_17 : decode cX2_init 17 = .ok (.putfield 15, 3) := by decide +kernel
theorem dX2_init_20 : decode cX2_init 20 = .ok (.aload_n 0, 1) := by decide +kernel
theorem dX2_init_21 : decode cX2_init 21 = .ok (.bipush 60, 2) := by decide +kernel
theorem dX2_init_23 : decode cX2_init 23 = .ok (.newarray .int, 2) := by decide +kernel
theorem dX2_init_25 : decode cX2_init 25 = .ok (.putfield 18, 3) := by decide +kernel
theorem dX2_init_28 : decode cX2_init 28 = .ok (.aload_n 0, 1) := by decide +kernel
theorem dX2_init_29 : decode cX2_init 29 = .ok (.sipush 300, 3) := by decide +kernel
theorem dX2_init_32 : decode cX2_init 32 = .ok (.newarray .int, 2) := by decide +kernel
theorem dX2_init_34 : decode cX2_init 34 = .ok (.putfield 21, 3) := by decide +kernel
theorem dX2_init_37 : decode cX2_init 37 = .ok (.aload_n 0, 1) := by decide +kernel
theorem dX2_init_38 : decode cX2_init 38 = .ok (.sipush 300, 3) := by decide +kernel
theorem dX2_init_41 : decode cX2_init 41 = .ok (.newarray .int, 2) := by decide +kernel
theorem dX2_init_43 : decode cX2_init 43 = .ok (.putfield 24, 3) := by decide +kernel
theorem dX2_init_46 : decode cX2_init 46 = .ok (.aload_n 0, 1) := by decide +kernel
theorem dX2_init_47 : decode cX2_init 47 = .ok (.sipush 300, 3) := by decide +kernel
theorem dX2_init_50 : decode cX2_init 50 = .ok (.newarray .int, 2) := by decide +kernel
theorem dX2_init_52 : decode cX2_init 52 = .ok (.putfield 27, 3) := by decide +kernel
theorem dX2_init_55 : decode cX2_init 55 = .ok (.return_, 1) := by decide +kernel

theorem dX2_isTooNear_0 : decode cX2_isTooNear 0 = .ok (.iconst 0, 1) := by decide +kernel
theorem dX2_isTooNear_1 : decode cX2_isTooNear 1 = .ok (.istore 4, 2) := by decide +kernel
theorem dX2_isTooNear_3 : decode cX2_isTooNear 3 = .ok (.iload 4, 2) := by decide +kernel
theorem dX2_isTooNear_5 : decode cX2_isTooNear 5 = .ok (.aload_n 0, 1) := by decide +kernel
theorem dX2_isTooNear_6 : decode cX2_isTooNear 6 = .ok (.getfield 34, 3) := by decide +kernel
theorem dX2_isTooNear_9 : decode cX2_isTooNear 9 = .ok (.if_icmp .ge 51, 3) := by decide +kernel
theorem dX2_isTooNear_12 : decode cX2_isTooNear 12 = .ok (.aload_n 0, 1) := by decide +kernel
theorem dX2_isTooNear_13 : decode cX2_isTooNear 13 = .ok (.getfield 21, 3) := by decide +kernel
theorem dX2_isTooNear_16 : decode cX2_isTooNear 16 = .ok (.iload 4, 2) := by decide +kernel
theorem dX2_isTooNear_18 : decode cX2_isTooNear 18 = .ok (.iaload, 1) := by decide +kernel
theorem dX2_isTooNear_19 : decode cX2_isTooNear 19 = .ok (.iload_n 1, 1) := by decide +kernel
theorem dX2_isTooNear_20 : decode cX2_isTooNear 20 = .ok (.if_icmp .ne 34, 3) := by decide +kernel
theorem dX2_isTooNear_23 : decode cX2_isTooNear 23 = .ok (.aload_n 0, 1) := by decide +kernel
theorem dX2_isTooNear_24 : decode cX2_isTooNear 24 = .ok (.getfield 27, 3) := by decide +kernel
theorem dX2_isTooNear_27 : decode cX2_isTooNear 27 = .ok (.iload 4, 2) := by decide +kernel
theorem dX2_isTooNear_29 : decode cX2_isTooNear 29 = .ok (.iaload, 1) := by decide +kernel
theorem dX2_isTooNear_30 : decode cX2_isTooNear 30 = .ok (.iload_n 3, 1) := by decide +kernel
theorem dX2_isTooNear_31 : decode cX2_isTooNear 31 = .ok (.iconst 3, 1) := by decide +kernel
theorem dX2_isTooNear_32 : decode cX2_isTooNear 32 = .ok (.isub, 1) := by decide +kernel
theorem dX2_isTooNear_33 : decode cX2_isTooNear 33 = .ok (.if_icmp .lt 21, 3) := by decide +kernel
theorem dX2_isTooNear_36 : decode cX2_isTooNear 36 = .ok (.aload_n 0, 1) := by decide +kernel
theorem dX2_isTooNear_37 : decode cX2_isTooNear 37 = .ok (.getfield 24, 3) := by decide +kernel
theorem dX2_isTooNear_40 : decode cX2_isTooNear 40 = .ok (.iload 4, 2) := by decide +kernel
theorem dX2_isTooNear_42 : decode cX2_isTooNear 42 = .ok (.iaload, 1) := by decide +kernel
theorem dX2_isTooNear_43 : decode cX2_isTooNear 43 = .ok (.iload_n 2, 1) := by decide +kernel
theorem dX2_isTooNear_44 : decode cX2_isTooNear 44 = .ok (.invokestatic 51, 3) := by decide +kernel
theorem dX2_isTooNear_47 : decode cX2_isTooNear 47 = .ok (.bipush 40, 2) := by decide +kernel
theorem dX2_isTooNear_49 : decode cX2_isTooNear 49 = .ok (.if_icmp .ge 5, 3) := by decide +kernel
theorem dX2_isTooNear_52 : decode cX2_isTooNear 52 = .ok (.iconst 1, 1) := by decide +kernel
theorem dX2_isTooNear_53 : decode cX2_isTooNear 53 = .ok (.ireturn, 1) := by decide +kernel
theorem dX2_isTooNear_54 : decode cX2_isTooNear 54 = .ok (.iinc 4 1, 3) := by decide +kernel
theorem dX2_isTooNear_57 : decode cX2_isTooNear 57 = .ok (.goto (-54), 3) := by decide +kernel
theorem dX2_isTooNear_60 : decode cX2_isTooNear 60 = .ok (.iconst 0, 1) := by decide +kernel
theorem dX2_isTooNear_61 : decode cX2_isTooNear 61 = .ok (.ireturn, 1) := by decide +kernel

theorem dX2_nodeOfTree_0 : decode cX2_nodeOfTree 0 = .ok (.aload_n 0, 1) := by decide +kernel
theorem dX2_nodeOfTree_1 : decode cX2_nodeOfTree 1 = .ok (.iload_n 1, 1) := by decide +kernel
theorem dX2_nodeOfTree_2 : decode cX2_nodeOfTree 2 = .ok (.invokevirtual 37, 3) := by decide +kernel
theorem dX2_nodeOfTree_5 : decode cX2_nodeOfTree 5 = .ok (.ifCond .eq 12, 3) := by decide +kernel
theorem dX2_nodeOfTree_8 : decode cX2_nodeOfTree 8 = .ok (.aload_n 0, 1) := by decide +kernel
theorem dX2_nodeOfTree_9 : decode cX2_nodeOfTree 9 = .ok (.getfield 9, 3) := by decide +kernel
theorem dX2_nodeOfTree_12 : decode cX2_nodeOfTree 12 = .ok (.iload_n 1, 1) := by decide +kernel
theorem dX2_nodeOfTree_13 : decode cX2_nodeOfTree 13 = .ok (.iaload, 1) := by decide +kernel
theorem dX2_nodeOfTree_14 : decode cX2_nodeOfTree 14 = .ok (.goto 4, 3) := by decide +kernel
theorem dX2_nodeOfTree_17 : decode cX2_nodeOfTree 17 = .ok (.iconst (-1), 1) := by decide +kernel
theorem dX2_nodeOfTree_18 : decode cX2_nodeOfTree 18 = .ok (.ireturn, 1) := by decide +kernel

theorem dX2_tapsAllowed_0 : decode cX2_tapsAllowed 0 = .ok (.aload_n 0, 1) := by decide +kernel
theorem dX2_tapsAllowed_1 : decode cX2_tapsAllowed 1 = .ok (.iload_n 1, 1) := by decide +kernel
theorem dX2_tapsAllowed_2 : decode cX2_tapsAllowed 2 = .ok (.invokevirtual 47, 3) := by decide +kernel
theorem dX2_tapsAllowed_5 : decode cX2_tapsAllowed 5 = .ok (.istore_n 2, 1) := by decide +kernel
theorem dX2_tapsAllowed_6 : decode cX2_tapsAllowed 6 = .ok (.iload_n 2, 1) := by decide +kernel
theorem dX2_tapsAllowed_7 : decode cX2_tapsAllowed 7 = .ok (.bipush 80, 2) := by decide +kernel
theorem dX2_tapsAllowed_9 : decode cX2_tapsAllowed 9 = .ok (.if_icmp .ge 5, 3) := by decide +kernel
theorem dX2_tapsAllowed_12 : decode cX2_tapsAllowed 12 = .ok (.iconst 0, 1) := by decide +kernel
theorem dX2_tapsAllowed_13 : decode cX2_tapsAllowed 13 = .ok (.ireturn, 1) := by decide +kernel
theorem dX2_tapsAllowed_14 : decode cX2_tapsAllowed 14 = .ok (.iload_n 2, 1) := by decide +kernel
theorem dX2_tapsAllowed_15 : decode cX2_tapsAllowed 15 = .ok (.sipush 150, 3) := by decide +kernel
theorem dX2_tapsAllowed_18 : decode cX2_tapsAllowed 18 = .ok (.if_icmp .ge 5, 3) := by decide +kernel
theorem dX2_tapsAllowed_21 : decode cX2_tapsAllowed 21 = .ok (.iconst 1, 1) := by decide +kernel
theorem dX2_tapsAllowed_22 : decode cX2_tapsAllowed 22 = .ok (.ireturn, 1) := by decide +kernel
theorem dX2_tapsAllowed_23 : decode cX2_tapsAllowed 23 = .ok (.iload_n 2, 1) := by decide +kernel
theorem dX2_tapsAllowed_24 : decode cX2_tapsAllowed 24 = .ok (.sipush 200, 3) := by decide +kernel
theorem dX2_tapsAllowed_27 : decode cX2_tapsAllowed 27 = .ok (.if_icmp .ge 7, 3) := by decide +kernel
theorem dX2_tapsAllowed_30 : decode cX2_tapsAllowed 30 = .ok (.iconst 2, 1) := by decide +kernel
theorem dX2_tapsAllowed_31 : decode cX2_tapsAllowed 31 = .ok (.goto 4, 3) := by decide +kernel
theorem dX2_tapsAllowed_34 : decode cX2_tapsAllowed 34 = .ok (.iconst 3, 1) := by decide +kernel
theorem dX2_tapsAllowed_35 : decode cX2_tapsAllowed 35 = .ok (.ireturn, 1) := by decide +kernel

theorem dX2_tapsOf_0 : decode cX2_tapsOf 0 = .ok (.iconst 0, 1) := by decide +kernel
theorem dX2_tapsOf_1 : decode cX2_tapsOf 1 = .ok (.istore_n 3, 1) := by decide +kernel
theorem dX2_tapsOf_2 : decode cX2_tapsOf 2 = .ok (.iconst 0, 1) := by decide +kernel
theorem dX2_tapsOf_3 : decode cX2_tapsOf 3 = .ok (.istore 4, 2) := by decide +kernel
theorem dX2_tapsOf_5 : decode cX2_tapsOf 5 = .ok (.iload 4, 2) := by decide +kernel
theorem dX2_tapsOf_7 : decode cX2_tapsOf 7 = .ok (.aload_n 0, 1) := by decide +kernel
theorem dX2_tapsOf_8 : decode cX2_tapsOf 8 = .ok (.getfield 34, 3) := by decide +kernel
theorem dX2_tapsOf_11 : decode cX2_tapsOf 11 = .ok (.if_icmp .ge 34, 3) := by decide +kernel
theorem dX2_tapsOf_14 : decode cX2_tapsOf 14 = .ok (.aload_n 0, 1) := by decide +kernel
theorem dX2_tapsOf_15 : decode cX2_tapsOf 15 = .ok (.getfield 21, 3) := by decide +kernel
theorem dX2_tapsOf_18 : decode cX2_tapsOf 18 = .ok (.iload 4, 2) := by decide +kernel
theorem dX2_tapsOf_20 : decode cX2_tapsOf 20 = .ok (.iaload, 1) := by decide +kernel
theorem dX2_tapsOf_21 : decode cX2_tapsOf 21 = .ok (.iload_n 1, 1) := by decide +kernel
theorem dX2_tapsOf_22 : decode cX2_tapsOf 22 = .ok (.if_icmp .ne 17, 3) := by decide +kernel
theorem dX2_tapsOf_25 : decode cX2_tapsOf 25 = .ok (.aload_n 0, 1) := by decide +kernel
theorem dX2_tapsOf_26 : decode cX2_tapsOf 26 = .ok (.getfield 27, 3) := by decide +kernel
theorem dX2_tapsOf_29 : decode cX2_tapsOf 29 = .ok (.iload 4, 2) := by decide +kernel
theorem dX2_tapsOf_31 : decode cX2_tapsOf 31 = .ok (.iaload, 1) := by decide +kernel
theorem dX2_tapsOf_32 : decode cX2_tapsOf 32 = .ok (.iload_n 2, 1) := by decide +kernel
theorem dX2_tapsOf_33 : decode cX2_tapsOf 33 = .ok (.if_icmp .ne 6, 3) := by decide +kernel
theorem dX2_tapsOf_36 : decode cX2_tapsOf 36 = .ok (.iinc 3 1, 3) := by decide +kernel
theorem dX2_tapsOf_39 : decode cX2_tapsOf 39 = .ok (.iinc 4 1, 3) := by decide +kernel
theorem dX2_tapsOf_42 : decode cX2_tapsOf 42 = .ok (.goto (-37), 3) := by decide +kernel
theorem dX2_tapsOf_45 : decode cX2_tapsOf 45 = .ok (.iload_n 3, 1) := by decide +kernel
theorem dX2_tapsOf_46 : decode cX2_tapsOf 46 = .ok (.ireturn, 1) := by decide +kernel

theorem dX2_treeOfHole_0 : decode cX2_treeOfHole 0 = .ok (.aload_n 0, 1) := by decide +kernel
theorem dX2_treeOfHole_1 : decode cX2_treeOfHole 1 = .ok (.iload_n 1, 1) := by decide +kernel
theorem dX2_treeOfHole_2 : decode cX2_treeOfHole 2 = .ok (.invokevirtual 63, 3) := by decide +kernel
theorem dX2_treeOfHole_5 : decode cX2_treeOfHole 5 = .ok (.ifCond .eq 12, 3) := by decide +kernel
theorem dX2_treeOfHole_8 : decode cX2_treeOfHole 8 = .ok (.aload_n 0, 1) := by decide +kernel
theorem dX2_treeOfHole_9 : decode cX2_treeOfHole 9 = .ok (.getfield 21, 3) := by decide +kernel
theorem dX2_treeOfHole_12 : decode cX2_treeOfHole 12 = .ok (.iload_n 1, 1) := by decide +kernel
theorem dX2_treeOfHole_13 : decode cX2_treeOfHole 13 = .ok (.iaload, 1) := by decide +kernel
theorem dX2_treeOfHole_14 : decode cX2_treeOfHole 14 = .ok (.goto 4, 3) := by decide +kernel
theorem dX2_treeOfHole_17 : decode cX2_treeOfHole 17 = .ok (.iconst (-1), 1) := by decide +kernel
theorem dX2_treeOfHole_18 : decode cX2_treeOfHole 18 = .ok (.ireturn, 1) := by decide +kernel

theorem dX2_treesAt_0 : decode cX2_treesAt 0 = .ok (.iconst 0, 1) := by decide +kernel
theorem dX2_treesAt_1 : decode cX2_treesAt 1 = .ok (.istore_n 2, 1) := by decide +kernel
theorem dX2_treesAt_2 : decode cX2_treesAt 2 = .ok (.iconst 0, 1) := by decide +kernel
theorem dX2_treesAt_3 : decode cX2_treesAt 3 = .ok (.istore_n 3, 1) := by decide +kernel
theorem dX2_treesAt_4 : decode cX2_treesAt 4 = .ok (.iload_n 3, 1) := by decide +kernel
theorem dX2_treesAt_5 : decode cX2_treesAt 5 = .ok (.aload_n 0, 1) := by decide +kernel
theorem dX2_treesAt_6 : decode cX2_treesAt 6 = .ok (.getfield 30, 3) := by decide +kernel
theorem dX2_treesAt_9 : decode cX2_treesAt 9 = .ok (.if_icmp .ge 22, 3) := by decide +kernel
theorem dX2_treesAt_12 : decode cX2_treesAt 12 = .ok (.aload_n 0, 1) := by decide +kernel
theorem dX2_treesAt_13 : decode cX2_treesAt 13 = .ok (.getfield 9, 3) := by decide +kernel
theorem dX2_treesAt_16 : decode cX2_treesAt 16 = .ok (.iload_n 3, 1) := by decide +kernel
theorem dX2_treesAt_17 : decode cX2_treesAt 17 = .ok (.iaload, 1) := by decide +kernel
theorem dX2_treesAt_18 : decode cX2_treesAt 18 = .ok (.iload_n 1, 1) := by decide +kernel
theorem dX2_treesAt_19 : decode cX2_treesAt 19 = .ok (.if_icmp .ne 6, 3) := by decide +kernel
theorem dX2_treesAt_22 : decode cX2_treesAt 22 = .ok (.iinc 2 1, 3) := by decide +kernel
theorem dX2_treesAt_25 : decode cX2_treesAt 25 = .ok (.iinc 3 1, 3) := by decide +kernel
theorem dX2_treesAt_28 : decode cX2_treesAt 28 = .ok (.goto (-24), 3) := by decide +kernel
theorem dX2_treesAt_31 : decode cX2_treesAt 31 = .ok (.iload_n 2, 1) := by decide +kernel
theorem dX2_treesAt_32 : decode cX2_treesAt 32 = .ok (.ireturn, 1) := by decide +kernel

theorem dX2_yearOfHole_0 : decode cX2_yearOfHole 0 = .ok (.aload_n 0, 1) := by decide +kernel
theorem dX2_yearOfHole_1 : decode cX2_yearOfHole 1 = .ok (.iload_n 1, 1) := by decide +kernel
theorem dX2_yearOfHole_2 : decode cX2_yearOfHole 2 = .ok (.invokevirtual 63, 3) := by decide +kernel
theorem dX2_yearOfHole_5 : decode cX2_yearOfHole 5 = .ok (.ifCond .eq 12, 3) := by decide +kernel
theorem dX2_yearOfHole_8 : decode cX2_yearOfHole 8 = .ok (.aload_n 0, 1) := by decide +kernel
theorem dX2_yearOfHole_9 : decode cX2_yearOfHole 9 = .ok (.getfield 27, 3) := by decide +kernel
theorem dX2_yearOfHole_12 : decode cX2_yearOfHole 12 = .ok (.iload_n 1, 1) := by decide +kernel
theorem dX2_yearOfHole_13 : decode cX2_yearOfHole 13 = .ok (.iaload, 1) := by decide +kernel
theorem dX2_yearOfHole_14 : decode cX2_yearOfHole 14 = .ok (.goto 4, 3) := by decide +kernel
theorem dX2_yearOfHole_17 : decode cX2_yearOfHole 17 = .ok (.iconst (-1), 1) := by decide +kernel
theorem dX2_yearOfHole_18 : decode cX2_yearOfHole 18 = .ok (.ireturn, 1) := by decide +kernel

theorem dX3_boilMinute_0 : decode cX3_boilMinute 0 = .ok (.aload_n 0, 1) := by decide +kernel
theorem dX3_boilMinute_1 : decode cX3_boilMinute 1 = .ok (.getfield 24, 3) := by decide +kernel
theorem dX3_boilMinute_4 : decode cX3_boilMinute 4 = .ok (.aload_n 0, 1) := by decide +kernel
theorem dX3_boilMinute_5 : decode cX3_boilMinute 5 = .ok (.getfield 34, 3) := by decide +kernel
theorem dX3_boilMinute_8 : decode cX3_boilMinute 8 = .ok (.if_icmp .ge 7, 3) := by decide +kernel
theorem dX3_boilMinute_11 : decode cX3_boilMinute 11 = .ok (.iconst 0, 1) := by decide +kernel
theorem dX3_boilMinute_12 : decode cX3_boilMinute 12 = .ok (.goto 7, 3) := by decide +kernel
theorem dX3_boilMinute_15 : decode cX3_boilMinute 15 = .ok (.aload_n 0, 1) := by decide +kernel
theorem dX3_boilMinute_16 : decode cX3_boilMinute 16 = .ok (.getfield 34, 3) := by decide +kernel
theorem dX3_boilMinute_19 : decode cX3_boilMinute 19 = .ok (.istore_n 1, 1) := by decide +kernel
theorem dX3_boilMinute_20 : decode cX3_boilMinute 20 = .ok (.aload_n 0, 1) := by decide +kernel
theorem dX3_boilMinute_21 : decode cX3_boilMinute 21 = .ok (.dup, 1) := by decide +kernel
theorem dX3_boilMinute_22 : decode cX3_boilMinute 22 = .ok (.getfield 24, 3) := by decide +kernel
theorem dX3_boilMinute_25 : decode cX3_boilMinute 25 = .ok (.iload_n 1, 1) := by decide +kernel
theorem dX3_boilMinute_26 : decode cX3_boilMinute 26 = .ok (.isub, 1) := by decide +kernel
theorem dX3_boilMinute_27 : decode cX3_boilMinute 27 = .ok (.putfield 24, 3) := by decide +kernel
theorem dX3_boilMinute_30 : decode cX3_boilMinute 30 = .ok (.aload_n 0, 1) := by decide +kernel
theorem dX3_boilMinute_31 : decode cX3_boilMinute 31 = .ok (.dup, 1) := by decide +kernel
theorem dX3_boilMinute_32 : decode cX3_boilMinute 32 = .ok (.getfield 9, 3) := by decide +kernel
theorem dX3_boilMinute_35 : decode cX3_boilMinute 35 = .ok (.iconst 0, 1) := by decide +kernel
theorem dX3_boilMinute_36 : decode cX3_boilMinute 36 = .ok (.iload_n 1, 1) := by decide +kernel
theorem dX3_boilMinute_37 : decode cX3_boilMinute 37 = .ok (.iconst 4, 1) := by decide +kernel
theorem dX3_boilMinute_38 : decode cX3_boilMinute 38 = .ok (.imul, 1) := by decide +kernel
theorem dX3_boilMinute_39 : decode cX3_boilMinute 39 = .ok (.aload_n 0, 1) := by decide +kernel
theorem dX3_boilMinute_40 : decode cX3_boilMinute 40 = .ok (.getfield 9, 3) := by decide +kernel
theorem dX3_boilMinute_43 : decode cX3_boilMinute 43 = .ok (.iconst 1, 1) := by decide +kernel
theorem dX3_boilMinute_44 : decode cX3_boilMinute 44 = .ok (.isub, 1) := by decide +kernel
theorem dX3_boilMinute_45 : decode cX3_boilMinute 45 = .ok (.invokestatic 37, 3) := by decide +kernel
theorem dX3_boilMinute_48 : decode cX3_boilMinute 48 = .ok (.invokestatic 43, 3) := by decide +kernel
theorem dX3_boilMinute_51 : decode cX3_boilMinute 51 = .ok (.isub, 1) := by decide +kernel
theorem dX3_boilMinute_52 : decode cX3_boilMinute 52 = .ok (.putfield 9, 3) := by decide +kernel
theorem dX3_boilMinute_55 : decode cX3_boilMinute 55 = .ok (.aload_n 0, 1) := by decide +kernel
theorem dX3_boilMinute_56 : decode cX3_boilMinute 56 = .ok (.dup, 1) := by decide +kernel
theorem dX3_boilMinute_57 : decode cX3_boilMinute 57 = .ok (.getfield 21, 3) := by decide +kernel
theorem dX3_boilMinute_60 : decode cX3_boilMinute 60 = .ok (.iconst 1, 1) := by decide +kernel
theorem dX3_boilMinute_61 : decode cX3_boilMinute 61 = .ok (.iadd, 1) := by decide +kernel
theorem dX3_boilMinute_62 : decode cX3_boilMinute 62 = .ok (.putfield 21, 3) := by decide +kernel
theorem dX3_boilMinute_65 : decode cX3_boilMinute 65 = .ok (.return_, 1) := by decide +kernel

theorem dX3_empty_0 : decode cX3_empty 0 = .ok (.aload_n 0, 1) := by decide +kernel
theorem dX3_empty_1 : decode cX3_empty 1 = .ok (.iconst 0, 1) := by decide +kernel
theorem dX3_empty_2 : decode cX3_empty 2 = .ok (.putfield 9, 3) := by decide +kernel
theorem dX3_empty_5 : decode cX3_empty 5 = .ok (.aload_n 0, 1) := by decide +kernel
theorem dX3_empty_6 : decode cX3_empty 6 = .ok (.lconst 0, 1) := by decide +kernel
theorem dX3_empty_7 : decode cX3_empty 7 = .ok (.putfield 15, 3) := by decide +kernel
theorem dX3_empty_10 : decode cX3_empty 10 = .ok (.aload_n 0, 1) := by decide +kernel
theorem dX3_empty_11 : decode cX3_empty 11 = .ok (.iconst 0, 1) := by decide +kernel
theorem dX3_empty_12 : decode cX3_empty 12 = .ok (.putfield 21, 3) := by decide +kernel
theorem dX3_empty_15 : decode cX3_empty 15 = .ok (.return_, 1) := by decide +kernel

theorem dX3_fill_0 : decode cX3_fill 0 = .ok (.aload_n 0, 1) := by decide +kernel
theorem dX3_fill_1 : decode cX3_fill 1 = .ok (.dup, 1) := by decide +kernel
theorem dX3_fill_2 : decode cX3_fill 2 = .ok (.getfield 9, 3) := by decide +kernel
theorem dX3_fill_5 : decode cX3_fill 5 = .ok (.iload_n 1, 1) := by decide +kernel
theorem dX3_fill_6 : decode cX3_fill 6 = .ok (.iadd, 1) := by decide +kernel
theorem dX3_fill_7 : decode cX3_fill 7 = .ok (.putfield 9, 3) := by decide +kernel
theorem dX3_fill_10 : decode cX3_fill 10 = .ok (.aload_n 0, 1) := by decide +kernel
theorem dX3_fill_11 : decode cX3_fill 11 = .ok (.dup, 1) := by decide +kernel
theorem dX3_fill_12 : decode cX3_fill 12 = .ok (.getfield 15, 3) := by decide +kernel
theorem dX3_fill_15 : decode cX3_fill 15 = .ok (.iload_n 1, 1) := by decide +kernel
theorem dX3_fill_16 : decode cX3_fill 16 = .ok (.i2l, 1) := by decide +kernel
theorem dX3_fill_17 : decode cX3_fill 17 = .ok (.ldc2_w 19, 3) := by decide +kernel
theorem dX3_fill_20 : decode cX3_fill 20 = .ok (.lmul, 1) := by decide +kernel
theorem dX3_fill_21 : decode cX3_fill 21 = .ok (.ladd, 1) := by decide +kernel
theorem dX3_fill_22 : decode cX3_fill 22 = .ok (.putfield 15, 3) := by decide +kernel
theorem dX3_fill_25 : decode cX3_fill 25 = .ok (.return_, 1) := by decide +kernel

theorem dX3_init_0 : decode cX3_init 0 = .ok (.aload_n 0, 1) := by decide +kernel
theorem dX3_init_1 : decode cX3_init 1 = .ok (.invokespecial 3, 3) := by decide +kernel
theorem dX3_init_4 : decode cX3_init 4 = .ok (.return_, 1) := by decide +kernel

theorem dX3_isBurnt_0 : decode cX3_isBurnt 0 = .ok (.aload_n 0, 1) := by decide +kernel
theorem dX3_isBurnt_1 : decode cX3_isBurnt 1 = .ok (.invokevirtual 30, 3) := by decide +kernel
theorem dX3_isBurnt_4 : decode cX3_isBurnt 4 = .ok (.sipush 900, 3) := by decide +kernel
theorem dX3_isBurnt_7 : decode cX3_isBurnt 7 = .ok (.if_icmp .lt 7, 3) := by decide +kernel
theorem dX3_isBurnt_10 : decode cX3_isBurnt 10 = .ok (.iconst 1, 1) := by decide +kernel
theorem dX3_isBurnt_11 : decode cX3_isBurnt 11 = .ok (.goto 4, 3) := by decide +kernel
theorem dX3_isBurnt_14 : decode cX3_isBurnt 14 = .ok (.iconst 0, 1) := by decide +kernel
theorem dX3_isBurnt_15 : decode cX3_isBurnt 15 = .ok (.ireturn, 1) := by decide +kernel

theorem dX3_stack_0 : decode cX3_stack 0 = .ok (.aload_n 0, 1) := by decide +kernel
theorem dX3_stack_1 : decode cX3_stack 1 = .ok (.getfield 24, 3) := by decide +kernel
theorem dX3_stack_4 : decode cX3_stack 4 = .ok (.ldc 27, 2) := by decide +kernel
theorem dX3_stack_6 : decode cX3_stack 6 = .ok (.iload_n 1, 1) := by decide +kernel
theorem dX3_stack_7 : decode cX3_stack 7 = .ok (.isub, 1) := by decide +kernel
theorem dX3_stack_8 : decode cX3_stack 8 = .ok (.if_icmp .le 5, 3) := by decide +kernel
theorem dX3_stack_11 : decode cX3_stack 11 = .ok (.iconst (-1), 1) := by decide +kernel
theorem dX3_stack_12 : decode cX3_stack 12 = .ok (.ireturn, 1) := by decide +kernel
theorem dX3_stack_13 : decode cX3_stack 13 = .ok (.aload_n 0, 1) := by decide +kernel
theorem dX3_stack_14 : decode cX3_stack 14 = .ok (.dup, 1) := by decide +kernel
theorem dX3_stack_15 : decode cX3_stack 15 = .ok (.getfield 24, 3) := by decide +kernel
theorem dX3_stack_18 : decode cX3_stack 18 = .ok (.iload_n 1, 1) := by decide +kernel
theorem dX3_stack_19 : decode cX3_stack 19 = .ok (.iadd, 1) := by decide +kernel
theorem dX3_stack_20 : decode cX3_stack 20 = .ok (.putfield 24, 3) := by decide +kernel
theorem dX3_stack_23 : decode cX3_stack 23 = .ok (.aload_n 0, 1) := by decide +kernel
theorem dX3_stack_24 : decode cX3_stack 24 = .ok (.getfield 24, 3) := by decide +kernel
theorem dX3_stack_27 : decode cX3_stack 27 = .ok (.ireturn, 1) := by decide +kernel

theorem dX3_strength_0 : decode cX3_strength 0 = .ok (.aload_n 0, 1) := by decide +kernel
theorem dX3_strength_1 : decode cX3_strength 1 = .ok (.getfield 9, 3) := by decide +kernel
theorem dX3_strength_4 : decode cX3_strength 4 = .ok (.iconst 1, 1) := by decide +kernel
theorem dX3_strength_5 : decode cX3_strength 5 = .ok (.if_icmp .ge 7, 3) := by decide +kernel
theorem dX3_strength_8 : decode cX3_strength 8 = .ok (.iconst 0, 1) := by decide +kernel
theorem dX3_strength_9 : decode cX3_strength 9 = .ok (.goto 18, 3) := by decide +kernel
theorem dX3_strength_12 : decode cX3_strength 12 = .ok (.aload_n 0, 1) := by decide +kernel
theorem dX3_strength_13 : decode cX3_strength 13 = .ok (.getfield 15, 3) := by decide +kernel
theorem dX3_strength_16 : decode cX3_strength 16 = .ok (.aload_n 0, 1) := by decide +kernel
theorem dX3_strength_17 : decode cX3_strength 17 = .ok (.getfield 9, 3) := by decide +kernel
theorem dX3_strength_20 : decode cX3_strength 20 = .ok (.i2l, 1) := by decide +kernel
theorem dX3_strength_21 : decode cX3_strength 21 = .ok (.ldiv, 1) := by decide +kernel
theorem dX3_strength_22 : decode cX3_strength 22 = .ok (.ldc2_w 28, 3) := by decide +kernel
theorem dX3_strength_25 : decode cX3_strength 25 = .ok (.ldiv, 1) := by decide +kernel
theorem dX3_strength_26 : decode cX3_strength 26 = .ok (.l2i, 1) := by decide +kernel
theorem dX3_strength_27 : decode cX3_strength 27 = .ok (.ireturn, 1) := by decide +kernel

theorem dX3_tell_0 : decode cX3_tell 0 = .ok (.iload_n 1, 1) := by decide +kernel
theorem dX3_tell_1 : decode cX3_tell 1 = .ok (.tableswitch 82 0 5 #[39, 44, 49, 54, 59, 72], 39) := by decide +kernel
theorem dX3_tell_40 : decode cX3_tell 40 = .ok (.aload_n 0, 1) := by decide +kernel
theorem dX3_tell_41 : decode cX3_tell 41 = .ok (.getfield 9, 3) := by decide +kernel
theorem dX3_tell_44 : decode cX3_tell 44 = .ok (.ireturn, 1) := by decide +kernel
theorem dX3_tell_45 : decode cX3_tell 45 = .ok (.aload_n 0, 1) := by decide +kernel
theorem dX3_tell_46 : decode cX3_tell 46 = .ok (.invokevirtual 30, 3) := by decide +kernel
theorem dX3_tell_49 : decode cX3_tell 49 = .ok (.ireturn, 1) := by decide +kernel
theorem dX3_tell_50 : decode cX3_tell 50 = .ok (.aload_n 0, 1) := by decide +kernel
theorem dX3_tell_51 : decode cX3_tell 51 = .ok (.getfield 34, 3) := by decide +kernel
theorem dX3_tell_54 : decode cX3_tell 54 = .ok (.ireturn, 1) := by decide +kernel
theorem dX3_tell_55 : decode cX3_tell 55 = .ok (.aload_n 0, 1) := by decide +kernel
theorem dX3_tell_56 : decode cX3_tell 56 = .ok (.getfield 21, 3) := by decide +kernel
theorem dX3_tell_59 : decode cX3_tell 59 = .ok (.ireturn, 1) := by decide +kernel
theorem dX3_tell_60 : decode cX3_tell 60 = .ok (.aload_n 0, 1) := by decide +kernel
theorem dX3_tell_61 : decode cX3_tell 61 = .ok (.invokevirtual 46, 3) := by decide +kernel
theorem dX3_tell_64 : decode cX3_tell 64 = .ok (.ifCond .eq 7, 3) := by decide +kernel
theorem dX3_tell_67 : decode cX3_tell 67 = .ok (.iconst 1, 1) := by decide +kernel
theorem dX3_tell_68 : decode cX3_tell 68 = .ok (.goto 4, 3) := by decide +kernel
theorem dX3_tell_71 : decode cX3_tell 71 = .ok (.iconst 0, 1) := by decide +kernel
theorem dX3_tell_72 : decode cX3_tell 72 = .ok (.ireturn, 1) := by decide +kernel
theorem dX3_tell_73 : decode cX3_tell 73 = .ok (.aload_n 0, 1) := by decide +kernel
theorem dX3_tell_74 : decode cX3_tell 74 = .ok (.getfield 15, 3) := by decide +kernel
theorem dX3_tell_77 : decode cX3_tell 77 = .ok (.ldc2_w 28, 3) := by decide +kernel
theorem dX3_tell_80 : decode cX3_tell 80 = .ok (.ldiv, 1) := by decide +kernel
theorem dX3_tell_81 : decode cX3_tell 81 = .ok (.l2i, 1) := by decide +kernel
theorem dX3_tell_82 : decode cX3_tell 82 = .ok (.ireturn, 1) := by decide +kernel
theorem dX3_tell_83 : decode cX3_tell 83 = .ok (.iconst (-1), 1) := by decide +kernel
theorem dX3_tell_84 : decode cX3_tell 84 = .ok (.ireturn, 1) := by decide +kernel

theorem dX4_greatestDivisor_0 : decode cX4_greatestDivisor 0 = .ok (.iload_n 0, 1) := by decide +kernel
theorem dX4_greatestDivisor_1 : decode cX4_greatestDivisor 1 = .ok (.istore_n 2, 1) := by decide +kernel
theorem dX4_greatestDivisor_2 : decode cX4_greatestDivisor 2 = .ok (.iload_n 1, 1) := by decide +kernel
theorem dX4_greatestDivisor_3 : decode cX4_greatestDivisor 3 = .ok (.istore_n 3, 1) := by decide +kernel
theorem dX4_greatestDivisor_4 : decode cX4_greatestDivisor 4 = .ok (.iconst 0, 1) := by decide +kernel
theorem dX4_greatestDivisor_5 : decode cX4_greatestDivisor 5 = .ok (.istore 4, 2) := by decide +kernel
theorem dX4_greatestDivisor_7 : decode cX4_greatestDivisor 7 = .ok (.iload 4, 2) := by decide +kernel
theorem dX4_greatestDivisor_9 : decode cX4_greatestDivisor 9 = .ok (.bipush 64, 2) := by decide +kernel
theorem dX4_greatestDivisor_11 : decode cX4_greatestDivisor 11 = .ok (.if_icmp .ge 23, 3) := by decide +kernel
theorem dX4_greatestDivisor_14 : decode cX4_greatestDivisor 14 = .ok (.iload_n 3, 1) := by decide +kernel
theorem dX4_greatestDivisor_15 : decode cX4_greatestDivisor 15 = .ok (.ifCond .eq 19, 3) := by decide +kernel
theorem dX4_greatestDivisor_18 : decode cX4_greatestDivisor 18 = .ok (.iload_n 2, 1) := by decide +kernel
theorem dX4_greatestDivisor_19 : decode cX4_greatestDivisor 19 = .ok (.iload_n 3, 1) := by decide +kernel
theorem dX4_greatestDivisor_20 : decode cX4_greatestDivisor 20 = .ok (.irem, 1) := by decide +kernel
theorem dX4_greatestDivisor_21 : decode cX4_greatestDivisor 21 = .ok (.istore 5, 2) := by decide +kernel
theorem dX4_greatestDivisor_23 : decode cX4_greatestDivisor 23 = .ok (.iload_n 3, 1) := by decide +kernel
theorem dX4_greatestDivisor_24 : decode cX4_greatestDivisor 24 = .ok (.istore_n 2, 1) := by decide +kernel
theorem dX4_greatestDivisor_25 : decode cX4_greatestDivisor 25 = .ok (.iload 5, 2) := by decide +kernel
theorem dX4_greatestDivisor_27 : decode cX4_greatestDivisor 27 = .ok (.istore_n 3, 1) := by decide +kernel
theorem dX4_greatestDivisor_28 : decode cX4_greatestDivisor 28 = .ok (.iinc 4 1, 3) := by decide +kernel
theorem dX4_greatestDivisor_31 : decode cX4_greatestDivisor 31 = .ok (.goto (-24), 3) := by decide +kernel
theorem dX4_greatestDivisor_34 : decode cX4_greatestDivisor 34 = .ok (.iload_n 2, 1) := by decide +kernel
theorem dX4_greatestDivisor_35 : decode cX4_greatestDivisor 35 = .ok (.ireturn, 1) := by decide +kernel

theorem dX4_inLowestTerms_0 : decode cX4_inLowestTerms 0 = .ok (.aload_n 0, 1) := by decide +kernel
theorem dX4_inLowestTerms_1 : decode cX4_inLowestTerms 1 = .ok (.getfield 11, 3) := by decide +kernel
theorem dX4_inLowestTerms_4 : decode cX4_inLowestTerms 4 = .ok (.iload_n 2, 1) := by decide +kernel
theorem dX4_inLowestTerms_5 : decode cX4_inLowestTerms 5 = .ok (.iaload, 1) := by decide +kernel
theorem dX4_inLowestTerms_6 : decode cX4_inLowestTerms 6 = .ok (.aload_n 0, 1) := by decide +kernel
theorem dX4_inLowestTerms_7 : decode cX4_inLowestTerms 7 = .ok (.getfield 15, 3) := by decide +kernel
theorem dX4_inLowestTerms_10 : decode cX4_inLowestTerms 10 = .ok (.iload_n 2, 1) := by decide +kernel
theorem dX4_inLowestTerms_11 : decode cX4_inLowestTerms 11 = .ok (.iaload, 1) := by decide +kernel
theorem dX4_inLowestTerms_12 : decode cX4_inLowestTerms 12 = .ok (.invokestatic 32, 3) := by decide +kernel
theorem dX4_inLowestTerms_15 : decode cX4_inLowestTerms 15 = .ok (.istore_n 3, 1) := by decide +kernel
theorem dX4_inLowestTerms_16 : decode cX4_inLowestTerms 16 = .ok (.aload_n 0, 1) := by decide +kernel
theorem dX4_inLowestTerms_17 : decode cX4_inLowestTerms 17 = .ok (.getfield 15, 3) := by decide +kernel
theorem dX4_inLowestTerms_20 : decode cX4_inLowestTerms 20 = .ok (.iload_n 2, 1) := by decide +kernel
theorem dX4_inLowestTerms_21 : decode cX4_inLowestTerms 21 = .ok (.iaload, 1) := by decide +kernel
theorem dX4_inLowestTerms_22 : decode cX4_inLowestTerms 22 = .ok (.ifCond .eq 7, 3) := by decide +kernel
theorem dX4_inLowestTerms_25 : decode cX4_inLowestTerms 25 = .ok (.iload_n 3, 1) := by decide +kernel
theorem dX4_inLowestTerms_26 : decode cX4_inLowestTerms 26 = .ok (.ifCond .ne 7, 3) := by decide +kernel
theorem dX4_inLowestTerms_29 : decode cX4_inLowestTerms 29 = .ok (.iconst (-1), 1) := by decide +kernel
theorem dX4_inLowestTerms_30 : decode cX4_inLowestTerms 30 = .ok (.goto 6, 3) := by decide +kernel
theorem dX4_inLowestTerms_33 : decode cX4_inLowestTerms 33 = .ok (.iload_n 1, 1) := by decide +kernel
theorem dX4_inLowestTerms_34 : decode cX4_inLowestTerms 34 = .ok (.iload_n 3, 1) := by decide +kernel
theorem dX4_inLowestTerms_35 : decode cX4_inLowestTerms 35 = .ok (.idiv, 1) := by decide +kernel
theorem dX4_inLowestTerms_36 : decode cX4_inLowestTerms 36 = .ok (.ireturn, 1) := by decide +kernel

theorem dX4_init_0 : decode cX4_init 0 = .ok (.aload_n 0, 1) := by decide +kernel
theorem dX4_init_1 : decode cX4_init 1 = .ok (.invokespecial 3, 3) := by decide +kernel
theorem dX4_init_4 : decode cX4_init 4 = .ok (.aload_n 0, 1) := by decide +kernel
theorem dX4_init_5 : decode cX4_init 5 = .ok (.bipush 121, 2) := by decide +kernel
theorem dX4_init_7 : decode cX4_init 7 = .ok (.newarray .int, 2) := by decide +kernel
theorem dX4_init_9 : decode cX4_init 9 = .ok (.putfield 11, 3) := by decide +kernel
theorem dX4_init_12 : decode cX4_init 12 = .ok (.aload_n 0, 1) := by decide +kernel
theorem dX4_init_13 : decode cX4_init 13 = .ok (.bipush 121, 2) := by decide +kernel
theorem dX4_init_15 : decode cX4_init 15 = .ok (.newarray .int, 2) := by decide +kernel
theorem dX4_init_17 : decode cX4_init 17 = .ok (.putfield 15, 3) := by decide +kernel
theorem dX4_init_20 : decode cX4_init 20 = .ok (.return_, 1) := by decide +kernel

theorem dX4_keep_0 : decode cX4_keep 0 = .ok (.iload_n 1, 1) := by decide +kernel
theorem dX4_keep_1 : decode cX4_keep 1 = .ok (.iload_n 2, 1) := by decide +kernel
theorem dX4_keep_2 : decode cX4_keep 2 = .ok (.invokestatic 25, 3) := by decide +kernel
theorem dX4_keep_5 : decode cX4_keep 5 = .ok (.istore 4, 2) := by decide +kernel
theorem dX4_keep_7 : decode cX4_keep 7 = .ok (.aload_n 0, 1) := by decide +kernel
theorem dX4_keep_8 : decode cX4_keep 8 = .ok (.getfield 11, 3) := by decide +kernel
theorem dX4_keep_11 : decode cX4_keep 11 = .ok (.iload 4, 2) := by decide +kernel
theorem dX4_keep_13 : decode cX4_keep 13 = .ok (.dup2, 1) := by decide +kernel
theorem dX4_keep_14 : decode cX4_keep 14 = .ok (.iaload, 1) := by decide +kernel
theorem dX4_keep_15 : decode cX4_keep 15 = .ok (.iload_n 3, 1) := by decide +kernel
theorem dX4_keep_16 : decode cX4_keep 16 = .ok (.iadd, 1) := by decide +kernel
theorem dX4_keep_17 : decode cX4_keep 17 = .ok (.iastore, 1) := by decide +kernel
theorem dX4_keep_18 : decode cX4_keep 18 = .ok (.aload_n 0, 1) := by decide +kernel
theorem dX4_keep_19 : decode cX4_keep 19 = .ok (.getfield 15, 3) := by decide +kernel
theorem dX4_keep_22 : decode cX4_keep 22 = .ok (.iload 4, 2) := by decide +kernel
theorem dX4_keep_24 : decode cX4_keep 24 = .ok (.dup2, 1) := by decide +kernel
theorem dX4_keep_25 : decode cX4_keep 25 = .ok (.iaload, 1) := by decide +kernel
theorem dX4_keep_26 : decode cX4_keep 26 = .ok (.iconst 1, 1) := by decide +kernel
theorem dX4_keep_27 : decode cX4_keep 27 = .ok (.iadd, 1) := by decide +kernel
theorem dX4_keep_28 : decode cX4_keep 28 = .ok (.iastore, 1) := by decide +kernel
theorem dX4_keep_29 : decode cX4_keep 29 = .ok (.return_, 1) := by decide +kernel

theorem dX4_meanLower_0 : decode cX4_meanLower 0 = .ok (.iload_n 1, 1) := by decide +kernel
theorem dX4_meanLower_1 : decode cX4_meanLower 1 = .ok (.iload_n 2, 1) := by decide +kernel
theorem dX4_meanLower_2 : decode cX4_meanLower 2 = .ok (.invokestatic 25, 3) := by decide +kernel
theorem dX4_meanLower_5 : decode cX4_meanLower 5 = .ok (.istore_n 3, 1) := by decide +kernel
theorem dX4_meanLower_6 : decode cX4_meanLower 6 = .ok (.aload_n 0, 1) := by decide +kernel
theorem dX4_meanLower_7 : decode cX4_meanLower 7 = .ok (.aload_n 0, 1) := by decide +kernel
theorem dX4_meanLower_8 : decode cX4_meanLower 8 = .ok (.getfield 15, 3) := by decide +kernel
theorem dX4_meanLower_11 : decode cX4_meanLower 11 = .ok (.iload_n 3, 1) := by decide +kernel
theorem dX4_meanLower_12 : decode cX4_meanLower 12 = .ok (.iaload, 1) := by decide +kernel
theorem dX4_meanLower_13 : decode cX4_meanLower 13 = .ok (.iload_n 3, 1) := by decide +kernel
theorem dX4_meanLower_14 : decode cX4_meanLower 14 = .ok (.invokevirtual 29, 3) := by decide +kernel
theorem dX4_meanLower_17 : decode cX4_meanLower 17 = .ok (.ireturn, 1) := by decide +kernel

theorem dX4_meanUpper_0 : decode cX4_meanUpper 0 = .ok (.iload_n 1, 1) := by decide +kernel
theorem dX4_meanUpper_1 : decode cX4_meanUpper 1 = .ok (.iload_n 2, 1) := by decide +kernel
theorem dX4_meanUpper_2 : decode cX4_meanUpper 2 = .ok (.invokestatic 25, 3) := by decide +kernel
theorem dX4_meanUpper_5 : decode cX4_meanUpper 5 = .ok (.istore_n 3, 1) := by decide +kernel
theorem dX4_meanUpper_6 : decode cX4_meanUpper 6 = .ok (.aload_n 0, 1) := by decide +kernel
theorem dX4_meanUpper_7 : decode cX4_meanUpper 7 = .ok (.aload_n 0, 1) := by decide +kernel
theorem dX4_meanUpper_8 : decode cX4_meanUpper 8 = .ok (.getfield 11, 3) := by decide +kernel
theorem dX4_meanUpper_11 : decode cX4_meanUpper 11 = .ok (.iload_n 3, 1) := by decide +kernel
theorem dX4_meanUpper_12 : decode cX4_meanUpper 12 = .ok (.iaload, 1) := by decide +kernel
theorem dX4_meanUpper_13 : decode cX4_meanUpper 13 = .ok (.iload_n 3, 1) := by decide +kernel
theorem dX4_meanUpper_14 : decode cX4_meanUpper 14 = .ok (.invokevirtual 29, 3) := by decide +kernel
theorem dX4_meanUpper_17 : decode cX4_meanUpper 17 = .ok (.ireturn, 1) := by decide +kernel

theorem dX4_placeOf_0 : decode cX4_placeOf 0 = .ok (.iload_n 0, 1) := by decide +kernel
theorem dX4_placeOf_1 : decode cX4_placeOf 1 = .ok (.invokestatic 18, 3) := by decide +kernel
theorem dX4_placeOf_4 : decode cX4_placeOf 4 = .ok (.bipush 11, 2) := by decide +kernel
theorem dX4_placeOf_6 : decode cX4_placeOf 6 = .ok (.imul, 1) := by decide +kernel
theorem dX4_placeOf_7 : decode cX4_placeOf 7 = .ok (.iload_n 1, 1) := by decide +kernel
theorem dX4_placeOf_8 : decode cX4_placeOf 8 = .ok (.invokestatic 22, 3) := by decide +kernel
theorem dX4_placeOf_11 : decode cX4_placeOf 11 = .ok (.iadd, 1) := by decide +kernel
theorem dX4_placeOf_12 : decode cX4_placeOf 12 = .ok (.ireturn, 1) := by decide +kernel

theorem dX5_addTest_0 : decode cX5_addTest 0 = .ok (.aload_n 0, 1) := by decide +kernel
theorem dX5_addTest_1 : decode cX5_addTest 1 = .ok (.getfield 30, 3) := by decide +kernel
theorem dX5_addTest_4 : decode cX5_addTest 4 = .ok (.bipush 16, 2) := by decide +kernel
theorem dX5_addTest_6 : decode cX5_addTest 6 = .ok (.if_icmp .ge 16, 3) := by decide +kernel
theorem dX5_addTest_9 : decode cX5_addTest 9 = .ok (.aload_n 0, 1) := by decide +kernel
theorem dX5_addTest_10 : decode cX5_addTest 10 = .ok (.getfield 18, 3) := by decide +kernel
theorem dX5_addTest_13 : decode cX5_addTest 13 = .ok (.aload_n 0, 1) := by decide +kernel
theorem dX5_addTest_14 : decode cX5_addTest 14 = .ok (.getfield 30, 3) := by decide +kernel
theorem dX5_addTest_17 : decode cX5_addTest 17 = .ok (.iaload, 1) := by decide +kernel
theorem dX5_addTest_18 : decode cX5_addTest 18 = .ok (.iconst 3, 1) := by decide +kernel
theorem dX5_addTest_19 : decode cX5_addTest 19 = .ok (.if_icmp .lt 4, 3) := by decide +kernel
theorem dX5_addTest_22 : decode cX5_addTest 22 = .ok (.return_, 1) := by decide +kernel
theorem dX5_addTest_23 : decode cX5_addTest 23 = .ok (.aload_n 0, 1) := by decide +kernel
theorem dX5_addTest_24 : decode cX5_addTest 24 = .ok (.getfield 30, 3) := by decide +kernel
theorem dX5_addTest_27 : decode cX5_addTest 27 = .ok (.iconst 3, 1) := by decide +kernel
theorem dX5_addTest_28 : decode cX5_addTest 28 = .ok (.imul, 1) := by decide +kernel
theorem dX5_addTest_29 : decode cX5_addTest 29 = .ok (.aload_n 0, 1) := by decide +kernel
theorem dX5_addTest_30 : decode cX5_addTest 30 = .ok (.getfield 18, 3) := by decide +kernel
theorem dX5_addTest_33 : decode cX5_addTest 33 = .ok (.aload_n 0, 1) := by decide +kernel
theorem dX5_addTest_34 : decode cX5_addTest 34 = .ok (.getfield 30, 3) := by decide +kernel
theorem dX5_addTest_37 : decode cX5_addTest 37 = .ok (.iaload, 1) := by decide +kernel
theorem dX5_addTest_38 : decode cX5_addTest 38 = .ok (.iadd, 1) := by decide +kernel
theorem dX5_addTest_39 : decode cX5_addTest 39 = .ok (.istore 4, 2) := by decide +kernel
theorem dX5_addTest_41 : decode cX5_addTest 41 = .ok (.aload_n 0, 1) := by decide +kernel
theorem dX5_addTest_42 : decode cX5_addTest 42 = .ok (.getfield 21, 3) := by decide +kernel
theorem dX5_addTest_45 : decode cX5_addTest 45 = .ok (.iload 4, 2) := by decide +kernel
theorem dX5_addTest_47 : decode cX5_addTest 47 = .ok (.iload_n 1, 1) := by decide +kernel
theorem dX5_addTest_48 : decode cX5_addTest 48 = .ok (.iastore, 1) := by decide +kernel
theorem dX5_addTest_49 : decode cX5_addTest 49 = .ok (.aload_n 0, 1) := by decide +kernel
theorem dX5_addTest_50 : decode cX5_addTest 50 = .ok (.getfield 24, 3) := by decide +kernel
theorem dX5_addTest_53 : decode cX5_addTest 53 = .ok (.iload 4, 2) := by decide +kernel
theorem dX5_addTest_55 : decode cX5_addTest 55 = .ok (.iload_n 2, 1) := by decide +kernel
theorem dX5_addTest_56 : decode cX5_addTest 56 = .ok (.iastore, 1) := by decide +kernel
theorem dX5_addTest_57 : decode cX5_addTest 57 = .ok (.aload_n 0, 1) := by decide +kernel
theorem dX5_addTest_58 : decode cX5_addTest 58 = .ok (.getfield 27, 3) := by decide +kernel
theorem dX5_addTest_61 : decode cX5_addTest 61 = .ok (.iload 4, 2) := by decide +kernel
theorem dX5_addTest_63 : decode cX5_addTest 63 = .ok (.iload_n 3, 1) := by decide +kernel
theorem dX5_addTest_64 : decode cX5_addTest 64 = .ok (.iastore, 1) := by decide +kernel
theorem dX5_addTest_65 : decode cX5_addTest 65 = .ok (.aload_n 0, 1) := by decide +kernel
theorem dX5_addTest_66 : decode cX5_addTest 66 = .ok (.getfield 18, 3) := by decide +kernel
theorem dX5_addTest_69 : decode cX5_addTest 69 = .ok (.aload_n 0, 1) := by decide +kernel
theorem dX5_addTest_70 : decode cX5_addTest 70 = .ok (.getfield 30, 3) := by decide +kernel
theorem dX5_addTest_73 : decode cX5_addTest 73 = .ok (.dup2, 1) := by decide +kernel
theorem dX5_addTest_74 : decode cX5_addTest 74 = .ok (.iaload, 1) := by decide +kernel
theorem dX5_addTest_75 : decode cX5_addTest 75 = .ok (.iconst 1, 1) := by decide +kernel
theorem dX5_addTest_76 : decode cX5_addTest 76 = .ok (.iadd, 1) := by decide +kernel
theorem dX5_addTest_77 : decode cX5_addTest 77 = .ok (.iastore, 1) := by decide +kernel
theorem dX5_addTest_78 : decode cX5_addTest 78 = .ok (.return_, 1) := by decide +kernel

theorem dX5_allHold_0 : decode cX5_allHold 0 = .ok (.iconst 0, 1) := by decide +kernel
theorem dX5_allHold_1 : decode cX5_allHold 1 = .ok (.istore_n 3, 1) := by decide +kernel
theorem dX5_allHold_2 : decode cX5_allHold 2 = .ok (.iload_n 3, 1) := by decide +kernel
theorem dX5_allHold_3 : decode cX5_allHold 3 = .ok (.aload_n 0, 1) := by decide +kernel
theorem dX5_allHold_4 : decode cX5_allHold 4 = .ok (.getfield 18, 3) := by decide +kernel
theorem dX5_allHold_7 : decode cX5_allHold 7 = .ok (.iload_n 1, 1) := by decide +kernel
theorem dX5_allHold_8 : decode cX5_allHold 8 = .ok (.iaload, 1) := by decide +kernel
theorem dX5_allHold_9 : decode cX5_allHold 9 = .ok (.if_icmp .ge 63, 3) := by decide +kernel
theorem dX5_allHold_12 : decode cX5_allHold 12 = .ok (.iload_n 1, 1) := by decide +kernel
theorem dX5_allHold_13 : decode cX5_allHold 13 = .ok (.iconst 3, 1) := by decide +kernel
theorem dX5_allHold_14 : decode cX5_allHold 14 = .ok (.imul, 1) := by decide +kernel
theorem dX5_allHold_15 : decode cX5_allHold 15 = .ok (.iload_n 3, 1) := by decide +kernel
theorem dX5_allHold_16 : decode cX5_allHold 16 = .ok (.iadd, 1) := by decide +kernel
theorem dX5_allHold_17 : decode cX5_allHold 17 = .ok (.istore 4, 2) := by decide +kernel
theorem dX5_allHold_19 : decode cX5_allHold 19 = .ok (.aload_n 0, 1) := by decide +kernel
theorem dX5_allHold_20 : decode cX5_allHold 20 = .ok (.getfield 21, 3) := by decide +kernel
theorem dX5_allHold_23 : decode cX5_allHold 23 = .ok (.iload 4, 2) := by decide +kernel
theorem dX5_allHold_25 : decode cX5_allHold 25 = .ok (.iaload, 1) := by decide +kernel
theorem dX5_allHold_26 : decode cX5_allHold 26 = .ok (.istore 5, 2) := by decide +kernel
theorem dX5_allHold_28 : decode cX5_allHold 28 = .ok (.iload 5, 2) := by decide +kernel
theorem dX5_allHold_30 : decode cX5_allHold 30 = .ok (.ifCond .lt 34, 3) := by decide +kernel
theorem dX5_allHold_33 : decode cX5_allHold 33 = .ok (.iload 5, 2) := by decide +kernel
theorem dX5_allHold_35 : decode cX5_allHold 35 = .ok (.aload_n 2, 1) := by decide +kernel
theorem dX5_allHold_36 : decode cX5_allHold 36 = .ok (.arraylength, 1) := by decide +kernel
theorem dX5_allHold_37 : decode cX5_allHold 37 = .ok (.if_icmp .ge 27, 3) := by decide +kernel
theorem dX5_allHold_40 : decode cX5_allHold 40 = .ok (.aload_n 2, 1) := by decide +kernel
theorem dX5_allHold_41 : decode cX5_allHold 41 = .ok (.iload 5, 2) := by decide +kernel
theorem dX5_allHold_43 : decode cX5_allHold 43 = .ok (.iaload, 1) := by decide +kernel
theorem dX5_allHold_44 : decode cX5_allHold 44 = .ok (.aload_n 0, 1) := by decide +kernel
theorem dX5_allHold_45 : decode cX5_allHold 45 = .ok (.getfield 24, 3) := by decide +kernel
theorem dX5_allHold_48 : decode cX5_allHold 48 = .ok (.iload 4, 2) := by decide +kernel
theorem dX5_allHold_50 : decode cX5_allHold 50 = .ok (.iaload, 1) := by decide +kernel
theorem dX5_allHold_51 : decode cX5_allHold 51 = .ok (.aload_n 0, 1) := by decide +kernel
theorem dX5_allHold_52 : decode cX5_allHold 52 = .ok (.getfield 27, 3) := by decide +kernel
theorem dX5_allHold_55 : decode cX5_allHold 55 = .ok (.iload 4, 2) := by decide +kernel
theorem dX5_allHold_57 : decode cX5_allHold 57 = .ok (.iaload, 1) := by decide +kernel
theorem dX5_allHold_58 : decode cX5_allHold 58 = .ok (.invokestatic 44, 3) := by decide +kernel
theorem dX5_allHold_61 : decode cX5_allHold 61 = .ok (.ifCond .ne 5, 3) := by decide +kernel
theorem dX5_allHold_64 : decode cX5_allHold 64 = .ok (.iconst 0, 1) := by decide +kernel
theorem dX5_allHold_65 : decode cX5_allHold 65 = .ok (.ireturn, 1) := by decide +kernel
theorem dX5_allHold_66 : decode cX5_allHold 66 = .ok (.iinc 3 1, 3) := by decide +kernel
theorem dX5_allHold_69 : decode cX5_allHold 69 = .ok (.goto (-67), 3) := by decide +kernel
theorem dX5_allHold_72 : decode cX5_allHold 72 = .ok (.iconst 1, 1) := by decide +kernel
theorem dX5_allHold_73 : decode cX5_allHold 73 = .ok (.ireturn, 1) := by decide +kernel

theorem dX5_clear_0 : decode cX5_clear 0 = .ok (.aload_n 0, 1) := by decide +kernel
theorem dX5_clear_1 : decode cX5_clear 1 = .ok (.iconst 0, 1) := by decide +kernel
theorem dX5_clear_2 : decode cX5_clear 2 = .ok (.putfield 30, 3) := by decide +kernel
theorem dX5_clear_5 : decode cX5_clear 5 = .ok (.aload_n 0, 1) := by decide +kernel
theorem dX5_clear_6 : decode cX5_clear 6 = .ok (.getfield 18, 3) := by decide +kernel
theorem dX5_clear_9 : decode cX5_clear 9 = .ok (.iconst 0, 1) := by decide +kernel
theorem dX5_clear_10 : decode cX5_clear 10 = .ok (.invokestatic 34, 3) := by decide +kernel
theorem dX5_clear_13 : decode cX5_clear 13 = .ok (.return_, 1) := by decide +kernel

theorem dX5_deedOf_0 : decode cX5_deedOf 0 = .ok (.aload_n 0, 1) := by decide +kernel
theorem dX5_deedOf_1 : decode cX5_deedOf 1 = .ok (.iload_n 1, 1) := by decide +kernel
theorem dX5_deedOf_2 : decode cX5_deedOf 2 = .ok (.invokevirtual 48, 3) := by decide +kernel
theorem dX5_deedOf_5 : decode cX5_deedOf 5 = .ok (.ifCond .eq 12, 3) := by decide +kernel
theorem dX5_deedOf_8 : decode cX5_deedOf 8 = .ok (.aload_n 0, 1) := by decide +kernel
theorem dX5_deedOf_9 : decode cX5_deedOf 9 = .ok (.getfield 9, 3) := by decide +kernel
theorem dX5_deedOf_12 : decode cX5_deedOf 12 = .ok (.iload_n 1, 1) := by decide +kernel
theorem dX5_deedOf_13 : decode cX5_deedOf 13 = .ok (.iaload, 1) := by decide +kernel
theorem dX5_deedOf_14 : decode cX5_deedOf 14 = .ok (.goto 4, 3) := by decide +kernel
theorem dX5_deedOf_17 : decode cX5_deedOf 17 = .ok (.iconst (-1), 1) := by decide +kernel
theorem dX5_deedOf_18 : decode cX5_deedOf 18 = .ok (.ireturn, 1) := by decide +kernel

theorem dX5_endStatement_0 : decode cX5_endStatement 0 = .ok (.aload_n 0, 1) := by decide +kernel
theorem dX5_endStatement_1 : decode cX5_endStatement 1 = .ok (.getfield 30, 3) := by decide +kernel
theorem dX5_endStatement_4 : decode cX5_endStatement 4 = .ok (.bipush 16, 2) := by decide +kernel
theorem dX5_endStatement_6 : decode cX5_endStatement 6 = .ok (.if_icmp .ge 13, 3) := by decide +kernel
theorem dX5_endStatement_9 : decode cX5_endStatement 9 = .ok (.aload_n 0, 1) := by decide +kernel
theorem dX5_endStatement_10 : decode cX5_endStatement 10 = .ok (.dup, 1) := by decide +kernel
theorem dX5_endStatement_11 : decode cX5_endStatement 11 = .ok (.getfield 30, 3) := by decide +kernel
theorem dX5_endStatement_14 : decode cX5_endStatement 14 = .ok (.iconst 1, 1) := by decide +kernel
theorem dX5_endStatement_15 : decode cX5_endStatement 15 = .ok (.iadd, 1) := by decide +kernel
theorem dX5_endStatement_16 : decode cX5_endStatement 16 = .ok (.putfield 30, 3) := by decide +kernel
theorem dX5_endStatement_19 : decode cX5_endStatement 19 = .ok (.return_, 1) := by decide +kernel

theorem dX5_firstThatHolds_0 : decode cX5_firstThatHolds 0 = .ok (.iconst 0, 1) := by decide +kernel
theorem dX5_firstThatHolds_1 : decode cX5_firstThatHolds 1 = .ok (.istore_n 3, 1) := by decide +kernel
theorem dX5_firstThatHolds_2 : decode cX5_firstThatHolds 2 = .ok (.iload_n 3, 1) := by decide +kernel
theorem dX5_firstThatHolds_3 : decode cX5_firstThatHolds 3 = .ok (.aload_n 0, 1) := by decide +kernel
theorem dX5_firstThatHolds_4 : decode cX5_firstThatHolds 4 = .ok (.getfield 30, 3) := by decide +kernel
theorem dX5_firstThatHolds_7 : decode cX5_firstThatHolds 7 = .ok (.if_icmp .ge 40, 3) := by decide +kernel
theorem dX5_firstThatHolds_10 : decode cX5_firstThatHolds 10 = .ok (.aload_n 0, 1) := by decide +kernel
theorem dX5_firstThatHolds_11 : decode cX5_firstThatHolds 11 = .ok (.getfield 9, 3) := by decide +kernel
theorem dX5_firstThatHolds_14 : decode cX5_firstThatHolds 14 = .ok (.iload_n 3, 1) := by decide +kernel
theorem dX5_firstThatHolds_15 : decode cX5_firstThatHolds 15 = .ok (.iaload, 1) := by decide +kernel
theorem dX5_firstThatHolds_16 : decode cX5_firstThatHolds 16 = .ok (.bipush 12, 2) := by decide +kernel
theorem dX5_firstThatHolds_18 : decode cX5_firstThatHolds 18 = .ok (.if_icmp .ne 7, 3) := by decide +kernel
theorem dX5_firstThatHolds_21 : decode cX5_firstThatHolds 21 = .ok (.iconst 1, 1) := by decide +kernel
theorem dX5_firstThatHolds_22 : decode cX5_firstThatHolds 22 = .ok (.goto 4, 3) := by decide +kernel
theorem dX5_firstThatHolds_25 : decode cX5_firstThatHolds 25 = .ok (.iconst 0, 1) := by decide +kernel
theorem dX5_firstThatHolds_26 : decode cX5_firstThatHolds 26 = .ok (.iload_n 1, 1) := by decide +kernel
theorem dX5_firstThatHolds_27 : decode cX5_firstThatHolds 27 = .ok (.if_icmp .ne 14, 3) := by decide +kernel
theorem dX5_firstThatHolds_30 : decode cX5_firstThatHolds 30 = .ok (.aload_n 0, 1) := by decide +kernel
theorem dX5_firstThatHolds_31 : decode cX5_firstThatHolds 31 = .ok (.iload_n 3, 1) := by decide +kernel
theorem dX5_firstThatHolds_32 : decode cX5_firstThatHolds 32 = .ok (.aload_n 2, 1) := by decide +kernel
theorem dX5_firstThatHolds_33 : decode cX5_firstThatHolds 33 = .ok (.invokevirtual 40, 3) := by decide +kernel
theorem dX5_firstThatHolds_36 : decode cX5_firstThatHolds 36 = .ok (.ifCond .eq 5, 3) := by decide +kernel
theorem dX5_firstThatHolds_39 : decode cX5_firstThatHolds 39 = .ok (.iload_n 3, 1) := by decide +kernel
theorem dX5_firstThatHolds_40 : decode cX5_firstThatHolds 40 = .ok (.ireturn, 1) := by decide +kernel
theorem dX5_firstThatHolds_41 : decode cX5_firstThatHolds 41 = .ok (.iinc 3 1, 3) := by decide +kernel
theorem dX5_firstThatHolds_44 : decode cX5_firstThatHolds 44 = .ok (.goto (-42), 3) := by decide +kernel
theorem dX5_firstThatHolds_47 : decode cX5_firstThatHolds 47 = .ok (.iconst (-1), 1) := by decide +kernel
theorem dX5_firstThatHolds_48 : decode cX5_firstThatHolds 48 = .ok (.ireturn, 1) := by decide +kernel

theorem dX5_has_0 : decode cX5_has 0 = .ok (.iload_n 1, 1) := by decide +kernel
theorem dX5_has_1 : decode cX5_has 1 = .ok (.ifCond .lt 15, 3) := by decide +kernel
theorem dX5_has_4 : decode cX5_has 4 = .ok (.iload_n 1, 1) := by decide +kernel
theorem dX5_has_5 : decode cX5_has 5 = .ok (.aload_n 0, 1) := by decide +kernel
theorem dX5_has_6 : decode cX5_has 6 = .ok (.getfield 30, 3) := by decide +kernel
theorem dX5_has_9 : decode cX5_has 9 = .ok (.if_icmp .ge 7, 3) := by decide +kernel
theorem dX5_has_12 : decode cX5_has 12 = .ok (.iconst 1, 1) := by decide +kernel
theorem dX5_has_13 : decode cX5_has 13 = .ok (.goto 4, 3) := by decide +kernel
theorem dX5_has_16 : decode cX5_has 16 = .ok (.iconst 0, 1) := by decide +kernel
theorem dX5_has_17 : decode cX5_has 17 = .ok (.ireturn, 1) := by decide +kernel

theorem dX5_holds_0 : decode cX5_holds 0 = .ok (.iload_n 0, 1) := by decide +kernel
theorem dX5_holds_1 : decode cX5_holds 1 = .ok (.iconst (-1), 1) := by decide +kernel
theorem dX5_holds_2 : decode cX5_holds 2 = .ok (.if_icmp .ne 5, 3) := by decide +kernel
theorem dX5_holds_5 : decode cX5_holds 5 = .ok (.iconst 0, 1) := by decide +kernel
theorem dX5_holds_6 : decode cX5_holds 6 = .ok (.ireturn, 1) := by decide +kernel
theorem dX5_holds_7 : decode cX5_holds 7 = .ok (.iload_n 1, 1) := by decide +kernel
theorem dX5_holds_8 : decode cX5_holds 8 = .ok (.lookupswitch 50 #[(60, 28), (62, 39)], 28) := by decide +kernel
theorem dX5_holds_36 : decode cX5_holds 36 = .ok (.iload_n 0, 1) := by decide +kernel
theorem dX5_holds_37 : decode cX5_holds 37 = .ok (.iload_n 2, 1) := by decide +kernel
theorem dX5_holds_38 : decode cX5_holds 38 = .ok (.if_icmp .ge 7, 3) := by decide +kernel
theorem dX5_holds_41 : decode cX5_holds 41 = .ok (.iconst 1, 1) := by decide +kernel
theorem dX5_holds_42 : decode cX5_holds 42 = .ok (.goto 4, 3) := by decide +kernel
theorem dX5_holds_45 : decode cX5_holds 45 = .ok (.iconst 0, 1) := by decide +kernel
theorem dX5_holds_46 : decode cX5_holds 46 = .ok (.ireturn, 1) := by decide +kernel
theorem dX5_holds_47 : decode cX5_holds 47 = .ok (.iload_n 0, 1) := by decide +kernel
theorem dX5_holds_48 : decode cX5_holds 48 = .ok (.iload_n 2, 1) := by decide +kernel
theorem dX5_holds_49 : decode cX5_holds 49 = .ok (.if_icmp .le 7, 3) := by decide +kernel
theorem dX5_holds_52 : decode cX5_holds 52 = .ok (.iconst 1, 1) := by decide +kernel
theorem dX5_holds_53 : decode cX5_holds 53 = .ok (.goto 4, 3) := by decide +kernel
theorem dX5_holds_56 : decode cX5_holds 56 = .ok (.iconst 0, 1) := by decide +kernel
theorem dX5_holds_57 : decode cX5_holds 57 = .ok (.ireturn, 1) := by decide +kernel
theorem dX5_holds_58 : decode cX5_holds 58 = .ok (.iload_n 0, 1) := by decide +kernel
theorem dX5_holds_59 : decode cX5_holds 59 = .ok (.iload_n 2, 1) := by decide +kernel
theorem dX5_holds_60 : decode cX5_holds 60 = .ok (.if_icmp .ne 7, 3) := by decide +kernel
theorem dX5_holds_63 : decode cX5_holds 63 = .ok (.iconst 1, 1) := by decide +kernel
theorem dX5_holds_64 : decode cX5_holds 64 = .ok (.goto 4, 3) := by decide +kernel
theorem dX5_holds_67 : decode cX5_holds 67 = .ok (.iconst 0, 1) := by decide +kernel
theorem dX5_holds_68 : decode cX5_holds 68 = .ok (.ireturn, 1) := by decide +kernel

theorem dX5_init_0 : decode cX5_init 0 = .ok (.aload_n 0, 1) := by decide +kernel
theorem dX5_init_1 : decode cX5_init 1 = .ok (.invokespecial 3, 3) := by decide +kernel
theorem dX5_init_4 : decode cX5_init 4 = .ok (.aload_n 0, 1) := by decide +kernel
theorem dX5_init_5 : decode cX5_init 5 = .ok (.bipush 16, 2) := by decide +kernel
theorem dX5_init_7 : decode cX5_init 7 = .ok (.newarray .int, 2) := by decide +kernel
theorem dX5_init_9 : decode cX5_init 9 = .ok (.putfield 9, 3) := by decide +kernel
theorem dX5_init_12 : decode cX5_init 12 = .ok (.aload_n 0, 1) := by decide +kernel
theorem dX5_init_13 : decode cX5_init 13 = .ok (.bipush 16, 2) := by decide +kernel
theorem dX5_init_15 : decode cX5_init 15 = .ok (.newarray .int, 2) := by decide +kernel
theorem dX5_init_17 : decode cX5_init 17 = .ok (.putfield 15, 3) := by decide +kernel
theorem dX5_init_20 : decode cX5_init 20 = .ok (.aload_n 0, 1) := by decide +kernel
theorem dX5_init_21 : decode cX5_init 21 = .ok (.bipush 16, 2) := by decide +kernel
theorem dX5_init_23 : decode cX5_init 23 = .ok (.newarray .int, 2) := by decide +kernel
theorem dX5_init_25 : decode cX5_init 25 = .ok (.putfield 18, 3) := by decide +kernel
theorem dX5_init_28 : decode cX5_init 28 = .ok (.aload_n 0, 1) := by decide +kernel
theorem dX5_init_29 : decode cX5_init 29 = .ok (.bipush 48, 2) := by decide +kernel
theorem dX5_init_31 : decode cX5_init 31 = .ok (.newarray .int, 2) := by decide +kernel
theorem dX5_init_33 : decode cX5_init 33 = .ok (.putfield 21, 3) := by decide +kernel
theorem dX5_init_36 : decode cX5_init 36 = .ok (.aload_n 0, 1) := by decide +kernel
theorem dX5_init_37 : decode cX5_init 37 = .ok (.bipush 48, 2) := by decide +kernel
theorem dX5_init_39 : decode cX5_init 39 = .ok (.newarray .int, 2) := by decide +kernel
theorem dX5_init_41 : decode cX5_init 41 = .ok (.putfield 24, 3) := by decide +kernel
theorem dX5_init_44 : decode cX5_init 44 = .ok (.aload_n 0, 1) := by decide +kernel
theorem dX5_init_45 : decode cX5_init 45 = .ok (.bipush 48, 2) := by decide +kernel
theorem dX5_init_47 : decode cX5_init 47 = .ok (.newarray .int, 2) := by decide +kernel
theorem dX5_init_49 : decode cX5_init 49 = .ok (.putfield 27, 3) := by decide +kernel
theorem dX5_init_52 : decode cX5_init 52 = .ok (.return_, 1) := by decide +kernel

theorem dX5_setDeed_0 : decode cX5_setDeed 0 = .ok (.aload_n 0, 1) := by decide +kernel
theorem dX5_setDeed_1 : decode cX5_setDeed 1 = .ok (.getfield 30, 3) := by decide +kernel
theorem dX5_setDeed_4 : decode cX5_setDeed 4 = .ok (.bipush 16, 2) := by decide +kernel
theorem dX5_setDeed_6 : decode cX5_setDeed 6 = .ok (.if_icmp .ge 23, 3) := by decide +kernel
theorem dX5_setDeed_9 : decode cX5_setDeed 9 = .ok (.aload_n 0, 1) := by decide +kernel
theorem dX5_setDeed_10 : decode cX5_setDeed 10 = .ok (.getfield 9, 3) := by decide +kernel
theorem dX5_setDeed_13 : decode cX5_setDeed 13 = .ok (.aload_n 0, 1) := by decide +kernel
theorem dX5_setDeed_14 : decode cX5_setDeed 14 = .ok (.getfield 30, 3) := by decide +kernel
theorem dX5_setDeed_17 : decode cX5_setDeed 17 = .ok (.iload_n 1, 1) := by decide +kernel
theorem dX5_setDeed_18 : decode cX5_setDeed 18 = .ok (.iastore, 1) := by decide +kernel
theorem dX5_setDeed_19 : decode cX5_setDeed 19 = .ok (.aload_n 0, 1) := by decide +kernel
theorem dX5_setDeed_20 : decode cX5_setDeed 20 = .ok (.getfield 15, 3) := by decide +kernel
theorem dX5_setDeed_23 : decode cX5_setDeed 23 = .ok (.aload_n 0, 1) := by decide +kernel
theorem dX5_setDeed_24 : decode cX5_setDeed 24 = .ok (.getfield 30, 3) := by decide +kernel
theorem dX5_setDeed_27 : decode cX5_setDeed 27 = .ok (.iload_n 2, 1) := by decide +kernel
theorem dX5_setDeed_28 : decode cX5_setDeed 28 = .ok (.iastore, 1) := by decide +kernel
theorem dX5_setDeed_29 : decode cX5_setDeed 29 = .ok (.return_, 1) := by decide +kernel

theorem dX5_valueOf_0 : decode cX5_valueOf 0 = .ok (.aload_n 0, 1) := by decide +kernel
theorem dX5_valueOf_1 : decode cX5_valueOf 1 = .ok (.iload_n 1, 1) := by decide +kernel
theorem dX5_valueOf_2 : decode cX5_valueOf 2 = .ok (.invokevirtual 48, 3) := by decide +kernel
theorem dX5_valueOf_5 : decode cX5_valueOf 5 = .ok (.ifCond .eq 12, 3) := by decide +kernel
theorem dX5_valueOf_8 : decode cX5_valueOf 8 = .ok (.aload_n 0, 1) := by decide +kernel
theorem dX5_valueOf_9 : decode cX5_valueOf 9 = .ok (.getfield 15, 3) := by decide +kernel
theorem dX5_valueOf_12 : decode cX5_valueOf 12 = .ok (.iload_n 1, 1) := by decide +kernel
theorem dX5_valueOf_13 : decode cX5_valueOf 13 = .ok (.iaload, 1) := by decide +kernel
theorem dX5_valueOf_14 : decode cX5_valueOf 14 = .ok (.goto 4, 3) := by decide +kernel
theorem dX5_valueOf_17 : decode cX5_valueOf 17 = .ok (.iconst (-1), 1) := by decide +kernel
theorem dX5_valueOf_18 : decode cX5_valueOf 18 = .ok (.ireturn, 1) := by decide +kernel

theorem dX6_init_0 : decode cX6_init 0 = .ok (.aload_n 0, 1) := by decide +kernel
theorem dX6_init_1 : decode cX6_init 1 = .ok (.invokespecial 3, 3) := by decide +kernel
theorem dX6_init_4 : decode cX6_init 4 = .ok (.aload_n 0, 1) := by decide +kernel
theorem dX6_init_5 : decode cX6_init 5 = .ok (.aload_n 1, 1) := by decide +kernel
theorem dX6_init_6 : decode cX6_init 6 = .ok (.putfield 9, 3) := by decide +kernel
theorem dX6_init_9 : decode cX6_init 9 = .ok (.return_, 1) := by decide +kernel

theorem dX6_place_0 : decode cX6_place 0 = .ok (.aload_n 0, 1) := by decide +kernel
theorem dX6_place_1 : decode cX6_place 1 = .ok (.getfield 9, 3) := by decide +kernel
theorem dX6_place_4 : decode cX6_place 4 = .ok (.aload_n 0, 1) := by decide +kernel
theorem dX6_place_5 : decode cX6_place 5 = .ok (.getfield 15, 3) := by decide +kernel
theorem dX6_place_8 : decode cX6_place 8 = .ok (.invokevirtual 19, 3) := by decide +kernel
theorem dX6_place_11 : decode cX6_place 11 = .ok (.ireturn, 1) := by decide +kernel

theorem dX6_read_0 : decode cX6_read 0 = .ok (.aload_n 0, 1) := by decide +kernel
theorem dX6_read_1 : decode cX6_read 1 = .ok (.getfield 9, 3) := by decide +kernel
theorem dX6_read_4 : decode cX6_read 4 = .ok (.iload_n 1, 1) := by decide +kernel
theorem dX6_read_5 : decode cX6_read 5 = .ok (.invokevirtual 25, 3) := by decide +kernel
theorem dX6_read_8 : decode cX6_read 8 = .ok (.aload_n 0, 1) := by decide +kernel
theorem dX6_read_9 : decode cX6_read 9 = .ok (.iconst 0, 1) := by decide +kernel
theorem dX6_read_10 : decode cX6_read 10 = .ok (.putfield 15, 3) := by decide +kernel
theorem dX6_read_13 : decode cX6_read 13 = .ok (.aload_n 2, 1) := by decide +kernel
theorem dX6_read_14 : decode cX6_read 14 = .ok (.invokevirtual 29, 3) := by decide +kernel
theorem dX6_read_17 : decode cX6_read 17 = .ok (.iconst 0, 1) := by decide +kernel
theorem dX6_read_18 : decode cX6_read 18 = .ok (.istore_n 3, 1) := by decide +kernel
theorem dX6_read_19 : decode cX6_read 19 = .ok (.iload_n 3, 1) := by decide +kernel
theorem dX6_read_20 : decode cX6_read 20 = .ok (.bipush 16, 2) := by decide +kernel
theorem dX6_read_22 : decode cX6_read 22 = .ok (.if_icmp .ge 33, 3) := by decide +kernel
theorem dX6_read_25 : decode cX6_read 25 = .ok (.aload_n 0, 1) := by decide +kernel
theorem dX6_read_26 : decode cX6_read 26 = .ok (.getfield 9, 3) := by decide +kernel
theorem dX6_read_29 : decode cX6_read 29 = .ok (.aload_n 0, 1) := by decide +kernel
theorem dX6_read_30 : decode cX6_read 30 = .ok (.getfield 15, 3) := by decide +kernel
theorem dX6_read_33 : decode cX6_read 33 = .ok (.invokevirtual 34, 3) := by decide +kernel
theorem dX6_read_36 : decode cX6_read 36 = .ok (.ifCond .eq 19, 3) := by decide +kernel
theorem dX6_read_39 : decode cX6_read 39 = .ok (.aload_n 0, 1) := by decide +kernel
theorem dX6_read_40 : decode cX6_read 40 = .ok (.aload_n 2, 1) := by decide +kernel
theorem dX6_read_41 : decode cX6_read 41 = .ok (.invokevirtual 38, 3) := by decide +kernel
theorem dX6_read_44 : decode cX6_read 44 = .ok (.ifCond .ne 5, 3) := by decide +kernel
theorem dX6_read_47 : decode cX6_read 47 = .ok (.iconst 0, 1) := by decide +kernel
theorem dX6_read_48 : decode cX6_read 48 = .ok (.ireturn, 1) := by decide +kernel
theorem dX6_read_49 : decode cX6_read 49 = .ok (.iinc 3 1, 3) := by decide +kernel
theorem dX6_read_52 : decode cX6_read 52 = .ok (.goto (-33), 3) := by decide +kernel
theorem dX6_read_55 : decode cX6_read 55 = .ok (.aload_n 0, 1) := by decide +kernel
theorem dX6_read_56 : decode cX6_read 56 = .ok (.getfield 9, 3) := by decide +kernel
theorem dX6_read_59 : decode cX6_read 59 = .ok (.aload_n 0, 1) := by decide +kernel
theorem dX6_read_60 : decode cX6_read 60 = .ok (.getfield 15, 3) := by decide +kernel
theorem dX6_read_63 : decode cX6_read 63 = .ok (.invokevirtual 34, 3) := by decide +kernel
theorem dX6_read_66 : decode cX6_read 66 = .ok (.ifCond .ne 7, 3) := by decide +kernel
theorem dX6_read_69 : decode cX6_read 69 = .ok (.iconst 1, 1) := by decide +kernel
theorem dX6_read_70 : decode cX6_read 70 = .ok (.goto 4, 3) := by decide +kernel
theorem dX6_read_73 : decode cX6_read 73 = .ok (.iconst 0, 1) := by decide +kernel
theorem dX6_read_74 : decode cX6_read 74 = .ok (.ireturn, 1) := by decide +kernel

theorem dX6_readDeed_0 : decode cX6_readDeed 0 = .ok (.aload_n 0, 1) := by decide +kernel
theorem dX6_readDeed_1 : decode cX6_readDeed 1 = .ok (.bipush 11, 2) := by decide +kernel
theorem dX6_readDeed_3 : decode cX6_readDeed 3 = .ok (.invokevirtual 42, 3) := by decide +kernel
theorem dX6_readDeed_6 : decode cX6_readDeed 6 = .ok (.ifCond .eq 12, 3) := by decide +kernel
theorem dX6_readDeed_9 : decode cX6_readDeed 9 = .ok (.aload_n 1, 1) := by decide +kernel
theorem dX6_readDeed_10 : decode cX6_readDeed 10 = .ok (.bipush 11, 2) := by decide +kernel
theorem dX6_readDeed_12 : decode cX6_readDeed 12 = .ok (.iconst 0, 1) := by decide +kernel
theorem dX6_readDeed_13 : decode cX6_readDeed 13 = .ok (.invokevirtual 58, 3) := by decide +kernel
theorem dX6_readDeed_16 : decode cX6_readDeed 16 = .ok (.iconst 1, 1) := by decide +kernel
theorem dX6_readDeed_17 : decode cX6_readDeed 17 = .ok (.ireturn, 1) := by decide +kernel
theorem dX6_readDeed_18 : decode cX6_readDeed 18 = .ok (.aload_n 0, 1) := by decide +kernel
theorem dX6_readDeed_19 : decode cX6_readDeed 19 = .ok (.iconst 2, 1) := by decide +kernel
theorem dX6_readDeed_20 : decode cX6_readDeed 20 = .ok (.invokevirtual 42, 3) := by decide +kernel
theorem dX6_readDeed_23 : decode cX6_readDeed 23 = .ok (.ifCond .eq 18, 3) := by decide +kernel
theorem dX6_readDeed_26 : decode cX6_readDeed 26 = .ok (.aload_n 0, 1) := by decide +kernel
theorem dX6_readDeed_27 : decode cX6_readDeed 27 = .ok (.iconst 2, 1) := by decide +kernel
theorem dX6_readDeed_28 : decode cX6_readDeed 28 = .ok (.bipush 9, 2) := by decide +kernel
theorem dX6_readDeed_30 : decode cX6_readDeed 30 = .ok (.aload_n 1, 1) := by decide +kernel
theorem dX6_readDeed_31 : decode cX6_readDeed 31 = .ok (.invokevirtual 45, 3) := by decide +kernel
theorem dX6_readDeed_34 : decode cX6_readDeed 34 = .ok (.ifCond .eq 7, 3) := by decide +kernel
theorem dX6_readDeed_37 : decode cX6_readDeed 37 = .ok (.iconst 1, 1) := by decide +kernel
theorem dX6_readDeed_38 : decode cX6_readDeed 38 = .ok (.goto 4, 3) := by decide +kernel
theorem dX6_readDeed_41 : decode cX6_readDeed 41 = .ok (.iconst 0, 1) := by decide +kernel
theorem dX6_readDeed_42 : decode cX6_readDeed 42 = .ok (.ireturn, 1) := by decide +kernel

theorem dX6_readDeedNumber_0 : decode cX6_readDeedNumber 0 = .ok (.aload_n 0, 1) := by decide +kernel
theorem dX6_readDeedNumber_1 : decode cX6_readDeedNumber 1 = .ok (.iload_n 2, 1) := by decide +kernel
theorem dX6_readDeedNumber_2 : decode cX6_readDeedNumber 2 = .ok (.invokevirtual 62, 3) := by decide +kernel
theorem dX6_readDeedNumber_5 : decode cX6_readDeedNumber 5 = .ok (.ifCond .ne 5, 3) := by decide +kernel
theorem dX6_readDeedNumber_8 : decode cX6_readDeedNumber 8 = .ok (.iconst 0, 1) := by decide +kernel
theorem dX6_readDeedNumber_9 : decode cX6_readDeedNumber 9 = .ok (.ireturn, 1) := by decide +kernel
theorem dX6_readDeedNumber_10 : decode cX6_readDeedNumber 10 = .ok (.aload_n 3, 1) := by decide +kernel
theorem dX6_readDeedNumber_11 : decode cX6_readDeedNumber 11 = .ok (.iload_n 1, 1) := by decide +kernel
theorem dX6_readDeedNumber_12 : decode cX6_readDeedNumber 12 = .ok (.aload_n 0, 1) := by decide +kernel
theorem dX6_readDeedNumber_13 : decode cX6_readDeedNumber 13 = .ok (.getfield 65, 3) := by decide +kernel
theorem dX6_readDeedNumber_16 : decode cX6_readDeedNumber 16 = .ok (.invokevirtual 58, 3) := by decide +kernel
theorem dX6_readDeedNumber_19 : decode cX6_readDeedNumber 19 = .ok (.iconst 1, 1) := by decide +kernel
theorem dX6_readDeedNumber_20 : decode cX6_readDeedNumber 20 = .ok (.ireturn, 1) := by decide +kernel

theorem dX6_readStatement_0 : decode cX6_readStatement 0 = .ok (.aload_n 0, 1) := by decide +kernel
theorem dX6_readStatement_1 : decode cX6_readStatement 1 = .ok (.bipush 12, 2) := by decide +kernel
theorem dX6_readStatement_3 : decode cX6_readStatement 3 = .ok (.invokevirtual 42, 3) := by decide +kernel
theorem dX6_readStatement_6 : decode cX6_readStatement 6 = .ok (.istore_n 2, 1) := by decide +kernel
theorem dX6_readStatement_7 : decode cX6_readStatement 7 = .ok (.iload_n 2, 1) := by decide +kernel
theorem dX6_readStatement_8 : decode cX6_readStatement 8 = .ok (.ifCond .eq 14, 3) := by decide +kernel
theorem dX6_readStatement_11 : decode cX6_readStatement 11 = .ok (.aload_n 0, 1) := by decide +kernel
theorem dX6_readStatement_12 : decode cX6_readStatement 12 = .ok (.bipush 12, 2) := by decide +kernel
theorem dX6_readStatement_14 : decode cX6_readStatement 14 = .ok (.iconst 4, 1) := by decide +kernel
theorem dX6_readStatement_15 : decode cX6_readStatement 15 = .ok (.aload_n 1, 1) := by decide +kernel
theorem dX6_readStatement_16 : decode cX6_readStatement 16 = .ok (.invokevirtual 45, 3) := by decide +kernel
theorem dX6_readStatement_19 : decode cX6_readStatement 19 = .ok (.goto 26, 3) := by decide +kernel
theorem dX6_readStatement_22 : decode cX6_readStatement 22 = .ok (.aload_n 0, 1) := by decide +kernel
theorem dX6_readStatement_23 : decode cX6_readStatement 23 = .ok (.bipush 6, 2) := by decide +kernel
theorem dX6_readStatement_25 : decode cX6_readStatement 25 = .ok (.invokevirtual 42, 3) := by decide +kernel
theorem dX6_readStatement_28 : decode cX6_readStatement 28 = .ok (.ifCond .eq 16, 3) := by decide +kernel
theorem dX6_readStatement_31 : decode cX6_readStatement 31 = .ok (.aload_n 0, 1) := by decide +kernel
theorem dX6_readStatement_32 : decode cX6_readStatement 32 = .ok (.bipush 7, 2) := by decide +kernel
theorem dX6_readStatement_34 : decode cX6_readStatement 34 = .ok (.invokevirtual 42, 3) := by decide +kernel
theorem dX6_readStatement_37 : decode cX6_readStatement 37 = .ok (.ifCond .eq 7, 3) := by decide +kernel
theorem dX6_readStatement_40 : decode cX6_readStatement 40 = .ok (.iconst 1, 1) := by decide +kernel
theorem dX6_readStatement_41 : decode cX6_readStatement 41 = .ok (.goto 4, 3) := by decide +kernel
theorem dX6_readStatement_44 : decode cX6_readStatement 44 = .ok (.iconst 0, 1) := by decide +kernel
theorem dX6_readStatement_45 : decode cX6_readStatement 45 = .ok (.istore_n 3, 1) := by decide +kernel
theorem dX6_readStatement_46 : decode cX6_readStatement 46 = .ok (.iload_n 3, 1) := by decide +kernel
theorem dX6_readStatement_47 : decode cX6_readStatement 47 = .ok (.ifCond .eq 20, 3) := by decide +kernel
theorem dX6_readStatement_50 : decode cX6_readStatement 50 = .ok (.aload_n 0, 1) := by decide +kernel
theorem dX6_readStatement_51 : decode cX6_readStatement 51 = .ok (.bipush 8, 2) := by decide +kernel
theorem dX6_readStatement_53 : decode cX6_readStatement 53 = .ok (.invokevirtual 42, 3) := by decide +kernel
theorem dX6_readStatement_56 : decode cX6_readStatement 56 = .ok (.ifCond .eq 11, 3) := by decide +kernel
theorem dX6_readStatement_59 : decode cX6_readStatement 59 = .ok (.aload_n 0, 1) := by decide +kernel
theorem dX6_readStatement_60 : decode cX6_readStatement 60 = .ok (.aload_n 1, 1) := by decide +kernel
theorem dX6_readStatement_61 : decode cX6_readStatement 61 = .ok (.invokevirtual 49, 3) := by decide +kernel
theorem dX6_readStatement_64 : decode cX6_readStatement 64 = .ok (.ifCond .ne 5, 3) := by decide +kernel
theorem dX6_readStatement_67 : decode cX6_readStatement 67 = .ok (.iconst 0, 1) := by decide +kernel
theorem dX6_readStatement_68 : decode cX6_readStatement 68 = .ok (.ireturn, 1) := by decide +kernel
theorem dX6_readStatement_69 : decode cX6_readStatement 69 = .ok (.iload_n 2, 1) := by decide +kernel
theorem dX6_readStatement_70 : decode cX6_readStatement 70 = .ok (.ifCond .ne 20, 3) := by decide +kernel
theorem dX6_readStatement_73 : decode cX6_readStatement 73 = .ok (.aload_n 0, 1) := by decide +kernel
theorem dX6_readStatement_74 : decode cX6_readStatement 74 = .ok (.bipush 10, 2) := by decide +kernel
theorem dX6_readStatement_76 : decode cX6_readStatement 76 = .ok (.invokevirtual 42, 3) := by decide +kernel
theorem dX6_readStatement_79 : decode cX6_readStatement 79 = .ok (.ifCond .eq 15, 3) := by decide +kernel
theorem dX6_readStatement_82 : decode cX6_readStatement 82 = .ok (.aload_n 0, 1) := by decide +kernel
theorem dX6_readStatement_83 : decode cX6_readStatement 83 = .ok (.aload_n 1, 1) := by decide +kernel
theorem dX6_readStatement_84 : decode cX6_readStatement 84 = .ok (.invokevirtual 52, 3) := by decide +kernel
theorem dX6_readStatement_87 : decode cX6_readStatement 87 = .ok (.ifCond .eq 7, 3) := by decide +kernel
theorem dX6_readStatement_90 : decode cX6_readStatement 90 = .ok (.iconst 1, 1) := by decide +kernel
theorem dX6_readStatement_91 : decode cX6_readStatement 91 = .ok (.goto 4, 3) := by decide +kernel
theorem dX6_readStatement_94 : decode cX6_readStatement 94 = .ok (.iconst 0, 1) := by decide +kernel
theorem dX6_readStatement_95 : decode cX6_readStatement 95 = .ok (.istore 4, 2) := by decide +kernel
theorem dX6_readStatement_97 : decode cX6_readStatement 97 = .ok (.iload 4, 2) := by decide +kernel
theorem dX6_readStatement_99 : decode cX6_readStatement 99 = .ok (.ifCond .eq 12, 3) := by decide +kernel
theorem dX6_readStatement_102 : decode cX6_readStatement 102 = .ok (.aload_n 0, 1) := by decide +kernel
theorem dX6_readStatement_103 : decode cX6_readStatement 103 = .ok (.bipush 59, 2) := by decide +kernel
theorem dX6_readStatement_105 : decode cX6_readStatement 105 = .ok (.invokevirtual 42, 3) := by decide +kernel
theorem dX6_readStatement_108 : decode cX6_readStatement 108 = .ok (.ifCond .ne 5, 3) := by decide +kernel
theorem dX6_readStatement_111 : decode cX6_readStatement 111 = .ok (.iconst 0, 1) := by decide +kernel
theorem dX6_readStatement_112 : decode cX6_readStatement 112 = .ok (.ireturn, 1) := by decide +kernel
theorem dX6_readStatement_113 : decode cX6_readStatement 113 = .ok (.aload_n 1, 1) := by decide +kernel
theorem dX6_readStatement_114 : decode cX6_readStatement 114 = .ok (.invokevirtual 55, 3) := by decide +kernel
theorem dX6_readStatement_117 : decode cX6_readStatement 117 = .ok (.iconst 1, 1) := by decide +kernel
theorem dX6_readStatement_118 : decode cX6_readStatement 118 = .ok (.ireturn, 1) := by decide +kernel

theorem dX6_readTest_0 : decode cX6_readTest 0 = .ok (.aload_n 0, 1) := by decide +kernel
theorem dX6_readTest_1 : decode cX6_readTest 1 = .ok (.getfield 9, 3) := by decide +kernel
theorem dX6_readTest_4 : decode cX6_readTest 4 = .ok (.aload_n 0, 1) := by decide +kernel
theorem dX6_readTest_5 : decode cX6_readTest 5 = .ok (.getfield 15, 3) := by decide +kernel
theorem dX6_readTest_8 : decode cX6_readTest 8 = .ok (.invokevirtual 71, 3) := by decide +kernel
theorem dX6_readTest_11 : decode cX6_readTest 11 = .ok (.istore_n 2, 1) := by decide +kernel
theorem dX6_readTest_12 : decode cX6_readTest 12 = .ok (.iload_n 2, 1) := by decide +kernel
theorem dX6_readTest_13 : decode cX6_readTest 13 = .ok (.iconst 0, 1) := by decide +kernel
theorem dX6_readTest_14 : decode cX6_readTest 14 = .ok (.iconst 5, 1) := by decide +kernel
theorem dX6_readTest_15 : decode cX6_readTest 15 = .ok (.invokestatic 74, 3) := by decide +kernel
theorem dX6_readTest_18 : decode cX6_readTest 18 = .ok (.ifCond .ne 5, 3) := by decide +kernel
theorem dX6_readTest_21 : decode cX6_readTest 21 = .ok (.iconst 0, 1) := by decide +kernel
theorem dX6_readTest_22 : decode cX6_readTest 22 = .ok (.ireturn, 1) := by decide +kernel
theorem dX6_readTest_23 : decode cX6_readTest 23 = .ok (.aload_n 0, 1) := by decide +kernel
theorem dX6_readTest_24 : decode cX6_readTest 24 = .ok (.dup, 1) := by decide +kernel
theorem dX6_readTest_25 : decode cX6_readTest 25 = .ok (.getfield 15, 3) := by decide +kernel
theorem dX6_readTest_28 : decode cX6_readTest 28 = .ok (.iconst 1, 1) := by decide +kernel
theorem dX6_readTest_29 : decode cX6_readTest 29 = .ok (.iadd, 1) := by decide +kernel
theorem dX6_readTest_30 : decode cX6_readTest 30 = .ok (.putfield 15, 3) := by decide +kernel
theorem dX6_readTest_33 : decode cX6_readTest 33 = .ok (.aload_n 0, 1) := by decide +kernel
theorem dX6_readTest_34 : decode cX6_readTest 34 = .ok (.getfield 9, 3) := by decide +kernel
theorem dX6_readTest_37 : decode cX6_readTest 37 = .ok (.aload_n 0, 1) := by decide +kernel
theorem dX6_readTest_38 : decode cX6_readTest 38 = .ok (.getfield 15, 3) := by decide +kernel
theorem dX6_readTest_41 : decode cX6_readTest 41 = .ok (.invokevirtual 71, 3) := by decide +kernel
theorem dX6_readTest_44 : decode cX6_readTest 44 = .ok (.istore_n 3, 1) := by decide +kernel
theorem dX6_readTest_45 : decode cX6_readTest 45 = .ok (.aload_n 0, 1) := by decide +kernel
theorem dX6_readTest_46 : decode cX6_readTest 46 = .ok (.bipush 60, 2) := by decide +kernel
theorem dX6_readTest_48 : decode cX6_readTest 48 = .ok (.invokevirtual 42, 3) := by decide +kernel
theorem dX6_readTest_51 : decode cX6_readTest 51 = .ok (.ifCond .ne 21, 3) := by decide +kernel
theorem dX6_readTest_54 : decode cX6_readTest 54 = .ok (.aload_n 0, 1) := by decide +kernel
theorem dX6_readTest_55 : decode cX6_readTest 55 = .ok (.bipush 62, 2) := by decide +kernel
theorem dX6_readTest_57 : decode cX6_readTest 57 = .ok (.invokevirtual 42, 3) := by decide +kernel
theorem dX6_readTest_60 : decode cX6_readTest 60 = .ok (.ifCond .ne 12, 3) := by decide +kernel
theorem dX6_readTest_63 : decode cX6_readTest 63 = .ok (.aload_n 0, 1) := by decide +kernel
theorem dX6_readTest_64 : decode cX6_readTest 64 = .ok (.bipush 61, 2) := by decide +kernel
theorem dX6_readTest_66 : decode cX6_readTest 66 = .ok (.invokevirtual 42, 3) := by decide +kernel
theorem dX6_readTest_69 : decode cX6_readTest 69 = .ok (.ifCond .eq 7, 3) := by decide +kernel
theorem dX6_readTest_72 : decode cX6_readTest 72 = .ok (.iconst 1, 1) := by decide +kernel
theorem dX6_readTest_73 : decode cX6_readTest 73 = .ok (.goto 4, 3) := by decide +kernel
theorem dX6_readTest_76 : decode cX6_readTest 76 = .ok (.iconst 0, 1) := by decide +kernel
theorem dX6_readTest_77 : decode cX6_readTest 77 = .ok (.istore 4, 2) := by decide +kernel
theorem dX6_readTest_79 : decode cX6_readTest 79 = .ok (.iload 4, 2) := by decide +kernel
theorem dX6_readTest_81 : decode cX6_readTest 81 = .ok (.ifCond .eq 13, 3) := by decide +kernel
theorem dX6_readTest_84 : decode cX6_readTest 84 = .ok (.aload_n 0, 1) := by decide +kernel
theorem dX6_readTest_85 : decode cX6_readTest 85 = .ok (.sipush 9999, 3) := by decide +kernel
theorem dX6_readTest_88 : decode cX6_readTest 88 = .ok (.invokevirtual 62, 3) := by decide +kernel
theorem dX6_readTest_91 : decode cX6_readTest 91 = .ok (.ifCond .ne 5, 3) := by decide +kernel
theorem dX6_readTest_94 : decode cX6_readTest 94 = .ok (.iconst 0, 1) := by decide +kernel
theorem dX6_readTest_95 : decode cX6_readTest 95 = .ok (.ireturn, 1) := by decide +kernel
theorem dX6_readTest_96 : decode cX6_readTest 96 = .ok (.aload_n 1, 1) := by decide +kernel
theorem dX6_readTest_97 : decode cX6_readTest 97 = .ok (.iload_n 2, 1) := by decide +kernel
theorem dX6_readTest_98 : decode cX6_readTest 98 = .ok (.iload_n 3, 1) := by decide +kernel
theorem dX6_readTest_99 : decode cX6_readTest 99 = .ok (.aload_n 0, 1) := by decide +kernel
theorem dX6_readTest_100 : decode cX6_readTest 100 = .ok (.getfield 65, 3) := by decide +kernel
theorem dX6_readTest_103 : decode cX6_readTest 103 = .ok (.invokevirtual 78, 3) := by decide +kernel
theorem dX6_readTest_106 : decode cX6_readTest 106 = .ok (.iconst 1, 1) := by decide +kernel
theorem dX6_readTest_107 : decode cX6_readTest 107 = .ok (.ireturn, 1) := by decide +kernel

theorem dX6_readTests_0 : decode cX6_readTests 0 = .ok (.iconst 0, 1) := by decide +kernel
theorem dX6_readTests_1 : decode cX6_readTests 1 = .ok (.istore_n 2, 1) := by decide +kernel
theorem dX6_readTests_2 : decode cX6_readTests 2 = .ok (.iload_n 2, 1) := by decide +kernel
theorem dX6_readTests_3 : decode cX6_readTests 3 = .ok (.iconst 3, 1) := by decide +kernel
theorem dX6_readTests_4 : decode cX6_readTests 4 = .ok (.if_icmp .ge 30, 3) := by decide +kernel
theorem dX6_readTests_7 : decode cX6_readTests 7 = .ok (.aload_n 0, 1) := by decide +kernel
theorem dX6_readTests_8 : decode cX6_readTests 8 = .ok (.aload_n 1, 1) := by decide +kernel
theorem dX6_readTests_9 : decode cX6_readTests 9 = .ok (.invokevirtual 68, 3) := by decide +kernel
theorem dX6_readTests_12 : decode cX6_readTests 12 = .ok (.ifCond .ne 5, 3) := by decide +kernel
theorem dX6_readTests_15 : decode cX6_readTests 15 = .ok (.iconst 0, 1) := by decide +kernel
theorem dX6_readTests_16 : decode cX6_readTests 16 = .ok (.ireturn, 1) := by decide +kernel
theorem dX6_readTests_17 : decode cX6_readTests 17 = .ok (.aload_n 0, 1) := by decide +kernel
theorem dX6_readTests_18 : decode cX6_readTests 18 = .ok (.bipush 9, 2) := by decide +kernel
theorem dX6_readTests_20 : decode cX6_readTests 20 = .ok (.invokevirtual 42, 3) := by decide +kernel
theorem dX6_readTests_23 : decode cX6_readTests 23 = .ok (.ifCond .ne 5, 3) := by decide +kernel
theorem dX6_readTests_26 : decode cX6_readTests 26 = .ok (.iconst 1, 1) := by decide +kernel
theorem dX6_readTests_27 : decode cX6_readTests 27 = .ok (.ireturn, 1) := by decide +kernel
theorem dX6_readTests_28 : decode cX6_readTests 28 = .ok (.iinc 2 1, 3) := by decide +kernel
theorem dX6_readTests_31 : decode cX6_readTests 31 = .ok (.goto (-29), 3) := by decide +kernel
theorem dX6_readTests_34 : decode cX6_readTests 34 = .ok (.iconst 0, 1) := by decide +kernel
theorem dX6_readTests_35 : decode cX6_readTests 35 = .ok (.ireturn, 1) := by decide +kernel

theorem dX6_take_0 : decode cX6_take 0 = .ok (.aload_n 0, 1) := by decide +kernel
theorem dX6_take_1 : decode cX6_take 1 = .ok (.getfield 9, 3) := by decide +kernel
theorem dX6_take_4 : decode cX6_take 4 = .ok (.aload_n 0, 1) := by decide +kernel
theorem dX6_take_5 : decode cX6_take 5 = .ok (.getfield 15, 3) := by decide +kernel
theorem dX6_take_8 : decode cX6_take 8 = .ok (.invokevirtual 71, 3) := by decide +kernel
theorem dX6_take_11 : decode cX6_take 11 = .ok (.iload_n 1, 1) := by decide +kernel
theorem dX6_take_12 : decode cX6_take 12 = .ok (.if_icmp .eq 5, 3) := by decide +kernel
theorem dX6_take_15 : decode cX6_take 15 = .ok (.iconst 0, 1) := by decide +kernel
theorem dX6_take_16 : decode cX6_take 16 = .ok (.ireturn, 1) := by decide +kernel
theorem dX6_take_17 : decode cX6_take 17 = .ok (.aload_n 0, 1) := by decide +kernel
theorem dX6_take_18 : decode cX6_take 18 = .ok (.dup, 1) := by decide +kernel
theorem dX6_take_19 : decode cX6_take 19 = .ok (.getfield 15, 3) := by decide +kernel
theorem dX6_take_22 : decode cX6_take 22 = .ok (.iconst 1, 1) := by decide +kernel
theorem dX6_take_23 : decode cX6_take 23 = .ok (.iadd, 1) := by decide +kernel
theorem dX6_take_24 : decode cX6_take 24 = .ok (.putfield 15, 3) := by decide +kernel
theorem dX6_take_27 : decode cX6_take 27 = .ok (.iconst 1, 1) := by decide +kernel
theorem dX6_take_28 : decode cX6_take 28 = .ok (.ireturn, 1) := by decide +kernel

theorem dX6_takeNumber_0 : decode cX6_takeNumber 0 = .ok (.aload_n 0, 1) := by decide +kernel
theorem dX6_takeNumber_1 : decode cX6_takeNumber 1 = .ok (.getfield 9, 3) := by decide +kernel
theorem dX6_takeNumber_4 : decode cX6_takeNumber 4 = .ok (.aload_n 0, 1) := by decide +kernel
theorem dX6_takeNumber_5 : decode cX6_takeNumber 5 = .ok (.getfield 15, 3) := by decide +kernel
theorem dX6_takeNumber_8 : decode cX6_takeNumber 8 = .ok (.invokevirtual 71, 3) := by decide +kernel
theorem dX6_takeNumber_11 : decode cX6_takeNumber 11 = .ok (.sipush 1000, 3) := by decide +kernel
theorem dX6_takeNumber_14 : decode cX6_takeNumber 14 = .ok (.isub, 1) := by decide +kernel
theorem dX6_takeNumber_15 : decode cX6_takeNumber 15 = .ok (.istore_n 2, 1) := by decide +kernel
theorem dX6_takeNumber_16 : decode cX6_takeNumber 16 = .ok (.iload_n 2, 1) := by decide +kernel
theorem dX6_takeNumber_17 : decode cX6_takeNumber 17 = .ok (.iconst 0, 1) := by decide +kernel
theorem dX6_takeNumber_18 : decode cX6_takeNumber 18 = .ok (.iload_n 1, 1) := by decide +kernel
theorem dX6_takeNumber_19 : decode cX6_takeNumber 19 = .ok (.invokestatic 74, 3) := by decide +kernel
theorem dX6_takeNumber_22 : decode cX6_takeNumber 22 = .ok (.ifCond .ne 5, 3) := by decide +kernel
theorem dX6_takeNumber_25 : decode cX6_takeNumber 25 = .ok (.iconst 0, 1) := by decide +kernel
theorem dX6_takeNumber_26 : decode cX6_takeNumber 26 = .ok (.ireturn, 1) := by decide +kernel
theorem dX6_takeNumber_27 : decode cX6_takeNumber 27 = .ok (.aload_n 0, 1) := by decide +kernel
theorem dX6_takeNumber_28 : decode cX6_takeNumber 28 = .ok (.iload_n 2, 1) := by decide +kernel
theorem dX6_takeNumber_29 : decode cX6_takeNumber 29 = .ok (.putfield 65, 3) := by decide +kernel
theorem dX6_takeNumber_32 : decode cX6_takeNumber 32 = .ok (.aload_n 0, 1) := by decide +kernel
theorem dX6_takeNumber_33 : decode cX6_takeNumber 33 = .ok (.dup, 1) := by decide +kernel
theorem dX6_takeNumber_34 : decode cX6_takeNumber 34 = .ok (.getfield 15, 3) := by decide +kernel
theorem dX6_takeNumber_37 : decode cX6_takeNumber 37 = .ok (.iconst 1, 1) := by decide +kernel
theorem dX6_takeNumber_38 : decode cX6_takeNumber 38 = .ok (.iadd, 1) := by decide +kernel
theorem dX6_takeNumber_39 : decode cX6_takeNumber 39 = .ok (.putfield 15, 3) := by decide +kernel
theorem dX6_takeNumber_42 : decode cX6_takeNumber 42 = .ok (.iconst 1, 1) := by decide +kernel
theorem dX6_takeNumber_43 : decode cX6_takeNumber 43 = .ok (.ireturn, 1) := by decide +kernel

theorem dX7_beginYear_0 : decode cX7_beginYear 0 = .ok (.aload_n 0, 1) := by decide +kernel
theorem dX7_beginYear_1 : decode cX7_beginYear 1 = .ok (.dup, 1) := by decide +kernel
theorem dX7_beginYear_2 : decode cX7_beginYear 2 = .ok (.getfield 20, 3) := by decide +kernel
theorem dX7_beginYear_5 : decode cX7_beginYear 5 = .ok (.iconst 1, 1) := by decide +kernel
theorem dX7_beginYear_6 : decode cX7_beginYear 6 = .ok (.iadd, 1) := by decide +kernel
theorem dX7_beginYear_7 : decode cX7_beginYear 7 = .ok (.putfield 20, 3) := by decide +kernel
theorem dX7_beginYear_10 : decode cX7_beginYear 10 = .ok (.aload_n 0, 1) := by decide +kernel
theorem dX7_beginYear_11 : decode cX7_beginYear 11 = .ok (.iconst 0, 1) := by decide +kernel
theorem dX7_beginYear_12 : decode cX7_beginYear 12 = .ok (.putfield 7, 3) := by decide +kernel
theorem dX7_beginYear_15 : decode cX7_beginYear 15 = .ok (.aload_n 0, 1) := by decide +kernel
theorem dX7_beginYear_16 : decode cX7_beginYear 16 = .ok (.iconst 0, 1) := by decide +kernel
theorem dX7_beginYear_17 : decode cX7_beginYear 17 = .ok (.putfield 13, 3) := by decide +kernel
theorem dX7_beginYear_20 : decode cX7_beginYear 20 = .ok (.aload_n 0, 1) := by decide +kernel
theorem dX7_beginYear_21 : decode cX7_beginYear 21 = .ok (.iconst 0, 1) := by decide +kernel
theorem dX7_beginYear_22 : decode cX7_beginYear 22 = .ok (.putfield 16, 3) := by decide +kernel
theorem dX7_beginYear_25 : decode cX7_beginYear 25 = .ok (.return_, 1) := by decide +kernel

theorem dX7_init_0 : decode cX7_init 0 = .ok (.aload_n 0, 1) := by decide +kernel
theorem dX7_init_1 : decode cX7_init 1 = .ok (.invokespecial 1, 3) := by decide +kernel
theorem dX7_init_4 : decode cX7_init 4 = .ok (.return_, 1) := by decide +kernel

theorem dX7_passDay_0 : decode cX7_passDay 0 = .ok (.aload_n 0, 1) := by decide +kernel
theorem dX7_passDay_1 : decode cX7_passDay 1 = .ok (.dup, 1) := by decide +kernel
theorem dX7_passDay_2 : decode cX7_passDay 2 = .ok (.getfield 7, 3) := by decide +kernel
theorem dX7_passDay_5 : decode cX7_passDay 5 = .ok (.iconst 1, 1) := by decide +kernel
theorem dX7_passDay_6 : decode cX7_passDay 6 = .ok (.iadd, 1) := by decide +kernel
theorem dX7_passDay_7 : decode cX7_passDay 7 = .ok (.putfield 7, 3) := by decide +kernel
theorem dX7_passDay_10 : decode cX7_passDay 10 = .ok (.aload_n 0, 1) := by decide +kernel
theorem dX7_passDay_11 : decode cX7_passDay 11 = .ok (.iload_n 1, 1) := by decide +kernel
theorem dX7_passDay_12 : decode cX7_passDay 12 = .ok (.ifCond .eq 7, 3) := by decide +kernel
theorem dX7_passDay_15 : decode cX7_passDay 15 = .ok (.iconst 0, 1) := by decide +kernel
theorem dX7_passDay_16 : decode cX7_passDay 16 = .ok (.goto 9, 3) := by decide +kernel
theorem dX7_passDay_19 : decode cX7_passDay 19 = .ok (.aload_n 0, 1) := by decide +kernel
theorem dX7_passDay_20 : decode cX7_passDay 20 = .ok (.getfield 13, 3) := by decide +kernel
theorem dX7_passDay_23 : decode cX7_passDay 23 = .ok (.iconst 1, 1) := by decide +kernel
theorem dX7_passDay_24 : decode cX7_passDay 24 = .ok (.iadd, 1) := by decide +kernel
theorem dX7_passDay_25 : decode cX7_passDay 25 = .ok (.putfield 13, 3) := by decide +kernel
theorem dX7_passDay_28 : decode cX7_passDay 28 = .ok (.aload_n 0, 1) := by decide +kernel
theorem dX7_passDay_29 : decode cX7_passDay 29 = .ok (.getfield 13, 3) := by decide +kernel
theorem dX7_passDay_32 : decode cX7_passDay 32 = .ok (.iconst 5, 1) := by decide +kernel
theorem dX7_passDay_33 : decode cX7_passDay 33 = .ok (.if_icmp .lt 8, 3) := by decide +kernel
theorem dX7_passDay_36 : decode cX7_passDay 36 = .ok (.aload_n 0, 1) := by decide +kernel
theorem dX7_passDay_37 : decode cX7_passDay 37 = .ok (.iconst 1, 1) := by decide +kernel
theorem dX7_passDay_38 : decode cX7_passDay 38 = .ok (.putfield 16, 3) := by decide +kernel
theorem dX7_passDay_41 : decode cX7_passDay 41 = .ok (.return_, 1) := by decide +kernel

theorem dX8_drain_0 : decode cX8_drain 0 = .ok (.aload_n 0, 1) := by decide +kernel
theorem dX8_drain_1 : decode cX8_drain 1 = .ok (.iconst 0, 1) := by decide +kernel
theorem dX8_drain_2 : decode cX8_drain 2 = .ok (.putfield 9, 3) := by decide +kernel
theorem dX8_drain_5 : decode cX8_drain 5 = .ok (.return_, 1) := by decide +kernel

theorem dX8_init_0 : decode cX8_init 0 = .ok (.aload_n 0, 1) := by decide +kernel
theorem dX8_init_1 : decode cX8_init 1 = .ok (.invokespecial 1, 3) := by decide +kernel
theorem dX8_init_4 : decode cX8_init 4 = .ok (.return_, 1) := by decide +kernel

theorem dX8_leave_0 : decode cX8_leave 0 = .ok (.aload_n 0, 1) := by decide +kernel
theorem dX8_leave_1 : decode cX8_leave 1 = .ok (.dup, 1) := by decide +kernel
theorem dX8_leave_2 : decode cX8_leave 2 = .ok (.getfield 25, 3) := by decide +kernel
theorem dX8_leave_5 : decode cX8_leave 5 = .ok (.iload_n 1, 1) := by decide +kernel
theorem dX8_leave_6 : decode cX8_leave 6 = .ok (.iadd, 1) := by decide +kernel
theorem dX8_leave_7 : decode cX8_leave 7 = .ok (.putfield 25, 3) := by decide +kernel
theorem dX8_leave_10 : decode cX8_leave 10 = .ok (.return_, 1) := by decide +kernel

theorem dX8_takeIn_0 : decode cX8_takeIn 0 = .ok (.iload_n 1, 1) := by decide +kernel
theorem dX8_takeIn_1 : decode cX8_takeIn 1 = .ok (.sipush 20000, 3) := by decide +kernel
theorem dX8_takeIn_4 : decode cX8_takeIn 4 = .ok (.aload_n 0, 1) := by decide +kernel
theorem dX8_takeIn_5 : decode cX8_takeIn 5 = .ok (.getfield 9, 3) := by decide +kernel
theorem dX8_takeIn_8 : decode cX8_takeIn 8 = .ok (.isub, 1) := by decide +kernel
theorem dX8_takeIn_9 : decode cX8_takeIn 9 = .ok (.invokestatic 13, 3) := by decide +kernel
theorem dX8_takeIn_12 : decode cX8_takeIn 12 = .ok (.istore_n 2, 1) := by decide +kernel
theorem dX8_takeIn_13 : decode cX8_takeIn 13 = .ok (.aload_n 0, 1) := by decide +kernel
theorem dX8_takeIn_14 : decode cX8_takeIn 14 = .ok (.dup, 1) := by decide +kernel
theorem dX8_takeIn_15 : decode cX8_takeIn 15 = .ok (.getfield 9, 3) := by decide +kernel
theorem dX8_takeIn_18 : decode cX8_takeIn 18 = .ok (.iload_n 2, 1) := by decide +kernel
theorem dX8_takeIn_19 : decode cX8_takeIn 19 = .ok (.iadd, 1) := by decide +kernel
theorem dX8_takeIn_20 : decode cX8_takeIn 20 = .ok (.putfield 9, 3) := by decide +kernel
theorem dX8_takeIn_23 : decode cX8_takeIn 23 = .ok (.aload_n 0, 1) := by decide +kernel
theorem dX8_takeIn_24 : decode cX8_takeIn 24 = .ok (.dup, 1) := by decide +kernel
theorem dX8_takeIn_25 : decode cX8_takeIn 25 = .ok (.getfield 19, 3) := by decide +kernel
theorem dX8_takeIn_28 : decode cX8_takeIn 28 = .ok (.iload_n 1, 1) := by decide +kernel
theorem dX8_takeIn_29 : decode cX8_takeIn 29 = .ok (.iload_n 2, 1) := by decide +kernel
theorem dX8_takeIn_30 : decode cX8_takeIn 30 = .ok (.isub, 1) := by decide +kernel
theorem dX8_takeIn_31 : decode cX8_takeIn 31 = .ok (.iadd, 1) := by decide +kernel
theorem dX8_takeIn_32 : decode cX8_takeIn 32 = .ok (.putfield 19, 3) := by decide +kernel
theorem dX8_takeIn_35 : decode cX8_takeIn 35 = .ok (.aload_n 0, 1) := by decide +kernel
theorem dX8_takeIn_36 : decode cX8_takeIn 36 = .ok (.dup, 1) := by decide +kernel
theorem dX8_takeIn_37 : decode cX8_takeIn 37 = .ok (.getfield 22, 3) := by decide +kernel
theorem dX8_takeIn_40 : decode cX8_takeIn 40 = .ok (.iload_n 1, 1) := by decide +kernel
theorem dX8_takeIn_41 : decode cX8_takeIn 41 = .ok (.iadd, 1) := by decide +kernel
theorem dX8_takeIn_42 : decode cX8_takeIn 42 = .ok (.putfield 22, 3) := by decide +kernel
theorem dX8_takeIn_45 : decode cX8_takeIn 45 = .ok (.return_, 1) := by decide +kernel

theorem dX8_takeOut_0 : decode cX8_takeOut 0 = .ok (.iload_n 1, 1) := by decide +kernel
theorem dX8_takeOut_1 : decode cX8_takeOut 1 = .ok (.aload_n 0, 1) := by decide +kernel
theorem dX8_takeOut_2 : decode cX8_takeOut 2 = .ok (.getfield 9, 3) := by decide +kernel
theorem dX8_takeOut_5 : decode cX8_takeOut 5 = .ok (.if_icmp .le 5, 3) := by decide +kernel
theorem dX8_takeOut_8 : decode cX8_takeOut 8 = .ok (.iconst 0, 1) := by decide +kernel
theorem dX8_takeOut_9 : decode cX8_takeOut 9 = .ok (.ireturn, 1) := by decide +kernel
theorem dX8_takeOut_10 : decode cX8_takeOut 10 = .ok (.aload_n 0, 1) := by decide +kernel
theorem dX8_takeOut_11 : decode cX8_takeOut 11 = .ok (.dup, 1) := by decide +kernel
theorem dX8_takeOut_12 : decode cX8_takeOut 12 = .ok (.getfield 9, 3) := by decide +kernel
theorem dX8_takeOut_15 : decode cX8_takeOut 15 = .ok (.iload_n 1, 1) := by decide +kernel
theorem dX8_takeOut_16 : decode cX8_takeOut 16 = .ok (.isub, 1) := by decide +kernel
theorem dX8_takeOut_17 : decode cX8_takeOut 17 = .ok (.putfield 9, 3) := by decide +kernel
theorem dX8_takeOut_20 : decode cX8_takeOut 20 = .ok (.iconst 1, 1) := by decide +kernel
theorem dX8_takeOut_21 : decode cX8_takeOut 21 = .ok (.ireturn, 1) := by decide +kernel

theorem dX9_append_0 : decode cX9_append 0 = .ok (.aload_n 0, 1) := by decide +kernel
theorem dX9_append_1 : decode cX9_append 1 = .ok (.iconst 4, 1) := by decide +kernel
theorem dX9_append_2 : decode cX9_append 2 = .ok (.invokevirtual 26, 3) := by decide +kernel
theorem dX9_append_5 : decode cX9_append 5 = .ok (.ifCond .ne 4, 3) := by decide +kernel
theorem dX9_append_8 : decode cX9_append 8 = .ok (.return_, 1) := by decide +kernel
theorem dX9_append_9 : decode cX9_append 9 = .ok (.bipush 24, 2) := by decide +kernel
theorem dX9_append_11 : decode cX9_append 11 = .ok (.istore_n 2, 1) := by decide +kernel
theorem dX9_append_12 : decode cX9_append 12 = .ok (.iload_n 2, 1) := by decide +kernel
theorem dX9_append_13 : decode cX9_append 13 = .ok (.ifCond .lt 32, 3) := by decide +kernel
theorem dX9_append_16 : decode cX9_append 16 = .ok (.aload_n 0, 1) := by decide +kernel
theorem dX9_append_17 : decode cX9_append 17 = .ok (.getfield 11, 3) := by decide +kernel
theorem dX9_append_20 : decode cX9_append 20 = .ok (.aload_n 0, 1) := by decide +kernel
theorem dX9_append_21 : decode cX9_append 21 = .ok (.getfield 22, 3) := by decide +kernel
theorem dX9_append_24 : decode cX9_append 24 = .ok (.iload_n 1, 1) := by decide +kernel
theorem dX9_append_25 : decode cX9_append 25 = .ok (.iload_n 2, 1) := by decide +kernel
theorem dX9_append_26 : decode cX9_append 26 = .ok (.iushr, 1) := by decide +kernel
theorem dX9_append_27 : decode cX9_append 27 = .ok (.i2b, 1) := by decide +kernel
theorem dX9_append_28 : decode cX9_append 28 = .ok (.bastore, 1) := by decide +kernel
theorem dX9_append_29 : decode cX9_append 29 = .ok (.aload_n 0, 1) := by decide +kernel
theorem dX9_append_30 : decode cX9_append 30 = .ok (.dup, 1) := by decide +kernel
theorem dX9_append_31 : decode cX9_append 31 = .ok (.getfield 22, 3) := by decide +kernel
theorem dX9_append_34 : decode cX9_append 34 = .ok (.iconst 1, 1) := by decide +kernel
theorem dX9_append_35 : decode cX9_append 35 = .ok (.iadd, 1) := by decide +kernel
theorem dX9_append_36 : decode cX9_append 36 = .ok (.putfield 22, 3) := by decide +kernel
theorem dX9_append_39 : decode cX9_append 39 = .ok (.iinc 2 (-8), 3) := by decide +kernel
theorem dX9_append_42 : decode cX9_append 42 = .ok (.goto (-30), 3) := by decide +kernel
theorem dX9_append_45 : decode cX9_append 45 = .ok (.return_, 1) := by decide +kernel

theorem dX9_beginsToken_0 : decode cX9_beginsToken 0 = .ok (.aload_n 0, 1) := by decide +kernel
theorem dX9_beginsToken_1 : decode cX9_beginsToken 1 = .ok (.iload_n 1, 1) := by decide +kernel
theorem dX9_beginsToken_2 : decode cX9_beginsToken 2 = .ok (.invokevirtual 52, 3) := by decide +kernel
theorem dX9_beginsToken_5 : decode cX9_beginsToken 5 = .ok (.istore_n 2, 1) := by decide +kernel
theorem dX9_beginsToken_6 : decode cX9_beginsToken 6 = .ok (.iload_n 2, 1) := by decide +kernel
theorem dX9_beginsToken_7 : decode cX9_beginsToken 7 = .ok (.iconst 2, 1) := by decide +kernel
theorem dX9_beginsToken_8 : decode cX9_beginsToken 8 = .ok (.if_icmp .eq 23, 3) := by decide +kernel
theorem dX9_beginsToken_11 : decode cX9_beginsToken 11 = .ok (.iload_n 2, 1) := by decide +kernel
theorem dX9_beginsToken_12 : decode cX9_beginsToken 12 = .ok (.iconst 3, 1) := by decide +kernel
theorem dX9_beginsToken_13 : decode cX9_beginsToken 13 = .ok (.if_icmp .eq 22, 3) := by decide +kernel
theorem dX9_beginsToken_16 : decode cX9_beginsToken 16 = .ok (.iload_n 1, 1) := by decide +kernel
theorem dX9_beginsToken_17 : decode cX9_beginsToken 17 = .ok (.ifCond .eq 14, 3) := by decide +kernel
theorem dX9_beginsToken_20 : decode cX9_beginsToken 20 = .ok (.aload_n 0, 1) := by decide +kernel
theorem dX9_beginsToken_21 : decode cX9_beginsToken 21 = .ok (.iload_n 1, 1) := by decide +kernel
theorem dX9_beginsToken_22 : decode cX9_beginsToken 22 = .ok (.iconst 1, 1) := by decide +kernel
theorem dX9_beginsToken_23 : decode cX9_beginsToken 23 = .ok (.isub, 1) := by decide +kernel
theorem dX9_beginsToken_24 : decode cX9_beginsToken 24 = .ok (.invokevirtual 52, 3) := by decide +kernel
theorem dX9_beginsToken_27 : decode cX9_beginsToken 27 = .ok (.iload_n 2, 1) := by decide +kernel
theorem dX9_beginsToken_28 : decode cX9_beginsToken 28 = .ok (.if_icmp .eq 7, 3) := by decide +kernel
theorem dX9_beginsToken_31 : decode cX9_beginsToken 31 = .ok (.iconst 1, 1) := by decide +kernel
theorem dX9_beginsToken_32 : decode cX9_beginsToken 32 = .ok (.goto 4, 3) := by decide +kernel
theorem dX9_beginsToken_35 : decode cX9_beginsToken 35 = .ok (.iconst 0, 1) := by decide +kernel
theorem dX9_beginsToken_36 : decode cX9_beginsToken 36 = .ok (.ireturn, 1) := by decide +kernel

theorem dX9_clear_0 : decode cX9_clear 0 = .ok (.aload_n 0, 1) := by decide +kernel
theorem dX9_clear_1 : decode cX9_clear 1 = .ok (.iconst 0, 1) := by decide +kernel
theorem dX9_clear_2 : decode cX9_clear 2 = .ok (.putfield 22, 3) := by decide +kernel
theorem dX9_clear_5 : decode cX9_clear 5 = .ok (.return_, 1) := by decide +kernel

theorem dX9_codeAt_0 : decode cX9_codeAt 0 = .ok (.aload_n 0, 1) := by decide +kernel
theorem dX9_codeAt_1 : decode cX9_codeAt 1 = .ok (.iload_n 1, 1) := by decide +kernel
theorem dX9_codeAt_2 : decode cX9_codeAt 2 = .ok (.invokevirtual 52, 3) := by decide +kernel
theorem dX9_codeAt_5 : decode cX9_codeAt 5 = .ok (.lookupswitch 39 #[(0, 27), (1, 33)], 27) := by decide +kernel
theorem dX9_codeAt_32 : decode cX9_codeAt 32 = .ok (.aload_n 0, 1) := by decide +kernel
theorem dX9_codeAt_33 : decode cX9_codeAt 33 = .ok (.iload_n 1, 1) := by decide +kernel
theorem dX9_codeAt_34 : decode cX9_codeAt 34 = .ok (.invokevirtual 55, 3) := by decide +kernel
theorem dX9_codeAt_37 : decode cX9_codeAt 37 = .ok (.ireturn, 1) := by decide +kernel
theorem dX9_codeAt_38 : decode cX9_codeAt 38 = .ok (.aload_n 0, 1) := by decide +kernel
theorem dX9_codeAt_39 : decode cX9_codeAt 39 = .ok (.iload_n 1, 1) := by decide +kernel
theorem dX9_codeAt_40 : decode cX9_codeAt 40 = .ok (.invokevirtual 58, 3) := by decide +kernel
theorem dX9_codeAt_43 : decode cX9_codeAt 43 = .ok (.ireturn, 1) := by decide +kernel
theorem dX9_codeAt_44 : decode cX9_codeAt 44 = .ok (.aload_n 0, 1) := by decide +kernel
theorem dX9_codeAt_45 : decode cX9_codeAt 45 = .ok (.iload_n 1, 1) := by decide +kernel
theorem dX9_codeAt_46 : decode cX9_codeAt 46 = .ok (.invokevirtual 61, 3) := by decide +kernel
theorem dX9_codeAt_49 : decode cX9_codeAt 49 = .ok (.ireturn, 1) := by decide +kernel

theorem dX9_codeOf_0 : decode cX9_codeOf 0 = .ok (.iload_n 1, 1) := by decide +kernel
theorem dX9_codeOf_1 : decode cX9_codeOf 1 = .ok (.ifCond .lt 20, 3) := by decide +kernel
theorem dX9_codeOf_4 : decode cX9_codeOf 4 = .ok (.iload_n 1, 1) := by decide +kernel
theorem dX9_codeOf_5 : decode cX9_codeOf 5 = .ok (.aload_n 0, 1) := by decide +kernel
theorem dX9_codeOf_6 : decode cX9_codeOf 6 = .ok (.getfield 42, 3) := by decide +kernel
theorem dX9_codeOf_9 : decode cX9_codeOf 9 = .ok (.if_icmp .ge 12, 3) := by decide +kernel
theorem dX9_codeOf_12 : decode cX9_codeOf 12 = .ok (.aload_n 0, 1) := by decide +kernel
theorem dX9_codeOf_13 : decode cX9_codeOf 13 = .ok (.getfield 19, 3) := by decide +kernel
theorem dX9_codeOf_16 : decode cX9_codeOf 16 = .ok (.iload_n 1, 1) := by decide +kernel
theorem dX9_codeOf_17 : decode cX9_codeOf 17 = .ok (.iaload, 1) := by decide +kernel
theorem dX9_codeOf_18 : decode cX9_codeOf 18 = .ok (.goto 4, 3) := by decide +kernel
theorem dX9_codeOf_21 : decode cX9_codeOf 21 = .ok (.iconst (-1), 1) := by decide +kernel
theorem dX9_codeOf_22 : decode cX9_codeOf 22 = .ok (.ireturn, 1) := by decide +kernel

theorem dX9_codeOfNumber_0 : decode cX9_codeOfNumber 0 = .ok (.iconst 0, 1) := by decide +kernel
theorem dX9_codeOfNumber_1 : decode cX9_codeOfNumber 1 = .ok (.istore_n 2, 1) := by decide +kernel
theorem dX9_codeOfNumber_2 : decode cX9_codeOfNumber 2 = .ok (.iload_n 1, 1) := by decide +kernel
theorem dX9_codeOfNumber_3 : decode cX9_codeOfNumber 3 = .ok (.istore_n 3, 1) := by decide +kernel
theorem dX9_codeOfNumber_4 : decode cX9_codeOfNumber 4 = .ok (.iload_n 3, 1) := by decide +kernel
theorem dX9_codeOfNumber_5 : decode cX9_codeOfNumber 5 = .ok (.aload_n 0, 1) := by decide +kernel
theorem dX9_codeOfNumber_6 : decode cX9_codeOfNumber 6 = .ok (.getfield 39, 3) := by decide +kernel
theorem dX9_codeOfNumber_9 : decode cX9_codeOfNumber 9 = .ok (.if_icmp .ge 42, 3) := by decide +kernel
theorem dX9_codeOfNumber_12 : decode cX9_codeOfNumber 12 = .ok (.aload_n 0, 1) := by decide +kernel
theorem dX9_codeOfNumber_13 : decode cX9_codeOfNumber 13 = .ok (.iload_n 3, 1) := by decide +kernel
theorem dX9_codeOfNumber_14 : decode cX9_codeOfNumber 14 = .ok (.invokevirtual 52, 3) := by decide +kernel
theorem dX9_codeOfNumber_17 : decode cX9_codeOfNumber 17 = .ok (.iconst 1, 1) := by decide +kernel
theorem dX9_codeOfNumber_18 : decode cX9_codeOfNumber 18 = .ok (.if_icmp .ne 33, 3) := by decide +kernel
theorem dX9_codeOfNumber_21 : decode cX9_codeOfNumber 21 = .ok (.iload_n 3, 1) := by decide +kernel
theorem dX9_codeOfNumber_22 : decode cX9_codeOfNumber 22 = .ok (.iload_n 1, 1) := by decide +kernel
theorem dX9_codeOfNumber_23 : decode cX9_codeOfNumber 23 = .ok (.iconst 4, 1) := by decide +kernel
theorem dX9_codeOfNumber_24 : decode cX9_codeOfNumber 24 = .ok (.iadd, 1) := by decide +kernel
theorem dX9_codeOfNumber_25 : decode cX9_codeOfNumber 25 = .ok (.if_icmp .lt 5, 3) := by decide +kernel
theorem dX9_codeOfNumber_28 : decode cX9_codeOfNumber 28 = .ok (.iconst (-1), 1) := by decide +kernel
theorem dX9_codeOfNumber_29 : decode cX9_codeOfNumber 29 = .ok (.ireturn, 1) := by decide +kernel
theorem dX9_codeOfNumber_30 : decode cX9_codeOfNumber 30 = .ok (.iload_n 2, 1) := by decide +kernel
theorem dX9_codeOfNumber_31 : decode cX9_codeOfNumber 31 = .ok (.bipush 10, 2) := by decide +kernel
theorem dX9_codeOfNumber_33 : decode cX9_codeOfNumber 33 = .ok (.imul, 1) := by decide +kernel
theorem dX9_codeOfNumber_34 : decode cX9_codeOfNumber 34 = .ok (.aload_n 0, 1) := by decide +kernel
theorem dX9_codeOfNumber_35 : decode cX9_codeOfNumber 35 = .ok (.getfield 11, 3) := by decide +kernel
theorem dX9_codeOfNumber_38 : decode cX9_codeOfNumber 38 = .ok (.iload_n 3, 1) := by decide +kernel
theorem dX9_codeOfNumber_39 : decode cX9_codeOfNumber 39 = .ok (.baload, 1) := by decide +kernel
theorem dX9_codeOfNumber_40 : decode cX9_codeOfNumber 40 = .ok (.iadd, 1) := by decide +kernel
theorem dX9_codeOfNumber_41 : decode cX9_codeOfNumber 41 = .ok (.bipush 48, 2) := by decide +kernel
theorem dX9_codeOfNumber_43 : decode cX9_codeOfNumber 43 = .ok (.isub, 1) := by decide +kernel
theorem dX9_codeOfNumber_44 : decode cX9_codeOfNumber 44 = .ok (.istore_n 2, 1) := by decide +kernel
theorem dX9_codeOfNumber_45 : decode cX9_codeOfNumber 45 = .ok (.iinc 3 1, 3) := by decide +kernel
theorem dX9_codeOfNumber_48 : decode cX9_codeOfNumber 48 = .ok (.goto (-44), 3) := by decide +kernel
theorem dX9_codeOfNumber_51 : decode cX9_codeOfNumber 51 = .ok (.sipush 1000, 3) := by decide +kernel
theorem dX9_codeOfNumber_54 : decode cX9_codeOfNumber 54 = .ok (.iload_n 2, 1) := by decide +kernel
theorem dX9_codeOfNumber_55 : decode cX9_codeOfNumber 55 = .ok (.iadd, 1) := by decide +kernel
theorem dX9_codeOfNumber_56 : decode cX9_codeOfNumber 56 = .ok (.ireturn, 1) := by decide +kernel

theorem dX9_codeOfSign_0 : decode cX9_codeOfSign 0 = .ok (.iload_n 1, 1) := by decide +kernel
theorem dX9_codeOfSign_1 : decode cX9_codeOfSign 1 = .ok (.ifCond .lt 20, 3) := by decide +kernel
theorem dX9_codeOfSign_4 : decode cX9_codeOfSign 4 = .ok (.iload_n 1, 1) := by decide +kernel
theorem dX9_codeOfSign_5 : decode cX9_codeOfSign 5 = .ok (.aload_n 0, 1) := by decide +kernel
theorem dX9_codeOfSign_6 : decode cX9_codeOfSign 6 = .ok (.getfield 39, 3) := by decide +kernel
theorem dX9_codeOfSign_9 : decode cX9_codeOfSign 9 = .ok (.if_icmp .ge 12, 3) := by decide +kernel
theorem dX9_codeOfSign_12 : decode cX9_codeOfSign 12 = .ok (.aload_n 0, 1) := by decide +kernel
theorem dX9_codeOfSign_13 : decode cX9_codeOfSign 13 = .ok (.getfield 11, 3) := by decide +kernel
theorem dX9_codeOfSign_16 : decode cX9_codeOfSign 16 = .ok (.iload_n 1, 1) := by decide +kernel
theorem dX9_codeOfSign_17 : decode cX9_codeOfSign 17 = .ok (.baload, 1) := by decide +kernel
theorem dX9_codeOfSign_18 : decode cX9_codeOfSign 18 = .ok (.goto 4, 3) := by decide +kernel
theorem dX9_codeOfSign_21 : decode cX9_codeOfSign 21 = .ok (.iconst (-1), 1) := by decide +kernel
theorem dX9_codeOfSign_22 : decode cX9_codeOfSign 22 = .ok (.istore_n 2, 1) := by decide +kernel
theorem dX9_codeOfSign_23 : decode cX9_codeOfSign 23 = .ok (.iload_n 2, 1) := by decide +kernel
theorem dX9_codeOfSign_24 : decode cX9_codeOfSign 24 = .ok (.bipush 60, 2) := by decide +kernel
theorem dX9_codeOfSign_26 : decode cX9_codeOfSign 26 = .ok (.if_icmp .eq 21, 3) := by decide +kernel
theorem dX9_codeOfSign_29 : decode cX9_codeOfSign 29 = .ok (.iload_n 2, 1) := by decide +kernel
theorem dX9_codeOfSign_30 : decode cX9_codeOfSign 30 = .ok (.bipush 62, 2) := by decide +kernel
theorem dX9_codeOfSign_32 : decode cX9_codeOfSign 32 = .ok (.if_icmp .eq 15, 3) := by decide +kernel
theorem dX9_codeOfSign_35 : decode cX9_codeOfSign 35 = .ok (.iload_n 2, 1) := by decide +kernel
theorem dX9_codeOfSign_36 : decode cX9_codeOfSign 36 = .ok (.bipush 61, 2) := by decide +kernel
theorem dX9_codeOfSign_38 : decode cX9_codeOfSign 38 = .ok (.if_icmp .eq 9, 3) := by decide +kernel
theorem dX9_codeOfSign_41 : decode cX9_codeOfSign 41 = .ok (.iload_n 2, 1) := by decide +kernel
theorem dX9_codeOfSign_42 : decode cX9_codeOfSign 42 = .ok (.bipush 59, 2) := by decide +kernel
theorem dX9_codeOfSign_44 : decode cX9_codeOfSign 44 = .ok (.if_icmp .ne 7, 3) := by decide +kernel
theorem dX9_codeOfSign_47 : decode cX9_codeOfSign 47 = .ok (.iload_n 2, 1) := by decide +kernel
theorem dX9_codeOfSign_48 : decode cX9_codeOfSign 48 = .ok (.goto 4, 3) := by decide +kernel
theorem dX9_codeOfSign_51 : decode cX9_codeOfSign 51 = .ok (.iconst (-1), 1) := by decide +kernel
theorem dX9_codeOfSign_52 : decode cX9_codeOfSign 52 = .ok (.ireturn, 1) := by decide +kernel

theorem dX9_codeOfWord_0 : decode cX9_codeOfWord 0 = .ok (.iconst 0, 1) := by decide +kernel
theorem dX9_codeOfWord_1 : decode cX9_codeOfWord 1 = .ok (.istore_n 2, 1) := by decide +kernel
theorem dX9_codeOfWord_2 : decode cX9_codeOfWord 2 = .ok (.iload_n 2, 1) := by decide +kernel
theorem dX9_codeOfWord_3 : decode cX9_codeOfWord 3 = .ok (.bipush 13, 2) := by decide +kernel
theorem dX9_codeOfWord_5 : decode cX9_codeOfWord 5 = .ok (.if_icmp .ge 23, 3) := by decide +kernel
theorem dX9_codeOfWord_8 : decode cX9_codeOfWord 8 = .ok (.aload_n 0, 1) := by decide +kernel
theorem dX9_codeOfWord_9 : decode cX9_codeOfWord 9 = .ok (.iload_n 1, 1) := by decide +kernel
theorem dX9_codeOfWord_10 : decode cX9_codeOfWord 10 = .ok (.iload_n 2, 1) := by decide +kernel
theorem dX9_codeOfWord_11 : decode cX9_codeOfWord 11 = .ok (.invokestatic 64, 3) := by decide +kernel
theorem dX9_codeOfWord_14 : decode cX9_codeOfWord 14 = .ok (.invokevirtual 68, 3) := by decide +kernel
theorem dX9_codeOfWord_17 : decode cX9_codeOfWord 17 = .ok (.ifCond .eq 5, 3) := by decide +kernel
theorem dX9_codeOfWord_20 : decode cX9_codeOfWord 20 = .ok (.iload_n 2, 1) := by decide +kernel
theorem dX9_codeOfWord_21 : decode cX9_codeOfWord 21 = .ok (.ireturn, 1) := by decide +kernel
theorem dX9_codeOfWord_22 : decode cX9_codeOfWord 22 = .ok (.iinc 2 1, 3) := by decide +kernel
theorem dX9_codeOfWord_25 : decode cX9_codeOfWord 25 = .ok (.goto (-23), 3) := by decide +kernel
theorem dX9_codeOfWord_28 : decode cX9_codeOfWord 28 = .ok (.iconst (-1), 1) := by decide +kernel
theorem dX9_codeOfWord_29 : decode cX9_codeOfWord 29 = .ok (.ireturn, 1) := by decide +kernel

theorem dX9_hasRoomFor_0 : decode cX9_hasRoomFor 0 = .ok (.aload_n 0, 1) := by decide +kernel
theorem dX9_hasRoomFor_1 : decode cX9_hasRoomFor 1 = .ok (.getfield 22, 3) := by decide +kernel
theorem dX9_hasRoomFor_4 : decode cX9_hasRoomFor 4 = .ok (.sipush 600, 3) := by decide +kernel
theorem dX9_hasRoomFor_7 : decode cX9_hasRoomFor 7 = .ok (.iload_n 1, 1) := by decide +kernel
theorem dX9_hasRoomFor_8 : decode cX9_hasRoomFor 8 = .ok (.isub, 1) := by decide +kernel
theorem dX9_hasRoomFor_9 : decode cX9_hasRoomFor 9 = .ok (.if_icmp .gt 7, 3) := by decide +kernel
theorem dX9_hasRoomFor_12 : decode cX9_hasRoomFor 12 = .ok (.iconst 1, 1) := by decide +kernel
theorem dX9_hasRoomFor_13 : decode cX9_hasRoomFor 13 = .ok (.goto 4, 3) := by decide +kernel
theorem dX9_hasRoomFor_16 : decode cX9_hasRoomFor 16 = .ok (.iconst 0, 1) := by decide +kernel
theorem dX9_hasRoomFor_17 : decode cX9_hasRoomFor 17 = .ok (.ireturn, 1) := by decide +kernel

theorem dX9_hasToken_0 : decode cX9_hasToken 0 = .ok (.iload_n 1, 1) := by decide +kernel
theorem dX9_hasToken_1 : decode cX9_hasToken 1 = .ok (.ifCond .lt 15, 3) := by decide +kernel
theorem dX9_hasToken_4 : decode cX9_hasToken 4 = .ok (.iload_n 1, 1) := by decide +kernel
theorem dX9_hasToken_5 : decode cX9_hasToken 5 = .ok (.aload_n 0, 1) := by decide +kernel
theorem dX9_hasToken_6 : decode cX9_hasToken 6 = .ok (.getfield 42, 3) := by decide +kernel
theorem dX9_hasToken_9 : decode cX9_hasToken 9 = .ok (.if_icmp .ge 7, 3) := by decide +kernel
theorem dX9_hasToken_12 : decode cX9_hasToken 12 = .ok (.iconst 1, 1) := by decide +kernel
theorem dX9_hasToken_13 : decode cX9_hasToken 13 = .ok (.goto 4, 3) := by decide +kernel
theorem dX9_hasToken_16 : decode cX9_hasToken 16 = .ok (.iconst 0, 1) := by decide +kernel
theorem dX9_hasToken_17 : decode cX9_hasToken 17 = .ok (.ireturn, 1) := by decide +kernel

theorem dX9_init_0 : decode cX9_init 0 = .ok (.aload_n 0, 1) := by decide +kernel
theorem dX9_init_1 : decode cX9_init 1 = .ok (.invokespecial 3, 3) := by decide +kernel
theorem dX9_init_4 : decode cX9_init 4 = .ok (.aload_n 0, 1) := by decide +kernel
theorem dX9_init_5 : decode cX9_init 5 = .ok (.sipush 600, 3) := by decide +kernel
theorem dX9_init_8 : decode cX9_init 8 = .ok (.newarray .byte, 2) := by decide +kernel
theorem dX9_init_10 : decode cX9_init 10 = .ok (.putfield 11, 3) := by decide +kernel
theorem dX9_init_13 : decode cX9_init 13 = .ok (.aload_n 0, 1) := by decide +kernel
theorem dX9_init_14 : decode cX9_init 14 = .ok (.sipush 600, 3) := by decide +kernel
theorem dX9_init_17 : decode cX9_init 17 = .ok (.newarray .int, 2) := by decide +kernel
theorem dX9_init_19 : decode cX9_init 19 = .ok (.putfield 15, 3) := by decide +kernel
theorem dX9_init_22 : decode cX9_init 22 = .ok (.aload_n 0, 1) := by decide +kernel
theorem dX9_init_23 : decode cX9_init 23 = .ok (.sipush 600, 3) := by decide +kernel
theorem dX9_init_26 : decode cX9_init 26 = .ok (.newarray .int, 2) := by decide +kernel
theorem dX9_init_28 : decode cX9_init 28 = .ok (.putfield 19, 3) := by decide +kernel
theorem dX9_init_31 : decode cX9_init 31 = .ok (.return_, 1) := by decide +kernel

theorem dX9_isSpeltAt_0 : decode cX9_isSpeltAt 0 = .ok (.iload_n 1, 1) := by decide +kernel
theorem dX9_isSpeltAt_1 : decode cX9_isSpeltAt 1 = .ok (.aload_n 2, 1) := by decide +kernel
theorem dX9_isSpeltAt_2 : decode cX9_isSpeltAt 2 = .ok (.invokevirtual 98, 3) := by decide +kernel
theorem dX9_isSpeltAt_5 : decode cX9_isSpeltAt 5 = .ok (.iadd, 1) := by decide +kernel
theorem dX9_isSpeltAt_6 : decode cX9_isSpeltAt 6 = .ok (.istore_n 3, 1) := by decide +kernel
theorem dX9_isSpeltAt_7 : decode cX9_isSpeltAt 7 = .ok (.iload_n 1, 1) := by decide +kernel
theorem dX9_isSpeltAt_8 : decode cX9_isSpeltAt 8 = .ok (.ifCond .lt 19, 3) := by decide +kernel
theorem dX9_isSpeltAt_11 : decode cX9_isSpeltAt 11 = .ok (.iload_n 3, 1) := by decide +kernel
theorem dX9_isSpeltAt_12 : decode cX9_isSpeltAt 12 = .ok (.aload_n 0, 1) := by decide +kernel
theorem dX9_isSpeltAt_13 : decode cX9_isSpeltAt 13 = .ok (.getfield 39, 3) := by decide +kernel
theorem dX9_isSpeltAt_16 : decode cX9_isSpeltAt 16 = .ok (.if_icmp .gt 11, 3) := by decide +kernel
theorem dX9_isSpeltAt_19 : decode cX9_isSpeltAt 19 = .ok (.aload_n 0, 1) := by decide +kernel
theorem dX9_isSpeltAt_20 : decode cX9_isSpeltAt 20 = .ok (.iload_n 3, 1) := by decide +kernel
theorem dX9_isSpeltAt_21 : decode cX9_isSpeltAt 21 = .ok (.invokevirtual 52, 3) := by decide +kernel
theorem dX9_isSpeltAt_24 : decode cX9_isSpeltAt 24 = .ok (.ifCond .ne 5, 3) := by decide +kernel
theorem dX9_isSpeltAt_27 : decode cX9_isSpeltAt 27 = .ok (.iconst 0, 1) := by decide +kernel
theorem dX9_isSpeltAt_28 : decode cX9_isSpeltAt 28 = .ok (.ireturn, 1) := by decide +kernel
theorem dX9_isSpeltAt_29 : decode cX9_isSpeltAt 29 = .ok (.iconst 0, 1) := by decide +kernel
theorem dX9_isSpeltAt_30 : decode cX9_isSpeltAt 30 = .ok (.istore 4, 2) := by decide +kernel
theorem dX9_isSpeltAt_32 : decode cX9_isSpeltAt 32 = .ok (.iload 4, 2) := by decide +kernel
theorem dX9_isSpeltAt_34 : decode cX9_isSpeltAt 34 = .ok (.aload_n 2, 1) := by decide +kernel
theorem dX9_isSpeltAt_35 : decode cX9_isSpeltAt 35 = .ok (.invokevirtual 98, 3) := by decide +kernel
theorem dX9_isSpeltAt_38 : decode cX9_isSpeltAt 38 = .ok (.if_icmp .ge 29, 3) := by decide +kernel
theorem dX9_isSpeltAt_41 : decode cX9_isSpeltAt 41 = .ok (.aload_n 0, 1) := by decide +kernel
theorem dX9_isSpeltAt_42 : decode cX9_isSpeltAt 42 = .ok (.getfield 11, 3) := by decide +kernel
theorem dX9_isSpeltAt_45 : decode cX9_isSpeltAt 45 = .ok (.iload_n 1, 1) := by decide +kernel
theorem dX9_isSpeltAt_46 : decode cX9_isSpeltAt 46 = .ok (.iload 4, 2) := by decide +kernel
theorem dX9_isSpeltAt_48 : decode cX9_isSpeltAt 48 = .ok (.iadd, 1) := by decide +kernel
theorem dX9_isSpeltAt_49 : decode cX9_isSpeltAt 49 = .ok (.baload, 1) := by decide +kernel
theorem dX9_isSpeltAt_50 : decode cX9_isSpeltAt 50 = .ok (.aload_n 2, 1) := by decide +kernel
theorem dX9_isSpeltAt_51 : decode cX9_isSpeltAt 51 = .ok (.iload 4, 2) := by decide +kernel
theorem dX9_isSpeltAt_53 : decode cX9_isSpeltAt 53 = .ok (.invokevirtual 104, 3) := by decide +kernel
theorem dX9_isSpeltAt_56 : decode cX9_isSpeltAt 56 = .ok (.if_icmp .eq 5, 3) := by decide +kernel
theorem dX9_isSpeltAt_59 : decode cX9_isSpeltAt 59 = .ok (.iconst 0, 1) := by decide +kernel
theorem dX9_isSpeltAt_60 : decode cX9_isSpeltAt 60 = .ok (.ireturn, 1) := by decide +kernel
theorem dX9_isSpeltAt_61 : decode cX9_isSpeltAt 61 = .ok (.iinc 4 1, 3) := by decide +kernel
theorem dX9_isSpeltAt_64 : decode cX9_isSpeltAt 64 = .ok (.goto (-32), 3) := by decide +kernel
theorem dX9_isSpeltAt_67 : decode cX9_isSpeltAt 67 = .ok (.iconst 1, 1) := by decide +kernel
theorem dX9_isSpeltAt_68 : decode cX9_isSpeltAt 68 = .ok (.ireturn, 1) := by decide +kernel

theorem dX9_kindAt_0 : decode cX9_kindAt 0 = .ok (.iload_n 1, 1) := by decide +kernel
theorem dX9_kindAt_1 : decode cX9_kindAt 1 = .ok (.ifCond .lt 20, 3) := by decide +kernel
theorem dX9_kindAt_4 : decode cX9_kindAt 4 = .ok (.iload_n 1, 1) := by decide +kernel
theorem dX9_kindAt_5 : decode cX9_kindAt 5 = .ok (.aload_n 0, 1) := by decide +kernel
theorem dX9_kindAt_6 : decode cX9_kindAt 6 = .ok (.getfield 39, 3) := by decide +kernel
theorem dX9_kindAt_9 : decode cX9_kindAt 9 = .ok (.if_icmp .ge 12, 3) := by decide +kernel
theorem dX9_kindAt_12 : decode cX9_kindAt 12 = .ok (.aload_n 0, 1) := by decide +kernel
theorem dX9_kindAt_13 : decode cX9_kindAt 13 = .ok (.getfield 11, 3) := by decide +kernel
theorem dX9_kindAt_16 : decode cX9_kindAt 16 = .ok (.iload_n 1, 1) := by decide +kernel
theorem dX9_kindAt_17 : decode cX9_kindAt 17 = .ok (.baload, 1) := by decide +kernel
theorem dX9_kindAt_18 : decode cX9_kindAt 18 = .ok (.goto 5, 3) := by decide +kernel
theorem dX9_kindAt_21 : decode cX9_kindAt 21 = .ok (.bipush 32, 2) := by decide +kernel
theorem dX9_kindAt_23 : decode cX9_kindAt 23 = .ok (.istore_n 2, 1) := by decide +kernel
theorem dX9_kindAt_24 : decode cX9_kindAt 24 = .ok (.iload_n 2, 1) := by decide +kernel
theorem dX9_kindAt_25 : decode cX9_kindAt 25 = .ok (.bipush 32, 2) := by decide +kernel
theorem dX9_kindAt_27 : decode cX9_kindAt 27 = .ok (.if_icmp .eq 9, 3) := by decide +kernel
theorem dX9_kindAt_30 : decode cX9_kindAt 30 = .ok (.iload_n 2, 1) := by decide +kernel
theorem dX9_kindAt_31 : decode cX9_kindAt 31 = .ok (.bipush 10, 2) := by decide +kernel
theorem dX9_kindAt_33 : decode cX9_kindAt 33 = .ok (.if_icmp .ne 5, 3) := by decide +kernel
theorem dX9_kindAt_36 : decode cX9_kindAt 36 = .ok (.iconst 3, 1) := by decide +kernel
theorem dX9_kindAt_37 : decode cX9_kindAt 37 = .ok (.ireturn, 1) := by decide +kernel
theorem dX9_kindAt_38 : decode cX9_kindAt 38 = .ok (.iload_n 2, 1) := by decide +kernel
theorem dX9_kindAt_39 : decode cX9_kindAt 39 = .ok (.bipush 97, 2) := by decide +kernel
theorem dX9_kindAt_41 : decode cX9_kindAt 41 = .ok (.if_icmp .lt 11, 3) := by decide +kernel
theorem dX9_kindAt_44 : decode cX9_kindAt 44 = .ok (.iload_n 2, 1) := by decide +kernel
theorem dX9_kindAt_45 : decode cX9_kindAt 45 = .ok (.bipush 122, 2) := by decide +kernel
theorem dX9_kindAt_47 : decode cX9_kindAt 47 = .ok (.if_icmp .gt 5, 3) := by decide +kernel
theorem dX9_kindAt_50 : decode cX9_kindAt 50 = .ok (.iconst 0, 1) := by decide +kernel
theorem dX9_kindAt_51 : decode cX9_kindAt 51 = .ok (.ireturn, 1) := by decide +kernel
theorem dX9_kindAt_52 : decode cX9_kindAt 52 = .ok (.iload_n 2, 1) := by decide +kernel
theorem dX9_kindAt_53 : decode cX9_kindAt 53 = .ok (.bipush 48, 2) := by decide +kernel
theorem dX9_kindAt_55 : decode cX9_kindAt 55 = .ok (.if_icmp .lt 13, 3) := by decide +kernel
theorem dX9_kindAt_58 : decode cX9_kindAt 58 = .ok (.iload_n 2, 1) := by decide +kernel
theorem dX9_kindAt_59 : decode cX9_kindAt 59 = .ok (.bipush 57, 2) := by decide +kernel
theorem dX9_kindAt_61 : decode cX9_kindAt 61 = .ok (.if_icmp .gt 7, 3) := by decide +kernel
theorem dX9_kindAt_64 : decode cX9_kindAt 64 = .ok (.iconst 1, 1) := by decide +kernel
theorem dX9_kindAt_65 : decode cX9_kindAt 65 = .ok (.goto 4, 3) := by decide +kernel
theorem dX9_kindAt_68 : decode cX9_kindAt 68 = .ok (.iconst 2, 1) := by decide +kernel
theorem dX9_kindAt_69 : decode cX9_kindAt 69 = .ok (.ireturn, 1) := by decide +kernel

theorem dX9_placeOf_0 : decode cX9_placeOf 0 = .ok (.aload_n 0, 1) := by decide +kernel
theorem dX9_placeOf_1 : decode cX9_placeOf 1 = .ok (.iload_n 1, 1) := by decide +kernel
theorem dX9_placeOf_2 : decode cX9_placeOf 2 = .ok (.invokevirtual 108, 3) := by decide +kernel
theorem dX9_placeOf_5 : decode cX9_placeOf 5 = .ok (.ifCond .eq 12, 3) := by decide +kernel
theorem dX9_placeOf_8 : decode cX9_placeOf 8 = .ok (.aload_n 0, 1) := by decide +kernel
theorem dX9_placeOf_9 : decode cX9_placeOf 9 = .ok (.getfield 15, 3) := by decide +kernel
theorem dX9_placeOf_12 : decode cX9_placeOf 12 = .ok (.iload_n 1, 1) := by decide +kernel
theorem dX9_placeOf_13 : decode cX9_placeOf 13 = .ok (.iaload, 1) := by decide +kernel
theorem dX9_placeOf_14 : decode cX9_placeOf 14 = .ok (.goto 7, 3) := by decide +kernel
theorem dX9_placeOf_17 : decode cX9_placeOf 17 = .ok (.aload_n 0, 1) := by decide +kernel
theorem dX9_placeOf_18 : decode cX9_placeOf 18 = .ok (.getfield 39, 3) := by decide +kernel
theorem dX9_placeOf_21 : decode cX9_placeOf 21 = .ok (.ireturn, 1) := by decide +kernel

theorem dX9_splitFirst_0 : decode cX9_splitFirst 0 = .ok (.aload_n 0, 1) := by decide +kernel
theorem dX9_splitFirst_1 : decode cX9_splitFirst 1 = .ok (.iconst 0, 1) := by decide +kernel
theorem dX9_splitFirst_2 : decode cX9_splitFirst 2 = .ok (.iload_n 1, 1) := by decide +kernel
theorem dX9_splitFirst_3 : decode cX9_splitFirst 3 = .ok (.aload_n 0, 1) := by decide +kernel
theorem dX9_splitFirst_4 : decode cX9_splitFirst 4 = .ok (.getfield 22, 3) := by decide +kernel
theorem dX9_splitFirst_7 : decode cX9_splitFirst 7 = .ok (.invokestatic 30, 3) := by decide +kernel
theorem dX9_splitFirst_10 : decode cX9_splitFirst 10 = .ok (.invokestatic 36, 3) := by decide +kernel
theorem dX9_splitFirst_13 : decode cX9_splitFirst 13 = .ok (.putfield 39, 3) := by decide +kernel
theorem dX9_splitFirst_16 : decode cX9_splitFirst 16 = .ok (.aload_n 0, 1) := by decide +kernel
theorem dX9_splitFirst_17 : decode cX9_splitFirst 17 = .ok (.iconst 0, 1) := by decide +kernel
theorem dX9_splitFirst_18 : decode cX9_splitFirst 18 = .ok (.putfield 42, 3) := by decide +kernel
theorem dX9_splitFirst_21 : decode cX9_splitFirst 21 = .ok (.iconst 0, 1) := by decide +kernel
theorem dX9_splitFirst_22 : decode cX9_splitFirst 22 = .ok (.istore_n 2, 1) := by decide +kernel
theorem dX9_splitFirst_23 : decode cX9_splitFirst 23 = .ok (.iload_n 2, 1) := by decide +kernel
theorem dX9_splitFirst_24 : decode cX9_splitFirst 24 = .ok (.aload_n 0, 1) := by decide +kernel
theorem dX9_splitFirst_25 : decode cX9_splitFirst 25 = .ok (.getfield 39, 3) := by decide +kernel
theorem dX9_splitFirst_28 : decode cX9_splitFirst 28 = .ok (.if_icmp .ge 51, 3) := by decide +kernel
theorem dX9_splitFirst_31 : decode cX9_splitFirst 31 = .ok (.aload_n 0, 1) := by decide +kernel
theorem dX9_splitFirst_32 : decode cX9_splitFirst 32 = .ok (.iload_n 2, 1) := by decide +kernel
theorem dX9_splitFirst_33 : decode cX9_splitFirst 33 = .ok (.invokevirtual 45, 3) := by decide +kernel
theorem dX9_splitFirst_36 : decode cX9_splitFirst 36 = .ok (.ifCond .eq 37, 3) := by decide +kernel
theorem dX9_splitFirst_39 : decode cX9_splitFirst 39 = .ok (.aload_n 0, 1) := by decide +kernel
theorem dX9_splitFirst_40 : decode cX9_splitFirst 40 = .ok (.getfield 15, 3) := by decide +kernel
theorem dX9_splitFirst_43 : decode cX9_splitFirst 43 = .ok (.aload_n 0, 1) := by decide +kernel
theorem dX9_splitFirst_44 : decode cX9_splitFirst 44 = .ok (.getfield 42, 3) := by decide +kernel
theorem dX9_splitFirst_47 : decode cX9_splitFirst 47 = .ok (.iload_n 2, 1) := by decide +kernel
theorem dX9_splitFirst_48 : decode cX9_splitFirst 48 = .ok (.iastore, 1) := by decide +kernel
theorem dX9_splitFirst_49 : decode cX9_splitFirst 49 = .ok (.aload_n 0, 1) := by decide +kernel
theorem dX9_splitFirst_50 : decode cX9_splitFirst 50 = .ok (.getfield 19, 3) := by decide +kernel
theorem dX9_splitFirst_53 : decode cX9_splitFirst 53 = .ok (.aload_n 0, 1) := by decide +kernel
theorem dX9_splitFirst_54 : decode cX9_splitFirst 54 = .ok (.getfield 42, 3) := by decide +kernel
theorem dX9_splitFirst_57 : decode cX9_splitFirst 57 = .ok (.aload_n 0, 1) := by decide +kernel
theorem dX9_splitFirst_58 : decode cX9_splitFirst 58 = .ok (.iload_n 2, 1) := by decide +kernel
theorem dX9_splitFirst_59 : decode cX9_splitFirst 59 = .ok (.invokevirtual 48, 3) := by decide +kernel
theorem dX9_splitFirst_62 : decode cX9_splitFirst 62 = .ok (.iastore, 1) := by decide +kernel
theorem dX9_splitFirst_63 : decode cX9_splitFirst 63 = .ok (.aload_n 0, 1) := by decide +kernel
theorem dX9_splitFirst_64 : decode cX9_splitFirst 64 = .ok (.dup, 1) := by decide +kernel
theorem dX9_splitFirst_65 : decode cX9_splitFirst 65 = .ok (.getfield 42, 3) := by decide +kernel
theorem dX9_splitFirst_68 : decode cX9_splitFirst 68 = .ok (.iconst 1, 1) := by decide +kernel
theorem dX9_splitFirst_69 : decode cX9_splitFirst 69 = .ok (.iadd, 1) := by decide +kernel
theorem dX9_splitFirst_70 : decode cX9_splitFirst 70 = .ok (.putfield 42, 3) := by decide +kernel
theorem dX9_splitFirst_73 : decode cX9_splitFirst 73 = .ok (.iinc 2 1, 3) := by decide +kernel
theorem dX9_splitFirst_76 : decode cX9_splitFirst 76 = .ok (.goto (-53), 3) := by decide +kernel
theorem dX9_splitFirst_79 : decode cX9_splitFirst 79 = .ok (.return_, 1) := by decide +kernel

theorem dX9_wordOf_0 : decode cX9_wordOf 0 = .ok (.iload_n 0, 1) := by decide +kernel
theorem dX9_wordOf_1 : decode cX9_wordOf 1 = .ok (.tableswitch 99 0 11 #[63, 66, 69, 72, 75, 78, 81, 84, 87, 90, 93, 96], 63) := by decide +kernel
theorem dX9_wordOf_64 : decode cX9_wordOf 64 = .ok (.ldc 72, 2) := by decide +kernel
theorem dX9_wordOf_66 : decode cX9_wordOf 66 = .ok (.areturn, 1) := by decide +kernel
theorem dX9_wordOf_67 : decode cX9_wordOf 67 = .ok (.ldc 74, 2) := by decide +kernel
theorem dX9_wordOf_69 : decode cX9_wordOf 69 = .ok (.areturn, 1) := by decide +kernel
theorem dX9_wordOf_70 : decode cX9_wordOf 70 = .ok (.ldc 76, 2) := by decide +kernel
theorem dX9_wordOf_72 : decode cX9_wordOf 72 = .ok (.areturn, 1) := by decide +kernel
theorem dX9_wordOf_73 : decode cX9_wordOf 73 = .ok (.ldc 78, 2) := by decide +kernel
theorem dX9_wordOf_75 : decode cX9_wordOf 75 = .ok (.areturn, 1) := by decide +kernel
theorem dX9_wordOf_76 : decode cX9_wordOf 76 = .ok (.ldc 80, 2) := by decide +kernel
theorem dX9_wordOf_78 : decode cX9_wordOf 78 = .ok (.areturn, 1) := by decide +kernel
theorem dX9_wordOf_79 : decode cX9_wordOf 79 = .ok (.ldc 82, 2) := by decide +kernel
theorem dX9_wordOf_81 : decode cX9_wordOf 81 = .ok (.areturn, 1) := by decide +kernel
theorem dX9_wordOf_82 : decode cX9_wordOf 82 = .ok (.ldc 84, 2) := by decide +kernel
theorem dX9_wordOf_84 : decode cX9_wordOf 84 = .ok (.areturn, 1) := by decide +kernel
theorem dX9_wordOf_85 : decode cX9_wordOf 85 = .ok (.ldc 86, 2) := by decide +kernel
theorem dX9_wordOf_87 : decode cX9_wordOf 87 = .ok (.areturn, 1) := by decide +kernel
theorem dX9_wordOf_88 : decode cX9_wordOf 88 = .ok (.ldc 88, 2) := by decide +kernel
theorem dX9_wordOf_90 : decode cX9_wordOf 90 = .ok (.areturn, 1) := by decide +kernel
theorem dX9_wordOf_91 : decode cX9_wordOf 91 = .ok (.ldc 90, 2) := by decide +kernel
theorem dX9_wordOf_93 : decode cX9_wordOf 93 = .ok (.areturn, 1) := by decide +kernel
theorem dX9_wordOf_94 : decode cX9_wordOf 94 = .ok (.ldc 92, 2) := by decide +kernel
theorem dX9_wordOf_96 : decode cX9_wordOf 96 = .ok (.areturn, 1) := by decide +kernel
theorem dX9_wordOf_97 : decode cX9_wordOf 97 = .ok (.ldc 94, 2) := by decide +kernel
theorem dX9_wordOf_99 : decode cX9_wordOf 99 = .ok (.areturn, 1) := by decide +kernel
theorem dX9_wordOf_100 : decode cX9_wordOf 100 = .ok (.ldc 96, 2) := by decide +kernel
theorem dX9_wordOf_102 : decode cX9_wordOf 102 = .ok (.areturn, 1) := by decide +kernel
