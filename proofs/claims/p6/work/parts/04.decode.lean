theorem dX10_has_0 : decode cX10_has 0 = .ok (.iload_n 1, 1) := by decide +kernel
theorem dX10_has_1 : decode cX10_has 1 = .ok (.ifCond .lt 15, 3) := by decide +kernel
theorem dX10_has_4 : decode cX10_has 4 = .ok (.iload_n 1, 1) := by decide +kernel
theorem dX10_has_5 : decode cX10_has 5 = .ok (.aload_n 0, 1) := by decide +kernel
theorem dX10_has_6 : decode cX10_has 6 = .ok (.getfield 37, 3) := by decide +kernel
theorem dX10_has_9 : decode cX10_has 9 = .ok (.if_icmp .ge 7, 3) := by decide +kernel
theorem dX10_has_12 : decode cX10_has 12 = .ok (.iconst 1, 1) := by decide +kernel
theorem dX10_has_13 : decode cX10_has 13 = .ok (.goto 4, 3) := by decide +kernel
theorem dX10_has_16 : decode cX10_has 16 = .ok (.iconst 0, 1) := by decide +kernel
theorem dX10_has_17 : decode cX10_has 17 = .ok (.ireturn, 1) := by decide +kernel

theorem dX10_hasTube_0 : decode cX10_hasTube 0 = .ok (.iload_n 1, 1) := by decide +kernel
theorem dX10_hasTube_1 : decode cX10_hasTube 1 = .ok (.ifCond .eq 15, 3) := by decide +kernel
theorem dX10_hasTube_4 : decode cX10_hasTube 4 = .ok (.aload_n 0, 1) := by decide +kernel
theorem dX10_hasTube_5 : decode cX10_hasTube 5 = .ok (.iload_n 1, 1) := by decide +kernel
theorem dX10_hasTube_6 : decode cX10_hasTube 6 = .ok (.invokevirtual 41, 3) := by decide +kernel
theorem dX10_hasTube_9 : decode cX10_hasTube 9 = .ok (.ifCond .eq 7, 3) := by decide +kernel
theorem dX10_hasTube_12 : decode cX10_hasTube 12 = .ok (.iconst 1, 1) := by decide +kernel
theorem dX10_hasTube_13 : decode cX10_hasTube 13 = .ok (.goto 4, 3) := by decide +kernel
theorem dX10_hasTube_16 : decode cX10_hasTube 16 = .ok (.iconst 0, 1) := by decide +kernel
theorem dX10_hasTube_17 : decode cX10_hasTube 17 = .ok (.ireturn, 1) := by decide +kernel

theorem dX10_readingAhead_0 : decode cX10_readingAhead 0 = .ok (.aload_n 0, 1) := by decide +kernel
theorem dX10_readingAhead_1 : decode cX10_readingAhead 1 = .ok (.getfield 9, 3) := by decide +kernel
theorem dX10_readingAhead_4 : decode cX10_readingAhead 4 = .ok (.iload_n 1, 1) := by decide +kernel
theorem dX10_readingAhead_5 : decode cX10_readingAhead 5 = .ok (.iaload, 1) := by decide +kernel
theorem dX10_readingAhead_6 : decode cX10_readingAhead 6 = .ok (.istore_n 2, 1) := by decide +kernel
theorem dX10_readingAhead_7 : decode cX10_readingAhead 7 = .ok (.iconst 0, 1) := by decide +kernel
theorem dX10_readingAhead_8 : decode cX10_readingAhead 8 = .ok (.istore_n 3, 1) := by decide +kernel
theorem dX10_readingAhead_9 : decode cX10_readingAhead 9 = .ok (.iload_n 3, 1) := by decide +kernel
theorem dX10_readingAhead_10 : decode cX10_readingAhead 10 = .ok (.bipush 40, 2) := by decide +kernel
theorem dX10_readingAhead_12 : decode cX10_readingAhead 12 = .ok (.if_icmp .ge 41, 3) := by decide +kernel
theorem dX10_readingAhead_15 : decode cX10_readingAhead 15 = .ok (.aload_n 0, 1) := by decide +kernel
theorem dX10_readingAhead_16 : decode cX10_readingAhead 16 = .ok (.iload_n 2, 1) := by decide +kernel
theorem dX10_readingAhead_17 : decode cX10_readingAhead 17 = .ok (.invokevirtual 45, 3) := by decide +kernel
theorem dX10_readingAhead_20 : decode cX10_readingAhead 20 = .ok (.ifCond .eq 33, 3) := by decide +kernel
theorem dX10_readingAhead_23 : decode cX10_readingAhead 23 = .ok (.aload_n 0, 1) := by decide +kernel
theorem dX10_readingAhead_24 : decode cX10_readingAhead 24 = .ok (.getfield 34, 3) := by decide +kernel
theorem dX10_readingAhead_27 : decode cX10_readingAhead 27 = .ok (.iload_n 2, 1) := by decide +kernel
theorem dX10_readingAhead_28 : decode cX10_readingAhead 28 = .ok (.iaload, 1) := by decide +kernel
theorem dX10_readingAhead_29 : decode cX10_readingAhead 29 = .ok (.iconst (-1), 1) := by decide +kernel
theorem dX10_readingAhead_30 : decode cX10_readingAhead 30 = .ok (.if_icmp .eq 10, 3) := by decide +kernel
theorem dX10_readingAhead_33 : decode cX10_readingAhead 33 = .ok (.aload_n 0, 1) := by decide +kernel
theorem dX10_readingAhead_34 : decode cX10_readingAhead 34 = .ok (.getfield 34, 3) := by decide +kernel
theorem dX10_readingAhead_37 : decode cX10_readingAhead 37 = .ok (.iload_n 2, 1) := by decide +kernel
theorem dX10_readingAhead_38 : decode cX10_readingAhead 38 = .ok (.iaload, 1) := by decide +kernel
theorem dX10_readingAhead_39 : decode cX10_readingAhead 39 = .ok (.ireturn, 1) := by decide +kernel
theorem dX10_readingAhead_40 : decode cX10_readingAhead 40 = .ok (.aload_n 0, 1) := by decide +kernel
theorem dX10_readingAhead_41 : decode cX10_readingAhead 41 = .ok (.getfield 9, 3) := by decide +kernel
theorem dX10_readingAhead_44 : decode cX10_readingAhead 44 = .ok (.iload_n 2, 1) := by decide +kernel
theorem dX10_readingAhead_45 : decode cX10_readingAhead 45 = .ok (.iaload, 1) := by decide +kernel
theorem dX10_readingAhead_46 : decode cX10_readingAhead 46 = .ok (.istore_n 2, 1) := by decide +kernel
theorem dX10_readingAhead_47 : decode cX10_readingAhead 47 = .ok (.iinc 3 1, 3) := by decide +kernel
theorem dX10_readingAhead_50 : decode cX10_readingAhead 50 = .ok (.goto (-41), 3) := by decide +kernel
theorem dX10_readingAhead_53 : decode cX10_readingAhead 53 = .ok (.aload_n 0, 1) := by decide +kernel
theorem dX10_readingAhead_54 : decode cX10_readingAhead 54 = .ok (.getfield 31, 3) := by decide +kernel
theorem dX10_readingAhead_57 : decode cX10_readingAhead 57 = .ok (.iconst 0, 1) := by decide +kernel
theorem dX10_readingAhead_58 : decode cX10_readingAhead 58 = .ok (.iaload, 1) := by decide +kernel
theorem dX10_readingAhead_59 : decode cX10_readingAhead 59 = .ok (.ireturn, 1) := by decide +kernel

theorem dX10_settleVacuum_0 : decode cX10_settleVacuum 0 = .ok (.iconst 1, 1) := by decide +kernel
theorem dX10_settleVacuum_1 : decode cX10_settleVacuum 1 = .ok (.istore_n 1, 1) := by decide +kernel
theorem dX10_settleVacuum_2 : decode cX10_settleVacuum 2 = .ok (.iload_n 1, 1) := by decide +kernel
theorem dX10_settleVacuum_3 : decode cX10_settleVacuum 3 = .ok (.aload_n 0, 1) := by decide +kernel
theorem dX10_settleVacuum_4 : decode cX10_settleVacuum 4 = .ok (.getfield 37, 3) := by decide +kernel
theorem dX10_settleVacuum_7 : decode cX10_settleVacuum 7 = .ok (.if_icmp .ge 36, 3) := by decide +kernel
theorem dX10_settleVacuum_10 : decode cX10_settleVacuum 10 = .ok (.aload_n 0, 1) := by decide +kernel
theorem dX10_settleVacuum_11 : decode cX10_settleVacuum 11 = .ok (.getfield 31, 3) := by decide +kernel
theorem dX10_settleVacuum_14 : decode cX10_settleVacuum 14 = .ok (.iload_n 1, 1) := by decide +kernel
theorem dX10_settleVacuum_15 : decode cX10_settleVacuum 15 = .ok (.iconst 0, 1) := by decide +kernel
theorem dX10_settleVacuum_16 : decode cX10_settleVacuum 16 = .ok (.aload_n 0, 1) := by decide +kernel
theorem dX10_settleVacuum_17 : decode cX10_settleVacuum 17 = .ok (.aload_n 0, 1) := by decide +kernel
theorem dX10_settleVacuum_18 : decode cX10_settleVacuum 18 = .ok (.getfield 9, 3) := by decide +kernel
theorem dX10_settleVacuum_21 : decode cX10_settleVacuum 21 = .ok (.iload_n 1, 1) := by decide +kernel
theorem dX10_settleVacuum_22 : decode cX10_settleVacuum 22 = .ok (.iaload, 1) := by decide +kernel
theorem dX10_settleVacuum_23 : decode cX10_settleVacuum 23 = .ok (.invokevirtual 51, 3) := by decide +kernel
theorem dX10_settleVacuum_26 : decode cX10_settleVacuum 26 = .ok (.aload_n 0, 1) := by decide +kernel
theorem dX10_settleVacuum_27 : decode cX10_settleVacuum 27 = .ok (.getfield 28, 3) := by decide +kernel
theorem dX10_settleVacuum_30 : decode cX10_settleVacuum 30 = .ok (.iload_n 1, 1) := by decide +kernel
theorem dX10_settleVacuum_31 : decode cX10_settleVacuum 31 = .ok (.iaload, 1) := by decide +kernel
theorem dX10_settleVacuum_32 : decode cX10_settleVacuum 32 = .ok (.isub, 1) := by decide +kernel
theorem dX10_settleVacuum_33 : decode cX10_settleVacuum 33 = .ok (.invokestatic 55, 3) := by decide +kernel
theorem dX10_settleVacuum_36 : decode cX10_settleVacuum 36 = .ok (.iastore, 1) := by decide +kernel
theorem dX10_settleVacuum_37 : decode cX10_settleVacuum 37 = .ok (.iinc 1 1, 3) := by decide +kernel
theorem dX10_settleVacuum_40 : decode cX10_settleVacuum 40 = .ok (.goto (-38), 3) := by decide +kernel
theorem dX10_settleVacuum_43 : decode cX10_settleVacuum 43 = .ok (.return_, 1) := by decide +kernel

theorem dX10_vacuumAt_0 : decode cX10_vacuumAt 0 = .ok (.aload_n 0, 1) := by decide +kernel
theorem dX10_vacuumAt_1 : decode cX10_vacuumAt 1 = .ok (.iload_n 1, 1) := by decide +kernel
theorem dX10_vacuumAt_2 : decode cX10_vacuumAt 2 = .ok (.invokevirtual 41, 3) := by decide +kernel
theorem dX10_vacuumAt_5 : decode cX10_vacuumAt 5 = .ok (.ifCond .eq 12, 3) := by decide +kernel
theorem dX10_vacuumAt_8 : decode cX10_vacuumAt 8 = .ok (.aload_n 0, 1) := by decide +kernel
theorem dX10_vacuumAt_9 : decode cX10_vacuumAt 9 = .ok (.getfield 31, 3) := by decide +kernel
theorem dX10_vacuumAt_12 : decode cX10_vacuumAt 12 = .ok (.iload_n 1, 1) := by decide +kernel
theorem dX10_vacuumAt_13 : decode cX10_vacuumAt 13 = .ok (.iaload, 1) := by decide +kernel
theorem dX10_vacuumAt_14 : decode cX10_vacuumAt 14 = .ok (.goto 4, 3) := by decide +kernel
theorem dX10_vacuumAt_17 : decode cX10_vacuumAt 17 = .ok (.iconst 0, 1) := by decide +kernel
theorem dX10_vacuumAt_18 : decode cX10_vacuumAt 18 = .ok (.ireturn, 1) := by decide +kernel

theorem dX11_isMember_0 : decode cX11_isMember 0 = .ok (.iload_n 0, 1) := by decide +kernel
theorem dX11_isMember_1 : decode cX11_isMember 1 = .ok (.iconst 0, 1) := by decide +kernel
theorem dX11_isMember_2 : decode cX11_isMember 2 = .ok (.bipush 9, 2) := by decide +kernel
theorem dX11_isMember_4 : decode cX11_isMember 4 = .ok (.invokestatic 103, 3) := by decide +kernel
theorem dX11_isMember_7 : decode cX11_isMember 7 = .ok (.ireturn, 1) := by decide +kernel

theorem dX11_isWeather_0 : decode cX11_isWeather 0 = .ok (.iload_n 0, 1) := by decide +kernel
theorem dX11_isWeather_1 : decode cX11_isWeather 1 = .ok (.bipush (-30), 2) := by decide +kernel
theorem dX11_isWeather_3 : decode cX11_isWeather 3 = .ok (.bipush 30, 2) := by decide +kernel
theorem dX11_isWeather_5 : decode cX11_isWeather 5 = .ok (.invokestatic 103, 3) := by decide +kernel
theorem dX11_isWeather_8 : decode cX11_isWeather 8 = .ok (.ifCond .eq 23, 3) := by decide +kernel
theorem dX11_isWeather_11 : decode cX11_isWeather 11 = .ok (.iload_n 1, 1) := by decide +kernel
theorem dX11_isWeather_12 : decode cX11_isWeather 12 = .ok (.bipush (-30), 2) := by decide +kernel
theorem dX11_isWeather_14 : decode cX11_isWeather 14 = .ok (.bipush 40, 2) := by decide +kernel
theorem dX11_isWeather_16 : decode cX11_isWeather 16 = .ok (.invokestatic 103, 3) := by decide +kernel
theorem dX11_isWeather_19 : decode cX11_isWeather 19 = .ok (.ifCond .eq 12, 3) := by decide +kernel
theorem dX11_isWeather_22 : decode cX11_isWeather 22 = .ok (.iload_n 1, 1) := by decide +kernel
theorem dX11_isWeather_23 : decode cX11_isWeather 23 = .ok (.iload_n 0, 1) := by decide +kernel
theorem dX11_isWeather_24 : decode cX11_isWeather 24 = .ok (.if_icmp .lt 7, 3) := by decide +kernel
theorem dX11_isWeather_27 : decode cX11_isWeather 27 = .ok (.iconst 1, 1) := by decide +kernel
theorem dX11_isWeather_28 : decode cX11_isWeather 28 = .ok (.goto 4, 3) := by decide +kernel
theorem dX11_isWeather_31 : decode cX11_isWeather 31 = .ok (.iconst 0, 1) := by decide +kernel
theorem dX11_isWeather_32 : decode cX11_isWeather 32 = .ok (.ireturn, 1) := by decide +kernel

theorem dX11_isWithin_0 : decode cX11_isWithin 0 = .ok (.iload_n 0, 1) := by decide +kernel
theorem dX11_isWithin_1 : decode cX11_isWithin 1 = .ok (.iload_n 1, 1) := by decide +kernel
theorem dX11_isWithin_2 : decode cX11_isWithin 2 = .ok (.if_icmp .lt 12, 3) := by decide +kernel
theorem dX11_isWithin_5 : decode cX11_isWithin 5 = .ok (.iload_n 0, 1) := by decide +kernel
theorem dX11_isWithin_6 : decode cX11_isWithin 6 = .ok (.iload_n 2, 1) := by decide +kernel
theorem dX11_isWithin_7 : decode cX11_isWithin 7 = .ok (.if_icmp .gt 7, 3) := by decide +kernel
theorem dX11_isWithin_10 : decode cX11_isWithin 10 = .ok (.iconst 1, 1) := by decide +kernel
theorem dX11_isWithin_11 : decode cX11_isWithin 11 = .ok (.goto 4, 3) := by decide +kernel
theorem dX11_isWithin_14 : decode cX11_isWithin 14 = .ok (.iconst 0, 1) := by decide +kernel
theorem dX11_isWithin_15 : decode cX11_isWithin 15 = .ok (.ireturn, 1) := by decide +kernel

theorem dX12_isIn_0 : decode cX12_isIn 0 = .ok (.iload_n 0, 1) := by decide +kernel
theorem dX12_isIn_1 : decode cX12_isIn 1 = .ok (.iload_n 1, 1) := by decide +kernel
theorem dX12_isIn_2 : decode cX12_isIn 2 = .ok (.if_icmp .lt 12, 3) := by decide +kernel
theorem dX12_isIn_5 : decode cX12_isIn 5 = .ok (.iload_n 0, 1) := by decide +kernel
theorem dX12_isIn_6 : decode cX12_isIn 6 = .ok (.iload_n 2, 1) := by decide +kernel
theorem dX12_isIn_7 : decode cX12_isIn 7 = .ok (.if_icmp .gt 7, 3) := by decide +kernel
theorem dX12_isIn_10 : decode cX12_isIn 10 = .ok (.iconst 1, 1) := by decide +kernel
theorem dX12_isIn_11 : decode cX12_isIn 11 = .ok (.goto 4, 3) := by decide +kernel
theorem dX12_isIn_14 : decode cX12_isIn 14 = .ok (.iconst 0, 1) := by decide +kernel
theorem dX12_isIn_15 : decode cX12_isIn 15 = .ok (.ireturn, 1) := by decide +kernel

theorem dX12_isWeather_0 : decode cX12_isWeather 0 = .ok (.iload_n 0, 1) := by decide +kernel
theorem dX12_isWeather_1 : decode cX12_isWeather 1 = .ok (.bipush (-30), 2) := by decide +kernel
theorem dX12_isWeather_3 : decode cX12_isWeather 3 = .ok (.bipush 30, 2) := by decide +kernel
theorem dX12_isWeather_5 : decode cX12_isWeather 5 = .ok (.invokestatic 136, 3) := by decide +kernel
theorem dX12_isWeather_8 : decode cX12_isWeather 8 = .ok (.ifCond .eq 23, 3) := by decide +kernel
theorem dX12_isWeather_11 : decode cX12_isWeather 11 = .ok (.iload_n 1, 1) := by decide +kernel
theorem dX12_isWeather_12 : decode cX12_isWeather 12 = .ok (.bipush (-30), 2) := by decide +kernel
theorem dX12_isWeather_14 : decode cX12_isWeather 14 = .ok (.bipush 40, 2) := by decide +kernel
theorem dX12_isWeather_16 : decode cX12_isWeather 16 = .ok (.invokestatic 136, 3) := by decide +kernel
theorem dX12_isWeather_19 : decode cX12_isWeather 19 = .ok (.ifCond .eq 12, 3) := by decide +kernel
theorem dX12_isWeather_22 : decode cX12_isWeather 22 = .ok (.iload_n 1, 1) := by decide +kernel
theorem dX12_isWeather_23 : decode cX12_isWeather 23 = .ok (.iload_n 0, 1) := by decide +kernel
theorem dX12_isWeather_24 : decode cX12_isWeather 24 = .ok (.if_icmp .lt 7, 3) := by decide +kernel
theorem dX12_isWeather_27 : decode cX12_isWeather 27 = .ok (.iconst 1, 1) := by decide +kernel
theorem dX12_isWeather_28 : decode cX12_isWeather 28 = .ok (.goto 4, 3) := by decide +kernel
theorem dX12_isWeather_31 : decode cX12_isWeather 31 = .ok (.iconst 0, 1) := by decide +kernel
theorem dX12_isWeather_32 : decode cX12_isWeather 32 = .ok (.ireturn, 1) := by decide +kernel

theorem dX2_gaveThisYear_0 : decode cX2_gaveThisYear 0 = .ok (.aload_n 0, 1) := by decide +kernel
theorem dX2_gaveThisYear_1 : decode cX2_gaveThisYear 1 = .ok (.iload_n 1, 1) := by decide +kernel
theorem dX2_gaveThisYear_2 : decode cX2_gaveThisYear 2 = .ok (.invokevirtual 37, 3) := by decide +kernel
theorem dX2_gaveThisYear_5 : decode cX2_gaveThisYear 5 = .ok (.ifCond .eq 12, 3) := by decide +kernel
theorem dX2_gaveThisYear_8 : decode cX2_gaveThisYear 8 = .ok (.aload_n 0, 1) := by decide +kernel
theorem dX2_gaveThisYear_9 : decode cX2_gaveThisYear 9 = .ok (.getfield 18, 3) := by decide +kernel
theorem dX2_gaveThisYear_12 : decode cX2_gaveThisYear 12 = .ok (.iload_n 1, 1) := by decide +kernel
theorem dX2_gaveThisYear_13 : decode cX2_gaveThisYear 13 = .ok (.iaload, 1) := by decide +kernel
theorem dX2_gaveThisYear_14 : decode cX2_gaveThisYear 14 = .ok (.goto 4, 3) := by decide +kernel
theorem dX2_gaveThisYear_17 : decode cX2_gaveThisYear 17 = .ok (.iconst (-1), 1) := by decide +kernel
theorem dX2_gaveThisYear_18 : decode cX2_gaveThisYear 18 = .ok (.ireturn, 1) := by decide +kernel

theorem dX2_girthOf_0 : decode cX2_girthOf 0 = .ok (.aload_n 0, 1) := by decide +kernel
theorem dX2_girthOf_1 : decode cX2_girthOf 1 = .ok (.iload_n 1, 1) := by decide +kernel
theorem dX2_girthOf_2 : decode cX2_girthOf 2 = .ok (.invokevirtual 37, 3) := by decide +kernel
theorem dX2_girthOf_5 : decode cX2_girthOf 5 = .ok (.ifCond .eq 12, 3) := by decide +kernel
theorem dX2_girthOf_8 : decode cX2_girthOf 8 = .ok (.aload_n 0, 1) := by decide +kernel
theorem dX2_girthOf_9 : decode cX2_girthOf 9 = .ok (.getfield 15, 3) := by decide +kernel
theorem dX2_girthOf_12 : decode cX2_girthOf 12 = .ok (.iload_n 1, 1) := by decide +kernel
theorem dX2_girthOf_13 : decode cX2_girthOf 13 = .ok (.iaload, 1) := by decide +kernel
theorem dX2_girthOf_14 : decode cX2_girthOf 14 = .ok (.goto 4, 3) := by decide +kernel
theorem dX2_girthOf_17 : decode cX2_girthOf 17 = .ok (.iconst (-1), 1) := by decide +kernel
theorem dX2_girthOf_18 : decode cX2_girthOf 18 = .ok (.ireturn, 1) := by decide +kernel

theorem dX2_has_0 : decode cX2_has 0 = .ok (.iload_n 1, 1) := by decide +kernel
theorem dX2_has_1 : decode cX2_has 1 = .ok (.ifCond .lt 15, 3) := by decide +kernel
theorem dX2_has_4 : decode cX2_has 4 = .ok (.iload_n 1, 1) := by decide +kernel
theorem dX2_has_5 : decode cX2_has 5 = .ok (.aload_n 0, 1) := by decide +kernel
theorem dX2_has_6 : decode cX2_has 6 = .ok (.getfield 30, 3) := by decide +kernel
theorem dX2_has_9 : decode cX2_has 9 = .ok (.if_icmp .ge 7, 3) := by decide +kernel
theorem dX2_has_12 : decode cX2_has 12 = .ok (.iconst 1, 1) := by decide +kernel
theorem dX2_has_13 : decode cX2_has 13 = .ok (.goto 4, 3) := by decide +kernel
theorem dX2_has_16 : decode cX2_has 16 = .ok (.iconst 0, 1) := by decide +kernel
theorem dX2_has_17 : decode cX2_has 17 = .ok (.ireturn, 1) := by decide +kernel

theorem dX2_hasHole_0 : decode cX2_hasHole 0 = .ok (.iload_n 1, 1) := by decide +kernel
theorem dX2_hasHole_1 : decode cX2_hasHole 1 = .ok (.ifCond .lt 15, 3) := by decide +kernel
theorem dX2_hasHole_4 : decode cX2_hasHole 4 = .ok (.iload_n 1, 1) := by decide +kernel
theorem dX2_hasHole_5 : decode cX2_hasHole 5 = .ok (.aload_n 0, 1) := by decide +kernel
theorem dX2_hasHole_6 : decode cX2_hasHole 6 = .ok (.getfield 34, 3) := by decide +kernel
theorem dX2_hasHole_9 : decode cX2_hasHole 9 = .ok (.if_icmp .ge 7, 3) := by decide +kernel
theorem dX2_hasHole_12 : decode cX2_hasHole 12 = .ok (.iconst 1, 1) := by decide +kernel
theorem dX2_hasHole_13 : decode cX2_hasHole 13 = .ok (.goto 4, 3) := by decide +kernel
theorem dX2_hasHole_16 : decode cX2_hasHole 16 = .ok (.iconst 0, 1) := by decide +kernel
theorem dX2_hasHole_17 : decode cX2_hasHole 17 = .ok (.ireturn, 1) := by decide +kernel

theorem dX2_nodeOfTree_0 : decode cX2_nodeOfTree 0 = .ok (.aload_n 0, 1) := by decide +kernel
theorem dX2_nodeOfTree_1 : decode cX2_nodeOfTree 1 = .ok (.iload_n 1, 1) := by decide +kernel
theorem dX2_nodeOfTree_2 : decode cX2_nodeOfTree 2 = .ok (.invokevirtual 37, 3) := by decide +kernel
theorem dX2_nodeOfTree_5 : decode cX2_nodeOfTree 5 = .ok (.ifCond .eq 12, 3) := by decide +kernel
theorem dX2_nodeOfTree_8 : decode cX2_nodeOfTree 8 = .ok (.aload_n 0, 1) := by decide +kernel
theorem dX2_nodeOfTree_9 : decode cX2_nodeOfTree 9 = .ok (.getfield 9, 3) := by decide +kernel
theorem dX2_nodeOfTree_12 : decode cX2_nodeOfTree 12 = .ok (.iload_n 1, 1) := by decide +kernel
theorem dX2_nodeOfTree_13 : decode cX2_nodeOfTree 13 = .ok (.iaload, 1) := by decide +kernel
theorem dX2_nodeOfTree_14 : decode cX2_nodeOfTree 14 = .ok (.goto 4, 3) := by decide +kernel
theorem dX2_nodeOfTree_17 : decode cX2_nodeOfTree 17 = .ok (.iconst (-1), 1) := by decide +kernel
theorem dX2_nodeOfTree_18 : decode cX2_nodeOfTree 18 = .ok (.ireturn, 1) := by decide +kernel

theorem dX2_tapsOf_0 : decode cX2_tapsOf 0 = .ok (.iconst 0, 1) := by decide +kernel
theorem dX2_tapsOf_1 : decode cX2_tapsOf 1 = .ok (.istore_n 3, 1) := by decide +kernel
theorem dX2_tapsOf_2 : decode cX2_tapsOf 2 = .ok (.iconst 0, 1) := by decide +kernel
theorem dX2_tapsOf_3 : decode cX2_tapsOf 3 = .ok (.istore 4, 2) := by decide +kernel
theorem dX2_tapsOf_5 : decode cX2_tapsOf 5 = .ok (.iload 4, 2) := by decide +kernel
theorem dX2_tapsOf_7 : decode cX2_tapsOf 7 = .ok (.aload_n 0, 1) := by decide +kernel
theorem dX2_tapsOf_8 : decode cX2_tapsOf 8 = .ok (.getfield 34, 3) := by decide +kernel
theorem dX2_tapsOf_11 : decode cX2_tapsOf 11 = .ok (.if_icmp .ge 34, 3) := by decide +kernel
theorem dX2_tapsOf_14 : decode cX2_tapsOf 14 = .ok (.aload_n 0, 1) := by decide +kernel
theorem dX2_tapsOf_15 : decode cX2_tapsOf 15 = .ok (.getfield 21, 3) := by decide +kernel
theorem dX2_tapsOf_18 : decode cX2_tapsOf 18 = .ok (.iload 4, 2) := by decide +kernel
theorem dX2_tapsOf_20 : decode cX2_tapsOf 20 = .ok (.iaload, 1) := by decide +kernel
theorem dX2_tapsOf_21 : decode cX2_tapsOf 21 = .ok (.iload_n 1, 1) := by decide +kernel
theorem dX2_tapsOf_22 : decode cX2_tapsOf 22 = .ok (.if_icmp .ne 17, 3) := by decide +kernel
theorem dX2_tapsOf_25 : decode cX2_tapsOf 25 = .ok (.aload_n 0, 1) := by decide +kernel
theorem dX2_tapsOf_26 : decode cX2_tapsOf 26 = .ok (.getfield 27, 3) := by decide +kernel
theorem dX2_tapsOf_29 : decode cX2_tapsOf 29 = .ok (.iload 4, 2) := by decide +kernel
theorem dX2_tapsOf_31 : decode cX2_tapsOf 31 = .ok (.iaload, 1) := by decide +kernel
theorem dX2_tapsOf_32 : decode cX2_tapsOf 32 = .ok (.iload_n 2, 1) := by decide +kernel
theorem dX2_tapsOf_33 : decode cX2_tapsOf 33 = .ok (.if_icmp .ne 6, 3) := by decide +kernel
theorem dX2_tapsOf_36 : decode cX2_tapsOf 36 = .ok (.iinc 3 1, 3) := by decide +kernel
theorem dX2_tapsOf_39 : decode cX2_tapsOf 39 = .ok (.iinc 4 1, 3) := by decide +kernel
theorem dX2_tapsOf_42 : decode cX2_tapsOf 42 = .ok (.goto (-37), 3) := by decide +kernel
theorem dX2_tapsOf_45 : decode cX2_tapsOf 45 = .ok (.iload_n 3, 1) := by decide +kernel
theorem dX2_tapsOf_46 : decode cX2_tapsOf 46 = .ok (.ireturn, 1) := by decide +kernel

theorem dX2_treeOfHole_0 : decode cX2_treeOfHole 0 = .ok (.aload_n 0, 1) := by decide +kernel
theorem dX2_treeOfHole_1 : decode cX2_treeOfHole 1 = .ok (.iload_n 1, 1) := by decide +kernel
theorem dX2_treeOfHole_2 : decode cX2_treeOfHole 2 = .ok (.invokevirtual 63, 3) := by decide +kernel
theorem dX2_treeOfHole_5 : decode cX2_treeOfHole 5 = .ok (.ifCond .eq 12, 3) := by decide +kernel
theorem dX2_treeOfHole_8 : decode cX2_treeOfHole 8 = .ok (.aload_n 0, 1) := by decide +kernel
theorem dX2_treeOfHole_9 : decode cX2_treeOfHole 9 = .ok (.getfield 21, 3) := by decide +kernel
theorem dX2_treeOfHole_12 : decode cX2_treeOfHole 12 = .ok (.iload_n 1, 1) := by decide +kernel
theorem dX2_treeOfHole_13 : decode cX2_treeOfHole 13 = .ok (.iaload, 1) := by decide +kernel
theorem dX2_treeOfHole_14 : decode cX2_treeOfHole 14 = .ok (.goto 4, 3) := by decide +kernel
theorem dX2_treeOfHole_17 : decode cX2_treeOfHole 17 = .ok (.iconst (-1), 1) := by decide +kernel
theorem dX2_treeOfHole_18 : decode cX2_treeOfHole 18 = .ok (.ireturn, 1) := by decide +kernel

theorem dX2_treesAt_0 : decode cX2_treesAt 0 = .ok (.iconst 0, 1) := by decide +kernel
theorem dX2_treesAt_1 : decode cX2_treesAt 1 = .ok (.istore_n 2, 1) := by decide +kernel
theorem dX2_treesAt_2 : decode cX2_treesAt 2 = .ok (.iconst 0, 1) := by decide +kernel
theorem dX2_treesAt_3 : decode cX2_treesAt 3 = .ok (.istore_n 3, 1) := by decide +kernel
theorem dX2_treesAt_4 : decode cX2_treesAt 4 = .ok (.iload_n 3, 1) := by decide +kernel
theorem dX2_treesAt_5 : decode cX2_treesAt 5 = .ok (.aload_n 0, 1) := by decide +kernel
theorem dX2_treesAt_6 : decode cX2_treesAt 6 = .ok (.getfield 30, 3) := by decide +kernel
theorem dX2_treesAt_9 : decode cX2_treesAt 9 = .ok (.if_icmp .ge 22, 3) := by decide +kernel
theorem dX2_treesAt_12 : decode cX2_treesAt 12 = .ok (.aload_n 0, 1) := by decide +kernel
theorem dX2_treesAt_13 : decode cX2_treesAt 13 = .ok (.getfield 9, 3) := by decide +kernel
theorem dX2_treesAt_16 : decode cX2_treesAt 16 = .ok (.iload_n 3, 1) := by decide +kernel
theorem dX2_treesAt_17 : decode cX2_treesAt 17 = .ok (.iaload, 1) := by decide +kernel
theorem dX2_treesAt_18 : decode cX2_treesAt 18 = .ok (.iload_n 1, 1) := by decide +kernel
theorem dX2_treesAt_19 : decode cX2_treesAt 19 = .ok (.if_icmp .ne 6, 3) := by decide +kernel
theorem dX2_treesAt_22 : decode cX2_treesAt 22 = .ok (.iinc 2 1, 3) := by decide +kernel
theorem dX2_treesAt_25 : decode cX2_treesAt 25 = .ok (.iinc 3 1, 3) := by decide +kernel
theorem dX2_treesAt_28 : decode cX2_treesAt 28 = .ok (.goto (-24), 3) := by decide +kernel
theorem dX2_treesAt_31 : decode cX2_treesAt 31 = .ok (.iload_n 2, 1) := by decide +kernel
theorem dX2_treesAt_32 : decode cX2_treesAt 32 = .ok (.ireturn, 1) := by decide +kernel

theorem dX2_yearOfHole_0 : decode cX2_yearOfHole 0 = .ok (.aload_n 0, 1) := by decide +kernel
theorem dX2_yearOfHole_1 : decode cX2_yearOfHole 1 = .ok (.iload_n 1, 1) := by decide +kernel
theorem dX2_yearOfHole_2 : decode cX2_yearOfHole 2 = .ok (.invokevirtual 63, 3) := by decide +kernel
theorem dX2_yearOfHole_5 : decode cX2_yearOfHole 5 = .ok (.ifCond .eq 12, 3) := by decide +kernel
theorem dX2_yearOfHole_8 : decode cX2_yearOfHole 8 = .ok (.aload_n 0, 1) := by decide +kernel
theorem dX2_yearOfHole_9 : decode cX2_yearOfHole 9 = .ok (.getfield 27, 3) := by decide +kernel
theorem dX2_yearOfHole_12 : decode cX2_yearOfHole 12 = .ok (.iload_n 1, 1) := by decide +kernel
theorem dX2_yearOfHole_13 : decode cX2_yearOfHole 13 = .ok (.iaload, 1) := by decide +kernel
theorem dX2_yearOfHole_14 : decode cX2_yearOfHole 14 = .ok (.goto 4, 3) := by decide +kernel
theorem dX2_yearOfHole_17 : decode cX2_yearOfHole 17 = .ok (.iconst (-1), 1) := by decide +kernel
theorem dX2_yearOfHole_18 : decode cX2_yearOfHole 18 = .ok (.ireturn, 1) := by decide +kernel

theorem dX4_greatestDivisor_0 : decode cX4_greatestDivisor 0 = .ok (.iload_n 0, 1) := by decide +kernel
theorem dX4_greatestDivisor_1 : decode cX4_greatestDivisor 1 = .ok (.istore_n 2, 1) := by decide +kernel
theorem dX4_greatestDivisor_2 : decode cX4_greatestDivisor 2 = .ok (.iload_n 1, 1) := by decide +kernel
theorem dX4_greatestDivisor_3 : decode cX4_greatestDivisor 3 = .ok (.istore_n 3, 1) := by decide +kernel
theorem dX4_greatestDivisor_4 : decode cX4_greatestDivisor 4 = .ok (.iconst 0, 1) := by decide +kernel
theorem dX4_greatestDivisor_5 : decode cX4_greatestDivisor 5 = .ok (.istore 4, 2) := by decide +kernel
theorem dX4_greatestDivisor_7 : decode cX4_greatestDivisor 7 = .ok (.iload 4, 2) := by decide +kernel
theorem dX4_greatestDivisor_9 : decode cX4_greatestDivisor 9 = .ok (.bipush 64, 2) := by decide +kernel
theorem dX4_greatestDivisor_11 : decode cX4_greatestDivisor 11 = .ok (.if_icmp .ge 23, 3) := by decide +kernel
theorem dX4_greatestDivisor_14 : decode cX4_greatestDivisor 14 = .ok (.iload_n 3, 1) := by decide +kernel
theorem dX4_greatestDivisor_15 : decode cX4_greatestDivisor 15 = .ok (.ifCond .eq 19, 3) := by decide +kernel
theorem dX4_greatestDivisor_18 : decode cX4_greatestDivisor 18 = .ok (.iload_n 2, 1) := by decide +kernel
theorem dX4_greatestDivisor_19 : decode cX4_greatestDivisor 19 = .ok (.iload_n 3, 1) := by decide +kernel
theorem dX4_greatestDivisor_20 : decode cX4_greatestDivisor 20 = .ok (.irem, 1) := by decide +kernel
theorem dX4_greatestDivisor_21 : decode cX4_greatestDivisor 21 = .ok (.istore 5, 2) := by decide +kernel
theorem dX4_greatestDivisor_23 : decode cX4_greatestDivisor 23 = .ok (.iload_n 3, 1) := by decide +kernel
theorem dX4_greatestDivisor_24 : decode cX4_greatestDivisor 24 = .ok (.istore_n 2, 1) := by decide +kernel
theorem dX4_greatestDivisor_25 : decode cX4_greatestDivisor 25 = .ok (.iload 5, 2) := by decide +kernel
theorem dX4_greatestDivisor_27 : decode cX4_greatestDivisor 27 = .ok (.istore_n 3, 1) := by decide +kernel
theorem dX4_greatestDivisor_28 : decode cX4_greatestDivisor 28 = .ok (.iinc 4 1, 3) := by decide +kernel
theorem dX4_greatestDivisor_31 : decode cX4_greatestDivisor 31 = .ok (.goto (-24), 3) := by decide +kernel
theorem dX4_greatestDivisor_34 : decode cX4_greatestDivisor 34 = .ok (.iload_n 2, 1) := by decide +kernel
theorem dX4_greatestDivisor_35 : decode cX4_greatestDivisor 35 = .ok (.ireturn, 1) := by decide +kernel

theorem dX8_drain_0 : decode cX8_drain 0 = .ok (.aload_n 0, 1) := by decide +kernel
theorem dX8_drain_1 : decode cX8_drain 1 = .ok (.iconst 0, 1) := by decide +kernel
theorem dX8_drain_2 : decode cX8_drain 2 = .ok (.putfield 9, 3) := by decide +kernel
theorem dX8_drain_5 : decode cX8_drain 5 = .ok (.return_, 1) := by decide +kernel

theorem dX8_takeOut_0 : decode cX8_takeOut 0 = .ok (.iload_n 1, 1) := by decide +kernel
theorem dX8_takeOut_1 : decode cX8_takeOut 1 = .ok (.aload_n 0, 1) := by decide +kernel
theorem dX8_takeOut_2 : decode cX8_takeOut 2 = .ok (.getfield 9, 3) := by decide +kernel
theorem dX8_takeOut_5 : decode cX8_takeOut 5 = .ok (.if_icmp .le 5, 3) := by decide +kernel
theorem dX8_takeOut_8 : decode cX8_takeOut 8 = .ok (.iconst 0, 1) := by decide +kernel
theorem dX8_takeOut_9 : decode cX8_takeOut 9 = .ok (.ireturn, 1) := by decide +kernel
theorem dX8_takeOut_10 : decode cX8_takeOut 10 = .ok (.aload_n 0, 1) := by decide +kernel
theorem dX8_takeOut_11 : decode cX8_takeOut 11 = .ok (.dup, 1) := by decide +kernel
theorem dX8_takeOut_12 : decode cX8_takeOut 12 = .ok (.getfield 9, 3) := by decide +kernel
theorem dX8_takeOut_15 : decode cX8_takeOut 15 = .ok (.iload_n 1, 1) := by decide +kernel
theorem dX8_takeOut_16 : decode cX8_takeOut 16 = .ok (.isub, 1) := by decide +kernel
theorem dX8_takeOut_17 : decode cX8_takeOut 17 = .ok (.putfield 9, 3) := by decide +kernel
theorem dX8_takeOut_20 : decode cX8_takeOut 20 = .ok (.iconst 1, 1) := by decide +kernel
theorem dX8_takeOut_21 : decode cX8_takeOut 21 = .ok (.ireturn, 1) := by decide +kernel
