theorem dX10_sheet_102 : decode cX10_sheet 102 = .ok (.bipush (-3), 2) := by decide +kernel
theorem dX10_sheet_104 : decode cX10_sheet 104 = .ok (.goto 10, 3) := by decide +kernel
theorem dX10_sheet_107 : decode cX10_sheet 107 = .ok (.aload_n 0, 1) := by decide +kernel
theorem dX10_sheet_108 : decode cX10_sheet 108 = .ok (.getfield 26, 3) := by decide +kernel
theorem dX10_sheet_111 : decode cX10_sheet 111 = .ok (.invokevirtual 172, 3) := by decide +kernel
theorem dX10_sheet_114 : decode cX10_sheet 114 = .ok (.ireturn, 1) := by decide +kernel
theorem dX10_entryOf_0 : decode cX10_entryOf 0 = .ok (.iload_n 0, 1) := by decide +kernel
theorem dX10_entryOf_1 : decode cX10_entryOf 1 = .ok (.ifCond .ne 6, 3) := by decide +kernel
theorem dX10_entryOf_4 : decode cX10_entryOf 4 = .ok (.iload_n 1, 1) := by decide +kernel
theorem dX10_entryOf_5 : decode cX10_entryOf 5 = .ok (.i2b, 1) := by decide +kernel
theorem dX10_entryOf_6 : decode cX10_entryOf 6 = .ok (.ireturn, 1) := by decide +kernel
theorem dX10_entryOf_7 : decode cX10_entryOf 7 = .ok (.iload_n 0, 1) := by decide +kernel
theorem dX10_entryOf_8 : decode cX10_entryOf 8 = .ok (.iconst 1, 1) := by decide +kernel
theorem dX10_entryOf_9 : decode cX10_entryOf 9 = .ok (.if_icmp .ne 8, 3) := by decide +kernel
theorem dX10_entryOf_12 : decode cX10_entryOf 12 = .ok (.iload_n 1, 1) := by decide +kernel
theorem dX10_entryOf_13 : decode cX10_entryOf 13 = .ok (.i2s, 1) := by decide +kernel
theorem dX10_entryOf_14 : decode cX10_entryOf 14 = .ok (.goto 4, 3) := by decide +kernel
theorem dX10_entryOf_17 : decode cX10_entryOf 17 = .ok (.iload_n 1, 1) := by decide +kernel
theorem dX10_entryOf_18 : decode cX10_entryOf 18 = .ok (.ireturn, 1) := by decide +kernel
theorem dX10_putToDepth_0 : decode cX10_putToDepth 0 = .ok (.iconst 0, 1) := by decide +kernel
theorem dX10_putToDepth_1 : decode cX10_putToDepth 1 = .ok (.bipush 99, 2) := by decide +kernel
theorem dX10_putToDepth_3 : decode cX10_putToDepth 3 = .ok (.iload_n 0, 1) := by decide +kernel
theorem dX10_putToDepth_4 : decode cX10_putToDepth 4 = .ok (.invokestatic 176, 3) := by decide +kernel
theorem dX10_putToDepth_7 : decode cX10_putToDepth 7 = .ok (.invokestatic 181, 3) := by decide +kernel
theorem dX10_putToDepth_10 : decode cX10_putToDepth 10 = .ok (.ireturn, 1) := by decide +kernel
theorem dX10_isWithin_0 : decode cX10_isWithin 0 = .ok (.iload_n 0, 1) := by decide +kernel
theorem dX10_isWithin_1 : decode cX10_isWithin 1 = .ok (.iload_n 1, 1) := by decide +kernel
theorem dX10_isWithin_2 : decode cX10_isWithin 2 = .ok (.if_icmp .lt 12, 3) := by decide +kernel
theorem dX10_isWithin_5 : decode cX10_isWithin 5 = .ok (.iload_n 0, 1) := by decide +kernel
theorem dX10_isWithin_6 : decode cX10_isWithin 6 = .ok (.iload_n 2, 1) := by decide +kernel
theorem dX10_isWithin_7 : decode cX10_isWithin 7 = .ok (.if_icmp .gt 7, 3) := by decide +kernel
theorem dX10_isWithin_10 : decode cX10_isWithin 10 = .ok (.iconst 1, 1) := by decide +kernel
theorem dX10_isWithin_11 : decode cX10_isWithin 11 = .ok (.goto 4, 3) := by decide +kernel
theorem dX10_isWithin_14 : decode cX10_isWithin 14 = .ok (.iconst 0, 1) := by decide +kernel
theorem dX10_isWithin_15 : decode cX10_isWithin 15 = .ok (.ireturn, 1) := by decide +kernel
theorem dX10_carry_0 : decode cX10_carry 0 = .ok (.aload_n 0, 1) := by decide +kernel
theorem dX10_carry_1 : decode cX10_carry 1 = .ok (.getfield 26, 3) := by decide +kernel
theorem dX10_carry_4 : decode cX10_carry 4 = .ok (.iload_n 1, 1) := by decide +kernel
theorem dX10_carry_5 : decode cX10_carry 5 = .ok (.iload_n 2, 1) := by decide +kernel
theorem dX10_carry_6 : decode cX10_carry 6 = .ok (.invokevirtual 152, 3) := by decide +kernel
theorem dX10_carry_9 : decode cX10_carry 9 = .ok (.ifCond .ne 5, 3) := by decide +kernel
theorem dX10_carry_12 : decode cX10_carry 12 = .ok (.iconst (-1), 1) := by decide +kernel
theorem dX10_carry_13 : decode cX10_carry 13 = .ok (.ireturn, 1) := by decide +kernel
theorem dX10_carry_14 : decode cX10_carry 14 = .ok (.aload_n 0, 1) := by decide +kernel
theorem dX10_carry_15 : decode cX10_carry 15 = .ok (.getfield 26, 3) := by decide +kernel
theorem dX10_carry_18 : decode cX10_carry 18 = .ok (.iload_n 1, 1) := by decide +kernel
theorem dX10_carry_19 : decode cX10_carry 19 = .ok (.iload_n 2, 1) := by decide +kernel
theorem dX10_carry_20 : decode cX10_carry 20 = .ok (.invokevirtual 156, 3) := by decide +kernel
theorem dX10_carry_23 : decode cX10_carry 23 = .ok (.iconst (-1), 1) := by decide +kernel
theorem dX10_carry_24 : decode cX10_carry 24 = .ok (.if_icmp .ne 6, 3) := by decide +kernel
theorem dX10_carry_27 : decode cX10_carry 27 = .ok (.bipush (-2), 2) := by decide +kernel
theorem dX10_carry_29 : decode cX10_carry 29 = .ok (.ireturn, 1) := by decide +kernel
theorem dX10_carry_30 : decode cX10_carry 30 = .ok (.aload_n 0, 1) := by decide +kernel
theorem dX10_carry_31 : decode cX10_carry 31 = .ok (.getfield 26, 3) := by decide +kernel
theorem dX10_carry_34 : decode cX10_carry 34 = .ok (.iload_n 1, 1) := by decide +kernel
theorem dX10_carry_35 : decode cX10_carry 35 = .ok (.iload_n 2, 1) := by decide +kernel
theorem dX10_carry_36 : decode cX10_carry 36 = .ok (.invokevirtual 184, 3) := by decide +kernel
theorem dX10_carry_39 : decode cX10_carry 39 = .ok (.ifCond .ne 6, 3) := by decide +kernel
theorem dX10_carry_42 : decode cX10_carry 42 = .ok (.bipush (-3), 2) := by decide +kernel
theorem dX10_carry_44 : decode cX10_carry 44 = .ok (.ireturn, 1) := by decide +kernel
theorem dX10_carry_45 : decode cX10_carry 45 = .ok (.aload_n 0, 1) := by decide +kernel
theorem dX10_carry_46 : decode cX10_carry 46 = .ok (.getfield 61, 3) := by decide +kernel
theorem dX10_carry_49 : decode cX10_carry 49 = .ok (.aload_n 0, 1) := by decide +kernel
theorem dX10_carry_50 : decode cX10_carry 50 = .ok (.getfield 26, 3) := by decide +kernel
theorem dX10_carry_53 : decode cX10_carry 53 = .ok (.invokevirtual 187, 3) := by decide +kernel
theorem dX10_carry_56 : decode cX10_carry 56 = .ok (.aload_n 0, 1) := by decide +kernel
theorem dX10_carry_57 : decode cX10_carry 57 = .ok (.getfield 61, 3) := by decide +kernel
theorem dX10_carry_60 : decode cX10_carry 60 = .ok (.invokevirtual 191, 3) := by decide +kernel
theorem dX10_carry_63 : decode cX10_carry 63 = .ok (.aload_n 0, 1) := by decide +kernel
theorem dX10_carry_64 : decode cX10_carry 64 = .ok (.getfield 26, 3) := by decide +kernel
theorem dX10_carry_67 : decode cX10_carry 67 = .ok (.iload_n 1, 1) := by decide +kernel
theorem dX10_carry_68 : decode cX10_carry 68 = .ok (.iload_n 2, 1) := by decide +kernel
theorem dX10_carry_69 : decode cX10_carry 69 = .ok (.invokevirtual 194, 3) := by decide +kernel
theorem dX10_carry_72 : decode cX10_carry 72 = .ok (.aload_n 0, 1) := by decide +kernel
theorem dX10_carry_73 : decode cX10_carry 73 = .ok (.getfield 26, 3) := by decide +kernel
theorem dX10_carry_76 : decode cX10_carry 76 = .ok (.getfield 134, 3) := by decide +kernel
theorem dX10_carry_79 : decode cX10_carry 79 = .ok (.iload_n 1, 1) := by decide +kernel
theorem dX10_carry_80 : decode cX10_carry 80 = .ok (.iaload, 1) := by decide +kernel
theorem dX10_carry_81 : decode cX10_carry 81 = .ok (.ireturn, 1) := by decide +kernel
theorem dX10_night_0 : decode cX10_night 0 = .ok (.aload_n 0, 1) := by decide +kernel
theorem dX10_night_1 : decode cX10_night 1 = .ok (.getfield 19, 3) := by decide +kernel
theorem dX10_night_4 : decode cX10_night 4 = .ok (.aload_n 0, 1) := by decide +kernel
theorem dX10_night_5 : decode cX10_night 5 = .ok (.getfield 12, 3) := by decide +kernel
theorem dX10_night_8 : decode cX10_night 8 = .ok (.invokevirtual 198, 3) := by decide +kernel
theorem dX10_night_11 : decode cX10_night 11 = .ok (.istore_n 1, 1) := by decide +kernel
theorem dX10_night_12 : decode cX10_night 12 = .ok (.aload_n 0, 1) := by decide +kernel
theorem dX10_night_13 : decode cX10_night 13 = .ok (.getfield 12, 3) := by decide +kernel
theorem dX10_night_16 : decode cX10_night 16 = .ok (.iconst 0, 1) := by decide +kernel
theorem dX10_night_17 : decode cX10_night 17 = .ok (.invokevirtual 91, 3) := by decide +kernel
theorem dX10_night_20 : decode cX10_night 20 = .ok (.pop, 1) := by decide +kernel
theorem dX10_night_21 : decode cX10_night 21 = .ok (.iload_n 1, 1) := by decide +kernel
theorem dX10_night_22 : decode cX10_night 22 = .ok (.iconst (-1), 1) := by decide +kernel
theorem dX10_night_23 : decode cX10_night 23 = .ok (.if_icmp .eq 7, 3) := by decide +kernel
theorem dX10_night_26 : decode cX10_night 26 = .ok (.iconst (-1), 1) := by decide +kernel
theorem dX10_night_27 : decode cX10_night 27 = .ok (.iload_n 1, 1) := by decide +kernel
theorem dX10_night_28 : decode cX10_night 28 = .ok (.isub, 1) := by decide +kernel
theorem dX10_night_29 : decode cX10_night 29 = .ok (.ireturn, 1) := by decide +kernel
theorem dX10_night_30 : decode cX10_night 30 = .ok (.aload_n 0, 1) := by decide +kernel
theorem dX10_night_31 : decode cX10_night 31 = .ok (.getfield 61, 3) := by decide +kernel
theorem dX10_night_34 : decode cX10_night 34 = .ok (.aload_n 0, 1) := by decide +kernel
theorem dX10_night_35 : decode cX10_night 35 = .ok (.getfield 26, 3) := by decide +kernel
theorem dX10_night_38 : decode cX10_night 38 = .ok (.invokevirtual 187, 3) := by decide +kernel
theorem dX10_night_41 : decode cX10_night 41 = .ok (.iconst 0, 1) := by decide +kernel
theorem dX10_night_42 : decode cX10_night 42 = .ok (.istore_n 2, 1) := by decide +kernel
theorem dX10_night_43 : decode cX10_night 43 = .ok (.iconst 0, 1) := by decide +kernel
theorem dX10_night_44 : decode cX10_night 44 = .ok (.istore_n 3, 1) := by decide +kernel
theorem dX10_night_45 : decode cX10_night 45 = .ok (.iconst 0, 1) := by decide +kernel
theorem dX10_night_46 : decode cX10_night 46 = .ok (.istore 4, 2) := by decide +kernel
theorem dX10_night_48 : decode cX10_night 48 = .ok (.iload 4, 2) := by decide +kernel
theorem dX10_night_50 : decode cX10_night 50 = .ok (.aload_n 0, 1) := by decide +kernel
theorem dX10_night_51 : decode cX10_night 51 = .ok (.getfield 19, 3) := by decide +kernel
theorem dX10_night_54 : decode cX10_night 54 = .ok (.getfield 101, 3) := by decide +kernel
theorem dX10_night_57 : decode cX10_night 57 = .ok (.if_icmp .ge 75, 3) := by decide +kernel
theorem dX10_night_60 : decode cX10_night 60 = .ok (.iload_n 2, 1) := by decide +kernel
theorem dX10_night_61 : decode cX10_night 61 = .ok (.ifCond .ne 71, 3) := by decide +kernel
theorem dX10_night_64 : decode cX10_night 64 = .ok (.aload_n 0, 1) := by decide +kernel
theorem dX10_night_65 : decode cX10_night 65 = .ok (.aload_n 0, 1) := by decide +kernel
theorem dX10_night_66 : decode cX10_night 66 = .ok (.getfield 19, 3) := by decide +kernel
theorem dX10_night_69 : decode cX10_night 69 = .ok (.getfield 107, 3) := by decide +kernel
theorem dX10_night_72 : decode cX10_night 72 = .ok (.iload 4, 2) := by decide +kernel
theorem dX10_night_74 : decode cX10_night 74 = .ok (.iaload, 1) := by decide +kernel
theorem dX10_night_75 : decode cX10_night 75 = .ok (.aload_n 0, 1) := by decide +kernel
theorem dX10_night_76 : decode cX10_night 76 = .ok (.getfield 19, 3) := by decide +kernel
theorem dX10_night_79 : decode cX10_night 79 = .ok (.getfield 110, 3) := by decide +kernel
theorem dX10_night_82 : decode cX10_night 82 = .ok (.iload 4, 2) := by decide +kernel
theorem dX10_night_84 : decode cX10_night 84 = .ok (.iaload, 1) := by decide +kernel
theorem dX10_night_85 : decode cX10_night 85 = .ok (.aload_n 0, 1) := by decide +kernel
theorem dX10_night_86 : decode cX10_night 86 = .ok (.getfield 19, 3) := by decide +kernel
theorem dX10_night_89 : decode cX10_night 89 = .ok (.getfield 113, 3) := by decide +kernel
theorem dX10_night_92 : decode cX10_night 92 = .ok (.iload 4, 2) := by decide +kernel
theorem dX10_night_94 : decode cX10_night 94 = .ok (.iaload, 1) := by decide +kernel
theorem dX10_night_95 : decode cX10_night 95 = .ok (.invokevirtual 202, 3) := by decide +kernel
theorem dX10_night_98 : decode cX10_night 98 = .ok (.istore 5, 2) := by decide +kernel
theorem dX10_night_100 : decode cX10_night 100 = .ok (.iload_n 3, 1) := by decide +kernel
theorem dX10_night_101 : decode cX10_night 101 = .ok (.iload 5, 2) := by decide +kernel
theorem dX10_night_103 : decode cX10_night 103 = .ok (.iadd, 1) := by decide +kernel
theorem dX10_night_104 : decode cX10_night 104 = .ok (.istore_n 3, 1) := by decide +kernel
theorem dX10_night_105 : decode cX10_night 105 = .ok (.iload 5, 2) := by decide +kernel
theorem dX10_night_107 : decode cX10_night 107 = .ok (.aload_n 0, 1) := by decide +kernel
theorem dX10_night_108 : decode cX10_night 108 = .ok (.getfield 19, 3) := by decide +kernel
theorem dX10_night_111 : decode cX10_night 111 = .ok (.getfield 113, 3) := by decide +kernel
theorem dX10_night_114 : decode cX10_night 114 = .ok (.iload 4, 2) := by decide +kernel
theorem dX10_night_116 : decode cX10_night 116 = .ok (.iaload, 1) := by decide +kernel
theorem dX10_night_117 : decode cX10_night 117 = .ok (.if_icmp .ge 7, 3) := by decide +kernel
theorem dX10_night_120 : decode cX10_night 120 = .ok (.iconst 1, 1) := by decide +kernel
theorem dX10_night_121 : decode cX10_night 121 = .ok (.goto 4, 3) := by decide +kernel
theorem dX10_night_124 : decode cX10_night 124 = .ok (.iconst 0, 1) := by decide +kernel
theorem dX10_night_125 : decode cX10_night 125 = .ok (.istore_n 2, 1) := by decide +kernel
theorem dX10_night_126 : decode cX10_night 126 = .ok (.iinc 4 1, 3) := by decide +kernel
theorem dX10_night_129 : decode cX10_night 129 = .ok (.goto (-81), 3) := by decide +kernel
theorem dX10_night_132 : decode cX10_night 132 = .ok (.iload_n 3, 1) := by decide +kernel
theorem dX10_night_133 : decode cX10_night 133 = .ok (.ifCond .le 10, 3) := by decide +kernel
theorem dX10_night_136 : decode cX10_night 136 = .ok (.aload_n 0, 1) := by decide +kernel
theorem dX10_night_137 : decode cX10_night 137 = .ok (.getfield 61, 3) := by decide +kernel
theorem dX10_night_140 : decode cX10_night 140 = .ok (.invokevirtual 191, 3) := by decide +kernel
theorem dX10_night_143 : decode cX10_night 143 = .ok (.aload_n 0, 1) := by decide +kernel
theorem dX10_night_144 : decode cX10_night 144 = .ok (.getfield 54, 3) := by decide +kernel
theorem dX10_night_147 : decode cX10_night 147 = .ok (.iload_n 2, 1) := by decide +kernel
theorem dX10_night_148 : decode cX10_night 148 = .ok (.ifCond .eq 7, 3) := by decide +kernel
theorem dX10_night_151 : decode cX10_night 151 = .ok (.iconst 1, 1) := by decide +kernel
theorem dX10_night_152 : decode cX10_night 152 = .ok (.goto 4, 3) := by decide +kernel
theorem dX10_night_155 : decode cX10_night 155 = .ok (.iconst 0, 1) := by decide +kernel
theorem dX10_night_156 : decode cX10_night 156 = .ok (.invokevirtual 206, 3) := by decide +kernel
theorem dX10_night_159 : decode cX10_night 159 = .ok (.iload_n 3, 1) := by decide +kernel
theorem dX10_night_160 : decode cX10_night 160 = .ok (.ireturn, 1) := by decide +kernel
theorem dX10_bringTimes_0 : decode cX10_bringTimes 0 = .ok (.iconst 0, 1) := by decide +kernel
theorem dX10_bringTimes_1 : decode cX10_bringTimes 1 = .ok (.istore 4, 2) := by decide +kernel
theorem dX10_bringTimes_3 : decode cX10_bringTimes 3 = .ok (.iload 4, 2) := by decide +kernel
theorem dX10_bringTimes_5 : decode cX10_bringTimes 5 = .ok (.iload_n 3, 1) := by decide +kernel
theorem dX10_bringTimes_6 : decode cX10_bringTimes 6 = .ok (.if_icmp .ge 30, 3) := by decide +kernel
theorem dX10_bringTimes_9 : decode cX10_bringTimes 9 = .ok (.aload_n 0, 1) := by decide +kernel
theorem dX10_bringTimes_10 : decode cX10_bringTimes 10 = .ok (.getfield 26, 3) := by decide +kernel
theorem dX10_bringTimes_13 : decode cX10_bringTimes 13 = .ok (.iload_n 1, 1) := by decide +kernel
theorem dX10_bringTimes_14 : decode cX10_bringTimes 14 = .ok (.iload_n 2, 1) := by decide +kernel
theorem dX10_bringTimes_15 : decode cX10_bringTimes 15 = .ok (.invokevirtual 184, 3) := by decide +kernel
theorem dX10_bringTimes_18 : decode cX10_bringTimes 18 = .ok (.ifCond .eq 18, 3) := by decide +kernel
theorem dX10_bringTimes_21 : decode cX10_bringTimes 21 = .ok (.aload_n 0, 1) := by decide +kernel
theorem dX10_bringTimes_22 : decode cX10_bringTimes 22 = .ok (.getfield 26, 3) := by decide +kernel
theorem dX10_bringTimes_25 : decode cX10_bringTimes 25 = .ok (.iload_n 1, 1) := by decide +kernel
theorem dX10_bringTimes_26 : decode cX10_bringTimes 26 = .ok (.iload_n 2, 1) := by decide +kernel
theorem dX10_bringTimes_27 : decode cX10_bringTimes 27 = .ok (.invokevirtual 194, 3) := by decide +kernel
theorem dX10_bringTimes_30 : decode cX10_bringTimes 30 = .ok (.iinc 4 1, 3) := by decide +kernel
theorem dX10_bringTimes_33 : decode cX10_bringTimes 33 = .ok (.goto (-30), 3) := by decide +kernel
theorem dX10_bringTimes_36 : decode cX10_bringTimes 36 = .ok (.iload 4, 2) := by decide +kernel
theorem dX10_bringTimes_38 : decode cX10_bringTimes 38 = .ok (.ireturn, 1) := by decide +kernel
theorem dX10_week_0 : decode cX10_week 0 = .ok (.iload_n 1, 1) := by decide +kernel
theorem dX10_week_1 : decode cX10_week 1 = .ok (.bipush (-9), 2) := by decide +kernel
theorem dX10_week_3 : decode cX10_week 3 = .ok (.bipush 9, 2) := by decide +kernel
theorem dX10_week_5 : decode cX10_week 5 = .ok (.invokestatic 159, 3) := by decide +kernel
theorem dX10_week_8 : decode cX10_week 8 = .ok (.ifCond .eq 14, 3) := by decide +kernel
theorem dX10_week_11 : decode cX10_week 11 = .ok (.aload_n 0, 1) := by decide +kernel
theorem dX10_week_12 : decode cX10_week 12 = .ok (.getfield 26, 3) := by decide +kernel
theorem dX10_week_15 : decode cX10_week 15 = .ok (.iload_n 2, 1) := by decide +kernel
theorem dX10_week_16 : decode cX10_week 16 = .ok (.invokevirtual 210, 3) := by decide +kernel
theorem dX10_week_19 : decode cX10_week 19 = .ok (.ifCond .ne 5, 3) := by decide +kernel
theorem dX10_week_22 : decode cX10_week 22 = .ok (.iconst (-1), 1) := by decide +kernel
theorem dX10_week_23 : decode cX10_week 23 = .ok (.ireturn, 1) := by decide +kernel
theorem dX10_week_24 : decode cX10_week 24 = .ok (.aload_n 0, 1) := by decide +kernel
theorem dX10_week_25 : decode cX10_week 25 = .ok (.getfield 61, 3) := by decide +kernel
theorem dX10_week_28 : decode cX10_week 28 = .ok (.aload_n 0, 1) := by decide +kernel
theorem dX10_week_29 : decode cX10_week 29 = .ok (.getfield 26, 3) := by decide +kernel
theorem dX10_week_32 : decode cX10_week 32 = .ok (.invokevirtual 187, 3) := by decide +kernel
theorem dX10_week_35 : decode cX10_week 35 = .ok (.aload_n 0, 1) := by decide +kernel
theorem dX10_week_36 : decode cX10_week 36 = .ok (.getfield 61, 3) := by decide +kernel
theorem dX10_week_39 : decode cX10_week 39 = .ok (.invokevirtual 191, 3) := by decide +kernel
theorem dX10_week_42 : decode cX10_week 42 = .ok (.aload_n 0, 1) := by decide +kernel
theorem dX10_week_43 : decode cX10_week 43 = .ok (.iload_n 1, 1) := by decide +kernel
theorem dX10_week_44 : decode cX10_week 44 = .ok (.iload_n 2, 1) := by decide +kernel
theorem dX10_week_45 : decode cX10_week 45 = .ok (.invokevirtual 213, 3) := by decide +kernel
theorem dX10_week_48 : decode cX10_week 48 = .ok (.istore_n 3, 1) := by decide +kernel
theorem dX10_week_49 : decode cX10_week 49 = .ok (.aload_n 0, 1) := by decide +kernel
theorem dX10_week_50 : decode cX10_week 50 = .ok (.getfield 54, 3) := by decide +kernel
theorem dX10_week_53 : decode cX10_week 53 = .ok (.iconst 2, 1) := by decide +kernel
theorem dX10_week_54 : decode cX10_week 54 = .ok (.iload_n 3, 1) := by decide +kernel
theorem dX10_week_55 : decode cX10_week 55 = .ok (.imul, 1) := by decide +kernel
theorem dX10_week_56 : decode cX10_week 56 = .ok (.aload_n 0, 1) := by decide +kernel
theorem dX10_week_57 : decode cX10_week 57 = .ok (.getfield 26, 3) := by decide +kernel
theorem dX10_week_60 : decode cX10_week 60 = .ok (.getfield 163, 3) := by decide +kernel
theorem dX10_week_63 : decode cX10_week 63 = .ok (.iconst 1, 1) := by decide +kernel
theorem dX10_week_64 : decode cX10_week 64 = .ok (.iaload, 1) := by decide +kernel
theorem dX10_week_65 : decode cX10_week 65 = .ok (.imul, 1) := by decide +kernel
theorem dX10_week_66 : decode cX10_week 66 = .ok (.invokevirtual 206, 3) := by decide +kernel
theorem dX10_week_69 : decode cX10_week 69 = .ok (.aload_n 0, 1) := by decide +kernel
theorem dX10_week_70 : decode cX10_week 70 = .ok (.getfield 54, 3) := by decide +kernel
theorem dX10_week_73 : decode cX10_week 73 = .ok (.aload_n 0, 1) := by decide +kernel
theorem dX10_week_74 : decode cX10_week 74 = .ok (.getfield 33, 3) := by decide +kernel
theorem dX10_week_77 : decode cX10_week 77 = .ok (.getfield 216, 3) := by decide +kernel
theorem dX10_week_80 : decode cX10_week 80 = .ok (.invokevirtual 219, 3) := by decide +kernel
theorem dX10_week_83 : decode cX10_week 83 = .ok (.iload_n 3, 1) := by decide +kernel
theorem dX10_week_84 : decode cX10_week 84 = .ok (.ireturn, 1) := by decide +kernel
theorem dX10_weeks_0 : decode cX10_weeks 0 = .ok (.iload_n 1, 1) := by decide +kernel
theorem dX10_weeks_1 : decode cX10_weeks 1 = .ok (.iconst 0, 1) := by decide +kernel
theorem dX10_weeks_2 : decode cX10_weeks 2 = .ok (.bipush 50, 2) := by decide +kernel
theorem dX10_weeks_4 : decode cX10_weeks 4 = .ok (.invokestatic 159, 3) := by decide +kernel
theorem dX10_weeks_7 : decode cX10_weeks 7 = .ok (.ifCond .ne 5, 3) := by decide +kernel
theorem dX10_weeks_10 : decode cX10_weeks 10 = .ok (.iconst (-1), 1) := by decide +kernel
theorem dX10_weeks_11 : decode cX10_weeks 11 = .ok (.ireturn, 1) := by decide +kernel
theorem dX10_weeks_12 : decode cX10_weeks 12 = .ok (.aload_n 0, 1) := by decide +kernel
theorem dX10_weeks_13 : decode cX10_weeks 13 = .ok (.getfield 61, 3) := by decide +kernel
theorem dX10_weeks_16 : decode cX10_weeks 16 = .ok (.aload_n 0, 1) := by decide +kernel
theorem dX10_weeks_17 : decode cX10_weeks 17 = .ok (.getfield 26, 3) := by decide +kernel
theorem dX10_weeks_20 : decode cX10_weeks 20 = .ok (.invokevirtual 187, 3) := by decide +kernel
theorem dX10_weeks_23 : decode cX10_weeks 23 = .ok (.iload_n 1, 1) := by decide +kernel
theorem dX10_weeks_24 : decode cX10_weeks 24 = .ok (.ifCond .le 10, 3) := by decide +kernel
theorem dX10_weeks_27 : decode cX10_weeks 27 = .ok (.aload_n 0, 1) := by decide +kernel
theorem dX10_weeks_28 : decode cX10_weeks 28 = .ok (.getfield 61, 3) := by decide +kernel
theorem dX10_weeks_31 : decode cX10_weeks 31 = .ok (.invokevirtual 191, 3) := by decide +kernel
theorem dX10_weeks_34 : decode cX10_weeks 34 = .ok (.iconst 0, 1) := by decide +kernel
theorem dX10_weeks_35 : decode cX10_weeks 35 = .ok (.istore_n 2, 1) := by decide +kernel
theorem dX10_weeks_36 : decode cX10_weeks 36 = .ok (.iconst 0, 1) := by decide +kernel
theorem dX10_weeks_37 : decode cX10_weeks 37 = .ok (.istore_n 3, 1) := by decide +kernel
theorem dX10_weeks_38 : decode cX10_weeks 38 = .ok (.iconst 0, 1) := by decide +kernel
theorem dX10_weeks_39 : decode cX10_weeks 39 = .ok (.istore 4, 2) := by decide +kernel
theorem dX10_weeks_41 : decode cX10_weeks 41 = .ok (.iload 4, 2) := by decide +kernel
theorem dX10_weeks_43 : decode cX10_weeks 43 = .ok (.iload_n 1, 1) := by decide +kernel
theorem dX10_weeks_44 : decode cX10_weeks 44 = .ok (.if_icmp .ge 47, 3) := by decide +kernel
theorem dX10_weeks_47 : decode cX10_weeks 47 = .ok (.aload_n 0, 1) := by decide +kernel
theorem dX10_weeks_48 : decode cX10_weeks 48 = .ok (.iconst 0, 1) := by decide +kernel
theorem dX10_weeks_49 : decode cX10_weeks 49 = .ok (.iconst 0, 1) := by decide +kernel
theorem dX10_weeks_50 : decode cX10_weeks 50 = .ok (.invokevirtual 213, 3) := by decide +kernel
theorem dX10_weeks_53 : decode cX10_weeks 53 = .ok (.istore 5, 2) := by decide +kernel
theorem dX10_weeks_55 : decode cX10_weeks 55 = .ok (.iload_n 2, 1) := by decide +kernel
theorem dX10_weeks_56 : decode cX10_weeks 56 = .ok (.iconst 2, 1) := by decide +kernel
theorem dX10_weeks_57 : decode cX10_weeks 57 = .ok (.iload 5, 2) := by decide +kernel
theorem dX10_weeks_59 : decode cX10_weeks 59 = .ok (.imul, 1) := by decide +kernel
theorem dX10_weeks_60 : decode cX10_weeks 60 = .ok (.aload_n 0, 1) := by decide +kernel
theorem dX10_weeks_61 : decode cX10_weeks 61 = .ok (.getfield 26, 3) := by decide +kernel
theorem dX10_weeks_64 : decode cX10_weeks 64 = .ok (.getfield 163, 3) := by decide +kernel
theorem dX10_weeks_67 : decode cX10_weeks 67 = .ok (.iconst 1, 1) := by decide +kernel
theorem dX10_weeks_68 : decode cX10_weeks 68 = .ok (.iaload, 1) := by decide +kernel
theorem dX10_weeks_69 : decode cX10_weeks 69 = .ok (.imul, 1) := by decide +kernel
theorem dX10_weeks_70 : decode cX10_weeks 70 = .ok (.iadd, 1) := by decide +kernel
theorem dX10_weeks_71 : decode cX10_weeks 71 = .ok (.istore_n 2, 1) := by decide +kernel
theorem dX10_weeks_72 : decode cX10_weeks 72 = .ok (.iload_n 3, 1) := by decide +kernel
theorem dX10_weeks_73 : decode cX10_weeks 73 = .ok (.iload 5, 2) := by decide +kernel
theorem dX10_weeks_75 : decode cX10_weeks 75 = .ok (.ifCond .ne 7, 3) := by decide +kernel
theorem dX10_weeks_78 : decode cX10_weeks 78 = .ok (.iconst 1, 1) := by decide +kernel
theorem dX10_weeks_79 : decode cX10_weeks 79 = .ok (.goto 4, 3) := by decide +kernel
theorem dX10_weeks_82 : decode cX10_weeks 82 = .ok (.iconst 0, 1) := by decide +kernel
theorem dX10_weeks_83 : decode cX10_weeks 83 = .ok (.iadd, 1) := by decide +kernel
theorem dX10_weeks_84 : decode cX10_weeks 84 = .ok (.istore_n 3, 1) := by decide +kernel
theorem dX10_weeks_85 : decode cX10_weeks 85 = .ok (.iinc 4 1, 3) := by decide +kernel
theorem dX10_weeks_88 : decode cX10_weeks 88 = .ok (.goto (-47), 3) := by decide +kernel
theorem dX10_weeks_91 : decode cX10_weeks 91 = .ok (.aload_n 0, 1) := by decide +kernel
theorem dX10_weeks_92 : decode cX10_weeks 92 = .ok (.getfield 54, 3) := by decide +kernel
theorem dX10_weeks_95 : decode cX10_weeks 95 = .ok (.iload_n 3, 1) := by decide +kernel
theorem dX10_weeks_96 : decode cX10_weeks 96 = .ok (.invokevirtual 206, 3) := by decide +kernel
theorem dX10_weeks_99 : decode cX10_weeks 99 = .ok (.iload_n 2, 1) := by decide +kernel
theorem dX10_weeks_100 : decode cX10_weeks 100 = .ok (.ireturn, 1) := by decide +kernel
theorem dX10_letWeekPass_0 : decode cX10_letWeekPass 0 = .ok (.aload_n 0, 1) := by decide +kernel
theorem dX10_letWeekPass_1 : decode cX10_letWeekPass 1 = .ok (.getfield 33, 3) := by decide +kernel
theorem dX10_letWeekPass_4 : decode cX10_letWeekPass 4 = .ok (.aload_n 0, 1) := by decide +kernel
theorem dX10_letWeekPass_5 : decode cX10_letWeekPass 5 = .ok (.getfield 26, 3) := by decide +kernel
theorem dX10_letWeekPass_8 : decode cX10_letWeekPass 8 = .ok (.invokevirtual 222, 3) := by decide +kernel
theorem dX10_letWeekPass_11 : decode cX10_letWeekPass 11 = .ok (.aload_n 0, 1) := by decide +kernel
theorem dX10_letWeekPass_12 : decode cX10_letWeekPass 12 = .ok (.getfield 33, 3) := by decide +kernel
theorem dX10_letWeekPass_15 : decode cX10_letWeekPass 15 = .ok (.iload_n 1, 1) := by decide +kernel
theorem dX10_letWeekPass_16 : decode cX10_letWeekPass 16 = .ok (.iload_n 2, 1) := by decide +kernel
theorem dX10_letWeekPass_17 : decode cX10_letWeekPass 17 = .ok (.invokevirtual 225, 3) := by decide +kernel
theorem dX10_letWeekPass_20 : decode cX10_letWeekPass 20 = .ok (.aload_n 0, 1) := by decide +kernel
theorem dX10_letWeekPass_21 : decode cX10_letWeekPass 21 = .ok (.getfield 33, 3) := by decide +kernel
theorem dX10_letWeekPass_24 : decode cX10_letWeekPass 24 = .ok (.getfield 228, 3) := by decide +kernel
theorem dX10_letWeekPass_27 : decode cX10_letWeekPass 27 = .ok (.iconst 0, 1) := by decide +kernel
theorem dX10_letWeekPass_28 : decode cX10_letWeekPass 28 = .ok (.aload_n 0, 1) := by decide +kernel
theorem dX10_letWeekPass_29 : decode cX10_letWeekPass 29 = .ok (.getfield 26, 3) := by decide +kernel
theorem dX10_letWeekPass_32 : decode cX10_letWeekPass 32 = .ok (.getfield 134, 3) := by decide +kernel
theorem dX10_letWeekPass_35 : decode cX10_letWeekPass 35 = .ok (.iconst 0, 1) := by decide +kernel
theorem dX10_letWeekPass_36 : decode cX10_letWeekPass 36 = .ok (.bipush 9, 2) := by decide +kernel
theorem dX10_letWeekPass_38 : decode cX10_letWeekPass 38 = .ok (.invokestatic 229, 3) := by decide +kernel
theorem dX10_letWeekPass_41 : decode cX10_letWeekPass 41 = .ok (.aload_n 0, 1) := by decide +kernel
theorem dX10_letWeekPass_42 : decode cX10_letWeekPass 42 = .ok (.getfield 33, 3) := by decide +kernel
theorem dX10_letWeekPass_45 : decode cX10_letWeekPass 45 = .ok (.aload_n 0, 1) := by decide +kernel
theorem dX10_letWeekPass_46 : decode cX10_letWeekPass 46 = .ok (.getfield 26, 3) := by decide +kernel
theorem dX10_letWeekPass_49 : decode cX10_letWeekPass 49 = .ok (.getfield 147, 3) := by decide +kernel
theorem dX10_letWeekPass_52 : decode cX10_letWeekPass 52 = .ok (.aload_n 0, 1) := by decide +kernel
theorem dX10_letWeekPass_53 : decode cX10_letWeekPass 53 = .ok (.getfield 26, 3) := by decide +kernel
theorem dX10_letWeekPass_56 : decode cX10_letWeekPass 56 = .ok (.getfield 163, 3) := by decide +kernel
theorem dX10_letWeekPass_59 : decode cX10_letWeekPass 59 = .ok (.iconst 1, 1) := by decide +kernel
theorem dX10_letWeekPass_60 : decode cX10_letWeekPass 60 = .ok (.iaload, 1) := by decide +kernel
theorem dX10_letWeekPass_61 : decode cX10_letWeekPass 61 = .ok (.invokevirtual 235, 3) := by decide +kernel
theorem dX10_letWeekPass_64 : decode cX10_letWeekPass 64 = .ok (.aload_n 0, 1) := by decide +kernel
theorem dX10_letWeekPass_65 : decode cX10_letWeekPass 65 = .ok (.getfield 26, 3) := by decide +kernel
theorem dX10_letWeekPass_68 : decode cX10_letWeekPass 68 = .ok (.dup, 1) := by decide +kernel
theorem dX10_letWeekPass_69 : decode cX10_letWeekPass 69 = .ok (.getfield 239, 3) := by decide +kernel
theorem dX10_letWeekPass_72 : decode cX10_letWeekPass 72 = .ok (.iconst 1, 1) := by decide +kernel
theorem dX10_letWeekPass_73 : decode cX10_letWeekPass 73 = .ok (.iadd, 1) := by decide +kernel
theorem dX10_letWeekPass_74 : decode cX10_letWeekPass 74 = .ok (.putfield 239, 3) := by decide +kernel
theorem dX10_letWeekPass_77 : decode cX10_letWeekPass 77 = .ok (.aload_n 0, 1) := by decide +kernel
theorem dX10_letWeekPass_78 : decode cX10_letWeekPass 78 = .ok (.getfield 33, 3) := by decide +kernel
theorem dX10_letWeekPass_81 : decode cX10_letWeekPass 81 = .ok (.invokevirtual 242, 3) := by decide +kernel
theorem dX10_letWeekPass_84 : decode cX10_letWeekPass 84 = .ok (.ireturn, 1) := by decide +kernel
theorem dX10_undo_0 : decode cX10_undo 0 = .ok (.aload_n 0, 1) := by decide +kernel
theorem dX10_undo_1 : decode cX10_undo 1 = .ok (.getfield 61, 3) := by decide +kernel
theorem dX10_undo_4 : decode cX10_undo 4 = .ok (.getfield 245, 3) := by decide +kernel
theorem dX10_undo_7 : decode cX10_undo 7 = .ok (.ifCond .ne 5, 3) := by decide +kernel
theorem dX10_undo_10 : decode cX10_undo 10 = .ok (.iconst (-1), 1) := by decide +kernel
theorem dX10_undo_11 : decode cX10_undo 11 = .ok (.ireturn, 1) := by decide +kernel
theorem dX10_undo_12 : decode cX10_undo 12 = .ok (.aload_n 0, 1) := by decide +kernel
theorem dX10_undo_13 : decode cX10_undo 13 = .ok (.getfield 61, 3) := by decide +kernel
theorem dX10_undo_16 : decode cX10_undo 16 = .ok (.aload_n 0, 1) := by decide +kernel
theorem dX10_undo_17 : decode cX10_undo 17 = .ok (.getfield 26, 3) := by decide +kernel
theorem dX10_undo_20 : decode cX10_undo 20 = .ok (.invokevirtual 246, 3) := by decide +kernel
theorem dX10_undo_23 : decode cX10_undo 23 = .ok (.aload_n 0, 1) := by decide +kernel
theorem dX10_undo_24 : decode cX10_undo 24 = .ok (.getfield 61, 3) := by decide +kernel
theorem dX10_undo_27 : decode cX10_undo 27 = .ok (.getfield 245, 3) := by decide +kernel
theorem dX10_undo_30 : decode cX10_undo 30 = .ok (.ireturn, 1) := by decide +kernel
theorem dX10_even_0 : decode cX10_even 0 = .ok (.aload_n 0, 1) := by decide +kernel
theorem dX10_even_1 : decode cX10_even 1 = .ok (.getfield 33, 3) := by decide +kernel
theorem dX10_even_4 : decode cX10_even 4 = .ok (.aload_n 0, 1) := by decide +kernel
theorem dX10_even_5 : decode cX10_even 5 = .ok (.getfield 26, 3) := by decide +kernel
theorem dX10_even_8 : decode cX10_even 8 = .ok (.invokevirtual 222, 3) := by decide +kernel
theorem dX10_even_11 : decode cX10_even 11 = .ok (.aload_n 0, 1) := by decide +kernel
theorem dX10_even_12 : decode cX10_even 12 = .ok (.getfield 33, 3) := by decide +kernel
theorem dX10_even_15 : decode cX10_even 15 = .ok (.invokevirtual 249, 3) := by decide +kernel
theorem dX10_even_18 : decode cX10_even 18 = .ok (.istore_n 1, 1) := by decide +kernel
theorem dX10_even_19 : decode cX10_even 19 = .ok (.iconst 0, 1) := by decide +kernel
theorem dX10_even_20 : decode cX10_even 20 = .ok (.istore_n 2, 1) := by decide +kernel
theorem dX10_even_21 : decode cX10_even 21 = .ok (.iconst 0, 1) := by decide +kernel
theorem dX10_even_22 : decode cX10_even 22 = .ok (.istore_n 3, 1) := by decide +kernel
theorem dX10_even_23 : decode cX10_even 23 = .ok (.iload_n 3, 1) := by decide +kernel
theorem dX10_even_24 : decode cX10_even 24 = .ok (.aload_n 0, 1) := by decide +kernel
theorem dX10_even_25 : decode cX10_even 25 = .ok (.getfield 26, 3) := by decide +kernel
theorem dX10_even_28 : decode cX10_even 28 = .ok (.getfield 94, 3) := by decide +kernel
theorem dX10_even_31 : decode cX10_even 31 = .ok (.if_icmp .ge 30, 3) := by decide +kernel
theorem dX10_even_34 : decode cX10_even 34 = .ok (.iload_n 2, 1) := by decide +kernel
theorem dX10_even_35 : decode cX10_even 35 = .ok (.aload_n 0, 1) := by decide +kernel
theorem dX10_even_36 : decode cX10_even 36 = .ok (.getfield 26, 3) := by decide +kernel
theorem dX10_even_39 : decode cX10_even 39 = .ok (.iload_n 3, 1) := by decide +kernel
theorem dX10_even_40 : decode cX10_even 40 = .ok (.invokevirtual 144, 3) := by decide +kernel
theorem dX10_even_43 : decode cX10_even 43 = .ok (.ifCond .eq 9, 3) := by decide +kernel
theorem dX10_even_46 : decode cX10_even 46 = .ok (.iconst 1, 1) := by decide +kernel
theorem dX10_even_47 : decode cX10_even 47 = .ok (.iload_n 3, 1) := by decide +kernel
theorem dX10_even_48 : decode cX10_even 48 = .ok (.ishl, 1) := by decide +kernel
theorem dX10_even_49 : decode cX10_even 49 = .ok (.goto 4, 3) := by decide +kernel
theorem dX10_even_52 : decode cX10_even 52 = .ok (.iconst 0, 1) := by decide +kernel
theorem dX10_even_53 : decode cX10_even 53 = .ok (.ior, 1) := by decide +kernel
theorem dX10_even_54 : decode cX10_even 54 = .ok (.istore_n 2, 1) := by decide +kernel
theorem dX10_even_55 : decode cX10_even 55 = .ok (.iinc 3 1, 3) := by decide +kernel
theorem dX10_even_58 : decode cX10_even 58 = .ok (.goto (-35), 3) := by decide +kernel
theorem dX10_even_61 : decode cX10_even 61 = .ok (.aload_n 0, 1) := by decide +kernel
theorem dX10_even_62 : decode cX10_even 62 = .ok (.getfield 54, 3) := by decide +kernel
theorem dX10_even_65 : decode cX10_even 65 = .ok (.invokevirtual 252, 3) := by decide +kernel
theorem dX10_even_68 : decode cX10_even 68 = .ok (.iload_n 1, 1) := by decide +kernel
theorem dX10_even_69 : decode cX10_even 69 = .ok (.iconst (-1), 1) := by decide +kernel
theorem dX10_even_70 : decode cX10_even 70 = .ok (.if_icmp .eq 35, 3) := by decide +kernel
theorem dX10_even_73 : decode cX10_even 73 = .ok (.aload_n 0, 1) := by decide +kernel
theorem dX10_even_74 : decode cX10_even 74 = .ok (.getfield 54, 3) := by decide +kernel
theorem dX10_even_77 : decode cX10_even 77 = .ok (.aload_n 0, 1) := by decide +kernel
theorem dX10_even_78 : decode cX10_even 78 = .ok (.getfield 33, 3) := by decide +kernel
theorem dX10_even_81 : decode cX10_even 81 = .ok (.getfield 253, 3) := by decide +kernel
theorem dX10_even_84 : decode cX10_even 84 = .ok (.iload_n 1, 1) := by decide +kernel
theorem dX10_even_85 : decode cX10_even 85 = .ok (.iaload, 1) := by decide +kernel
theorem dX10_even_86 : decode cX10_even 86 = .ok (.invokevirtual 219, 3) := by decide +kernel
theorem dX10_even_89 : decode cX10_even 89 = .ok (.aload_n 0, 1) := by decide +kernel
theorem dX10_even_90 : decode cX10_even 90 = .ok (.getfield 54, 3) := by decide +kernel
theorem dX10_even_93 : decode cX10_even 93 = .ok (.aload_n 0, 1) := by decide +kernel
theorem dX10_even_94 : decode cX10_even 94 = .ok (.getfield 33, 3) := by decide +kernel
theorem dX10_even_97 : decode cX10_even 97 = .ok (.getfield 256, 3) := by decide +kernel
theorem dX10_even_100 : decode cX10_even 100 = .ok (.iload_n 1, 1) := by decide +kernel
theorem dX10_even_101 : decode cX10_even 101 = .ok (.iaload, 1) := by decide +kernel
theorem dX10_even_102 : decode cX10_even 102 = .ok (.invokevirtual 219, 3) := by decide +kernel
theorem dX10_even_105 : decode cX10_even 105 = .ok (.aload_n 0, 1) := by decide +kernel
theorem dX10_even_106 : decode cX10_even 106 = .ok (.getfield 54, 3) := by decide +kernel
theorem dX10_even_109 : decode cX10_even 109 = .ok (.iload_n 2, 1) := by decide +kernel
theorem dX10_even_110 : decode cX10_even 110 = .ok (.invokevirtual 219, 3) := by decide +kernel
theorem dX10_even_113 : decode cX10_even 113 = .ok (.aload_n 0, 1) := by decide +kernel
theorem dX10_even_114 : decode cX10_even 114 = .ok (.getfield 33, 3) := by decide +kernel
theorem dX10_even_117 : decode cX10_even 117 = .ok (.invokevirtual 242, 3) := by decide +kernel
theorem dX10_even_120 : decode cX10_even 120 = .ok (.ireturn, 1) := by decide +kernel
theorem dX10_fewest_0 : decode cX10_fewest 0 = .ok (.aload_n 0, 1) := by decide +kernel
theorem dX10_fewest_1 : decode cX10_fewest 1 = .ok (.iconst (-1), 1) := by decide +kernel
theorem dX10_fewest_2 : decode cX10_fewest 2 = .ok (.iconst 0, 1) := by decide +kernel
theorem dX10_fewest_3 : decode cX10_fewest 3 = .ok (.invokevirtual 259, 3) := by decide +kernel
theorem dX10_fewest_6 : decode cX10_fewest 6 = .ok (.ireturn, 1) := by decide +kernel
theorem dX10_fewestSuch_0 : decode cX10_fewestSuch 0 = .ok (.aload_n 0, 1) := by decide +kernel
theorem dX10_fewestSuch_1 : decode cX10_fewestSuch 1 = .ok (.invokevirtual 262, 3) := by decide +kernel
theorem dX10_fewestSuch_4 : decode cX10_fewestSuch 4 = .ok (.aload_n 0, 1) := by decide +kernel
theorem dX10_fewestSuch_5 : decode cX10_fewestSuch 5 = .ok (.getfield 40, 3) := by decide +kernel
theorem dX10_fewestSuch_8 : decode cX10_fewestSuch 8 = .ok (.aload_n 0, 1) := by decide +kernel
theorem dX10_fewestSuch_9 : decode cX10_fewestSuch 9 = .ok (.getfield 33, 3) := by decide +kernel
theorem dX10_fewestSuch_12 : decode cX10_fewestSuch 12 = .ok (.iload_n 1, 1) := by decide +kernel
theorem dX10_fewestSuch_13 : decode cX10_fewestSuch 13 = .ok (.iload_n 2, 1) := by decide +kernel
theorem dX10_fewestSuch_14 : decode cX10_fewestSuch 14 = .ok (.invokevirtual 265, 3) := by decide +kernel
theorem dX10_fewestSuch_17 : decode cX10_fewestSuch 17 = .ok (.istore_n 3, 1) := by decide +kernel
theorem dX10_fewestSuch_18 : decode cX10_fewestSuch 18 = .ok (.iload_n 3, 1) := by decide +kernel
theorem dX10_fewestSuch_19 : decode cX10_fewestSuch 19 = .ok (.ifCond .ge 5, 3) := by decide +kernel
theorem dX10_fewestSuch_22 : decode cX10_fewestSuch 22 = .ok (.iload_n 3, 1) := by decide +kernel
theorem dX10_fewestSuch_23 : decode cX10_fewestSuch 23 = .ok (.ireturn, 1) := by decide +kernel
theorem dX10_fewestSuch_24 : decode cX10_fewestSuch 24 = .ok (.aload_n 0, 1) := by decide +kernel
theorem dX10_fewestSuch_25 : decode cX10_fewestSuch 25 = .ok (.getfield 40, 3) := by decide +kernel
theorem dX10_fewestSuch_28 : decode cX10_fewestSuch 28 = .ok (.iload_n 3, 1) := by decide +kernel
theorem dX10_fewestSuch_29 : decode cX10_fewestSuch 29 = .ok (.aload_n 0, 1) := by decide +kernel
theorem dX10_fewestSuch_30 : decode cX10_fewestSuch 30 = .ok (.getfield 54, 3) := by decide +kernel
theorem dX10_fewestSuch_33 : decode cX10_fewestSuch 33 = .ok (.invokevirtual 269, 3) := by decide +kernel
theorem dX10_fewestSuch_36 : decode cX10_fewestSuch 36 = .ok (.ireturn, 1) := by decide +kernel
theorem dX10_prepareSearch_0 : decode cX10_prepareSearch 0 = .ok (.aload_n 0, 1) := by decide +kernel
theorem dX10_prepareSearch_1 : decode cX10_prepareSearch 1 = .ok (.getfield 33, 3) := by decide +kernel
theorem dX10_prepareSearch_4 : decode cX10_prepareSearch 4 = .ok (.aload_n 0, 1) := by decide +kernel
theorem dX10_prepareSearch_5 : decode cX10_prepareSearch 5 = .ok (.getfield 26, 3) := by decide +kernel
theorem dX10_prepareSearch_8 : decode cX10_prepareSearch 8 = .ok (.invokevirtual 222, 3) := by decide +kernel
theorem dX10_prepareSearch_11 : decode cX10_prepareSearch 11 = .ok (.aload_n 0, 1) := by decide +kernel
theorem dX10_prepareSearch_12 : decode cX10_prepareSearch 12 = .ok (.getfield 40, 3) := by decide +kernel
theorem dX10_prepareSearch_15 : decode cX10_prepareSearch 15 = .ok (.aload_n 0, 1) := by decide +kernel
theorem dX10_prepareSearch_16 : decode cX10_prepareSearch 16 = .ok (.getfield 26, 3) := by decide +kernel
theorem dX10_prepareSearch_19 : decode cX10_prepareSearch 19 = .ok (.invokevirtual 273, 3) := by decide +kernel
theorem dX10_prepareSearch_22 : decode cX10_prepareSearch 22 = .ok (.return_, 1) := by decide +kernel
theorem dX10_reach_0 : decode cX10_reach 0 = .ok (.iload_n 1, 1) := by decide +kernel
theorem dX10_reach_1 : decode cX10_reach 1 = .ok (.iconst 0, 1) := by decide +kernel
theorem dX10_reach_2 : decode cX10_reach 2 = .ok (.iconst 4, 1) := by decide +kernel
theorem dX10_reach_3 : decode cX10_reach 3 = .ok (.invokestatic 159, 3) := by decide +kernel
theorem dX10_reach_6 : decode cX10_reach 6 = .ok (.ifCond .ne 5, 3) := by decide +kernel
theorem dX10_reach_9 : decode cX10_reach 9 = .ok (.iconst (-1), 1) := by decide +kernel
theorem dX10_reach_10 : decode cX10_reach 10 = .ok (.ireturn, 1) := by decide +kernel
theorem dX10_reach_11 : decode cX10_reach 11 = .ok (.aload_n 0, 1) := by decide +kernel
theorem dX10_reach_12 : decode cX10_reach 12 = .ok (.invokevirtual 262, 3) := by decide +kernel
theorem dX10_reach_15 : decode cX10_reach 15 = .ok (.aload_n 0, 1) := by decide +kernel
theorem dX10_reach_16 : decode cX10_reach 16 = .ok (.getfield 40, 3) := by decide +kernel
theorem dX10_reach_19 : decode cX10_reach 19 = .ok (.aload_n 0, 1) := by decide +kernel
theorem dX10_reach_20 : decode cX10_reach 20 = .ok (.getfield 33, 3) := by decide +kernel
theorem dX10_reach_23 : decode cX10_reach 23 = .ok (.invokevirtual 276, 3) := by decide +kernel
theorem dX10_reach_26 : decode cX10_reach 26 = .ok (.iload_n 1, 1) := by decide +kernel
theorem dX10_reach_27 : decode cX10_reach 27 = .ok (.invokevirtual 280, 3) := by decide +kernel
theorem dX10_reach_30 : decode cX10_reach 30 = .ok (.ifCond .ne 6, 3) := by decide +kernel
theorem dX10_reach_33 : decode cX10_reach 33 = .ok (.bipush (-3), 2) := by decide +kernel
theorem dX10_reach_35 : decode cX10_reach 35 = .ok (.ireturn, 1) := by decide +kernel
theorem dX10_reach_36 : decode cX10_reach 36 = .ok (.iconst 0, 1) := by decide +kernel
theorem dX10_reach_37 : decode cX10_reach 37 = .ok (.istore_n 2, 1) := by decide +kernel
theorem dX10_reach_38 : decode cX10_reach 38 = .ok (.bipush 36, 2) := by decide +kernel
theorem dX10_reach_40 : decode cX10_reach 40 = .ok (.istore_n 3, 1) := by decide +kernel
theorem dX10_reach_41 : decode cX10_reach 41 = .ok (.iconst 0, 1) := by decide +kernel
theorem dX10_reach_42 : decode cX10_reach 42 = .ok (.istore 4, 2) := by decide +kernel
theorem dX10_reach_44 : decode cX10_reach 44 = .ok (.iload 4, 2) := by decide +kernel
theorem dX10_reach_46 : decode cX10_reach 46 = .ok (.aload_n 0, 1) := by decide +kernel
theorem dX10_reach_47 : decode cX10_reach 47 = .ok (.getfield 40, 3) := by decide +kernel
theorem dX10_reach_50 : decode cX10_reach 50 = .ok (.getfield 284, 3) := by decide +kernel
theorem dX10_reach_53 : decode cX10_reach 53 = .ok (.if_icmp .ge 55, 3) := by decide +kernel
theorem dX10_reach_56 : decode cX10_reach 56 = .ok (.aload_n 0, 1) := by decide +kernel
theorem dX10_reach_57 : decode cX10_reach 57 = .ok (.getfield 33, 3) := by decide +kernel
theorem dX10_reach_60 : decode cX10_reach 60 = .ok (.aload_n 0, 1) := by decide +kernel
theorem dX10_reach_61 : decode cX10_reach 61 = .ok (.getfield 40, 3) := by decide +kernel
theorem dX10_reach_64 : decode cX10_reach 64 = .ok (.getfield 287, 3) := by decide +kernel
theorem dX10_reach_67 : decode cX10_reach 67 = .ok (.iload 4, 2) := by decide +kernel
theorem dX10_reach_69 : decode cX10_reach 69 = .ok (.laload, 1) := by decide +kernel
theorem dX10_reach_70 : decode cX10_reach 70 = .ok (.invokevirtual 291, 3) := by decide +kernel
theorem dX10_reach_73 : decode cX10_reach 73 = .ok (.aload_n 0, 1) := by decide +kernel
theorem dX10_reach_74 : decode cX10_reach 74 = .ok (.getfield 33, 3) := by decide +kernel
theorem dX10_reach_77 : decode cX10_reach 77 = .ok (.invokevirtual 242, 3) := by decide +kernel
theorem dX10_reach_80 : decode cX10_reach 80 = .ok (.istore 5, 2) := by decide +kernel
theorem dX10_reach_82 : decode cX10_reach 82 = .ok (.iload_n 2, 1) := by decide +kernel
theorem dX10_reach_83 : decode cX10_reach 83 = .ok (.iload 5, 2) := by decide +kernel
theorem dX10_reach_85 : decode cX10_reach 85 = .ok (.ifCond .ne 7, 3) := by decide +kernel
theorem dX10_reach_88 : decode cX10_reach 88 = .ok (.iconst 1, 1) := by decide +kernel
theorem dX10_reach_89 : decode cX10_reach 89 = .ok (.goto 4, 3) := by decide +kernel
theorem dX10_reach_92 : decode cX10_reach 92 = .ok (.iconst 0, 1) := by decide +kernel
theorem dX10_reach_93 : decode cX10_reach 93 = .ok (.iadd, 1) := by decide +kernel
theorem dX10_reach_94 : decode cX10_reach 94 = .ok (.istore_n 2, 1) := by decide +kernel
theorem dX10_reach_95 : decode cX10_reach 95 = .ok (.iload_n 3, 1) := by decide +kernel
theorem dX10_reach_96 : decode cX10_reach 96 = .ok (.iload 5, 2) := by decide +kernel
theorem dX10_reach_98 : decode cX10_reach 98 = .ok (.invokestatic 176, 3) := by decide +kernel
theorem dX10_reach_101 : decode cX10_reach 101 = .ok (.istore_n 3, 1) := by decide +kernel
theorem dX10_reach_102 : decode cX10_reach 102 = .ok (.iinc 4 1, 3) := by decide +kernel
theorem dX10_reach_105 : decode cX10_reach 105 = .ok (.goto (-61), 3) := by decide +kernel
theorem dX10_reach_108 : decode cX10_reach 108 = .ok (.aload_n 0, 1) := by decide +kernel
theorem dX10_reach_109 : decode cX10_reach 109 = .ok (.getfield 54, 3) := by decide +kernel
theorem dX10_reach_112 : decode cX10_reach 112 = .ok (.iload_n 2, 1) := by decide +kernel
theorem dX10_reach_113 : decode cX10_reach 113 = .ok (.invokevirtual 206, 3) := by decide +kernel
theorem dX10_reach_116 : decode cX10_reach 116 = .ok (.aload_n 0, 1) := by decide +kernel
theorem dX10_reach_117 : decode cX10_reach 117 = .ok (.getfield 54, 3) := by decide +kernel
theorem dX10_reach_120 : decode cX10_reach 120 = .ok (.iload_n 3, 1) := by decide +kernel
theorem dX10_reach_121 : decode cX10_reach 121 = .ok (.invokevirtual 219, 3) := by decide +kernel
theorem dX10_reach_124 : decode cX10_reach 124 = .ok (.aload_n 0, 1) := by decide +kernel
theorem dX10_reach_125 : decode cX10_reach 125 = .ok (.getfield 40, 3) := by decide +kernel
theorem dX10_reach_128 : decode cX10_reach 128 = .ok (.getfield 284, 3) := by decide +kernel
theorem dX10_reach_131 : decode cX10_reach 131 = .ok (.ireturn, 1) := by decide +kernel
theorem dX10_selfish_0 : decode cX10_selfish 0 = .ok (.aload_n 0, 1) := by decide +kernel
theorem dX10_selfish_1 : decode cX10_selfish 1 = .ok (.getfield 26, 3) := by decide +kernel
theorem dX10_selfish_4 : decode cX10_selfish 4 = .ok (.iload_n 1, 1) := by decide +kernel
theorem dX10_selfish_5 : decode cX10_selfish 5 = .ok (.invokevirtual 124, 3) := by decide +kernel
theorem dX10_selfish_8 : decode cX10_selfish 8 = .ok (.ifCond .ne 6, 3) := by decide +kernel
theorem dX10_selfish_11 : decode cX10_selfish 11 = .ok (.bipush (-2), 2) := by decide +kernel
theorem dX10_selfish_13 : decode cX10_selfish 13 = .ok (.ireturn, 1) := by decide +kernel
theorem dX10_selfish_14 : decode cX10_selfish 14 = .ok (.aload_n 0, 1) := by decide +kernel
theorem dX10_selfish_15 : decode cX10_selfish 15 = .ok (.getfield 26, 3) := by decide +kernel
theorem dX10_selfish_18 : decode cX10_selfish 18 = .ok (.iload_n 1, 1) := by decide +kernel
theorem dX10_selfish_19 : decode cX10_selfish 19 = .ok (.invokevirtual 295, 3) := by decide +kernel
theorem dX10_selfish_22 : decode cX10_selfish 22 = .ok (.istore_n 2, 1) := by decide +kernel
theorem dX10_selfish_23 : decode cX10_selfish 23 = .ok (.aload_n 0, 1) := by decide +kernel
theorem dX10_selfish_24 : decode cX10_selfish 24 = .ok (.getfield 54, 3) := by decide +kernel
theorem dX10_selfish_27 : decode cX10_selfish 27 = .ok (.aload_n 0, 1) := by decide +kernel
theorem dX10_selfish_28 : decode cX10_selfish 28 = .ok (.getfield 26, 3) := by decide +kernel
theorem dX10_selfish_31 : decode cX10_selfish 31 = .ok (.iload_n 1, 1) := by decide +kernel
theorem dX10_selfish_32 : decode cX10_selfish 32 = .ok (.iload_n 2, 1) := by decide +kernel
theorem dX10_selfish_33 : decode cX10_selfish 33 = .ok (.invokevirtual 298, 3) := by decide +kernel
theorem dX10_selfish_36 : decode cX10_selfish 36 = .ok (.invokevirtual 206, 3) := by decide +kernel
theorem dX10_selfish_39 : decode cX10_selfish 39 = .ok (.iload_n 2, 1) := by decide +kernel
theorem dX10_selfish_40 : decode cX10_selfish 40 = .ok (.ireturn, 1) := by decide +kernel
theorem dX10_rests_0 : decode cX10_rests 0 = .ok (.iload_n 1, 1) := by decide +kernel
theorem dX10_rests_1 : decode cX10_rests 1 = .ok (.iconst 0, 1) := by decide +kernel
theorem dX10_rests_2 : decode cX10_rests 2 = .ok (.bipush 40, 2) := by decide +kernel
theorem dX10_rests_4 : decode cX10_rests 4 = .ok (.invokestatic 159, 3) := by decide +kernel
theorem dX10_rests_7 : decode cX10_rests 7 = .ok (.ifCond .ne 5, 3) := by decide +kernel
theorem dX10_rests_10 : decode cX10_rests 10 = .ok (.iconst (-1), 1) := by decide +kernel
theorem dX10_rests_11 : decode cX10_rests 11 = .ok (.ireturn, 1) := by decide +kernel
theorem dX10_rests_12 : decode cX10_rests 12 = .ok (.aload_n 0, 1) := by decide +kernel
theorem dX10_rests_13 : decode cX10_rests 13 = .ok (.getfield 61, 3) := by decide +kernel
theorem dX10_rests_16 : decode cX10_rests 16 = .ok (.aload_n 0, 1) := by decide +kernel
theorem dX10_rests_17 : decode cX10_rests 17 = .ok (.getfield 26, 3) := by decide +kernel
theorem dX10_rests_20 : decode cX10_rests 20 = .ok (.invokevirtual 187, 3) := by decide +kernel
theorem dX10_rests_23 : decode cX10_rests 23 = .ok (.iconst 0, 1) := by decide +kernel
theorem dX10_rests_24 : decode cX10_rests 24 = .ok (.istore_n 2, 1) := by decide +kernel
theorem dX10_rests_25 : decode cX10_rests 25 = .ok (.iconst 0, 1) := by decide +kernel
theorem dX10_rests_26 : decode cX10_rests 26 = .ok (.istore_n 3, 1) := by decide +kernel
theorem dX10_rests_27 : decode cX10_rests 27 = .ok (.iconst 0, 1) := by decide +kernel
theorem dX10_rests_28 : decode cX10_rests 28 = .ok (.istore 4, 2) := by decide +kernel
theorem dX10_rests_30 : decode cX10_rests 30 = .ok (.iload 4, 2) := by decide +kernel
theorem dX10_rests_32 : decode cX10_rests 32 = .ok (.iload_n 1, 1) := by decide +kernel
theorem dX10_rests_33 : decode cX10_rests 33 = .ok (.if_icmp .ge 40, 3) := by decide +kernel
theorem dX10_rests_36 : decode cX10_rests 36 = .ok (.iload_n 2, 1) := by decide +kernel
theorem dX10_rests_37 : decode cX10_rests 37 = .ok (.ifCond .ne 36, 3) := by decide +kernel
theorem dX10_rests_40 : decode cX10_rests 40 = .ok (.aload_n 0, 1) := by decide +kernel
theorem dX10_rests_41 : decode cX10_rests 41 = .ok (.invokevirtual 301, 3) := by decide +kernel
theorem dX10_rests_44 : decode cX10_rests 44 = .ok (.ifCond .ne 7, 3) := by decide +kernel
theorem dX10_rests_47 : decode cX10_rests 47 = .ok (.iconst 1, 1) := by decide +kernel
theorem dX10_rests_48 : decode cX10_rests 48 = .ok (.goto 4, 3) := by decide +kernel
theorem dX10_rests_51 : decode cX10_rests 51 = .ok (.iconst 0, 1) := by decide +kernel
theorem dX10_rests_52 : decode cX10_rests 52 = .ok (.istore_n 2, 1) := by decide +kernel
theorem dX10_rests_53 : decode cX10_rests 53 = .ok (.iload_n 3, 1) := by decide +kernel
theorem dX10_rests_54 : decode cX10_rests 54 = .ok (.ifCond .ne 7, 3) := by decide +kernel
theorem dX10_rests_57 : decode cX10_rests 57 = .ok (.iload_n 2, 1) := by decide +kernel
theorem dX10_rests_58 : decode cX10_rests 58 = .ok (.ifCond .ne 7, 3) := by decide +kernel
theorem dX10_rests_61 : decode cX10_rests 61 = .ok (.iconst 1, 1) := by decide +kernel
theorem dX10_rests_62 : decode cX10_rests 62 = .ok (.goto 4, 3) := by decide +kernel
theorem dX10_rests_65 : decode cX10_rests 65 = .ok (.iconst 0, 1) := by decide +kernel
theorem dX10_rests_66 : decode cX10_rests 66 = .ok (.istore_n 3, 1) := by decide +kernel
theorem dX10_rests_67 : decode cX10_rests 67 = .ok (.iinc 4 1, 3) := by decide +kernel
theorem dX10_rests_70 : decode cX10_rests 70 = .ok (.goto (-40), 3) := by decide +kernel
theorem dX10_rests_73 : decode cX10_rests 73 = .ok (.iload_n 3, 1) := by decide +kernel
theorem dX10_rests_74 : decode cX10_rests 74 = .ok (.ifCond .eq 10, 3) := by decide +kernel
theorem dX10_rests_77 : decode cX10_rests 77 = .ok (.aload_n 0, 1) := by decide +kernel
theorem dX10_rests_78 : decode cX10_rests 78 = .ok (.getfield 61, 3) := by decide +kernel
theorem dX10_rests_81 : decode cX10_rests 81 = .ok (.invokevirtual 191, 3) := by decide +kernel
theorem dX10_rests_84 : decode cX10_rests 84 = .ok (.aload_n 0, 1) := by decide +kernel
theorem dX10_rests_85 : decode cX10_rests 85 = .ok (.getfield 33, 3) := by decide +kernel
theorem dX10_rests_88 : decode cX10_rests 88 = .ok (.aload_n 0, 1) := by decide +kernel
theorem dX10_rests_89 : decode cX10_rests 89 = .ok (.getfield 26, 3) := by decide +kernel
theorem dX10_rests_92 : decode cX10_rests 92 = .ok (.invokevirtual 222, 3) := by decide +kernel
theorem dX10_rests_95 : decode cX10_rests 95 = .ok (.aload_n 0, 1) := by decide +kernel
theorem dX10_rests_96 : decode cX10_rests 96 = .ok (.getfield 54, 3) := by decide +kernel
theorem dX10_rests_99 : decode cX10_rests 99 = .ok (.iload_n 2, 1) := by decide +kernel
theorem dX10_rests_100 : decode cX10_rests 100 = .ok (.ifCond .eq 7, 3) := by decide +kernel
theorem dX10_rests_103 : decode cX10_rests 103 = .ok (.iconst 1, 1) := by decide +kernel
theorem dX10_rests_104 : decode cX10_rests 104 = .ok (.goto 4, 3) := by decide +kernel
theorem dX10_rests_107 : decode cX10_rests 107 = .ok (.iconst 0, 1) := by decide +kernel
theorem dX10_rests_108 : decode cX10_rests 108 = .ok (.invokevirtual 206, 3) := by decide +kernel
theorem dX10_rests_111 : decode cX10_rests 111 = .ok (.aload_n 0, 1) := by decide +kernel
theorem dX10_rests_112 : decode cX10_rests 112 = .ok (.getfield 54, 3) := by decide +kernel
theorem dX10_rests_115 : decode cX10_rests 115 = .ok (.aload_n 0, 1) := by decide +kernel
theorem dX10_rests_116 : decode cX10_rests 116 = .ok (.getfield 33, 3) := by decide +kernel
theorem dX10_rests_119 : decode cX10_rests 119 = .ok (.invokevirtual 242, 3) := by decide +kernel
theorem dX10_rests_122 : decode cX10_rests 122 = .ok (.invokevirtual 219, 3) := by decide +kernel
theorem dX10_rests_125 : decode cX10_rests 125 = .ok (.iload 4, 2) := by decide +kernel
theorem dX10_rests_127 : decode cX10_rests 127 = .ok (.ireturn, 1) := by decide +kernel
theorem dX10_carryRound_0 : decode cX10_carryRound 0 = .ok (.iconst 0, 1) := by decide +kernel
theorem dX10_carryRound_1 : decode cX10_carryRound 1 = .ok (.istore_n 1, 1) := by decide +kernel
theorem dX10_carryRound_2 : decode cX10_carryRound 2 = .ok (.iconst 0, 1) := by decide +kernel
theorem dX10_carryRound_3 : decode cX10_carryRound 3 = .ok (.istore_n 2, 1) := by decide +kernel
theorem dX10_carryRound_4 : decode cX10_carryRound 4 = .ok (.iload_n 2, 1) := by decide +kernel
theorem dX10_carryRound_5 : decode cX10_carryRound 5 = .ok (.aload_n 0, 1) := by decide +kernel
theorem dX10_carryRound_6 : decode cX10_carryRound 6 = .ok (.getfield 26, 3) := by decide +kernel
theorem dX10_carryRound_9 : decode cX10_carryRound 9 = .ok (.getfield 94, 3) := by decide +kernel
theorem dX10_carryRound_12 : decode cX10_carryRound 12 = .ok (.if_icmp .ge 34, 3) := by decide +kernel
theorem dX10_carryRound_15 : decode cX10_carryRound 15 = .ok (.aload_n 0, 1) := by decide +kernel
theorem dX10_carryRound_16 : decode cX10_carryRound 16 = .ok (.getfield 26, 3) := by decide +kernel
theorem dX10_carryRound_19 : decode cX10_carryRound 19 = .ok (.iload_n 2, 1) := by decide +kernel
theorem dX10_carryRound_20 : decode cX10_carryRound 20 = .ok (.invokevirtual 295, 3) := by decide +kernel
theorem dX10_carryRound_23 : decode cX10_carryRound 23 = .ok (.istore_n 3, 1) := by decide +kernel
theorem dX10_carryRound_24 : decode cX10_carryRound 24 = .ok (.iload_n 3, 1) := by decide +kernel
theorem dX10_carryRound_25 : decode cX10_carryRound 25 = .ok (.iconst (-1), 1) := by decide +kernel
theorem dX10_carryRound_26 : decode cX10_carryRound 26 = .ok (.if_icmp .eq 14, 3) := by decide +kernel
theorem dX10_carryRound_29 : decode cX10_carryRound 29 = .ok (.aload_n 0, 1) := by decide +kernel
theorem dX10_carryRound_30 : decode cX10_carryRound 30 = .ok (.getfield 26, 3) := by decide +kernel
theorem dX10_carryRound_33 : decode cX10_carryRound 33 = .ok (.iload_n 2, 1) := by decide +kernel
theorem dX10_carryRound_34 : decode cX10_carryRound 34 = .ok (.iload_n 3, 1) := by decide +kernel
theorem dX10_carryRound_35 : decode cX10_carryRound 35 = .ok (.invokevirtual 194, 3) := by decide +kernel
theorem dX10_carryRound_38 : decode cX10_carryRound 38 = .ok (.iconst 1, 1) := by decide +kernel
theorem dX10_carryRound_39 : decode cX10_carryRound 39 = .ok (.istore_n 1, 1) := by decide +kernel
theorem dX10_carryRound_40 : decode cX10_carryRound 40 = .ok (.iinc 2 1, 3) := by decide +kernel
theorem dX10_carryRound_43 : decode cX10_carryRound 43 = .ok (.goto (-39), 3) := by decide +kernel
theorem dX10_carryRound_46 : decode cX10_carryRound 46 = .ok (.iload_n 1, 1) := by decide +kernel
theorem dX10_carryRound_47 : decode cX10_carryRound 47 = .ok (.ireturn, 1) := by decide +kernel
theorem dX10_alter_0 : decode cX10_alter 0 = .ok (.aload_n 0, 1) := by decide +kernel
theorem dX10_alter_1 : decode cX10_alter 1 = .ok (.getfield 26, 3) := by decide +kernel
theorem dX10_alter_4 : decode cX10_alter 4 = .ok (.iload_n 1, 1) := by decide +kernel
theorem dX10_alter_5 : decode cX10_alter 5 = .ok (.invokevirtual 124, 3) := by decide +kernel
theorem dX10_alter_8 : decode cX10_alter 8 = .ok (.ifCond .ne 5, 3) := by decide +kernel
theorem dX10_alter_11 : decode cX10_alter 11 = .ok (.iconst (-1), 1) := by decide +kernel
theorem dX10_alter_12 : decode cX10_alter 12 = .ok (.ireturn, 1) := by decide +kernel
theorem dX10_alter_13 : decode cX10_alter 13 = .ok (.aload_n 0, 1) := by decide +kernel
theorem dX10_alter_14 : decode cX10_alter 14 = .ok (.getfield 26, 3) := by decide +kernel
theorem dX10_alter_17 : decode cX10_alter 17 = .ok (.iload_n 1, 1) := by decide +kernel
theorem dX10_alter_18 : decode cX10_alter 18 = .ok (.invokevirtual 140, 3) := by decide +kernel
theorem dX10_alter_21 : decode cX10_alter 21 = .ok (.istore_n 2, 1) := by decide +kernel
theorem dX10_alter_22 : decode cX10_alter 22 = .ok (.iconst 0, 1) := by decide +kernel
theorem dX10_alter_23 : decode cX10_alter 23 = .ok (.istore_n 3, 1) := by decide +kernel
theorem dX10_alter_24 : decode cX10_alter 24 = .ok (.iload_n 3, 1) := by decide +kernel
theorem dX10_alter_25 : decode cX10_alter 25 = .ok (.bipush 99, 2) := by decide +kernel
theorem dX10_alter_27 : decode cX10_alter 27 = .ok (.if_icmp .gt 95, 3) := by decide +kernel
theorem dX10_alter_30 : decode cX10_alter 30 = .ok (.aload_n 0, 1) := by decide +kernel
theorem dX10_alter_31 : decode cX10_alter 31 = .ok (.getfield 26, 3) := by decide +kernel
theorem dX10_alter_34 : decode cX10_alter 34 = .ok (.getfield 134, 3) := by decide +kernel
theorem dX10_alter_37 : decode cX10_alter 37 = .ok (.iload_n 1, 1) := by decide +kernel
theorem dX10_alter_38 : decode cX10_alter 38 = .ok (.iaload, 1) := by decide +kernel
theorem dX10_alter_39 : decode cX10_alter 39 = .ok (.iload_n 3, 1) := by decide +kernel
theorem dX10_alter_40 : decode cX10_alter 40 = .ok (.isub, 1) := by decide +kernel
theorem dX10_alter_41 : decode cX10_alter 41 = .ok (.istore 4, 2) := by decide +kernel
theorem dX10_alter_43 : decode cX10_alter 43 = .ok (.aload_n 0, 1) := by decide +kernel
theorem dX10_alter_44 : decode cX10_alter 44 = .ok (.getfield 26, 3) := by decide +kernel
theorem dX10_alter_47 : decode cX10_alter 47 = .ok (.getfield 134, 3) := by decide +kernel
theorem dX10_alter_50 : decode cX10_alter 50 = .ok (.iload_n 1, 1) := by decide +kernel
theorem dX10_alter_51 : decode cX10_alter 51 = .ok (.iaload, 1) := by decide +kernel
theorem dX10_alter_52 : decode cX10_alter 52 = .ok (.iload_n 3, 1) := by decide +kernel
theorem dX10_alter_53 : decode cX10_alter 53 = .ok (.iadd, 1) := by decide +kernel
theorem dX10_alter_54 : decode cX10_alter 54 = .ok (.istore 5, 2) := by decide +kernel
theorem dX10_alter_56 : decode cX10_alter 56 = .ok (.iload 4, 2) := by decide +kernel
theorem dX10_alter_58 : decode cX10_alter 58 = .ok (.ifCond .lt 27, 3) := by decide +kernel
theorem dX10_alter_61 : decode cX10_alter 61 = .ok (.aload_n 0, 1) := by decide +kernel
theorem dX10_alter_62 : decode cX10_alter 62 = .ok (.getfield 26, 3) := by decide +kernel
theorem dX10_alter_65 : decode cX10_alter 65 = .ok (.iload 4, 2) := by decide +kernel
theorem dX10_alter_67 : decode cX10_alter 67 = .ok (.iload_n 2, 1) := by decide +kernel
theorem dX10_alter_68 : decode cX10_alter 68 = .ok (.invokevirtual 305, 3) := by decide +kernel
theorem dX10_alter_71 : decode cX10_alter 71 = .ok (.ifCond .eq 14, 3) := by decide +kernel
theorem dX10_alter_74 : decode cX10_alter 74 = .ok (.aload_n 0, 1) := by decide +kernel
theorem dX10_alter_75 : decode cX10_alter 75 = .ok (.getfield 54, 3) := by decide +kernel
theorem dX10_alter_78 : decode cX10_alter 78 = .ok (.iload 4, 2) := by decide +kernel
theorem dX10_alter_80 : decode cX10_alter 80 = .ok (.invokevirtual 206, 3) := by decide +kernel
theorem dX10_alter_83 : decode cX10_alter 83 = .ok (.iload_n 3, 1) := by decide +kernel
theorem dX10_alter_84 : decode cX10_alter 84 = .ok (.ireturn, 1) := by decide +kernel
theorem dX10_alter_85 : decode cX10_alter 85 = .ok (.iload 5, 2) := by decide +kernel
theorem dX10_alter_87 : decode cX10_alter 87 = .ok (.bipush 99, 2) := by decide +kernel
theorem dX10_alter_89 : decode cX10_alter 89 = .ok (.if_icmp .gt 27, 3) := by decide +kernel
theorem dX10_alter_92 : decode cX10_alter 92 = .ok (.aload_n 0, 1) := by decide +kernel
theorem dX10_alter_93 : decode cX10_alter 93 = .ok (.getfield 26, 3) := by decide +kernel
theorem dX10_alter_96 : decode cX10_alter 96 = .ok (.iload 5, 2) := by decide +kernel
theorem dX10_alter_98 : decode cX10_alter 98 = .ok (.iload_n 2, 1) := by decide +kernel
theorem dX10_alter_99 : decode cX10_alter 99 = .ok (.invokevirtual 305, 3) := by decide +kernel
theorem dX10_alter_102 : decode cX10_alter 102 = .ok (.ifCond .eq 14, 3) := by decide +kernel
theorem dX10_alter_105 : decode cX10_alter 105 = .ok (.aload_n 0, 1) := by decide +kernel
theorem dX10_alter_106 : decode cX10_alter 106 = .ok (.getfield 54, 3) := by decide +kernel
theorem dX10_alter_109 : decode cX10_alter 109 = .ok (.iload 5, 2) := by decide +kernel
theorem dX10_alter_111 : decode cX10_alter 111 = .ok (.invokevirtual 206, 3) := by decide +kernel
theorem dX10_alter_114 : decode cX10_alter 114 = .ok (.iload_n 3, 1) := by decide +kernel
theorem dX10_alter_115 : decode cX10_alter 115 = .ok (.ireturn, 1) := by decide +kernel
theorem dX10_alter_116 : decode cX10_alter 116 = .ok (.iinc 3 1, 3) := by decide +kernel
theorem dX10_alter_119 : decode cX10_alter 119 = .ok (.goto (-95), 3) := by decide +kernel
theorem dX10_alter_122 : decode cX10_alter 122 = .ok (.bipush (-2), 2) := by decide +kernel
theorem dX10_alter_124 : decode cX10_alter 124 = .ok (.ireturn, 1) := by decide +kernel
theorem dX10_fill_0 : decode cX10_fill 0 = .ok (.aload_n 0, 1) := by decide +kernel
theorem dX10_fill_1 : decode cX10_fill 1 = .ok (.getfield 26, 3) := by decide +kernel
theorem dX10_fill_4 : decode cX10_fill 4 = .ok (.iload_n 1, 1) := by decide +kernel
theorem dX10_fill_5 : decode cX10_fill 5 = .ok (.invokevirtual 124, 3) := by decide +kernel
theorem dX10_fill_8 : decode cX10_fill 8 = .ok (.ifCond .eq 13, 3) := by decide +kernel
theorem dX10_fill_11 : decode cX10_fill 11 = .ok (.iload_n 2, 1) := by decide +kernel
theorem dX10_fill_12 : decode cX10_fill 12 = .ok (.iconst 0, 1) := by decide +kernel
theorem dX10_fill_13 : decode cX10_fill 13 = .ok (.bipush 99, 2) := by decide +kernel
theorem dX10_fill_15 : decode cX10_fill 15 = .ok (.invokestatic 159, 3) := by decide +kernel
theorem dX10_fill_18 : decode cX10_fill 18 = .ok (.ifCond .ne 5, 3) := by decide +kernel
theorem dX10_fill_21 : decode cX10_fill 21 = .ok (.iconst (-1), 1) := by decide +kernel
theorem dX10_fill_22 : decode cX10_fill 22 = .ok (.ireturn, 1) := by decide +kernel
theorem dX10_fill_23 : decode cX10_fill 23 = .ok (.aload_n 0, 1) := by decide +kernel
theorem dX10_fill_24 : decode cX10_fill 24 = .ok (.iload_n 1, 1) := by decide +kernel
theorem dX10_fill_25 : decode cX10_fill 25 = .ok (.iload_n 2, 1) := by decide +kernel
theorem dX10_fill_26 : decode cX10_fill 26 = .ok (.invokevirtual 259, 3) := by decide +kernel
theorem dX10_fill_29 : decode cX10_fill 29 = .ok (.ireturn, 1) := by decide +kernel
theorem dX10_colours_0 : decode cX10_colours 0 = .ok (.aload_n 0, 1) := by decide +kernel
theorem dX10_colours_1 : decode cX10_colours 1 = .ok (.getfield 47, 3) := by decide +kernel
theorem dX10_colours_4 : decode cX10_colours 4 = .ok (.aload_n 0, 1) := by decide +kernel
theorem dX10_colours_5 : decode cX10_colours 5 = .ok (.getfield 26, 3) := by decide +kernel
theorem dX10_colours_8 : decode cX10_colours 8 = .ok (.invokevirtual 308, 3) := by decide +kernel
theorem dX10_colours_11 : decode cX10_colours 11 = .ok (.aload_n 0, 1) := by decide +kernel
theorem dX10_colours_12 : decode cX10_colours 12 = .ok (.getfield 47, 3) := by decide +kernel
theorem dX10_colours_15 : decode cX10_colours 15 = .ok (.invokevirtual 309, 3) := by decide +kernel
theorem dX10_colours_18 : decode cX10_colours 18 = .ok (.istore_n 1, 1) := by decide +kernel
theorem dX10_colours_19 : decode cX10_colours 19 = .ok (.aload_n 0, 1) := by decide +kernel
theorem dX10_colours_20 : decode cX10_colours 20 = .ok (.iconst 1, 1) := by decide +kernel
theorem dX10_colours_21 : decode cX10_colours 21 = .ok (.invokevirtual 312, 3) := by decide +kernel
theorem dX10_colours_24 : decode cX10_colours 24 = .ok (.iload_n 1, 1) := by decide +kernel
theorem dX10_colours_25 : decode cX10_colours 25 = .ok (.ireturn, 1) := by decide +kernel
theorem dX10_tellColours_0 : decode cX10_tellColours 0 = .ok (.aload_n 0, 1) := by decide +kernel
theorem dX10_tellColours_1 : decode cX10_tellColours 1 = .ok (.getfield 54, 3) := by decide +kernel
theorem dX10_tellColours_4 : decode cX10_tellColours 4 = .ok (.invokevirtual 252, 3) := by decide +kernel
theorem dX10_tellColours_7 : decode cX10_tellColours 7 = .ok (.iconst 0, 1) := by decide +kernel
theorem dX10_tellColours_8 : decode cX10_tellColours 8 = .ok (.istore_n 2, 1) := by decide +kernel
theorem dX10_tellColours_9 : decode cX10_tellColours 9 = .ok (.iload_n 2, 1) := by decide +kernel
theorem dX10_tellColours_10 : decode cX10_tellColours 10 = .ok (.aload_n 0, 1) := by decide +kernel
theorem dX10_tellColours_11 : decode cX10_tellColours 11 = .ok (.getfield 47, 3) := by decide +kernel
theorem dX10_tellColours_14 : decode cX10_tellColours 14 = .ok (.getfield 315, 3) := by decide +kernel
theorem dX10_tellColours_17 : decode cX10_tellColours 17 = .ok (.if_icmp .ge 27, 3) := by decide +kernel
theorem dX10_tellColours_20 : decode cX10_tellColours 20 = .ok (.aload_n 0, 1) := by decide +kernel
theorem dX10_tellColours_21 : decode cX10_tellColours 21 = .ok (.getfield 54, 3) := by decide +kernel
theorem dX10_tellColours_24 : decode cX10_tellColours 24 = .ok (.aload_n 0, 1) := by decide +kernel
theorem dX10_tellColours_25 : decode cX10_tellColours 25 = .ok (.getfield 47, 3) := by decide +kernel
theorem dX10_tellColours_28 : decode cX10_tellColours 28 = .ok (.getfield 316, 3) := by decide +kernel
theorem dX10_tellColours_31 : decode cX10_tellColours 31 = .ok (.iload_n 2, 1) := by decide +kernel
theorem dX10_tellColours_32 : decode cX10_tellColours 32 = .ok (.iaload, 1) := by decide +kernel
theorem dX10_tellColours_33 : decode cX10_tellColours 33 = .ok (.iload_n 1, 1) := by decide +kernel
theorem dX10_tellColours_34 : decode cX10_tellColours 34 = .ok (.imul, 1) := by decide +kernel
theorem dX10_tellColours_35 : decode cX10_tellColours 35 = .ok (.invokevirtual 219, 3) := by decide +kernel
theorem dX10_tellColours_38 : decode cX10_tellColours 38 = .ok (.iinc 2 1, 3) := by decide +kernel
theorem dX10_tellColours_41 : decode cX10_tellColours 41 = .ok (.goto (-32), 3) := by decide +kernel
theorem dX10_tellColours_44 : decode cX10_tellColours 44 = .ok (.return_, 1) := by decide +kernel
theorem dX10_clique_0 : decode cX10_clique 0 = .ok (.aload_n 0, 1) := by decide +kernel
theorem dX10_clique_1 : decode cX10_clique 1 = .ok (.getfield 47, 3) := by decide +kernel
theorem dX10_clique_4 : decode cX10_clique 4 = .ok (.aload_n 0, 1) := by decide +kernel
theorem dX10_clique_5 : decode cX10_clique 5 = .ok (.getfield 26, 3) := by decide +kernel
theorem dX10_clique_8 : decode cX10_clique 8 = .ok (.invokevirtual 308, 3) := by decide +kernel
theorem dX10_clique_11 : decode cX10_clique 11 = .ok (.aload_n 0, 1) := by decide +kernel
theorem dX10_clique_12 : decode cX10_clique 12 = .ok (.getfield 47, 3) := by decide +kernel
theorem dX10_clique_15 : decode cX10_clique 15 = .ok (.invokevirtual 319, 3) := by decide +kernel
theorem dX10_clique_18 : decode cX10_clique 18 = .ok (.istore_n 1, 1) := by decide +kernel
theorem dX10_clique_19 : decode cX10_clique 19 = .ok (.aload_n 0, 1) := by decide +kernel
theorem dX10_clique_20 : decode cX10_clique 20 = .ok (.getfield 54, 3) := by decide +kernel
theorem dX10_clique_23 : decode cX10_clique 23 = .ok (.iload_n 1, 1) := by decide +kernel
theorem dX10_clique_24 : decode cX10_clique 24 = .ok (.invokevirtual 206, 3) := by decide +kernel
theorem dX10_clique_27 : decode cX10_clique 27 = .ok (.iload_n 1, 1) := by decide +kernel
theorem dX10_clique_28 : decode cX10_clique 28 = .ok (.invokestatic 322, 3) := by decide +kernel
theorem dX10_clique_31 : decode cX10_clique 31 = .ok (.ireturn, 1) := by decide +kernel
theorem dX10_lowest_0 : decode cX10_lowest 0 = .ok (.aload_n 0, 1) := by decide +kernel
theorem dX10_lowest_1 : decode cX10_lowest 1 = .ok (.getfield 47, 3) := by decide +kernel
theorem dX10_lowest_4 : decode cX10_lowest 4 = .ok (.aload_n 0, 1) := by decide +kernel
theorem dX10_lowest_5 : decode cX10_lowest 5 = .ok (.getfield 26, 3) := by decide +kernel
theorem dX10_lowest_8 : decode cX10_lowest 8 = .ok (.invokevirtual 308, 3) := by decide +kernel
theorem dX10_lowest_11 : decode cX10_lowest 11 = .ok (.aload_n 0, 1) := by decide +kernel
theorem dX10_lowest_12 : decode cX10_lowest 12 = .ok (.getfield 47, 3) := by decide +kernel
theorem dX10_lowest_15 : decode cX10_lowest 15 = .ok (.invokevirtual 309, 3) := by decide +kernel
theorem dX10_lowest_18 : decode cX10_lowest 18 = .ok (.istore_n 1, 1) := by decide +kernel
theorem dX10_lowest_19 : decode cX10_lowest 19 = .ok (.aload_n 0, 1) := by decide +kernel
theorem dX10_lowest_20 : decode cX10_lowest 20 = .ok (.aload_n 0, 1) := by decide +kernel
theorem dX10_lowest_21 : decode cX10_lowest 21 = .ok (.getfield 26, 3) := by decide +kernel
theorem dX10_lowest_24 : decode cX10_lowest 24 = .ok (.getfield 163, 3) := by decide +kernel
theorem dX10_lowest_27 : decode cX10_lowest 27 = .ok (.iconst 0, 1) := by decide +kernel
theorem dX10_lowest_28 : decode cX10_lowest 28 = .ok (.iaload, 1) := by decide +kernel
theorem dX10_lowest_29 : decode cX10_lowest 29 = .ok (.invokevirtual 312, 3) := by decide +kernel
theorem dX10_lowest_32 : decode cX10_lowest 32 = .ok (.iconst 0, 1) := by decide +kernel
theorem dX10_lowest_33 : decode cX10_lowest 33 = .ok (.iload_n 1, 1) := by decide +kernel
theorem dX10_lowest_34 : decode cX10_lowest 34 = .ok (.iconst 1, 1) := by decide +kernel
theorem dX10_lowest_35 : decode cX10_lowest 35 = .ok (.isub, 1) := by decide +kernel
theorem dX10_lowest_36 : decode cX10_lowest 36 = .ok (.invokestatic 181, 3) := by decide +kernel
theorem dX10_lowest_39 : decode cX10_lowest 39 = .ok (.aload_n 0, 1) := by decide +kernel
theorem dX10_lowest_40 : decode cX10_lowest 40 = .ok (.getfield 26, 3) := by decide +kernel
theorem dX10_lowest_43 : decode cX10_lowest 43 = .ok (.getfield 163, 3) := by decide +kernel
theorem dX10_lowest_46 : decode cX10_lowest 46 = .ok (.iconst 0, 1) := by decide +kernel
theorem dX10_lowest_47 : decode cX10_lowest 47 = .ok (.iaload, 1) := by decide +kernel
theorem dX10_lowest_48 : decode cX10_lowest 48 = .ok (.imul, 1) := by decide +kernel
theorem dX10_lowest_49 : decode cX10_lowest 49 = .ok (.ireturn, 1) := by decide +kernel
theorem dX10_place_0 : decode cX10_place 0 = .ok (.aload_n 0, 1) := by decide +kernel
theorem dX10_place_1 : decode cX10_place 1 = .ok (.getfield 26, 3) := by decide +kernel
theorem dX10_place_4 : decode cX10_place 4 = .ok (.iload_n 1, 1) := by decide +kernel
theorem dX10_place_5 : decode cX10_place 5 = .ok (.invokevirtual 210, 3) := by decide +kernel
theorem dX10_place_8 : decode cX10_place 8 = .ok (.ifCond .ne 5, 3) := by decide +kernel
theorem dX10_place_11 : decode cX10_place 11 = .ok (.iconst (-1), 1) := by decide +kernel
theorem dX10_place_12 : decode cX10_place 12 = .ok (.ireturn, 1) := by decide +kernel
theorem dX10_place_13 : decode cX10_place 13 = .ok (.iconst 0, 1) := by decide +kernel
theorem dX10_place_14 : decode cX10_place 14 = .ok (.istore_n 2, 1) := by decide +kernel
theorem dX10_place_15 : decode cX10_place 15 = .ok (.iconst 0, 1) := by decide +kernel
theorem dX10_place_16 : decode cX10_place 16 = .ok (.istore_n 3, 1) := by decide +kernel
theorem dX10_place_17 : decode cX10_place 17 = .ok (.iconst 0, 1) := by decide +kernel
theorem dX10_place_18 : decode cX10_place 18 = .ok (.istore 4, 2) := by decide +kernel
theorem dX10_place_20 : decode cX10_place 20 = .ok (.iconst 0, 1) := by decide +kernel
theorem dX10_place_21 : decode cX10_place 21 = .ok (.istore 5, 2) := by decide +kernel
theorem dX10_place_23 : decode cX10_place 23 = .ok (.iload 5, 2) := by decide +kernel
theorem dX10_place_25 : decode cX10_place 25 = .ok (.bipush 99, 2) := by decide +kernel
theorem dX10_place_27 : decode cX10_place 27 = .ok (.if_icmp .gt 40, 3) := by decide +kernel
theorem dX10_place_30 : decode cX10_place 30 = .ok (.aload_n 0, 1) := by decide +kernel
theorem dX10_place_31 : decode cX10_place 31 = .ok (.getfield 26, 3) := by decide +kernel
theorem dX10_place_34 : decode cX10_place 34 = .ok (.iload 5, 2) := by decide +kernel
theorem dX10_place_36 : decode cX10_place 36 = .ok (.iload_n 1, 1) := by decide +kernel
theorem dX10_place_37 : decode cX10_place 37 = .ok (.invokevirtual 305, 3) := by decide +kernel
theorem dX10_place_40 : decode cX10_place 40 = .ok (.ifCond .eq 21, 3) := by decide +kernel
theorem dX10_place_43 : decode cX10_place 43 = .ok (.iload_n 2, 1) := by decide +kernel
theorem dX10_place_44 : decode cX10_place 44 = .ok (.ifCond .ne 8, 3) := by decide +kernel
theorem dX10_place_47 : decode cX10_place 47 = .ok (.iload 5, 2) := by decide +kernel
theorem dX10_place_49 : decode cX10_place 49 = .ok (.goto 4, 3) := by decide +kernel
theorem dX10_place_52 : decode cX10_place 52 = .ok (.iload_n 3, 1) := by decide +kernel
theorem dX10_place_53 : decode cX10_place 53 = .ok (.istore_n 3, 1) := by decide +kernel
theorem dX10_place_54 : decode cX10_place 54 = .ok (.iload 5, 2) := by decide +kernel
theorem dX10_place_56 : decode cX10_place 56 = .ok (.istore 4, 2) := by decide +kernel
theorem dX10_place_58 : decode cX10_place 58 = .ok (.iinc 2 1, 3) := by decide +kernel
theorem dX10_place_61 : decode cX10_place 61 = .ok (.iinc 5 1, 3) := by decide +kernel
theorem dX10_place_64 : decode cX10_place 64 = .ok (.goto (-41), 3) := by decide +kernel
theorem dX10_place_67 : decode cX10_place 67 = .ok (.aload_n 0, 1) := by decide +kernel
theorem dX10_place_68 : decode cX10_place 68 = .ok (.getfield 54, 3) := by decide +kernel
theorem dX10_place_71 : decode cX10_place 71 = .ok (.invokevirtual 252, 3) := by decide +kernel
theorem dX10_place_74 : decode cX10_place 74 = .ok (.iload_n 2, 1) := by decide +kernel
theorem dX10_place_75 : decode cX10_place 75 = .ok (.ifCond .le 20, 3) := by decide +kernel
theorem dX10_place_78 : decode cX10_place 78 = .ok (.aload_n 0, 1) := by decide +kernel
theorem dX10_place_79 : decode cX10_place 79 = .ok (.getfield 54, 3) := by decide +kernel
theorem dX10_place_82 : decode cX10_place 82 = .ok (.iload_n 3, 1) := by decide +kernel
theorem dX10_place_83 : decode cX10_place 83 = .ok (.invokevirtual 219, 3) := by decide +kernel
theorem dX10_place_86 : decode cX10_place 86 = .ok (.aload_n 0, 1) := by decide +kernel
theorem dX10_place_87 : decode cX10_place 87 = .ok (.getfield 54, 3) := by decide +kernel
theorem dX10_place_90 : decode cX10_place 90 = .ok (.iload 4, 2) := by decide +kernel
theorem dX10_place_92 : decode cX10_place 92 = .ok (.invokevirtual 219, 3) := by decide +kernel
theorem dX10_place_95 : decode cX10_place 95 = .ok (.iload_n 2, 1) := by decide +kernel
theorem dX10_place_96 : decode cX10_place 96 = .ok (.ireturn, 1) := by decide +kernel
theorem dX10_lasts_0 : decode cX10_lasts 0 = .ok (.aload_n 0, 1) := by decide +kernel
theorem dX10_lasts_1 : decode cX10_lasts 1 = .ok (.getfield 33, 3) := by decide +kernel
theorem dX10_lasts_4 : decode cX10_lasts 4 = .ok (.aload_n 0, 1) := by decide +kernel
theorem dX10_lasts_5 : decode cX10_lasts 5 = .ok (.getfield 26, 3) := by decide +kernel
theorem dX10_lasts_8 : decode cX10_lasts 8 = .ok (.invokevirtual 222, 3) := by decide +kernel
theorem dX10_lasts_11 : decode cX10_lasts 11 = .ok (.aload_n 0, 1) := by decide +kernel
theorem dX10_lasts_12 : decode cX10_lasts 12 = .ok (.getfield 33, 3) := by decide +kernel
theorem dX10_lasts_15 : decode cX10_lasts 15 = .ok (.invokevirtual 327, 3) := by decide +kernel
theorem dX10_lasts_18 : decode cX10_lasts 18 = .ok (.invokestatic 330, 3) := by decide +kernel
theorem dX10_lasts_21 : decode cX10_lasts 21 = .ok (.ireturn, 1) := by decide +kernel
theorem dX10_weeksTold_0 : decode cX10_weeksTold 0 = .ok (.iload_n 0, 1) := by decide +kernel
theorem dX10_weeksTold_1 : decode cX10_weeksTold 1 = .ok (.bipush 100, 2) := by decide +kernel
theorem dX10_weeksTold_3 : decode cX10_weeksTold 3 = .ok (.if_icmp .le 8, 3) := by decide +kernel
theorem dX10_weeksTold_6 : decode cX10_weeksTold 6 = .ok (.bipush (-2), 2) := by decide +kernel
theorem dX10_weeksTold_8 : decode cX10_weeksTold 8 = .ok (.goto 4, 3) := by decide +kernel
theorem dX10_weeksTold_11 : decode cX10_weeksTold 11 = .ok (.iload_n 0, 1) := by decide +kernel
theorem dX10_weeksTold_12 : decode cX10_weeksTold 12 = .ok (.ireturn, 1) := by decide +kernel
theorem dX10_later_0 : decode cX10_later 0 = .ok (.aload_n 0, 1) := by decide +kernel
theorem dX10_later_1 : decode cX10_later 1 = .ok (.getfield 26, 3) := by decide +kernel
theorem dX10_later_4 : decode cX10_later 4 = .ok (.iload_n 1, 1) := by decide +kernel
theorem dX10_later_5 : decode cX10_later 5 = .ok (.invokevirtual 124, 3) := by decide +kernel
theorem dX10_later_8 : decode cX10_later 8 = .ok (.ifCond .eq 13, 3) := by decide +kernel
theorem dX10_later_11 : decode cX10_later 11 = .ok (.iload_n 2, 1) := by decide +kernel
theorem dX10_later_12 : decode cX10_later 12 = .ok (.iconst 0, 1) := by decide +kernel
theorem dX10_later_13 : decode cX10_later 13 = .ok (.bipush 100, 2) := by decide +kernel
theorem dX10_later_15 : decode cX10_later 15 = .ok (.invokestatic 159, 3) := by decide +kernel
theorem dX10_later_18 : decode cX10_later 18 = .ok (.ifCond .ne 5, 3) := by decide +kernel
theorem dX10_later_21 : decode cX10_later 21 = .ok (.iconst (-1), 1) := by decide +kernel
theorem dX10_later_22 : decode cX10_later 22 = .ok (.ireturn, 1) := by decide +kernel
theorem dX10_later_23 : decode cX10_later 23 = .ok (.aload_n 0, 1) := by decide +kernel
theorem dX10_later_24 : decode cX10_later 24 = .ok (.getfield 33, 3) := by decide +kernel
theorem dX10_later_27 : decode cX10_later 27 = .ok (.aload_n 0, 1) := by decide +kernel
theorem dX10_later_28 : decode cX10_later 28 = .ok (.getfield 26, 3) := by decide +kernel
theorem dX10_later_31 : decode cX10_later 31 = .ok (.invokevirtual 222, 3) := by decide +kernel
theorem dX10_later_34 : decode cX10_later 34 = .ok (.iconst 0, 1) := by decide +kernel
theorem dX10_later_35 : decode cX10_later 35 = .ok (.istore_n 3, 1) := by decide +kernel
theorem dX10_later_36 : decode cX10_later 36 = .ok (.iload_n 3, 1) := by decide +kernel
theorem dX10_later_37 : decode cX10_later 37 = .ok (.iload_n 2, 1) := by decide +kernel
theorem dX10_later_38 : decode cX10_later 38 = .ok (.if_icmp .ge 18, 3) := by decide +kernel
theorem dX10_later_41 : decode cX10_later 41 = .ok (.aload_n 0, 1) := by decide +kernel
theorem dX10_later_42 : decode cX10_later 42 = .ok (.getfield 33, 3) := by decide +kernel
theorem dX10_later_45 : decode cX10_later 45 = .ok (.iconst 0, 1) := by decide +kernel
theorem dX10_later_46 : decode cX10_later 46 = .ok (.iconst 0, 1) := by decide +kernel
theorem dX10_later_47 : decode cX10_later 47 = .ok (.invokevirtual 225, 3) := by decide +kernel
theorem dX10_later_50 : decode cX10_later 50 = .ok (.iinc 3 1, 3) := by decide +kernel
theorem dX10_later_53 : decode cX10_later 53 = .ok (.goto (-17), 3) := by decide +kernel
theorem dX10_later_56 : decode cX10_later 56 = .ok (.aload_n 0, 1) := by decide +kernel
theorem dX10_later_57 : decode cX10_later 57 = .ok (.getfield 33, 3) := by decide +kernel
theorem dX10_later_60 : decode cX10_later 60 = .ok (.getfield 228, 3) := by decide +kernel
theorem dX10_later_63 : decode cX10_later 63 = .ok (.iload_n 1, 1) := by decide +kernel
theorem dX10_later_64 : decode cX10_later 64 = .ok (.iaload, 1) := by decide +kernel
theorem dX10_later_65 : decode cX10_later 65 = .ok (.ireturn, 1) := by decide +kernel
theorem dX10_still_0 : decode cX10_still 0 = .ok (.aload_n 0, 1) := by decide +kernel
theorem dX10_still_1 : decode cX10_still 1 = .ok (.getfield 33, 3) := by decide +kernel
theorem dX10_still_4 : decode cX10_still 4 = .ok (.aload_n 0, 1) := by decide +kernel
theorem dX10_still_5 : decode cX10_still 5 = .ok (.getfield 26, 3) := by decide +kernel
theorem dX10_still_8 : decode cX10_still 8 = .ok (.invokevirtual 222, 3) := by decide +kernel
theorem dX10_still_11 : decode cX10_still 11 = .ok (.iconst 0, 1) := by decide +kernel
theorem dX10_still_12 : decode cX10_still 12 = .ok (.istore_n 1, 1) := by decide +kernel
theorem dX10_still_13 : decode cX10_still 13 = .ok (.iload_n 1, 1) := by decide +kernel
theorem dX10_still_14 : decode cX10_still 14 = .ok (.bipush 100, 2) := by decide +kernel
theorem dX10_still_16 : decode cX10_still 16 = .ok (.if_icmp .gt 46, 3) := by decide +kernel
theorem dX10_still_19 : decode cX10_still 19 = .ok (.aload_n 0, 1) := by decide +kernel
theorem dX10_still_20 : decode cX10_still 20 = .ok (.getfield 33, 3) := by decide +kernel
theorem dX10_still_23 : decode cX10_still 23 = .ok (.invokevirtual 242, 3) := by decide +kernel
theorem dX10_still_26 : decode cX10_still 26 = .ok (.istore_n 2, 1) := by decide +kernel
theorem dX10_still_27 : decode cX10_still 27 = .ok (.aload_n 0, 1) := by decide +kernel
theorem dX10_still_28 : decode cX10_still 28 = .ok (.getfield 33, 3) := by decide +kernel
theorem dX10_still_31 : decode cX10_still 31 = .ok (.iconst 0, 1) := by decide +kernel
theorem dX10_still_32 : decode cX10_still 32 = .ok (.iconst 0, 1) := by decide +kernel
theorem dX10_still_33 : decode cX10_still 33 = .ok (.invokevirtual 225, 3) := by decide +kernel
theorem dX10_still_36 : decode cX10_still 36 = .ok (.aload_n 0, 1) := by decide +kernel
theorem dX10_still_37 : decode cX10_still 37 = .ok (.getfield 33, 3) := by decide +kernel
theorem dX10_still_40 : decode cX10_still 40 = .ok (.getfield 333, 3) := by decide +kernel
theorem dX10_still_43 : decode cX10_still 43 = .ok (.ifCond .eq 13, 3) := by decide +kernel
theorem dX10_still_46 : decode cX10_still 46 = .ok (.aload_n 0, 1) := by decide +kernel
theorem dX10_still_47 : decode cX10_still 47 = .ok (.getfield 54, 3) := by decide +kernel
theorem dX10_still_50 : decode cX10_still 50 = .ok (.iload_n 2, 1) := by decide +kernel
theorem dX10_still_51 : decode cX10_still 51 = .ok (.invokevirtual 206, 3) := by decide +kernel
theorem dX10_still_54 : decode cX10_still 54 = .ok (.iload_n 1, 1) := by decide +kernel
theorem dX10_still_55 : decode cX10_still 55 = .ok (.ireturn, 1) := by decide +kernel
theorem dX10_still_56 : decode cX10_still 56 = .ok (.iinc 1 1, 3) := by decide +kernel
theorem dX10_still_59 : decode cX10_still 59 = .ok (.goto (-46), 3) := by decide +kernel
theorem dX10_still_62 : decode cX10_still 62 = .ok (.bipush (-2), 2) := by decide +kernel
theorem dX10_still_64 : decode cX10_still 64 = .ok (.ireturn, 1) := by decide +kernel
theorem dX10_keeps_0 : decode cX10_keeps 0 = .ok (.iload_n 1, 1) := by decide +kernel
theorem dX10_keeps_1 : decode cX10_keeps 1 = .ok (.iconst 0, 1) := by decide +kernel
theorem dX10_keeps_2 : decode cX10_keeps 2 = .ok (.bipush 12, 2) := by decide +kernel
theorem dX10_keeps_4 : decode cX10_keeps 4 = .ok (.invokestatic 159, 3) := by decide +kernel
theorem dX10_keeps_7 : decode cX10_keeps 7 = .ok (.ifCond .eq 12, 3) := by decide +kernel
theorem dX10_keeps_10 : decode cX10_keeps 10 = .ok (.iload_n 2, 1) := by decide +kernel
theorem dX10_keeps_11 : decode cX10_keeps 11 = .ok (.iconst 0, 1) := by decide +kernel
theorem dX10_keeps_12 : decode cX10_keeps 12 = .ok (.iconst 2, 1) := by decide +kernel
theorem dX10_keeps_13 : decode cX10_keeps 13 = .ok (.invokestatic 159, 3) := by decide +kernel
theorem dX10_keeps_16 : decode cX10_keeps 16 = .ok (.ifCond .ne 5, 3) := by decide +kernel
theorem dX10_keeps_19 : decode cX10_keeps 19 = .ok (.iconst (-1), 1) := by decide +kernel
theorem dX10_keeps_20 : decode cX10_keeps 20 = .ok (.ireturn, 1) := by decide +kernel
theorem dX10_keeps_21 : decode cX10_keeps 21 = .ok (.aload_n 0, 1) := by decide +kernel
theorem dX10_keeps_22 : decode cX10_keeps 22 = .ok (.invokevirtual 262, 3) := by decide +kernel
theorem dX10_keeps_25 : decode cX10_keeps 25 = .ok (.iconst 0, 1) := by decide +kernel
theorem dX10_keeps_26 : decode cX10_keeps 26 = .ok (.istore_n 3, 1) := by decide +kernel
theorem dX10_keeps_27 : decode cX10_keeps 27 = .ok (.iconst 0, 1) := by decide +kernel
theorem dX10_keeps_28 : decode cX10_keeps 28 = .ok (.istore 4, 2) := by decide +kernel
theorem dX10_keeps_30 : decode cX10_keeps 30 = .ok (.iconst 1, 1) := by decide +kernel
theorem dX10_keeps_31 : decode cX10_keeps 31 = .ok (.istore 5, 2) := by decide +kernel
theorem dX10_keeps_33 : decode cX10_keeps 33 = .ok (.iload 4, 2) := by decide +kernel
theorem dX10_keeps_35 : decode cX10_keeps 35 = .ok (.iload_n 1, 1) := by decide +kernel
theorem dX10_keeps_36 : decode cX10_keeps 36 = .ok (.if_icmp .ge 78, 3) := by decide +kernel
theorem dX10_keeps_39 : decode cX10_keeps 39 = .ok (.iload 5, 2) := by decide +kernel
theorem dX10_keeps_41 : decode cX10_keeps 41 = .ok (.ifCond .eq 73, 3) := by decide +kernel
theorem dX10_keeps_44 : decode cX10_keeps 44 = .ok (.aload_n 0, 1) := by decide +kernel
theorem dX10_keeps_45 : decode cX10_keeps 45 = .ok (.getfield 40, 3) := by decide +kernel
theorem dX10_keeps_48 : decode cX10_keeps 48 = .ok (.aload_n 0, 1) := by decide +kernel
theorem dX10_keeps_49 : decode cX10_keeps 49 = .ok (.getfield 33, 3) := by decide +kernel
theorem dX10_keeps_52 : decode cX10_keeps 52 = .ok (.invokevirtual 276, 3) := by decide +kernel
theorem dX10_keeps_55 : decode cX10_keeps 55 = .ok (.iload_n 2, 1) := by decide +kernel
theorem dX10_keeps_56 : decode cX10_keeps 56 = .ok (.invokevirtual 280, 3) := by decide +kernel
theorem dX10_keeps_59 : decode cX10_keeps 59 = .ok (.ifCond .ne 6, 3) := by decide +kernel
theorem dX10_keeps_62 : decode cX10_keeps 62 = .ok (.bipush (-3), 2) := by decide +kernel
theorem dX10_keeps_64 : decode cX10_keeps 64 = .ok (.ireturn, 1) := by decide +kernel
theorem dX10_keeps_65 : decode cX10_keeps 65 = .ok (.aload_n 0, 1) := by decide +kernel
theorem dX10_keeps_66 : decode cX10_keeps 66 = .ok (.getfield 40, 3) := by decide +kernel
theorem dX10_keeps_69 : decode cX10_keeps 69 = .ok (.aload_n 0, 1) := by decide +kernel
theorem dX10_keeps_70 : decode cX10_keeps 70 = .ok (.getfield 33, 3) := by decide +kernel
theorem dX10_keeps_73 : decode cX10_keeps 73 = .ok (.invokevirtual 337, 3) := by decide +kernel
theorem dX10_keeps_76 : decode cX10_keeps 76 = .ok (.istore 6, 2) := by decide +kernel
theorem dX10_keeps_78 : decode cX10_keeps 78 = .ok (.iload 6, 2) := by decide +kernel
theorem dX10_keeps_80 : decode cX10_keeps 80 = .ok (.iconst (-1), 1) := by decide +kernel
theorem dX10_keeps_81 : decode cX10_keeps 81 = .ok (.if_icmp .eq 7, 3) := by decide +kernel
theorem dX10_keeps_84 : decode cX10_keeps 84 = .ok (.iconst 1, 1) := by decide +kernel
theorem dX10_keeps_85 : decode cX10_keeps 85 = .ok (.goto 4, 3) := by decide +kernel
theorem dX10_keeps_88 : decode cX10_keeps 88 = .ok (.iconst 0, 1) := by decide +kernel
theorem dX10_keeps_89 : decode cX10_keeps 89 = .ok (.istore 5, 2) := by decide +kernel
theorem dX10_keeps_91 : decode cX10_keeps 91 = .ok (.iload 5, 2) := by decide +kernel
theorem dX10_keeps_93 : decode cX10_keeps 93 = .ok (.ifCond .eq 18, 3) := by decide +kernel
theorem dX10_keeps_96 : decode cX10_keeps 96 = .ok (.iload_n 3, 1) := by decide +kernel
theorem dX10_keeps_97 : decode cX10_keeps 97 = .ok (.aload_n 0, 1) := by decide +kernel
theorem dX10_keeps_98 : decode cX10_keeps 98 = .ok (.getfield 40, 3) := by decide +kernel
theorem dX10_keeps_101 : decode cX10_keeps 101 = .ok (.iload 6, 2) := by decide +kernel
theorem dX10_keeps_103 : decode cX10_keeps 103 = .ok (.invokevirtual 341, 3) := by decide +kernel
theorem dX10_keeps_106 : decode cX10_keeps 106 = .ok (.iadd, 1) := by decide +kernel
theorem dX10_keeps_107 : decode cX10_keeps 107 = .ok (.istore_n 3, 1) := by decide +kernel
theorem dX10_keeps_108 : decode cX10_keeps 108 = .ok (.iinc 4 1, 3) := by decide +kernel
theorem dX10_keeps_111 : decode cX10_keeps 111 = .ok (.goto (-78), 3) := by decide +kernel
theorem dX10_keeps_114 : decode cX10_keeps 114 = .ok (.aload_n 0, 1) := by decide +kernel
theorem dX10_keeps_115 : decode cX10_keeps 115 = .ok (.getfield 54, 3) := by decide +kernel
theorem dX10_keeps_118 : decode cX10_keeps 118 = .ok (.iload_n 3, 1) := by decide +kernel
theorem dX10_keeps_119 : decode cX10_keeps 119 = .ok (.invokevirtual 206, 3) := by decide +kernel
theorem dX10_keeps_122 : decode cX10_keeps 122 = .ok (.iload 4, 2) := by decide +kernel
theorem dX10_keeps_124 : decode cX10_keeps 124 = .ok (.ireturn, 1) := by decide +kernel
theorem dX10_mercy_0 : decode cX10_mercy 0 = .ok (.iload_n 1, 1) := by decide +kernel
theorem dX10_mercy_1 : decode cX10_mercy 1 = .ok (.iconst 0, 1) := by decide +kernel
theorem dX10_mercy_2 : decode cX10_mercy 2 = .ok (.bipush 100, 2) := by decide +kernel
theorem dX10_mercy_4 : decode cX10_mercy 4 = .ok (.invokestatic 159, 3) := by decide +kernel
theorem dX10_mercy_7 : decode cX10_mercy 7 = .ok (.ifCond .ne 5, 3) := by decide +kernel
theorem dX10_mercy_10 : decode cX10_mercy 10 = .ok (.iconst (-1), 1) := by decide +kernel
theorem dX10_mercy_11 : decode cX10_mercy 11 = .ok (.ireturn, 1) := by decide +kernel
theorem dX10_mercy_12 : decode cX10_mercy 12 = .ok (.aload_n 0, 1) := by decide +kernel
theorem dX10_mercy_13 : decode cX10_mercy 13 = .ok (.getfield 33, 3) := by decide +kernel
theorem dX10_mercy_16 : decode cX10_mercy 16 = .ok (.aload_n 0, 1) := by decide +kernel
theorem dX10_mercy_17 : decode cX10_mercy 17 = .ok (.getfield 26, 3) := by decide +kernel
theorem dX10_mercy_20 : decode cX10_mercy 20 = .ok (.invokevirtual 222, 3) := by decide +kernel
theorem dX10_mercy_23 : decode cX10_mercy 23 = .ok (.aload_n 0, 1) := by decide +kernel
theorem dX10_mercy_24 : decode cX10_mercy 24 = .ok (.getfield 47, 3) := by decide +kernel
theorem dX10_mercy_27 : decode cX10_mercy 27 = .ok (.aload_n 0, 1) := by decide +kernel
theorem dX10_mercy_28 : decode cX10_mercy 28 = .ok (.getfield 26, 3) := by decide +kernel
theorem dX10_mercy_31 : decode cX10_mercy 31 = .ok (.getfield 94, 3) := by decide +kernel
theorem dX10_mercy_34 : decode cX10_mercy 34 = .ok (.invokevirtual 344, 3) := by decide +kernel
theorem dX10_mercy_37 : decode cX10_mercy 37 = .ok (.iconst 0, 1) := by decide +kernel
theorem dX10_mercy_38 : decode cX10_mercy 38 = .ok (.istore_n 2, 1) := by decide +kernel
theorem dX10_mercy_39 : decode cX10_mercy 39 = .ok (.iload_n 2, 1) := by decide +kernel
theorem dX10_mercy_40 : decode cX10_mercy 40 = .ok (.iload_n 1, 1) := by decide +kernel
theorem dX10_mercy_41 : decode cX10_mercy 41 = .ok (.if_icmp .ge 29, 3) := by decide +kernel
theorem dX10_mercy_44 : decode cX10_mercy 44 = .ok (.aload_n 0, 1) := by decide +kernel
theorem dX10_mercy_45 : decode cX10_mercy 45 = .ok (.getfield 33, 3) := by decide +kernel
theorem dX10_mercy_48 : decode cX10_mercy 48 = .ok (.iconst 0, 1) := by decide +kernel
theorem dX10_mercy_49 : decode cX10_mercy 49 = .ok (.iconst 0, 1) := by decide +kernel
theorem dX10_mercy_50 : decode cX10_mercy 50 = .ok (.invokevirtual 225, 3) := by decide +kernel
theorem dX10_mercy_53 : decode cX10_mercy 53 = .ok (.aload_n 0, 1) := by decide +kernel
theorem dX10_mercy_54 : decode cX10_mercy 54 = .ok (.getfield 33, 3) := by decide +kernel
theorem dX10_mercy_57 : decode cX10_mercy 57 = .ok (.aload_n 0, 1) := by decide +kernel
theorem dX10_mercy_58 : decode cX10_mercy 58 = .ok (.getfield 47, 3) := by decide +kernel
theorem dX10_mercy_61 : decode cX10_mercy 61 = .ok (.invokevirtual 346, 3) := by decide +kernel
theorem dX10_mercy_64 : decode cX10_mercy 64 = .ok (.iinc 2 1, 3) := by decide +kernel
theorem dX10_mercy_67 : decode cX10_mercy 67 = .ok (.goto (-28), 3) := by decide +kernel
theorem dX10_mercy_70 : decode cX10_mercy 70 = .ok (.aload_n 0, 1) := by decide +kernel
theorem dX10_mercy_71 : decode cX10_mercy 71 = .ok (.getfield 54, 3) := by decide +kernel
theorem dX10_mercy_74 : decode cX10_mercy 74 = .ok (.aload_n 0, 1) := by decide +kernel
theorem dX10_mercy_75 : decode cX10_mercy 75 = .ok (.getfield 47, 3) := by decide +kernel
theorem dX10_mercy_78 : decode cX10_mercy 78 = .ok (.invokevirtual 350, 3) := by decide +kernel
theorem dX10_mercy_81 : decode cX10_mercy 81 = .ok (.invokevirtual 206, 3) := by decide +kernel
theorem dX10_mercy_84 : decode cX10_mercy 84 = .ok (.aload_n 0, 1) := by decide +kernel
theorem dX10_mercy_85 : decode cX10_mercy 85 = .ok (.getfield 47, 3) := by decide +kernel
theorem dX10_mercy_88 : decode cX10_mercy 88 = .ok (.invokevirtual 353, 3) := by decide +kernel
theorem dX10_mercy_91 : decode cX10_mercy 91 = .ok (.ireturn, 1) := by decide +kernel
theorem dX10_drought_0 : decode cX10_drought 0 = .ok (.iload_n 1, 1) := by decide +kernel
theorem dX10_drought_1 : decode cX10_drought 1 = .ok (.bipush (-9), 2) := by decide +kernel
theorem dX10_drought_3 : decode cX10_drought 3 = .ok (.bipush 9, 2) := by decide +kernel
theorem dX10_drought_5 : decode cX10_drought 5 = .ok (.invokestatic 159, 3) := by decide +kernel
theorem dX10_drought_8 : decode cX10_drought 8 = .ok (.ifCond .ne 5, 3) := by decide +kernel
theorem dX10_drought_11 : decode cX10_drought 11 = .ok (.iconst (-1), 1) := by decide +kernel
theorem dX10_drought_12 : decode cX10_drought 12 = .ok (.ireturn, 1) := by decide +kernel
theorem dX10_drought_13 : decode cX10_drought 13 = .ok (.aload_n 0, 1) := by decide +kernel
theorem dX10_drought_14 : decode cX10_drought 14 = .ok (.getfield 26, 3) := by decide +kernel
theorem dX10_drought_17 : decode cX10_drought 17 = .ok (.getfield 94, 3) := by decide +kernel
theorem dX10_drought_20 : decode cX10_drought 20 = .ok (.iconst 2, 1) := by decide +kernel
theorem dX10_drought_21 : decode cX10_drought 21 = .ok (.if_icmp .ge 6, 3) := by decide +kernel
theorem dX10_drought_24 : decode cX10_drought 24 = .ok (.bipush (-2), 2) := by decide +kernel
theorem dX10_drought_26 : decode cX10_drought 26 = .ok (.ireturn, 1) := by decide +kernel
theorem dX10_drought_27 : decode cX10_drought 27 = .ok (.aload_n 0, 1) := by decide +kernel
theorem dX10_drought_28 : decode cX10_drought 28 = .ok (.getfield 33, 3) := by decide +kernel
theorem dX10_drought_31 : decode cX10_drought 31 = .ok (.aload_n 0, 1) := by decide +kernel
theorem dX10_drought_32 : decode cX10_drought 32 = .ok (.getfield 26, 3) := by decide +kernel
theorem dX10_drought_35 : decode cX10_drought 35 = .ok (.invokevirtual 222, 3) := by decide +kernel
theorem dX10_drought_38 : decode cX10_drought 38 = .ok (.iconst 1, 1) := by decide +kernel
theorem dX10_drought_39 : decode cX10_drought 39 = .ok (.istore_n 2, 1) := by decide +kernel
theorem dX10_drought_40 : decode cX10_drought 40 = .ok (.iload_n 2, 1) := by decide +kernel
theorem dX10_drought_41 : decode cX10_drought 41 = .ok (.bipush 100, 2) := by decide +kernel
theorem dX10_drought_43 : decode cX10_drought 43 = .ok (.if_icmp .gt 36, 3) := by decide +kernel
theorem dX10_drought_46 : decode cX10_drought 46 = .ok (.aload_n 0, 1) := by decide +kernel
theorem dX10_drought_47 : decode cX10_drought 47 = .ok (.getfield 33, 3) := by decide +kernel
theorem dX10_drought_50 : decode cX10_drought 50 = .ok (.iload_n 1, 1) := by decide +kernel
theorem dX10_drought_51 : decode cX10_drought 51 = .ok (.aload_n 0, 1) := by decide +kernel
theorem dX10_drought_52 : decode cX10_drought 52 = .ok (.getfield 26, 3) := by decide +kernel
theorem dX10_drought_55 : decode cX10_drought 55 = .ok (.invokevirtual 356, 3) := by decide +kernel
theorem dX10_drought_58 : decode cX10_drought 58 = .ok (.invokevirtual 225, 3) := by decide +kernel
theorem dX10_drought_61 : decode cX10_drought 61 = .ok (.aload_n 0, 1) := by decide +kernel
theorem dX10_drought_62 : decode cX10_drought 62 = .ok (.getfield 33, 3) := by decide +kernel
theorem dX10_drought_65 : decode cX10_drought 65 = .ok (.invokevirtual 359, 3) := by decide +kernel
theorem dX10_drought_68 : decode cX10_drought 68 = .ok (.ifCond .eq 5, 3) := by decide +kernel
theorem dX10_drought_71 : decode cX10_drought 71 = .ok (.iload_n 2, 1) := by decide +kernel
theorem dX10_drought_72 : decode cX10_drought 72 = .ok (.ireturn, 1) := by decide +kernel
theorem dX10_drought_73 : decode cX10_drought 73 = .ok (.iinc 2 1, 3) := by decide +kernel
theorem dX10_drought_76 : decode cX10_drought 76 = .ok (.goto (-36), 3) := by decide +kernel
theorem dX10_drought_79 : decode cX10_drought 79 = .ok (.bipush (-2), 2) := by decide +kernel
theorem dX10_drought_81 : decode cX10_drought 81 = .ok (.ireturn, 1) := by decide +kernel
theorem dX10_clash_0 : decode cX10_clash 0 = .ok (.aload_n 0, 1) := by decide +kernel
theorem dX10_clash_1 : decode cX10_clash 1 = .ok (.getfield 26, 3) := by decide +kernel
theorem dX10_clash_4 : decode cX10_clash 4 = .ok (.iload_n 1, 1) := by decide +kernel
theorem dX10_clash_5 : decode cX10_clash 5 = .ok (.iload_n 2, 1) := by decide +kernel
theorem dX10_clash_6 : decode cX10_clash 6 = .ok (.invokevirtual 152, 3) := by decide +kernel
theorem dX10_clash_9 : decode cX10_clash 9 = .ok (.ifCond .ne 5, 3) := by decide +kernel
theorem dX10_clash_12 : decode cX10_clash 12 = .ok (.iconst (-1), 1) := by decide +kernel
theorem dX10_clash_13 : decode cX10_clash 13 = .ok (.ireturn, 1) := by decide +kernel
theorem dX10_clash_14 : decode cX10_clash 14 = .ok (.aload_n 0, 1) := by decide +kernel
theorem dX10_clash_15 : decode cX10_clash 15 = .ok (.getfield 33, 3) := by decide +kernel
theorem dX10_clash_18 : decode cX10_clash 18 = .ok (.aload_n 0, 1) := by decide +kernel
theorem dX10_clash_19 : decode cX10_clash 19 = .ok (.getfield 26, 3) := by decide +kernel
theorem dX10_clash_22 : decode cX10_clash 22 = .ok (.invokevirtual 222, 3) := by decide +kernel
theorem dX10_clash_25 : decode cX10_clash 25 = .ok (.aload_n 0, 1) := by decide +kernel
theorem dX10_clash_26 : decode cX10_clash 26 = .ok (.getfield 33, 3) := by decide +kernel
theorem dX10_clash_29 : decode cX10_clash 29 = .ok (.iload_n 1, 1) := by decide +kernel
theorem dX10_clash_30 : decode cX10_clash 30 = .ok (.iload_n 2, 1) := by decide +kernel
theorem dX10_clash_31 : decode cX10_clash 31 = .ok (.invokevirtual 362, 3) := by decide +kernel
theorem dX10_clash_34 : decode cX10_clash 34 = .ok (.istore_n 3, 1) := by decide +kernel
theorem dX10_clash_35 : decode cX10_clash 35 = .ok (.iload_n 3, 1) := by decide +kernel
theorem dX10_clash_36 : decode cX10_clash 36 = .ok (.iconst (-1), 1) := by decide +kernel
theorem dX10_clash_37 : decode cX10_clash 37 = .ok (.if_icmp .ne 6, 3) := by decide +kernel
theorem dX10_clash_40 : decode cX10_clash 40 = .ok (.bipush (-2), 2) := by decide +kernel
theorem dX10_clash_42 : decode cX10_clash 42 = .ok (.ireturn, 1) := by decide +kernel
theorem dX10_clash_43 : decode cX10_clash 43 = .ok (.iconst 1, 1) := by decide +kernel
theorem dX10_clash_44 : decode cX10_clash 44 = .ok (.istore 4, 2) := by decide +kernel
theorem dX10_clash_46 : decode cX10_clash 46 = .ok (.iload 4, 2) := by decide +kernel
theorem dX10_clash_48 : decode cX10_clash 48 = .ok (.bipush 100, 2) := by decide +kernel
theorem dX10_clash_50 : decode cX10_clash 50 = .ok (.if_icmp .gt 32, 3) := by decide +kernel
theorem dX10_clash_53 : decode cX10_clash 53 = .ok (.aload_n 0, 1) := by decide +kernel
theorem dX10_clash_54 : decode cX10_clash 54 = .ok (.getfield 33, 3) := by decide +kernel
theorem dX10_clash_57 : decode cX10_clash 57 = .ok (.iconst 0, 1) := by decide +kernel
theorem dX10_clash_58 : decode cX10_clash 58 = .ok (.iconst 0, 1) := by decide +kernel
theorem dX10_clash_59 : decode cX10_clash 59 = .ok (.invokevirtual 225, 3) := by decide +kernel
theorem dX10_clash_62 : decode cX10_clash 62 = .ok (.aload_n 0, 1) := by decide +kernel
theorem dX10_clash_63 : decode cX10_clash 63 = .ok (.getfield 33, 3) := by decide +kernel
theorem dX10_clash_66 : decode cX10_clash 66 = .ok (.iload_n 3, 1) := by decide +kernel
theorem dX10_clash_67 : decode cX10_clash 67 = .ok (.invokevirtual 365, 3) := by decide +kernel
theorem dX10_clash_70 : decode cX10_clash 70 = .ok (.ifCond .eq 6, 3) := by decide +kernel
theorem dX10_clash_73 : decode cX10_clash 73 = .ok (.iload 4, 2) := by decide +kernel
theorem dX10_clash_75 : decode cX10_clash 75 = .ok (.ireturn, 1) := by decide +kernel
theorem dX10_clash_76 : decode cX10_clash 76 = .ok (.iinc 4 1, 3) := by decide +kernel
theorem dX10_clash_79 : decode cX10_clash 79 = .ok (.goto (-33), 3) := by decide +kernel
theorem dX10_clash_82 : decode cX10_clash 82 = .ok (.bipush (-2), 2) := by decide +kernel
theorem dX10_clash_84 : decode cX10_clash 84 = .ok (.ireturn, 1) := by decide +kernel
theorem dX10_payer_0 : decode cX10_payer 0 = .ok (.iload_n 1, 1) := by decide +kernel
theorem dX10_payer_1 : decode cX10_payer 1 = .ok (.iconst 0, 1) := by decide +kernel
theorem dX10_payer_2 : decode cX10_payer 2 = .ok (.bipush 100, 2) := by decide +kernel
theorem dX10_payer_4 : decode cX10_payer 4 = .ok (.invokestatic 159, 3) := by decide +kernel
theorem dX10_payer_7 : decode cX10_payer 7 = .ok (.ifCond .ne 5, 3) := by decide +kernel
theorem dX10_payer_10 : decode cX10_payer 10 = .ok (.iconst (-1), 1) := by decide +kernel
theorem dX10_payer_11 : decode cX10_payer 11 = .ok (.ireturn, 1) := by decide +kernel
theorem dX10_payer_12 : decode cX10_payer 12 = .ok (.aload_n 0, 1) := by decide +kernel
theorem dX10_payer_13 : decode cX10_payer 13 = .ok (.getfield 26, 3) := by decide +kernel
theorem dX10_payer_16 : decode cX10_payer 16 = .ok (.getfield 94, 3) := by decide +kernel
theorem dX10_payer_19 : decode cX10_payer 19 = .ok (.ifCond .ne 6, 3) := by decide +kernel
theorem dX10_payer_22 : decode cX10_payer 22 = .ok (.bipush (-2), 2) := by decide +kernel
theorem dX10_payer_24 : decode cX10_payer 24 = .ok (.ireturn, 1) := by decide +kernel
theorem dX10_payer_25 : decode cX10_payer 25 = .ok (.aload_n 0, 1) := by decide +kernel
theorem dX10_payer_26 : decode cX10_payer 26 = .ok (.getfield 33, 3) := by decide +kernel
theorem dX10_payer_29 : decode cX10_payer 29 = .ok (.aload_n 0, 1) := by decide +kernel
theorem dX10_payer_30 : decode cX10_payer 30 = .ok (.getfield 26, 3) := by decide +kernel
theorem dX10_payer_33 : decode cX10_payer 33 = .ok (.invokevirtual 222, 3) := by decide +kernel
theorem dX10_payer_36 : decode cX10_payer 36 = .ok (.aload_n 0, 1) := by decide +kernel
theorem dX10_payer_37 : decode cX10_payer 37 = .ok (.getfield 33, 3) := by decide +kernel
theorem dX10_payer_40 : decode cX10_payer 40 = .ok (.invokevirtual 368, 3) := by decide +kernel
theorem dX10_payer_43 : decode cX10_payer 43 = .ok (.iconst 0, 1) := by decide +kernel
theorem dX10_payer_44 : decode cX10_payer 44 = .ok (.istore_n 2, 1) := by decide +kernel
theorem dX10_payer_45 : decode cX10_payer 45 = .ok (.iload_n 2, 1) := by decide +kernel
theorem dX10_payer_46 : decode cX10_payer 46 = .ok (.iload_n 1, 1) := by decide +kernel
theorem dX10_payer_47 : decode cX10_payer 47 = .ok (.if_icmp .ge 41, 3) := by decide +kernel
theorem dX10_payer_50 : decode cX10_payer 50 = .ok (.aload_n 0, 1) := by decide +kernel
theorem dX10_payer_51 : decode cX10_payer 51 = .ok (.getfield 33, 3) := by decide +kernel
theorem dX10_payer_54 : decode cX10_payer 54 = .ok (.iconst 0, 1) := by decide +kernel
theorem dX10_payer_55 : decode cX10_payer 55 = .ok (.iconst 0, 1) := by decide +kernel
theorem dX10_payer_56 : decode cX10_payer 56 = .ok (.invokevirtual 225, 3) := by decide +kernel
theorem dX10_payer_59 : decode cX10_payer 59 = .ok (.aload_n 0, 1) := by decide +kernel
theorem dX10_payer_60 : decode cX10_payer 60 = .ok (.getfield 33, 3) := by decide +kernel
theorem dX10_payer_63 : decode cX10_payer 63 = .ok (.aload_n 0, 1) := by decide +kernel
theorem dX10_payer_64 : decode cX10_payer 64 = .ok (.getfield 33, 3) := by decide +kernel
theorem dX10_payer_67 : decode cX10_payer 67 = .ok (.getfield 371, 3) := by decide +kernel
theorem dX10_payer_70 : decode cX10_payer 70 = .ok (.aload_n 0, 1) := by decide +kernel
theorem dX10_payer_71 : decode cX10_payer 71 = .ok (.getfield 26, 3) := by decide +kernel
theorem dX10_payer_74 : decode cX10_payer 74 = .ok (.getfield 163, 3) := by decide +kernel
theorem dX10_payer_77 : decode cX10_payer 77 = .ok (.iconst 1, 1) := by decide +kernel
theorem dX10_payer_78 : decode cX10_payer 78 = .ok (.iaload, 1) := by decide +kernel
theorem dX10_payer_79 : decode cX10_payer 79 = .ok (.invokevirtual 235, 3) := by decide +kernel
theorem dX10_payer_82 : decode cX10_payer 82 = .ok (.iinc 2 1, 3) := by decide +kernel
theorem dX10_payer_85 : decode cX10_payer 85 = .ok (.goto (-40), 3) := by decide +kernel
theorem dX10_payer_88 : decode cX10_payer 88 = .ok (.iconst 0, 1) := by decide +kernel
theorem dX10_payer_89 : decode cX10_payer 89 = .ok (.istore_n 2, 1) := by decide +kernel
theorem dX10_payer_90 : decode cX10_payer 90 = .ok (.iconst 0, 1) := by decide +kernel
theorem dX10_payer_91 : decode cX10_payer 91 = .ok (.istore_n 3, 1) := by decide +kernel
theorem dX10_payer_92 : decode cX10_payer 92 = .ok (.iconst 0, 1) := by decide +kernel
theorem dX10_payer_93 : decode cX10_payer 93 = .ok (.istore 4, 2) := by decide +kernel
theorem dX10_payer_95 : decode cX10_payer 95 = .ok (.iload 4, 2) := by decide +kernel
theorem dX10_payer_97 : decode cX10_payer 97 = .ok (.aload_n 0, 1) := by decide +kernel
theorem dX10_payer_98 : decode cX10_payer 98 = .ok (.getfield 26, 3) := by decide +kernel
theorem dX10_payer_101 : decode cX10_payer 101 = .ok (.getfield 94, 3) := by decide +kernel
theorem dX10_payer_104 : decode cX10_payer 104 = .ok (.if_icmp .ge 51, 3) := by decide +kernel
theorem dX10_payer_107 : decode cX10_payer 107 = .ok (.iload_n 3, 1) := by decide +kernel
theorem dX10_payer_108 : decode cX10_payer 108 = .ok (.aload_n 0, 1) := by decide +kernel
theorem dX10_payer_109 : decode cX10_payer 109 = .ok (.getfield 33, 3) := by decide +kernel
theorem dX10_payer_112 : decode cX10_payer 112 = .ok (.getfield 371, 3) := by decide +kernel
theorem dX10_payer_115 : decode cX10_payer 115 = .ok (.iload 4, 2) := by decide +kernel
theorem dX10_payer_117 : decode cX10_payer 117 = .ok (.iaload, 1) := by decide +kernel
theorem dX10_payer_118 : decode cX10_payer 118 = .ok (.iadd, 1) := by decide +kernel
theorem dX10_payer_119 : decode cX10_payer 119 = .ok (.istore_n 3, 1) := by decide +kernel
theorem dX10_payer_120 : decode cX10_payer 120 = .ok (.aload_n 0, 1) := by decide +kernel
theorem dX10_payer_121 : decode cX10_payer 121 = .ok (.getfield 33, 3) := by decide +kernel
theorem dX10_payer_124 : decode cX10_payer 124 = .ok (.getfield 371, 3) := by decide +kernel
theorem dX10_payer_127 : decode cX10_payer 127 = .ok (.iload 4, 2) := by decide +kernel
theorem dX10_payer_129 : decode cX10_payer 129 = .ok (.iaload, 1) := by decide +kernel
theorem dX10_payer_130 : decode cX10_payer 130 = .ok (.aload_n 0, 1) := by decide +kernel
theorem dX10_payer_131 : decode cX10_payer 131 = .ok (.getfield 33, 3) := by decide +kernel
theorem dX10_payer_134 : decode cX10_payer 134 = .ok (.getfield 371, 3) := by decide +kernel
theorem dX10_payer_137 : decode cX10_payer 137 = .ok (.iload_n 2, 1) := by decide +kernel
theorem dX10_payer_138 : decode cX10_payer 138 = .ok (.iaload, 1) := by decide +kernel
theorem dX10_payer_139 : decode cX10_payer 139 = .ok (.if_icmp .le 8, 3) := by decide +kernel
theorem dX10_payer_142 : decode cX10_payer 142 = .ok (.iload 4, 2) := by decide +kernel
theorem dX10_payer_144 : decode cX10_payer 144 = .ok (.goto 4, 3) := by decide +kernel
theorem dX10_payer_147 : decode cX10_payer 147 = .ok (.iload_n 2, 1) := by decide +kernel
theorem dX10_payer_148 : decode cX10_payer 148 = .ok (.istore_n 2, 1) := by decide +kernel
theorem dX10_payer_149 : decode cX10_payer 149 = .ok (.iinc 4 1, 3) := by decide +kernel
theorem dX10_payer_152 : decode cX10_payer 152 = .ok (.goto (-57), 3) := by decide +kernel
theorem dX10_payer_155 : decode cX10_payer 155 = .ok (.aload_n 0, 1) := by decide +kernel
theorem dX10_payer_156 : decode cX10_payer 156 = .ok (.getfield 54, 3) := by decide +kernel
theorem dX10_payer_159 : decode cX10_payer 159 = .ok (.aload_n 0, 1) := by decide +kernel
theorem dX10_payer_160 : decode cX10_payer 160 = .ok (.getfield 33, 3) := by decide +kernel
theorem dX10_payer_163 : decode cX10_payer 163 = .ok (.getfield 371, 3) := by decide +kernel
theorem dX10_payer_166 : decode cX10_payer 166 = .ok (.iload_n 2, 1) := by decide +kernel
theorem dX10_payer_167 : decode cX10_payer 167 = .ok (.iaload, 1) := by decide +kernel
theorem dX10_payer_168 : decode cX10_payer 168 = .ok (.invokevirtual 206, 3) := by decide +kernel
theorem dX10_payer_171 : decode cX10_payer 171 = .ok (.aload_n 0, 1) := by decide +kernel
theorem dX10_payer_172 : decode cX10_payer 172 = .ok (.getfield 54, 3) := by decide +kernel
theorem dX10_payer_175 : decode cX10_payer 175 = .ok (.iload_n 3, 1) := by decide +kernel
theorem dX10_payer_176 : decode cX10_payer 176 = .ok (.invokevirtual 219, 3) := by decide +kernel
theorem dX10_payer_179 : decode cX10_payer 179 = .ok (.iload_n 2, 1) := by decide +kernel
theorem dX10_payer_180 : decode cX10_payer 180 = .ok (.ireturn, 1) := by decide +kernel
theorem dX10_pray_0 : decode cX10_pray 0 = .ok (.aload_n 0, 1) := by decide +kernel
theorem dX10_pray_1 : decode cX10_pray 1 = .ok (.getfield 26, 3) := by decide +kernel
theorem dX10_pray_4 : decode cX10_pray 4 = .ok (.iload_n 1, 1) := by decide +kernel
theorem dX10_pray_5 : decode cX10_pray 5 = .ok (.invokevirtual 210, 3) := by decide +kernel
theorem dX10_pray_8 : decode cX10_pray 8 = .ok (.ifCond .ne 6, 3) := by decide +kernel
theorem dX10_pray_11 : decode cX10_pray 11 = .ok (.bipush (-10), 2) := by decide +kernel
theorem dX10_pray_13 : decode cX10_pray 13 = .ok (.ireturn, 1) := by decide +kernel
theorem dX10_pray_14 : decode cX10_pray 14 = .ok (.iconst 0, 1) := by decide +kernel
theorem dX10_pray_15 : decode cX10_pray 15 = .ok (.istore_n 2, 1) := by decide +kernel
theorem dX10_pray_16 : decode cX10_pray 16 = .ok (.aload_n 0, 1) := by decide +kernel
theorem dX10_pray_17 : decode cX10_pray 17 = .ok (.iconst 0, 1) := by decide +kernel
theorem dX10_pray_18 : decode cX10_pray 18 = .ok (.iload_n 1, 1) := by decide +kernel
theorem dX10_pray_19 : decode cX10_pray 19 = .ok (.invokevirtual 372, 3) := by decide +kernel
theorem dX10_pray_22 : decode cX10_pray 22 = .ok (.istore_n 3, 1) := by decide +kernel
theorem dX10_pray_23 : decode cX10_pray 23 = .ok (.iconst 1, 1) := by decide +kernel
theorem dX10_pray_24 : decode cX10_pray 24 = .ok (.istore 4, 2) := by decide +kernel
theorem dX10_pray_26 : decode cX10_pray 26 = .ok (.iload 4, 2) := by decide +kernel
theorem dX10_pray_28 : decode cX10_pray 28 = .ok (.bipush 9, 2) := by decide +kernel
theorem dX10_pray_30 : decode cX10_pray 30 = .ok (.if_icmp .gt 54, 3) := by decide +kernel
theorem dX10_pray_33 : decode cX10_pray 33 = .ok (.iload 4, 2) := by decide +kernel
theorem dX10_pray_35 : decode cX10_pray 35 = .ok (.ineg, 1) := by decide +kernel
theorem dX10_pray_36 : decode cX10_pray 36 = .ok (.istore 5, 2) := by decide +kernel
theorem dX10_pray_38 : decode cX10_pray 38 = .ok (.iload 5, 2) := by decide +kernel
theorem dX10_pray_40 : decode cX10_pray 40 = .ok (.iload 4, 2) := by decide +kernel
theorem dX10_pray_42 : decode cX10_pray 42 = .ok (.if_icmp .gt 36, 3) := by decide +kernel
theorem dX10_pray_45 : decode cX10_pray 45 = .ok (.aload_n 0, 1) := by decide +kernel
theorem dX10_pray_46 : decode cX10_pray 46 = .ok (.iload 5, 2) := by decide +kernel
theorem dX10_pray_48 : decode cX10_pray 48 = .ok (.iload_n 1, 1) := by decide +kernel
theorem dX10_pray_49 : decode cX10_pray 49 = .ok (.invokevirtual 372, 3) := by decide +kernel
theorem dX10_pray_52 : decode cX10_pray 52 = .ok (.istore 6, 2) := by decide +kernel
theorem dX10_pray_54 : decode cX10_pray 54 = .ok (.iload 6, 2) := by decide +kernel
theorem dX10_pray_56 : decode cX10_pray 56 = .ok (.iload_n 3, 1) := by decide +kernel
theorem dX10_pray_57 : decode cX10_pray 57 = .ok (.if_icmp .ge 9, 3) := by decide +kernel
theorem dX10_pray_60 : decode cX10_pray 60 = .ok (.iload 6, 2) := by decide +kernel
theorem dX10_pray_62 : decode cX10_pray 62 = .ok (.istore_n 3, 1) := by decide +kernel
theorem dX10_pray_63 : decode cX10_pray 63 = .ok (.iload 5, 2) := by decide +kernel
theorem dX10_pray_65 : decode cX10_pray 65 = .ok (.istore_n 2, 1) := by decide +kernel
theorem dX10_pray_66 : decode cX10_pray 66 = .ok (.iload 5, 2) := by decide +kernel
theorem dX10_pray_68 : decode cX10_pray 68 = .ok (.iconst 2, 1) := by decide +kernel
theorem dX10_pray_69 : decode cX10_pray 69 = .ok (.iload 4, 2) := by decide +kernel
theorem dX10_pray_71 : decode cX10_pray 71 = .ok (.imul, 1) := by decide +kernel
theorem dX10_pray_72 : decode cX10_pray 72 = .ok (.iadd, 1) := by decide +kernel
theorem dX10_pray_73 : decode cX10_pray 73 = .ok (.istore 5, 2) := by decide +kernel
theorem dX10_pray_75 : decode cX10_pray 75 = .ok (.goto (-37), 3) := by decide +kernel
theorem dX10_pray_78 : decode cX10_pray 78 = .ok (.iinc 4 1, 3) := by decide +kernel
theorem dX10_pray_81 : decode cX10_pray 81 = .ok (.goto (-55), 3) := by decide +kernel
theorem dX10_pray_84 : decode cX10_pray 84 = .ok (.aload_n 0, 1) := by decide +kernel
theorem dX10_pray_85 : decode cX10_pray 85 = .ok (.getfield 54, 3) := by decide +kernel
theorem dX10_pray_88 : decode cX10_pray 88 = .ok (.iload_n 3, 1) := by decide +kernel
theorem dX10_pray_89 : decode cX10_pray 89 = .ok (.invokevirtual 206, 3) := by decide +kernel
theorem dX10_pray_92 : decode cX10_pray 92 = .ok (.iload_n 2, 1) := by decide +kernel
theorem dX10_pray_93 : decode cX10_pray 93 = .ok (.ireturn, 1) := by decide +kernel
theorem dX10_evenAfterRain_0 : decode cX10_evenAfterRain 0 = .ok (.aload_n 0, 1) := by decide +kernel
theorem dX10_evenAfterRain_1 : decode cX10_evenAfterRain 1 = .ok (.getfield 33, 3) := by decide +kernel
theorem dX10_evenAfterRain_4 : decode cX10_evenAfterRain 4 = .ok (.aload_n 0, 1) := by decide +kernel
theorem dX10_evenAfterRain_5 : decode cX10_evenAfterRain 5 = .ok (.getfield 26, 3) := by decide +kernel
theorem dX10_evenAfterRain_8 : decode cX10_evenAfterRain 8 = .ok (.invokevirtual 222, 3) := by decide +kernel
theorem dX10_evenAfterRain_11 : decode cX10_evenAfterRain 11 = .ok (.aload_n 0, 1) := by decide +kernel
theorem dX10_evenAfterRain_12 : decode cX10_evenAfterRain 12 = .ok (.getfield 33, 3) := by decide +kernel
theorem dX10_evenAfterRain_15 : decode cX10_evenAfterRain 15 = .ok (.iload_n 1, 1) := by decide +kernel
theorem dX10_evenAfterRain_16 : decode cX10_evenAfterRain 16 = .ok (.iload_n 2, 1) := by decide +kernel
theorem dX10_evenAfterRain_17 : decode cX10_evenAfterRain 17 = .ok (.invokevirtual 225, 3) := by decide +kernel
theorem dX10_evenAfterRain_20 : decode cX10_evenAfterRain 20 = .ok (.aload_n 0, 1) := by decide +kernel
theorem dX10_evenAfterRain_21 : decode cX10_evenAfterRain 21 = .ok (.getfield 33, 3) := by decide +kernel
theorem dX10_evenAfterRain_24 : decode cX10_evenAfterRain 24 = .ok (.invokevirtual 242, 3) := by decide +kernel
theorem dX10_evenAfterRain_27 : decode cX10_evenAfterRain 27 = .ok (.ireturn, 1) := by decide +kernel
theorem dX10_seal_0 : decode cX10_seal 0 = .ok (.aload_n 0, 1) := by decide +kernel
theorem dX10_seal_1 : decode cX10_seal 1 = .ok (.getfield 33, 3) := by decide +kernel
theorem dX10_seal_4 : decode cX10_seal 4 = .ok (.aload_n 0, 1) := by decide +kernel
theorem dX10_seal_5 : decode cX10_seal 5 = .ok (.getfield 26, 3) := by decide +kernel
theorem dX10_seal_8 : decode cX10_seal 8 = .ok (.invokevirtual 222, 3) := by decide +kernel
theorem dX10_seal_11 : decode cX10_seal 11 = .ok (.iconst (-1), 1) := by decide +kernel
theorem dX10_seal_12 : decode cX10_seal 12 = .ok (.istore_n 1, 1) := by decide +kernel
theorem dX10_seal_13 : decode cX10_seal 13 = .ok (.iconst 0, 1) := by decide +kernel
theorem dX10_seal_14 : decode cX10_seal 14 = .ok (.istore_n 2, 1) := by decide +kernel
theorem dX10_seal_15 : decode cX10_seal 15 = .ok (.iconst 0, 1) := by decide +kernel
theorem dX10_seal_16 : decode cX10_seal 16 = .ok (.istore_n 3, 1) := by decide +kernel
theorem dX10_seal_17 : decode cX10_seal 17 = .ok (.iload_n 3, 1) := by decide +kernel
theorem dX10_seal_18 : decode cX10_seal 18 = .ok (.aload_n 0, 1) := by decide +kernel
theorem dX10_seal_19 : decode cX10_seal 19 = .ok (.getfield 33, 3) := by decide +kernel
theorem dX10_seal_22 : decode cX10_seal 22 = .ok (.getfield 375, 3) := by decide +kernel
theorem dX10_seal_25 : decode cX10_seal 25 = .ok (.if_icmp .ge 82, 3) := by decide +kernel
theorem dX10_seal_28 : decode cX10_seal 28 = .ok (.aload_n 0, 1) := by decide +kernel
theorem dX10_seal_29 : decode cX10_seal 29 = .ok (.getfield 33, 3) := by decide +kernel
theorem dX10_seal_32 : decode cX10_seal 32 = .ok (.getfield 377, 3) := by decide +kernel
theorem dX10_seal_35 : decode cX10_seal 35 = .ok (.iload_n 3, 1) := by decide +kernel
theorem dX10_seal_36 : decode cX10_seal 36 = .ok (.iaload, 1) := by decide +kernel
theorem dX10_seal_37 : decode cX10_seal 37 = .ok (.istore 4, 2) := by decide +kernel
theorem dX10_seal_39 : decode cX10_seal 39 = .ok (.iload 4, 2) := by decide +kernel
theorem dX10_seal_41 : decode cX10_seal 41 = .ok (.ifCond .le 60, 3) := by decide +kernel
theorem dX10_seal_44 : decode cX10_seal 44 = .ok (.aload_n 0, 1) := by decide +kernel
theorem dX10_seal_45 : decode cX10_seal 45 = .ok (.getfield 33, 3) := by decide +kernel
theorem dX10_seal_48 : decode cX10_seal 48 = .ok (.aload_n 0, 1) := by decide +kernel
theorem dX10_seal_49 : decode cX10_seal 49 = .ok (.getfield 26, 3) := by decide +kernel
theorem dX10_seal_52 : decode cX10_seal 52 = .ok (.invokevirtual 380, 3) := by decide +kernel
theorem dX10_seal_55 : decode cX10_seal 55 = .ok (.aload_n 0, 1) := by decide +kernel
theorem dX10_seal_56 : decode cX10_seal 56 = .ok (.getfield 33, 3) := by decide +kernel
theorem dX10_seal_59 : decode cX10_seal 59 = .ok (.getfield 377, 3) := by decide +kernel
theorem dX10_seal_62 : decode cX10_seal 62 = .ok (.iload_n 3, 1) := by decide +kernel
theorem dX10_seal_63 : decode cX10_seal 63 = .ok (.iconst 0, 1) := by decide +kernel
theorem dX10_seal_64 : decode cX10_seal 64 = .ok (.iastore, 1) := by decide +kernel
theorem dX10_seal_65 : decode cX10_seal 65 = .ok (.aload_n 0, 1) := by decide +kernel
theorem dX10_seal_66 : decode cX10_seal 66 = .ok (.getfield 33, 3) := by decide +kernel
theorem dX10_seal_69 : decode cX10_seal 69 = .ok (.invokevirtual 327, 3) := by decide +kernel
theorem dX10_seal_72 : decode cX10_seal 72 = .ok (.istore 5, 2) := by decide +kernel
theorem dX10_seal_74 : decode cX10_seal 74 = .ok (.aload_n 0, 1) := by decide +kernel
theorem dX10_seal_75 : decode cX10_seal 75 = .ok (.getfield 33, 3) := by decide +kernel
theorem dX10_seal_78 : decode cX10_seal 78 = .ok (.getfield 377, 3) := by decide +kernel
theorem dX10_seal_81 : decode cX10_seal 81 = .ok (.iload_n 3, 1) := by decide +kernel
theorem dX10_seal_82 : decode cX10_seal 82 = .ok (.iload 4, 2) := by decide +kernel
theorem dX10_seal_84 : decode cX10_seal 84 = .ok (.iastore, 1) := by decide +kernel
theorem dX10_seal_85 : decode cX10_seal 85 = .ok (.iload_n 1, 1) := by decide +kernel
theorem dX10_seal_86 : decode cX10_seal 86 = .ok (.iconst (-1), 1) := by decide +kernel
theorem dX10_seal_87 : decode cX10_seal 87 = .ok (.if_icmp .eq 9, 3) := by decide +kernel
theorem dX10_seal_90 : decode cX10_seal 90 = .ok (.iload 5, 2) := by decide +kernel
theorem dX10_seal_92 : decode cX10_seal 92 = .ok (.iload_n 2, 1) := by decide +kernel
theorem dX10_seal_93 : decode cX10_seal 93 = .ok (.if_icmp .le 8, 3) := by decide +kernel
theorem dX10_seal_96 : decode cX10_seal 96 = .ok (.iload_n 3, 1) := by decide +kernel
theorem dX10_seal_97 : decode cX10_seal 97 = .ok (.istore_n 1, 1) := by decide +kernel
theorem dX10_seal_98 : decode cX10_seal 98 = .ok (.iload 5, 2) := by decide +kernel
theorem dX10_seal_100 : decode cX10_seal 100 = .ok (.istore_n 2, 1) := by decide +kernel
theorem dX10_seal_101 : decode cX10_seal 101 = .ok (.iinc 3 1, 3) := by decide +kernel
theorem dX10_seal_104 : decode cX10_seal 104 = .ok (.goto (-87), 3) := by decide +kernel
theorem dX10_seal_107 : decode cX10_seal 107 = .ok (.iload_n 1, 1) := by decide +kernel
theorem dX10_seal_108 : decode cX10_seal 108 = .ok (.iconst (-1), 1) := by decide +kernel
theorem dX10_seal_109 : decode cX10_seal 109 = .ok (.if_icmp .ne 6, 3) := by decide +kernel
theorem dX10_seal_112 : decode cX10_seal 112 = .ok (.bipush (-2), 2) := by decide +kernel
theorem dX10_seal_114 : decode cX10_seal 114 = .ok (.ireturn, 1) := by decide +kernel
theorem dX10_seal_115 : decode cX10_seal 115 = .ok (.aload_n 0, 1) := by decide +kernel
theorem dX10_seal_116 : decode cX10_seal 116 = .ok (.getfield 54, 3) := by decide +kernel
theorem dX10_seal_119 : decode cX10_seal 119 = .ok (.aload_n 0, 1) := by decide +kernel
theorem dX10_seal_120 : decode cX10_seal 120 = .ok (.getfield 33, 3) := by decide +kernel
theorem dX10_seal_123 : decode cX10_seal 123 = .ok (.getfield 256, 3) := by decide +kernel
theorem dX10_seal_126 : decode cX10_seal 126 = .ok (.iload_n 1, 1) := by decide +kernel
theorem dX10_seal_127 : decode cX10_seal 127 = .ok (.iaload, 1) := by decide +kernel
theorem dX10_seal_128 : decode cX10_seal 128 = .ok (.invokevirtual 206, 3) := by decide +kernel
theorem dX10_seal_131 : decode cX10_seal 131 = .ok (.aload_n 0, 1) := by decide +kernel
theorem dX10_seal_132 : decode cX10_seal 132 = .ok (.getfield 54, 3) := by decide +kernel
theorem dX10_seal_135 : decode cX10_seal 135 = .ok (.iload_n 2, 1) := by decide +kernel
theorem dX10_seal_136 : decode cX10_seal 136 = .ok (.invokestatic 330, 3) := by decide +kernel
theorem dX10_seal_139 : decode cX10_seal 139 = .ok (.invokevirtual 219, 3) := by decide +kernel
theorem dX10_seal_142 : decode cX10_seal 142 = .ok (.aload_n 0, 1) := by decide +kernel
theorem dX10_seal_143 : decode cX10_seal 143 = .ok (.getfield 33, 3) := by decide +kernel
theorem dX10_seal_146 : decode cX10_seal 146 = .ok (.getfield 253, 3) := by decide +kernel
theorem dX10_seal_149 : decode cX10_seal 149 = .ok (.iload_n 1, 1) := by decide +kernel
theorem dX10_seal_150 : decode cX10_seal 150 = .ok (.iaload, 1) := by decide +kernel
theorem dX10_seal_151 : decode cX10_seal 151 = .ok (.ireturn, 1) := by decide +kernel
theorem dX10_road_0 : decode cX10_road 0 = .ok (.aload_n 0, 1) := by decide +kernel
theorem dX10_road_1 : decode cX10_road 1 = .ok (.getfield 26, 3) := by decide +kernel
theorem dX10_road_4 : decode cX10_road 4 = .ok (.iload_n 1, 1) := by decide +kernel
theorem dX10_road_5 : decode cX10_road 5 = .ok (.invokevirtual 124, 3) := by decide +kernel
theorem dX10_road_8 : decode cX10_road 8 = .ok (.ifCond .eq 14, 3) := by decide +kernel
theorem dX10_road_11 : decode cX10_road 11 = .ok (.aload_n 0, 1) := by decide +kernel
theorem dX10_road_12 : decode cX10_road 12 = .ok (.getfield 26, 3) := by decide +kernel
theorem dX10_road_15 : decode cX10_road 15 = .ok (.iload_n 2, 1) := by decide +kernel
theorem dX10_road_16 : decode cX10_road 16 = .ok (.invokevirtual 124, 3) := by decide +kernel
theorem dX10_road_19 : decode cX10_road 19 = .ok (.ifCond .ne 5, 3) := by decide +kernel
theorem dX10_road_22 : decode cX10_road 22 = .ok (.iconst (-1), 1) := by decide +kernel
theorem dX10_road_23 : decode cX10_road 23 = .ok (.ireturn, 1) := by decide +kernel
theorem dX10_road_24 : decode cX10_road 24 = .ok (.aload_n 0, 1) := by decide +kernel
theorem dX10_road_25 : decode cX10_road 25 = .ok (.getfield 47, 3) := by decide +kernel
theorem dX10_road_28 : decode cX10_road 28 = .ok (.aload_n 0, 1) := by decide +kernel
theorem dX10_road_29 : decode cX10_road 29 = .ok (.getfield 26, 3) := by decide +kernel
theorem dX10_road_32 : decode cX10_road 32 = .ok (.invokevirtual 308, 3) := by decide +kernel
theorem dX10_road_35 : decode cX10_road 35 = .ok (.aload_n 0, 1) := by decide +kernel
theorem dX10_road_36 : decode cX10_road 36 = .ok (.getfield 47, 3) := by decide +kernel
theorem dX10_road_39 : decode cX10_road 39 = .ok (.iload_n 2, 1) := by decide +kernel
theorem dX10_road_40 : decode cX10_road 40 = .ok (.invokevirtual 383, 3) := by decide +kernel
theorem dX10_road_43 : decode cX10_road 43 = .ok (.aload_n 0, 1) := by decide +kernel
theorem dX10_road_44 : decode cX10_road 44 = .ok (.getfield 47, 3) := by decide +kernel
theorem dX10_road_47 : decode cX10_road 47 = .ok (.getfield 386, 3) := by decide +kernel
theorem dX10_road_50 : decode cX10_road 50 = .ok (.iload_n 1, 1) := by decide +kernel
theorem dX10_road_51 : decode cX10_road 51 = .ok (.iaload, 1) := by decide +kernel
theorem dX10_road_52 : decode cX10_road 52 = .ok (.istore_n 3, 1) := by decide +kernel
theorem dX10_road_53 : decode cX10_road 53 = .ok (.iload_n 3, 1) := by decide +kernel
theorem dX10_road_54 : decode cX10_road 54 = .ok (.iconst (-1), 1) := by decide +kernel
theorem dX10_road_55 : decode cX10_road 55 = .ok (.if_icmp .ne 6, 3) := by decide +kernel
theorem dX10_road_58 : decode cX10_road 58 = .ok (.bipush (-2), 2) := by decide +kernel
theorem dX10_road_60 : decode cX10_road 60 = .ok (.ireturn, 1) := by decide +kernel
theorem dX10_road_61 : decode cX10_road 61 = .ok (.aload_n 0, 1) := by decide +kernel
theorem dX10_road_62 : decode cX10_road 62 = .ok (.getfield 54, 3) := by decide +kernel
theorem dX10_road_65 : decode cX10_road 65 = .ok (.invokevirtual 252, 3) := by decide +kernel
theorem dX10_road_68 : decode cX10_road 68 = .ok (.iload_n 1, 1) := by decide +kernel
theorem dX10_road_69 : decode cX10_road 69 = .ok (.istore 4, 2) := by decide +kernel
theorem dX10_road_71 : decode cX10_road 71 = .ok (.iload_n 3, 1) := by decide +kernel
theorem dX10_road_72 : decode cX10_road 72 = .ok (.iconst 1, 1) := by decide +kernel
theorem dX10_road_73 : decode cX10_road 73 = .ok (.isub, 1) := by decide +kernel
theorem dX10_road_74 : decode cX10_road 74 = .ok (.istore 5, 2) := by decide +kernel
theorem dX10_road_76 : decode cX10_road 76 = .ok (.iload 5, 2) := by decide +kernel
theorem dX10_road_78 : decode cX10_road 78 = .ok (.ifCond .le 31, 3) := by decide +kernel
theorem dX10_road_81 : decode cX10_road 81 = .ok (.aload_n 0, 1) := by decide +kernel
theorem dX10_road_82 : decode cX10_road 82 = .ok (.getfield 47, 3) := by decide +kernel
theorem dX10_road_85 : decode cX10_road 85 = .ok (.iload 4, 2) := by decide +kernel
theorem dX10_road_87 : decode cX10_road 87 = .ok (.iload 5, 2) := by decide +kernel
theorem dX10_road_89 : decode cX10_road 89 = .ok (.invokevirtual 389, 3) := by decide +kernel
theorem dX10_road_92 : decode cX10_road 92 = .ok (.istore 4, 2) := by decide +kernel
theorem dX10_road_94 : decode cX10_road 94 = .ok (.aload_n 0, 1) := by decide +kernel
theorem dX10_road_95 : decode cX10_road 95 = .ok (.getfield 54, 3) := by decide +kernel
theorem dX10_road_98 : decode cX10_road 98 = .ok (.iload 4, 2) := by decide +kernel
theorem dX10_road_100 : decode cX10_road 100 = .ok (.invokevirtual 219, 3) := by decide +kernel
theorem dX10_road_103 : decode cX10_road 103 = .ok (.iinc 5 (-1), 3) := by decide +kernel
theorem dX10_road_106 : decode cX10_road 106 = .ok (.goto (-30), 3) := by decide +kernel
theorem dX10_road_109 : decode cX10_road 109 = .ok (.iload_n 3, 1) := by decide +kernel
theorem dX10_road_110 : decode cX10_road 110 = .ok (.ireturn, 1) := by decide +kernel
theorem dX10_boon_0 : decode cX10_boon 0 = .ok (.aload_n 0, 1) := by decide +kernel
theorem dX10_boon_1 : decode cX10_boon 1 = .ok (.getfield 26, 3) := by decide +kernel
theorem dX10_boon_4 : decode cX10_boon 4 = .ok (.getfield 94, 3) := by decide +kernel
theorem dX10_boon_7 : decode cX10_boon 7 = .ok (.ifCond .ne 6, 3) := by decide +kernel
theorem dX10_boon_10 : decode cX10_boon 10 = .ok (.bipush (-2), 2) := by decide +kernel
theorem dX10_boon_12 : decode cX10_boon 12 = .ok (.ireturn, 1) := by decide +kernel
theorem dX10_boon_13 : decode cX10_boon 13 = .ok (.aload_n 0, 1) := by decide +kernel
theorem dX10_boon_14 : decode cX10_boon 14 = .ok (.getfield 33, 3) := by decide +kernel
theorem dX10_boon_17 : decode cX10_boon 17 = .ok (.aload_n 0, 1) := by decide +kernel
theorem dX10_boon_18 : decode cX10_boon 18 = .ok (.getfield 26, 3) := by decide +kernel
theorem dX10_boon_21 : decode cX10_boon 21 = .ok (.invokevirtual 222, 3) := by decide +kernel
theorem dX10_boon_24 : decode cX10_boon 24 = .ok (.aload_n 0, 1) := by decide +kernel
theorem dX10_boon_25 : decode cX10_boon 25 = .ok (.getfield 33, 3) := by decide +kernel
theorem dX10_boon_28 : decode cX10_boon 28 = .ok (.invokevirtual 327, 3) := by decide +kernel
theorem dX10_boon_31 : decode cX10_boon 31 = .ok (.istore_n 1, 1) := by decide +kernel
theorem dX10_boon_32 : decode cX10_boon 32 = .ok (.iconst (-1), 1) := by decide +kernel
theorem dX10_boon_33 : decode cX10_boon 33 = .ok (.istore_n 2, 1) := by decide +kernel
theorem dX10_boon_34 : decode cX10_boon 34 = .ok (.iconst 0, 1) := by decide +kernel
theorem dX10_boon_35 : decode cX10_boon 35 = .ok (.istore_n 3, 1) := by decide +kernel
theorem dX10_boon_36 : decode cX10_boon 36 = .ok (.iconst 0, 1) := by decide +kernel
theorem dX10_boon_37 : decode cX10_boon 37 = .ok (.istore 4, 2) := by decide +kernel
theorem dX10_boon_39 : decode cX10_boon 39 = .ok (.iload 4, 2) := by decide +kernel
theorem dX10_boon_41 : decode cX10_boon 41 = .ok (.aload_n 0, 1) := by decide +kernel
theorem dX10_boon_42 : decode cX10_boon 42 = .ok (.getfield 26, 3) := by decide +kernel
theorem dX10_boon_45 : decode cX10_boon 45 = .ok (.getfield 94, 3) := by decide +kernel
theorem dX10_boon_48 : decode cX10_boon 48 = .ok (.if_icmp .ge 93, 3) := by decide +kernel
theorem dX10_boon_51 : decode cX10_boon 51 = .ok (.aload_n 0, 1) := by decide +kernel
theorem dX10_boon_52 : decode cX10_boon 52 = .ok (.getfield 33, 3) := by decide +kernel
theorem dX10_boon_55 : decode cX10_boon 55 = .ok (.aload_n 0, 1) := by decide +kernel
theorem dX10_boon_56 : decode cX10_boon 56 = .ok (.getfield 26, 3) := by decide +kernel
theorem dX10_boon_59 : decode cX10_boon 59 = .ok (.invokevirtual 380, 3) := by decide +kernel
theorem dX10_boon_62 : decode cX10_boon 62 = .ok (.aload_n 0, 1) := by decide +kernel
theorem dX10_boon_63 : decode cX10_boon 63 = .ok (.getfield 33, 3) := by decide +kernel
theorem dX10_boon_66 : decode cX10_boon 66 = .ok (.getfield 392, 3) := by decide +kernel
theorem dX10_boon_69 : decode cX10_boon 69 = .ok (.iload 4, 2) := by decide +kernel
theorem dX10_boon_71 : decode cX10_boon 71 = .ok (.bipush 9, 2) := by decide +kernel
theorem dX10_boon_73 : decode cX10_boon 73 = .ok (.aload_n 0, 1) := by decide +kernel
theorem dX10_boon_74 : decode cX10_boon 74 = .ok (.getfield 26, 3) := by decide +kernel
theorem dX10_boon_77 : decode cX10_boon 77 = .ok (.getfield 137, 3) := by decide +kernel
theorem dX10_boon_80 : decode cX10_boon 80 = .ok (.iload 4, 2) := by decide +kernel
theorem dX10_boon_82 : decode cX10_boon 82 = .ok (.iaload, 1) := by decide +kernel
theorem dX10_boon_83 : decode cX10_boon 83 = .ok (.iconst 1, 1) := by decide +kernel
theorem dX10_boon_84 : decode cX10_boon 84 = .ok (.iadd, 1) := by decide +kernel
theorem dX10_boon_85 : decode cX10_boon 85 = .ok (.invokestatic 176, 3) := by decide +kernel
theorem dX10_boon_88 : decode cX10_boon 88 = .ok (.iastore, 1) := by decide +kernel
theorem dX10_boon_89 : decode cX10_boon 89 = .ok (.aload_n 0, 1) := by decide +kernel
theorem dX10_boon_90 : decode cX10_boon 90 = .ok (.getfield 33, 3) := by decide +kernel
theorem dX10_boon_93 : decode cX10_boon 93 = .ok (.invokevirtual 327, 3) := by decide +kernel
theorem dX10_boon_96 : decode cX10_boon 96 = .ok (.istore 5, 2) := by decide +kernel
theorem dX10_boon_98 : decode cX10_boon 98 = .ok (.aload_n 0, 1) := by decide +kernel
theorem dX10_boon_99 : decode cX10_boon 99 = .ok (.getfield 33, 3) := by decide +kernel
theorem dX10_boon_102 : decode cX10_boon 102 = .ok (.getfield 392, 3) := by decide +kernel
theorem dX10_boon_105 : decode cX10_boon 105 = .ok (.iload 4, 2) := by decide +kernel
theorem dX10_boon_107 : decode cX10_boon 107 = .ok (.aload_n 0, 1) := by decide +kernel
theorem dX10_boon_108 : decode cX10_boon 108 = .ok (.getfield 26, 3) := by decide +kernel
theorem dX10_boon_111 : decode cX10_boon 111 = .ok (.getfield 137, 3) := by decide +kernel
theorem dX10_boon_114 : decode cX10_boon 114 = .ok (.iload 4, 2) := by decide +kernel
theorem dX10_boon_116 : decode cX10_boon 116 = .ok (.iaload, 1) := by decide +kernel
theorem dX10_boon_117 : decode cX10_boon 117 = .ok (.iastore, 1) := by decide +kernel
theorem dX10_boon_118 : decode cX10_boon 118 = .ok (.iload_n 2, 1) := by decide +kernel
theorem dX10_boon_119 : decode cX10_boon 119 = .ok (.iconst (-1), 1) := by decide +kernel
theorem dX10_boon_120 : decode cX10_boon 120 = .ok (.if_icmp .eq 9, 3) := by decide +kernel
theorem dX10_boon_123 : decode cX10_boon 123 = .ok (.iload 5, 2) := by decide +kernel
theorem dX10_boon_125 : decode cX10_boon 125 = .ok (.iload_n 3, 1) := by decide +kernel
theorem dX10_boon_126 : decode cX10_boon 126 = .ok (.if_icmp .le 9, 3) := by decide +kernel
theorem dX10_boon_129 : decode cX10_boon 129 = .ok (.iload 4, 2) := by decide +kernel
theorem dX10_boon_131 : decode cX10_boon 131 = .ok (.istore_n 2, 1) := by decide +kernel
theorem dX10_boon_132 : decode cX10_boon 132 = .ok (.iload 5, 2) := by decide +kernel
theorem dX10_boon_134 : decode cX10_boon 134 = .ok (.istore_n 3, 1) := by decide +kernel
theorem dX10_boon_135 : decode cX10_boon 135 = .ok (.iinc 4 1, 3) := by decide +kernel
theorem dX10_boon_138 : decode cX10_boon 138 = .ok (.goto (-99), 3) := by decide +kernel
theorem dX10_boon_141 : decode cX10_boon 141 = .ok (.aload_n 0, 1) := by decide +kernel
theorem dX10_boon_142 : decode cX10_boon 142 = .ok (.getfield 54, 3) := by decide +kernel
theorem dX10_boon_145 : decode cX10_boon 145 = .ok (.iload_n 3, 1) := by decide +kernel
theorem dX10_boon_146 : decode cX10_boon 146 = .ok (.invokestatic 330, 3) := by decide +kernel
theorem dX10_boon_149 : decode cX10_boon 149 = .ok (.invokevirtual 206, 3) := by decide +kernel
theorem dX10_boon_152 : decode cX10_boon 152 = .ok (.aload_n 0, 1) := by decide +kernel
theorem dX10_boon_153 : decode cX10_boon 153 = .ok (.getfield 54, 3) := by decide +kernel
theorem dX10_boon_156 : decode cX10_boon 156 = .ok (.iload_n 1, 1) := by decide +kernel
theorem dX10_boon_157 : decode cX10_boon 157 = .ok (.invokestatic 330, 3) := by decide +kernel
theorem dX10_boon_160 : decode cX10_boon 160 = .ok (.invokevirtual 219, 3) := by decide +kernel
theorem dX10_boon_163 : decode cX10_boon 163 = .ok (.iload_n 2, 1) := by decide +kernel
theorem dX10_boon_164 : decode cX10_boon 164 = .ok (.ireturn, 1) := by decide +kernel
theorem dX10_seen_0 : decode cX10_seen 0 = .ok (.iload_n 1, 1) := by decide +kernel
theorem dX10_seen_1 : decode cX10_seen 1 = .ok (.iconst 1, 1) := by decide +kernel
theorem dX10_seen_2 : decode cX10_seen 2 = .ok (.bipush 100, 2) := by decide +kernel
theorem dX10_seen_4 : decode cX10_seen 4 = .ok (.invokestatic 159, 3) := by decide +kernel
theorem dX10_seen_7 : decode cX10_seen 7 = .ok (.ifCond .eq 25, 3) := by decide +kernel
theorem dX10_seen_10 : decode cX10_seen 10 = .ok (.iload_n 2, 1) := by decide +kernel
theorem dX10_seen_11 : decode cX10_seen 11 = .ok (.iconst 0, 1) := by decide +kernel
theorem dX10_seen_12 : decode cX10_seen 12 = .ok (.bipush 36, 2) := by decide +kernel
theorem dX10_seen_14 : decode cX10_seen 14 = .ok (.invokestatic 159, 3) := by decide +kernel
theorem dX10_seen_17 : decode cX10_seen 17 = .ok (.ifCond .eq 15, 3) := by decide +kernel
theorem dX10_seen_20 : decode cX10_seen 20 = .ok (.aload_n 0, 1) := by decide +kernel
theorem dX10_seen_21 : decode cX10_seen 21 = .ok (.getfield 74, 3) := by decide +kernel
theorem dX10_seen_24 : decode cX10_seen 24 = .ok (.getfield 393, 3) := by decide +kernel
theorem dX10_seen_27 : decode cX10_seen 27 = .ok (.bipush 10, 2) := by decide +kernel
theorem dX10_seen_29 : decode cX10_seen 29 = .ok (.if_icmp .ne 5, 3) := by decide +kernel
theorem dX10_seen_32 : decode cX10_seen 32 = .ok (.iconst (-1), 1) := by decide +kernel
theorem dX10_seen_33 : decode cX10_seen 33 = .ok (.ireturn, 1) := by decide +kernel
theorem dX10_seen_34 : decode cX10_seen 34 = .ok (.aload_n 0, 1) := by decide +kernel
theorem dX10_seen_35 : decode cX10_seen 35 = .ok (.getfield 74, 3) := by decide +kernel
theorem dX10_seen_38 : decode cX10_seen 38 = .ok (.iload_n 1, 1) := by decide +kernel
theorem dX10_seen_39 : decode cX10_seen 39 = .ok (.iload_n 2, 1) := by decide +kernel
theorem dX10_seen_40 : decode cX10_seen 40 = .ok (.invokevirtual 394, 3) := by decide +kernel
theorem dX10_seen_43 : decode cX10_seen 43 = .ok (.aload_n 0, 1) := by decide +kernel
theorem dX10_seen_44 : decode cX10_seen 44 = .ok (.getfield 74, 3) := by decide +kernel
theorem dX10_seen_47 : decode cX10_seen 47 = .ok (.getfield 393, 3) := by decide +kernel
theorem dX10_seen_50 : decode cX10_seen 50 = .ok (.ireturn, 1) := by decide +kernel
theorem dX10_forget_0 : decode cX10_forget 0 = .ok (.aload_n 0, 1) := by decide +kernel
theorem dX10_forget_1 : decode cX10_forget 1 = .ok (.getfield 74, 3) := by decide +kernel
theorem dX10_forget_4 : decode cX10_forget 4 = .ok (.getfield 393, 3) := by decide +kernel
theorem dX10_forget_7 : decode cX10_forget 7 = .ok (.ifCond .ne 5, 3) := by decide +kernel
theorem dX10_forget_10 : decode cX10_forget 10 = .ok (.iconst (-1), 1) := by decide +kernel
theorem dX10_forget_11 : decode cX10_forget 11 = .ok (.ireturn, 1) := by decide +kernel
theorem dX10_forget_12 : decode cX10_forget 12 = .ok (.aload_n 0, 1) := by decide +kernel
theorem dX10_forget_13 : decode cX10_forget 13 = .ok (.getfield 74, 3) := by decide +kernel
theorem dX10_forget_16 : decode cX10_forget 16 = .ok (.dup, 1) := by decide +kernel
theorem dX10_forget_17 : decode cX10_forget 17 = .ok (.getfield 393, 3) := by decide +kernel
theorem dX10_forget_20 : decode cX10_forget 20 = .ok (.iconst 1, 1) := by decide +kernel
theorem dX10_forget_21 : decode cX10_forget 21 = .ok (.isub, 1) := by decide +kernel
theorem dX10_forget_22 : decode cX10_forget 22 = .ok (.putfield 393, 3) := by decide +kernel
theorem dX10_forget_25 : decode cX10_forget 25 = .ok (.aload_n 0, 1) := by decide +kernel
theorem dX10_forget_26 : decode cX10_forget 26 = .ok (.getfield 74, 3) := by decide +kernel
theorem dX10_forget_29 : decode cX10_forget 29 = .ok (.getfield 393, 3) := by decide +kernel
theorem dX10_forget_32 : decode cX10_forget 32 = .ok (.ireturn, 1) := by decide +kernel
theorem dX10_springs_0 : decode cX10_springs 0 = .ok (.aload_n 0, 1) := by decide +kernel
theorem dX10_springs_1 : decode cX10_springs 1 = .ok (.getfield 26, 3) := by decide +kernel
theorem dX10_springs_4 : decode cX10_springs 4 = .ok (.iload_n 1, 1) := by decide +kernel
theorem dX10_springs_5 : decode cX10_springs 5 = .ok (.invokevirtual 124, 3) := by decide +kernel
theorem dX10_springs_8 : decode cX10_springs 8 = .ok (.ifCond .ne 5, 3) := by decide +kernel
theorem dX10_springs_11 : decode cX10_springs 11 = .ok (.iconst (-1), 1) := by decide +kernel
theorem dX10_springs_12 : decode cX10_springs 12 = .ok (.ireturn, 1) := by decide +kernel
theorem dX10_springs_13 : decode cX10_springs 13 = .ok (.aload_n 0, 1) := by decide +kernel
theorem dX10_springs_14 : decode cX10_springs 14 = .ok (.getfield 33, 3) := by decide +kernel
theorem dX10_springs_17 : decode cX10_springs 17 = .ok (.aload_n 0, 1) := by decide +kernel
theorem dX10_springs_18 : decode cX10_springs 18 = .ok (.getfield 26, 3) := by decide +kernel
theorem dX10_springs_21 : decode cX10_springs 21 = .ok (.invokevirtual 222, 3) := by decide +kernel
theorem dX10_springs_24 : decode cX10_springs 24 = .ok (.iconst 0, 1) := by decide +kernel
theorem dX10_springs_25 : decode cX10_springs 25 = .ok (.istore_n 2, 1) := by decide +kernel
theorem dX10_springs_26 : decode cX10_springs 26 = .ok (.iconst 0, 1) := by decide +kernel
theorem dX10_springs_27 : decode cX10_springs 27 = .ok (.istore_n 3, 1) := by decide +kernel
theorem dX10_springs_28 : decode cX10_springs 28 = .ok (.iload_n 3, 1) := by decide +kernel
theorem dX10_springs_29 : decode cX10_springs 29 = .ok (.bipush 9, 2) := by decide +kernel
theorem dX10_springs_31 : decode cX10_springs 31 = .ok (.if_icmp .gt 54, 3) := by decide +kernel
theorem dX10_springs_34 : decode cX10_springs 34 = .ok (.aload_n 0, 1) := by decide +kernel
theorem dX10_springs_35 : decode cX10_springs 35 = .ok (.getfield 33, 3) := by decide +kernel
theorem dX10_springs_38 : decode cX10_springs 38 = .ok (.aload_n 0, 1) := by decide +kernel
theorem dX10_springs_39 : decode cX10_springs 39 = .ok (.getfield 26, 3) := by decide +kernel
theorem dX10_springs_42 : decode cX10_springs 42 = .ok (.invokevirtual 380, 3) := by decide +kernel
theorem dX10_springs_45 : decode cX10_springs 45 = .ok (.aload_n 0, 1) := by decide +kernel
theorem dX10_springs_46 : decode cX10_springs 46 = .ok (.getfield 33, 3) := by decide +kernel
theorem dX10_springs_49 : decode cX10_springs 49 = .ok (.getfield 392, 3) := by decide +kernel
theorem dX10_springs_52 : decode cX10_springs 52 = .ok (.iload_n 1, 1) := by decide +kernel
theorem dX10_springs_53 : decode cX10_springs 53 = .ok (.iload_n 3, 1) := by decide +kernel
theorem dX10_springs_54 : decode cX10_springs 54 = .ok (.iastore, 1) := by decide +kernel
theorem dX10_springs_55 : decode cX10_springs 55 = .ok (.iload_n 2, 1) := by decide +kernel
theorem dX10_springs_56 : decode cX10_springs 56 = .ok (.aload_n 0, 1) := by decide +kernel
theorem dX10_springs_57 : decode cX10_springs 57 = .ok (.getfield 74, 3) := by decide +kernel
theorem dX10_springs_60 : decode cX10_springs 60 = .ok (.aload_n 0, 1) := by decide +kernel
theorem dX10_springs_61 : decode cX10_springs 61 = .ok (.getfield 33, 3) := by decide +kernel
theorem dX10_springs_64 : decode cX10_springs 64 = .ok (.invokevirtual 396, 3) := by decide +kernel
theorem dX10_springs_67 : decode cX10_springs 67 = .ok (.ifCond .eq 9, 3) := by decide +kernel
theorem dX10_springs_70 : decode cX10_springs 70 = .ok (.iconst 1, 1) := by decide +kernel
theorem dX10_springs_71 : decode cX10_springs 71 = .ok (.iload_n 3, 1) := by decide +kernel
theorem dX10_springs_72 : decode cX10_springs 72 = .ok (.ishl, 1) := by decide +kernel
theorem dX10_springs_73 : decode cX10_springs 73 = .ok (.goto 4, 3) := by decide +kernel
theorem dX10_springs_76 : decode cX10_springs 76 = .ok (.iconst 0, 1) := by decide +kernel
theorem dX10_springs_77 : decode cX10_springs 77 = .ok (.ior, 1) := by decide +kernel
theorem dX10_springs_78 : decode cX10_springs 78 = .ok (.istore_n 2, 1) := by decide +kernel
theorem dX10_springs_79 : decode cX10_springs 79 = .ok (.iinc 3 1, 3) := by decide +kernel
theorem dX10_springs_82 : decode cX10_springs 82 = .ok (.goto (-54), 3) := by decide +kernel
theorem dX10_springs_85 : decode cX10_springs 85 = .ok (.iload_n 2, 1) := by decide +kernel
theorem dX10_springs_86 : decode cX10_springs 86 = .ok (.ireturn, 1) := by decide +kernel
theorem dX10_stones_0 : decode cX10_stones 0 = .ok (.aload_n 0, 1) := by decide +kernel
theorem dX10_stones_1 : decode cX10_stones 1 = .ok (.getfield 26, 3) := by decide +kernel
theorem dX10_stones_4 : decode cX10_stones 4 = .ok (.iload_n 1, 1) := by decide +kernel
