theorem dX10_stones_5 : decode cX10_stones 5 = .ok (.iload_n 2, 1) := by decide +kernel
theorem dX10_stones_6 : decode cX10_stones 6 = .ok (.invokevirtual 152, 3) := by decide +kernel
theorem dX10_stones_9 : decode cX10_stones 9 = .ok (.ifCond .ne 5, 3) := by decide +kernel
theorem dX10_stones_12 : decode cX10_stones 12 = .ok (.iconst (-1), 1) := by decide +kernel
theorem dX10_stones_13 : decode cX10_stones 13 = .ok (.ireturn, 1) := by decide +kernel
theorem dX10_stones_14 : decode cX10_stones 14 = .ok (.aload_n 0, 1) := by decide +kernel
theorem dX10_stones_15 : decode cX10_stones 15 = .ok (.getfield 33, 3) := by decide +kernel
theorem dX10_stones_18 : decode cX10_stones 18 = .ok (.aload_n 0, 1) := by decide +kernel
theorem dX10_stones_19 : decode cX10_stones 19 = .ok (.getfield 26, 3) := by decide +kernel
theorem dX10_stones_22 : decode cX10_stones 22 = .ok (.invokevirtual 222, 3) := by decide +kernel
theorem dX10_stones_25 : decode cX10_stones 25 = .ok (.aload_n 0, 1) := by decide +kernel
theorem dX10_stones_26 : decode cX10_stones 26 = .ok (.getfield 33, 3) := by decide +kernel
theorem dX10_stones_29 : decode cX10_stones 29 = .ok (.iload_n 1, 1) := by decide +kernel
theorem dX10_stones_30 : decode cX10_stones 30 = .ok (.iload_n 2, 1) := by decide +kernel
theorem dX10_stones_31 : decode cX10_stones 31 = .ok (.invokevirtual 362, 3) := by decide +kernel
theorem dX10_stones_34 : decode cX10_stones 34 = .ok (.istore_n 3, 1) := by decide +kernel
theorem dX10_stones_35 : decode cX10_stones 35 = .ok (.iload_n 3, 1) := by decide +kernel
theorem dX10_stones_36 : decode cX10_stones 36 = .ok (.iconst (-1), 1) := by decide +kernel
theorem dX10_stones_37 : decode cX10_stones 37 = .ok (.if_icmp .ne 6, 3) := by decide +kernel
theorem dX10_stones_40 : decode cX10_stones 40 = .ok (.bipush (-2), 2) := by decide +kernel
theorem dX10_stones_42 : decode cX10_stones 42 = .ok (.ireturn, 1) := by decide +kernel
theorem dX10_stones_43 : decode cX10_stones 43 = .ok (.iconst 0, 1) := by decide +kernel
theorem dX10_stones_44 : decode cX10_stones 44 = .ok (.istore 4, 2) := by decide +kernel
theorem dX10_stones_46 : decode cX10_stones 46 = .ok (.iconst 0, 1) := by decide +kernel
theorem dX10_stones_47 : decode cX10_stones 47 = .ok (.istore 5, 2) := by decide +kernel
theorem dX10_stones_49 : decode cX10_stones 49 = .ok (.iload 5, 2) := by decide +kernel
theorem dX10_stones_51 : decode cX10_stones 51 = .ok (.bipush 9, 2) := by decide +kernel
theorem dX10_stones_53 : decode cX10_stones 53 = .ok (.if_icmp .gt 58, 3) := by decide +kernel
theorem dX10_stones_56 : decode cX10_stones 56 = .ok (.aload_n 0, 1) := by decide +kernel
theorem dX10_stones_57 : decode cX10_stones 57 = .ok (.getfield 33, 3) := by decide +kernel
theorem dX10_stones_60 : decode cX10_stones 60 = .ok (.aload_n 0, 1) := by decide +kernel
theorem dX10_stones_61 : decode cX10_stones 61 = .ok (.getfield 26, 3) := by decide +kernel
theorem dX10_stones_64 : decode cX10_stones 64 = .ok (.invokevirtual 380, 3) := by decide +kernel
theorem dX10_stones_67 : decode cX10_stones 67 = .ok (.aload_n 0, 1) := by decide +kernel
theorem dX10_stones_68 : decode cX10_stones 68 = .ok (.getfield 33, 3) := by decide +kernel
theorem dX10_stones_71 : decode cX10_stones 71 = .ok (.getfield 377, 3) := by decide +kernel
theorem dX10_stones_74 : decode cX10_stones 74 = .ok (.iload_n 3, 1) := by decide +kernel
theorem dX10_stones_75 : decode cX10_stones 75 = .ok (.iload 5, 2) := by decide +kernel
theorem dX10_stones_77 : decode cX10_stones 77 = .ok (.iastore, 1) := by decide +kernel
theorem dX10_stones_78 : decode cX10_stones 78 = .ok (.iload 4, 2) := by decide +kernel
theorem dX10_stones_80 : decode cX10_stones 80 = .ok (.aload_n 0, 1) := by decide +kernel
theorem dX10_stones_81 : decode cX10_stones 81 = .ok (.getfield 74, 3) := by decide +kernel
theorem dX10_stones_84 : decode cX10_stones 84 = .ok (.aload_n 0, 1) := by decide +kernel
theorem dX10_stones_85 : decode cX10_stones 85 = .ok (.getfield 33, 3) := by decide +kernel
theorem dX10_stones_88 : decode cX10_stones 88 = .ok (.invokevirtual 396, 3) := by decide +kernel
theorem dX10_stones_91 : decode cX10_stones 91 = .ok (.ifCond .eq 10, 3) := by decide +kernel
theorem dX10_stones_94 : decode cX10_stones 94 = .ok (.iconst 1, 1) := by decide +kernel
theorem dX10_stones_95 : decode cX10_stones 95 = .ok (.iload 5, 2) := by decide +kernel
theorem dX10_stones_97 : decode cX10_stones 97 = .ok (.ishl, 1) := by decide +kernel
theorem dX10_stones_98 : decode cX10_stones 98 = .ok (.goto 4, 3) := by decide +kernel
theorem dX10_stones_101 : decode cX10_stones 101 = .ok (.iconst 0, 1) := by decide +kernel
theorem dX10_stones_102 : decode cX10_stones 102 = .ok (.ior, 1) := by decide +kernel
theorem dX10_stones_103 : decode cX10_stones 103 = .ok (.istore 4, 2) := by decide +kernel
theorem dX10_stones_105 : decode cX10_stones 105 = .ok (.iinc 5 1, 3) := by decide +kernel
theorem dX10_stones_108 : decode cX10_stones 108 = .ok (.goto (-59), 3) := by decide +kernel
theorem dX10_stones_111 : decode cX10_stones 111 = .ok (.iload 4, 2) := by decide +kernel
theorem dX10_stones_113 : decode cX10_stones 113 = .ok (.ireturn, 1) := by decide +kernel
theorem dX10_nights_0 : decode cX10_nights 0 = .ok (.aload_n 0, 1) := by decide +kernel
theorem dX10_nights_1 : decode cX10_nights 1 = .ok (.getfield 33, 3) := by decide +kernel
theorem dX10_nights_4 : decode cX10_nights 4 = .ok (.aload_n 0, 1) := by decide +kernel
theorem dX10_nights_5 : decode cX10_nights 5 = .ok (.getfield 26, 3) := by decide +kernel
theorem dX10_nights_8 : decode cX10_nights 8 = .ok (.invokevirtual 222, 3) := by decide +kernel
theorem dX10_nights_11 : decode cX10_nights 11 = .ok (.aload_n 0, 1) := by decide +kernel
theorem dX10_nights_12 : decode cX10_nights 12 = .ok (.getfield 74, 3) := by decide +kernel
theorem dX10_nights_15 : decode cX10_nights 15 = .ok (.aload_n 0, 1) := by decide +kernel
theorem dX10_nights_16 : decode cX10_nights 16 = .ok (.getfield 33, 3) := by decide +kernel
theorem dX10_nights_19 : decode cX10_nights 19 = .ok (.invokevirtual 396, 3) := by decide +kernel
theorem dX10_nights_22 : decode cX10_nights 22 = .ok (.istore_n 1, 1) := by decide +kernel
theorem dX10_nights_23 : decode cX10_nights 23 = .ok (.iconst 0, 1) := by decide +kernel
theorem dX10_nights_24 : decode cX10_nights 24 = .ok (.istore_n 2, 1) := by decide +kernel
theorem dX10_nights_25 : decode cX10_nights 25 = .ok (.aload_n 0, 1) := by decide +kernel
theorem dX10_nights_26 : decode cX10_nights 26 = .ok (.getfield 54, 3) := by decide +kernel
theorem dX10_nights_29 : decode cX10_nights 29 = .ok (.invokevirtual 252, 3) := by decide +kernel
theorem dX10_nights_32 : decode cX10_nights 32 = .ok (.iconst 0, 1) := by decide +kernel
theorem dX10_nights_33 : decode cX10_nights 33 = .ok (.istore_n 3, 1) := by decide +kernel
theorem dX10_nights_34 : decode cX10_nights 34 = .ok (.iload_n 3, 1) := by decide +kernel
theorem dX10_nights_35 : decode cX10_nights 35 = .ok (.aload_n 0, 1) := by decide +kernel
theorem dX10_nights_36 : decode cX10_nights 36 = .ok (.getfield 26, 3) := by decide +kernel
theorem dX10_nights_39 : decode cX10_nights 39 = .ok (.getfield 94, 3) := by decide +kernel
theorem dX10_nights_42 : decode cX10_nights 42 = .ok (.if_icmp .ge 74, 3) := by decide +kernel
theorem dX10_nights_45 : decode cX10_nights 45 = .ok (.iconst 0, 1) := by decide +kernel
theorem dX10_nights_46 : decode cX10_nights 46 = .ok (.istore 4, 2) := by decide +kernel
theorem dX10_nights_48 : decode cX10_nights 48 = .ok (.iload 4, 2) := by decide +kernel
theorem dX10_nights_50 : decode cX10_nights 50 = .ok (.aload_n 0, 1) := by decide +kernel
theorem dX10_nights_51 : decode cX10_nights 51 = .ok (.getfield 26, 3) := by decide +kernel
theorem dX10_nights_54 : decode cX10_nights 54 = .ok (.getfield 94, 3) := by decide +kernel
theorem dX10_nights_57 : decode cX10_nights 57 = .ok (.if_icmp .ge 53, 3) := by decide +kernel
theorem dX10_nights_60 : decode cX10_nights 60 = .ok (.aload_n 0, 1) := by decide +kernel
theorem dX10_nights_61 : decode cX10_nights 61 = .ok (.getfield 26, 3) := by decide +kernel
theorem dX10_nights_64 : decode cX10_nights 64 = .ok (.iload_n 3, 1) := by decide +kernel
theorem dX10_nights_65 : decode cX10_nights 65 = .ok (.iload 4, 2) := by decide +kernel
theorem dX10_nights_67 : decode cX10_nights 67 = .ok (.invokevirtual 184, 3) := by decide +kernel
theorem dX10_nights_70 : decode cX10_nights 70 = .ok (.ifCond .eq 34, 3) := by decide +kernel
theorem dX10_nights_73 : decode cX10_nights 73 = .ok (.aload_n 0, 1) := by decide +kernel
theorem dX10_nights_74 : decode cX10_nights 74 = .ok (.iload_n 3, 1) := by decide +kernel
theorem dX10_nights_75 : decode cX10_nights 75 = .ok (.iload 4, 2) := by decide +kernel
theorem dX10_nights_77 : decode cX10_nights 77 = .ok (.invokevirtual 400, 3) := by decide +kernel
theorem dX10_nights_80 : decode cX10_nights 80 = .ok (.ifCond .eq 24, 3) := by decide +kernel
theorem dX10_nights_83 : decode cX10_nights 83 = .ok (.iload_n 2, 1) := by decide +kernel
theorem dX10_nights_84 : decode cX10_nights 84 = .ok (.ifCond .ne 17, 3) := by decide +kernel
theorem dX10_nights_87 : decode cX10_nights 87 = .ok (.aload_n 0, 1) := by decide +kernel
theorem dX10_nights_88 : decode cX10_nights 88 = .ok (.getfield 54, 3) := by decide +kernel
theorem dX10_nights_91 : decode cX10_nights 91 = .ok (.bipush 10, 2) := by decide +kernel
theorem dX10_nights_93 : decode cX10_nights 93 = .ok (.iload_n 3, 1) := by decide +kernel
theorem dX10_nights_94 : decode cX10_nights 94 = .ok (.imul, 1) := by decide +kernel
theorem dX10_nights_95 : decode cX10_nights 95 = .ok (.iload 4, 2) := by decide +kernel
theorem dX10_nights_97 : decode cX10_nights 97 = .ok (.iadd, 1) := by decide +kernel
theorem dX10_nights_98 : decode cX10_nights 98 = .ok (.invokevirtual 219, 3) := by decide +kernel
theorem dX10_nights_101 : decode cX10_nights 101 = .ok (.iinc 2 1, 3) := by decide +kernel
theorem dX10_nights_104 : decode cX10_nights 104 = .ok (.iinc 4 1, 3) := by decide +kernel
theorem dX10_nights_107 : decode cX10_nights 107 = .ok (.goto (-59), 3) := by decide +kernel
theorem dX10_nights_110 : decode cX10_nights 110 = .ok (.iinc 3 1, 3) := by decide +kernel
theorem dX10_nights_113 : decode cX10_nights 113 = .ok (.goto (-79), 3) := by decide +kernel
theorem dX10_nights_116 : decode cX10_nights 116 = .ok (.aload_n 0, 1) := by decide +kernel
theorem dX10_nights_117 : decode cX10_nights 117 = .ok (.getfield 54, 3) := by decide +kernel
theorem dX10_nights_120 : decode cX10_nights 120 = .ok (.iload_n 1, 1) := by decide +kernel
theorem dX10_nights_121 : decode cX10_nights 121 = .ok (.ifCond .eq 7, 3) := by decide +kernel
theorem dX10_nights_124 : decode cX10_nights 124 = .ok (.iconst 1, 1) := by decide +kernel
theorem dX10_nights_125 : decode cX10_nights 125 = .ok (.goto 4, 3) := by decide +kernel
theorem dX10_nights_128 : decode cX10_nights 128 = .ok (.iconst 0, 1) := by decide +kernel
theorem dX10_nights_129 : decode cX10_nights 129 = .ok (.invokevirtual 219, 3) := by decide +kernel
theorem dX10_nights_132 : decode cX10_nights 132 = .ok (.iload_n 2, 1) := by decide +kernel
theorem dX10_nights_133 : decode cX10_nights 133 = .ok (.ireturn, 1) := by decide +kernel
theorem dX10_wouldExplain_0 : decode cX10_wouldExplain 0 = .ok (.aload_n 0, 1) := by decide +kernel
theorem dX10_wouldExplain_1 : decode cX10_wouldExplain 1 = .ok (.getfield 33, 3) := by decide +kernel
theorem dX10_wouldExplain_4 : decode cX10_wouldExplain 4 = .ok (.aload_n 0, 1) := by decide +kernel
theorem dX10_wouldExplain_5 : decode cX10_wouldExplain 5 = .ok (.getfield 26, 3) := by decide +kernel
theorem dX10_wouldExplain_8 : decode cX10_wouldExplain 8 = .ok (.invokevirtual 380, 3) := by decide +kernel
theorem dX10_wouldExplain_11 : decode cX10_wouldExplain 11 = .ok (.aload_n 0, 1) := by decide +kernel
theorem dX10_wouldExplain_12 : decode cX10_wouldExplain 12 = .ok (.getfield 33, 3) := by decide +kernel
theorem dX10_wouldExplain_15 : decode cX10_wouldExplain 15 = .ok (.getfield 228, 3) := by decide +kernel
theorem dX10_wouldExplain_18 : decode cX10_wouldExplain 18 = .ok (.iload_n 1, 1) := by decide +kernel
theorem dX10_wouldExplain_19 : decode cX10_wouldExplain 19 = .ok (.dup2, 1) := by decide +kernel
theorem dX10_wouldExplain_20 : decode cX10_wouldExplain 20 = .ok (.iaload, 1) := by decide +kernel
theorem dX10_wouldExplain_21 : decode cX10_wouldExplain 21 = .ok (.aload_n 0, 1) := by decide +kernel
theorem dX10_wouldExplain_22 : decode cX10_wouldExplain 22 = .ok (.getfield 26, 3) := by decide +kernel
theorem dX10_wouldExplain_25 : decode cX10_wouldExplain 25 = .ok (.getfield 163, 3) := by decide +kernel
theorem dX10_wouldExplain_28 : decode cX10_wouldExplain 28 = .ok (.iconst 2, 1) := by decide +kernel
theorem dX10_wouldExplain_29 : decode cX10_wouldExplain 29 = .ok (.iaload, 1) := by decide +kernel
theorem dX10_wouldExplain_30 : decode cX10_wouldExplain 30 = .ok (.isub, 1) := by decide +kernel
theorem dX10_wouldExplain_31 : decode cX10_wouldExplain 31 = .ok (.iastore, 1) := by decide +kernel
theorem dX10_wouldExplain_32 : decode cX10_wouldExplain 32 = .ok (.aload_n 0, 1) := by decide +kernel
theorem dX10_wouldExplain_33 : decode cX10_wouldExplain 33 = .ok (.getfield 33, 3) := by decide +kernel
theorem dX10_wouldExplain_36 : decode cX10_wouldExplain 36 = .ok (.getfield 228, 3) := by decide +kernel
theorem dX10_wouldExplain_39 : decode cX10_wouldExplain 39 = .ok (.iload_n 2, 1) := by decide +kernel
theorem dX10_wouldExplain_40 : decode cX10_wouldExplain 40 = .ok (.dup2, 1) := by decide +kernel
theorem dX10_wouldExplain_41 : decode cX10_wouldExplain 41 = .ok (.iaload, 1) := by decide +kernel
theorem dX10_wouldExplain_42 : decode cX10_wouldExplain 42 = .ok (.aload_n 0, 1) := by decide +kernel
theorem dX10_wouldExplain_43 : decode cX10_wouldExplain 43 = .ok (.getfield 26, 3) := by decide +kernel
theorem dX10_wouldExplain_46 : decode cX10_wouldExplain 46 = .ok (.getfield 163, 3) := by decide +kernel
theorem dX10_wouldExplain_49 : decode cX10_wouldExplain 49 = .ok (.iconst 2, 1) := by decide +kernel
theorem dX10_wouldExplain_50 : decode cX10_wouldExplain 50 = .ok (.iaload, 1) := by decide +kernel
theorem dX10_wouldExplain_51 : decode cX10_wouldExplain 51 = .ok (.iadd, 1) := by decide +kernel
theorem dX10_wouldExplain_52 : decode cX10_wouldExplain 52 = .ok (.iastore, 1) := by decide +kernel
theorem dX10_wouldExplain_53 : decode cX10_wouldExplain 53 = .ok (.aload_n 0, 1) := by decide +kernel
theorem dX10_wouldExplain_54 : decode cX10_wouldExplain 54 = .ok (.getfield 74, 3) := by decide +kernel
theorem dX10_wouldExplain_57 : decode cX10_wouldExplain 57 = .ok (.aload_n 0, 1) := by decide +kernel
theorem dX10_wouldExplain_58 : decode cX10_wouldExplain 58 = .ok (.getfield 33, 3) := by decide +kernel
theorem dX10_wouldExplain_61 : decode cX10_wouldExplain 61 = .ok (.invokevirtual 396, 3) := by decide +kernel
theorem dX10_wouldExplain_64 : decode cX10_wouldExplain 64 = .ok (.ireturn, 1) := by decide +kernel
theorem dX10_sunday_0 : decode cX10_sunday 0 = .ok (.aload_n 0, 1) := by decide +kernel
theorem dX10_sunday_1 : decode cX10_sunday 1 = .ok (.getfield 26, 3) := by decide +kernel
theorem dX10_sunday_4 : decode cX10_sunday 4 = .ok (.getfield 94, 3) := by decide +kernel
theorem dX10_sunday_7 : decode cX10_sunday 7 = .ok (.ifCond .ne 6, 3) := by decide +kernel
theorem dX10_sunday_10 : decode cX10_sunday 10 = .ok (.bipush (-2), 2) := by decide +kernel
theorem dX10_sunday_12 : decode cX10_sunday 12 = .ok (.ireturn, 1) := by decide +kernel
theorem dX10_sunday_13 : decode cX10_sunday 13 = .ok (.aload_n 0, 1) := by decide +kernel
theorem dX10_sunday_14 : decode cX10_sunday 14 = .ok (.invokevirtual 403, 3) := by decide +kernel
theorem dX10_sunday_17 : decode cX10_sunday 17 = .ok (.istore_n 1, 1) := by decide +kernel
theorem dX10_sunday_18 : decode cX10_sunday 18 = .ok (.iconst 0, 1) := by decide +kernel
theorem dX10_sunday_19 : decode cX10_sunday 19 = .ok (.istore_n 2, 1) := by decide +kernel
theorem dX10_sunday_20 : decode cX10_sunday 20 = .ok (.iload_n 1, 1) := by decide +kernel
theorem dX10_sunday_21 : decode cX10_sunday 21 = .ok (.iconst 1, 1) := by decide +kernel
theorem dX10_sunday_22 : decode cX10_sunday 22 = .ok (.iadd, 1) := by decide +kernel
theorem dX10_sunday_23 : decode cX10_sunday 23 = .ok (.istore_n 3, 1) := by decide +kernel
theorem dX10_sunday_24 : decode cX10_sunday 24 = .ok (.iconst 0, 1) := by decide +kernel
theorem dX10_sunday_25 : decode cX10_sunday 25 = .ok (.istore 4, 2) := by decide +kernel
theorem dX10_sunday_27 : decode cX10_sunday 27 = .ok (.iload 4, 2) := by decide +kernel
theorem dX10_sunday_29 : decode cX10_sunday 29 = .ok (.bipush 20, 2) := by decide +kernel
theorem dX10_sunday_31 : decode cX10_sunday 31 = .ok (.if_icmp .ge 30, 3) := by decide +kernel
theorem dX10_sunday_34 : decode cX10_sunday 34 = .ok (.aload_n 0, 1) := by decide +kernel
theorem dX10_sunday_35 : decode cX10_sunday 35 = .ok (.iload 4, 2) := by decide +kernel
theorem dX10_sunday_37 : decode cX10_sunday 37 = .ok (.iload_n 1, 1) := by decide +kernel
theorem dX10_sunday_38 : decode cX10_sunday 38 = .ok (.invokevirtual 406, 3) := by decide +kernel
theorem dX10_sunday_41 : decode cX10_sunday 41 = .ok (.istore 5, 2) := by decide +kernel
theorem dX10_sunday_43 : decode cX10_sunday 43 = .ok (.iload 5, 2) := by decide +kernel
theorem dX10_sunday_45 : decode cX10_sunday 45 = .ok (.iload_n 3, 1) := by decide +kernel
theorem dX10_sunday_46 : decode cX10_sunday 46 = .ok (.if_icmp .ge 9, 3) := by decide +kernel
theorem dX10_sunday_49 : decode cX10_sunday 49 = .ok (.iload 5, 2) := by decide +kernel
theorem dX10_sunday_51 : decode cX10_sunday 51 = .ok (.istore_n 3, 1) := by decide +kernel
theorem dX10_sunday_52 : decode cX10_sunday 52 = .ok (.iload 4, 2) := by decide +kernel
theorem dX10_sunday_54 : decode cX10_sunday 54 = .ok (.istore_n 2, 1) := by decide +kernel
theorem dX10_sunday_55 : decode cX10_sunday 55 = .ok (.iinc 4 1, 3) := by decide +kernel
theorem dX10_sunday_58 : decode cX10_sunday 58 = .ok (.goto (-31), 3) := by decide +kernel
theorem dX10_sunday_61 : decode cX10_sunday 61 = .ok (.aload_n 0, 1) := by decide +kernel
theorem dX10_sunday_62 : decode cX10_sunday 62 = .ok (.getfield 54, 3) := by decide +kernel
theorem dX10_sunday_65 : decode cX10_sunday 65 = .ok (.iload_n 3, 1) := by decide +kernel
theorem dX10_sunday_66 : decode cX10_sunday 66 = .ok (.invokevirtual 206, 3) := by decide +kernel
theorem dX10_sunday_69 : decode cX10_sunday 69 = .ok (.iload_n 2, 1) := by decide +kernel
theorem dX10_sunday_70 : decode cX10_sunday 70 = .ok (.iconst 1, 1) := by decide +kernel
theorem dX10_sunday_71 : decode cX10_sunday 71 = .ok (.iadd, 1) := by decide +kernel
theorem dX10_sunday_72 : decode cX10_sunday 72 = .ok (.ireturn, 1) := by decide +kernel
theorem dX10_showAllWays_0 : decode cX10_showAllWays 0 = .ok (.aload_n 0, 1) := by decide +kernel
theorem dX10_showAllWays_1 : decode cX10_showAllWays 1 = .ok (.getfield 33, 3) := by decide +kernel
theorem dX10_showAllWays_4 : decode cX10_showAllWays 4 = .ok (.aload_n 0, 1) := by decide +kernel
theorem dX10_showAllWays_5 : decode cX10_showAllWays 5 = .ok (.getfield 26, 3) := by decide +kernel
theorem dX10_showAllWays_8 : decode cX10_showAllWays 8 = .ok (.invokevirtual 222, 3) := by decide +kernel
theorem dX10_showAllWays_11 : decode cX10_showAllWays 11 = .ok (.aload_n 0, 1) := by decide +kernel
theorem dX10_showAllWays_12 : decode cX10_showAllWays 12 = .ok (.iconst 0, 1) := by decide +kernel
theorem dX10_showAllWays_13 : decode cX10_showAllWays 13 = .ok (.invokevirtual 409, 3) := by decide +kernel
theorem dX10_showAllWays_16 : decode cX10_showAllWays 16 = .ok (.iconst 1, 1) := by decide +kernel
theorem dX10_showAllWays_17 : decode cX10_showAllWays 17 = .ok (.istore_n 1, 1) := by decide +kernel
theorem dX10_showAllWays_18 : decode cX10_showAllWays 18 = .ok (.iconst 0, 1) := by decide +kernel
theorem dX10_showAllWays_19 : decode cX10_showAllWays 19 = .ok (.istore_n 2, 1) := by decide +kernel
theorem dX10_showAllWays_20 : decode cX10_showAllWays 20 = .ok (.iload_n 2, 1) := by decide +kernel
theorem dX10_showAllWays_21 : decode cX10_showAllWays 21 = .ok (.aload_n 0, 1) := by decide +kernel
theorem dX10_showAllWays_22 : decode cX10_showAllWays 22 = .ok (.getfield 26, 3) := by decide +kernel
theorem dX10_showAllWays_25 : decode cX10_showAllWays 25 = .ok (.getfield 94, 3) := by decide +kernel
theorem dX10_showAllWays_28 : decode cX10_showAllWays 28 = .ok (.if_icmp .ge 80, 3) := by decide +kernel
theorem dX10_showAllWays_31 : decode cX10_showAllWays 31 = .ok (.aload_n 0, 1) := by decide +kernel
theorem dX10_showAllWays_32 : decode cX10_showAllWays 32 = .ok (.getfield 26, 3) := by decide +kernel
theorem dX10_showAllWays_35 : decode cX10_showAllWays 35 = .ok (.getfield 137, 3) := by decide +kernel
theorem dX10_showAllWays_38 : decode cX10_showAllWays 38 = .ok (.iload_n 2, 1) := by decide +kernel
theorem dX10_showAllWays_39 : decode cX10_showAllWays 39 = .ok (.iaload, 1) := by decide +kernel
theorem dX10_showAllWays_40 : decode cX10_showAllWays 40 = .ok (.bipush 9, 2) := by decide +kernel
theorem dX10_showAllWays_42 : decode cX10_showAllWays 42 = .ok (.if_icmp .ge 60, 3) := by decide +kernel
theorem dX10_showAllWays_45 : decode cX10_showAllWays 45 = .ok (.aload_n 0, 1) := by decide +kernel
theorem dX10_showAllWays_46 : decode cX10_showAllWays 46 = .ok (.getfield 33, 3) := by decide +kernel
theorem dX10_showAllWays_49 : decode cX10_showAllWays 49 = .ok (.aload_n 0, 1) := by decide +kernel
theorem dX10_showAllWays_50 : decode cX10_showAllWays 50 = .ok (.getfield 26, 3) := by decide +kernel
theorem dX10_showAllWays_53 : decode cX10_showAllWays 53 = .ok (.invokevirtual 380, 3) := by decide +kernel
theorem dX10_showAllWays_56 : decode cX10_showAllWays 56 = .ok (.aload_n 0, 1) := by decide +kernel
theorem dX10_showAllWays_57 : decode cX10_showAllWays 57 = .ok (.getfield 33, 3) := by decide +kernel
theorem dX10_showAllWays_60 : decode cX10_showAllWays 60 = .ok (.getfield 392, 3) := by decide +kernel
theorem dX10_showAllWays_63 : decode cX10_showAllWays 63 = .ok (.iload_n 2, 1) := by decide +kernel
theorem dX10_showAllWays_64 : decode cX10_showAllWays 64 = .ok (.aload_n 0, 1) := by decide +kernel
theorem dX10_showAllWays_65 : decode cX10_showAllWays 65 = .ok (.getfield 26, 3) := by decide +kernel
theorem dX10_showAllWays_68 : decode cX10_showAllWays 68 = .ok (.getfield 137, 3) := by decide +kernel
theorem dX10_showAllWays_71 : decode cX10_showAllWays 71 = .ok (.iload_n 2, 1) := by decide +kernel
theorem dX10_showAllWays_72 : decode cX10_showAllWays 72 = .ok (.iaload, 1) := by decide +kernel
theorem dX10_showAllWays_73 : decode cX10_showAllWays 73 = .ok (.iconst 1, 1) := by decide +kernel
theorem dX10_showAllWays_74 : decode cX10_showAllWays 74 = .ok (.iadd, 1) := by decide +kernel
theorem dX10_showAllWays_75 : decode cX10_showAllWays 75 = .ok (.iastore, 1) := by decide +kernel
theorem dX10_showAllWays_76 : decode cX10_showAllWays 76 = .ok (.aload_n 0, 1) := by decide +kernel
theorem dX10_showAllWays_77 : decode cX10_showAllWays 77 = .ok (.iload_n 1, 1) := by decide +kernel
theorem dX10_showAllWays_78 : decode cX10_showAllWays 78 = .ok (.invokevirtual 409, 3) := by decide +kernel
theorem dX10_showAllWays_81 : decode cX10_showAllWays 81 = .ok (.aload_n 0, 1) := by decide +kernel
theorem dX10_showAllWays_82 : decode cX10_showAllWays 82 = .ok (.getfield 33, 3) := by decide +kernel
theorem dX10_showAllWays_85 : decode cX10_showAllWays 85 = .ok (.getfield 392, 3) := by decide +kernel
theorem dX10_showAllWays_88 : decode cX10_showAllWays 88 = .ok (.iload_n 2, 1) := by decide +kernel
theorem dX10_showAllWays_89 : decode cX10_showAllWays 89 = .ok (.aload_n 0, 1) := by decide +kernel
theorem dX10_showAllWays_90 : decode cX10_showAllWays 90 = .ok (.getfield 26, 3) := by decide +kernel
theorem dX10_showAllWays_93 : decode cX10_showAllWays 93 = .ok (.getfield 137, 3) := by decide +kernel
theorem dX10_showAllWays_96 : decode cX10_showAllWays 96 = .ok (.iload_n 2, 1) := by decide +kernel
theorem dX10_showAllWays_97 : decode cX10_showAllWays 97 = .ok (.iaload, 1) := by decide +kernel
theorem dX10_showAllWays_98 : decode cX10_showAllWays 98 = .ok (.iastore, 1) := by decide +kernel
theorem dX10_showAllWays_99 : decode cX10_showAllWays 99 = .ok (.iinc 1 1, 3) := by decide +kernel
theorem dX10_showAllWays_102 : decode cX10_showAllWays 102 = .ok (.iinc 2 1, 3) := by decide +kernel
theorem dX10_showAllWays_105 : decode cX10_showAllWays 105 = .ok (.goto (-85), 3) := by decide +kernel
theorem dX10_showAllWays_108 : decode cX10_showAllWays 108 = .ok (.iload_n 1, 1) := by decide +kernel
theorem dX10_showAllWays_109 : decode cX10_showAllWays 109 = .ok (.ireturn, 1) := by decide +kernel
theorem dX10_showWay_0 : decode cX10_showWay 0 = .ok (.iconst 0, 1) := by decide +kernel
theorem dX10_showWay_1 : decode cX10_showWay 1 = .ok (.istore_n 2, 1) := by decide +kernel
theorem dX10_showWay_2 : decode cX10_showWay 2 = .ok (.iload_n 2, 1) := by decide +kernel
theorem dX10_showWay_3 : decode cX10_showWay 3 = .ok (.bipush 20, 2) := by decide +kernel
theorem dX10_showWay_5 : decode cX10_showWay 5 = .ok (.if_icmp .ge 36, 3) := by decide +kernel
theorem dX10_showWay_8 : decode cX10_showWay 8 = .ok (.aload_n 0, 1) := by decide +kernel
theorem dX10_showWay_9 : decode cX10_showWay 9 = .ok (.getfield 33, 3) := by decide +kernel
theorem dX10_showWay_12 : decode cX10_showWay 12 = .ok (.iconst 0, 1) := by decide +kernel
theorem dX10_showWay_13 : decode cX10_showWay 13 = .ok (.iconst 0, 1) := by decide +kernel
theorem dX10_showWay_14 : decode cX10_showWay 14 = .ok (.invokevirtual 225, 3) := by decide +kernel
theorem dX10_showWay_17 : decode cX10_showWay 17 = .ok (.aload_n 0, 1) := by decide +kernel
theorem dX10_showWay_18 : decode cX10_showWay 18 = .ok (.getfield 78, 3) := by decide +kernel
theorem dX10_showWay_21 : decode cX10_showWay 21 = .ok (.iload_n 1, 1) := by decide +kernel
theorem dX10_showWay_22 : decode cX10_showWay 22 = .ok (.bipush 20, 2) := by decide +kernel
theorem dX10_showWay_24 : decode cX10_showWay 24 = .ok (.imul, 1) := by decide +kernel
theorem dX10_showWay_25 : decode cX10_showWay 25 = .ok (.iload_n 2, 1) := by decide +kernel
theorem dX10_showWay_26 : decode cX10_showWay 26 = .ok (.iadd, 1) := by decide +kernel
theorem dX10_showWay_27 : decode cX10_showWay 27 = .ok (.aload_n 0, 1) := by decide +kernel
theorem dX10_showWay_28 : decode cX10_showWay 28 = .ok (.getfield 33, 3) := by decide +kernel
theorem dX10_showWay_31 : decode cX10_showWay 31 = .ok (.invokevirtual 242, 3) := by decide +kernel
theorem dX10_showWay_34 : decode cX10_showWay 34 = .ok (.iastore, 1) := by decide +kernel
theorem dX10_showWay_35 : decode cX10_showWay 35 = .ok (.iinc 2 1, 3) := by decide +kernel
theorem dX10_showWay_38 : decode cX10_showWay 38 = .ok (.goto (-36), 3) := by decide +kernel
theorem dX10_showWay_41 : decode cX10_showWay 41 = .ok (.return_, 1) := by decide +kernel
theorem dX10_mostAlike_0 : decode cX10_mostAlike 0 = .ok (.iconst 0, 1) := by decide +kernel
theorem dX10_mostAlike_1 : decode cX10_mostAlike 1 = .ok (.istore_n 3, 1) := by decide +kernel
theorem dX10_mostAlike_2 : decode cX10_mostAlike 2 = .ok (.iconst 0, 1) := by decide +kernel
theorem dX10_mostAlike_3 : decode cX10_mostAlike 3 = .ok (.istore 4, 2) := by decide +kernel
theorem dX10_mostAlike_5 : decode cX10_mostAlike 5 = .ok (.iload 4, 2) := by decide +kernel
theorem dX10_mostAlike_7 : decode cX10_mostAlike 7 = .ok (.iload_n 2, 1) := by decide +kernel
theorem dX10_mostAlike_8 : decode cX10_mostAlike 8 = .ok (.if_icmp .ge 71, 3) := by decide +kernel
theorem dX10_mostAlike_11 : decode cX10_mostAlike 11 = .ok (.iconst 0, 1) := by decide +kernel
theorem dX10_mostAlike_12 : decode cX10_mostAlike 12 = .ok (.istore 5, 2) := by decide +kernel
theorem dX10_mostAlike_14 : decode cX10_mostAlike 14 = .ok (.iconst 0, 1) := by decide +kernel
theorem dX10_mostAlike_15 : decode cX10_mostAlike 15 = .ok (.istore 6, 2) := by decide +kernel
theorem dX10_mostAlike_17 : decode cX10_mostAlike 17 = .ok (.iload 6, 2) := by decide +kernel
theorem dX10_mostAlike_19 : decode cX10_mostAlike 19 = .ok (.iload_n 2, 1) := by decide +kernel
theorem dX10_mostAlike_20 : decode cX10_mostAlike 20 = .ok (.if_icmp .ge 46, 3) := by decide +kernel
theorem dX10_mostAlike_23 : decode cX10_mostAlike 23 = .ok (.iload 5, 2) := by decide +kernel
theorem dX10_mostAlike_25 : decode cX10_mostAlike 25 = .ok (.aload_n 0, 1) := by decide +kernel
theorem dX10_mostAlike_26 : decode cX10_mostAlike 26 = .ok (.getfield 78, 3) := by decide +kernel
theorem dX10_mostAlike_29 : decode cX10_mostAlike 29 = .ok (.iload 4, 2) := by decide +kernel
theorem dX10_mostAlike_31 : decode cX10_mostAlike 31 = .ok (.bipush 20, 2) := by decide +kernel
theorem dX10_mostAlike_33 : decode cX10_mostAlike 33 = .ok (.imul, 1) := by decide +kernel
theorem dX10_mostAlike_34 : decode cX10_mostAlike 34 = .ok (.iload_n 1, 1) := by decide +kernel
theorem dX10_mostAlike_35 : decode cX10_mostAlike 35 = .ok (.iadd, 1) := by decide +kernel
theorem dX10_mostAlike_36 : decode cX10_mostAlike 36 = .ok (.iaload, 1) := by decide +kernel
theorem dX10_mostAlike_37 : decode cX10_mostAlike 37 = .ok (.aload_n 0, 1) := by decide +kernel
theorem dX10_mostAlike_38 : decode cX10_mostAlike 38 = .ok (.getfield 78, 3) := by decide +kernel
theorem dX10_mostAlike_41 : decode cX10_mostAlike 41 = .ok (.iload 6, 2) := by decide +kernel
theorem dX10_mostAlike_43 : decode cX10_mostAlike 43 = .ok (.bipush 20, 2) := by decide +kernel
theorem dX10_mostAlike_45 : decode cX10_mostAlike 45 = .ok (.imul, 1) := by decide +kernel
theorem dX10_mostAlike_46 : decode cX10_mostAlike 46 = .ok (.iload_n 1, 1) := by decide +kernel
theorem dX10_mostAlike_47 : decode cX10_mostAlike 47 = .ok (.iadd, 1) := by decide +kernel
theorem dX10_mostAlike_48 : decode cX10_mostAlike 48 = .ok (.iaload, 1) := by decide +kernel
theorem dX10_mostAlike_49 : decode cX10_mostAlike 49 = .ok (.if_icmp .ne 7, 3) := by decide +kernel
theorem dX10_mostAlike_52 : decode cX10_mostAlike 52 = .ok (.iconst 1, 1) := by decide +kernel
theorem dX10_mostAlike_53 : decode cX10_mostAlike 53 = .ok (.goto 4, 3) := by decide +kernel
theorem dX10_mostAlike_56 : decode cX10_mostAlike 56 = .ok (.iconst 0, 1) := by decide +kernel
theorem dX10_mostAlike_57 : decode cX10_mostAlike 57 = .ok (.iadd, 1) := by decide +kernel
theorem dX10_mostAlike_58 : decode cX10_mostAlike 58 = .ok (.istore 5, 2) := by decide +kernel
theorem dX10_mostAlike_60 : decode cX10_mostAlike 60 = .ok (.iinc 6 1, 3) := by decide +kernel
theorem dX10_mostAlike_63 : decode cX10_mostAlike 63 = .ok (.goto (-46), 3) := by decide +kernel
theorem dX10_mostAlike_66 : decode cX10_mostAlike 66 = .ok (.iload_n 3, 1) := by decide +kernel
theorem dX10_mostAlike_67 : decode cX10_mostAlike 67 = .ok (.iload 5, 2) := by decide +kernel
theorem dX10_mostAlike_69 : decode cX10_mostAlike 69 = .ok (.invokestatic 181, 3) := by decide +kernel
theorem dX10_mostAlike_72 : decode cX10_mostAlike 72 = .ok (.istore_n 3, 1) := by decide +kernel
theorem dX10_mostAlike_73 : decode cX10_mostAlike 73 = .ok (.iinc 4 1, 3) := by decide +kernel
theorem dX10_mostAlike_76 : decode cX10_mostAlike 76 = .ok (.goto (-71), 3) := by decide +kernel
theorem dX10_mostAlike_79 : decode cX10_mostAlike 79 = .ok (.iload_n 3, 1) := by decide +kernel
theorem dX10_mostAlike_80 : decode cX10_mostAlike 80 = .ok (.ireturn, 1) := by decide +kernel
theorem dX10_divide_0 : decode cX10_divide 0 = .ok (.aload_n 0, 1) := by decide +kernel
theorem dX10_divide_1 : decode cX10_divide 1 = .ok (.getfield 26, 3) := by decide +kernel
theorem dX10_divide_4 : decode cX10_divide 4 = .ok (.iload_n 1, 1) := by decide +kernel
theorem dX10_divide_5 : decode cX10_divide 5 = .ok (.invokevirtual 124, 3) := by decide +kernel
theorem dX10_divide_8 : decode cX10_divide 8 = .ok (.ifCond .eq 30, 3) := by decide +kernel
theorem dX10_divide_11 : decode cX10_divide 11 = .ok (.iload_n 2, 1) := by decide +kernel
theorem dX10_divide_12 : decode cX10_divide 12 = .ok (.aload_n 0, 1) := by decide +kernel
theorem dX10_divide_13 : decode cX10_divide 13 = .ok (.getfield 26, 3) := by decide +kernel
theorem dX10_divide_16 : decode cX10_divide 16 = .ok (.iload_n 1, 1) := by decide +kernel
theorem dX10_divide_17 : decode cX10_divide 17 = .ok (.invokevirtual 140, 3) := by decide +kernel
theorem dX10_divide_20 : decode cX10_divide 20 = .ok (.iconst (-1), 1) := by decide +kernel
theorem dX10_divide_21 : decode cX10_divide 21 = .ok (.ixor, 1) := by decide +kernel
theorem dX10_divide_22 : decode cX10_divide 22 = .ok (.iand, 1) := by decide +kernel
theorem dX10_divide_23 : decode cX10_divide 23 = .ok (.ifCond .ne 15, 3) := by decide +kernel
theorem dX10_divide_26 : decode cX10_divide 26 = .ok (.aload_n 0, 1) := by decide +kernel
theorem dX10_divide_27 : decode cX10_divide 27 = .ok (.getfield 26, 3) := by decide +kernel
theorem dX10_divide_30 : decode cX10_divide 30 = .ok (.getfield 94, 3) := by decide +kernel
theorem dX10_divide_33 : decode cX10_divide 33 = .ok (.bipush 9, 2) := by decide +kernel
theorem dX10_divide_35 : decode cX10_divide 35 = .ok (.if_icmp .ne 5, 3) := by decide +kernel
theorem dX10_divide_38 : decode cX10_divide 38 = .ok (.iconst (-1), 1) := by decide +kernel
theorem dX10_divide_39 : decode cX10_divide 39 = .ok (.ireturn, 1) := by decide +kernel
theorem dX10_divide_40 : decode cX10_divide 40 = .ok (.aload_n 0, 1) := by decide +kernel
theorem dX10_divide_41 : decode cX10_divide 41 = .ok (.getfield 26, 3) := by decide +kernel
theorem dX10_divide_44 : decode cX10_divide 44 = .ok (.getfield 134, 3) := by decide +kernel
theorem dX10_divide_47 : decode cX10_divide 47 = .ok (.iload_n 1, 1) := by decide +kernel
theorem dX10_divide_48 : decode cX10_divide 48 = .ok (.iaload, 1) := by decide +kernel
theorem dX10_divide_49 : decode cX10_divide 49 = .ok (.iconst 2, 1) := by decide +kernel
theorem dX10_divide_50 : decode cX10_divide 50 = .ok (.idiv, 1) := by decide +kernel
theorem dX10_divide_51 : decode cX10_divide 51 = .ok (.istore_n 3, 1) := by decide +kernel
theorem dX10_divide_52 : decode cX10_divide 52 = .ok (.aload_n 0, 1) := by decide +kernel
theorem dX10_divide_53 : decode cX10_divide 53 = .ok (.getfield 26, 3) := by decide +kernel
theorem dX10_divide_56 : decode cX10_divide 56 = .ok (.iload_n 3, 1) := by decide +kernel
theorem dX10_divide_57 : decode cX10_divide 57 = .ok (.iconst 0, 1) := by decide +kernel
theorem dX10_divide_58 : decode cX10_divide 58 = .ok (.invokevirtual 116, 3) := by decide +kernel
theorem dX10_divide_61 : decode cX10_divide 61 = .ok (.istore 4, 2) := by decide +kernel
theorem dX10_divide_63 : decode cX10_divide 63 = .ok (.aload_n 0, 1) := by decide +kernel
theorem dX10_divide_64 : decode cX10_divide 64 = .ok (.getfield 26, 3) := by decide +kernel
theorem dX10_divide_67 : decode cX10_divide 67 = .ok (.getfield 134, 3) := by decide +kernel
theorem dX10_divide_70 : decode cX10_divide 70 = .ok (.iload_n 1, 1) := by decide +kernel
theorem dX10_divide_71 : decode cX10_divide 71 = .ok (.dup2, 1) := by decide +kernel
theorem dX10_divide_72 : decode cX10_divide 72 = .ok (.iaload, 1) := by decide +kernel
theorem dX10_divide_73 : decode cX10_divide 73 = .ok (.iload_n 3, 1) := by decide +kernel
theorem dX10_divide_74 : decode cX10_divide 74 = .ok (.isub, 1) := by decide +kernel
theorem dX10_divide_75 : decode cX10_divide 75 = .ok (.iastore, 1) := by decide +kernel
theorem dX10_divide_76 : decode cX10_divide 76 = .ok (.iconst 0, 1) := by decide +kernel
theorem dX10_divide_77 : decode cX10_divide 77 = .ok (.istore 5, 2) := by decide +kernel
theorem dX10_divide_79 : decode cX10_divide 79 = .ok (.iload 5, 2) := by decide +kernel
theorem dX10_divide_81 : decode cX10_divide 81 = .ok (.iload 4, 2) := by decide +kernel
theorem dX10_divide_83 : decode cX10_divide 83 = .ok (.if_icmp .ge 51, 3) := by decide +kernel
theorem dX10_divide_86 : decode cX10_divide 86 = .ok (.iload_n 2, 1) := by decide +kernel
theorem dX10_divide_87 : decode cX10_divide 87 = .ok (.iload 5, 2) := by decide +kernel
theorem dX10_divide_89 : decode cX10_divide 89 = .ok (.ishr, 1) := by decide +kernel
theorem dX10_divide_90 : decode cX10_divide 90 = .ok (.iconst 1, 1) := by decide +kernel
theorem dX10_divide_91 : decode cX10_divide 91 = .ok (.iand, 1) := by decide +kernel
theorem dX10_divide_92 : decode cX10_divide 92 = .ok (.iconst 1, 1) := by decide +kernel
theorem dX10_divide_93 : decode cX10_divide 93 = .ok (.if_icmp .ne 35, 3) := by decide +kernel
theorem dX10_divide_96 : decode cX10_divide 96 = .ok (.aload_n 0, 1) := by decide +kernel
theorem dX10_divide_97 : decode cX10_divide 97 = .ok (.getfield 26, 3) := by decide +kernel
theorem dX10_divide_100 : decode cX10_divide 100 = .ok (.iload 4, 2) := by decide +kernel
theorem dX10_divide_102 : decode cX10_divide 102 = .ok (.iload 5, 2) := by decide +kernel
theorem dX10_divide_104 : decode cX10_divide 104 = .ok (.aload_n 0, 1) := by decide +kernel
theorem dX10_divide_105 : decode cX10_divide 105 = .ok (.getfield 26, 3) := by decide +kernel
theorem dX10_divide_108 : decode cX10_divide 108 = .ok (.iload_n 1, 1) := by decide +kernel
theorem dX10_divide_109 : decode cX10_divide 109 = .ok (.iload 5, 2) := by decide +kernel
theorem dX10_divide_111 : decode cX10_divide 111 = .ok (.invokevirtual 156, 3) := by decide +kernel
theorem dX10_divide_114 : decode cX10_divide 114 = .ok (.invokevirtual 120, 3) := by decide +kernel
theorem dX10_divide_117 : decode cX10_divide 117 = .ok (.aload_n 0, 1) := by decide +kernel
theorem dX10_divide_118 : decode cX10_divide 118 = .ok (.getfield 26, 3) := by decide +kernel
theorem dX10_divide_121 : decode cX10_divide 121 = .ok (.iload_n 1, 1) := by decide +kernel
theorem dX10_divide_122 : decode cX10_divide 122 = .ok (.iload 5, 2) := by decide +kernel
theorem dX10_divide_124 : decode cX10_divide 124 = .ok (.iconst (-1), 1) := by decide +kernel
theorem dX10_divide_125 : decode cX10_divide 125 = .ok (.invokevirtual 120, 3) := by decide +kernel
theorem dX10_divide_128 : decode cX10_divide 128 = .ok (.iinc 5 1, 3) := by decide +kernel
theorem dX10_divide_131 : decode cX10_divide 131 = .ok (.goto (-52), 3) := by decide +kernel
theorem dX10_divide_134 : decode cX10_divide 134 = .ok (.aload_n 0, 1) := by decide +kernel
theorem dX10_divide_135 : decode cX10_divide 135 = .ok (.getfield 26, 3) := by decide +kernel
theorem dX10_divide_138 : decode cX10_divide 138 = .ok (.iload_n 1, 1) := by decide +kernel
theorem dX10_divide_139 : decode cX10_divide 139 = .ok (.iload 4, 2) := by decide +kernel
theorem dX10_divide_141 : decode cX10_divide 141 = .ok (.iconst 0, 1) := by decide +kernel
theorem dX10_divide_142 : decode cX10_divide 142 = .ok (.invokevirtual 120, 3) := by decide +kernel
theorem dX10_divide_145 : decode cX10_divide 145 = .ok (.aload_n 0, 1) := by decide +kernel
theorem dX10_divide_146 : decode cX10_divide 146 = .ok (.getfield 61, 3) := by decide +kernel
theorem dX10_divide_149 : decode cX10_divide 149 = .ok (.invokevirtual 104, 3) := by decide +kernel
theorem dX10_divide_152 : decode cX10_divide 152 = .ok (.iload 4, 2) := by decide +kernel
theorem dX10_divide_154 : decode cX10_divide 154 = .ok (.ireturn, 1) := by decide +kernel
theorem dX10_keep_0 : decode cX10_keep 0 = .ok (.iload_n 1, 1) := by decide +kernel
theorem dX10_keep_1 : decode cX10_keep 1 = .ok (.iconst 0, 1) := by decide +kernel
theorem dX10_keep_2 : decode cX10_keep 2 = .ok (.iconst 2, 1) := by decide +kernel
theorem dX10_keep_3 : decode cX10_keep 3 = .ok (.invokestatic 159, 3) := by decide +kernel
theorem dX10_keep_6 : decode cX10_keep 6 = .ok (.ifCond .ne 5, 3) := by decide +kernel
theorem dX10_keep_9 : decode cX10_keep 9 = .ok (.iconst 0, 1) := by decide +kernel
theorem dX10_keep_10 : decode cX10_keep 10 = .ok (.ireturn, 1) := by decide +kernel
theorem dX10_keep_11 : decode cX10_keep 11 = .ok (.aload_n 0, 1) := by decide +kernel
theorem dX10_keep_12 : decode cX10_keep 12 = .ok (.getfield 67, 3) := by decide +kernel
theorem dX10_keep_15 : decode cX10_keep 15 = .ok (.iload_n 1, 1) := by decide +kernel
theorem dX10_keep_16 : decode cX10_keep 16 = .ok (.aaload, 1) := by decide +kernel
theorem dX10_keep_17 : decode cX10_keep 17 = .ok (.aload_n 0, 1) := by decide +kernel
theorem dX10_keep_18 : decode cX10_keep 18 = .ok (.getfield 26, 3) := by decide +kernel
theorem dX10_keep_21 : decode cX10_keep 21 = .ok (.invokevirtual 412, 3) := by decide +kernel
theorem dX10_keep_24 : decode cX10_keep 24 = .ok (.iconst 1, 1) := by decide +kernel
theorem dX10_keep_25 : decode cX10_keep 25 = .ok (.ireturn, 1) := by decide +kernel
theorem dX10_again_0 : decode cX10_again 0 = .ok (.iload_n 1, 1) := by decide +kernel
theorem dX10_again_1 : decode cX10_again 1 = .ok (.iconst 0, 1) := by decide +kernel
theorem dX10_again_2 : decode cX10_again 2 = .ok (.iconst 2, 1) := by decide +kernel
theorem dX10_again_3 : decode cX10_again 3 = .ok (.invokestatic 159, 3) := by decide +kernel
theorem dX10_again_6 : decode cX10_again 6 = .ok (.ifCond .eq 22, 3) := by decide +kernel
theorem dX10_again_9 : decode cX10_again 9 = .ok (.aload_n 0, 1) := by decide +kernel
theorem dX10_again_10 : decode cX10_again 10 = .ok (.getfield 67, 3) := by decide +kernel
theorem dX10_again_13 : decode cX10_again 13 = .ok (.iload_n 1, 1) := by decide +kernel
theorem dX10_again_14 : decode cX10_again 14 = .ok (.aaload, 1) := by decide +kernel
theorem dX10_again_15 : decode cX10_again 15 = .ok (.getfield 415, 3) := by decide +kernel
theorem dX10_again_18 : decode cX10_again 18 = .ok (.aload_n 0, 1) := by decide +kernel
theorem dX10_again_19 : decode cX10_again 19 = .ok (.getfield 26, 3) := by decide +kernel
theorem dX10_again_22 : decode cX10_again 22 = .ok (.getfield 94, 3) := by decide +kernel
theorem dX10_again_25 : decode cX10_again 25 = .ok (.if_icmp .eq 5, 3) := by decide +kernel
theorem dX10_again_28 : decode cX10_again 28 = .ok (.iconst 0, 1) := by decide +kernel
theorem dX10_again_29 : decode cX10_again 29 = .ok (.ireturn, 1) := by decide +kernel
theorem dX10_again_30 : decode cX10_again 30 = .ok (.aload_n 0, 1) := by decide +kernel
theorem dX10_again_31 : decode cX10_again 31 = .ok (.getfield 67, 3) := by decide +kernel
theorem dX10_again_34 : decode cX10_again 34 = .ok (.iload_n 1, 1) := by decide +kernel
theorem dX10_again_35 : decode cX10_again 35 = .ok (.aaload, 1) := by decide +kernel
theorem dX10_again_36 : decode cX10_again 36 = .ok (.aload_n 0, 1) := by decide +kernel
theorem dX10_again_37 : decode cX10_again 37 = .ok (.getfield 26, 3) := by decide +kernel
theorem dX10_again_40 : decode cX10_again 40 = .ok (.invokevirtual 416, 3) := by decide +kernel
theorem dX10_again_43 : decode cX10_again 43 = .ok (.aload_n 0, 1) := by decide +kernel
theorem dX10_again_44 : decode cX10_again 44 = .ok (.getfield 67, 3) := by decide +kernel
theorem dX10_again_47 : decode cX10_again 47 = .ok (.iload_n 1, 1) := by decide +kernel
theorem dX10_again_48 : decode cX10_again 48 = .ok (.aaload, 1) := by decide +kernel
theorem dX10_again_49 : decode cX10_again 49 = .ok (.aload_n 0, 1) := by decide +kernel
theorem dX10_again_50 : decode cX10_again 50 = .ok (.getfield 26, 3) := by decide +kernel
theorem dX10_again_53 : decode cX10_again 53 = .ok (.invokevirtual 419, 3) := by decide +kernel
theorem dX10_again_56 : decode cX10_again 56 = .ok (.aload_n 0, 1) := by decide +kernel
theorem dX10_again_57 : decode cX10_again 57 = .ok (.getfield 61, 3) := by decide +kernel
theorem dX10_again_60 : decode cX10_again 60 = .ok (.invokevirtual 104, 3) := by decide +kernel
theorem dX10_again_63 : decode cX10_again 63 = .ok (.iconst 1, 1) := by decide +kernel
theorem dX10_again_64 : decode cX10_again 64 = .ok (.ireturn, 1) := by decide +kernel
theorem dX10_count_0 : decode cX10_count 0 = .ok (.iload_n 1, 1) := by decide +kernel
theorem dX10_count_1 : decode cX10_count 1 = .ok (.tableswitch 123 0 8 #[51, 59, 67, 75, 83, 91, 99, 107, 115], 51) := by decide +kernel
theorem dX10_count_52 : decode cX10_count 52 = .ok (.aload_n 0, 1) := by decide +kernel
theorem dX10_count_53 : decode cX10_count 53 = .ok (.getfield 26, 3) := by decide +kernel
theorem dX10_count_56 : decode cX10_count 56 = .ok (.getfield 94, 3) := by decide +kernel
theorem dX10_count_59 : decode cX10_count 59 = .ok (.ireturn, 1) := by decide +kernel
theorem dX10_count_60 : decode cX10_count 60 = .ok (.aload_n 0, 1) := by decide +kernel
theorem dX10_count_61 : decode cX10_count 61 = .ok (.getfield 26, 3) := by decide +kernel
theorem dX10_count_64 : decode cX10_count 64 = .ok (.getfield 239, 3) := by decide +kernel
theorem dX10_count_67 : decode cX10_count 67 = .ok (.ireturn, 1) := by decide +kernel
theorem dX10_count_68 : decode cX10_count 68 = .ok (.aload_n 0, 1) := by decide +kernel
theorem dX10_count_69 : decode cX10_count 69 = .ok (.getfield 26, 3) := by decide +kernel
theorem dX10_count_72 : decode cX10_count 72 = .ok (.invokevirtual 172, 3) := by decide +kernel
theorem dX10_count_75 : decode cX10_count 75 = .ok (.ireturn, 1) := by decide +kernel
theorem dX10_count_76 : decode cX10_count 76 = .ok (.aload_n 0, 1) := by decide +kernel
theorem dX10_count_77 : decode cX10_count 77 = .ok (.getfield 26, 3) := by decide +kernel
theorem dX10_count_80 : decode cX10_count 80 = .ok (.invokevirtual 422, 3) := by decide +kernel
theorem dX10_count_83 : decode cX10_count 83 = .ok (.ireturn, 1) := by decide +kernel
theorem dX10_count_84 : decode cX10_count 84 = .ok (.aload_n 0, 1) := by decide +kernel
theorem dX10_count_85 : decode cX10_count 85 = .ok (.getfield 26, 3) := by decide +kernel
theorem dX10_count_88 : decode cX10_count 88 = .ok (.invokevirtual 425, 3) := by decide +kernel
theorem dX10_count_91 : decode cX10_count 91 = .ok (.ireturn, 1) := by decide +kernel
theorem dX10_count_92 : decode cX10_count 92 = .ok (.aload_n 0, 1) := by decide +kernel
theorem dX10_count_93 : decode cX10_count 93 = .ok (.getfield 61, 3) := by decide +kernel
theorem dX10_count_96 : decode cX10_count 96 = .ok (.getfield 245, 3) := by decide +kernel
theorem dX10_count_99 : decode cX10_count 99 = .ok (.ireturn, 1) := by decide +kernel
theorem dX10_count_100 : decode cX10_count 100 = .ok (.aload_n 0, 1) := by decide +kernel
theorem dX10_count_101 : decode cX10_count 101 = .ok (.getfield 74, 3) := by decide +kernel
theorem dX10_count_104 : decode cX10_count 104 = .ok (.getfield 393, 3) := by decide +kernel
theorem dX10_count_107 : decode cX10_count 107 = .ok (.ireturn, 1) := by decide +kernel
theorem dX10_count_108 : decode cX10_count 108 = .ok (.aload_n 0, 1) := by decide +kernel
theorem dX10_count_109 : decode cX10_count 109 = .ok (.getfield 54, 3) := by decide +kernel
theorem dX10_count_112 : decode cX10_count 112 = .ok (.getfield 428, 3) := by decide +kernel
theorem dX10_count_115 : decode cX10_count 115 = .ok (.ireturn, 1) := by decide +kernel
theorem dX10_count_116 : decode cX10_count 116 = .ok (.aload_n 0, 1) := by decide +kernel
theorem dX10_count_117 : decode cX10_count 117 = .ok (.getfield 12, 3) := by decide +kernel
theorem dX10_count_120 : decode cX10_count 120 = .ok (.getfield 87, 3) := by decide +kernel
theorem dX10_count_123 : decode cX10_count 123 = .ok (.ireturn, 1) := by decide +kernel
theorem dX10_count_124 : decode cX10_count 124 = .ok (.iconst (-1), 1) := by decide +kernel
theorem dX10_count_125 : decode cX10_count 125 = .ok (.ireturn, 1) := by decide +kernel
theorem dX10_row_0 : decode cX10_row 0 = .ok (.iload_n 1, 1) := by decide +kernel
theorem dX10_row_1 : decode cX10_row 1 = .ok (.ifCond .lt 14, 3) := by decide +kernel
theorem dX10_row_4 : decode cX10_row 4 = .ok (.iload_n 1, 1) := by decide +kernel
theorem dX10_row_5 : decode cX10_row 5 = .ok (.aload_n 0, 1) := by decide +kernel
theorem dX10_row_6 : decode cX10_row 6 = .ok (.getfield 54, 3) := by decide +kernel
theorem dX10_row_9 : decode cX10_row 9 = .ok (.getfield 428, 3) := by decide +kernel
theorem dX10_row_12 : decode cX10_row 12 = .ok (.if_icmp .lt 14, 3) := by decide +kernel
theorem dX10_row_15 : decode cX10_row 15 = .ok (.new 127, 3) := by decide +kernel
theorem dX10_row_18 : decode cX10_row 18 = .ok (.dup, 1) := by decide +kernel
theorem dX10_row_19 : decode cX10_row 19 = .ok (.ldc_w 429, 3) := by decide +kernel
theorem dX10_row_22 : decode cX10_row 22 = .ok (.invokespecial 131, 3) := by decide +kernel
theorem dX10_row_25 : decode cX10_row 25 = .ok (.athrow, 1) := by decide +kernel
theorem dX10_row_26 : decode cX10_row 26 = .ok (.aload_n 0, 1) := by decide +kernel
theorem dX10_row_27 : decode cX10_row 27 = .ok (.getfield 54, 3) := by decide +kernel
theorem dX10_row_30 : decode cX10_row 30 = .ok (.getfield 431, 3) := by decide +kernel
theorem dX10_row_33 : decode cX10_row 33 = .ok (.iload_n 1, 1) := by decide +kernel
theorem dX10_row_34 : decode cX10_row 34 = .ok (.iaload, 1) := by decide +kernel
theorem dX10_row_35 : decode cX10_row 35 = .ok (.ireturn, 1) := by decide +kernel
theorem dX11_thrown_0 : decode cX11_thrown 0 = .ok (.aload_n 0, 1) := by decide +kernel
theorem dX11_thrown_1 : decode cX11_thrown 1 = .ok (.getfield 3, 3) := by decide +kernel
theorem dX11_thrown_4 : decode cX11_thrown 4 = .ok (.ireturn, 1) := by decide +kernel
theorem dX11_refuse_0 : decode cX11_refuse 0 = .ok (.aload_n 0, 1) := by decide +kernel
theorem dX11_refuse_1 : decode cX11_refuse 1 = .ok (.iconst 1, 1) := by decide +kernel
theorem dX11_refuse_2 : decode cX11_refuse 2 = .ok (.putfield 3, 3) := by decide +kernel
theorem dX11_refuse_5 : decode cX11_refuse 5 = .ok (.iconst 0, 1) := by decide +kernel
theorem dX11_refuse_6 : decode cX11_refuse 6 = .ok (.ireturn, 1) := by decide +kernel
theorem dX11_in_0 : decode cX11_in 0 = .ok (.lload_n 0, 1) := by decide +kernel
theorem dX11_in_1 : decode cX11_in 1 = .ok (.lload_n 2, 1) := by decide +kernel
theorem dX11_in_2 : decode cX11_in 2 = .ok (.lcmp, 1) := by decide +kernel
theorem dX11_in_3 : decode cX11_in 3 = .ok (.ifCond .lt 14, 3) := by decide +kernel
theorem dX11_in_6 : decode cX11_in 6 = .ok (.lload_n 0, 1) := by decide +kernel
theorem dX11_in_7 : decode cX11_in 7 = .ok (.lload 4, 2) := by decide +kernel
theorem dX11_in_9 : decode cX11_in 9 = .ok (.lcmp, 1) := by decide +kernel
theorem dX11_in_10 : decode cX11_in 10 = .ok (.ifCond .gt 7, 3) := by decide +kernel
theorem dX11_in_13 : decode cX11_in 13 = .ok (.iconst 1, 1) := by decide +kernel
theorem dX11_in_14 : decode cX11_in 14 = .ok (.goto 4, 3) := by decide +kernel
theorem dX11_in_17 : decode cX11_in 17 = .ok (.iconst 0, 1) := by decide +kernel
theorem dX11_in_18 : decode cX11_in 18 = .ok (.ireturn, 1) := by decide +kernel
theorem dX11_has_0 : decode cX11_has 0 = .ok (.iload_n 0, 1) := by decide +kernel
theorem dX11_has_1 : decode cX11_has 1 = .ok (.iload_n 1, 1) := by decide +kernel
theorem dX11_has_2 : decode cX11_has 2 = .ok (.ishr, 1) := by decide +kernel
theorem dX11_has_3 : decode cX11_has 3 = .ok (.iconst 1, 1) := by decide +kernel
theorem dX11_has_4 : decode cX11_has 4 = .ok (.iand, 1) := by decide +kernel
theorem dX11_has_5 : decode cX11_has 5 = .ok (.iconst 1, 1) := by decide +kernel
theorem dX11_has_6 : decode cX11_has 6 = .ok (.if_icmp .ne 7, 3) := by decide +kernel
theorem dX11_has_9 : decode cX11_has 9 = .ok (.iconst 1, 1) := by decide +kernel
theorem dX11_has_10 : decode cX11_has 10 = .ok (.goto 4, 3) := by decide +kernel
theorem dX11_has_13 : decode cX11_has 13 = .ok (.iconst 0, 1) := by decide +kernel
theorem dX11_has_14 : decode cX11_has 14 = .ok (.ireturn, 1) := by decide +kernel
theorem dX11_flag_0 : decode cX11_flag 0 = .ok (.iload_n 0, 1) := by decide +kernel
theorem dX11_flag_1 : decode cX11_flag 1 = .ok (.ifCond .eq 7, 3) := by decide +kernel
theorem dX11_flag_4 : decode cX11_flag 4 = .ok (.iconst 1, 1) := by decide +kernel
theorem dX11_flag_5 : decode cX11_flag 5 = .ok (.goto 4, 3) := by decide +kernel
theorem dX11_flag_8 : decode cX11_flag 8 = .ok (.iconst 0, 1) := by decide +kernel
theorem dX11_flag_9 : decode cX11_flag 9 = .ok (.ireturn, 1) := by decide +kernel
theorem dX11_enters_0 : decode cX11_enters 0 = .ok (.aload_n 0, 1) := by decide +kernel
theorem dX11_enters_1 : decode cX11_enters 1 = .ok (.getfield 7, 3) := by decide +kernel
theorem dX11_enters_4 : decode cX11_enters 4 = .ok (.aload_n 0, 1) := by decide +kernel
theorem dX11_enters_5 : decode cX11_enters 5 = .ok (.getfield 11, 3) := by decide +kernel
theorem dX11_enters_8 : decode cX11_enters 8 = .ok (.iload_n 1, 1) := by decide +kernel
theorem dX11_enters_9 : decode cX11_enters 9 = .ok (.iastore, 1) := by decide +kernel
theorem dX11_enters_10 : decode cX11_enters 10 = .ok (.aload_n 0, 1) := by decide +kernel
theorem dX11_enters_11 : decode cX11_enters 11 = .ok (.dup, 1) := by decide +kernel
theorem dX11_enters_12 : decode cX11_enters 12 = .ok (.getfield 11, 3) := by decide +kernel
theorem dX11_enters_15 : decode cX11_enters 15 = .ok (.iconst 1, 1) := by decide +kernel
theorem dX11_enters_16 : decode cX11_enters 16 = .ok (.iadd, 1) := by decide +kernel
theorem dX11_enters_17 : decode cX11_enters 17 = .ok (.putfield 11, 3) := by decide +kernel
theorem dX11_enters_20 : decode cX11_enters 20 = .ok (.return_, 1) := by decide +kernel
theorem dX11_isFarm_0 : decode cX11_isFarm 0 = .ok (.iload_n 1, 1) := by decide +kernel
theorem dX11_isFarm_1 : decode cX11_isFarm 1 = .ok (.i2l, 1) := by decide +kernel
theorem dX11_isFarm_2 : decode cX11_isFarm 2 = .ok (.lconst 0, 1) := by decide +kernel
theorem dX11_isFarm_3 : decode cX11_isFarm 3 = .ok (.aload_n 0, 1) := by decide +kernel
theorem dX11_isFarm_4 : decode cX11_isFarm 4 = .ok (.getfield 14, 3) := by decide +kernel
theorem dX11_isFarm_7 : decode cX11_isFarm 7 = .ok (.iconst 1, 1) := by decide +kernel
theorem dX11_isFarm_8 : decode cX11_isFarm 8 = .ok (.isub, 1) := by decide +kernel
theorem dX11_isFarm_9 : decode cX11_isFarm 9 = .ok (.i2l, 1) := by decide +kernel
theorem dX11_isFarm_10 : decode cX11_isFarm 10 = .ok (.invokestatic 17, 3) := by decide +kernel
theorem dX11_isFarm_13 : decode cX11_isFarm 13 = .ok (.ireturn, 1) := by decide +kernel
theorem dX11_areTwo_0 : decode cX11_areTwo 0 = .ok (.aload_n 0, 1) := by decide +kernel
theorem dX11_areTwo_1 : decode cX11_areTwo 1 = .ok (.iload_n 1, 1) := by decide +kernel
theorem dX11_areTwo_2 : decode cX11_areTwo 2 = .ok (.invokevirtual 21, 3) := by decide +kernel
theorem dX11_areTwo_5 : decode cX11_areTwo 5 = .ok (.ifCond .eq 20, 3) := by decide +kernel
theorem dX11_areTwo_8 : decode cX11_areTwo 8 = .ok (.aload_n 0, 1) := by decide +kernel
theorem dX11_areTwo_9 : decode cX11_areTwo 9 = .ok (.iload_n 2, 1) := by decide +kernel
theorem dX11_areTwo_10 : decode cX11_areTwo 10 = .ok (.invokevirtual 21, 3) := by decide +kernel
theorem dX11_areTwo_13 : decode cX11_areTwo 13 = .ok (.ifCond .eq 12, 3) := by decide +kernel
theorem dX11_areTwo_16 : decode cX11_areTwo 16 = .ok (.iload_n 1, 1) := by decide +kernel
theorem dX11_areTwo_17 : decode cX11_areTwo 17 = .ok (.iload_n 2, 1) := by decide +kernel
theorem dX11_areTwo_18 : decode cX11_areTwo 18 = .ok (.if_icmp .eq 7, 3) := by decide +kernel
theorem dX11_areTwo_21 : decode cX11_areTwo 21 = .ok (.iconst 1, 1) := by decide +kernel
theorem dX11_areTwo_22 : decode cX11_areTwo 22 = .ok (.goto 4, 3) := by decide +kernel
theorem dX11_areTwo_25 : decode cX11_areTwo 25 = .ok (.iconst 0, 1) := by decide +kernel
theorem dX11_areTwo_26 : decode cX11_areTwo 26 = .ok (.ireturn, 1) := by decide +kernel
theorem dX11_areBits_0 : decode cX11_areBits 0 = .ok (.iload_n 1, 1) := by decide +kernel
theorem dX11_areBits_1 : decode cX11_areBits 1 = .ok (.i2l, 1) := by decide +kernel
theorem dX11_areBits_2 : decode cX11_areBits 2 = .ok (.lconst 0, 1) := by decide +kernel
theorem dX11_areBits_3 : decode cX11_areBits 3 = .ok (.iconst 1, 1) := by decide +kernel
theorem dX11_areBits_4 : decode cX11_areBits 4 = .ok (.aload_n 0, 1) := by decide +kernel
theorem dX11_areBits_5 : decode cX11_areBits 5 = .ok (.getfield 14, 3) := by decide +kernel
theorem dX11_areBits_8 : decode cX11_areBits 8 = .ok (.ishl, 1) := by decide +kernel
theorem dX11_areBits_9 : decode cX11_areBits 9 = .ok (.iconst 1, 1) := by decide +kernel
theorem dX11_areBits_10 : decode cX11_areBits 10 = .ok (.isub, 1) := by decide +kernel
theorem dX11_areBits_11 : decode cX11_areBits 11 = .ok (.i2l, 1) := by decide +kernel
theorem dX11_areBits_12 : decode cX11_areBits 12 = .ok (.invokestatic 17, 3) := by decide +kernel
theorem dX11_areBits_15 : decode cX11_areBits 15 = .ok (.ireturn, 1) := by decide +kernel
theorem dX11_sign_0 : decode cX11_sign 0 = .ok (.aload_n 0, 1) := by decide +kernel
theorem dX11_sign_1 : decode cX11_sign 1 = .ok (.iconst 0, 1) := by decide +kernel
theorem dX11_sign_2 : decode cX11_sign 2 = .ok (.putfield 3, 3) := by decide +kernel
theorem dX11_sign_5 : decode cX11_sign 5 = .ok (.aload_n 0, 1) := by decide +kernel
theorem dX11_sign_6 : decode cX11_sign 6 = .ok (.getfield 25, 3) := by decide +kernel
theorem dX11_sign_9 : decode cX11_sign 9 = .ok (.bipush 76, 2) := by decide +kernel
theorem dX11_sign_11 : decode cX11_sign 11 = .ok (.if_icmp .le 5, 3) := by decide +kernel
theorem dX11_sign_14 : decode cX11_sign 14 = .ok (.iconst (-1), 1) := by decide +kernel
theorem dX11_sign_15 : decode cX11_sign 15 = .ok (.ireturn, 1) := by decide +kernel
theorem dX11_sign_16 : decode cX11_sign 16 = .ok (.iconst 0, 1) := by decide +kernel
theorem dX11_sign_17 : decode cX11_sign 17 = .ok (.istore_n 2, 1) := by decide +kernel
theorem dX11_sign_18 : decode cX11_sign 18 = .ok (.iload_n 2, 1) := by decide +kernel
theorem dX11_sign_19 : decode cX11_sign 19 = .ok (.iconst 4, 1) := by decide +kernel
theorem dX11_sign_20 : decode cX11_sign 20 = .ok (.if_icmp .ge 33, 3) := by decide +kernel
theorem dX11_sign_23 : decode cX11_sign 23 = .ok (.aload_n 0, 1) := by decide +kernel
theorem dX11_sign_24 : decode cX11_sign 24 = .ok (.getfield 28, 3) := by decide +kernel
theorem dX11_sign_27 : decode cX11_sign 27 = .ok (.aload_n 0, 1) := by decide +kernel
theorem dX11_sign_28 : decode cX11_sign 28 = .ok (.getfield 25, 3) := by decide +kernel
theorem dX11_sign_31 : decode cX11_sign 31 = .ok (.iload_n 2, 1) := by decide +kernel
theorem dX11_sign_32 : decode cX11_sign 32 = .ok (.iadd, 1) := by decide +kernel
theorem dX11_sign_33 : decode cX11_sign 33 = .ok (.iload_n 1, 1) := by decide +kernel
theorem dX11_sign_34 : decode cX11_sign 34 = .ok (.bipush 24, 2) := by decide +kernel
theorem dX11_sign_36 : decode cX11_sign 36 = .ok (.bipush 8, 2) := by decide +kernel
theorem dX11_sign_38 : decode cX11_sign 38 = .ok (.iload_n 2, 1) := by decide +kernel
theorem dX11_sign_39 : decode cX11_sign 39 = .ok (.imul, 1) := by decide +kernel
theorem dX11_sign_40 : decode cX11_sign 40 = .ok (.isub, 1) := by decide +kernel
theorem dX11_sign_41 : decode cX11_sign 41 = .ok (.ishr, 1) := by decide +kernel
theorem dX11_sign_42 : decode cX11_sign 42 = .ok (.sipush 255, 3) := by decide +kernel
theorem dX11_sign_45 : decode cX11_sign 45 = .ok (.iand, 1) := by decide +kernel
theorem dX11_sign_46 : decode cX11_sign 46 = .ok (.iastore, 1) := by decide +kernel
theorem dX11_sign_47 : decode cX11_sign 47 = .ok (.iinc 2 1, 3) := by decide +kernel
theorem dX11_sign_50 : decode cX11_sign 50 = .ok (.goto (-32), 3) := by decide +kernel
theorem dX11_sign_53 : decode cX11_sign 53 = .ok (.aload_n 0, 1) := by decide +kernel
theorem dX11_sign_54 : decode cX11_sign 54 = .ok (.dup, 1) := by decide +kernel
theorem dX11_sign_55 : decode cX11_sign 55 = .ok (.getfield 25, 3) := by decide +kernel
theorem dX11_sign_58 : decode cX11_sign 58 = .ok (.iconst 4, 1) := by decide +kernel
theorem dX11_sign_59 : decode cX11_sign 59 = .ok (.iadd, 1) := by decide +kernel
theorem dX11_sign_60 : decode cX11_sign 60 = .ok (.putfield 25, 3) := by decide +kernel
theorem dX11_sign_63 : decode cX11_sign 63 = .ok (.aload_n 0, 1) := by decide +kernel
theorem dX11_sign_64 : decode cX11_sign 64 = .ok (.getfield 25, 3) := by decide +kernel
theorem dX11_sign_67 : decode cX11_sign 67 = .ok (.ireturn, 1) := by decide +kernel
theorem dX11_end_0 : decode cX11_end 0 = .ok (.aload_n 0, 1) := by decide +kernel
theorem dX11_end_1 : decode cX11_end 1 = .ok (.iconst 0, 1) := by decide +kernel
theorem dX11_end_2 : decode cX11_end 2 = .ok (.putfield 3, 3) := by decide +kernel
theorem dX11_end_5 : decode cX11_end 5 = .ok (.iload_n 1, 1) := by decide +kernel
theorem dX11_end_6 : decode cX11_end 6 = .ok (.i2l, 1) := by decide +kernel
theorem dX11_end_7 : decode cX11_end 7 = .ok (.lconst 0, 1) := by decide +kernel
theorem dX11_end_8 : decode cX11_end 8 = .ok (.aload_n 0, 1) := by decide +kernel
theorem dX11_end_9 : decode cX11_end 9 = .ok (.getfield 25, 3) := by decide +kernel
theorem dX11_end_12 : decode cX11_end 12 = .ok (.i2l, 1) := by decide +kernel
theorem dX11_end_13 : decode cX11_end 13 = .ok (.invokestatic 17, 3) := by decide +kernel
theorem dX11_end_16 : decode cX11_end 16 = .ok (.ifCond .ne 5, 3) := by decide +kernel
theorem dX11_end_19 : decode cX11_end 19 = .ok (.iconst 0, 1) := by decide +kernel
theorem dX11_end_20 : decode cX11_end 20 = .ok (.ireturn, 1) := by decide +kernel
theorem dX11_end_21 : decode cX11_end 21 = .ok (.aload_n 0, 1) := by decide +kernel
theorem dX11_end_22 : decode cX11_end 22 = .ok (.iload_n 1, 1) := by decide +kernel
theorem dX11_end_23 : decode cX11_end 23 = .ok (.putfield 25, 3) := by decide +kernel
theorem dX11_end_26 : decode cX11_end 26 = .ok (.iconst 1, 1) := by decide +kernel
theorem dX11_end_27 : decode cX11_end 27 = .ok (.ireturn, 1) := by decide +kernel
theorem dX11_begins_0 : decode cX11_begins 0 = .ok (.aload_n 0, 1) := by decide +kernel
theorem dX11_begins_1 : decode cX11_begins 1 = .ok (.getfield 25, 3) := by decide +kernel
theorem dX11_begins_4 : decode cX11_begins 4 = .ok (.istore_n 2, 1) := by decide +kernel
theorem dX11_begins_5 : decode cX11_begins 5 = .ok (.aload_n 0, 1) := by decide +kernel
theorem dX11_begins_6 : decode cX11_begins 6 = .ok (.iconst 0, 1) := by decide +kernel
theorem dX11_begins_7 : decode cX11_begins 7 = .ok (.putfield 25, 3) := by decide +kernel
theorem dX11_begins_10 : decode cX11_begins 10 = .ok (.aload_n 0, 1) := by decide +kernel
theorem dX11_begins_11 : decode cX11_begins 11 = .ok (.iconst 0, 1) := by decide +kernel
theorem dX11_begins_12 : decode cX11_begins 12 = .ok (.putfield 31, 3) := by decide +kernel
theorem dX11_begins_15 : decode cX11_begins 15 = .ok (.aload_n 0, 1) := by decide +kernel
theorem dX11_begins_16 : decode cX11_begins 16 = .ok (.iload_n 2, 1) := by decide +kernel
theorem dX11_begins_17 : decode cX11_begins 17 = .ok (.iload_n 1, 1) := by decide +kernel
theorem dX11_begins_18 : decode cX11_begins 18 = .ok (.invokestatic 34, 3) := by decide +kernel
theorem dX11_begins_21 : decode cX11_begins 21 = .ok (.putfield 40, 3) := by decide +kernel
theorem dX11_begins_24 : decode cX11_begins 24 = .ok (.iload_n 2, 1) := by decide +kernel
theorem dX11_begins_25 : decode cX11_begins 25 = .ok (.ireturn, 1) := by decide +kernel
theorem dX11_takes_0 : decode cX11_takes 0 = .ok (.aload_n 0, 1) := by decide +kernel
theorem dX11_takes_1 : decode cX11_takes 1 = .ok (.getfield 31, 3) := by decide +kernel
theorem dX11_takes_4 : decode cX11_takes 4 = .ok (.aload_n 0, 1) := by decide +kernel
theorem dX11_takes_5 : decode cX11_takes 5 = .ok (.getfield 40, 3) := by decide +kernel
theorem dX11_takes_8 : decode cX11_takes 8 = .ok (.if_icmp .ge 20, 3) := by decide +kernel
theorem dX11_takes_11 : decode cX11_takes 11 = .ok (.aload_n 0, 1) := by decide +kernel
theorem dX11_takes_12 : decode cX11_takes 12 = .ok (.getfield 28, 3) := by decide +kernel
theorem dX11_takes_15 : decode cX11_takes 15 = .ok (.aload_n 0, 1) := by decide +kernel
theorem dX11_takes_16 : decode cX11_takes 16 = .ok (.getfield 31, 3) := by decide +kernel
theorem dX11_takes_19 : decode cX11_takes 19 = .ok (.iaload, 1) := by decide +kernel
theorem dX11_takes_20 : decode cX11_takes 20 = .ok (.iload_n 1, 1) := by decide +kernel
theorem dX11_takes_21 : decode cX11_takes 21 = .ok (.if_icmp .ne 7, 3) := by decide +kernel
theorem dX11_takes_24 : decode cX11_takes 24 = .ok (.iconst 1, 1) := by decide +kernel
theorem dX11_takes_25 : decode cX11_takes 25 = .ok (.goto 4, 3) := by decide +kernel
theorem dX11_takes_28 : decode cX11_takes 28 = .ok (.iconst 0, 1) := by decide +kernel
theorem dX11_takes_29 : decode cX11_takes 29 = .ok (.istore_n 2, 1) := by decide +kernel
theorem dX11_takes_30 : decode cX11_takes 30 = .ok (.aload_n 0, 1) := by decide +kernel
theorem dX11_takes_31 : decode cX11_takes 31 = .ok (.dup, 1) := by decide +kernel
theorem dX11_takes_32 : decode cX11_takes 32 = .ok (.getfield 31, 3) := by decide +kernel
theorem dX11_takes_35 : decode cX11_takes 35 = .ok (.iload_n 2, 1) := by decide +kernel
theorem dX11_takes_36 : decode cX11_takes 36 = .ok (.invokestatic 43, 3) := by decide +kernel
theorem dX11_takes_39 : decode cX11_takes 39 = .ok (.iadd, 1) := by decide +kernel
theorem dX11_takes_40 : decode cX11_takes 40 = .ok (.putfield 31, 3) := by decide +kernel
theorem dX11_takes_43 : decode cX11_takes 43 = .ok (.iload_n 2, 1) := by decide +kernel
theorem dX11_takes_44 : decode cX11_takes 44 = .ok (.ireturn, 1) := by decide +kernel
theorem dX11_digit_0 : decode cX11_digit 0 = .ok (.aload_n 0, 1) := by decide +kernel
theorem dX11_digit_1 : decode cX11_digit 1 = .ok (.getfield 31, 3) := by decide +kernel
theorem dX11_digit_4 : decode cX11_digit 4 = .ok (.aload_n 0, 1) := by decide +kernel
theorem dX11_digit_5 : decode cX11_digit 5 = .ok (.getfield 40, 3) := by decide +kernel
theorem dX11_digit_8 : decode cX11_digit 8 = .ok (.if_icmp .ge 27, 3) := by decide +kernel
theorem dX11_digit_11 : decode cX11_digit 11 = .ok (.aload_n 0, 1) := by decide +kernel
theorem dX11_digit_12 : decode cX11_digit 12 = .ok (.getfield 28, 3) := by decide +kernel
theorem dX11_digit_15 : decode cX11_digit 15 = .ok (.aload_n 0, 1) := by decide +kernel
theorem dX11_digit_16 : decode cX11_digit 16 = .ok (.getfield 31, 3) := by decide +kernel
theorem dX11_digit_19 : decode cX11_digit 19 = .ok (.iaload, 1) := by decide +kernel
theorem dX11_digit_20 : decode cX11_digit 20 = .ok (.i2l, 1) := by decide +kernel
theorem dX11_digit_21 : decode cX11_digit 21 = .ok (.bipush 48, 2) := by decide +kernel
theorem dX11_digit_23 : decode cX11_digit 23 = .ok (.iload_n 1, 1) := by decide +kernel
theorem dX11_digit_24 : decode cX11_digit 24 = .ok (.iadd, 1) := by decide +kernel
theorem dX11_digit_25 : decode cX11_digit 25 = .ok (.i2l, 1) := by decide +kernel
theorem dX11_digit_26 : decode cX11_digit 26 = .ok (.ldc2_w 47, 3) := by decide +kernel
theorem dX11_digit_29 : decode cX11_digit 29 = .ok (.invokestatic 17, 3) := by decide +kernel
theorem dX11_digit_32 : decode cX11_digit 32 = .ok (.ifCond .ne 5, 3) := by decide +kernel
theorem dX11_digit_35 : decode cX11_digit 35 = .ok (.iconst (-1), 1) := by decide +kernel
theorem dX11_digit_36 : decode cX11_digit 36 = .ok (.ireturn, 1) := by decide +kernel
theorem dX11_digit_37 : decode cX11_digit 37 = .ok (.aload_n 0, 1) := by decide +kernel
theorem dX11_digit_38 : decode cX11_digit 38 = .ok (.dup, 1) := by decide +kernel
theorem dX11_digit_39 : decode cX11_digit 39 = .ok (.getfield 31, 3) := by decide +kernel
theorem dX11_digit_42 : decode cX11_digit 42 = .ok (.iconst 1, 1) := by decide +kernel
theorem dX11_digit_43 : decode cX11_digit 43 = .ok (.iadd, 1) := by decide +kernel
theorem dX11_digit_44 : decode cX11_digit 44 = .ok (.putfield 31, 3) := by decide +kernel
theorem dX11_digit_47 : decode cX11_digit 47 = .ok (.aload_n 0, 1) := by decide +kernel
theorem dX11_digit_48 : decode cX11_digit 48 = .ok (.getfield 28, 3) := by decide +kernel
theorem dX11_digit_51 : decode cX11_digit 51 = .ok (.aload_n 0, 1) := by decide +kernel
theorem dX11_digit_52 : decode cX11_digit 52 = .ok (.getfield 31, 3) := by decide +kernel
theorem dX11_digit_55 : decode cX11_digit 55 = .ok (.iconst 1, 1) := by decide +kernel
theorem dX11_digit_56 : decode cX11_digit 56 = .ok (.isub, 1) := by decide +kernel
theorem dX11_digit_57 : decode cX11_digit 57 = .ok (.iaload, 1) := by decide +kernel
theorem dX11_digit_58 : decode cX11_digit 58 = .ok (.bipush 48, 2) := by decide +kernel
theorem dX11_digit_60 : decode cX11_digit 60 = .ok (.isub, 1) := by decide +kernel
theorem dX11_digit_61 : decode cX11_digit 61 = .ok (.ireturn, 1) := by decide +kernel
theorem dX11_faultOf_0 : decode cX11_faultOf 0 = .ok (.iload_n 3, 1) := by decide +kernel
theorem dX11_faultOf_1 : decode cX11_faultOf 1 = .ok (.ifCond .eq 18, 3) := by decide +kernel
theorem dX11_faultOf_4 : decode cX11_faultOf 4 = .ok (.aload_n 0, 1) := by decide +kernel
theorem dX11_faultOf_5 : decode cX11_faultOf 5 = .ok (.getfield 31, 3) := by decide +kernel
theorem dX11_faultOf_8 : decode cX11_faultOf 8 = .ok (.aload_n 0, 1) := by decide +kernel
theorem dX11_faultOf_9 : decode cX11_faultOf 9 = .ok (.getfield 40, 3) := by decide +kernel
theorem dX11_faultOf_12 : decode cX11_faultOf 12 = .ok (.if_icmp .ne 7, 3) := by decide +kernel
theorem dX11_faultOf_15 : decode cX11_faultOf 15 = .ok (.iconst 1, 1) := by decide +kernel
theorem dX11_faultOf_16 : decode cX11_faultOf 16 = .ok (.goto 4, 3) := by decide +kernel
theorem dX11_faultOf_19 : decode cX11_faultOf 19 = .ok (.iconst 0, 1) := by decide +kernel
theorem dX11_faultOf_20 : decode cX11_faultOf 20 = .ok (.istore 4, 2) := by decide +kernel
theorem dX11_faultOf_22 : decode cX11_faultOf 22 = .ok (.iload_n 1, 1) := by decide +kernel
theorem dX11_faultOf_23 : decode cX11_faultOf 23 = .ok (.iload_n 2, 1) := by decide +kernel
theorem dX11_faultOf_24 : decode cX11_faultOf 24 = .ok (.if_icmp .le 20, 3) := by decide +kernel
theorem dX11_faultOf_27 : decode cX11_faultOf 27 = .ok (.iload 4, 2) := by decide +kernel
theorem dX11_faultOf_29 : decode cX11_faultOf 29 = .ok (.ifCond .ne 11, 3) := by decide +kernel
theorem dX11_faultOf_32 : decode cX11_faultOf 32 = .ok (.aload_n 0, 1) := by decide +kernel
theorem dX11_faultOf_33 : decode cX11_faultOf 33 = .ok (.getfield 31, 3) := by decide +kernel
theorem dX11_faultOf_36 : decode cX11_faultOf 36 = .ok (.iload_n 2, 1) := by decide +kernel
theorem dX11_faultOf_37 : decode cX11_faultOf 37 = .ok (.if_icmp .lt 7, 3) := by decide +kernel
theorem dX11_faultOf_40 : decode cX11_faultOf 40 = .ok (.iconst (-1), 1) := by decide +kernel
theorem dX11_faultOf_41 : decode cX11_faultOf 41 = .ok (.iload_n 2, 1) := by decide +kernel
theorem dX11_faultOf_42 : decode cX11_faultOf 42 = .ok (.isub, 1) := by decide +kernel
theorem dX11_faultOf_43 : decode cX11_faultOf 43 = .ok (.ireturn, 1) := by decide +kernel
theorem dX11_faultOf_44 : decode cX11_faultOf 44 = .ok (.iload 4, 2) := by decide +kernel
theorem dX11_faultOf_46 : decode cX11_faultOf 46 = .ok (.ifCond .eq 7, 3) := by decide +kernel
theorem dX11_faultOf_49 : decode cX11_faultOf 49 = .ok (.iconst 0, 1) := by decide +kernel
theorem dX11_faultOf_50 : decode cX11_faultOf 50 = .ok (.goto 9, 3) := by decide +kernel
theorem dX11_faultOf_53 : decode cX11_faultOf 53 = .ok (.iconst (-1), 1) := by decide +kernel
theorem dX11_faultOf_54 : decode cX11_faultOf 54 = .ok (.aload_n 0, 1) := by decide +kernel
theorem dX11_faultOf_55 : decode cX11_faultOf 55 = .ok (.getfield 31, 3) := by decide +kernel
theorem dX11_faultOf_58 : decode cX11_faultOf 58 = .ok (.isub, 1) := by decide +kernel
theorem dX11_faultOf_59 : decode cX11_faultOf 59 = .ok (.ireturn, 1) := by decide +kernel
theorem dX11_readsFarm_0 : decode cX11_readsFarm 0 = .ok (.aload_n 0, 1) := by decide +kernel
theorem dX11_readsFarm_1 : decode cX11_readsFarm 1 = .ok (.getfield 49, 3) := by decide +kernel
theorem dX11_readsFarm_4 : decode cX11_readsFarm 4 = .ok (.bipush 9, 2) := by decide +kernel
theorem dX11_readsFarm_6 : decode cX11_readsFarm 6 = .ok (.if_icmp .ne 5, 3) := by decide +kernel
theorem dX11_readsFarm_9 : decode cX11_readsFarm 9 = .ok (.iconst 0, 1) := by decide +kernel
theorem dX11_readsFarm_10 : decode cX11_readsFarm 10 = .ok (.ireturn, 1) := by decide +kernel
theorem dX11_readsFarm_11 : decode cX11_readsFarm 11 = .ok (.aload_n 0, 1) := by decide +kernel
theorem dX11_readsFarm_12 : decode cX11_readsFarm 12 = .ok (.iconst 0, 1) := by decide +kernel
theorem dX11_readsFarm_13 : decode cX11_readsFarm 13 = .ok (.invokevirtual 52, 3) := by decide +kernel
theorem dX11_readsFarm_16 : decode cX11_readsFarm 16 = .ok (.istore_n 1, 1) := by decide +kernel
theorem dX11_readsFarm_17 : decode cX11_readsFarm 17 = .ok (.aload_n 0, 1) := by decide +kernel
theorem dX11_readsFarm_18 : decode cX11_readsFarm 18 = .ok (.iconst 0, 1) := by decide +kernel
theorem dX11_readsFarm_19 : decode cX11_readsFarm 19 = .ok (.invokevirtual 52, 3) := by decide +kernel
theorem dX11_readsFarm_22 : decode cX11_readsFarm 22 = .ok (.istore_n 2, 1) := by decide +kernel
theorem dX11_readsFarm_23 : decode cX11_readsFarm 23 = .ok (.iload_n 2, 1) := by decide +kernel
theorem dX11_readsFarm_24 : decode cX11_readsFarm 24 = .ok (.ifCond .ge 7, 3) := by decide +kernel
theorem dX11_readsFarm_27 : decode cX11_readsFarm 27 = .ok (.iload_n 1, 1) := by decide +kernel
theorem dX11_readsFarm_28 : decode cX11_readsFarm 28 = .ok (.goto 9, 3) := by decide +kernel
theorem dX11_readsFarm_31 : decode cX11_readsFarm 31 = .ok (.bipush 10, 2) := by decide +kernel
theorem dX11_readsFarm_33 : decode cX11_readsFarm 33 = .ok (.iload_n 1, 1) := by decide +kernel
theorem dX11_readsFarm_34 : decode cX11_readsFarm 34 = .ok (.imul, 1) := by decide +kernel
theorem dX11_readsFarm_35 : decode cX11_readsFarm 35 = .ok (.iload_n 2, 1) := by decide +kernel
theorem dX11_readsFarm_36 : decode cX11_readsFarm 36 = .ok (.iadd, 1) := by decide +kernel
theorem dX11_readsFarm_37 : decode cX11_readsFarm 37 = .ok (.istore_n 1, 1) := by decide +kernel
theorem dX11_readsFarm_38 : decode cX11_readsFarm 38 = .ok (.aload_n 0, 1) := by decide +kernel
theorem dX11_readsFarm_39 : decode cX11_readsFarm 39 = .ok (.bipush 43, 2) := by decide +kernel
theorem dX11_readsFarm_41 : decode cX11_readsFarm 41 = .ok (.invokevirtual 56, 3) := by decide +kernel
theorem dX11_readsFarm_44 : decode cX11_readsFarm 44 = .ok (.ifCond .eq 11, 3) := by decide +kernel
theorem dX11_readsFarm_47 : decode cX11_readsFarm 47 = .ok (.aload_n 0, 1) := by decide +kernel
theorem dX11_readsFarm_48 : decode cX11_readsFarm 48 = .ok (.iconst 0, 1) := by decide +kernel
theorem dX11_readsFarm_49 : decode cX11_readsFarm 49 = .ok (.invokevirtual 52, 3) := by decide +kernel
theorem dX11_readsFarm_52 : decode cX11_readsFarm 52 = .ok (.goto 4, 3) := by decide +kernel
theorem dX11_readsFarm_55 : decode cX11_readsFarm 55 = .ok (.iconst 0, 1) := by decide +kernel
theorem dX11_readsFarm_56 : decode cX11_readsFarm 56 = .ok (.istore_n 3, 1) := by decide +kernel
theorem dX11_readsFarm_57 : decode cX11_readsFarm 57 = .ok (.iload_n 3, 1) := by decide +kernel
theorem dX11_readsFarm_58 : decode cX11_readsFarm 58 = .ok (.ifCond .ge 5, 3) := by decide +kernel
theorem dX11_readsFarm_61 : decode cX11_readsFarm 61 = .ok (.iconst 0, 1) := by decide +kernel
theorem dX11_readsFarm_62 : decode cX11_readsFarm 62 = .ok (.ireturn, 1) := by decide +kernel
theorem dX11_readsFarm_63 : decode cX11_readsFarm 63 = .ok (.aload_n 0, 1) := by decide +kernel
theorem dX11_readsFarm_64 : decode cX11_readsFarm 64 = .ok (.getfield 59, 3) := by decide +kernel
theorem dX11_readsFarm_67 : decode cX11_readsFarm 67 = .ok (.aload_n 0, 1) := by decide +kernel
theorem dX11_readsFarm_68 : decode cX11_readsFarm 68 = .ok (.getfield 49, 3) := by decide +kernel
theorem dX11_readsFarm_71 : decode cX11_readsFarm 71 = .ok (.iload_n 1, 1) := by decide +kernel
theorem dX11_readsFarm_72 : decode cX11_readsFarm 72 = .ok (.iastore, 1) := by decide +kernel
theorem dX11_readsFarm_73 : decode cX11_readsFarm 73 = .ok (.aload_n 0, 1) := by decide +kernel
theorem dX11_readsFarm_74 : decode cX11_readsFarm 74 = .ok (.getfield 62, 3) := by decide +kernel
theorem dX11_readsFarm_77 : decode cX11_readsFarm 77 = .ok (.aload_n 0, 1) := by decide +kernel
theorem dX11_readsFarm_78 : decode cX11_readsFarm 78 = .ok (.getfield 49, 3) := by decide +kernel
theorem dX11_readsFarm_81 : decode cX11_readsFarm 81 = .ok (.iload_n 3, 1) := by decide +kernel
theorem dX11_readsFarm_82 : decode cX11_readsFarm 82 = .ok (.iastore, 1) := by decide +kernel
theorem dX11_readsFarm_83 : decode cX11_readsFarm 83 = .ok (.aload_n 0, 1) := by decide +kernel
theorem dX11_readsFarm_84 : decode cX11_readsFarm 84 = .ok (.getfield 65, 3) := by decide +kernel
theorem dX11_readsFarm_87 : decode cX11_readsFarm 87 = .ok (.aload_n 0, 1) := by decide +kernel
theorem dX11_readsFarm_88 : decode cX11_readsFarm 88 = .ok (.getfield 49, 3) := by decide +kernel
theorem dX11_readsFarm_91 : decode cX11_readsFarm 91 = .ok (.iconst 0, 1) := by decide +kernel
theorem dX11_readsFarm_92 : decode cX11_readsFarm 92 = .ok (.iastore, 1) := by decide +kernel
theorem dX11_readsFarm_93 : decode cX11_readsFarm 93 = .ok (.aload_n 0, 1) := by decide +kernel
theorem dX11_readsFarm_94 : decode cX11_readsFarm 94 = .ok (.dup, 1) := by decide +kernel
theorem dX11_readsFarm_95 : decode cX11_readsFarm 95 = .ok (.getfield 49, 3) := by decide +kernel
theorem dX11_readsFarm_98 : decode cX11_readsFarm 98 = .ok (.iconst 1, 1) := by decide +kernel
theorem dX11_readsFarm_99 : decode cX11_readsFarm 99 = .ok (.iadd, 1) := by decide +kernel
theorem dX11_readsFarm_100 : decode cX11_readsFarm 100 = .ok (.putfield 49, 3) := by decide +kernel
theorem dX11_readsFarm_103 : decode cX11_readsFarm 103 = .ok (.iconst 1, 1) := by decide +kernel
theorem dX11_readsFarm_104 : decode cX11_readsFarm 104 = .ok (.ireturn, 1) := by decide +kernel
theorem dX11_farmBut_0 : decode cX11_farmBut 0 = .ok (.aload_n 0, 1) := by decide +kernel
theorem dX11_farmBut_1 : decode cX11_farmBut 1 = .ok (.getfield 31, 3) := by decide +kernel
theorem dX11_farmBut_4 : decode cX11_farmBut 4 = .ok (.aload_n 0, 1) := by decide +kernel
theorem dX11_farmBut_5 : decode cX11_farmBut 5 = .ok (.getfield 40, 3) := by decide +kernel
theorem dX11_farmBut_8 : decode cX11_farmBut 8 = .ok (.if_icmp .ge 46, 3) := by decide +kernel
theorem dX11_farmBut_11 : decode cX11_farmBut 11 = .ok (.aload_n 0, 1) := by decide +kernel
theorem dX11_farmBut_12 : decode cX11_farmBut 12 = .ok (.getfield 28, 3) := by decide +kernel
theorem dX11_farmBut_15 : decode cX11_farmBut 15 = .ok (.aload_n 0, 1) := by decide +kernel
theorem dX11_farmBut_16 : decode cX11_farmBut 16 = .ok (.getfield 31, 3) := by decide +kernel
theorem dX11_farmBut_19 : decode cX11_farmBut 19 = .ok (.iaload, 1) := by decide +kernel
theorem dX11_farmBut_20 : decode cX11_farmBut 20 = .ok (.bipush 97, 2) := by decide +kernel
theorem dX11_farmBut_22 : decode cX11_farmBut 22 = .ok (.isub, 1) := by decide +kernel
theorem dX11_farmBut_23 : decode cX11_farmBut 23 = .ok (.i2l, 1) := by decide +kernel
theorem dX11_farmBut_24 : decode cX11_farmBut 24 = .ok (.lconst 0, 1) := by decide +kernel
theorem dX11_farmBut_25 : decode cX11_farmBut 25 = .ok (.aload_n 0, 1) := by decide +kernel
theorem dX11_farmBut_26 : decode cX11_farmBut 26 = .ok (.getfield 49, 3) := by decide +kernel
theorem dX11_farmBut_29 : decode cX11_farmBut 29 = .ok (.iconst 1, 1) := by decide +kernel
theorem dX11_farmBut_30 : decode cX11_farmBut 30 = .ok (.isub, 1) := by decide +kernel
theorem dX11_farmBut_31 : decode cX11_farmBut 31 = .ok (.i2l, 1) := by decide +kernel
theorem dX11_farmBut_32 : decode cX11_farmBut 32 = .ok (.invokestatic 17, 3) := by decide +kernel
theorem dX11_farmBut_35 : decode cX11_farmBut 35 = .ok (.ifCond .eq 19, 3) := by decide +kernel
theorem dX11_farmBut_38 : decode cX11_farmBut 38 = .ok (.aload_n 0, 1) := by decide +kernel
theorem dX11_farmBut_39 : decode cX11_farmBut 39 = .ok (.getfield 28, 3) := by decide +kernel
theorem dX11_farmBut_42 : decode cX11_farmBut 42 = .ok (.aload_n 0, 1) := by decide +kernel
theorem dX11_farmBut_43 : decode cX11_farmBut 43 = .ok (.getfield 31, 3) := by decide +kernel
theorem dX11_farmBut_46 : decode cX11_farmBut 46 = .ok (.iaload, 1) := by decide +kernel
theorem dX11_farmBut_47 : decode cX11_farmBut 47 = .ok (.bipush 97, 2) := by decide +kernel
theorem dX11_farmBut_49 : decode cX11_farmBut 49 = .ok (.isub, 1) := by decide +kernel
theorem dX11_farmBut_50 : decode cX11_farmBut 50 = .ok (.iload_n 1, 1) := by decide +kernel
theorem dX11_farmBut_51 : decode cX11_farmBut 51 = .ok (.if_icmp .ne 5, 3) := by decide +kernel
theorem dX11_farmBut_54 : decode cX11_farmBut 54 = .ok (.iconst (-1), 1) := by decide +kernel
theorem dX11_farmBut_55 : decode cX11_farmBut 55 = .ok (.ireturn, 1) := by decide +kernel
theorem dX11_farmBut_56 : decode cX11_farmBut 56 = .ok (.aload_n 0, 1) := by decide +kernel
theorem dX11_farmBut_57 : decode cX11_farmBut 57 = .ok (.dup, 1) := by decide +kernel
theorem dX11_farmBut_58 : decode cX11_farmBut 58 = .ok (.getfield 31, 3) := by decide +kernel
theorem dX11_farmBut_61 : decode cX11_farmBut 61 = .ok (.iconst 1, 1) := by decide +kernel
theorem dX11_farmBut_62 : decode cX11_farmBut 62 = .ok (.iadd, 1) := by decide +kernel
theorem dX11_farmBut_63 : decode cX11_farmBut 63 = .ok (.putfield 31, 3) := by decide +kernel
theorem dX11_farmBut_66 : decode cX11_farmBut 66 = .ok (.aload_n 0, 1) := by decide +kernel
theorem dX11_farmBut_67 : decode cX11_farmBut 67 = .ok (.getfield 28, 3) := by decide +kernel
theorem dX11_farmBut_70 : decode cX11_farmBut 70 = .ok (.aload_n 0, 1) := by decide +kernel
theorem dX11_farmBut_71 : decode cX11_farmBut 71 = .ok (.getfield 31, 3) := by decide +kernel
theorem dX11_farmBut_74 : decode cX11_farmBut 74 = .ok (.iconst 1, 1) := by decide +kernel
theorem dX11_farmBut_75 : decode cX11_farmBut 75 = .ok (.isub, 1) := by decide +kernel
theorem dX11_farmBut_76 : decode cX11_farmBut 76 = .ok (.iaload, 1) := by decide +kernel
theorem dX11_farmBut_77 : decode cX11_farmBut 77 = .ok (.bipush 97, 2) := by decide +kernel
theorem dX11_farmBut_79 : decode cX11_farmBut 79 = .ok (.isub, 1) := by decide +kernel
theorem dX11_farmBut_80 : decode cX11_farmBut 80 = .ok (.ireturn, 1) := by decide +kernel
theorem dX11_readsTouch_0 : decode cX11_readsTouch 0 = .ok (.aload_n 0, 1) := by decide +kernel
theorem dX11_readsTouch_1 : decode cX11_readsTouch 1 = .ok (.iconst (-1), 1) := by decide +kernel
theorem dX11_readsTouch_2 : decode cX11_readsTouch 2 = .ok (.invokevirtual 68, 3) := by decide +kernel
theorem dX11_readsTouch_5 : decode cX11_readsTouch 5 = .ok (.istore_n 1, 1) := by decide +kernel
theorem dX11_readsTouch_6 : decode cX11_readsTouch 6 = .ok (.iload_n 1, 1) := by decide +kernel
theorem dX11_readsTouch_7 : decode cX11_readsTouch 7 = .ok (.ifCond .ge 7, 3) := by decide +kernel
theorem dX11_readsTouch_10 : decode cX11_readsTouch 10 = .ok (.iconst (-1), 1) := by decide +kernel
theorem dX11_readsTouch_11 : decode cX11_readsTouch 11 = .ok (.goto 8, 3) := by decide +kernel
theorem dX11_readsTouch_14 : decode cX11_readsTouch 14 = .ok (.aload_n 0, 1) := by decide +kernel
theorem dX11_readsTouch_15 : decode cX11_readsTouch 15 = .ok (.iload_n 1, 1) := by decide +kernel
theorem dX11_readsTouch_16 : decode cX11_readsTouch 16 = .ok (.invokevirtual 68, 3) := by decide +kernel
theorem dX11_readsTouch_19 : decode cX11_readsTouch 19 = .ok (.istore_n 2, 1) := by decide +kernel
theorem dX11_readsTouch_20 : decode cX11_readsTouch 20 = .ok (.iload_n 2, 1) := by decide +kernel
theorem dX11_readsTouch_21 : decode cX11_readsTouch 21 = .ok (.ifCond .ge 5, 3) := by decide +kernel
theorem dX11_readsTouch_24 : decode cX11_readsTouch 24 = .ok (.iconst 0, 1) := by decide +kernel
theorem dX11_readsTouch_25 : decode cX11_readsTouch 25 = .ok (.ireturn, 1) := by decide +kernel
theorem dX11_readsTouch_26 : decode cX11_readsTouch 26 = .ok (.aload_n 0, 1) := by decide +kernel
theorem dX11_readsTouch_27 : decode cX11_readsTouch 27 = .ok (.bipush 47, 2) := by decide +kernel
theorem dX11_readsTouch_29 : decode cX11_readsTouch 29 = .ok (.invokevirtual 56, 3) := by decide +kernel
theorem dX11_readsTouch_32 : decode cX11_readsTouch 32 = .ok (.ifCond .eq 11, 3) := by decide +kernel
theorem dX11_readsTouch_35 : decode cX11_readsTouch 35 = .ok (.aload_n 0, 1) := by decide +kernel
theorem dX11_readsTouch_36 : decode cX11_readsTouch 36 = .ok (.iconst 0, 1) := by decide +kernel
theorem dX11_readsTouch_37 : decode cX11_readsTouch 37 = .ok (.invokevirtual 52, 3) := by decide +kernel
theorem dX11_readsTouch_40 : decode cX11_readsTouch 40 = .ok (.goto 4, 3) := by decide +kernel
theorem dX11_readsTouch_43 : decode cX11_readsTouch 43 = .ok (.iconst 0, 1) := by decide +kernel
theorem dX11_readsTouch_44 : decode cX11_readsTouch 44 = .ok (.istore_n 3, 1) := by decide +kernel
theorem dX11_readsTouch_45 : decode cX11_readsTouch 45 = .ok (.iload_n 3, 1) := by decide +kernel
theorem dX11_readsTouch_46 : decode cX11_readsTouch 46 = .ok (.ifCond .ge 5, 3) := by decide +kernel
theorem dX11_readsTouch_49 : decode cX11_readsTouch 49 = .ok (.iconst 0, 1) := by decide +kernel
theorem dX11_readsTouch_50 : decode cX11_readsTouch 50 = .ok (.ireturn, 1) := by decide +kernel
theorem dX11_readsTouch_51 : decode cX11_readsTouch 51 = .ok (.aload_n 0, 1) := by decide +kernel
theorem dX11_readsTouch_52 : decode cX11_readsTouch 52 = .ok (.getfield 65, 3) := by decide +kernel
theorem dX11_readsTouch_55 : decode cX11_readsTouch 55 = .ok (.iload_n 1, 1) := by decide +kernel
theorem dX11_readsTouch_56 : decode cX11_readsTouch 56 = .ok (.dup2, 1) := by decide +kernel
theorem dX11_readsTouch_57 : decode cX11_readsTouch 57 = .ok (.iaload, 1) := by decide +kernel
theorem dX11_readsTouch_58 : decode cX11_readsTouch 58 = .ok (.iconst 1, 1) := by decide +kernel
theorem dX11_readsTouch_59 : decode cX11_readsTouch 59 = .ok (.iload_n 2, 1) := by decide +kernel
theorem dX11_readsTouch_60 : decode cX11_readsTouch 60 = .ok (.ishl, 1) := by decide +kernel
theorem dX11_readsTouch_61 : decode cX11_readsTouch 61 = .ok (.ior, 1) := by decide +kernel
theorem dX11_readsTouch_62 : decode cX11_readsTouch 62 = .ok (.iastore, 1) := by decide +kernel
theorem dX11_readsTouch_63 : decode cX11_readsTouch 63 = .ok (.aload_n 0, 1) := by decide +kernel
theorem dX11_readsTouch_64 : decode cX11_readsTouch 64 = .ok (.getfield 65, 3) := by decide +kernel
theorem dX11_readsTouch_67 : decode cX11_readsTouch 67 = .ok (.iload_n 2, 1) := by decide +kernel
theorem dX11_readsTouch_68 : decode cX11_readsTouch 68 = .ok (.dup2, 1) := by decide +kernel
theorem dX11_readsTouch_69 : decode cX11_readsTouch 69 = .ok (.iaload, 1) := by decide +kernel
theorem dX11_readsTouch_70 : decode cX11_readsTouch 70 = .ok (.iconst 1, 1) := by decide +kernel
theorem dX11_readsTouch_71 : decode cX11_readsTouch 71 = .ok (.iload_n 1, 1) := by decide +kernel
theorem dX11_readsTouch_72 : decode cX11_readsTouch 72 = .ok (.ishl, 1) := by decide +kernel
theorem dX11_readsTouch_73 : decode cX11_readsTouch 73 = .ok (.ior, 1) := by decide +kernel
theorem dX11_readsTouch_74 : decode cX11_readsTouch 74 = .ok (.iastore, 1) := by decide +kernel
theorem dX11_readsTouch_75 : decode cX11_readsTouch 75 = .ok (.aload_n 0, 1) := by decide +kernel
theorem dX11_readsTouch_76 : decode cX11_readsTouch 76 = .ok (.getfield 71, 3) := by decide +kernel
theorem dX11_readsTouch_79 : decode cX11_readsTouch 79 = .ok (.bipush 9, 2) := by decide +kernel
theorem dX11_readsTouch_81 : decode cX11_readsTouch 81 = .ok (.iload_n 1, 1) := by decide +kernel
theorem dX11_readsTouch_82 : decode cX11_readsTouch 82 = .ok (.imul, 1) := by decide +kernel
theorem dX11_readsTouch_83 : decode cX11_readsTouch 83 = .ok (.iload_n 2, 1) := by decide +kernel
theorem dX11_readsTouch_84 : decode cX11_readsTouch 84 = .ok (.iadd, 1) := by decide +kernel
theorem dX11_readsTouch_85 : decode cX11_readsTouch 85 = .ok (.iload_n 3, 1) := by decide +kernel
theorem dX11_readsTouch_86 : decode cX11_readsTouch 86 = .ok (.iastore, 1) := by decide +kernel
theorem dX11_readsTouch_87 : decode cX11_readsTouch 87 = .ok (.aload_n 0, 1) := by decide +kernel
theorem dX11_readsTouch_88 : decode cX11_readsTouch 88 = .ok (.getfield 71, 3) := by decide +kernel
theorem dX11_readsTouch_91 : decode cX11_readsTouch 91 = .ok (.bipush 9, 2) := by decide +kernel
theorem dX11_readsTouch_93 : decode cX11_readsTouch 93 = .ok (.iload_n 2, 1) := by decide +kernel
theorem dX11_readsTouch_94 : decode cX11_readsTouch 94 = .ok (.imul, 1) := by decide +kernel
theorem dX11_readsTouch_95 : decode cX11_readsTouch 95 = .ok (.iload_n 1, 1) := by decide +kernel
theorem dX11_readsTouch_96 : decode cX11_readsTouch 96 = .ok (.iadd, 1) := by decide +kernel
theorem dX11_readsTouch_97 : decode cX11_readsTouch 97 = .ok (.iload_n 3, 1) := by decide +kernel
theorem dX11_readsTouch_98 : decode cX11_readsTouch 98 = .ok (.iastore, 1) := by decide +kernel
theorem dX11_readsTouch_99 : decode cX11_readsTouch 99 = .ok (.iconst 1, 1) := by decide +kernel
theorem dX11_readsTouch_100 : decode cX11_readsTouch 100 = .ok (.ireturn, 1) := by decide +kernel
theorem dX11_county_0 : decode cX11_county 0 = .ok (.aload_n 0, 1) := by decide +kernel
theorem dX11_county_1 : decode cX11_county 1 = .ok (.iconst 0, 1) := by decide +kernel
theorem dX11_county_2 : decode cX11_county 2 = .ok (.putfield 3, 3) := by decide +kernel
theorem dX11_county_5 : decode cX11_county 5 = .ok (.aload_n 0, 1) := by decide +kernel
theorem dX11_county_6 : decode cX11_county 6 = .ok (.bipush 76, 2) := by decide +kernel
theorem dX11_county_8 : decode cX11_county 8 = .ok (.invokevirtual 74, 3) := by decide +kernel
theorem dX11_county_11 : decode cX11_county 11 = .ok (.istore_n 1, 1) := by decide +kernel
theorem dX11_county_12 : decode cX11_county 12 = .ok (.aload_n 0, 1) := by decide +kernel
theorem dX11_county_13 : decode cX11_county 13 = .ok (.aload_n 0, 1) := by decide +kernel
theorem dX11_county_14 : decode cX11_county 14 = .ok (.getfield 14, 3) := by decide +kernel
theorem dX11_county_17 : decode cX11_county 17 = .ok (.putfield 49, 3) := by decide +kernel
theorem dX11_county_20 : decode cX11_county 20 = .ok (.iconst 0, 1) := by decide +kernel
theorem dX11_county_21 : decode cX11_county 21 = .ok (.istore_n 2, 1) := by decide +kernel
theorem dX11_county_22 : decode cX11_county 22 = .ok (.iload_n 2, 1) := by decide +kernel
theorem dX11_county_23 : decode cX11_county 23 = .ok (.bipush 81, 2) := by decide +kernel
theorem dX11_county_25 : decode cX11_county 25 = .ok (.if_icmp .ge 21, 3) := by decide +kernel
theorem dX11_county_28 : decode cX11_county 28 = .ok (.aload_n 0, 1) := by decide +kernel
theorem dX11_county_29 : decode cX11_county 29 = .ok (.getfield 71, 3) := by decide +kernel
theorem dX11_county_32 : decode cX11_county 32 = .ok (.iload_n 2, 1) := by decide +kernel
theorem dX11_county_33 : decode cX11_county 33 = .ok (.aload_n 0, 1) := by decide +kernel
theorem dX11_county_34 : decode cX11_county 34 = .ok (.getfield 77, 3) := by decide +kernel
theorem dX11_county_37 : decode cX11_county 37 = .ok (.iload_n 2, 1) := by decide +kernel
theorem dX11_county_38 : decode cX11_county 38 = .ok (.iaload, 1) := by decide +kernel
theorem dX11_county_39 : decode cX11_county 39 = .ok (.iastore, 1) := by decide +kernel
theorem dX11_county_40 : decode cX11_county 40 = .ok (.iinc 2 1, 3) := by decide +kernel
theorem dX11_county_43 : decode cX11_county 43 = .ok (.goto (-21), 3) := by decide +kernel
theorem dX11_county_46 : decode cX11_county 46 = .ok (.iconst 0, 1) := by decide +kernel
theorem dX11_county_47 : decode cX11_county 47 = .ok (.istore_n 2, 1) := by decide +kernel
theorem dX11_county_48 : decode cX11_county 48 = .ok (.iload_n 2, 1) := by decide +kernel
theorem dX11_county_49 : decode cX11_county 49 = .ok (.aload_n 0, 1) := by decide +kernel
theorem dX11_county_50 : decode cX11_county 50 = .ok (.getfield 14, 3) := by decide +kernel
theorem dX11_county_53 : decode cX11_county 53 = .ok (.if_icmp .ge 21, 3) := by decide +kernel
theorem dX11_county_56 : decode cX11_county 56 = .ok (.aload_n 0, 1) := by decide +kernel
theorem dX11_county_57 : decode cX11_county 57 = .ok (.getfield 65, 3) := by decide +kernel
theorem dX11_county_60 : decode cX11_county 60 = .ok (.iload_n 2, 1) := by decide +kernel
theorem dX11_county_61 : decode cX11_county 61 = .ok (.aload_n 0, 1) := by decide +kernel
theorem dX11_county_62 : decode cX11_county 62 = .ok (.getfield 80, 3) := by decide +kernel
theorem dX11_county_65 : decode cX11_county 65 = .ok (.iload_n 2, 1) := by decide +kernel
theorem dX11_county_66 : decode cX11_county 66 = .ok (.iaload, 1) := by decide +kernel
theorem dX11_county_67 : decode cX11_county 67 = .ok (.iastore, 1) := by decide +kernel
theorem dX11_county_68 : decode cX11_county 68 = .ok (.iinc 2 1, 3) := by decide +kernel
theorem dX11_county_71 : decode cX11_county 71 = .ok (.goto (-23), 3) := by decide +kernel
theorem dX11_county_74 : decode cX11_county 74 = .ok (.iconst 0, 1) := by decide +kernel
theorem dX11_county_75 : decode cX11_county 75 = .ok (.istore_n 2, 1) := by decide +kernel
theorem dX11_county_76 : decode cX11_county 76 = .ok (.iconst 1, 1) := by decide +kernel
theorem dX11_county_77 : decode cX11_county 77 = .ok (.istore_n 3, 1) := by decide +kernel
theorem dX11_county_78 : decode cX11_county 78 = .ok (.iload_n 1, 1) := by decide +kernel
theorem dX11_county_79 : decode cX11_county 79 = .ok (.ifCond .le 7, 3) := by decide +kernel
theorem dX11_county_82 : decode cX11_county 82 = .ok (.iconst 1, 1) := by decide +kernel
theorem dX11_county_83 : decode cX11_county 83 = .ok (.goto 4, 3) := by decide +kernel
theorem dX11_county_86 : decode cX11_county 86 = .ok (.iconst 0, 1) := by decide +kernel
theorem dX11_county_87 : decode cX11_county 87 = .ok (.istore 4, 2) := by decide +kernel
theorem dX11_county_89 : decode cX11_county 89 = .ok (.iload 4, 2) := by decide +kernel
theorem dX11_county_91 : decode cX11_county 91 = .ok (.ifCond .eq 74, 3) := by decide +kernel
theorem dX11_county_94 : decode cX11_county 94 = .ok (.aload_n 0, 1) := by decide +kernel
theorem dX11_county_95 : decode cX11_county 95 = .ok (.getfield 31, 3) := by decide +kernel
theorem dX11_county_98 : decode cX11_county 98 = .ok (.aload_n 0, 1) := by decide +kernel
theorem dX11_county_99 : decode cX11_county 99 = .ok (.getfield 40, 3) := by decide +kernel
theorem dX11_county_102 : decode cX11_county 102 = .ok (.if_icmp .ge 32, 3) := by decide +kernel
theorem dX11_county_105 : decode cX11_county 105 = .ok (.aload_n 0, 1) := by decide +kernel
theorem dX11_county_106 : decode cX11_county 106 = .ok (.getfield 28, 3) := by decide +kernel
theorem dX11_county_109 : decode cX11_county 109 = .ok (.aload_n 0, 1) := by decide +kernel
theorem dX11_county_110 : decode cX11_county 110 = .ok (.getfield 31, 3) := by decide +kernel
theorem dX11_county_113 : decode cX11_county 113 = .ok (.iaload, 1) := by decide +kernel
theorem dX11_county_114 : decode cX11_county 114 = .ok (.i2l, 1) := by decide +kernel
theorem dX11_county_115 : decode cX11_county 115 = .ok (.ldc2_w 83, 3) := by decide +kernel
theorem dX11_county_118 : decode cX11_county 118 = .ok (.ldc2_w 47, 3) := by decide +kernel
theorem dX11_county_121 : decode cX11_county 121 = .ok (.invokestatic 17, 3) := by decide +kernel
theorem dX11_county_124 : decode cX11_county 124 = .ok (.ifCond .eq 10, 3) := by decide +kernel
theorem dX11_county_127 : decode cX11_county 127 = .ok (.aload_n 0, 1) := by decide +kernel
theorem dX11_county_128 : decode cX11_county 128 = .ok (.invokevirtual 85, 3) := by decide +kernel
theorem dX11_county_131 : decode cX11_county 131 = .ok (.goto 7, 3) := by decide +kernel
theorem dX11_county_134 : decode cX11_county 134 = .ok (.aload_n 0, 1) := by decide +kernel
theorem dX11_county_135 : decode cX11_county 135 = .ok (.invokevirtual 89, 3) := by decide +kernel
theorem dX11_county_138 : decode cX11_county 138 = .ok (.istore_n 3, 1) := by decide +kernel
theorem dX11_county_139 : decode cX11_county 139 = .ok (.iinc 2 1, 3) := by decide +kernel
theorem dX11_county_142 : decode cX11_county 142 = .ok (.iload_n 3, 1) := by decide +kernel
theorem dX11_county_143 : decode cX11_county 143 = .ok (.ifCond .eq 16, 3) := by decide +kernel
theorem dX11_county_146 : decode cX11_county 146 = .ok (.aload_n 0, 1) := by decide +kernel
theorem dX11_county_147 : decode cX11_county 147 = .ok (.bipush 59, 2) := by decide +kernel
theorem dX11_county_149 : decode cX11_county 149 = .ok (.invokevirtual 56, 3) := by decide +kernel
theorem dX11_county_152 : decode cX11_county 152 = .ok (.ifCond .eq 7, 3) := by decide +kernel
theorem dX11_county_155 : decode cX11_county 155 = .ok (.iconst 1, 1) := by decide +kernel
theorem dX11_county_156 : decode cX11_county 156 = .ok (.goto 4, 3) := by decide +kernel
theorem dX11_county_159 : decode cX11_county 159 = .ok (.iconst 0, 1) := by decide +kernel
theorem dX11_county_160 : decode cX11_county 160 = .ok (.istore 4, 2) := by decide +kernel
theorem dX11_county_162 : decode cX11_county 162 = .ok (.goto (-73), 3) := by decide +kernel
theorem dX11_county_165 : decode cX11_county 165 = .ok (.aload_n 0, 1) := by decide +kernel
theorem dX11_county_166 : decode cX11_county 166 = .ok (.iload_n 1, 1) := by decide +kernel
theorem dX11_county_167 : decode cX11_county 167 = .ok (.bipush 76, 2) := by decide +kernel
theorem dX11_county_169 : decode cX11_county 169 = .ok (.iload_n 3, 1) := by decide +kernel
theorem dX11_county_170 : decode cX11_county 170 = .ok (.invokevirtual 92, 3) := by decide +kernel
theorem dX11_county_173 : decode cX11_county 173 = .ok (.istore 5, 2) := by decide +kernel
theorem dX11_county_175 : decode cX11_county 175 = .ok (.iload 5, 2) := by decide +kernel
theorem dX11_county_177 : decode cX11_county 177 = .ok (.ifCond .ge 6, 3) := by decide +kernel
theorem dX11_county_180 : decode cX11_county 180 = .ok (.iload 5, 2) := by decide +kernel
theorem dX11_county_182 : decode cX11_county 182 = .ok (.ireturn, 1) := by decide +kernel
theorem dX11_county_183 : decode cX11_county 183 = .ok (.iconst 0, 1) := by decide +kernel
theorem dX11_county_184 : decode cX11_county 184 = .ok (.istore 6, 2) := by decide +kernel
theorem dX11_county_186 : decode cX11_county 186 = .ok (.iload 6, 2) := by decide +kernel
theorem dX11_county_188 : decode cX11_county 188 = .ok (.aload_n 0, 1) := by decide +kernel
theorem dX11_county_189 : decode cX11_county 189 = .ok (.getfield 49, 3) := by decide +kernel
theorem dX11_county_192 : decode cX11_county 192 = .ok (.if_icmp .ge 116, 3) := by decide +kernel
theorem dX11_county_195 : decode cX11_county 195 = .ok (.aload_n 0, 1) := by decide +kernel
theorem dX11_county_196 : decode cX11_county 196 = .ok (.getfield 96, 3) := by decide +kernel
theorem dX11_county_199 : decode cX11_county 199 = .ok (.iload 6, 2) := by decide +kernel
theorem dX11_county_201 : decode cX11_county 201 = .ok (.iload 6, 2) := by decide +kernel
theorem dX11_county_203 : decode cX11_county 203 = .ok (.aload_n 0, 1) := by decide +kernel
theorem dX11_county_204 : decode cX11_county 204 = .ok (.getfield 14, 3) := by decide +kernel
theorem dX11_county_207 : decode cX11_county 207 = .ok (.if_icmp .ge 13, 3) := by decide +kernel
theorem dX11_county_210 : decode cX11_county 210 = .ok (.aload_n 0, 1) := by decide +kernel
theorem dX11_county_211 : decode cX11_county 211 = .ok (.getfield 96, 3) := by decide +kernel
theorem dX11_county_214 : decode cX11_county 214 = .ok (.iload 6, 2) := by decide +kernel
theorem dX11_county_216 : decode cX11_county 216 = .ok (.iaload, 1) := by decide +kernel
theorem dX11_county_217 : decode cX11_county 217 = .ok (.goto 10, 3) := by decide +kernel
theorem dX11_county_220 : decode cX11_county 220 = .ok (.aload_n 0, 1) := by decide +kernel
theorem dX11_county_221 : decode cX11_county 221 = .ok (.getfield 59, 3) := by decide +kernel
theorem dX11_county_224 : decode cX11_county 224 = .ok (.iload 6, 2) := by decide +kernel
theorem dX11_county_226 : decode cX11_county 226 = .ok (.iaload, 1) := by decide +kernel
theorem dX11_county_227 : decode cX11_county 227 = .ok (.iastore, 1) := by decide +kernel
theorem dX11_county_228 : decode cX11_county 228 = .ok (.aload_n 0, 1) := by decide +kernel
theorem dX11_county_229 : decode cX11_county 229 = .ok (.getfield 99, 3) := by decide +kernel
theorem dX11_county_232 : decode cX11_county 232 = .ok (.iload 6, 2) := by decide +kernel
theorem dX11_county_234 : decode cX11_county 234 = .ok (.iload 6, 2) := by decide +kernel
theorem dX11_county_236 : decode cX11_county 236 = .ok (.aload_n 0, 1) := by decide +kernel
theorem dX11_county_237 : decode cX11_county 237 = .ok (.getfield 14, 3) := by decide +kernel
theorem dX11_county_240 : decode cX11_county 240 = .ok (.if_icmp .ge 13, 3) := by decide +kernel
theorem dX11_county_243 : decode cX11_county 243 = .ok (.aload_n 0, 1) := by decide +kernel
theorem dX11_county_244 : decode cX11_county 244 = .ok (.getfield 99, 3) := by decide +kernel
theorem dX11_county_247 : decode cX11_county 247 = .ok (.iload 6, 2) := by decide +kernel
theorem dX11_county_249 : decode cX11_county 249 = .ok (.iaload, 1) := by decide +kernel
theorem dX11_county_250 : decode cX11_county 250 = .ok (.goto 10, 3) := by decide +kernel
theorem dX11_county_253 : decode cX11_county 253 = .ok (.aload_n 0, 1) := by decide +kernel
theorem dX11_county_254 : decode cX11_county 254 = .ok (.getfield 62, 3) := by decide +kernel
theorem dX11_county_257 : decode cX11_county 257 = .ok (.iload 6, 2) := by decide +kernel
theorem dX11_county_259 : decode cX11_county 259 = .ok (.iaload, 1) := by decide +kernel
theorem dX11_county_260 : decode cX11_county 260 = .ok (.iastore, 1) := by decide +kernel
theorem dX11_county_261 : decode cX11_county 261 = .ok (.aload_n 0, 1) := by decide +kernel
theorem dX11_county_262 : decode cX11_county 262 = .ok (.getfield 102, 3) := by decide +kernel
theorem dX11_county_265 : decode cX11_county 265 = .ok (.iload 6, 2) := by decide +kernel
theorem dX11_county_267 : decode cX11_county 267 = .ok (.iload 6, 2) := by decide +kernel
theorem dX11_county_269 : decode cX11_county 269 = .ok (.aload_n 0, 1) := by decide +kernel
theorem dX11_county_270 : decode cX11_county 270 = .ok (.getfield 14, 3) := by decide +kernel
theorem dX11_county_273 : decode cX11_county 273 = .ok (.if_icmp .ge 13, 3) := by decide +kernel
theorem dX11_county_276 : decode cX11_county 276 = .ok (.aload_n 0, 1) := by decide +kernel
theorem dX11_county_277 : decode cX11_county 277 = .ok (.getfield 102, 3) := by decide +kernel
theorem dX11_county_280 : decode cX11_county 280 = .ok (.iload 6, 2) := by decide +kernel
theorem dX11_county_282 : decode cX11_county 282 = .ok (.iaload, 1) := by decide +kernel
theorem dX11_county_283 : decode cX11_county 283 = .ok (.goto 4, 3) := by decide +kernel
theorem dX11_county_286 : decode cX11_county 286 = .ok (.iconst 0, 1) := by decide +kernel
theorem dX11_county_287 : decode cX11_county 287 = .ok (.iastore, 1) := by decide +kernel
theorem dX11_county_288 : decode cX11_county 288 = .ok (.aload_n 0, 1) := by decide +kernel
theorem dX11_county_289 : decode cX11_county 289 = .ok (.getfield 80, 3) := by decide +kernel
theorem dX11_county_292 : decode cX11_county 292 = .ok (.iload 6, 2) := by decide +kernel
theorem dX11_county_294 : decode cX11_county 294 = .ok (.aload_n 0, 1) := by decide +kernel
theorem dX11_county_295 : decode cX11_county 295 = .ok (.getfield 65, 3) := by decide +kernel
theorem dX11_county_298 : decode cX11_county 298 = .ok (.iload 6, 2) := by decide +kernel
theorem dX11_county_300 : decode cX11_county 300 = .ok (.iaload, 1) := by decide +kernel
theorem dX11_county_301 : decode cX11_county 301 = .ok (.iastore, 1) := by decide +kernel
theorem dX11_county_302 : decode cX11_county 302 = .ok (.iinc 6 1, 3) := by decide +kernel
theorem dX11_county_305 : decode cX11_county 305 = .ok (.goto (-119), 3) := by decide +kernel
theorem dX11_county_308 : decode cX11_county 308 = .ok (.iconst 0, 1) := by decide +kernel
theorem dX11_county_309 : decode cX11_county 309 = .ok (.istore 6, 2) := by decide +kernel
theorem dX11_county_311 : decode cX11_county 311 = .ok (.iload 6, 2) := by decide +kernel
theorem dX11_county_313 : decode cX11_county 313 = .ok (.bipush 81, 2) := by decide +kernel
theorem dX11_county_315 : decode cX11_county 315 = .ok (.if_icmp .ge 23, 3) := by decide +kernel
theorem dX11_county_318 : decode cX11_county 318 = .ok (.aload_n 0, 1) := by decide +kernel
theorem dX11_county_319 : decode cX11_county 319 = .ok (.getfield 77, 3) := by decide +kernel
theorem dX11_county_322 : decode cX11_county 322 = .ok (.iload 6, 2) := by decide +kernel
theorem dX11_county_324 : decode cX11_county 324 = .ok (.aload_n 0, 1) := by decide +kernel
theorem dX11_county_325 : decode cX11_county 325 = .ok (.getfield 71, 3) := by decide +kernel
theorem dX11_county_328 : decode cX11_county 328 = .ok (.iload 6, 2) := by decide +kernel
theorem dX11_county_330 : decode cX11_county 330 = .ok (.iaload, 1) := by decide +kernel
theorem dX11_county_331 : decode cX11_county 331 = .ok (.iastore, 1) := by decide +kernel
theorem dX11_county_332 : decode cX11_county 332 = .ok (.iinc 6 1, 3) := by decide +kernel
theorem dX11_county_335 : decode cX11_county 335 = .ok (.goto (-24), 3) := by decide +kernel
theorem dX11_county_338 : decode cX11_county 338 = .ok (.aload_n 0, 1) := by decide +kernel
theorem dX11_county_339 : decode cX11_county 339 = .ok (.aload_n 0, 1) := by decide +kernel
theorem dX11_county_340 : decode cX11_county 340 = .ok (.getfield 49, 3) := by decide +kernel
theorem dX11_county_343 : decode cX11_county 343 = .ok (.putfield 14, 3) := by decide +kernel
theorem dX11_county_346 : decode cX11_county 346 = .ok (.aload_n 0, 1) := by decide +kernel
theorem dX11_county_347 : decode cX11_county 347 = .ok (.iload_n 1, 1) := by decide +kernel
theorem dX11_county_348 : decode cX11_county 348 = .ok (.ifCond .le 7, 3) := by decide +kernel
theorem dX11_county_351 : decode cX11_county 351 = .ok (.iconst 0, 1) := by decide +kernel
theorem dX11_county_352 : decode cX11_county 352 = .ok (.goto 7, 3) := by decide +kernel
theorem dX11_county_355 : decode cX11_county 355 = .ok (.aload_n 0, 1) := by decide +kernel
theorem dX11_county_356 : decode cX11_county 356 = .ok (.getfield 105, 3) := by decide +kernel
theorem dX11_county_359 : decode cX11_county 359 = .ok (.putfield 105, 3) := by decide +kernel
theorem dX11_county_362 : decode cX11_county 362 = .ok (.iload_n 2, 1) := by decide +kernel
theorem dX11_county_363 : decode cX11_county 363 = .ok (.ireturn, 1) := by decide +kernel
theorem dX11_isEven_0 : decode cX11_isEven 0 = .ok (.aload_n 0, 1) := by decide +kernel
theorem dX11_isEven_1 : decode cX11_isEven 1 = .ok (.getfield 80, 3) := by decide +kernel
theorem dX11_isEven_4 : decode cX11_isEven 4 = .ok (.iload_n 2, 1) := by decide +kernel
theorem dX11_isEven_5 : decode cX11_isEven 5 = .ok (.iaload, 1) := by decide +kernel
theorem dX11_isEven_6 : decode cX11_isEven 6 = .ok (.iload_n 3, 1) := by decide +kernel
theorem dX11_isEven_7 : decode cX11_isEven 7 = .ok (.invokestatic 108, 3) := by decide +kernel
theorem dX11_isEven_10 : decode cX11_isEven 10 = .ok (.ifCond .eq 26, 3) := by decide +kernel
theorem dX11_isEven_13 : decode cX11_isEven 13 = .ok (.aload_n 1, 1) := by decide +kernel
theorem dX11_isEven_14 : decode cX11_isEven 14 = .ok (.iload_n 2, 1) := by decide +kernel
theorem dX11_isEven_15 : decode cX11_isEven 15 = .ok (.iaload, 1) := by decide +kernel
theorem dX11_isEven_16 : decode cX11_isEven 16 = .ok (.aload_n 1, 1) := by decide +kernel
theorem dX11_isEven_17 : decode cX11_isEven 17 = .ok (.iload_n 3, 1) := by decide +kernel
theorem dX11_isEven_18 : decode cX11_isEven 18 = .ok (.iaload, 1) := by decide +kernel
theorem dX11_isEven_19 : decode cX11_isEven 19 = .ok (.isub, 1) := by decide +kernel
theorem dX11_isEven_20 : decode cX11_isEven 20 = .ok (.invokestatic 112, 3) := by decide +kernel
theorem dX11_isEven_23 : decode cX11_isEven 23 = .ok (.aload_n 0, 1) := by decide +kernel
theorem dX11_isEven_24 : decode cX11_isEven 24 = .ok (.getfield 115, 3) := by decide +kernel
theorem dX11_isEven_27 : decode cX11_isEven 27 = .ok (.iconst 0, 1) := by decide +kernel
theorem dX11_isEven_28 : decode cX11_isEven 28 = .ok (.iaload, 1) := by decide +kernel
theorem dX11_isEven_29 : decode cX11_isEven 29 = .ok (.if_icmp .ge 7, 3) := by decide +kernel
theorem dX11_isEven_32 : decode cX11_isEven 32 = .ok (.iconst 1, 1) := by decide +kernel
theorem dX11_isEven_33 : decode cX11_isEven 33 = .ok (.goto 4, 3) := by decide +kernel
theorem dX11_isEven_36 : decode cX11_isEven 36 = .ok (.iconst 0, 1) := by decide +kernel
theorem dX11_isEven_37 : decode cX11_isEven 37 = .ok (.ireturn, 1) := by decide +kernel
theorem dX11_evenWith_0 : decode cX11_evenWith 0 = .ok (.iconst 0, 1) := by decide +kernel
theorem dX11_evenWith_1 : decode cX11_evenWith 1 = .ok (.istore_n 3, 1) := by decide +kernel
theorem dX11_evenWith_2 : decode cX11_evenWith 2 = .ok (.iconst 0, 1) := by decide +kernel
theorem dX11_evenWith_3 : decode cX11_evenWith 3 = .ok (.istore 4, 2) := by decide +kernel
theorem dX11_evenWith_5 : decode cX11_evenWith 5 = .ok (.iload 4, 2) := by decide +kernel
theorem dX11_evenWith_7 : decode cX11_evenWith 7 = .ok (.aload_n 0, 1) := by decide +kernel
theorem dX11_evenWith_8 : decode cX11_evenWith 8 = .ok (.getfield 14, 3) := by decide +kernel
theorem dX11_evenWith_11 : decode cX11_evenWith 11 = .ok (.if_icmp .ge 37, 3) := by decide +kernel
theorem dX11_evenWith_14 : decode cX11_evenWith 14 = .ok (.iload_n 3, 1) := by decide +kernel
theorem dX11_evenWith_15 : decode cX11_evenWith 15 = .ok (.iload 4, 2) := by decide +kernel
theorem dX11_evenWith_17 : decode cX11_evenWith 17 = .ok (.iload_n 2, 1) := by decide +kernel
theorem dX11_evenWith_18 : decode cX11_evenWith 18 = .ok (.if_icmp .eq 21, 3) := by decide +kernel
theorem dX11_evenWith_21 : decode cX11_evenWith 21 = .ok (.aload_n 0, 1) := by decide +kernel
theorem dX11_evenWith_22 : decode cX11_evenWith 22 = .ok (.aload_n 1, 1) := by decide +kernel
theorem dX11_evenWith_23 : decode cX11_evenWith 23 = .ok (.iload_n 2, 1) := by decide +kernel
theorem dX11_evenWith_24 : decode cX11_evenWith 24 = .ok (.iload 4, 2) := by decide +kernel
theorem dX11_evenWith_26 : decode cX11_evenWith 26 = .ok (.invokevirtual 118, 3) := by decide +kernel
theorem dX11_evenWith_29 : decode cX11_evenWith 29 = .ok (.ifCond .eq 10, 3) := by decide +kernel
theorem dX11_evenWith_32 : decode cX11_evenWith 32 = .ok (.iconst 1, 1) := by decide +kernel
theorem dX11_evenWith_33 : decode cX11_evenWith 33 = .ok (.iload 4, 2) := by decide +kernel
theorem dX11_evenWith_35 : decode cX11_evenWith 35 = .ok (.ishl, 1) := by decide +kernel
theorem dX11_evenWith_36 : decode cX11_evenWith 36 = .ok (.goto 4, 3) := by decide +kernel
theorem dX11_evenWith_39 : decode cX11_evenWith 39 = .ok (.iconst 0, 1) := by decide +kernel
theorem dX11_evenWith_40 : decode cX11_evenWith 40 = .ok (.ior, 1) := by decide +kernel
theorem dX11_evenWith_41 : decode cX11_evenWith 41 = .ok (.istore_n 3, 1) := by decide +kernel
theorem dX11_evenWith_42 : decode cX11_evenWith 42 = .ok (.iinc 4 1, 3) := by decide +kernel
theorem dX11_evenWith_45 : decode cX11_evenWith 45 = .ok (.goto (-40), 3) := by decide +kernel
theorem dX11_evenWith_48 : decode cX11_evenWith 48 = .ok (.iload_n 3, 1) := by decide +kernel
theorem dX11_evenWith_49 : decode cX11_evenWith 49 = .ok (.ireturn, 1) := by decide +kernel
theorem dX11_evenPairs_0 : decode cX11_evenPairs 0 = .ok (.iconst 0, 1) := by decide +kernel
theorem dX11_evenPairs_1 : decode cX11_evenPairs 1 = .ok (.istore_n 2, 1) := by decide +kernel
theorem dX11_evenPairs_2 : decode cX11_evenPairs 2 = .ok (.iconst 0, 1) := by decide +kernel
theorem dX11_evenPairs_3 : decode cX11_evenPairs 3 = .ok (.istore_n 3, 1) := by decide +kernel
theorem dX11_evenPairs_4 : decode cX11_evenPairs 4 = .ok (.iload_n 3, 1) := by decide +kernel
theorem dX11_evenPairs_5 : decode cX11_evenPairs 5 = .ok (.aload_n 0, 1) := by decide +kernel
theorem dX11_evenPairs_6 : decode cX11_evenPairs 6 = .ok (.getfield 14, 3) := by decide +kernel
theorem dX11_evenPairs_9 : decode cX11_evenPairs 9 = .ok (.if_icmp .ge 21, 3) := by decide +kernel
theorem dX11_evenPairs_12 : decode cX11_evenPairs 12 = .ok (.iload_n 2, 1) := by decide +kernel
theorem dX11_evenPairs_13 : decode cX11_evenPairs 13 = .ok (.aload_n 0, 1) := by decide +kernel
theorem dX11_evenPairs_14 : decode cX11_evenPairs 14 = .ok (.aload_n 1, 1) := by decide +kernel
theorem dX11_evenPairs_15 : decode cX11_evenPairs 15 = .ok (.iload_n 3, 1) := by decide +kernel
theorem dX11_evenPairs_16 : decode cX11_evenPairs 16 = .ok (.invokevirtual 122, 3) := by decide +kernel
theorem dX11_evenPairs_19 : decode cX11_evenPairs 19 = .ok (.invokestatic 126, 3) := by decide +kernel
theorem dX11_evenPairs_22 : decode cX11_evenPairs 22 = .ok (.iadd, 1) := by decide +kernel
theorem dX11_evenPairs_23 : decode cX11_evenPairs 23 = .ok (.istore_n 2, 1) := by decide +kernel
theorem dX11_evenPairs_24 : decode cX11_evenPairs 24 = .ok (.iinc 3 1, 3) := by decide +kernel
theorem dX11_evenPairs_27 : decode cX11_evenPairs 27 = .ok (.goto (-23), 3) := by decide +kernel
theorem dX11_evenPairs_30 : decode cX11_evenPairs 30 = .ok (.iload_n 2, 1) := by decide +kernel
theorem dX11_evenPairs_31 : decode cX11_evenPairs 31 = .ok (.iconst 2, 1) := by decide +kernel
theorem dX11_evenPairs_32 : decode cX11_evenPairs 32 = .ok (.idiv, 1) := by decide +kernel
theorem dX11_evenPairs_33 : decode cX11_evenPairs 33 = .ok (.ireturn, 1) := by decide +kernel
theorem dX11_farm_0 : decode cX11_farm 0 = .ok (.aload_n 0, 1) := by decide +kernel
theorem dX11_farm_1 : decode cX11_farm 1 = .ok (.iconst 0, 1) := by decide +kernel
theorem dX11_farm_2 : decode cX11_farm 2 = .ok (.putfield 3, 3) := by decide +kernel
theorem dX11_farm_5 : decode cX11_farm 5 = .ok (.aload_n 0, 1) := by decide +kernel
theorem dX11_farm_6 : decode cX11_farm 6 = .ok (.iload_n 1, 1) := by decide +kernel
theorem dX11_farm_7 : decode cX11_farm 7 = .ok (.invokevirtual 21, 3) := by decide +kernel
theorem dX11_farm_10 : decode cX11_farm 10 = .ok (.ifCond .eq 15, 3) := by decide +kernel
theorem dX11_farm_13 : decode cX11_farm 13 = .ok (.iload_n 2, 1) := by decide +kernel
theorem dX11_farm_14 : decode cX11_farm 14 = .ok (.i2l, 1) := by decide +kernel
theorem dX11_farm_15 : decode cX11_farm 15 = .ok (.lconst 0, 1) := by decide +kernel
theorem dX11_farm_16 : decode cX11_farm 16 = .ok (.ldc2_w 131, 3) := by decide +kernel
theorem dX11_farm_19 : decode cX11_farm 19 = .ok (.invokestatic 17, 3) := by decide +kernel
theorem dX11_farm_22 : decode cX11_farm 22 = .ok (.ifCond .ne 8, 3) := by decide +kernel
theorem dX11_farm_25 : decode cX11_farm 25 = .ok (.aload_n 0, 1) := by decide +kernel
theorem dX11_farm_26 : decode cX11_farm 26 = .ok (.invokevirtual 133, 3) := by decide +kernel
theorem dX11_farm_29 : decode cX11_farm 29 = .ok (.ireturn, 1) := by decide +kernel
theorem dX11_farm_30 : decode cX11_farm 30 = .ok (.iload_n 2, 1) := by decide +kernel
theorem dX11_farm_31 : decode cX11_farm 31 = .ok (.tableswitch 60 0 3 #[29, 36, 43, 50], 29) := by decide +kernel
theorem dX11_farm_60 : decode cX11_farm 60 = .ok (.aload_n 0, 1) := by decide +kernel
theorem dX11_farm_61 : decode cX11_farm 61 = .ok (.getfield 96, 3) := by decide +kernel
theorem dX11_farm_64 : decode cX11_farm 64 = .ok (.iload_n 1, 1) := by decide +kernel
theorem dX11_farm_65 : decode cX11_farm 65 = .ok (.iaload, 1) := by decide +kernel
theorem dX11_farm_66 : decode cX11_farm 66 = .ok (.ireturn, 1) := by decide +kernel
theorem dX11_farm_67 : decode cX11_farm 67 = .ok (.aload_n 0, 1) := by decide +kernel
theorem dX11_farm_68 : decode cX11_farm 68 = .ok (.getfield 99, 3) := by decide +kernel
theorem dX11_farm_71 : decode cX11_farm 71 = .ok (.iload_n 1, 1) := by decide +kernel
theorem dX11_farm_72 : decode cX11_farm 72 = .ok (.iaload, 1) := by decide +kernel
theorem dX11_farm_73 : decode cX11_farm 73 = .ok (.ireturn, 1) := by decide +kernel
theorem dX11_farm_74 : decode cX11_farm 74 = .ok (.aload_n 0, 1) := by decide +kernel
theorem dX11_farm_75 : decode cX11_farm 75 = .ok (.getfield 80, 3) := by decide +kernel
theorem dX11_farm_78 : decode cX11_farm 78 = .ok (.iload_n 1, 1) := by decide +kernel
theorem dX11_farm_79 : decode cX11_farm 79 = .ok (.iaload, 1) := by decide +kernel
theorem dX11_farm_80 : decode cX11_farm 80 = .ok (.ireturn, 1) := by decide +kernel
theorem dX11_farm_81 : decode cX11_farm 81 = .ok (.aload_n 0, 1) := by decide +kernel
theorem dX11_farm_82 : decode cX11_farm 82 = .ok (.aload_n 0, 1) := by decide +kernel
theorem dX11_farm_83 : decode cX11_farm 83 = .ok (.getfield 96, 3) := by decide +kernel
theorem dX11_farm_86 : decode cX11_farm 86 = .ok (.iload_n 1, 1) := by decide +kernel
theorem dX11_farm_87 : decode cX11_farm 87 = .ok (.invokevirtual 122, 3) := by decide +kernel
theorem dX11_farm_90 : decode cX11_farm 90 = .ok (.ireturn, 1) := by decide +kernel
theorem dX11_farm_91 : decode cX11_farm 91 = .ok (.aload_n 0, 1) := by decide +kernel
theorem dX11_farm_92 : decode cX11_farm 92 = .ok (.getfield 102, 3) := by decide +kernel
theorem dX11_farm_95 : decode cX11_farm 95 = .ok (.iload_n 1, 1) := by decide +kernel
theorem dX11_farm_96 : decode cX11_farm 96 = .ok (.iaload, 1) := by decide +kernel
theorem dX11_farm_97 : decode cX11_farm 97 = .ok (.ireturn, 1) := by decide +kernel
theorem dX11_stone_0 : decode cX11_stone 0 = .ok (.aload_n 0, 1) := by decide +kernel
theorem dX11_stone_1 : decode cX11_stone 1 = .ok (.iconst 0, 1) := by decide +kernel
theorem dX11_stone_2 : decode cX11_stone 2 = .ok (.putfield 3, 3) := by decide +kernel
theorem dX11_stone_5 : decode cX11_stone 5 = .ok (.aload_n 0, 1) := by decide +kernel
theorem dX11_stone_6 : decode cX11_stone 6 = .ok (.iload_n 1, 1) := by decide +kernel
theorem dX11_stone_7 : decode cX11_stone 7 = .ok (.iload_n 2, 1) := by decide +kernel
theorem dX11_stone_8 : decode cX11_stone 8 = .ok (.invokevirtual 137, 3) := by decide +kernel
theorem dX11_stone_11 : decode cX11_stone 11 = .ok (.ifCond .ne 5, 3) := by decide +kernel
theorem dX11_stone_14 : decode cX11_stone 14 = .ok (.iconst (-1), 1) := by decide +kernel
theorem dX11_stone_15 : decode cX11_stone 15 = .ok (.ireturn, 1) := by decide +kernel
theorem dX11_stone_16 : decode cX11_stone 16 = .ok (.aload_n 0, 1) := by decide +kernel
theorem dX11_stone_17 : decode cX11_stone 17 = .ok (.getfield 80, 3) := by decide +kernel
theorem dX11_stone_20 : decode cX11_stone 20 = .ok (.iload_n 1, 1) := by decide +kernel
theorem dX11_stone_21 : decode cX11_stone 21 = .ok (.iaload, 1) := by decide +kernel
theorem dX11_stone_22 : decode cX11_stone 22 = .ok (.iload_n 2, 1) := by decide +kernel
theorem dX11_stone_23 : decode cX11_stone 23 = .ok (.invokestatic 108, 3) := by decide +kernel
theorem dX11_stone_26 : decode cX11_stone 26 = .ok (.ifCond .eq 17, 3) := by decide +kernel
theorem dX11_stone_29 : decode cX11_stone 29 = .ok (.aload_n 0, 1) := by decide +kernel
theorem dX11_stone_30 : decode cX11_stone 30 = .ok (.getfield 77, 3) := by decide +kernel
theorem dX11_stone_33 : decode cX11_stone 33 = .ok (.bipush 9, 2) := by decide +kernel
theorem dX11_stone_35 : decode cX11_stone 35 = .ok (.iload_n 1, 1) := by decide +kernel
theorem dX11_stone_36 : decode cX11_stone 36 = .ok (.imul, 1) := by decide +kernel
theorem dX11_stone_37 : decode cX11_stone 37 = .ok (.iload_n 2, 1) := by decide +kernel
theorem dX11_stone_38 : decode cX11_stone 38 = .ok (.iadd, 1) := by decide +kernel
theorem dX11_stone_39 : decode cX11_stone 39 = .ok (.iaload, 1) := by decide +kernel
theorem dX11_stone_40 : decode cX11_stone 40 = .ok (.goto 5, 3) := by decide +kernel
theorem dX11_stone_43 : decode cX11_stone 43 = .ok (.bipush (-2), 2) := by decide +kernel
theorem dX11_stone_45 : decode cX11_stone 45 = .ok (.ireturn, 1) := by decide +kernel
theorem dX11_touchBy_0 : decode cX11_touchBy 0 = .ok (.aload_n 0, 1) := by decide +kernel
theorem dX11_touchBy_1 : decode cX11_touchBy 1 = .ok (.getfield 80, 3) := by decide +kernel
theorem dX11_touchBy_4 : decode cX11_touchBy 4 = .ok (.iload_n 1, 1) := by decide +kernel
theorem dX11_touchBy_5 : decode cX11_touchBy 5 = .ok (.iload_n 3, 1) := by decide +kernel
theorem dX11_touchBy_6 : decode cX11_touchBy 6 = .ok (.ifCond .ge 18, 3) := by decide +kernel
theorem dX11_touchBy_9 : decode cX11_touchBy 9 = .ok (.aload_n 0, 1) := by decide +kernel
theorem dX11_touchBy_10 : decode cX11_touchBy 10 = .ok (.getfield 80, 3) := by decide +kernel
theorem dX11_touchBy_13 : decode cX11_touchBy 13 = .ok (.iload_n 1, 1) := by decide +kernel
theorem dX11_touchBy_14 : decode cX11_touchBy 14 = .ok (.iaload, 1) := by decide +kernel
theorem dX11_touchBy_15 : decode cX11_touchBy 15 = .ok (.iconst 1, 1) := by decide +kernel
theorem dX11_touchBy_16 : decode cX11_touchBy 16 = .ok (.iload_n 2, 1) := by decide +kernel
theorem dX11_touchBy_17 : decode cX11_touchBy 17 = .ok (.ishl, 1) := by decide +kernel
theorem dX11_touchBy_18 : decode cX11_touchBy 18 = .ok (.iconst (-1), 1) := by decide +kernel
theorem dX11_touchBy_19 : decode cX11_touchBy 19 = .ok (.ixor, 1) := by decide +kernel
theorem dX11_touchBy_20 : decode cX11_touchBy 20 = .ok (.iand, 1) := by decide +kernel
theorem dX11_touchBy_21 : decode cX11_touchBy 21 = .ok (.goto 13, 3) := by decide +kernel
theorem dX11_touchBy_24 : decode cX11_touchBy 24 = .ok (.aload_n 0, 1) := by decide +kernel
theorem dX11_touchBy_25 : decode cX11_touchBy 25 = .ok (.getfield 80, 3) := by decide +kernel
theorem dX11_touchBy_28 : decode cX11_touchBy 28 = .ok (.iload_n 1, 1) := by decide +kernel
theorem dX11_touchBy_29 : decode cX11_touchBy 29 = .ok (.iaload, 1) := by decide +kernel
theorem dX11_touchBy_30 : decode cX11_touchBy 30 = .ok (.iconst 1, 1) := by decide +kernel
theorem dX11_touchBy_31 : decode cX11_touchBy 31 = .ok (.iload_n 2, 1) := by decide +kernel
theorem dX11_touchBy_32 : decode cX11_touchBy 32 = .ok (.ishl, 1) := by decide +kernel
theorem dX11_touchBy_33 : decode cX11_touchBy 33 = .ok (.ior, 1) := by decide +kernel
theorem dX11_touchBy_34 : decode cX11_touchBy 34 = .ok (.iastore, 1) := by decide +kernel
theorem dX11_touchBy_35 : decode cX11_touchBy 35 = .ok (.aload_n 0, 1) := by decide +kernel
theorem dX11_touchBy_36 : decode cX11_touchBy 36 = .ok (.getfield 80, 3) := by decide +kernel
theorem dX11_touchBy_39 : decode cX11_touchBy 39 = .ok (.iload_n 2, 1) := by decide +kernel
theorem dX11_touchBy_40 : decode cX11_touchBy 40 = .ok (.iload_n 3, 1) := by decide +kernel
theorem dX11_touchBy_41 : decode cX11_touchBy 41 = .ok (.ifCond .ge 18, 3) := by decide +kernel
theorem dX11_touchBy_44 : decode cX11_touchBy 44 = .ok (.aload_n 0, 1) := by decide +kernel
theorem dX11_touchBy_45 : decode cX11_touchBy 45 = .ok (.getfield 80, 3) := by decide +kernel
theorem dX11_touchBy_48 : decode cX11_touchBy 48 = .ok (.iload_n 2, 1) := by decide +kernel
theorem dX11_touchBy_49 : decode cX11_touchBy 49 = .ok (.iaload, 1) := by decide +kernel
theorem dX11_touchBy_50 : decode cX11_touchBy 50 = .ok (.iconst 1, 1) := by decide +kernel
theorem dX11_touchBy_51 : decode cX11_touchBy 51 = .ok (.iload_n 1, 1) := by decide +kernel
theorem dX11_touchBy_52 : decode cX11_touchBy 52 = .ok (.ishl, 1) := by decide +kernel
theorem dX11_touchBy_53 : decode cX11_touchBy 53 = .ok (.iconst (-1), 1) := by decide +kernel
theorem dX11_touchBy_54 : decode cX11_touchBy 54 = .ok (.ixor, 1) := by decide +kernel
theorem dX11_touchBy_55 : decode cX11_touchBy 55 = .ok (.iand, 1) := by decide +kernel
theorem dX11_touchBy_56 : decode cX11_touchBy 56 = .ok (.goto 13, 3) := by decide +kernel
theorem dX11_touchBy_59 : decode cX11_touchBy 59 = .ok (.aload_n 0, 1) := by decide +kernel
theorem dX11_touchBy_60 : decode cX11_touchBy 60 = .ok (.getfield 80, 3) := by decide +kernel
theorem dX11_touchBy_63 : decode cX11_touchBy 63 = .ok (.iload_n 2, 1) := by decide +kernel
theorem dX11_touchBy_64 : decode cX11_touchBy 64 = .ok (.iaload, 1) := by decide +kernel
theorem dX11_touchBy_65 : decode cX11_touchBy 65 = .ok (.iconst 1, 1) := by decide +kernel
theorem dX11_touchBy_66 : decode cX11_touchBy 66 = .ok (.iload_n 1, 1) := by decide +kernel
theorem dX11_touchBy_67 : decode cX11_touchBy 67 = .ok (.ishl, 1) := by decide +kernel
theorem dX11_touchBy_68 : decode cX11_touchBy 68 = .ok (.ior, 1) := by decide +kernel
theorem dX11_touchBy_69 : decode cX11_touchBy 69 = .ok (.iastore, 1) := by decide +kernel
theorem dX11_touchBy_70 : decode cX11_touchBy 70 = .ok (.aload_n 0, 1) := by decide +kernel
theorem dX11_touchBy_71 : decode cX11_touchBy 71 = .ok (.getfield 77, 3) := by decide +kernel
theorem dX11_touchBy_74 : decode cX11_touchBy 74 = .ok (.bipush 9, 2) := by decide +kernel
theorem dX11_touchBy_76 : decode cX11_touchBy 76 = .ok (.iload_n 1, 1) := by decide +kernel
theorem dX11_touchBy_77 : decode cX11_touchBy 77 = .ok (.imul, 1) := by decide +kernel
theorem dX11_touchBy_78 : decode cX11_touchBy 78 = .ok (.iload_n 2, 1) := by decide +kernel
theorem dX11_touchBy_79 : decode cX11_touchBy 79 = .ok (.iadd, 1) := by decide +kernel
theorem dX11_touchBy_80 : decode cX11_touchBy 80 = .ok (.iconst 0, 1) := by decide +kernel
theorem dX11_touchBy_81 : decode cX11_touchBy 81 = .ok (.iload_n 3, 1) := by decide +kernel
theorem dX11_touchBy_82 : decode cX11_touchBy 82 = .ok (.invokestatic 140, 3) := by decide +kernel
theorem dX11_touchBy_85 : decode cX11_touchBy 85 = .ok (.iastore, 1) := by decide +kernel
theorem dX11_touchBy_86 : decode cX11_touchBy 86 = .ok (.aload_n 0, 1) := by decide +kernel
theorem dX11_touchBy_87 : decode cX11_touchBy 87 = .ok (.getfield 77, 3) := by decide +kernel
theorem dX11_touchBy_90 : decode cX11_touchBy 90 = .ok (.bipush 9, 2) := by decide +kernel
theorem dX11_touchBy_92 : decode cX11_touchBy 92 = .ok (.iload_n 2, 1) := by decide +kernel
theorem dX11_touchBy_93 : decode cX11_touchBy 93 = .ok (.imul, 1) := by decide +kernel
theorem dX11_touchBy_94 : decode cX11_touchBy 94 = .ok (.iload_n 1, 1) := by decide +kernel
theorem dX11_touchBy_95 : decode cX11_touchBy 95 = .ok (.iadd, 1) := by decide +kernel
theorem dX11_touchBy_96 : decode cX11_touchBy 96 = .ok (.iconst 0, 1) := by decide +kernel
theorem dX11_touchBy_97 : decode cX11_touchBy 97 = .ok (.iload_n 3, 1) := by decide +kernel
theorem dX11_touchBy_98 : decode cX11_touchBy 98 = .ok (.invokestatic 140, 3) := by decide +kernel
theorem dX11_touchBy_101 : decode cX11_touchBy 101 = .ok (.iastore, 1) := by decide +kernel
theorem dX11_touchBy_102 : decode cX11_touchBy 102 = .ok (.return_, 1) := by decide +kernel
theorem dX11_touch_0 : decode cX11_touch 0 = .ok (.aload_n 0, 1) := by decide +kernel
theorem dX11_touch_1 : decode cX11_touch 1 = .ok (.iconst 0, 1) := by decide +kernel
theorem dX11_touch_2 : decode cX11_touch 2 = .ok (.putfield 3, 3) := by decide +kernel
theorem dX11_touch_5 : decode cX11_touch 5 = .ok (.aload_n 0, 1) := by decide +kernel
theorem dX11_touch_6 : decode cX11_touch 6 = .ok (.iload_n 1, 1) := by decide +kernel
theorem dX11_touch_7 : decode cX11_touch 7 = .ok (.iload_n 2, 1) := by decide +kernel
theorem dX11_touch_8 : decode cX11_touch 8 = .ok (.invokevirtual 137, 3) := by decide +kernel
theorem dX11_touch_11 : decode cX11_touch 11 = .ok (.ifCond .eq 17, 3) := by decide +kernel
theorem dX11_touch_14 : decode cX11_touch 14 = .ok (.iload_n 3, 1) := by decide +kernel
theorem dX11_touch_15 : decode cX11_touch 15 = .ok (.i2l, 1) := by decide +kernel
theorem dX11_touch_16 : decode cX11_touch 16 = .ok (.ldc2_w 143, 3) := by decide +kernel
theorem dX11_touch_19 : decode cX11_touch 19 = .ok (.ldc2_w 145, 3) := by decide +kernel
theorem dX11_touch_22 : decode cX11_touch 22 = .ok (.invokestatic 17, 3) := by decide +kernel
theorem dX11_touch_25 : decode cX11_touch 25 = .ok (.ifCond .ne 5, 3) := by decide +kernel
theorem dX11_touch_28 : decode cX11_touch 28 = .ok (.iconst 0, 1) := by decide +kernel
theorem dX11_touch_29 : decode cX11_touch 29 = .ok (.ireturn, 1) := by decide +kernel
theorem dX11_touch_30 : decode cX11_touch 30 = .ok (.aload_n 0, 1) := by decide +kernel
theorem dX11_touch_31 : decode cX11_touch 31 = .ok (.iload_n 1, 1) := by decide +kernel
theorem dX11_touch_32 : decode cX11_touch 32 = .ok (.iload_n 2, 1) := by decide +kernel
theorem dX11_touch_33 : decode cX11_touch 33 = .ok (.iload_n 3, 1) := by decide +kernel
theorem dX11_touch_34 : decode cX11_touch 34 = .ok (.invokevirtual 147, 3) := by decide +kernel
theorem dX11_touch_37 : decode cX11_touch 37 = .ok (.iconst 1, 1) := by decide +kernel
theorem dX11_touch_38 : decode cX11_touch 38 = .ok (.ireturn, 1) := by decide +kernel
theorem dX11_law_0 : decode cX11_law 0 = .ok (.aload_n 0, 1) := by decide +kernel
theorem dX11_law_1 : decode cX11_law 1 = .ok (.iconst 0, 1) := by decide +kernel
theorem dX11_law_2 : decode cX11_law 2 = .ok (.putfield 3, 3) := by decide +kernel
theorem dX11_law_5 : decode cX11_law 5 = .ok (.iload_n 1, 1) := by decide +kernel
theorem dX11_law_6 : decode cX11_law 6 = .ok (.i2l, 1) := by decide +kernel
theorem dX11_law_7 : decode cX11_law 7 = .ok (.lconst 0, 1) := by decide +kernel
theorem dX11_law_8 : decode cX11_law 8 = .ok (.ldc2_w 151, 3) := by decide +kernel
theorem dX11_law_11 : decode cX11_law 11 = .ok (.invokestatic 17, 3) := by decide +kernel
theorem dX11_law_14 : decode cX11_law 14 = .ok (.ifCond .eq 24, 3) := by decide +kernel
theorem dX11_law_17 : decode cX11_law 17 = .ok (.iload_n 2, 1) := by decide +kernel
theorem dX11_law_18 : decode cX11_law 18 = .ok (.i2l, 1) := by decide +kernel
theorem dX11_law_19 : decode cX11_law 19 = .ok (.iload_n 1, 1) := by decide +kernel
theorem dX11_law_20 : decode cX11_law 20 = .ok (.iconst 1, 1) := by decide +kernel
theorem dX11_law_21 : decode cX11_law 21 = .ok (.if_icmp .ne 7, 3) := by decide +kernel
theorem dX11_law_24 : decode cX11_law 24 = .ok (.lconst 0, 1) := by decide +kernel
theorem dX11_law_25 : decode cX11_law 25 = .ok (.goto 4, 3) := by decide +kernel
theorem dX11_law_28 : decode cX11_law 28 = .ok (.lconst 1, 1) := by decide +kernel
theorem dX11_law_29 : decode cX11_law 29 = .ok (.ldc2_w 145, 3) := by decide +kernel
theorem dX11_law_32 : decode cX11_law 32 = .ok (.invokestatic 17, 3) := by decide +kernel
theorem dX11_law_35 : decode cX11_law 35 = .ok (.ifCond .ne 5, 3) := by decide +kernel
theorem dX11_law_38 : decode cX11_law 38 = .ok (.iconst (-1), 1) := by decide +kernel
theorem dX11_law_39 : decode cX11_law 39 = .ok (.ireturn, 1) := by decide +kernel
theorem dX11_law_40 : decode cX11_law 40 = .ok (.aload_n 0, 1) := by decide +kernel
theorem dX11_law_41 : decode cX11_law 41 = .ok (.getfield 115, 3) := by decide +kernel
theorem dX11_law_44 : decode cX11_law 44 = .ok (.iload_n 1, 1) := by decide +kernel
theorem dX11_law_45 : decode cX11_law 45 = .ok (.iaload, 1) := by decide +kernel
theorem dX11_law_46 : decode cX11_law 46 = .ok (.istore_n 3, 1) := by decide +kernel
theorem dX11_law_47 : decode cX11_law 47 = .ok (.aload_n 0, 1) := by decide +kernel
theorem dX11_law_48 : decode cX11_law 48 = .ok (.getfield 115, 3) := by decide +kernel
theorem dX11_law_51 : decode cX11_law 51 = .ok (.iload_n 1, 1) := by decide +kernel
theorem dX11_law_52 : decode cX11_law 52 = .ok (.iload_n 2, 1) := by decide +kernel
theorem dX11_law_53 : decode cX11_law 53 = .ok (.iastore, 1) := by decide +kernel
theorem dX11_law_54 : decode cX11_law 54 = .ok (.iload_n 3, 1) := by decide +kernel
theorem dX11_law_55 : decode cX11_law 55 = .ok (.ireturn, 1) := by decide +kernel
theorem dX11_set_0 : decode cX11_set 0 = .ok (.aload_n 0, 1) := by decide +kernel
theorem dX11_set_1 : decode cX11_set 1 = .ok (.iconst 0, 1) := by decide +kernel
theorem dX11_set_2 : decode cX11_set 2 = .ok (.putfield 3, 3) := by decide +kernel
theorem dX11_set_5 : decode cX11_set 5 = .ok (.iload_n 1, 1) := by decide +kernel
theorem dX11_set_6 : decode cX11_set 6 = .ok (.i2l, 1) := by decide +kernel
theorem dX11_set_7 : decode cX11_set 7 = .ok (.lconst 0, 1) := by decide +kernel
theorem dX11_set_8 : decode cX11_set 8 = .ok (.lconst 1, 1) := by decide +kernel
theorem dX11_set_9 : decode cX11_set 9 = .ok (.invokestatic 17, 3) := by decide +kernel
theorem dX11_set_12 : decode cX11_set 12 = .ok (.ifCond .eq 33, 3) := by decide +kernel
theorem dX11_set_15 : decode cX11_set 15 = .ok (.aload_n 0, 1) := by decide +kernel
theorem dX11_set_16 : decode cX11_set 16 = .ok (.iload_n 2, 1) := by decide +kernel
theorem dX11_set_17 : decode cX11_set 17 = .ok (.invokevirtual 21, 3) := by decide +kernel
theorem dX11_set_20 : decode cX11_set 20 = .ok (.ifCond .eq 25, 3) := by decide +kernel
theorem dX11_set_23 : decode cX11_set 23 = .ok (.iload_n 3, 1) := by decide +kernel
theorem dX11_set_24 : decode cX11_set 24 = .ok (.i2l, 1) := by decide +kernel
theorem dX11_set_25 : decode cX11_set 25 = .ok (.lconst 0, 1) := by decide +kernel
theorem dX11_set_26 : decode cX11_set 26 = .ok (.iload_n 1, 1) := by decide +kernel
theorem dX11_set_27 : decode cX11_set 27 = .ok (.ifCond .ne 9, 3) := by decide +kernel
theorem dX11_set_30 : decode cX11_set 30 = .ok (.ldc2_w 153, 3) := by decide +kernel
theorem dX11_set_33 : decode cX11_set 33 = .ok (.goto 6, 3) := by decide +kernel
theorem dX11_set_36 : decode cX11_set 36 = .ok (.ldc2_w 145, 3) := by decide +kernel
theorem dX11_set_39 : decode cX11_set 39 = .ok (.invokestatic 17, 3) := by decide +kernel
theorem dX11_set_42 : decode cX11_set 42 = .ok (.ifCond .ne 5, 3) := by decide +kernel
theorem dX11_set_45 : decode cX11_set 45 = .ok (.iconst (-1), 1) := by decide +kernel
theorem dX11_set_46 : decode cX11_set 46 = .ok (.ireturn, 1) := by decide +kernel
theorem dX11_set_47 : decode cX11_set 47 = .ok (.iload_n 1, 1) := by decide +kernel
theorem dX11_set_48 : decode cX11_set 48 = .ok (.ifCond .ne 10, 3) := by decide +kernel
theorem dX11_set_51 : decode cX11_set 51 = .ok (.aload_n 0, 1) := by decide +kernel
theorem dX11_set_52 : decode cX11_set 52 = .ok (.getfield 96, 3) := by decide +kernel
theorem dX11_set_55 : decode cX11_set 55 = .ok (.goto 7, 3) := by decide +kernel
theorem dX11_set_58 : decode cX11_set 58 = .ok (.aload_n 0, 1) := by decide +kernel
theorem dX11_set_59 : decode cX11_set 59 = .ok (.getfield 99, 3) := by decide +kernel
theorem dX11_set_62 : decode cX11_set 62 = .ok (.astore 4, 2) := by decide +kernel
theorem dX11_set_64 : decode cX11_set 64 = .ok (.aload 4, 2) := by decide +kernel
theorem dX11_set_66 : decode cX11_set 66 = .ok (.iload_n 2, 1) := by decide +kernel
theorem dX11_set_67 : decode cX11_set 67 = .ok (.iaload, 1) := by decide +kernel
theorem dX11_set_68 : decode cX11_set 68 = .ok (.istore 5, 2) := by decide +kernel
theorem dX11_set_70 : decode cX11_set 70 = .ok (.aload 4, 2) := by decide +kernel
theorem dX11_set_72 : decode cX11_set 72 = .ok (.iload_n 2, 1) := by decide +kernel
theorem dX11_set_73 : decode cX11_set 73 = .ok (.iload_n 3, 1) := by decide +kernel
theorem dX11_set_74 : decode cX11_set 74 = .ok (.iastore, 1) := by decide +kernel
theorem dX11_set_75 : decode cX11_set 75 = .ok (.iload 5, 2) := by decide +kernel
theorem dX11_set_77 : decode cX11_set 77 = .ok (.ireturn, 1) := by decide +kernel
theorem dX11_sheet_0 : decode cX11_sheet 0 = .ok (.aload_n 0, 1) := by decide +kernel
theorem dX11_sheet_1 : decode cX11_sheet 1 = .ok (.iconst 0, 1) := by decide +kernel
theorem dX11_sheet_2 : decode cX11_sheet 2 = .ok (.putfield 3, 3) := by decide +kernel
theorem dX11_sheet_5 : decode cX11_sheet 5 = .ok (.iload_n 1, 1) := by decide +kernel
theorem dX11_sheet_6 : decode cX11_sheet 6 = .ok (.i2l, 1) := by decide +kernel
theorem dX11_sheet_7 : decode cX11_sheet 7 = .ok (.lconst 0, 1) := by decide +kernel
theorem dX11_sheet_8 : decode cX11_sheet 8 = .ok (.ldc2_w 155, 3) := by decide +kernel
theorem dX11_sheet_11 : decode cX11_sheet 11 = .ok (.invokestatic 17, 3) := by decide +kernel
theorem dX11_sheet_14 : decode cX11_sheet 14 = .ok (.ifCond .eq 9, 3) := by decide +kernel
theorem dX11_sheet_17 : decode cX11_sheet 17 = .ok (.iload_n 2, 1) := by decide +kernel
theorem dX11_sheet_18 : decode cX11_sheet 18 = .ok (.bipush 9, 2) := by decide +kernel
theorem dX11_sheet_20 : decode cX11_sheet 20 = .ok (.if_icmp .le 5, 3) := by decide +kernel
theorem dX11_sheet_23 : decode cX11_sheet 23 = .ok (.iconst (-1), 1) := by decide +kernel
theorem dX11_sheet_24 : decode cX11_sheet 24 = .ok (.ireturn, 1) := by decide +kernel
theorem dX11_sheet_25 : decode cX11_sheet 25 = .ok (.iload_n 1, 1) := by decide +kernel
theorem dX11_sheet_26 : decode cX11_sheet 26 = .ok (.iconst 3, 1) := by decide +kernel
theorem dX11_sheet_27 : decode cX11_sheet 27 = .ok (.if_icmp .eq 10, 3) := by decide +kernel
theorem dX11_sheet_30 : decode cX11_sheet 30 = .ok (.iload_n 2, 1) := by decide +kernel
theorem dX11_sheet_31 : decode cX11_sheet 31 = .ok (.ifCond .ge 6, 3) := by decide +kernel
theorem dX11_sheet_34 : decode cX11_sheet 34 = .ok (.bipush (-2), 2) := by decide +kernel
theorem dX11_sheet_36 : decode cX11_sheet 36 = .ok (.ireturn, 1) := by decide +kernel
theorem dX11_sheet_37 : decode cX11_sheet 37 = .ok (.iconst 0, 1) := by decide +kernel
theorem dX11_sheet_38 : decode cX11_sheet 38 = .ok (.istore 5, 2) := by decide +kernel
theorem dX11_sheet_40 : decode cX11_sheet 40 = .ok (.iload_n 3, 1) := by decide +kernel
theorem dX11_sheet_41 : decode cX11_sheet 41 = .ok (.istore 6, 2) := by decide +kernel
theorem dX11_sheet_43 : decode cX11_sheet 43 = .ok (.iconst 0, 1) := by decide +kernel
theorem dX11_sheet_44 : decode cX11_sheet 44 = .ok (.istore 7, 2) := by decide +kernel
theorem dX11_sheet_46 : decode cX11_sheet 46 = .ok (.iload 7, 2) := by decide +kernel
theorem dX11_sheet_48 : decode cX11_sheet 48 = .ok (.aload_n 0, 1) := by decide +kernel
theorem dX11_sheet_49 : decode cX11_sheet 49 = .ok (.getfield 14, 3) := by decide +kernel
theorem dX11_sheet_52 : decode cX11_sheet 52 = .ok (.if_icmp .ge 86, 3) := by decide +kernel
theorem dX11_sheet_55 : decode cX11_sheet 55 = .ok (.iload_n 1, 1) := by decide +kernel
theorem dX11_sheet_56 : decode cX11_sheet 56 = .ok (.ifCond .ne 9, 3) := by decide +kernel
theorem dX11_sheet_59 : decode cX11_sheet 59 = .ok (.iload 6, 2) := by decide +kernel
theorem dX11_sheet_61 : decode cX11_sheet 61 = .ok (.i2b, 1) := by decide +kernel
theorem dX11_sheet_62 : decode cX11_sheet 62 = .ok (.goto 16, 3) := by decide +kernel
theorem dX11_sheet_65 : decode cX11_sheet 65 = .ok (.iload_n 1, 1) := by decide +kernel
theorem dX11_sheet_66 : decode cX11_sheet 66 = .ok (.iconst 1, 1) := by decide +kernel
theorem dX11_sheet_67 : decode cX11_sheet 67 = .ok (.if_icmp .ne 9, 3) := by decide +kernel
theorem dX11_sheet_70 : decode cX11_sheet 70 = .ok (.iload 6, 2) := by decide +kernel
theorem dX11_sheet_72 : decode cX11_sheet 72 = .ok (.i2s, 1) := by decide +kernel
theorem dX11_sheet_73 : decode cX11_sheet 73 = .ok (.goto 5, 3) := by decide +kernel
theorem dX11_sheet_76 : decode cX11_sheet 76 = .ok (.iload 6, 2) := by decide +kernel
theorem dX11_sheet_78 : decode cX11_sheet 78 = .ok (.istore 8, 2) := by decide +kernel
theorem dX11_sheet_80 : decode cX11_sheet 80 = .ok (.aload_n 0, 1) := by decide +kernel
theorem dX11_sheet_81 : decode cX11_sheet 81 = .ok (.getfield 96, 3) := by decide +kernel
theorem dX11_sheet_84 : decode cX11_sheet 84 = .ok (.iload 7, 2) := by decide +kernel
theorem dX11_sheet_86 : decode cX11_sheet 86 = .ok (.iload_n 1, 1) := by decide +kernel
theorem dX11_sheet_87 : decode cX11_sheet 87 = .ok (.iconst 3, 1) := by decide +kernel
theorem dX11_sheet_88 : decode cX11_sheet 88 = .ok (.if_icmp .eq 9, 3) := by decide +kernel
theorem dX11_sheet_91 : decode cX11_sheet 91 = .ok (.iload 7, 2) := by decide +kernel
theorem dX11_sheet_93 : decode cX11_sheet 93 = .ok (.iload_n 2, 1) := by decide +kernel
theorem dX11_sheet_94 : decode cX11_sheet 94 = .ok (.if_icmp .lt 7, 3) := by decide +kernel
theorem dX11_sheet_97 : decode cX11_sheet 97 = .ok (.iconst 0, 1) := by decide +kernel
theorem dX11_sheet_98 : decode cX11_sheet 98 = .ok (.goto 14, 3) := by decide +kernel
theorem dX11_sheet_101 : decode cX11_sheet 101 = .ok (.iconst 0, 1) := by decide +kernel
theorem dX11_sheet_102 : decode cX11_sheet 102 = .ok (.bipush 99, 2) := by decide +kernel
theorem dX11_sheet_104 : decode cX11_sheet 104 = .ok (.iload 8, 2) := by decide +kernel
theorem dX11_sheet_106 : decode cX11_sheet 106 = .ok (.invokestatic 34, 3) := by decide +kernel
theorem dX11_sheet_109 : decode cX11_sheet 109 = .ok (.invokestatic 140, 3) := by decide +kernel
theorem dX11_sheet_112 : decode cX11_sheet 112 = .ok (.iastore, 1) := by decide +kernel
theorem dX11_sheet_113 : decode cX11_sheet 113 = .ok (.iload 5, 2) := by decide +kernel
theorem dX11_sheet_115 : decode cX11_sheet 115 = .ok (.aload_n 0, 1) := by decide +kernel
theorem dX11_sheet_116 : decode cX11_sheet 116 = .ok (.getfield 96, 3) := by decide +kernel
theorem dX11_sheet_119 : decode cX11_sheet 119 = .ok (.iload 7, 2) := by decide +kernel
theorem dX11_sheet_121 : decode cX11_sheet 121 = .ok (.iaload, 1) := by decide +kernel
theorem dX11_sheet_122 : decode cX11_sheet 122 = .ok (.iadd, 1) := by decide +kernel
theorem dX11_sheet_123 : decode cX11_sheet 123 = .ok (.istore 5, 2) := by decide +kernel
theorem dX11_sheet_125 : decode cX11_sheet 125 = .ok (.iload 6, 2) := by decide +kernel
theorem dX11_sheet_127 : decode cX11_sheet 127 = .ok (.iload 4, 2) := by decide +kernel
theorem dX11_sheet_129 : decode cX11_sheet 129 = .ok (.iadd, 1) := by decide +kernel
theorem dX11_sheet_130 : decode cX11_sheet 130 = .ok (.istore 6, 2) := by decide +kernel
theorem dX11_sheet_132 : decode cX11_sheet 132 = .ok (.iinc 7 1, 3) := by decide +kernel
theorem dX11_sheet_135 : decode cX11_sheet 135 = .ok (.goto (-89), 3) := by decide +kernel
theorem dX11_sheet_138 : decode cX11_sheet 138 = .ok (.iload_n 1, 1) := by decide +kernel
theorem dX11_sheet_139 : decode cX11_sheet 139 = .ok (.iconst 3, 1) := by decide +kernel
theorem dX11_sheet_140 : decode cX11_sheet 140 = .ok (.if_icmp .ne 8, 3) := by decide +kernel
theorem dX11_sheet_143 : decode cX11_sheet 143 = .ok (.bipush (-3), 2) := by decide +kernel
theorem dX11_sheet_145 : decode cX11_sheet 145 = .ok (.goto 5, 3) := by decide +kernel
theorem dX11_sheet_148 : decode cX11_sheet 148 = .ok (.iload 5, 2) := by decide +kernel
theorem dX11_sheet_150 : decode cX11_sheet 150 = .ok (.ireturn, 1) := by decide +kernel
theorem dX11_putsDown_0 : decode cX11_putsDown 0 = .ok (.iconst 0, 1) := by decide +kernel
theorem dX11_putsDown_1 : decode cX11_putsDown 1 = .ok (.istore_n 2, 1) := by decide +kernel
theorem dX11_putsDown_2 : decode cX11_putsDown 2 = .ok (.iload_n 2, 1) := by decide +kernel
theorem dX11_putsDown_3 : decode cX11_putsDown 3 = .ok (.bipush 9, 2) := by decide +kernel
theorem dX11_putsDown_5 : decode cX11_putsDown 5 = .ok (.if_icmp .ge 46, 3) := by decide +kernel
theorem dX11_putsDown_8 : decode cX11_putsDown 8 = .ok (.aload_n 0, 1) := by decide +kernel
theorem dX11_putsDown_9 : decode cX11_putsDown 9 = .ok (.getfield 157, 3) := by decide +kernel
theorem dX11_putsDown_12 : decode cX11_putsDown 12 = .ok (.bipush 19, 2) := by decide +kernel
theorem dX11_putsDown_14 : decode cX11_putsDown 14 = .ok (.iload_n 1, 1) := by decide +kernel
theorem dX11_putsDown_15 : decode cX11_putsDown 15 = .ok (.imul, 1) := by decide +kernel
theorem dX11_putsDown_16 : decode cX11_putsDown 16 = .ok (.iload_n 2, 1) := by decide +kernel
theorem dX11_putsDown_17 : decode cX11_putsDown 17 = .ok (.iadd, 1) := by decide +kernel
theorem dX11_putsDown_18 : decode cX11_putsDown 18 = .ok (.aload_n 0, 1) := by decide +kernel
theorem dX11_putsDown_19 : decode cX11_putsDown 19 = .ok (.getfield 96, 3) := by decide +kernel
theorem dX11_putsDown_22 : decode cX11_putsDown 22 = .ok (.iload_n 2, 1) := by decide +kernel
theorem dX11_putsDown_23 : decode cX11_putsDown 23 = .ok (.iaload, 1) := by decide +kernel
theorem dX11_putsDown_24 : decode cX11_putsDown 24 = .ok (.iastore, 1) := by decide +kernel
theorem dX11_putsDown_25 : decode cX11_putsDown 25 = .ok (.aload_n 0, 1) := by decide +kernel
theorem dX11_putsDown_26 : decode cX11_putsDown 26 = .ok (.getfield 157, 3) := by decide +kernel
theorem dX11_putsDown_29 : decode cX11_putsDown 29 = .ok (.bipush 19, 2) := by decide +kernel
theorem dX11_putsDown_31 : decode cX11_putsDown 31 = .ok (.iload_n 1, 1) := by decide +kernel
theorem dX11_putsDown_32 : decode cX11_putsDown 32 = .ok (.imul, 1) := by decide +kernel
theorem dX11_putsDown_33 : decode cX11_putsDown 33 = .ok (.bipush 9, 2) := by decide +kernel
theorem dX11_putsDown_35 : decode cX11_putsDown 35 = .ok (.iadd, 1) := by decide +kernel
theorem dX11_putsDown_36 : decode cX11_putsDown 36 = .ok (.iload_n 2, 1) := by decide +kernel
theorem dX11_putsDown_37 : decode cX11_putsDown 37 = .ok (.iadd, 1) := by decide +kernel
theorem dX11_putsDown_38 : decode cX11_putsDown 38 = .ok (.aload_n 0, 1) := by decide +kernel
theorem dX11_putsDown_39 : decode cX11_putsDown 39 = .ok (.getfield 102, 3) := by decide +kernel
theorem dX11_putsDown_42 : decode cX11_putsDown 42 = .ok (.iload_n 2, 1) := by decide +kernel
theorem dX11_putsDown_43 : decode cX11_putsDown 43 = .ok (.iaload, 1) := by decide +kernel
theorem dX11_putsDown_44 : decode cX11_putsDown 44 = .ok (.iastore, 1) := by decide +kernel
theorem dX11_putsDown_45 : decode cX11_putsDown 45 = .ok (.iinc 2 1, 3) := by decide +kernel
theorem dX11_putsDown_48 : decode cX11_putsDown 48 = .ok (.goto (-46), 3) := by decide +kernel
theorem dX11_putsDown_51 : decode cX11_putsDown 51 = .ok (.aload_n 0, 1) := by decide +kernel
theorem dX11_putsDown_52 : decode cX11_putsDown 52 = .ok (.getfield 157, 3) := by decide +kernel
theorem dX11_putsDown_55 : decode cX11_putsDown 55 = .ok (.bipush 19, 2) := by decide +kernel
theorem dX11_putsDown_57 : decode cX11_putsDown 57 = .ok (.iload_n 1, 1) := by decide +kernel
theorem dX11_putsDown_58 : decode cX11_putsDown 58 = .ok (.imul, 1) := by decide +kernel
theorem dX11_putsDown_59 : decode cX11_putsDown 59 = .ok (.bipush 18, 2) := by decide +kernel
theorem dX11_putsDown_61 : decode cX11_putsDown 61 = .ok (.iadd, 1) := by decide +kernel
theorem dX11_putsDown_62 : decode cX11_putsDown 62 = .ok (.aload_n 0, 1) := by decide +kernel
theorem dX11_putsDown_63 : decode cX11_putsDown 63 = .ok (.getfield 160, 3) := by decide +kernel
theorem dX11_putsDown_66 : decode cX11_putsDown 66 = .ok (.iastore, 1) := by decide +kernel
theorem dX11_putsDown_67 : decode cX11_putsDown 67 = .ok (.return_, 1) := by decide +kernel
theorem dX11_putsBy_0 : decode cX11_putsBy 0 = .ok (.aload_n 0, 1) := by decide +kernel
