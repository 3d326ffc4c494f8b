theorem dX0_init_0 : decode cX0_init 0 = .ok (.aload_n 0, 1) := by decide +kernel
theorem dX0_init_1 : decode cX0_init 1 = .ok (.invokespecial 3, 3) := by decide +kernel
theorem dX0_init_4 : decode cX0_init 4 = .ok (.aload_n 0, 1) := by decide +kernel
theorem dX0_init_5 : decode cX0_init 5 = .ok (.bipush 9, 2) := by decide +kernel
theorem dX0_init_7 : decode cX0_init 7 = .ok (.newarray .int, 2) := by decide +kernel
theorem dX0_init_9 : decode cX0_init 9 = .ok (.putfield 9, 3) := by decide +kernel
theorem dX0_init_12 : decode cX0_init 12 = .ok (.aload_n 0, 1) := by decide +kernel
theorem dX0_init_13 : decode cX0_init 13 = .ok (.bipush 9, 2) := by decide +kernel
theorem dX0_init_15 : decode cX0_init 15 = .ok (.newarray .int, 2) := by decide +kernel
theorem dX0_init_17 : decode cX0_init 17 = .ok (.putfield 15, 3) := by decide +kernel
theorem dX0_init_20 : decode cX0_init 20 = .ok (.aload_n 0, 1) := by decide +kernel
theorem dX0_init_21 : decode cX0_init 21 = .ok (.bipush 9, 2) := by decide +kernel
theorem dX0_init_23 : decode cX0_init 23 = .ok (.newarray .int, 2) := by decide +kernel
theorem dX0_init_25 : decode cX0_init 25 = .ok (.putfield 18, 3) := by decide +kernel
theorem dX0_init_28 : decode cX0_init 28 = .ok (.aload_n 0, 1) := by decide +kernel
theorem dX0_init_29 : decode cX0_init 29 = .ok (.bipush 36, 2) := by decide +kernel
theorem dX0_init_31 : decode cX0_init 31 = .ok (.newarray .int, 2) := by decide +kernel
theorem dX0_init_33 : decode cX0_init 33 = .ok (.putfield 21, 3) := by decide +kernel
theorem dX0_init_36 : decode cX0_init 36 = .ok (.aload_n 0, 1) := by decide +kernel
theorem dX0_init_37 : decode cX0_init 37 = .ok (.bipush 36, 2) := by decide +kernel
theorem dX0_init_39 : decode cX0_init 39 = .ok (.newarray .int, 2) := by decide +kernel
theorem dX0_init_41 : decode cX0_init 41 = .ok (.putfield 24, 3) := by decide +kernel
theorem dX0_init_44 : decode cX0_init 44 = .ok (.aload_n 0, 1) := by decide +kernel
theorem dX0_init_45 : decode cX0_init 45 = .ok (.bipush 36, 2) := by decide +kernel
theorem dX0_init_47 : decode cX0_init 47 = .ok (.newarray .int, 2) := by decide +kernel
theorem dX0_init_49 : decode cX0_init 49 = .ok (.putfield 27, 3) := by decide +kernel
theorem dX0_init_52 : decode cX0_init 52 = .ok (.aload_n 0, 1) := by decide +kernel
theorem dX0_init_53 : decode cX0_init 53 = .ok (.iconst 0, 1) := by decide +kernel
theorem dX0_init_54 : decode cX0_init 54 = .ok (.putfield 30, 3) := by decide +kernel
theorem dX0_init_57 : decode cX0_init 57 = .ok (.aload_n 0, 1) := by decide +kernel
theorem dX0_init_58 : decode cX0_init 58 = .ok (.iconst 0, 1) := by decide +kernel
theorem dX0_init_59 : decode cX0_init 59 = .ok (.putfield 34, 3) := by decide +kernel
theorem dX0_init_62 : decode cX0_init 62 = .ok (.aload_n 0, 1) := by decide +kernel
theorem dX0_init_63 : decode cX0_init 63 = .ok (.iconst 0, 1) := by decide +kernel
theorem dX0_init_64 : decode cX0_init 64 = .ok (.putfield 37, 3) := by decide +kernel
theorem dX0_init_67 : decode cX0_init 67 = .ok (.aload_n 0, 1) := by decide +kernel
theorem dX0_init_68 : decode cX0_init 68 = .ok (.bipush 9, 2) := by decide +kernel
theorem dX0_init_70 : decode cX0_init 70 = .ok (.newarray .int, 2) := by decide +kernel
theorem dX0_init_72 : decode cX0_init 72 = .ok (.putfield 41, 3) := by decide +kernel
theorem dX0_init_75 : decode cX0_init 75 = .ok (.aload_n 0, 1) := by decide +kernel
theorem dX0_init_76 : decode cX0_init 76 = .ok (.bipush 36, 2) := by decide +kernel
theorem dX0_init_78 : decode cX0_init 78 = .ok (.newarray .int, 2) := by decide +kernel
theorem dX0_init_80 : decode cX0_init 80 = .ok (.putfield 44, 3) := by decide +kernel
theorem dX0_init_83 : decode cX0_init 83 = .ok (.aload_n 0, 1) := by decide +kernel
theorem dX0_init_84 : decode cX0_init 84 = .ok (.bipush 9, 2) := by decide +kernel
theorem dX0_init_86 : decode cX0_init 86 = .ok (.newarray .int, 2) := by decide +kernel
theorem dX0_init_88 : decode cX0_init 88 = .ok (.putfield 47, 3) := by decide +kernel
theorem dX0_init_91 : decode cX0_init 91 = .ok (.aload_n 0, 1) := by decide +kernel
theorem dX0_init_92 : decode cX0_init 92 = .ok (.iconst 0, 1) := by decide +kernel
theorem dX0_init_93 : decode cX0_init 93 = .ok (.putfield 50, 3) := by decide +kernel
theorem dX0_init_96 : decode cX0_init 96 = .ok (.aload_n 0, 1) := by decide +kernel
theorem dX0_init_97 : decode cX0_init 97 = .ok (.iconst 1, 1) := by decide +kernel
theorem dX0_init_98 : decode cX0_init 98 = .ok (.putfield 53, 3) := by decide +kernel
theorem dX0_init_101 : decode cX0_init 101 = .ok (.return_, 1) := by decide +kernel
theorem dX0_look_0 : decode cX0_look 0 = .ok (.aload_n 0, 1) := by decide +kernel
theorem dX0_look_1 : decode cX0_look 1 = .ok (.aload_n 1, 1) := by decide +kernel
theorem dX0_look_2 : decode cX0_look 2 = .ok (.getfield 56, 3) := by decide +kernel
theorem dX0_look_5 : decode cX0_look 5 = .ok (.putfield 50, 3) := by decide +kernel
theorem dX0_look_8 : decode cX0_look 8 = .ok (.aload_n 0, 1) := by decide +kernel
theorem dX0_look_9 : decode cX0_look 9 = .ok (.aload_n 1, 1) := by decide +kernel
theorem dX0_look_10 : decode cX0_look 10 = .ok (.getfield 59, 3) := by decide +kernel
theorem dX0_look_13 : decode cX0_look 13 = .ok (.iconst 0, 1) := by decide +kernel
theorem dX0_look_14 : decode cX0_look 14 = .ok (.iaload, 1) := by decide +kernel
theorem dX0_look_15 : decode cX0_look 15 = .ok (.putfield 53, 3) := by decide +kernel
theorem dX0_look_18 : decode cX0_look 18 = .ok (.aload_n 1, 1) := by decide +kernel
theorem dX0_look_19 : decode cX0_look 19 = .ok (.getfield 62, 3) := by decide +kernel
theorem dX0_look_22 : decode cX0_look 22 = .ok (.iconst 0, 1) := by decide +kernel
theorem dX0_look_23 : decode cX0_look 23 = .ok (.aload_n 0, 1) := by decide +kernel
theorem dX0_look_24 : decode cX0_look 24 = .ok (.getfield 15, 3) := by decide +kernel
theorem dX0_look_27 : decode cX0_look 27 = .ok (.iconst 0, 1) := by decide +kernel
theorem dX0_look_28 : decode cX0_look 28 = .ok (.bipush 9, 2) := by decide +kernel
theorem dX0_look_30 : decode cX0_look 30 = .ok (.invokestatic 63, 3) := by decide +kernel
theorem dX0_look_33 : decode cX0_look 33 = .ok (.aload_n 0, 1) := by decide +kernel
theorem dX0_look_34 : decode cX0_look 34 = .ok (.aload_n 1, 1) := by decide +kernel
theorem dX0_look_35 : decode cX0_look 35 = .ok (.invokevirtual 69, 3) := by decide +kernel
theorem dX0_look_38 : decode cX0_look 38 = .ok (.aload_n 0, 1) := by decide +kernel
theorem dX0_look_39 : decode cX0_look 39 = .ok (.iconst 0, 1) := by decide +kernel
theorem dX0_look_40 : decode cX0_look 40 = .ok (.putfield 30, 3) := by decide +kernel
theorem dX0_look_43 : decode cX0_look 43 = .ok (.iconst 0, 1) := by decide +kernel
theorem dX0_look_44 : decode cX0_look 44 = .ok (.istore_n 2, 1) := by decide +kernel
theorem dX0_look_45 : decode cX0_look 45 = .ok (.iload_n 2, 1) := by decide +kernel
theorem dX0_look_46 : decode cX0_look 46 = .ok (.aload_n 0, 1) := by decide +kernel
theorem dX0_look_47 : decode cX0_look 47 = .ok (.getfield 50, 3) := by decide +kernel
theorem dX0_look_50 : decode cX0_look 50 = .ok (.if_icmp .ge 82, 3) := by decide +kernel
theorem dX0_look_53 : decode cX0_look 53 = .ok (.iload_n 2, 1) := by decide +kernel
theorem dX0_look_54 : decode cX0_look 54 = .ok (.iconst 1, 1) := by decide +kernel
theorem dX0_look_55 : decode cX0_look 55 = .ok (.iadd, 1) := by decide +kernel
theorem dX0_look_56 : decode cX0_look 56 = .ok (.istore_n 3, 1) := by decide +kernel
theorem dX0_look_57 : decode cX0_look 57 = .ok (.iload_n 3, 1) := by decide +kernel
theorem dX0_look_58 : decode cX0_look 58 = .ok (.aload_n 0, 1) := by decide +kernel
theorem dX0_look_59 : decode cX0_look 59 = .ok (.getfield 50, 3) := by decide +kernel
theorem dX0_look_62 : decode cX0_look 62 = .ok (.if_icmp .ge 64, 3) := by decide +kernel
theorem dX0_look_65 : decode cX0_look 65 = .ok (.aload_n 1, 1) := by decide +kernel
theorem dX0_look_66 : decode cX0_look 66 = .ok (.iload_n 2, 1) := by decide +kernel
theorem dX0_look_67 : decode cX0_look 67 = .ok (.iload_n 3, 1) := by decide +kernel
theorem dX0_look_68 : decode cX0_look 68 = .ok (.invokevirtual 73, 3) := by decide +kernel
theorem dX0_look_71 : decode cX0_look 71 = .ok (.iconst (-1), 1) := by decide +kernel
theorem dX0_look_72 : decode cX0_look 72 = .ok (.if_icmp .eq 48, 3) := by decide +kernel
theorem dX0_look_75 : decode cX0_look 75 = .ok (.aload_n 0, 1) := by decide +kernel
theorem dX0_look_76 : decode cX0_look 76 = .ok (.getfield 21, 3) := by decide +kernel
theorem dX0_look_79 : decode cX0_look 79 = .ok (.aload_n 0, 1) := by decide +kernel
theorem dX0_look_80 : decode cX0_look 80 = .ok (.getfield 30, 3) := by decide +kernel
theorem dX0_look_83 : decode cX0_look 83 = .ok (.iload_n 2, 1) := by decide +kernel
theorem dX0_look_84 : decode cX0_look 84 = .ok (.iastore, 1) := by decide +kernel
theorem dX0_look_85 : decode cX0_look 85 = .ok (.aload_n 0, 1) := by decide +kernel
theorem dX0_look_86 : decode cX0_look 86 = .ok (.getfield 24, 3) := by decide +kernel
theorem dX0_look_89 : decode cX0_look 89 = .ok (.aload_n 0, 1) := by decide +kernel
theorem dX0_look_90 : decode cX0_look 90 = .ok (.getfield 30, 3) := by decide +kernel
theorem dX0_look_93 : decode cX0_look 93 = .ok (.iload_n 3, 1) := by decide +kernel
theorem dX0_look_94 : decode cX0_look 94 = .ok (.iastore, 1) := by decide +kernel
theorem dX0_look_95 : decode cX0_look 95 = .ok (.aload_n 0, 1) := by decide +kernel
theorem dX0_look_96 : decode cX0_look 96 = .ok (.getfield 27, 3) := by decide +kernel
theorem dX0_look_99 : decode cX0_look 99 = .ok (.aload_n 0, 1) := by decide +kernel
theorem dX0_look_100 : decode cX0_look 100 = .ok (.getfield 30, 3) := by decide +kernel
theorem dX0_look_103 : decode cX0_look 103 = .ok (.aload_n 1, 1) := by decide +kernel
theorem dX0_look_104 : decode cX0_look 104 = .ok (.iload_n 2, 1) := by decide +kernel
theorem dX0_look_105 : decode cX0_look 105 = .ok (.iload_n 3, 1) := by decide +kernel
theorem dX0_look_106 : decode cX0_look 106 = .ok (.invokevirtual 73, 3) := by decide +kernel
theorem dX0_look_109 : decode cX0_look 109 = .ok (.iastore, 1) := by decide +kernel
theorem dX0_look_110 : decode cX0_look 110 = .ok (.aload_n 0, 1) := by decide +kernel
theorem dX0_look_111 : decode cX0_look 111 = .ok (.dup, 1) := by decide +kernel
theorem dX0_look_112 : decode cX0_look 112 = .ok (.getfield 30, 3) := by decide +kernel
theorem dX0_look_115 : decode cX0_look 115 = .ok (.iconst 1, 1) := by decide +kernel
theorem dX0_look_116 : decode cX0_look 116 = .ok (.iadd, 1) := by decide +kernel
theorem dX0_look_117 : decode cX0_look 117 = .ok (.putfield 30, 3) := by decide +kernel
theorem dX0_look_120 : decode cX0_look 120 = .ok (.iinc 3 1, 3) := by decide +kernel
theorem dX0_look_123 : decode cX0_look 123 = .ok (.goto (-66), 3) := by decide +kernel
theorem dX0_look_126 : decode cX0_look 126 = .ok (.iinc 2 1, 3) := by decide +kernel
theorem dX0_look_129 : decode cX0_look 129 = .ok (.goto (-84), 3) := by decide +kernel
theorem dX0_look_132 : decode cX0_look 132 = .ok (.return_, 1) := by decide +kernel
theorem dX0_rewind_0 : decode cX0_rewind 0 = .ok (.aload_n 1, 1) := by decide +kernel
theorem dX0_rewind_1 : decode cX0_rewind 1 = .ok (.getfield 77, 3) := by decide +kernel
theorem dX0_rewind_4 : decode cX0_rewind 4 = .ok (.iconst 0, 1) := by decide +kernel
theorem dX0_rewind_5 : decode cX0_rewind 5 = .ok (.aload_n 0, 1) := by decide +kernel
theorem dX0_rewind_6 : decode cX0_rewind 6 = .ok (.getfield 9, 3) := by decide +kernel
theorem dX0_rewind_9 : decode cX0_rewind 9 = .ok (.iconst 0, 1) := by decide +kernel
theorem dX0_rewind_10 : decode cX0_rewind 10 = .ok (.bipush 9, 2) := by decide +kernel
theorem dX0_rewind_12 : decode cX0_rewind 12 = .ok (.invokestatic 63, 3) := by decide +kernel
theorem dX0_rewind_15 : decode cX0_rewind 15 = .ok (.aload_n 0, 1) := by decide +kernel
theorem dX0_rewind_16 : decode cX0_rewind 16 = .ok (.iconst 0, 1) := by decide +kernel
theorem dX0_rewind_17 : decode cX0_rewind 17 = .ok (.putfield 37, 3) := by decide +kernel
theorem dX0_rewind_20 : decode cX0_rewind 20 = .ok (.return_, 1) := by decide +kernel
theorem dX0_pairOf_0 : decode cX0_pairOf 0 = .ok (.iload_n 1, 1) := by decide +kernel
theorem dX0_pairOf_1 : decode cX0_pairOf 1 = .ok (.iload_n 2, 1) := by decide +kernel
theorem dX0_pairOf_2 : decode cX0_pairOf 2 = .ok (.invokestatic 78, 3) := by decide +kernel
theorem dX0_pairOf_5 : decode cX0_pairOf 5 = .ok (.istore_n 3, 1) := by decide +kernel
theorem dX0_pairOf_6 : decode cX0_pairOf 6 = .ok (.iload_n 1, 1) := by decide +kernel
theorem dX0_pairOf_7 : decode cX0_pairOf 7 = .ok (.iload_n 2, 1) := by decide +kernel
theorem dX0_pairOf_8 : decode cX0_pairOf 8 = .ok (.invokestatic 83, 3) := by decide +kernel
theorem dX0_pairOf_11 : decode cX0_pairOf 11 = .ok (.istore 4, 2) := by decide +kernel
theorem dX0_pairOf_13 : decode cX0_pairOf 13 = .ok (.iconst 0, 1) := by decide +kernel
theorem dX0_pairOf_14 : decode cX0_pairOf 14 = .ok (.istore 5, 2) := by decide +kernel
theorem dX0_pairOf_16 : decode cX0_pairOf 16 = .ok (.iload 5, 2) := by decide +kernel
theorem dX0_pairOf_18 : decode cX0_pairOf 18 = .ok (.aload_n 0, 1) := by decide +kernel
theorem dX0_pairOf_19 : decode cX0_pairOf 19 = .ok (.getfield 30, 3) := by decide +kernel
theorem dX0_pairOf_22 : decode cX0_pairOf 22 = .ok (.if_icmp .ge 35, 3) := by decide +kernel
theorem dX0_pairOf_25 : decode cX0_pairOf 25 = .ok (.aload_n 0, 1) := by decide +kernel
theorem dX0_pairOf_26 : decode cX0_pairOf 26 = .ok (.getfield 21, 3) := by decide +kernel
theorem dX0_pairOf_29 : decode cX0_pairOf 29 = .ok (.iload 5, 2) := by decide +kernel
theorem dX0_pairOf_31 : decode cX0_pairOf 31 = .ok (.iaload, 1) := by decide +kernel
theorem dX0_pairOf_32 : decode cX0_pairOf 32 = .ok (.iload_n 3, 1) := by decide +kernel
theorem dX0_pairOf_33 : decode cX0_pairOf 33 = .ok (.if_icmp .ne 18, 3) := by decide +kernel
theorem dX0_pairOf_36 : decode cX0_pairOf 36 = .ok (.aload_n 0, 1) := by decide +kernel
theorem dX0_pairOf_37 : decode cX0_pairOf 37 = .ok (.getfield 24, 3) := by decide +kernel
theorem dX0_pairOf_40 : decode cX0_pairOf 40 = .ok (.iload 5, 2) := by decide +kernel
theorem dX0_pairOf_42 : decode cX0_pairOf 42 = .ok (.iaload, 1) := by decide +kernel
theorem dX0_pairOf_43 : decode cX0_pairOf 43 = .ok (.iload 4, 2) := by decide +kernel
theorem dX0_pairOf_45 : decode cX0_pairOf 45 = .ok (.if_icmp .ne 6, 3) := by decide +kernel
theorem dX0_pairOf_48 : decode cX0_pairOf 48 = .ok (.iload 5, 2) := by decide +kernel
theorem dX0_pairOf_50 : decode cX0_pairOf 50 = .ok (.ireturn, 1) := by decide +kernel
theorem dX0_pairOf_51 : decode cX0_pairOf 51 = .ok (.iinc 5 1, 3) := by decide +kernel
theorem dX0_pairOf_54 : decode cX0_pairOf 54 = .ok (.goto (-38), 3) := by decide +kernel
theorem dX0_pairOf_57 : decode cX0_pairOf 57 = .ok (.iconst (-1), 1) := by decide +kernel
theorem dX0_pairOf_58 : decode cX0_pairOf 58 = .ok (.ireturn, 1) := by decide +kernel
theorem dX0_pass_0 : decode cX0_pass 0 = .ok (.aload_n 0, 1) := by decide +kernel
theorem dX0_pass_1 : decode cX0_pass 1 = .ok (.getfield 37, 3) := by decide +kernel
theorem dX0_pass_4 : decode cX0_pass 4 = .ok (.ifCond .eq 8, 3) := by decide +kernel
theorem dX0_pass_7 : decode cX0_pass 7 = .ok (.iload_n 1, 1) := by decide +kernel
theorem dX0_pass_8 : decode cX0_pass 8 = .ok (.ifCond .ne 4, 3) := by decide +kernel
theorem dX0_pass_11 : decode cX0_pass 11 = .ok (.return_, 1) := by decide +kernel
theorem dX0_pass_12 : decode cX0_pass 12 = .ok (.aload_n 0, 1) := by decide +kernel
theorem dX0_pass_13 : decode cX0_pass 13 = .ok (.getfield 9, 3) := by decide +kernel
theorem dX0_pass_16 : decode cX0_pass 16 = .ok (.iconst 0, 1) := by decide +kernel
theorem dX0_pass_17 : decode cX0_pass 17 = .ok (.aload_n 0, 1) := by decide +kernel
theorem dX0_pass_18 : decode cX0_pass 18 = .ok (.getfield 41, 3) := by decide +kernel
theorem dX0_pass_21 : decode cX0_pass 21 = .ok (.iconst 0, 1) := by decide +kernel
theorem dX0_pass_22 : decode cX0_pass 22 = .ok (.bipush 9, 2) := by decide +kernel
theorem dX0_pass_24 : decode cX0_pass 24 = .ok (.invokestatic 63, 3) := by decide +kernel
theorem dX0_pass_27 : decode cX0_pass 27 = .ok (.aload_n 0, 1) := by decide +kernel
theorem dX0_pass_28 : decode cX0_pass 28 = .ok (.invokevirtual 86, 3) := by decide +kernel
theorem dX0_pass_31 : decode cX0_pass 31 = .ok (.aload_n 0, 1) := by decide +kernel
theorem dX0_pass_32 : decode cX0_pass 32 = .ok (.invokevirtual 89, 3) := by decide +kernel
theorem dX0_pass_35 : decode cX0_pass 35 = .ok (.aload_n 0, 1) := by decide +kernel
theorem dX0_pass_36 : decode cX0_pass 36 = .ok (.iconst 0, 1) := by decide +kernel
theorem dX0_pass_37 : decode cX0_pass 37 = .ok (.putfield 34, 3) := by decide +kernel
theorem dX0_pass_40 : decode cX0_pass 40 = .ok (.aload_n 0, 1) := by decide +kernel
theorem dX0_pass_41 : decode cX0_pass 41 = .ok (.iload_n 1, 1) := by decide +kernel
theorem dX0_pass_42 : decode cX0_pass 42 = .ok (.ifCond .ne 7, 3) := by decide +kernel
theorem dX0_pass_45 : decode cX0_pass 45 = .ok (.iconst 1, 1) := by decide +kernel
theorem dX0_pass_46 : decode cX0_pass 46 = .ok (.goto 4, 3) := by decide +kernel
theorem dX0_pass_49 : decode cX0_pass 49 = .ok (.iconst 0, 1) := by decide +kernel
theorem dX0_pass_50 : decode cX0_pass 50 = .ok (.putfield 37, 3) := by decide +kernel
theorem dX0_pass_53 : decode cX0_pass 53 = .ok (.iconst 0, 1) := by decide +kernel
theorem dX0_pass_54 : decode cX0_pass 54 = .ok (.istore_n 3, 1) := by decide +kernel
theorem dX0_pass_55 : decode cX0_pass 55 = .ok (.iload_n 3, 1) := by decide +kernel
theorem dX0_pass_56 : decode cX0_pass 56 = .ok (.aload_n 0, 1) := by decide +kernel
theorem dX0_pass_57 : decode cX0_pass 57 = .ok (.getfield 50, 3) := by decide +kernel
theorem dX0_pass_60 : decode cX0_pass 60 = .ok (.if_icmp .ge 99, 3) := by decide +kernel
theorem dX0_pass_63 : decode cX0_pass 63 = .ok (.aload_n 0, 1) := by decide +kernel
theorem dX0_pass_64 : decode cX0_pass 64 = .ok (.getfield 9, 3) := by decide +kernel
theorem dX0_pass_67 : decode cX0_pass 67 = .ok (.iload_n 3, 1) := by decide +kernel
theorem dX0_pass_68 : decode cX0_pass 68 = .ok (.iaload, 1) := by decide +kernel
theorem dX0_pass_69 : decode cX0_pass 69 = .ok (.aload_n 0, 1) := by decide +kernel
theorem dX0_pass_70 : decode cX0_pass 70 = .ok (.getfield 15, 3) := by decide +kernel
theorem dX0_pass_73 : decode cX0_pass 73 = .ok (.iload_n 3, 1) := by decide +kernel
theorem dX0_pass_74 : decode cX0_pass 74 = .ok (.iaload, 1) := by decide +kernel
theorem dX0_pass_75 : decode cX0_pass 75 = .ok (.iadd, 1) := by decide +kernel
theorem dX0_pass_76 : decode cX0_pass 76 = .ok (.iload_n 2, 1) := by decide +kernel
theorem dX0_pass_77 : decode cX0_pass 77 = .ok (.iload_n 3, 1) := by decide +kernel
theorem dX0_pass_78 : decode cX0_pass 78 = .ok (.ishr, 1) := by decide +kernel
theorem dX0_pass_79 : decode cX0_pass 79 = .ok (.iconst 1, 1) := by decide +kernel
theorem dX0_pass_80 : decode cX0_pass 80 = .ok (.iand, 1) := by decide +kernel
theorem dX0_pass_81 : decode cX0_pass 81 = .ok (.iconst 1, 1) := by decide +kernel
theorem dX0_pass_82 : decode cX0_pass 82 = .ok (.if_icmp .ne 7, 3) := by decide +kernel
theorem dX0_pass_85 : decode cX0_pass 85 = .ok (.iload_n 1, 1) := by decide +kernel
theorem dX0_pass_86 : decode cX0_pass 86 = .ok (.goto 4, 3) := by decide +kernel
theorem dX0_pass_89 : decode cX0_pass 89 = .ok (.iconst 0, 1) := by decide +kernel
theorem dX0_pass_90 : decode cX0_pass 90 = .ok (.iadd, 1) := by decide +kernel
theorem dX0_pass_91 : decode cX0_pass 91 = .ok (.istore 4, 2) := by decide +kernel
theorem dX0_pass_93 : decode cX0_pass 93 = .ok (.aload_n 0, 1) := by decide +kernel
theorem dX0_pass_94 : decode cX0_pass 94 = .ok (.dup, 1) := by decide +kernel
theorem dX0_pass_95 : decode cX0_pass 95 = .ok (.getfield 34, 3) := by decide +kernel
theorem dX0_pass_98 : decode cX0_pass 98 = .ok (.iconst 0, 1) := by decide +kernel
theorem dX0_pass_99 : decode cX0_pass 99 = .ok (.iload 4, 2) := by decide +kernel
theorem dX0_pass_101 : decode cX0_pass 101 = .ok (.bipush 99, 2) := by decide +kernel
theorem dX0_pass_103 : decode cX0_pass 103 = .ok (.isub, 1) := by decide +kernel
theorem dX0_pass_104 : decode cX0_pass 104 = .ok (.invokestatic 83, 3) := by decide +kernel
theorem dX0_pass_107 : decode cX0_pass 107 = .ok (.iadd, 1) := by decide +kernel
theorem dX0_pass_108 : decode cX0_pass 108 = .ok (.putfield 34, 3) := by decide +kernel
theorem dX0_pass_111 : decode cX0_pass 111 = .ok (.aload_n 0, 1) := by decide +kernel
theorem dX0_pass_112 : decode cX0_pass 112 = .ok (.getfield 9, 3) := by decide +kernel
theorem dX0_pass_115 : decode cX0_pass 115 = .ok (.iload_n 3, 1) := by decide +kernel
theorem dX0_pass_116 : decode cX0_pass 116 = .ok (.iload 4, 2) := by decide +kernel
theorem dX0_pass_118 : decode cX0_pass 118 = .ok (.invokestatic 92, 3) := by decide +kernel
theorem dX0_pass_121 : decode cX0_pass 121 = .ok (.iastore, 1) := by decide +kernel
theorem dX0_pass_122 : decode cX0_pass 122 = .ok (.aload_n 0, 1) := by decide +kernel
theorem dX0_pass_123 : decode cX0_pass 123 = .ok (.aload_n 0, 1) := by decide +kernel
theorem dX0_pass_124 : decode cX0_pass 124 = .ok (.getfield 37, 3) := by decide +kernel
theorem dX0_pass_127 : decode cX0_pass 127 = .ok (.ifCond .eq 22, 3) := by decide +kernel
theorem dX0_pass_130 : decode cX0_pass 130 = .ok (.aload_n 0, 1) := by decide +kernel
theorem dX0_pass_131 : decode cX0_pass 131 = .ok (.getfield 9, 3) := by decide +kernel
theorem dX0_pass_134 : decode cX0_pass 134 = .ok (.iload_n 3, 1) := by decide +kernel
theorem dX0_pass_135 : decode cX0_pass 135 = .ok (.iaload, 1) := by decide +kernel
theorem dX0_pass_136 : decode cX0_pass 136 = .ok (.aload_n 0, 1) := by decide +kernel
theorem dX0_pass_137 : decode cX0_pass 137 = .ok (.getfield 41, 3) := by decide +kernel
theorem dX0_pass_140 : decode cX0_pass 140 = .ok (.iload_n 3, 1) := by decide +kernel
theorem dX0_pass_141 : decode cX0_pass 141 = .ok (.iaload, 1) := by decide +kernel
theorem dX0_pass_142 : decode cX0_pass 142 = .ok (.if_icmp .ne 7, 3) := by decide +kernel
theorem dX0_pass_145 : decode cX0_pass 145 = .ok (.iconst 1, 1) := by decide +kernel
theorem dX0_pass_146 : decode cX0_pass 146 = .ok (.goto 4, 3) := by decide +kernel
theorem dX0_pass_149 : decode cX0_pass 149 = .ok (.iconst 0, 1) := by decide +kernel
theorem dX0_pass_150 : decode cX0_pass 150 = .ok (.putfield 37, 3) := by decide +kernel
theorem dX0_pass_153 : decode cX0_pass 153 = .ok (.iinc 3 1, 3) := by decide +kernel
theorem dX0_pass_156 : decode cX0_pass 156 = .ok (.goto (-101), 3) := by decide +kernel
theorem dX0_pass_159 : decode cX0_pass 159 = .ok (.return_, 1) := by decide +kernel
theorem dX0_measureSeep_0 : decode cX0_measureSeep 0 = .ok (.aload_n 0, 1) := by decide +kernel
theorem dX0_measureSeep_1 : decode cX0_measureSeep 1 = .ok (.getfield 47, 3) := by decide +kernel
theorem dX0_measureSeep_4 : decode cX0_measureSeep 4 = .ok (.iconst 0, 1) := by decide +kernel
theorem dX0_measureSeep_5 : decode cX0_measureSeep 5 = .ok (.invokestatic 96, 3) := by decide +kernel
theorem dX0_measureSeep_8 : decode cX0_measureSeep 8 = .ok (.iconst 0, 1) := by decide +kernel
theorem dX0_measureSeep_9 : decode cX0_measureSeep 9 = .ok (.istore_n 1, 1) := by decide +kernel
theorem dX0_measureSeep_10 : decode cX0_measureSeep 10 = .ok (.iload_n 1, 1) := by decide +kernel
theorem dX0_measureSeep_11 : decode cX0_measureSeep 11 = .ok (.aload_n 0, 1) := by decide +kernel
theorem dX0_measureSeep_12 : decode cX0_measureSeep 12 = .ok (.getfield 30, 3) := by decide +kernel
theorem dX0_measureSeep_15 : decode cX0_measureSeep 15 = .ok (.if_icmp .ge 93, 3) := by decide +kernel
theorem dX0_measureSeep_18 : decode cX0_measureSeep 18 = .ok (.aload_n 0, 1) := by decide +kernel
theorem dX0_measureSeep_19 : decode cX0_measureSeep 19 = .ok (.getfield 27, 3) := by decide +kernel
theorem dX0_measureSeep_22 : decode cX0_measureSeep 22 = .ok (.iload_n 1, 1) := by decide +kernel
theorem dX0_measureSeep_23 : decode cX0_measureSeep 23 = .ok (.iaload, 1) := by decide +kernel
theorem dX0_measureSeep_24 : decode cX0_measureSeep 24 = .ok (.ifCond .le 38, 3) := by decide +kernel
theorem dX0_measureSeep_27 : decode cX0_measureSeep 27 = .ok (.aload_n 0, 1) := by decide +kernel
theorem dX0_measureSeep_28 : decode cX0_measureSeep 28 = .ok (.getfield 9, 3) := by decide +kernel
theorem dX0_measureSeep_31 : decode cX0_measureSeep 31 = .ok (.aload_n 0, 1) := by decide +kernel
theorem dX0_measureSeep_32 : decode cX0_measureSeep 32 = .ok (.getfield 21, 3) := by decide +kernel
theorem dX0_measureSeep_35 : decode cX0_measureSeep 35 = .ok (.iload_n 1, 1) := by decide +kernel
theorem dX0_measureSeep_36 : decode cX0_measureSeep 36 = .ok (.iaload, 1) := by decide +kernel
theorem dX0_measureSeep_37 : decode cX0_measureSeep 37 = .ok (.iaload, 1) := by decide +kernel
theorem dX0_measureSeep_38 : decode cX0_measureSeep 38 = .ok (.aload_n 0, 1) := by decide +kernel
theorem dX0_measureSeep_39 : decode cX0_measureSeep 39 = .ok (.getfield 9, 3) := by decide +kernel
theorem dX0_measureSeep_42 : decode cX0_measureSeep 42 = .ok (.aload_n 0, 1) := by decide +kernel
theorem dX0_measureSeep_43 : decode cX0_measureSeep 43 = .ok (.getfield 24, 3) := by decide +kernel
theorem dX0_measureSeep_46 : decode cX0_measureSeep 46 = .ok (.iload_n 1, 1) := by decide +kernel
theorem dX0_measureSeep_47 : decode cX0_measureSeep 47 = .ok (.iaload, 1) := by decide +kernel
theorem dX0_measureSeep_48 : decode cX0_measureSeep 48 = .ok (.iaload, 1) := by decide +kernel
theorem dX0_measureSeep_49 : decode cX0_measureSeep 49 = .ok (.isub, 1) := by decide +kernel
theorem dX0_measureSeep_50 : decode cX0_measureSeep 50 = .ok (.iconst 2, 1) := by decide +kernel
theorem dX0_measureSeep_51 : decode cX0_measureSeep 51 = .ok (.aload_n 0, 1) := by decide +kernel
theorem dX0_measureSeep_52 : decode cX0_measureSeep 52 = .ok (.getfield 27, 3) := by decide +kernel
theorem dX0_measureSeep_55 : decode cX0_measureSeep 55 = .ok (.iload_n 1, 1) := by decide +kernel
theorem dX0_measureSeep_56 : decode cX0_measureSeep 56 = .ok (.iaload, 1) := by decide +kernel
theorem dX0_measureSeep_57 : decode cX0_measureSeep 57 = .ok (.imul, 1) := by decide +kernel
theorem dX0_measureSeep_58 : decode cX0_measureSeep 58 = .ok (.idiv, 1) := by decide +kernel
theorem dX0_measureSeep_59 : decode cX0_measureSeep 59 = .ok (.goto 4, 3) := by decide +kernel
theorem dX0_measureSeep_62 : decode cX0_measureSeep 62 = .ok (.iconst 0, 1) := by decide +kernel
theorem dX0_measureSeep_63 : decode cX0_measureSeep 63 = .ok (.istore_n 2, 1) := by decide +kernel
theorem dX0_measureSeep_64 : decode cX0_measureSeep 64 = .ok (.aload_n 0, 1) := by decide +kernel
theorem dX0_measureSeep_65 : decode cX0_measureSeep 65 = .ok (.getfield 44, 3) := by decide +kernel
theorem dX0_measureSeep_68 : decode cX0_measureSeep 68 = .ok (.iload_n 1, 1) := by decide +kernel
theorem dX0_measureSeep_69 : decode cX0_measureSeep 69 = .ok (.iload_n 2, 1) := by decide +kernel
theorem dX0_measureSeep_70 : decode cX0_measureSeep 70 = .ok (.iastore, 1) := by decide +kernel
theorem dX0_measureSeep_71 : decode cX0_measureSeep 71 = .ok (.aload_n 0, 1) := by decide +kernel
theorem dX0_measureSeep_72 : decode cX0_measureSeep 72 = .ok (.getfield 47, 3) := by decide +kernel
theorem dX0_measureSeep_75 : decode cX0_measureSeep 75 = .ok (.iload_n 2, 1) := by decide +kernel
theorem dX0_measureSeep_76 : decode cX0_measureSeep 76 = .ok (.ifCond .le 12, 3) := by decide +kernel
theorem dX0_measureSeep_79 : decode cX0_measureSeep 79 = .ok (.aload_n 0, 1) := by decide +kernel
theorem dX0_measureSeep_80 : decode cX0_measureSeep 80 = .ok (.getfield 21, 3) := by decide +kernel
theorem dX0_measureSeep_83 : decode cX0_measureSeep 83 = .ok (.iload_n 1, 1) := by decide +kernel
theorem dX0_measureSeep_84 : decode cX0_measureSeep 84 = .ok (.iaload, 1) := by decide +kernel
theorem dX0_measureSeep_85 : decode cX0_measureSeep 85 = .ok (.goto 9, 3) := by decide +kernel
theorem dX0_measureSeep_88 : decode cX0_measureSeep 88 = .ok (.aload_n 0, 1) := by decide +kernel
theorem dX0_measureSeep_89 : decode cX0_measureSeep 89 = .ok (.getfield 24, 3) := by decide +kernel
theorem dX0_measureSeep_92 : decode cX0_measureSeep 92 = .ok (.iload_n 1, 1) := by decide +kernel
theorem dX0_measureSeep_93 : decode cX0_measureSeep 93 = .ok (.iaload, 1) := by decide +kernel
theorem dX0_measureSeep_94 : decode cX0_measureSeep 94 = .ok (.dup2, 1) := by decide +kernel
theorem dX0_measureSeep_95 : decode cX0_measureSeep 95 = .ok (.iaload, 1) := by decide +kernel
theorem dX0_measureSeep_96 : decode cX0_measureSeep 96 = .ok (.iload_n 2, 1) := by decide +kernel
theorem dX0_measureSeep_97 : decode cX0_measureSeep 97 = .ok (.invokestatic 102, 3) := by decide +kernel
theorem dX0_measureSeep_100 : decode cX0_measureSeep 100 = .ok (.iadd, 1) := by decide +kernel
theorem dX0_measureSeep_101 : decode cX0_measureSeep 101 = .ok (.iastore, 1) := by decide +kernel
theorem dX0_measureSeep_102 : decode cX0_measureSeep 102 = .ok (.iinc 1 1, 3) := by decide +kernel
theorem dX0_measureSeep_105 : decode cX0_measureSeep 105 = .ok (.goto (-95), 3) := by decide +kernel
theorem dX0_measureSeep_108 : decode cX0_measureSeep 108 = .ok (.return_, 1) := by decide +kernel
theorem dX0_letSeep_0 : decode cX0_letSeep 0 = .ok (.iconst 0, 1) := by decide +kernel
theorem dX0_letSeep_1 : decode cX0_letSeep 1 = .ok (.istore_n 1, 1) := by decide +kernel
theorem dX0_letSeep_2 : decode cX0_letSeep 2 = .ok (.iload_n 1, 1) := by decide +kernel
theorem dX0_letSeep_3 : decode cX0_letSeep 3 = .ok (.aload_n 0, 1) := by decide +kernel
theorem dX0_letSeep_4 : decode cX0_letSeep 4 = .ok (.getfield 50, 3) := by decide +kernel
theorem dX0_letSeep_7 : decode cX0_letSeep 7 = .ok (.if_icmp .ge 40, 3) := by decide +kernel
theorem dX0_letSeep_10 : decode cX0_letSeep 10 = .ok (.aload_n 0, 1) := by decide +kernel
theorem dX0_letSeep_11 : decode cX0_letSeep 11 = .ok (.getfield 47, 3) := by decide +kernel
theorem dX0_letSeep_14 : decode cX0_letSeep 14 = .ok (.iload_n 1, 1) := by decide +kernel
theorem dX0_letSeep_15 : decode cX0_letSeep 15 = .ok (.aload_n 0, 1) := by decide +kernel
theorem dX0_letSeep_16 : decode cX0_letSeep 16 = .ok (.getfield 47, 3) := by decide +kernel
theorem dX0_letSeep_19 : decode cX0_letSeep 19 = .ok (.iload_n 1, 1) := by decide +kernel
theorem dX0_letSeep_20 : decode cX0_letSeep 20 = .ok (.iaload, 1) := by decide +kernel
theorem dX0_letSeep_21 : decode cX0_letSeep 21 = .ok (.aload_n 0, 1) := by decide +kernel
theorem dX0_letSeep_22 : decode cX0_letSeep 22 = .ok (.getfield 9, 3) := by decide +kernel
theorem dX0_letSeep_25 : decode cX0_letSeep 25 = .ok (.iload_n 1, 1) := by decide +kernel
theorem dX0_letSeep_26 : decode cX0_letSeep 26 = .ok (.iaload, 1) := by decide +kernel
theorem dX0_letSeep_27 : decode cX0_letSeep 27 = .ok (.if_icmp .le 7, 3) := by decide +kernel
theorem dX0_letSeep_30 : decode cX0_letSeep 30 = .ok (.iconst (-1), 1) := by decide +kernel
theorem dX0_letSeep_31 : decode cX0_letSeep 31 = .ok (.goto 9, 3) := by decide +kernel
theorem dX0_letSeep_34 : decode cX0_letSeep 34 = .ok (.aload_n 0, 1) := by decide +kernel
theorem dX0_letSeep_35 : decode cX0_letSeep 35 = .ok (.getfield 47, 3) := by decide +kernel
theorem dX0_letSeep_38 : decode cX0_letSeep 38 = .ok (.iload_n 1, 1) := by decide +kernel
theorem dX0_letSeep_39 : decode cX0_letSeep 39 = .ok (.iaload, 1) := by decide +kernel
theorem dX0_letSeep_40 : decode cX0_letSeep 40 = .ok (.iastore, 1) := by decide +kernel
theorem dX0_letSeep_41 : decode cX0_letSeep 41 = .ok (.iinc 1 1, 3) := by decide +kernel
theorem dX0_letSeep_44 : decode cX0_letSeep 44 = .ok (.goto (-42), 3) := by decide +kernel
theorem dX0_letSeep_47 : decode cX0_letSeep 47 = .ok (.iconst 0, 1) := by decide +kernel
theorem dX0_letSeep_48 : decode cX0_letSeep 48 = .ok (.istore_n 1, 1) := by decide +kernel
theorem dX0_letSeep_49 : decode cX0_letSeep 49 = .ok (.iload_n 1, 1) := by decide +kernel
theorem dX0_letSeep_50 : decode cX0_letSeep 50 = .ok (.aload_n 0, 1) := by decide +kernel
theorem dX0_letSeep_51 : decode cX0_letSeep 51 = .ok (.getfield 30, 3) := by decide +kernel
theorem dX0_letSeep_54 : decode cX0_letSeep 54 = .ok (.if_icmp .ge 82, 3) := by decide +kernel
theorem dX0_letSeep_57 : decode cX0_letSeep 57 = .ok (.aload_n 0, 1) := by decide +kernel
theorem dX0_letSeep_58 : decode cX0_letSeep 58 = .ok (.getfield 47, 3) := by decide +kernel
theorem dX0_letSeep_61 : decode cX0_letSeep 61 = .ok (.aload_n 0, 1) := by decide +kernel
theorem dX0_letSeep_62 : decode cX0_letSeep 62 = .ok (.getfield 44, 3) := by decide +kernel
theorem dX0_letSeep_65 : decode cX0_letSeep 65 = .ok (.iload_n 1, 1) := by decide +kernel
theorem dX0_letSeep_66 : decode cX0_letSeep 66 = .ok (.iaload, 1) := by decide +kernel
theorem dX0_letSeep_67 : decode cX0_letSeep 67 = .ok (.ifCond .le 12, 3) := by decide +kernel
theorem dX0_letSeep_70 : decode cX0_letSeep 70 = .ok (.aload_n 0, 1) := by decide +kernel
theorem dX0_letSeep_71 : decode cX0_letSeep 71 = .ok (.getfield 21, 3) := by decide +kernel
theorem dX0_letSeep_74 : decode cX0_letSeep 74 = .ok (.iload_n 1, 1) := by decide +kernel
theorem dX0_letSeep_75 : decode cX0_letSeep 75 = .ok (.iaload, 1) := by decide +kernel
theorem dX0_letSeep_76 : decode cX0_letSeep 76 = .ok (.goto 9, 3) := by decide +kernel
theorem dX0_letSeep_79 : decode cX0_letSeep 79 = .ok (.aload_n 0, 1) := by decide +kernel
theorem dX0_letSeep_80 : decode cX0_letSeep 80 = .ok (.getfield 24, 3) := by decide +kernel
theorem dX0_letSeep_83 : decode cX0_letSeep 83 = .ok (.iload_n 1, 1) := by decide +kernel
theorem dX0_letSeep_84 : decode cX0_letSeep 84 = .ok (.iaload, 1) := by decide +kernel
theorem dX0_letSeep_85 : decode cX0_letSeep 85 = .ok (.iaload, 1) := by decide +kernel
theorem dX0_letSeep_86 : decode cX0_letSeep 86 = .ok (.iconst (-1), 1) := by decide +kernel
theorem dX0_letSeep_87 : decode cX0_letSeep 87 = .ok (.if_icmp .eq 43, 3) := by decide +kernel
theorem dX0_letSeep_90 : decode cX0_letSeep 90 = .ok (.aload_n 0, 1) := by decide +kernel
theorem dX0_letSeep_91 : decode cX0_letSeep 91 = .ok (.getfield 9, 3) := by decide +kernel
theorem dX0_letSeep_94 : decode cX0_letSeep 94 = .ok (.aload_n 0, 1) := by decide +kernel
theorem dX0_letSeep_95 : decode cX0_letSeep 95 = .ok (.getfield 21, 3) := by decide +kernel
theorem dX0_letSeep_98 : decode cX0_letSeep 98 = .ok (.iload_n 1, 1) := by decide +kernel
theorem dX0_letSeep_99 : decode cX0_letSeep 99 = .ok (.iaload, 1) := by decide +kernel
theorem dX0_letSeep_100 : decode cX0_letSeep 100 = .ok (.dup2, 1) := by decide +kernel
theorem dX0_letSeep_101 : decode cX0_letSeep 101 = .ok (.iaload, 1) := by decide +kernel
theorem dX0_letSeep_102 : decode cX0_letSeep 102 = .ok (.aload_n 0, 1) := by decide +kernel
theorem dX0_letSeep_103 : decode cX0_letSeep 103 = .ok (.getfield 44, 3) := by decide +kernel
theorem dX0_letSeep_106 : decode cX0_letSeep 106 = .ok (.iload_n 1, 1) := by decide +kernel
theorem dX0_letSeep_107 : decode cX0_letSeep 107 = .ok (.iaload, 1) := by decide +kernel
theorem dX0_letSeep_108 : decode cX0_letSeep 108 = .ok (.isub, 1) := by decide +kernel
theorem dX0_letSeep_109 : decode cX0_letSeep 109 = .ok (.iastore, 1) := by decide +kernel
theorem dX0_letSeep_110 : decode cX0_letSeep 110 = .ok (.aload_n 0, 1) := by decide +kernel
theorem dX0_letSeep_111 : decode cX0_letSeep 111 = .ok (.getfield 9, 3) := by decide +kernel
theorem dX0_letSeep_114 : decode cX0_letSeep 114 = .ok (.aload_n 0, 1) := by decide +kernel
theorem dX0_letSeep_115 : decode cX0_letSeep 115 = .ok (.getfield 24, 3) := by decide +kernel
theorem dX0_letSeep_118 : decode cX0_letSeep 118 = .ok (.iload_n 1, 1) := by decide +kernel
theorem dX0_letSeep_119 : decode cX0_letSeep 119 = .ok (.iaload, 1) := by decide +kernel
theorem dX0_letSeep_120 : decode cX0_letSeep 120 = .ok (.dup2, 1) := by decide +kernel
theorem dX0_letSeep_121 : decode cX0_letSeep 121 = .ok (.iaload, 1) := by decide +kernel
theorem dX0_letSeep_122 : decode cX0_letSeep 122 = .ok (.aload_n 0, 1) := by decide +kernel
theorem dX0_letSeep_123 : decode cX0_letSeep 123 = .ok (.getfield 44, 3) := by decide +kernel
theorem dX0_letSeep_126 : decode cX0_letSeep 126 = .ok (.iload_n 1, 1) := by decide +kernel
theorem dX0_letSeep_127 : decode cX0_letSeep 127 = .ok (.iaload, 1) := by decide +kernel
theorem dX0_letSeep_128 : decode cX0_letSeep 128 = .ok (.iadd, 1) := by decide +kernel
theorem dX0_letSeep_129 : decode cX0_letSeep 129 = .ok (.iastore, 1) := by decide +kernel
theorem dX0_letSeep_130 : decode cX0_letSeep 130 = .ok (.iinc 1 1, 3) := by decide +kernel
theorem dX0_letSeep_133 : decode cX0_letSeep 133 = .ok (.goto (-84), 3) := by decide +kernel
theorem dX0_letSeep_136 : decode cX0_letSeep 136 = .ok (.return_, 1) := by decide +kernel
theorem dX0_isEven_0 : decode cX0_isEven 0 = .ok (.aload_n 0, 1) := by decide +kernel
theorem dX0_isEven_1 : decode cX0_isEven 1 = .ok (.getfield 9, 3) := by decide +kernel
theorem dX0_isEven_4 : decode cX0_isEven 4 = .ok (.aload_n 0, 1) := by decide +kernel
theorem dX0_isEven_5 : decode cX0_isEven 5 = .ok (.getfield 21, 3) := by decide +kernel
theorem dX0_isEven_8 : decode cX0_isEven 8 = .ok (.iload_n 1, 1) := by decide +kernel
theorem dX0_isEven_9 : decode cX0_isEven 9 = .ok (.iaload, 1) := by decide +kernel
theorem dX0_isEven_10 : decode cX0_isEven 10 = .ok (.iaload, 1) := by decide +kernel
theorem dX0_isEven_11 : decode cX0_isEven 11 = .ok (.aload_n 0, 1) := by decide +kernel
theorem dX0_isEven_12 : decode cX0_isEven 12 = .ok (.getfield 9, 3) := by decide +kernel
theorem dX0_isEven_15 : decode cX0_isEven 15 = .ok (.aload_n 0, 1) := by decide +kernel
theorem dX0_isEven_16 : decode cX0_isEven 16 = .ok (.getfield 24, 3) := by decide +kernel
theorem dX0_isEven_19 : decode cX0_isEven 19 = .ok (.iload_n 1, 1) := by decide +kernel
theorem dX0_isEven_20 : decode cX0_isEven 20 = .ok (.iaload, 1) := by decide +kernel
theorem dX0_isEven_21 : decode cX0_isEven 21 = .ok (.iaload, 1) := by decide +kernel
theorem dX0_isEven_22 : decode cX0_isEven 22 = .ok (.isub, 1) := by decide +kernel
theorem dX0_isEven_23 : decode cX0_isEven 23 = .ok (.invokestatic 102, 3) := by decide +kernel
theorem dX0_isEven_26 : decode cX0_isEven 26 = .ok (.aload_n 0, 1) := by decide +kernel
theorem dX0_isEven_27 : decode cX0_isEven 27 = .ok (.getfield 53, 3) := by decide +kernel
theorem dX0_isEven_30 : decode cX0_isEven 30 = .ok (.if_icmp .ge 7, 3) := by decide +kernel
theorem dX0_isEven_33 : decode cX0_isEven 33 = .ok (.iconst 1, 1) := by decide +kernel
theorem dX0_isEven_34 : decode cX0_isEven 34 = .ok (.goto 4, 3) := by decide +kernel
theorem dX0_isEven_37 : decode cX0_isEven 37 = .ok (.iconst 0, 1) := by decide +kernel
theorem dX0_isEven_38 : decode cX0_isEven 38 = .ok (.ireturn, 1) := by decide +kernel
theorem dX0_firstEven_0 : decode cX0_firstEven 0 = .ok (.iconst 0, 1) := by decide +kernel
theorem dX0_firstEven_1 : decode cX0_firstEven 1 = .ok (.istore_n 1, 1) := by decide +kernel
theorem dX0_firstEven_2 : decode cX0_firstEven 2 = .ok (.iload_n 1, 1) := by decide +kernel
theorem dX0_firstEven_3 : decode cX0_firstEven 3 = .ok (.aload_n 0, 1) := by decide +kernel
theorem dX0_firstEven_4 : decode cX0_firstEven 4 = .ok (.getfield 30, 3) := by decide +kernel
theorem dX0_firstEven_7 : decode cX0_firstEven 7 = .ok (.if_icmp .ge 19, 3) := by decide +kernel
theorem dX0_firstEven_10 : decode cX0_firstEven 10 = .ok (.aload_n 0, 1) := by decide +kernel
theorem dX0_firstEven_11 : decode cX0_firstEven 11 = .ok (.iload_n 1, 1) := by decide +kernel
theorem dX0_firstEven_12 : decode cX0_firstEven 12 = .ok (.invokevirtual 105, 3) := by decide +kernel
theorem dX0_firstEven_15 : decode cX0_firstEven 15 = .ok (.ifCond .eq 5, 3) := by decide +kernel
theorem dX0_firstEven_18 : decode cX0_firstEven 18 = .ok (.iload_n 1, 1) := by decide +kernel
theorem dX0_firstEven_19 : decode cX0_firstEven 19 = .ok (.ireturn, 1) := by decide +kernel
theorem dX0_firstEven_20 : decode cX0_firstEven 20 = .ok (.iinc 1 1, 3) := by decide +kernel
theorem dX0_firstEven_23 : decode cX0_firstEven 23 = .ok (.goto (-21), 3) := by decide +kernel
theorem dX0_firstEven_26 : decode cX0_firstEven 26 = .ok (.iconst (-1), 1) := by decide +kernel
theorem dX0_firstEven_27 : decode cX0_firstEven 27 = .ok (.ireturn, 1) := by decide +kernel
theorem dX0_evenPairs_0 : decode cX0_evenPairs 0 = .ok (.iconst 0, 1) := by decide +kernel
theorem dX0_evenPairs_1 : decode cX0_evenPairs 1 = .ok (.istore_n 1, 1) := by decide +kernel
theorem dX0_evenPairs_2 : decode cX0_evenPairs 2 = .ok (.iconst 0, 1) := by decide +kernel
theorem dX0_evenPairs_3 : decode cX0_evenPairs 3 = .ok (.istore_n 2, 1) := by decide +kernel
theorem dX0_evenPairs_4 : decode cX0_evenPairs 4 = .ok (.iload_n 2, 1) := by decide +kernel
theorem dX0_evenPairs_5 : decode cX0_evenPairs 5 = .ok (.aload_n 0, 1) := by decide +kernel
theorem dX0_evenPairs_6 : decode cX0_evenPairs 6 = .ok (.getfield 30, 3) := by decide +kernel
theorem dX0_evenPairs_9 : decode cX0_evenPairs 9 = .ok (.if_icmp .ge 25, 3) := by decide +kernel
theorem dX0_evenPairs_12 : decode cX0_evenPairs 12 = .ok (.iload_n 1, 1) := by decide +kernel
theorem dX0_evenPairs_13 : decode cX0_evenPairs 13 = .ok (.aload_n 0, 1) := by decide +kernel
theorem dX0_evenPairs_14 : decode cX0_evenPairs 14 = .ok (.iload_n 2, 1) := by decide +kernel
theorem dX0_evenPairs_15 : decode cX0_evenPairs 15 = .ok (.invokevirtual 105, 3) := by decide +kernel
theorem dX0_evenPairs_18 : decode cX0_evenPairs 18 = .ok (.ifCond .eq 7, 3) := by decide +kernel
theorem dX0_evenPairs_21 : decode cX0_evenPairs 21 = .ok (.iconst 1, 1) := by decide +kernel
theorem dX0_evenPairs_22 : decode cX0_evenPairs 22 = .ok (.goto 4, 3) := by decide +kernel
theorem dX0_evenPairs_25 : decode cX0_evenPairs 25 = .ok (.iconst 0, 1) := by decide +kernel
theorem dX0_evenPairs_26 : decode cX0_evenPairs 26 = .ok (.iadd, 1) := by decide +kernel
theorem dX0_evenPairs_27 : decode cX0_evenPairs 27 = .ok (.istore_n 1, 1) := by decide +kernel
theorem dX0_evenPairs_28 : decode cX0_evenPairs 28 = .ok (.iinc 2 1, 3) := by decide +kernel
theorem dX0_evenPairs_31 : decode cX0_evenPairs 31 = .ok (.goto (-27), 3) := by decide +kernel
theorem dX0_evenPairs_34 : decode cX0_evenPairs 34 = .ok (.iload_n 1, 1) := by decide +kernel
theorem dX0_evenPairs_35 : decode cX0_evenPairs 35 = .ok (.ireturn, 1) := by decide +kernel
theorem dX0_isLawful_0 : decode cX0_isLawful 0 = .ok (.aload_n 0, 1) := by decide +kernel
theorem dX0_isLawful_1 : decode cX0_isLawful 1 = .ok (.invokevirtual 109, 3) := by decide +kernel
theorem dX0_isLawful_4 : decode cX0_isLawful 4 = .ok (.iconst (-1), 1) := by decide +kernel
theorem dX0_isLawful_5 : decode cX0_isLawful 5 = .ok (.if_icmp .ne 7, 3) := by decide +kernel
theorem dX0_isLawful_8 : decode cX0_isLawful 8 = .ok (.iconst 1, 1) := by decide +kernel
theorem dX0_isLawful_9 : decode cX0_isLawful 9 = .ok (.goto 4, 3) := by decide +kernel
theorem dX0_isLawful_12 : decode cX0_isLawful 12 = .ok (.iconst 0, 1) := by decide +kernel
theorem dX0_isLawful_13 : decode cX0_isLawful 13 = .ok (.ireturn, 1) := by decide +kernel
theorem dX0_lasting_0 : decode cX0_lasting 0 = .ok (.iconst 1, 1) := by decide +kernel
theorem dX0_lasting_1 : decode cX0_lasting 1 = .ok (.istore_n 1, 1) := by decide +kernel
theorem dX0_lasting_2 : decode cX0_lasting 2 = .ok (.iload_n 1, 1) := by decide +kernel
theorem dX0_lasting_3 : decode cX0_lasting 3 = .ok (.bipush 100, 2) := by decide +kernel
theorem dX0_lasting_5 : decode cX0_lasting 5 = .ok (.if_icmp .gt 24, 3) := by decide +kernel
theorem dX0_lasting_8 : decode cX0_lasting 8 = .ok (.aload_n 0, 1) := by decide +kernel
theorem dX0_lasting_9 : decode cX0_lasting 9 = .ok (.iconst 0, 1) := by decide +kernel
theorem dX0_lasting_10 : decode cX0_lasting 10 = .ok (.iconst 0, 1) := by decide +kernel
theorem dX0_lasting_11 : decode cX0_lasting 11 = .ok (.invokevirtual 113, 3) := by decide +kernel
theorem dX0_lasting_14 : decode cX0_lasting 14 = .ok (.aload_n 0, 1) := by decide +kernel
theorem dX0_lasting_15 : decode cX0_lasting 15 = .ok (.invokevirtual 117, 3) := by decide +kernel
theorem dX0_lasting_18 : decode cX0_lasting 18 = .ok (.ifCond .ne 5, 3) := by decide +kernel
theorem dX0_lasting_21 : decode cX0_lasting 21 = .ok (.iload_n 1, 1) := by decide +kernel
theorem dX0_lasting_22 : decode cX0_lasting 22 = .ok (.ireturn, 1) := by decide +kernel
theorem dX0_lasting_23 : decode cX0_lasting 23 = .ok (.iinc 1 1, 3) := by decide +kernel
theorem dX0_lasting_26 : decode cX0_lasting 26 = .ok (.goto (-24), 3) := by decide +kernel
theorem dX0_lasting_29 : decode cX0_lasting 29 = .ok (.bipush 101, 2) := by decide +kernel
theorem dX0_lasting_31 : decode cX0_lasting 31 = .ok (.ireturn, 1) := by decide +kernel
theorem dX0_allAlike_0 : decode cX0_allAlike 0 = .ok (.iconst 1, 1) := by decide +kernel
theorem dX0_allAlike_1 : decode cX0_allAlike 1 = .ok (.istore_n 1, 1) := by decide +kernel
theorem dX0_allAlike_2 : decode cX0_allAlike 2 = .ok (.iload_n 1, 1) := by decide +kernel
theorem dX0_allAlike_3 : decode cX0_allAlike 3 = .ok (.aload_n 0, 1) := by decide +kernel
theorem dX0_allAlike_4 : decode cX0_allAlike 4 = .ok (.getfield 50, 3) := by decide +kernel
theorem dX0_allAlike_7 : decode cX0_allAlike 7 = .ok (.if_icmp .ge 26, 3) := by decide +kernel
theorem dX0_allAlike_10 : decode cX0_allAlike 10 = .ok (.aload_n 0, 1) := by decide +kernel
theorem dX0_allAlike_11 : decode cX0_allAlike 11 = .ok (.getfield 9, 3) := by decide +kernel
theorem dX0_allAlike_14 : decode cX0_allAlike 14 = .ok (.iload_n 1, 1) := by decide +kernel
theorem dX0_allAlike_15 : decode cX0_allAlike 15 = .ok (.iaload, 1) := by decide +kernel
theorem dX0_allAlike_16 : decode cX0_allAlike 16 = .ok (.aload_n 0, 1) := by decide +kernel
theorem dX0_allAlike_17 : decode cX0_allAlike 17 = .ok (.getfield 9, 3) := by decide +kernel
theorem dX0_allAlike_20 : decode cX0_allAlike 20 = .ok (.iconst 0, 1) := by decide +kernel
theorem dX0_allAlike_21 : decode cX0_allAlike 21 = .ok (.iaload, 1) := by decide +kernel
theorem dX0_allAlike_22 : decode cX0_allAlike 22 = .ok (.if_icmp .eq 5, 3) := by decide +kernel
theorem dX0_allAlike_25 : decode cX0_allAlike 25 = .ok (.iconst 0, 1) := by decide +kernel
theorem dX0_allAlike_26 : decode cX0_allAlike 26 = .ok (.ireturn, 1) := by decide +kernel
theorem dX0_allAlike_27 : decode cX0_allAlike 27 = .ok (.iinc 1 1, 3) := by decide +kernel
theorem dX0_allAlike_30 : decode cX0_allAlike 30 = .ok (.goto (-28), 3) := by decide +kernel
theorem dX0_allAlike_33 : decode cX0_allAlike 33 = .ok (.iconst 1, 1) := by decide +kernel
theorem dX0_allAlike_34 : decode cX0_allAlike 34 = .ok (.ireturn, 1) := by decide +kernel
theorem dX0_clearPaid_0 : decode cX0_clearPaid 0 = .ok (.aload_n 0, 1) := by decide +kernel
theorem dX0_clearPaid_1 : decode cX0_clearPaid 1 = .ok (.getfield 18, 3) := by decide +kernel
theorem dX0_clearPaid_4 : decode cX0_clearPaid 4 = .ok (.iconst 0, 1) := by decide +kernel
theorem dX0_clearPaid_5 : decode cX0_clearPaid 5 = .ok (.invokestatic 96, 3) := by decide +kernel
theorem dX0_clearPaid_8 : decode cX0_clearPaid 8 = .ok (.return_, 1) := by decide +kernel
theorem dX0_payInto_0 : decode cX0_payInto 0 = .ok (.iconst 0, 1) := by decide +kernel
theorem dX0_payInto_1 : decode cX0_payInto 1 = .ok (.istore_n 3, 1) := by decide +kernel
theorem dX0_payInto_2 : decode cX0_payInto 2 = .ok (.iload_n 3, 1) := by decide +kernel
theorem dX0_payInto_3 : decode cX0_payInto 3 = .ok (.aload_n 0, 1) := by decide +kernel
theorem dX0_payInto_4 : decode cX0_payInto 4 = .ok (.getfield 30, 3) := by decide +kernel
theorem dX0_payInto_7 : decode cX0_payInto 7 = .ok (.if_icmp .ge 41, 3) := by decide +kernel
theorem dX0_payInto_10 : decode cX0_payInto 10 = .ok (.aload_n 0, 1) := by decide +kernel
theorem dX0_payInto_11 : decode cX0_payInto 11 = .ok (.iload_n 3, 1) := by decide +kernel
theorem dX0_payInto_12 : decode cX0_payInto 12 = .ok (.invokevirtual 105, 3) := by decide +kernel
theorem dX0_payInto_15 : decode cX0_payInto 15 = .ok (.ifCond .eq 27, 3) := by decide +kernel
theorem dX0_payInto_18 : decode cX0_payInto 18 = .ok (.aload_n 1, 1) := by decide +kernel
theorem dX0_payInto_19 : decode cX0_payInto 19 = .ok (.aload_n 0, 1) := by decide +kernel
theorem dX0_payInto_20 : decode cX0_payInto 20 = .ok (.getfield 21, 3) := by decide +kernel
theorem dX0_payInto_23 : decode cX0_payInto 23 = .ok (.iload_n 3, 1) := by decide +kernel
theorem dX0_payInto_24 : decode cX0_payInto 24 = .ok (.iaload, 1) := by decide +kernel
theorem dX0_payInto_25 : decode cX0_payInto 25 = .ok (.dup2, 1) := by decide +kernel
theorem dX0_payInto_26 : decode cX0_payInto 26 = .ok (.iaload, 1) := by decide +kernel
theorem dX0_payInto_27 : decode cX0_payInto 27 = .ok (.iload_n 2, 1) := by decide +kernel
theorem dX0_payInto_28 : decode cX0_payInto 28 = .ok (.iadd, 1) := by decide +kernel
theorem dX0_payInto_29 : decode cX0_payInto 29 = .ok (.iastore, 1) := by decide +kernel
theorem dX0_payInto_30 : decode cX0_payInto 30 = .ok (.aload_n 1, 1) := by decide +kernel
theorem dX0_payInto_31 : decode cX0_payInto 31 = .ok (.aload_n 0, 1) := by decide +kernel
theorem dX0_payInto_32 : decode cX0_payInto 32 = .ok (.getfield 24, 3) := by decide +kernel
theorem dX0_payInto_35 : decode cX0_payInto 35 = .ok (.iload_n 3, 1) := by decide +kernel
theorem dX0_payInto_36 : decode cX0_payInto 36 = .ok (.iaload, 1) := by decide +kernel
theorem dX0_payInto_37 : decode cX0_payInto 37 = .ok (.dup2, 1) := by decide +kernel
theorem dX0_payInto_38 : decode cX0_payInto 38 = .ok (.iaload, 1) := by decide +kernel
theorem dX0_payInto_39 : decode cX0_payInto 39 = .ok (.iload_n 2, 1) := by decide +kernel
theorem dX0_payInto_40 : decode cX0_payInto 40 = .ok (.iadd, 1) := by decide +kernel
theorem dX0_payInto_41 : decode cX0_payInto 41 = .ok (.iastore, 1) := by decide +kernel
theorem dX0_payInto_42 : decode cX0_payInto 42 = .ok (.iinc 3 1, 3) := by decide +kernel
theorem dX0_payInto_45 : decode cX0_payInto 45 = .ok (.goto (-43), 3) := by decide +kernel
theorem dX0_payInto_48 : decode cX0_payInto 48 = .ok (.return_, 1) := by decide +kernel
theorem dX0_markEven_0 : decode cX0_markEven 0 = .ok (.iconst 0, 1) := by decide +kernel
theorem dX0_markEven_1 : decode cX0_markEven 1 = .ok (.istore_n 2, 1) := by decide +kernel
theorem dX0_markEven_2 : decode cX0_markEven 2 = .ok (.iload_n 2, 1) := by decide +kernel
theorem dX0_markEven_3 : decode cX0_markEven 3 = .ok (.aload_n 0, 1) := by decide +kernel
theorem dX0_markEven_4 : decode cX0_markEven 4 = .ok (.getfield 30, 3) := by decide +kernel
theorem dX0_markEven_7 : decode cX0_markEven 7 = .ok (.if_icmp .ge 33, 3) := by decide +kernel
theorem dX0_markEven_10 : decode cX0_markEven 10 = .ok (.aload_n 0, 1) := by decide +kernel
theorem dX0_markEven_11 : decode cX0_markEven 11 = .ok (.iload_n 2, 1) := by decide +kernel
theorem dX0_markEven_12 : decode cX0_markEven 12 = .ok (.invokevirtual 105, 3) := by decide +kernel
theorem dX0_markEven_15 : decode cX0_markEven 15 = .ok (.ifCond .eq 19, 3) := by decide +kernel
theorem dX0_markEven_18 : decode cX0_markEven 18 = .ok (.aload_n 1, 1) := by decide +kernel
theorem dX0_markEven_19 : decode cX0_markEven 19 = .ok (.aload_n 0, 1) := by decide +kernel
theorem dX0_markEven_20 : decode cX0_markEven 20 = .ok (.getfield 21, 3) := by decide +kernel
theorem dX0_markEven_23 : decode cX0_markEven 23 = .ok (.iload_n 2, 1) := by decide +kernel
theorem dX0_markEven_24 : decode cX0_markEven 24 = .ok (.iaload, 1) := by decide +kernel
theorem dX0_markEven_25 : decode cX0_markEven 25 = .ok (.aload_n 0, 1) := by decide +kernel
theorem dX0_markEven_26 : decode cX0_markEven 26 = .ok (.getfield 24, 3) := by decide +kernel
theorem dX0_markEven_29 : decode cX0_markEven 29 = .ok (.iload_n 2, 1) := by decide +kernel
theorem dX0_markEven_30 : decode cX0_markEven 30 = .ok (.iaload, 1) := by decide +kernel
theorem dX0_markEven_31 : decode cX0_markEven 31 = .ok (.invokevirtual 121, 3) := by decide +kernel
theorem dX0_markEven_34 : decode cX0_markEven 34 = .ok (.iinc 2 1, 3) := by decide +kernel
theorem dX0_markEven_37 : decode cX0_markEven 37 = .ok (.goto (-35), 3) := by decide +kernel
theorem dX0_markEven_40 : decode cX0_markEven 40 = .ok (.return_, 1) := by decide +kernel
theorem dX0_pack_0 : decode cX0_pack 0 = .ok (.lconst 0, 1) := by decide +kernel
theorem dX0_pack_1 : decode cX0_pack 1 = .ok (.lstore_n 1, 1) := by decide +kernel
theorem dX0_pack_2 : decode cX0_pack 2 = .ok (.iconst 0, 1) := by decide +kernel
theorem dX0_pack_3 : decode cX0_pack 3 = .ok (.istore_n 3, 1) := by decide +kernel
theorem dX0_pack_4 : decode cX0_pack 4 = .ok (.iload_n 3, 1) := by decide +kernel
theorem dX0_pack_5 : decode cX0_pack 5 = .ok (.aload_n 0, 1) := by decide +kernel
theorem dX0_pack_6 : decode cX0_pack 6 = .ok (.getfield 50, 3) := by decide +kernel
theorem dX0_pack_9 : decode cX0_pack 9 = .ok (.if_icmp .ge 24, 3) := by decide +kernel
theorem dX0_pack_12 : decode cX0_pack 12 = .ok (.lload_n 1, 1) := by decide +kernel
theorem dX0_pack_13 : decode cX0_pack 13 = .ok (.aload_n 0, 1) := by decide +kernel
theorem dX0_pack_14 : decode cX0_pack 14 = .ok (.getfield 9, 3) := by decide +kernel
theorem dX0_pack_17 : decode cX0_pack 17 = .ok (.iload_n 3, 1) := by decide +kernel
theorem dX0_pack_18 : decode cX0_pack 18 = .ok (.iaload, 1) := by decide +kernel
theorem dX0_pack_19 : decode cX0_pack 19 = .ok (.i2l, 1) := by decide +kernel
theorem dX0_pack_20 : decode cX0_pack 20 = .ok (.bipush 7, 2) := by decide +kernel
theorem dX0_pack_22 : decode cX0_pack 22 = .ok (.iload_n 3, 1) := by decide +kernel
theorem dX0_pack_23 : decode cX0_pack 23 = .ok (.imul, 1) := by decide +kernel
theorem dX0_pack_24 : decode cX0_pack 24 = .ok (.lshl, 1) := by decide +kernel
theorem dX0_pack_25 : decode cX0_pack 25 = .ok (.lor, 1) := by decide +kernel
theorem dX0_pack_26 : decode cX0_pack 26 = .ok (.lstore_n 1, 1) := by decide +kernel
theorem dX0_pack_27 : decode cX0_pack 27 = .ok (.iinc 3 1, 3) := by decide +kernel
theorem dX0_pack_30 : decode cX0_pack 30 = .ok (.goto (-26), 3) := by decide +kernel
theorem dX0_pack_33 : decode cX0_pack 33 = .ok (.lload_n 1, 1) := by decide +kernel
theorem dX0_pack_34 : decode cX0_pack 34 = .ok (.lreturn, 1) := by decide +kernel
theorem dX0_unpack_0 : decode cX0_unpack 0 = .ok (.iconst 0, 1) := by decide +kernel
theorem dX0_unpack_1 : decode cX0_unpack 1 = .ok (.istore_n 3, 1) := by decide +kernel
theorem dX0_unpack_2 : decode cX0_unpack 2 = .ok (.iload_n 3, 1) := by decide +kernel
theorem dX0_unpack_3 : decode cX0_unpack 3 = .ok (.aload_n 0, 1) := by decide +kernel
theorem dX0_unpack_4 : decode cX0_unpack 4 = .ok (.getfield 50, 3) := by decide +kernel
theorem dX0_unpack_7 : decode cX0_unpack 7 = .ok (.if_icmp .ge 25, 3) := by decide +kernel
theorem dX0_unpack_10 : decode cX0_unpack 10 = .ok (.aload_n 0, 1) := by decide +kernel
theorem dX0_unpack_11 : decode cX0_unpack 11 = .ok (.getfield 9, 3) := by decide +kernel
theorem dX0_unpack_14 : decode cX0_unpack 14 = .ok (.iload_n 3, 1) := by decide +kernel
theorem dX0_unpack_15 : decode cX0_unpack 15 = .ok (.lload_n 1, 1) := by decide +kernel
theorem dX0_unpack_16 : decode cX0_unpack 16 = .ok (.bipush 7, 2) := by decide +kernel
theorem dX0_unpack_18 : decode cX0_unpack 18 = .ok (.iload_n 3, 1) := by decide +kernel
theorem dX0_unpack_19 : decode cX0_unpack 19 = .ok (.imul, 1) := by decide +kernel
theorem dX0_unpack_20 : decode cX0_unpack 20 = .ok (.lushr, 1) := by decide +kernel
theorem dX0_unpack_21 : decode cX0_unpack 21 = .ok (.l2i, 1) := by decide +kernel
theorem dX0_unpack_22 : decode cX0_unpack 22 = .ok (.bipush 127, 2) := by decide +kernel
theorem dX0_unpack_24 : decode cX0_unpack 24 = .ok (.iand, 1) := by decide +kernel
theorem dX0_unpack_25 : decode cX0_unpack 25 = .ok (.iastore, 1) := by decide +kernel
theorem dX0_unpack_26 : decode cX0_unpack 26 = .ok (.iinc 3 1, 3) := by decide +kernel
theorem dX0_unpack_29 : decode cX0_unpack 29 = .ok (.goto (-27), 3) := by decide +kernel
theorem dX0_unpack_32 : decode cX0_unpack 32 = .ok (.aload_n 0, 1) := by decide +kernel
theorem dX0_unpack_33 : decode cX0_unpack 33 = .ok (.iconst 0, 1) := by decide +kernel
theorem dX0_unpack_34 : decode cX0_unpack 34 = .ok (.putfield 37, 3) := by decide +kernel
theorem dX0_unpack_37 : decode cX0_unpack 37 = .ok (.return_, 1) := by decide +kernel
theorem dX1_init_0 : decode cX1_init 0 = .ok (.aload_n 0, 1) := by decide +kernel
theorem dX1_init_1 : decode cX1_init 1 = .ok (.invokespecial 3, 3) := by decide +kernel
theorem dX1_init_4 : decode cX1_init 4 = .ok (.aload_n 0, 1) := by decide +kernel
theorem dX1_init_5 : decode cX1_init 5 = .ok (.bipush 9, 2) := by decide +kernel
theorem dX1_init_7 : decode cX1_init 7 = .ok (.newarray .int, 2) := by decide +kernel
theorem dX1_init_9 : decode cX1_init 9 = .ok (.putfield 9, 3) := by decide +kernel
theorem dX1_init_12 : decode cX1_init 12 = .ok (.aload_n 0, 1) := by decide +kernel
theorem dX1_init_13 : decode cX1_init 13 = .ok (.bipush 9, 2) := by decide +kernel
theorem dX1_init_15 : decode cX1_init 15 = .ok (.newarray .int, 2) := by decide +kernel
theorem dX1_init_17 : decode cX1_init 17 = .ok (.putfield 15, 3) := by decide +kernel
theorem dX1_init_20 : decode cX1_init 20 = .ok (.aload_n 0, 1) := by decide +kernel
theorem dX1_init_21 : decode cX1_init 21 = .ok (.iconst 0, 1) := by decide +kernel
theorem dX1_init_22 : decode cX1_init 22 = .ok (.putfield 18, 3) := by decide +kernel
theorem dX1_init_25 : decode cX1_init 25 = .ok (.aload_n 0, 1) := by decide +kernel
theorem dX1_init_26 : decode cX1_init 26 = .ok (.bipush 9, 2) := by decide +kernel
theorem dX1_init_28 : decode cX1_init 28 = .ok (.newarray .int, 2) := by decide +kernel
theorem dX1_init_30 : decode cX1_init 30 = .ok (.putfield 22, 3) := by decide +kernel
theorem dX1_init_33 : decode cX1_init 33 = .ok (.return_, 1) := by decide +kernel
theorem dX1_clear_0 : decode cX1_clear 0 = .ok (.aload_n 0, 1) := by decide +kernel
theorem dX1_clear_1 : decode cX1_clear 1 = .ok (.iload_n 1, 1) := by decide +kernel
theorem dX1_clear_2 : decode cX1_clear 2 = .ok (.putfield 18, 3) := by decide +kernel
theorem dX1_clear_5 : decode cX1_clear 5 = .ok (.aload_n 0, 1) := by decide +kernel
theorem dX1_clear_6 : decode cX1_clear 6 = .ok (.getfield 22, 3) := by decide +kernel
theorem dX1_clear_9 : decode cX1_clear 9 = .ok (.iconst 0, 1) := by decide +kernel
theorem dX1_clear_10 : decode cX1_clear 10 = .ok (.invokestatic 25, 3) := by decide +kernel
theorem dX1_clear_13 : decode cX1_clear 13 = .ok (.return_, 1) := by decide +kernel
theorem dX1_look_0 : decode cX1_look 0 = .ok (.aload_n 0, 1) := by decide +kernel
theorem dX1_look_1 : decode cX1_look 1 = .ok (.aload_n 1, 1) := by decide +kernel
theorem dX1_look_2 : decode cX1_look 2 = .ok (.getfield 31, 3) := by decide +kernel
theorem dX1_look_5 : decode cX1_look 5 = .ok (.putfield 18, 3) := by decide +kernel
theorem dX1_look_8 : decode cX1_look 8 = .ok (.iconst 0, 1) := by decide +kernel
theorem dX1_look_9 : decode cX1_look 9 = .ok (.istore_n 2, 1) := by decide +kernel
theorem dX1_look_10 : decode cX1_look 10 = .ok (.iload_n 2, 1) := by decide +kernel
theorem dX1_look_11 : decode cX1_look 11 = .ok (.aload_n 0, 1) := by decide +kernel
theorem dX1_look_12 : decode cX1_look 12 = .ok (.getfield 18, 3) := by decide +kernel
theorem dX1_look_15 : decode cX1_look 15 = .ok (.if_icmp .ge 20, 3) := by decide +kernel
theorem dX1_look_18 : decode cX1_look 18 = .ok (.aload_n 0, 1) := by decide +kernel
theorem dX1_look_19 : decode cX1_look 19 = .ok (.getfield 22, 3) := by decide +kernel
theorem dX1_look_22 : decode cX1_look 22 = .ok (.iload_n 2, 1) := by decide +kernel
theorem dX1_look_23 : decode cX1_look 23 = .ok (.aload_n 1, 1) := by decide +kernel
theorem dX1_look_24 : decode cX1_look 24 = .ok (.iload_n 2, 1) := by decide +kernel
theorem dX1_look_25 : decode cX1_look 25 = .ok (.invokevirtual 34, 3) := by decide +kernel
theorem dX1_look_28 : decode cX1_look 28 = .ok (.iastore, 1) := by decide +kernel
theorem dX1_look_29 : decode cX1_look 29 = .ok (.iinc 2 1, 3) := by decide +kernel
theorem dX1_look_32 : decode cX1_look 32 = .ok (.goto (-22), 3) := by decide +kernel
theorem dX1_look_35 : decode cX1_look 35 = .ok (.return_, 1) := by decide +kernel
theorem dX1_join_0 : decode cX1_join 0 = .ok (.aload_n 0, 1) := by decide +kernel
theorem dX1_join_1 : decode cX1_join 1 = .ok (.getfield 22, 3) := by decide +kernel
theorem dX1_join_4 : decode cX1_join 4 = .ok (.iload_n 1, 1) := by decide +kernel
theorem dX1_join_5 : decode cX1_join 5 = .ok (.dup2, 1) := by decide +kernel
theorem dX1_join_6 : decode cX1_join 6 = .ok (.iaload, 1) := by decide +kernel
theorem dX1_join_7 : decode cX1_join 7 = .ok (.iconst 1, 1) := by decide +kernel
theorem dX1_join_8 : decode cX1_join 8 = .ok (.iload_n 2, 1) := by decide +kernel
theorem dX1_join_9 : decode cX1_join 9 = .ok (.ishl, 1) := by decide +kernel
theorem dX1_join_10 : decode cX1_join 10 = .ok (.ior, 1) := by decide +kernel
theorem dX1_join_11 : decode cX1_join 11 = .ok (.iastore, 1) := by decide +kernel
theorem dX1_join_12 : decode cX1_join 12 = .ok (.aload_n 0, 1) := by decide +kernel
theorem dX1_join_13 : decode cX1_join 13 = .ok (.getfield 22, 3) := by decide +kernel
theorem dX1_join_16 : decode cX1_join 16 = .ok (.iload_n 2, 1) := by decide +kernel
theorem dX1_join_17 : decode cX1_join 17 = .ok (.dup2, 1) := by decide +kernel
theorem dX1_join_18 : decode cX1_join 18 = .ok (.iaload, 1) := by decide +kernel
theorem dX1_join_19 : decode cX1_join 19 = .ok (.iconst 1, 1) := by decide +kernel
theorem dX1_join_20 : decode cX1_join 20 = .ok (.iload_n 1, 1) := by decide +kernel
theorem dX1_join_21 : decode cX1_join 21 = .ok (.ishl, 1) := by decide +kernel
theorem dX1_join_22 : decode cX1_join 22 = .ok (.ior, 1) := by decide +kernel
theorem dX1_join_23 : decode cX1_join 23 = .ok (.iastore, 1) := by decide +kernel
theorem dX1_join_24 : decode cX1_join 24 = .ok (.return_, 1) := by decide +kernel
theorem dX1_pairs_0 : decode cX1_pairs 0 = .ok (.iconst 0, 1) := by decide +kernel
theorem dX1_pairs_1 : decode cX1_pairs 1 = .ok (.istore_n 1, 1) := by decide +kernel
theorem dX1_pairs_2 : decode cX1_pairs 2 = .ok (.iconst 0, 1) := by decide +kernel
theorem dX1_pairs_3 : decode cX1_pairs 3 = .ok (.istore_n 2, 1) := by decide +kernel
theorem dX1_pairs_4 : decode cX1_pairs 4 = .ok (.iload_n 2, 1) := by decide +kernel
theorem dX1_pairs_5 : decode cX1_pairs 5 = .ok (.aload_n 0, 1) := by decide +kernel
theorem dX1_pairs_6 : decode cX1_pairs 6 = .ok (.getfield 18, 3) := by decide +kernel
theorem dX1_pairs_9 : decode cX1_pairs 9 = .ok (.if_icmp .ge 21, 3) := by decide +kernel
theorem dX1_pairs_12 : decode cX1_pairs 12 = .ok (.iload_n 1, 1) := by decide +kernel
theorem dX1_pairs_13 : decode cX1_pairs 13 = .ok (.aload_n 0, 1) := by decide +kernel
theorem dX1_pairs_14 : decode cX1_pairs 14 = .ok (.getfield 22, 3) := by decide +kernel
theorem dX1_pairs_17 : decode cX1_pairs 17 = .ok (.iload_n 2, 1) := by decide +kernel
theorem dX1_pairs_18 : decode cX1_pairs 18 = .ok (.iaload, 1) := by decide +kernel
theorem dX1_pairs_19 : decode cX1_pairs 19 = .ok (.invokestatic 38, 3) := by decide +kernel
theorem dX1_pairs_22 : decode cX1_pairs 22 = .ok (.iadd, 1) := by decide +kernel
theorem dX1_pairs_23 : decode cX1_pairs 23 = .ok (.istore_n 1, 1) := by decide +kernel
theorem dX1_pairs_24 : decode cX1_pairs 24 = .ok (.iinc 2 1, 3) := by decide +kernel
theorem dX1_pairs_27 : decode cX1_pairs 27 = .ok (.goto (-23), 3) := by decide +kernel
theorem dX1_pairs_30 : decode cX1_pairs 30 = .ok (.iload_n 1, 1) := by decide +kernel
theorem dX1_pairs_31 : decode cX1_pairs 31 = .ok (.iconst 2, 1) := by decide +kernel
theorem dX1_pairs_32 : decode cX1_pairs 32 = .ok (.idiv, 1) := by decide +kernel
theorem dX1_pairs_33 : decode cX1_pairs 33 = .ok (.ireturn, 1) := by decide +kernel
theorem dX1_paintAll_0 : decode cX1_paintAll 0 = .ok (.iconst 0, 1) := by decide +kernel
theorem dX1_paintAll_1 : decode cX1_paintAll 1 = .ok (.istore_n 1, 1) := by decide +kernel
theorem dX1_paintAll_2 : decode cX1_paintAll 2 = .ok (.iload_n 1, 1) := by decide +kernel
theorem dX1_paintAll_3 : decode cX1_paintAll 3 = .ok (.aload_n 0, 1) := by decide +kernel
theorem dX1_paintAll_4 : decode cX1_paintAll 4 = .ok (.getfield 18, 3) := by decide +kernel
theorem dX1_paintAll_7 : decode cX1_paintAll 7 = .ok (.if_icmp .ge 21, 3) := by decide +kernel
theorem dX1_paintAll_10 : decode cX1_paintAll 10 = .ok (.aload_n 0, 1) := by decide +kernel
theorem dX1_paintAll_11 : decode cX1_paintAll 11 = .ok (.iconst 0, 1) := by decide +kernel
theorem dX1_paintAll_12 : decode cX1_paintAll 12 = .ok (.iconst 0, 1) := by decide +kernel
theorem dX1_paintAll_13 : decode cX1_paintAll 13 = .ok (.iload_n 1, 1) := by decide +kernel
theorem dX1_paintAll_14 : decode cX1_paintAll 14 = .ok (.invokestatic 43, 3) := by decide +kernel
theorem dX1_paintAll_17 : decode cX1_paintAll 17 = .ok (.ifCond .eq 5, 3) := by decide +kernel
theorem dX1_paintAll_20 : decode cX1_paintAll 20 = .ok (.iload_n 1, 1) := by decide +kernel
theorem dX1_paintAll_21 : decode cX1_paintAll 21 = .ok (.ireturn, 1) := by decide +kernel
theorem dX1_paintAll_22 : decode cX1_paintAll 22 = .ok (.iinc 1 1, 3) := by decide +kernel
theorem dX1_paintAll_25 : decode cX1_paintAll 25 = .ok (.goto (-23), 3) := by decide +kernel
theorem dX1_paintAll_28 : decode cX1_paintAll 28 = .ok (.aload_n 0, 1) := by decide +kernel
theorem dX1_paintAll_29 : decode cX1_paintAll 29 = .ok (.iconst 0, 1) := by decide +kernel
theorem dX1_paintAll_30 : decode cX1_paintAll 30 = .ok (.iconst 0, 1) := by decide +kernel
theorem dX1_paintAll_31 : decode cX1_paintAll 31 = .ok (.aload_n 0, 1) := by decide +kernel
theorem dX1_paintAll_32 : decode cX1_paintAll 32 = .ok (.getfield 18, 3) := by decide +kernel
theorem dX1_paintAll_35 : decode cX1_paintAll 35 = .ok (.invokestatic 43, 3) := by decide +kernel
theorem dX1_paintAll_38 : decode cX1_paintAll 38 = .ok (.pop, 1) := by decide +kernel
theorem dX1_paintAll_39 : decode cX1_paintAll 39 = .ok (.aload_n 0, 1) := by decide +kernel
theorem dX1_paintAll_40 : decode cX1_paintAll 40 = .ok (.getfield 18, 3) := by decide +kernel
theorem dX1_paintAll_43 : decode cX1_paintAll 43 = .ok (.ireturn, 1) := by decide +kernel
theorem dX1_paintFrom_0 : decode cX1_paintFrom 0 = .ok (.iload_n 1, 1) := by decide +kernel
theorem dX1_paintFrom_1 : decode cX1_paintFrom 1 = .ok (.aload_n 0, 1) := by decide +kernel
theorem dX1_paintFrom_2 : decode cX1_paintFrom 2 = .ok (.getfield 18, 3) := by decide +kernel
theorem dX1_paintFrom_5 : decode cX1_paintFrom 5 = .ok (.if_icmp .lt 5, 3) := by decide +kernel
theorem dX1_paintFrom_8 : decode cX1_paintFrom 8 = .ok (.iconst 1, 1) := by decide +kernel
theorem dX1_paintFrom_9 : decode cX1_paintFrom 9 = .ok (.ireturn, 1) := by decide +kernel
theorem dX1_paintFrom_10 : decode cX1_paintFrom 10 = .ok (.iconst 0, 1) := by decide +kernel
theorem dX1_paintFrom_11 : decode cX1_paintFrom 11 = .ok (.istore 4, 2) := by decide +kernel
theorem dX1_paintFrom_13 : decode cX1_paintFrom 13 = .ok (.iload 4, 2) := by decide +kernel
theorem dX1_paintFrom_15 : decode cX1_paintFrom 15 = .ok (.iload_n 3, 1) := by decide +kernel
theorem dX1_paintFrom_16 : decode cX1_paintFrom 16 = .ok (.if_icmp .ge 52, 3) := by decide +kernel
theorem dX1_paintFrom_19 : decode cX1_paintFrom 19 = .ok (.iload 4, 2) := by decide +kernel
theorem dX1_paintFrom_21 : decode cX1_paintFrom 21 = .ok (.iload_n 2, 1) := by decide +kernel
theorem dX1_paintFrom_22 : decode cX1_paintFrom 22 = .ok (.if_icmp .gt 46, 3) := by decide +kernel
theorem dX1_paintFrom_25 : decode cX1_paintFrom 25 = .ok (.aload_n 0, 1) := by decide +kernel
theorem dX1_paintFrom_26 : decode cX1_paintFrom 26 = .ok (.getfield 9, 3) := by decide +kernel
theorem dX1_paintFrom_29 : decode cX1_paintFrom 29 = .ok (.iload_n 1, 1) := by decide +kernel
theorem dX1_paintFrom_30 : decode cX1_paintFrom 30 = .ok (.iload 4, 2) := by decide +kernel
theorem dX1_paintFrom_32 : decode cX1_paintFrom 32 = .ok (.iastore, 1) := by decide +kernel
theorem dX1_paintFrom_33 : decode cX1_paintFrom 33 = .ok (.aload_n 0, 1) := by decide +kernel
theorem dX1_paintFrom_34 : decode cX1_paintFrom 34 = .ok (.iload_n 1, 1) := by decide +kernel
theorem dX1_paintFrom_35 : decode cX1_paintFrom 35 = .ok (.invokevirtual 47, 3) := by decide +kernel
theorem dX1_paintFrom_38 : decode cX1_paintFrom 38 = .ok (.ifCond .eq 24, 3) := by decide +kernel
theorem dX1_paintFrom_41 : decode cX1_paintFrom 41 = .ok (.aload_n 0, 1) := by decide +kernel
theorem dX1_paintFrom_42 : decode cX1_paintFrom 42 = .ok (.iload_n 1, 1) := by decide +kernel
theorem dX1_paintFrom_43 : decode cX1_paintFrom 43 = .ok (.iconst 1, 1) := by decide +kernel
theorem dX1_paintFrom_44 : decode cX1_paintFrom 44 = .ok (.iadd, 1) := by decide +kernel
theorem dX1_paintFrom_45 : decode cX1_paintFrom 45 = .ok (.iload_n 2, 1) := by decide +kernel
theorem dX1_paintFrom_46 : decode cX1_paintFrom 46 = .ok (.iload 4, 2) := by decide +kernel
theorem dX1_paintFrom_48 : decode cX1_paintFrom 48 = .ok (.iconst 1, 1) := by decide +kernel
theorem dX1_paintFrom_49 : decode cX1_paintFrom 49 = .ok (.iadd, 1) := by decide +kernel
theorem dX1_paintFrom_50 : decode cX1_paintFrom 50 = .ok (.invokestatic 51, 3) := by decide +kernel
theorem dX1_paintFrom_53 : decode cX1_paintFrom 53 = .ok (.iload_n 3, 1) := by decide +kernel
theorem dX1_paintFrom_54 : decode cX1_paintFrom 54 = .ok (.invokestatic 43, 3) := by decide +kernel
theorem dX1_paintFrom_57 : decode cX1_paintFrom 57 = .ok (.ifCond .eq 5, 3) := by decide +kernel
theorem dX1_paintFrom_60 : decode cX1_paintFrom 60 = .ok (.iconst 1, 1) := by decide +kernel
theorem dX1_paintFrom_61 : decode cX1_paintFrom 61 = .ok (.ireturn, 1) := by decide +kernel
theorem dX1_paintFrom_62 : decode cX1_paintFrom 62 = .ok (.iinc 4 1, 3) := by decide +kernel
theorem dX1_paintFrom_65 : decode cX1_paintFrom 65 = .ok (.goto (-52), 3) := by decide +kernel
theorem dX1_paintFrom_68 : decode cX1_paintFrom 68 = .ok (.iconst 0, 1) := by decide +kernel
theorem dX1_paintFrom_69 : decode cX1_paintFrom 69 = .ok (.ireturn, 1) := by decide +kernel
theorem dX1_isUnlike_0 : decode cX1_isUnlike 0 = .ok (.iconst 0, 1) := by decide +kernel
theorem dX1_isUnlike_1 : decode cX1_isUnlike 1 = .ok (.istore_n 2, 1) := by decide +kernel
theorem dX1_isUnlike_2 : decode cX1_isUnlike 2 = .ok (.iload_n 2, 1) := by decide +kernel
theorem dX1_isUnlike_3 : decode cX1_isUnlike 3 = .ok (.iload_n 1, 1) := by decide +kernel
theorem dX1_isUnlike_4 : decode cX1_isUnlike 4 = .ok (.if_icmp .ge 40, 3) := by decide +kernel
theorem dX1_isUnlike_7 : decode cX1_isUnlike 7 = .ok (.aload_n 0, 1) := by decide +kernel
theorem dX1_isUnlike_8 : decode cX1_isUnlike 8 = .ok (.getfield 22, 3) := by decide +kernel
theorem dX1_isUnlike_11 : decode cX1_isUnlike 11 = .ok (.iload_n 1, 1) := by decide +kernel
theorem dX1_isUnlike_12 : decode cX1_isUnlike 12 = .ok (.iaload, 1) := by decide +kernel
theorem dX1_isUnlike_13 : decode cX1_isUnlike 13 = .ok (.iload_n 2, 1) := by decide +kernel
theorem dX1_isUnlike_14 : decode cX1_isUnlike 14 = .ok (.ishr, 1) := by decide +kernel
theorem dX1_isUnlike_15 : decode cX1_isUnlike 15 = .ok (.iconst 1, 1) := by decide +kernel
theorem dX1_isUnlike_16 : decode cX1_isUnlike 16 = .ok (.iand, 1) := by decide +kernel
theorem dX1_isUnlike_17 : decode cX1_isUnlike 17 = .ok (.iconst 1, 1) := by decide +kernel
theorem dX1_isUnlike_18 : decode cX1_isUnlike 18 = .ok (.if_icmp .ne 20, 3) := by decide +kernel
theorem dX1_isUnlike_21 : decode cX1_isUnlike 21 = .ok (.aload_n 0, 1) := by decide +kernel
theorem dX1_isUnlike_22 : decode cX1_isUnlike 22 = .ok (.getfield 9, 3) := by decide +kernel
theorem dX1_isUnlike_25 : decode cX1_isUnlike 25 = .ok (.iload_n 2, 1) := by decide +kernel
theorem dX1_isUnlike_26 : decode cX1_isUnlike 26 = .ok (.iaload, 1) := by decide +kernel
theorem dX1_isUnlike_27 : decode cX1_isUnlike 27 = .ok (.aload_n 0, 1) := by decide +kernel
theorem dX1_isUnlike_28 : decode cX1_isUnlike 28 = .ok (.getfield 9, 3) := by decide +kernel
theorem dX1_isUnlike_31 : decode cX1_isUnlike 31 = .ok (.iload_n 1, 1) := by decide +kernel
theorem dX1_isUnlike_32 : decode cX1_isUnlike 32 = .ok (.iaload, 1) := by decide +kernel
theorem dX1_isUnlike_33 : decode cX1_isUnlike 33 = .ok (.if_icmp .ne 5, 3) := by decide +kernel
theorem dX1_isUnlike_36 : decode cX1_isUnlike 36 = .ok (.iconst 0, 1) := by decide +kernel
theorem dX1_isUnlike_37 : decode cX1_isUnlike 37 = .ok (.ireturn, 1) := by decide +kernel
theorem dX1_isUnlike_38 : decode cX1_isUnlike 38 = .ok (.iinc 2 1, 3) := by decide +kernel
theorem dX1_isUnlike_41 : decode cX1_isUnlike 41 = .ok (.goto (-39), 3) := by decide +kernel
theorem dX1_isUnlike_44 : decode cX1_isUnlike 44 = .ok (.iconst 1, 1) := by decide +kernel
theorem dX1_isUnlike_45 : decode cX1_isUnlike 45 = .ok (.ireturn, 1) := by decide +kernel
theorem dX1_largestKnot_0 : decode cX1_largestKnot 0 = .ok (.iconst 0, 1) := by decide +kernel
theorem dX1_largestKnot_1 : decode cX1_largestKnot 1 = .ok (.istore_n 1, 1) := by decide +kernel
theorem dX1_largestKnot_2 : decode cX1_largestKnot 2 = .ok (.iconst 1, 1) := by decide +kernel
theorem dX1_largestKnot_3 : decode cX1_largestKnot 3 = .ok (.istore_n 2, 1) := by decide +kernel
theorem dX1_largestKnot_4 : decode cX1_largestKnot 4 = .ok (.iload_n 2, 1) := by decide +kernel
theorem dX1_largestKnot_5 : decode cX1_largestKnot 5 = .ok (.iconst 1, 1) := by decide +kernel
theorem dX1_largestKnot_6 : decode cX1_largestKnot 6 = .ok (.aload_n 0, 1) := by decide +kernel
theorem dX1_largestKnot_7 : decode cX1_largestKnot 7 = .ok (.getfield 18, 3) := by decide +kernel
theorem dX1_largestKnot_10 : decode cX1_largestKnot 10 = .ok (.ishl, 1) := by decide +kernel
theorem dX1_largestKnot_11 : decode cX1_largestKnot 11 = .ok (.if_icmp .ge 30, 3) := by decide +kernel
theorem dX1_largestKnot_14 : decode cX1_largestKnot 14 = .ok (.iload_n 2, 1) := by decide +kernel
theorem dX1_largestKnot_15 : decode cX1_largestKnot 15 = .ok (.invokestatic 38, 3) := by decide +kernel
theorem dX1_largestKnot_18 : decode cX1_largestKnot 18 = .ok (.iload_n 1, 1) := by decide +kernel
theorem dX1_largestKnot_19 : decode cX1_largestKnot 19 = .ok (.invokestatic 38, 3) := by decide +kernel
theorem dX1_largestKnot_22 : decode cX1_largestKnot 22 = .ok (.if_icmp .le 13, 3) := by decide +kernel
theorem dX1_largestKnot_25 : decode cX1_largestKnot 25 = .ok (.aload_n 0, 1) := by decide +kernel
theorem dX1_largestKnot_26 : decode cX1_largestKnot 26 = .ok (.iload_n 2, 1) := by decide +kernel
theorem dX1_largestKnot_27 : decode cX1_largestKnot 27 = .ok (.invokevirtual 57, 3) := by decide +kernel
theorem dX1_largestKnot_30 : decode cX1_largestKnot 30 = .ok (.ifCond .eq 5, 3) := by decide +kernel
theorem dX1_largestKnot_33 : decode cX1_largestKnot 33 = .ok (.iload_n 2, 1) := by decide +kernel
theorem dX1_largestKnot_34 : decode cX1_largestKnot 34 = .ok (.istore_n 1, 1) := by decide +kernel
theorem dX1_largestKnot_35 : decode cX1_largestKnot 35 = .ok (.iinc 2 1, 3) := by decide +kernel
theorem dX1_largestKnot_38 : decode cX1_largestKnot 38 = .ok (.goto (-34), 3) := by decide +kernel
theorem dX1_largestKnot_41 : decode cX1_largestKnot 41 = .ok (.iload_n 1, 1) := by decide +kernel
theorem dX1_largestKnot_42 : decode cX1_largestKnot 42 = .ok (.ireturn, 1) := by decide +kernel
theorem dX1_isKnot_0 : decode cX1_isKnot 0 = .ok (.iconst 0, 1) := by decide +kernel
theorem dX1_isKnot_1 : decode cX1_isKnot 1 = .ok (.istore_n 2, 1) := by decide +kernel
theorem dX1_isKnot_2 : decode cX1_isKnot 2 = .ok (.iload_n 2, 1) := by decide +kernel
theorem dX1_isKnot_3 : decode cX1_isKnot 3 = .ok (.aload_n 0, 1) := by decide +kernel
theorem dX1_isKnot_4 : decode cX1_isKnot 4 = .ok (.getfield 18, 3) := by decide +kernel
theorem dX1_isKnot_7 : decode cX1_isKnot 7 = .ok (.if_icmp .ge 36, 3) := by decide +kernel
theorem dX1_isKnot_10 : decode cX1_isKnot 10 = .ok (.iload_n 1, 1) := by decide +kernel
theorem dX1_isKnot_11 : decode cX1_isKnot 11 = .ok (.iload_n 2, 1) := by decide +kernel
theorem dX1_isKnot_12 : decode cX1_isKnot 12 = .ok (.ishr, 1) := by decide +kernel
theorem dX1_isKnot_13 : decode cX1_isKnot 13 = .ok (.iconst 1, 1) := by decide +kernel
theorem dX1_isKnot_14 : decode cX1_isKnot 14 = .ok (.iand, 1) := by decide +kernel
theorem dX1_isKnot_15 : decode cX1_isKnot 15 = .ok (.iconst 1, 1) := by decide +kernel
theorem dX1_isKnot_16 : decode cX1_isKnot 16 = .ok (.if_icmp .ne 21, 3) := by decide +kernel
theorem dX1_isKnot_19 : decode cX1_isKnot 19 = .ok (.iload_n 1, 1) := by decide +kernel
theorem dX1_isKnot_20 : decode cX1_isKnot 20 = .ok (.aload_n 0, 1) := by decide +kernel
theorem dX1_isKnot_21 : decode cX1_isKnot 21 = .ok (.getfield 22, 3) := by decide +kernel
theorem dX1_isKnot_24 : decode cX1_isKnot 24 = .ok (.iload_n 2, 1) := by decide +kernel
theorem dX1_isKnot_25 : decode cX1_isKnot 25 = .ok (.iaload, 1) := by decide +kernel
theorem dX1_isKnot_26 : decode cX1_isKnot 26 = .ok (.iconst (-1), 1) := by decide +kernel
theorem dX1_isKnot_27 : decode cX1_isKnot 27 = .ok (.ixor, 1) := by decide +kernel
theorem dX1_isKnot_28 : decode cX1_isKnot 28 = .ok (.iand, 1) := by decide +kernel
theorem dX1_isKnot_29 : decode cX1_isKnot 29 = .ok (.iconst 1, 1) := by decide +kernel
theorem dX1_isKnot_30 : decode cX1_isKnot 30 = .ok (.iload_n 2, 1) := by decide +kernel
theorem dX1_isKnot_31 : decode cX1_isKnot 31 = .ok (.ishl, 1) := by decide +kernel
theorem dX1_isKnot_32 : decode cX1_isKnot 32 = .ok (.if_icmp .eq 5, 3) := by decide +kernel
theorem dX1_isKnot_35 : decode cX1_isKnot 35 = .ok (.iconst 0, 1) := by decide +kernel
theorem dX1_isKnot_36 : decode cX1_isKnot 36 = .ok (.ireturn, 1) := by decide +kernel
theorem dX1_isKnot_37 : decode cX1_isKnot 37 = .ok (.iinc 2 1, 3) := by decide +kernel
theorem dX1_isKnot_40 : decode cX1_isKnot 40 = .ok (.goto (-38), 3) := by decide +kernel
theorem dX1_isKnot_43 : decode cX1_isKnot 43 = .ok (.iconst 1, 1) := by decide +kernel
theorem dX1_isKnot_44 : decode cX1_isKnot 44 = .ok (.ireturn, 1) := by decide +kernel
theorem dX1_smallestCover_0 : decode cX1_smallestCover 0 = .ok (.iconst 1, 1) := by decide +kernel
theorem dX1_smallestCover_1 : decode cX1_smallestCover 1 = .ok (.aload_n 0, 1) := by decide +kernel
theorem dX1_smallestCover_2 : decode cX1_smallestCover 2 = .ok (.getfield 18, 3) := by decide +kernel
theorem dX1_smallestCover_5 : decode cX1_smallestCover 5 = .ok (.ishl, 1) := by decide +kernel
theorem dX1_smallestCover_6 : decode cX1_smallestCover 6 = .ok (.iconst 1, 1) := by decide +kernel
theorem dX1_smallestCover_7 : decode cX1_smallestCover 7 = .ok (.isub, 1) := by decide +kernel
theorem dX1_smallestCover_8 : decode cX1_smallestCover 8 = .ok (.istore_n 1, 1) := by decide +kernel
theorem dX1_smallestCover_9 : decode cX1_smallestCover 9 = .ok (.iconst 0, 1) := by decide +kernel
theorem dX1_smallestCover_10 : decode cX1_smallestCover 10 = .ok (.istore_n 2, 1) := by decide +kernel
theorem dX1_smallestCover_11 : decode cX1_smallestCover 11 = .ok (.iload_n 2, 1) := by decide +kernel
theorem dX1_smallestCover_12 : decode cX1_smallestCover 12 = .ok (.iconst 1, 1) := by decide +kernel
theorem dX1_smallestCover_13 : decode cX1_smallestCover 13 = .ok (.aload_n 0, 1) := by decide +kernel
theorem dX1_smallestCover_14 : decode cX1_smallestCover 14 = .ok (.getfield 18, 3) := by decide +kernel
theorem dX1_smallestCover_17 : decode cX1_smallestCover 17 = .ok (.ishl, 1) := by decide +kernel
theorem dX1_smallestCover_18 : decode cX1_smallestCover 18 = .ok (.if_icmp .ge 30, 3) := by decide +kernel
theorem dX1_smallestCover_21 : decode cX1_smallestCover 21 = .ok (.iload_n 2, 1) := by decide +kernel
theorem dX1_smallestCover_22 : decode cX1_smallestCover 22 = .ok (.invokestatic 38, 3) := by decide +kernel
theorem dX1_smallestCover_25 : decode cX1_smallestCover 25 = .ok (.iload_n 1, 1) := by decide +kernel
theorem dX1_smallestCover_26 : decode cX1_smallestCover 26 = .ok (.invokestatic 38, 3) := by decide +kernel
theorem dX1_smallestCover_29 : decode cX1_smallestCover 29 = .ok (.if_icmp .ge 13, 3) := by decide +kernel
theorem dX1_smallestCover_32 : decode cX1_smallestCover 32 = .ok (.aload_n 0, 1) := by decide +kernel
theorem dX1_smallestCover_33 : decode cX1_smallestCover 33 = .ok (.iload_n 2, 1) := by decide +kernel
theorem dX1_smallestCover_34 : decode cX1_smallestCover 34 = .ok (.invokevirtual 60, 3) := by decide +kernel
theorem dX1_smallestCover_37 : decode cX1_smallestCover 37 = .ok (.ifCond .eq 5, 3) := by decide +kernel
theorem dX1_smallestCover_40 : decode cX1_smallestCover 40 = .ok (.iload_n 2, 1) := by decide +kernel
theorem dX1_smallestCover_41 : decode cX1_smallestCover 41 = .ok (.istore_n 1, 1) := by decide +kernel
theorem dX1_smallestCover_42 : decode cX1_smallestCover 42 = .ok (.iinc 2 1, 3) := by decide +kernel
theorem dX1_smallestCover_45 : decode cX1_smallestCover 45 = .ok (.goto (-34), 3) := by decide +kernel
theorem dX1_smallestCover_48 : decode cX1_smallestCover 48 = .ok (.iload_n 1, 1) := by decide +kernel
theorem dX1_smallestCover_49 : decode cX1_smallestCover 49 = .ok (.ireturn, 1) := by decide +kernel
theorem dX1_isCover_0 : decode cX1_isCover 0 = .ok (.iconst 0, 1) := by decide +kernel
theorem dX1_isCover_1 : decode cX1_isCover 1 = .ok (.istore_n 2, 1) := by decide +kernel
theorem dX1_isCover_2 : decode cX1_isCover 2 = .ok (.iload_n 2, 1) := by decide +kernel
theorem dX1_isCover_3 : decode cX1_isCover 3 = .ok (.aload_n 0, 1) := by decide +kernel
theorem dX1_isCover_4 : decode cX1_isCover 4 = .ok (.getfield 18, 3) := by decide +kernel
theorem dX1_isCover_7 : decode cX1_isCover 7 = .ok (.if_icmp .ge 32, 3) := by decide +kernel
theorem dX1_isCover_10 : decode cX1_isCover 10 = .ok (.iload_n 1, 1) := by decide +kernel
theorem dX1_isCover_11 : decode cX1_isCover 11 = .ok (.iload_n 2, 1) := by decide +kernel
theorem dX1_isCover_12 : decode cX1_isCover 12 = .ok (.ishr, 1) := by decide +kernel
theorem dX1_isCover_13 : decode cX1_isCover 13 = .ok (.iconst 1, 1) := by decide +kernel
theorem dX1_isCover_14 : decode cX1_isCover 14 = .ok (.iand, 1) := by decide +kernel
theorem dX1_isCover_15 : decode cX1_isCover 15 = .ok (.ifCond .ne 18, 3) := by decide +kernel
theorem dX1_isCover_18 : decode cX1_isCover 18 = .ok (.aload_n 0, 1) := by decide +kernel
theorem dX1_isCover_19 : decode cX1_isCover 19 = .ok (.getfield 22, 3) := by decide +kernel
theorem dX1_isCover_22 : decode cX1_isCover 22 = .ok (.iload_n 2, 1) := by decide +kernel
theorem dX1_isCover_23 : decode cX1_isCover 23 = .ok (.iaload, 1) := by decide +kernel
theorem dX1_isCover_24 : decode cX1_isCover 24 = .ok (.iload_n 1, 1) := by decide +kernel
theorem dX1_isCover_25 : decode cX1_isCover 25 = .ok (.iconst (-1), 1) := by decide +kernel
theorem dX1_isCover_26 : decode cX1_isCover 26 = .ok (.ixor, 1) := by decide +kernel
theorem dX1_isCover_27 : decode cX1_isCover 27 = .ok (.iand, 1) := by decide +kernel
theorem dX1_isCover_28 : decode cX1_isCover 28 = .ok (.ifCond .eq 5, 3) := by decide +kernel
theorem dX1_isCover_31 : decode cX1_isCover 31 = .ok (.iconst 0, 1) := by decide +kernel
theorem dX1_isCover_32 : decode cX1_isCover 32 = .ok (.ireturn, 1) := by decide +kernel
theorem dX1_isCover_33 : decode cX1_isCover 33 = .ok (.iinc 2 1, 3) := by decide +kernel
theorem dX1_isCover_36 : decode cX1_isCover 36 = .ok (.goto (-34), 3) := by decide +kernel
theorem dX1_isCover_39 : decode cX1_isCover 39 = .ok (.iconst 1, 1) := by decide +kernel
theorem dX1_isCover_40 : decode cX1_isCover 40 = .ok (.ireturn, 1) := by decide +kernel
theorem dX1_measureTo_0 : decode cX1_measureTo 0 = .ok (.aload_n 0, 1) := by decide +kernel
theorem dX1_measureTo_1 : decode cX1_measureTo 1 = .ok (.getfield 15, 3) := by decide +kernel
theorem dX1_measureTo_4 : decode cX1_measureTo 4 = .ok (.iconst (-1), 1) := by decide +kernel
theorem dX1_measureTo_5 : decode cX1_measureTo 5 = .ok (.invokestatic 25, 3) := by decide +kernel
theorem dX1_measureTo_8 : decode cX1_measureTo 8 = .ok (.aload_n 0, 1) := by decide +kernel
theorem dX1_measureTo_9 : decode cX1_measureTo 9 = .ok (.getfield 15, 3) := by decide +kernel
theorem dX1_measureTo_12 : decode cX1_measureTo 12 = .ok (.iload_n 1, 1) := by decide +kernel
theorem dX1_measureTo_13 : decode cX1_measureTo 13 = .ok (.iconst 0, 1) := by decide +kernel
theorem dX1_measureTo_14 : decode cX1_measureTo 14 = .ok (.iastore, 1) := by decide +kernel
theorem dX1_measureTo_15 : decode cX1_measureTo 15 = .ok (.iconst 0, 1) := by decide +kernel
theorem dX1_measureTo_16 : decode cX1_measureTo 16 = .ok (.istore_n 2, 1) := by decide +kernel
theorem dX1_measureTo_17 : decode cX1_measureTo 17 = .ok (.iload_n 2, 1) := by decide +kernel
theorem dX1_measureTo_18 : decode cX1_measureTo 18 = .ok (.aload_n 0, 1) := by decide +kernel
theorem dX1_measureTo_19 : decode cX1_measureTo 19 = .ok (.getfield 18, 3) := by decide +kernel
theorem dX1_measureTo_22 : decode cX1_measureTo 22 = .ok (.if_icmp .ge 43, 3) := by decide +kernel
theorem dX1_measureTo_25 : decode cX1_measureTo 25 = .ok (.iconst 0, 1) := by decide +kernel
theorem dX1_measureTo_26 : decode cX1_measureTo 26 = .ok (.istore_n 3, 1) := by decide +kernel
theorem dX1_measureTo_27 : decode cX1_measureTo 27 = .ok (.iload_n 3, 1) := by decide +kernel
theorem dX1_measureTo_28 : decode cX1_measureTo 28 = .ok (.aload_n 0, 1) := by decide +kernel
theorem dX1_measureTo_29 : decode cX1_measureTo 29 = .ok (.getfield 18, 3) := by decide +kernel
theorem dX1_measureTo_32 : decode cX1_measureTo 32 = .ok (.if_icmp .ge 27, 3) := by decide +kernel
theorem dX1_measureTo_35 : decode cX1_measureTo 35 = .ok (.aload_n 0, 1) := by decide +kernel
theorem dX1_measureTo_36 : decode cX1_measureTo 36 = .ok (.getfield 15, 3) := by decide +kernel
theorem dX1_measureTo_39 : decode cX1_measureTo 39 = .ok (.iload_n 3, 1) := by decide +kernel
theorem dX1_measureTo_40 : decode cX1_measureTo 40 = .ok (.iaload, 1) := by decide +kernel
theorem dX1_measureTo_41 : decode cX1_measureTo 41 = .ok (.iload_n 2, 1) := by decide +kernel
theorem dX1_measureTo_42 : decode cX1_measureTo 42 = .ok (.if_icmp .ne 11, 3) := by decide +kernel
theorem dX1_measureTo_45 : decode cX1_measureTo 45 = .ok (.aload_n 0, 1) := by decide +kernel
theorem dX1_measureTo_46 : decode cX1_measureTo 46 = .ok (.iload_n 3, 1) := by decide +kernel
theorem dX1_measureTo_47 : decode cX1_measureTo 47 = .ok (.iload_n 2, 1) := by decide +kernel
theorem dX1_measureTo_48 : decode cX1_measureTo 48 = .ok (.iconst 1, 1) := by decide +kernel
theorem dX1_measureTo_49 : decode cX1_measureTo 49 = .ok (.iadd, 1) := by decide +kernel
theorem dX1_measureTo_50 : decode cX1_measureTo 50 = .ok (.invokevirtual 63, 3) := by decide +kernel
theorem dX1_measureTo_53 : decode cX1_measureTo 53 = .ok (.iinc 3 1, 3) := by decide +kernel
theorem dX1_measureTo_56 : decode cX1_measureTo 56 = .ok (.goto (-29), 3) := by decide +kernel
theorem dX1_measureTo_59 : decode cX1_measureTo 59 = .ok (.iinc 2 1, 3) := by decide +kernel
theorem dX1_measureTo_62 : decode cX1_measureTo 62 = .ok (.goto (-45), 3) := by decide +kernel
theorem dX1_measureTo_65 : decode cX1_measureTo 65 = .ok (.return_, 1) := by decide +kernel
theorem dX1_measureAround_0 : decode cX1_measureAround 0 = .ok (.iconst 0, 1) := by decide +kernel
theorem dX1_measureAround_1 : decode cX1_measureAround 1 = .ok (.istore_n 3, 1) := by decide +kernel
theorem dX1_measureAround_2 : decode cX1_measureAround 2 = .ok (.iload_n 3, 1) := by decide +kernel
theorem dX1_measureAround_3 : decode cX1_measureAround 3 = .ok (.aload_n 0, 1) := by decide +kernel
theorem dX1_measureAround_4 : decode cX1_measureAround 4 = .ok (.getfield 18, 3) := by decide +kernel
theorem dX1_measureAround_7 : decode cX1_measureAround 7 = .ok (.if_icmp .ge 40, 3) := by decide +kernel
theorem dX1_measureAround_10 : decode cX1_measureAround 10 = .ok (.aload_n 0, 1) := by decide +kernel
theorem dX1_measureAround_11 : decode cX1_measureAround 11 = .ok (.getfield 22, 3) := by decide +kernel
theorem dX1_measureAround_14 : decode cX1_measureAround 14 = .ok (.iload_n 1, 1) := by decide +kernel
theorem dX1_measureAround_15 : decode cX1_measureAround 15 = .ok (.iaload, 1) := by decide +kernel
theorem dX1_measureAround_16 : decode cX1_measureAround 16 = .ok (.iload_n 3, 1) := by decide +kernel
theorem dX1_measureAround_17 : decode cX1_measureAround 17 = .ok (.ishr, 1) := by decide +kernel
theorem dX1_measureAround_18 : decode cX1_measureAround 18 = .ok (.iconst 1, 1) := by decide +kernel
theorem dX1_measureAround_19 : decode cX1_measureAround 19 = .ok (.iand, 1) := by decide +kernel
theorem dX1_measureAround_20 : decode cX1_measureAround 20 = .ok (.iconst 1, 1) := by decide +kernel
theorem dX1_measureAround_21 : decode cX1_measureAround 21 = .ok (.if_icmp .ne 20, 3) := by decide +kernel
theorem dX1_measureAround_24 : decode cX1_measureAround 24 = .ok (.aload_n 0, 1) := by decide +kernel
theorem dX1_measureAround_25 : decode cX1_measureAround 25 = .ok (.getfield 15, 3) := by decide +kernel
theorem dX1_measureAround_28 : decode cX1_measureAround 28 = .ok (.iload_n 3, 1) := by decide +kernel
theorem dX1_measureAround_29 : decode cX1_measureAround 29 = .ok (.iaload, 1) := by decide +kernel
theorem dX1_measureAround_30 : decode cX1_measureAround 30 = .ok (.iconst (-1), 1) := by decide +kernel
theorem dX1_measureAround_31 : decode cX1_measureAround 31 = .ok (.if_icmp .ne 10, 3) := by decide +kernel
theorem dX1_measureAround_34 : decode cX1_measureAround 34 = .ok (.aload_n 0, 1) := by decide +kernel
theorem dX1_measureAround_35 : decode cX1_measureAround 35 = .ok (.getfield 15, 3) := by decide +kernel
theorem dX1_measureAround_38 : decode cX1_measureAround 38 = .ok (.iload_n 3, 1) := by decide +kernel
theorem dX1_measureAround_39 : decode cX1_measureAround 39 = .ok (.iload_n 2, 1) := by decide +kernel
theorem dX1_measureAround_40 : decode cX1_measureAround 40 = .ok (.iastore, 1) := by decide +kernel
theorem dX1_measureAround_41 : decode cX1_measureAround 41 = .ok (.iinc 3 1, 3) := by decide +kernel
theorem dX1_measureAround_44 : decode cX1_measureAround 44 = .ok (.goto (-42), 3) := by decide +kernel
theorem dX1_measureAround_47 : decode cX1_measureAround 47 = .ok (.return_, 1) := by decide +kernel
theorem dX1_nearer_0 : decode cX1_nearer 0 = .ok (.iconst 0, 1) := by decide +kernel
theorem dX1_nearer_1 : decode cX1_nearer 1 = .ok (.istore_n 3, 1) := by decide +kernel
theorem dX1_nearer_2 : decode cX1_nearer 2 = .ok (.iload_n 3, 1) := by decide +kernel
theorem dX1_nearer_3 : decode cX1_nearer 3 = .ok (.aload_n 0, 1) := by decide +kernel
theorem dX1_nearer_4 : decode cX1_nearer 4 = .ok (.getfield 18, 3) := by decide +kernel
theorem dX1_nearer_7 : decode cX1_nearer 7 = .ok (.if_icmp .ge 35, 3) := by decide +kernel
theorem dX1_nearer_10 : decode cX1_nearer 10 = .ok (.aload_n 0, 1) := by decide +kernel
theorem dX1_nearer_11 : decode cX1_nearer 11 = .ok (.getfield 22, 3) := by decide +kernel
theorem dX1_nearer_14 : decode cX1_nearer 14 = .ok (.iload_n 1, 1) := by decide +kernel
theorem dX1_nearer_15 : decode cX1_nearer 15 = .ok (.iaload, 1) := by decide +kernel
theorem dX1_nearer_16 : decode cX1_nearer 16 = .ok (.iload_n 3, 1) := by decide +kernel
theorem dX1_nearer_17 : decode cX1_nearer 17 = .ok (.ishr, 1) := by decide +kernel
theorem dX1_nearer_18 : decode cX1_nearer 18 = .ok (.iconst 1, 1) := by decide +kernel
theorem dX1_nearer_19 : decode cX1_nearer 19 = .ok (.iand, 1) := by decide +kernel
theorem dX1_nearer_20 : decode cX1_nearer 20 = .ok (.iconst 1, 1) := by decide +kernel
theorem dX1_nearer_21 : decode cX1_nearer 21 = .ok (.if_icmp .ne 15, 3) := by decide +kernel
theorem dX1_nearer_24 : decode cX1_nearer 24 = .ok (.aload_n 0, 1) := by decide +kernel
theorem dX1_nearer_25 : decode cX1_nearer 25 = .ok (.getfield 15, 3) := by decide +kernel
theorem dX1_nearer_28 : decode cX1_nearer 28 = .ok (.iload_n 3, 1) := by decide +kernel
theorem dX1_nearer_29 : decode cX1_nearer 29 = .ok (.iaload, 1) := by decide +kernel
theorem dX1_nearer_30 : decode cX1_nearer 30 = .ok (.iload_n 2, 1) := by decide +kernel
theorem dX1_nearer_31 : decode cX1_nearer 31 = .ok (.if_icmp .ne 5, 3) := by decide +kernel
theorem dX1_nearer_34 : decode cX1_nearer 34 = .ok (.iload_n 3, 1) := by decide +kernel
theorem dX1_nearer_35 : decode cX1_nearer 35 = .ok (.ireturn, 1) := by decide +kernel
theorem dX1_nearer_36 : decode cX1_nearer 36 = .ok (.iinc 3 1, 3) := by decide +kernel
theorem dX1_nearer_39 : decode cX1_nearer 39 = .ok (.goto (-37), 3) := by decide +kernel
theorem dX1_nearer_42 : decode cX1_nearer 42 = .ok (.iload_n 1, 1) := by decide +kernel
theorem dX1_nearer_43 : decode cX1_nearer 43 = .ok (.ireturn, 1) := by decide +kernel
theorem dX2_init_0 : decode cX2_init 0 = .ok (.aload_n 0, 1) := by decide +kernel
theorem dX2_init_1 : decode cX2_init 1 = .ok (.invokespecial 3, 3) := by decide +kernel
theorem dX2_init_4 : decode cX2_init 4 = .ok (.aload_n 0, 1) := by decide +kernel
theorem dX2_init_5 : decode cX2_init 5 = .ok (.bipush 9, 2) := by decide +kernel
theorem dX2_init_7 : decode cX2_init 7 = .ok (.newarray .int, 2) := by decide +kernel
theorem dX2_init_9 : decode cX2_init 9 = .ok (.putfield 9, 3) := by decide +kernel
theorem dX2_init_12 : decode cX2_init 12 = .ok (.aload_n 0, 1) := by decide +kernel
theorem dX2_init_13 : decode cX2_init 13 = .ok (.bipush 9, 2) := by decide +kernel
theorem dX2_init_15 : decode cX2_init 15 = .ok (.newarray .int, 2) := by decide +kernel
theorem dX2_init_17 : decode cX2_init 17 = .ok (.putfield 15, 3) := by decide +kernel
theorem dX2_init_20 : decode cX2_init 20 = .ok (.aload_n 0, 1) := by decide +kernel
theorem dX2_init_21 : decode cX2_init 21 = .ok (.bipush 9, 2) := by decide +kernel
theorem dX2_init_23 : decode cX2_init 23 = .ok (.newarray .int, 2) := by decide +kernel
theorem dX2_init_25 : decode cX2_init 25 = .ok (.putfield 18, 3) := by decide +kernel
theorem dX2_init_28 : decode cX2_init 28 = .ok (.aload_n 0, 1) := by decide +kernel
theorem dX2_init_29 : decode cX2_init 29 = .ok (.iconst 3, 1) := by decide +kernel
theorem dX2_init_30 : decode cX2_init 30 = .ok (.newarray .int, 2) := by decide +kernel
theorem dX2_init_32 : decode cX2_init 32 = .ok (.putfield 21, 3) := by decide +kernel
theorem dX2_init_35 : decode cX2_init 35 = .ok (.aload_n 0, 1) := by decide +kernel
theorem dX2_init_36 : decode cX2_init 36 = .ok (.iconst 0, 1) := by decide +kernel
theorem dX2_init_37 : decode cX2_init 37 = .ok (.putfield 24, 3) := by decide +kernel
theorem dX2_init_40 : decode cX2_init 40 = .ok (.aload_n 0, 1) := by decide +kernel
theorem dX2_init_41 : decode cX2_init 41 = .ok (.iconst 0, 1) := by decide +kernel
theorem dX2_init_42 : decode cX2_init 42 = .ok (.putfield 28, 3) := by decide +kernel
theorem dX2_init_45 : decode cX2_init 45 = .ok (.aload_n 0, 1) := by decide +kernel
theorem dX2_init_46 : decode cX2_init 46 = .ok (.bipush 81, 2) := by decide +kernel
theorem dX2_init_48 : decode cX2_init 48 = .ok (.newarray .int, 2) := by decide +kernel
theorem dX2_init_50 : decode cX2_init 50 = .ok (.putfield 31, 3) := by decide +kernel
theorem dX2_init_53 : decode cX2_init 53 = .ok (.aload_n 0, 1) := by decide +kernel
theorem dX2_init_54 : decode cX2_init 54 = .ok (.getfield 21, 3) := by decide +kernel
theorem dX2_init_57 : decode cX2_init 57 = .ok (.iconst 1, 1) := by decide +kernel
theorem dX2_init_58 : decode cX2_init 58 = .ok (.invokestatic 34, 3) := by decide +kernel
theorem dX2_init_61 : decode cX2_init 61 = .ok (.aload_n 0, 1) := by decide +kernel
theorem dX2_init_62 : decode cX2_init 62 = .ok (.getfield 31, 3) := by decide +kernel
theorem dX2_init_65 : decode cX2_init 65 = .ok (.iconst (-1), 1) := by decide +kernel
theorem dX2_init_66 : decode cX2_init 66 = .ok (.invokestatic 34, 3) := by decide +kernel
theorem dX2_init_69 : decode cX2_init 69 = .ok (.return_, 1) := by decide +kernel
theorem dX2_has_0 : decode cX2_has 0 = .ok (.iload_n 1, 1) := by decide +kernel
theorem dX2_has_1 : decode cX2_has 1 = .ok (.ifCond .lt 15, 3) := by decide +kernel
theorem dX2_has_4 : decode cX2_has 4 = .ok (.iload_n 1, 1) := by decide +kernel
theorem dX2_has_5 : decode cX2_has 5 = .ok (.aload_n 0, 1) := by decide +kernel
theorem dX2_has_6 : decode cX2_has 6 = .ok (.getfield 24, 3) := by decide +kernel
theorem dX2_has_9 : decode cX2_has 9 = .ok (.if_icmp .ge 7, 3) := by decide +kernel
theorem dX2_has_12 : decode cX2_has 12 = .ok (.iconst 1, 1) := by decide +kernel
theorem dX2_has_13 : decode cX2_has 13 = .ok (.goto 4, 3) := by decide +kernel
theorem dX2_has_16 : decode cX2_has 16 = .ok (.iconst 0, 1) := by decide +kernel
theorem dX2_has_17 : decode cX2_has 17 = .ok (.ireturn, 1) := by decide +kernel
theorem dX2_hasTwo_0 : decode cX2_hasTwo 0 = .ok (.aload_n 0, 1) := by decide +kernel
theorem dX2_hasTwo_1 : decode cX2_hasTwo 1 = .ok (.iload_n 1, 1) := by decide +kernel
theorem dX2_hasTwo_2 : decode cX2_hasTwo 2 = .ok (.invokevirtual 40, 3) := by decide +kernel
theorem dX2_hasTwo_5 : decode cX2_hasTwo 5 = .ok (.ifCond .eq 20, 3) := by decide +kernel
theorem dX2_hasTwo_8 : decode cX2_hasTwo 8 = .ok (.aload_n 0, 1) := by decide +kernel
theorem dX2_hasTwo_9 : decode cX2_hasTwo 9 = .ok (.iload_n 2, 1) := by decide +kernel
theorem dX2_hasTwo_10 : decode cX2_hasTwo 10 = .ok (.invokevirtual 40, 3) := by decide +kernel
theorem dX2_hasTwo_13 : decode cX2_hasTwo 13 = .ok (.ifCond .eq 12, 3) := by decide +kernel
theorem dX2_hasTwo_16 : decode cX2_hasTwo 16 = .ok (.iload_n 1, 1) := by decide +kernel
theorem dX2_hasTwo_17 : decode cX2_hasTwo 17 = .ok (.iload_n 2, 1) := by decide +kernel
theorem dX2_hasTwo_18 : decode cX2_hasTwo 18 = .ok (.if_icmp .eq 7, 3) := by decide +kernel
theorem dX2_hasTwo_21 : decode cX2_hasTwo 21 = .ok (.iconst 1, 1) := by decide +kernel
theorem dX2_hasTwo_22 : decode cX2_hasTwo 22 = .ok (.goto 4, 3) := by decide +kernel
theorem dX2_hasTwo_25 : decode cX2_hasTwo 25 = .ok (.iconst 0, 1) := by decide +kernel
theorem dX2_hasTwo_26 : decode cX2_hasTwo 26 = .ok (.ireturn, 1) := by decide +kernel
theorem dX2_hasAll_0 : decode cX2_hasAll 0 = .ok (.iload_n 1, 1) := by decide +kernel
theorem dX2_hasAll_1 : decode cX2_hasAll 1 = .ok (.aload_n 0, 1) := by decide +kernel
theorem dX2_hasAll_2 : decode cX2_hasAll 2 = .ok (.invokevirtual 44, 3) := by decide +kernel
theorem dX2_hasAll_5 : decode cX2_hasAll 5 = .ok (.iconst (-1), 1) := by decide +kernel
theorem dX2_hasAll_6 : decode cX2_hasAll 6 = .ok (.ixor, 1) := by decide +kernel
theorem dX2_hasAll_7 : decode cX2_hasAll 7 = .ok (.iand, 1) := by decide +kernel
theorem dX2_hasAll_8 : decode cX2_hasAll 8 = .ok (.ifCond .ne 7, 3) := by decide +kernel
theorem dX2_hasAll_11 : decode cX2_hasAll 11 = .ok (.iconst 1, 1) := by decide +kernel
theorem dX2_hasAll_12 : decode cX2_hasAll 12 = .ok (.goto 4, 3) := by decide +kernel
theorem dX2_hasAll_15 : decode cX2_hasAll 15 = .ok (.iconst 0, 1) := by decide +kernel
theorem dX2_hasAll_16 : decode cX2_hasAll 16 = .ok (.ireturn, 1) := by decide +kernel
theorem dX2_everyone_0 : decode cX2_everyone 0 = .ok (.iconst 1, 1) := by decide +kernel
theorem dX2_everyone_1 : decode cX2_everyone 1 = .ok (.aload_n 0, 1) := by decide +kernel
theorem dX2_everyone_2 : decode cX2_everyone 2 = .ok (.getfield 24, 3) := by decide +kernel
theorem dX2_everyone_5 : decode cX2_everyone 5 = .ok (.ishl, 1) := by decide +kernel
theorem dX2_everyone_6 : decode cX2_everyone 6 = .ok (.iconst 1, 1) := by decide +kernel
theorem dX2_everyone_7 : decode cX2_everyone 7 = .ok (.isub, 1) := by decide +kernel
theorem dX2_everyone_8 : decode cX2_everyone 8 = .ok (.ireturn, 1) := by decide +kernel
theorem dX2_settle_0 : decode cX2_settle 0 = .ok (.aload_n 0, 1) := by decide +kernel
theorem dX2_settle_1 : decode cX2_settle 1 = .ok (.getfield 24, 3) := by decide +kernel
theorem dX2_settle_4 : decode cX2_settle 4 = .ok (.bipush 9, 2) := by decide +kernel
theorem dX2_settle_6 : decode cX2_settle 6 = .ok (.if_icmp .ne 5, 3) := by decide +kernel
theorem dX2_settle_9 : decode cX2_settle 9 = .ok (.iconst (-1), 1) := by decide +kernel
theorem dX2_settle_10 : decode cX2_settle 10 = .ok (.ireturn, 1) := by decide +kernel
theorem dX2_settle_11 : decode cX2_settle 11 = .ok (.aload_n 0, 1) := by decide +kernel
theorem dX2_settle_12 : decode cX2_settle 12 = .ok (.getfield 9, 3) := by decide +kernel
theorem dX2_settle_15 : decode cX2_settle 15 = .ok (.aload_n 0, 1) := by decide +kernel
theorem dX2_settle_16 : decode cX2_settle 16 = .ok (.getfield 24, 3) := by decide +kernel
theorem dX2_settle_19 : decode cX2_settle 19 = .ok (.iload_n 1, 1) := by decide +kernel
theorem dX2_settle_20 : decode cX2_settle 20 = .ok (.iastore, 1) := by decide +kernel
theorem dX2_settle_21 : decode cX2_settle 21 = .ok (.aload_n 0, 1) := by decide +kernel
theorem dX2_settle_22 : decode cX2_settle 22 = .ok (.getfield 15, 3) := by decide +kernel
theorem dX2_settle_25 : decode cX2_settle 25 = .ok (.aload_n 0, 1) := by decide +kernel
theorem dX2_settle_26 : decode cX2_settle 26 = .ok (.getfield 24, 3) := by decide +kernel
theorem dX2_settle_29 : decode cX2_settle 29 = .ok (.iload_n 2, 1) := by decide +kernel
theorem dX2_settle_30 : decode cX2_settle 30 = .ok (.iastore, 1) := by decide +kernel
theorem dX2_settle_31 : decode cX2_settle 31 = .ok (.aload_n 0, 1) := by decide +kernel
theorem dX2_settle_32 : decode cX2_settle 32 = .ok (.dup, 1) := by decide +kernel
theorem dX2_settle_33 : decode cX2_settle 33 = .ok (.getfield 24, 3) := by decide +kernel
theorem dX2_settle_36 : decode cX2_settle 36 = .ok (.iconst 1, 1) := by decide +kernel
theorem dX2_settle_37 : decode cX2_settle 37 = .ok (.iadd, 1) := by decide +kernel
theorem dX2_settle_38 : decode cX2_settle 38 = .ok (.putfield 24, 3) := by decide +kernel
theorem dX2_settle_41 : decode cX2_settle 41 = .ok (.aload_n 0, 1) := by decide +kernel
theorem dX2_settle_42 : decode cX2_settle 42 = .ok (.getfield 24, 3) := by decide +kernel
theorem dX2_settle_45 : decode cX2_settle 45 = .ok (.iconst 1, 1) := by decide +kernel
theorem dX2_settle_46 : decode cX2_settle 46 = .ok (.isub, 1) := by decide +kernel
theorem dX2_settle_47 : decode cX2_settle 47 = .ok (.ireturn, 1) := by decide +kernel
theorem dX2_between_0 : decode cX2_between 0 = .ok (.aload_n 0, 1) := by decide +kernel
theorem dX2_between_1 : decode cX2_between 1 = .ok (.getfield 31, 3) := by decide +kernel
theorem dX2_between_4 : decode cX2_between 4 = .ok (.iload_n 1, 1) := by decide +kernel
theorem dX2_between_5 : decode cX2_between 5 = .ok (.bipush 9, 2) := by decide +kernel
theorem dX2_between_7 : decode cX2_between 7 = .ok (.imul, 1) := by decide +kernel
theorem dX2_between_8 : decode cX2_between 8 = .ok (.iload_n 2, 1) := by decide +kernel
theorem dX2_between_9 : decode cX2_between 9 = .ok (.iadd, 1) := by decide +kernel
theorem dX2_between_10 : decode cX2_between 10 = .ok (.iaload, 1) := by decide +kernel
theorem dX2_between_11 : decode cX2_between 11 = .ok (.ireturn, 1) := by decide +kernel
theorem dX2_join_0 : decode cX2_join 0 = .ok (.aload_n 0, 1) := by decide +kernel
theorem dX2_join_1 : decode cX2_join 1 = .ok (.getfield 31, 3) := by decide +kernel
theorem dX2_join_4 : decode cX2_join 4 = .ok (.iload_n 1, 1) := by decide +kernel
theorem dX2_join_5 : decode cX2_join 5 = .ok (.bipush 9, 2) := by decide +kernel
theorem dX2_join_7 : decode cX2_join 7 = .ok (.imul, 1) := by decide +kernel
theorem dX2_join_8 : decode cX2_join 8 = .ok (.iload_n 2, 1) := by decide +kernel
theorem dX2_join_9 : decode cX2_join 9 = .ok (.iadd, 1) := by decide +kernel
theorem dX2_join_10 : decode cX2_join 10 = .ok (.iload_n 3, 1) := by decide +kernel
theorem dX2_join_11 : decode cX2_join 11 = .ok (.iastore, 1) := by decide +kernel
theorem dX2_join_12 : decode cX2_join 12 = .ok (.aload_n 0, 1) := by decide +kernel
theorem dX2_join_13 : decode cX2_join 13 = .ok (.getfield 31, 3) := by decide +kernel
theorem dX2_join_16 : decode cX2_join 16 = .ok (.iload_n 2, 1) := by decide +kernel
theorem dX2_join_17 : decode cX2_join 17 = .ok (.bipush 9, 2) := by decide +kernel
theorem dX2_join_19 : decode cX2_join 19 = .ok (.imul, 1) := by decide +kernel
theorem dX2_join_20 : decode cX2_join 20 = .ok (.iload_n 1, 1) := by decide +kernel
theorem dX2_join_21 : decode cX2_join 21 = .ok (.iadd, 1) := by decide +kernel
theorem dX2_join_22 : decode cX2_join 22 = .ok (.iload_n 3, 1) := by decide +kernel
theorem dX2_join_23 : decode cX2_join 23 = .ok (.iastore, 1) := by decide +kernel
theorem dX2_join_24 : decode cX2_join 24 = .ok (.return_, 1) := by decide +kernel
theorem dX2_touching_0 : decode cX2_touching 0 = .ok (.iconst 0, 1) := by decide +kernel
theorem dX2_touching_1 : decode cX2_touching 1 = .ok (.istore_n 2, 1) := by decide +kernel
theorem dX2_touching_2 : decode cX2_touching 2 = .ok (.iconst 0, 1) := by decide +kernel
theorem dX2_touching_3 : decode cX2_touching 3 = .ok (.istore_n 3, 1) := by decide +kernel
theorem dX2_touching_4 : decode cX2_touching 4 = .ok (.iload_n 3, 1) := by decide +kernel
theorem dX2_touching_5 : decode cX2_touching 5 = .ok (.aload_n 0, 1) := by decide +kernel
theorem dX2_touching_6 : decode cX2_touching 6 = .ok (.getfield 24, 3) := by decide +kernel
theorem dX2_touching_9 : decode cX2_touching 9 = .ok (.if_icmp .ge 29, 3) := by decide +kernel
theorem dX2_touching_12 : decode cX2_touching 12 = .ok (.iload_n 2, 1) := by decide +kernel
theorem dX2_touching_13 : decode cX2_touching 13 = .ok (.aload_n 0, 1) := by decide +kernel
theorem dX2_touching_14 : decode cX2_touching 14 = .ok (.iload_n 1, 1) := by decide +kernel
theorem dX2_touching_15 : decode cX2_touching 15 = .ok (.iload_n 3, 1) := by decide +kernel
theorem dX2_touching_16 : decode cX2_touching 16 = .ok (.invokevirtual 48, 3) := by decide +kernel
theorem dX2_touching_19 : decode cX2_touching 19 = .ok (.iconst (-1), 1) := by decide +kernel
theorem dX2_touching_20 : decode cX2_touching 20 = .ok (.if_icmp .eq 9, 3) := by decide +kernel
theorem dX2_touching_23 : decode cX2_touching 23 = .ok (.iconst 1, 1) := by decide +kernel
theorem dX2_touching_24 : decode cX2_touching 24 = .ok (.iload_n 3, 1) := by decide +kernel
theorem dX2_touching_25 : decode cX2_touching 25 = .ok (.ishl, 1) := by decide +kernel
theorem dX2_touching_26 : decode cX2_touching 26 = .ok (.goto 4, 3) := by decide +kernel
theorem dX2_touching_29 : decode cX2_touching 29 = .ok (.iconst 0, 1) := by decide +kernel
theorem dX2_touching_30 : decode cX2_touching 30 = .ok (.ior, 1) := by decide +kernel
theorem dX2_touching_31 : decode cX2_touching 31 = .ok (.istore_n 2, 1) := by decide +kernel
theorem dX2_touching_32 : decode cX2_touching 32 = .ok (.iinc 3 1, 3) := by decide +kernel
theorem dX2_touching_35 : decode cX2_touching 35 = .ok (.goto (-31), 3) := by decide +kernel
theorem dX2_touching_38 : decode cX2_touching 38 = .ok (.iload_n 2, 1) := by decide +kernel
theorem dX2_touching_39 : decode cX2_touching 39 = .ok (.ireturn, 1) := by decide +kernel
theorem dX2_touchingPairs_0 : decode cX2_touchingPairs 0 = .ok (.iconst 0, 1) := by decide +kernel
theorem dX2_touchingPairs_1 : decode cX2_touchingPairs 1 = .ok (.istore_n 1, 1) := by decide +kernel
theorem dX2_touchingPairs_2 : decode cX2_touchingPairs 2 = .ok (.iconst 0, 1) := by decide +kernel
theorem dX2_touchingPairs_3 : decode cX2_touchingPairs 3 = .ok (.istore_n 2, 1) := by decide +kernel
theorem dX2_touchingPairs_4 : decode cX2_touchingPairs 4 = .ok (.iload_n 2, 1) := by decide +kernel
theorem dX2_touchingPairs_5 : decode cX2_touchingPairs 5 = .ok (.aload_n 0, 1) := by decide +kernel
theorem dX2_touchingPairs_6 : decode cX2_touchingPairs 6 = .ok (.getfield 24, 3) := by decide +kernel
theorem dX2_touchingPairs_9 : decode cX2_touchingPairs 9 = .ok (.if_icmp .ge 20, 3) := by decide +kernel
theorem dX2_touchingPairs_12 : decode cX2_touchingPairs 12 = .ok (.iload_n 1, 1) := by decide +kernel
theorem dX2_touchingPairs_13 : decode cX2_touchingPairs 13 = .ok (.aload_n 0, 1) := by decide +kernel
theorem dX2_touchingPairs_14 : decode cX2_touchingPairs 14 = .ok (.iload_n 2, 1) := by decide +kernel
theorem dX2_touchingPairs_15 : decode cX2_touchingPairs 15 = .ok (.invokevirtual 52, 3) := by decide +kernel
theorem dX2_touchingPairs_18 : decode cX2_touchingPairs 18 = .ok (.invokestatic 56, 3) := by decide +kernel
theorem dX2_touchingPairs_21 : decode cX2_touchingPairs 21 = .ok (.iadd, 1) := by decide +kernel
theorem dX2_touchingPairs_22 : decode cX2_touchingPairs 22 = .ok (.istore_n 1, 1) := by decide +kernel
theorem dX2_touchingPairs_23 : decode cX2_touchingPairs 23 = .ok (.iinc 2 1, 3) := by decide +kernel
theorem dX2_touchingPairs_26 : decode cX2_touchingPairs 26 = .ok (.goto (-22), 3) := by decide +kernel
theorem dX2_touchingPairs_29 : decode cX2_touchingPairs 29 = .ok (.iload_n 1, 1) := by decide +kernel
theorem dX2_touchingPairs_30 : decode cX2_touchingPairs 30 = .ok (.iconst 2, 1) := by decide +kernel
theorem dX2_touchingPairs_31 : decode cX2_touchingPairs 31 = .ok (.idiv, 1) := by decide +kernel
theorem dX2_touchingPairs_32 : decode cX2_touchingPairs 32 = .ok (.ireturn, 1) := by decide +kernel
theorem dX2_evenWith_0 : decode cX2_evenWith 0 = .ok (.iconst 0, 1) := by decide +kernel
theorem dX2_evenWith_1 : decode cX2_evenWith 1 = .ok (.istore_n 2, 1) := by decide +kernel
theorem dX2_evenWith_2 : decode cX2_evenWith 2 = .ok (.iconst 0, 1) := by decide +kernel
theorem dX2_evenWith_3 : decode cX2_evenWith 3 = .ok (.istore_n 3, 1) := by decide +kernel
theorem dX2_evenWith_4 : decode cX2_evenWith 4 = .ok (.iload_n 3, 1) := by decide +kernel
theorem dX2_evenWith_5 : decode cX2_evenWith 5 = .ok (.aload_n 0, 1) := by decide +kernel
theorem dX2_evenWith_6 : decode cX2_evenWith 6 = .ok (.getfield 24, 3) := by decide +kernel
theorem dX2_evenWith_9 : decode cX2_evenWith 9 = .ok (.if_icmp .ge 48, 3) := by decide +kernel
theorem dX2_evenWith_12 : decode cX2_evenWith 12 = .ok (.iload_n 2, 1) := by decide +kernel
theorem dX2_evenWith_13 : decode cX2_evenWith 13 = .ok (.aload_n 0, 1) := by decide +kernel
theorem dX2_evenWith_14 : decode cX2_evenWith 14 = .ok (.iload_n 1, 1) := by decide +kernel
theorem dX2_evenWith_15 : decode cX2_evenWith 15 = .ok (.iload_n 3, 1) := by decide +kernel
theorem dX2_evenWith_16 : decode cX2_evenWith 16 = .ok (.invokevirtual 48, 3) := by decide +kernel
theorem dX2_evenWith_19 : decode cX2_evenWith 19 = .ok (.iconst (-1), 1) := by decide +kernel
theorem dX2_evenWith_20 : decode cX2_evenWith 20 = .ok (.if_icmp .eq 28, 3) := by decide +kernel
theorem dX2_evenWith_23 : decode cX2_evenWith 23 = .ok (.aload_n 0, 1) := by decide +kernel
theorem dX2_evenWith_24 : decode cX2_evenWith 24 = .ok (.aload_n 0, 1) := by decide +kernel
theorem dX2_evenWith_25 : decode cX2_evenWith 25 = .ok (.getfield 9, 3) := by decide +kernel
theorem dX2_evenWith_28 : decode cX2_evenWith 28 = .ok (.iload_n 1, 1) := by decide +kernel
theorem dX2_evenWith_29 : decode cX2_evenWith 29 = .ok (.iaload, 1) := by decide +kernel
theorem dX2_evenWith_30 : decode cX2_evenWith 30 = .ok (.aload_n 0, 1) := by decide +kernel
theorem dX2_evenWith_31 : decode cX2_evenWith 31 = .ok (.getfield 9, 3) := by decide +kernel
theorem dX2_evenWith_34 : decode cX2_evenWith 34 = .ok (.iload_n 3, 1) := by decide +kernel
theorem dX2_evenWith_35 : decode cX2_evenWith 35 = .ok (.iaload, 1) := by decide +kernel
theorem dX2_evenWith_36 : decode cX2_evenWith 36 = .ok (.invokevirtual 61, 3) := by decide +kernel
theorem dX2_evenWith_39 : decode cX2_evenWith 39 = .ok (.ifCond .eq 9, 3) := by decide +kernel
theorem dX2_evenWith_42 : decode cX2_evenWith 42 = .ok (.iconst 1, 1) := by decide +kernel
theorem dX2_evenWith_43 : decode cX2_evenWith 43 = .ok (.iload_n 3, 1) := by decide +kernel
theorem dX2_evenWith_44 : decode cX2_evenWith 44 = .ok (.ishl, 1) := by decide +kernel
theorem dX2_evenWith_45 : decode cX2_evenWith 45 = .ok (.goto 4, 3) := by decide +kernel
theorem dX2_evenWith_48 : decode cX2_evenWith 48 = .ok (.iconst 0, 1) := by decide +kernel
theorem dX2_evenWith_49 : decode cX2_evenWith 49 = .ok (.ior, 1) := by decide +kernel
theorem dX2_evenWith_50 : decode cX2_evenWith 50 = .ok (.istore_n 2, 1) := by decide +kernel
theorem dX2_evenWith_51 : decode cX2_evenWith 51 = .ok (.iinc 3 1, 3) := by decide +kernel
theorem dX2_evenWith_54 : decode cX2_evenWith 54 = .ok (.goto (-50), 3) := by decide +kernel
theorem dX2_evenWith_57 : decode cX2_evenWith 57 = .ok (.iload_n 2, 1) := by decide +kernel
theorem dX2_evenWith_58 : decode cX2_evenWith 58 = .ok (.ireturn, 1) := by decide +kernel
theorem dX2_isNear_0 : decode cX2_isNear 0 = .ok (.iload_n 1, 1) := by decide +kernel
theorem dX2_isNear_1 : decode cX2_isNear 1 = .ok (.iload_n 2, 1) := by decide +kernel
theorem dX2_isNear_2 : decode cX2_isNear 2 = .ok (.isub, 1) := by decide +kernel
theorem dX2_isNear_3 : decode cX2_isNear 3 = .ok (.invokestatic 65, 3) := by decide +kernel
theorem dX2_isNear_6 : decode cX2_isNear 6 = .ok (.aload_n 0, 1) := by decide +kernel
theorem dX2_isNear_7 : decode cX2_isNear 7 = .ok (.getfield 21, 3) := by decide +kernel
theorem dX2_isNear_10 : decode cX2_isNear 10 = .ok (.iconst 0, 1) := by decide +kernel
theorem dX2_isNear_11 : decode cX2_isNear 11 = .ok (.iaload, 1) := by decide +kernel
theorem dX2_isNear_12 : decode cX2_isNear 12 = .ok (.if_icmp .ge 7, 3) := by decide +kernel
theorem dX2_isNear_15 : decode cX2_isNear 15 = .ok (.iconst 1, 1) := by decide +kernel
theorem dX2_isNear_16 : decode cX2_isNear 16 = .ok (.goto 4, 3) := by decide +kernel
theorem dX2_isNear_19 : decode cX2_isNear 19 = .ok (.iconst 0, 1) := by decide +kernel
theorem dX2_isNear_20 : decode cX2_isNear 20 = .ok (.ireturn, 1) := by decide +kernel
theorem dX2_isFree_0 : decode cX2_isFree 0 = .ok (.iconst 0, 1) := by decide +kernel
theorem dX2_isFree_1 : decode cX2_isFree 1 = .ok (.istore_n 3, 1) := by decide +kernel
theorem dX2_isFree_2 : decode cX2_isFree 2 = .ok (.iload_n 3, 1) := by decide +kernel
theorem dX2_isFree_3 : decode cX2_isFree 3 = .ok (.aload_n 0, 1) := by decide +kernel
theorem dX2_isFree_4 : decode cX2_isFree 4 = .ok (.getfield 24, 3) := by decide +kernel
theorem dX2_isFree_7 : decode cX2_isFree 7 = .ok (.if_icmp .ge 34, 3) := by decide +kernel
theorem dX2_isFree_10 : decode cX2_isFree 10 = .ok (.iload_n 2, 1) := by decide +kernel
theorem dX2_isFree_11 : decode cX2_isFree 11 = .ok (.iload_n 3, 1) := by decide +kernel
theorem dX2_isFree_12 : decode cX2_isFree 12 = .ok (.ishr, 1) := by decide +kernel
theorem dX2_isFree_13 : decode cX2_isFree 13 = .ok (.iconst 1, 1) := by decide +kernel
theorem dX2_isFree_14 : decode cX2_isFree 14 = .ok (.iand, 1) := by decide +kernel
theorem dX2_isFree_15 : decode cX2_isFree 15 = .ok (.iconst 1, 1) := by decide +kernel
theorem dX2_isFree_16 : decode cX2_isFree 16 = .ok (.if_icmp .ne 19, 3) := by decide +kernel
theorem dX2_isFree_19 : decode cX2_isFree 19 = .ok (.aload_n 0, 1) := by decide +kernel
theorem dX2_isFree_20 : decode cX2_isFree 20 = .ok (.iload_n 1, 1) := by decide +kernel
theorem dX2_isFree_21 : decode cX2_isFree 21 = .ok (.aload_n 0, 1) := by decide +kernel
theorem dX2_isFree_22 : decode cX2_isFree 22 = .ok (.getfield 9, 3) := by decide +kernel
theorem dX2_isFree_25 : decode cX2_isFree 25 = .ok (.iload_n 3, 1) := by decide +kernel
theorem dX2_isFree_26 : decode cX2_isFree 26 = .ok (.iaload, 1) := by decide +kernel
theorem dX2_isFree_27 : decode cX2_isFree 27 = .ok (.invokevirtual 61, 3) := by decide +kernel
theorem dX2_isFree_30 : decode cX2_isFree 30 = .ok (.ifCond .eq 5, 3) := by decide +kernel
theorem dX2_isFree_33 : decode cX2_isFree 33 = .ok (.iconst 0, 1) := by decide +kernel
theorem dX2_isFree_34 : decode cX2_isFree 34 = .ok (.ireturn, 1) := by decide +kernel
theorem dX2_isFree_35 : decode cX2_isFree 35 = .ok (.iinc 3 1, 3) := by decide +kernel
theorem dX2_isFree_38 : decode cX2_isFree 38 = .ok (.goto (-36), 3) := by decide +kernel
theorem dX2_isFree_41 : decode cX2_isFree 41 = .ok (.iconst 1, 1) := by decide +kernel
theorem dX2_isFree_42 : decode cX2_isFree 42 = .ok (.ireturn, 1) := by decide +kernel
theorem dX2_canCarry_0 : decode cX2_canCarry 0 = .ok (.aload_n 0, 1) := by decide +kernel
theorem dX2_canCarry_1 : decode cX2_canCarry 1 = .ok (.iload_n 1, 1) := by decide +kernel
theorem dX2_canCarry_2 : decode cX2_canCarry 2 = .ok (.iload_n 2, 1) := by decide +kernel
theorem dX2_canCarry_3 : decode cX2_canCarry 3 = .ok (.invokevirtual 70, 3) := by decide +kernel
theorem dX2_canCarry_6 : decode cX2_canCarry 6 = .ok (.ifCond .eq 50, 3) := by decide +kernel
theorem dX2_canCarry_9 : decode cX2_canCarry 9 = .ok (.aload_n 0, 1) := by decide +kernel
theorem dX2_canCarry_10 : decode cX2_canCarry 10 = .ok (.iload_n 1, 1) := by decide +kernel
theorem dX2_canCarry_11 : decode cX2_canCarry 11 = .ok (.iload_n 2, 1) := by decide +kernel
theorem dX2_canCarry_12 : decode cX2_canCarry 12 = .ok (.invokevirtual 48, 3) := by decide +kernel
theorem dX2_canCarry_15 : decode cX2_canCarry 15 = .ok (.iconst (-1), 1) := by decide +kernel
theorem dX2_canCarry_16 : decode cX2_canCarry 16 = .ok (.if_icmp .eq 40, 3) := by decide +kernel
theorem dX2_canCarry_19 : decode cX2_canCarry 19 = .ok (.aload_n 0, 1) := by decide +kernel
theorem dX2_canCarry_20 : decode cX2_canCarry 20 = .ok (.getfield 9, 3) := by decide +kernel
theorem dX2_canCarry_23 : decode cX2_canCarry 23 = .ok (.iload_n 1, 1) := by decide +kernel
theorem dX2_canCarry_24 : decode cX2_canCarry 24 = .ok (.iaload, 1) := by decide +kernel
theorem dX2_canCarry_25 : decode cX2_canCarry 25 = .ok (.aload_n 0, 1) := by decide +kernel
theorem dX2_canCarry_26 : decode cX2_canCarry 26 = .ok (.getfield 21, 3) := by decide +kernel
theorem dX2_canCarry_29 : decode cX2_canCarry 29 = .ok (.iconst 2, 1) := by decide +kernel
theorem dX2_canCarry_30 : decode cX2_canCarry 30 = .ok (.iaload, 1) := by decide +kernel
theorem dX2_canCarry_31 : decode cX2_canCarry 31 = .ok (.if_icmp .lt 25, 3) := by decide +kernel
theorem dX2_canCarry_34 : decode cX2_canCarry 34 = .ok (.aload_n 0, 1) := by decide +kernel
theorem dX2_canCarry_35 : decode cX2_canCarry 35 = .ok (.getfield 9, 3) := by decide +kernel
theorem dX2_canCarry_38 : decode cX2_canCarry 38 = .ok (.iload_n 2, 1) := by decide +kernel
theorem dX2_canCarry_39 : decode cX2_canCarry 39 = .ok (.iaload, 1) := by decide +kernel
theorem dX2_canCarry_40 : decode cX2_canCarry 40 = .ok (.bipush 99, 2) := by decide +kernel
theorem dX2_canCarry_42 : decode cX2_canCarry 42 = .ok (.aload_n 0, 1) := by decide +kernel
theorem dX2_canCarry_43 : decode cX2_canCarry 43 = .ok (.getfield 21, 3) := by decide +kernel
theorem dX2_canCarry_46 : decode cX2_canCarry 46 = .ok (.iconst 2, 1) := by decide +kernel
theorem dX2_canCarry_47 : decode cX2_canCarry 47 = .ok (.iaload, 1) := by decide +kernel
theorem dX2_canCarry_48 : decode cX2_canCarry 48 = .ok (.isub, 1) := by decide +kernel
theorem dX2_canCarry_49 : decode cX2_canCarry 49 = .ok (.if_icmp .gt 7, 3) := by decide +kernel
theorem dX2_canCarry_52 : decode cX2_canCarry 52 = .ok (.iconst 1, 1) := by decide +kernel
theorem dX2_canCarry_53 : decode cX2_canCarry 53 = .ok (.goto 4, 3) := by decide +kernel
theorem dX2_canCarry_56 : decode cX2_canCarry 56 = .ok (.iconst 0, 1) := by decide +kernel
theorem dX2_canCarry_57 : decode cX2_canCarry 57 = .ok (.ireturn, 1) := by decide +kernel
theorem dX2_bring_0 : decode cX2_bring 0 = .ok (.aload_n 0, 1) := by decide +kernel
theorem dX2_bring_1 : decode cX2_bring 1 = .ok (.getfield 9, 3) := by decide +kernel
theorem dX2_bring_4 : decode cX2_bring 4 = .ok (.iload_n 1, 1) := by decide +kernel
theorem dX2_bring_5 : decode cX2_bring 5 = .ok (.dup2, 1) := by decide +kernel
theorem dX2_bring_6 : decode cX2_bring 6 = .ok (.iaload, 1) := by decide +kernel
theorem dX2_bring_7 : decode cX2_bring 7 = .ok (.aload_n 0, 1) := by decide +kernel
theorem dX2_bring_8 : decode cX2_bring 8 = .ok (.getfield 21, 3) := by decide +kernel
theorem dX2_bring_11 : decode cX2_bring 11 = .ok (.iconst 2, 1) := by decide +kernel
theorem dX2_bring_12 : decode cX2_bring 12 = .ok (.iaload, 1) := by decide +kernel
theorem dX2_bring_13 : decode cX2_bring 13 = .ok (.isub, 1) := by decide +kernel
theorem dX2_bring_14 : decode cX2_bring 14 = .ok (.iastore, 1) := by decide +kernel
theorem dX2_bring_15 : decode cX2_bring 15 = .ok (.aload_n 0, 1) := by decide +kernel
theorem dX2_bring_16 : decode cX2_bring 16 = .ok (.getfield 9, 3) := by decide +kernel
theorem dX2_bring_19 : decode cX2_bring 19 = .ok (.iload_n 2, 1) := by decide +kernel
theorem dX2_bring_20 : decode cX2_bring 20 = .ok (.dup2, 1) := by decide +kernel
theorem dX2_bring_21 : decode cX2_bring 21 = .ok (.iaload, 1) := by decide +kernel
theorem dX2_bring_22 : decode cX2_bring 22 = .ok (.aload_n 0, 1) := by decide +kernel
theorem dX2_bring_23 : decode cX2_bring 23 = .ok (.getfield 21, 3) := by decide +kernel
theorem dX2_bring_26 : decode cX2_bring 26 = .ok (.iconst 2, 1) := by decide +kernel
theorem dX2_bring_27 : decode cX2_bring 27 = .ok (.iaload, 1) := by decide +kernel
theorem dX2_bring_28 : decode cX2_bring 28 = .ok (.iadd, 1) := by decide +kernel
theorem dX2_bring_29 : decode cX2_bring 29 = .ok (.iastore, 1) := by decide +kernel
theorem dX2_bring_30 : decode cX2_bring 30 = .ok (.return_, 1) := by decide +kernel
theorem dX2_bestFor_0 : decode cX2_bestFor 0 = .ok (.iconst (-1), 1) := by decide +kernel
theorem dX2_bestFor_1 : decode cX2_bestFor 1 = .ok (.istore_n 2, 1) := by decide +kernel
theorem dX2_bestFor_2 : decode cX2_bestFor 2 = .ok (.aload_n 0, 1) := by decide +kernel
theorem dX2_bestFor_3 : decode cX2_bestFor 3 = .ok (.iload_n 1, 1) := by decide +kernel
theorem dX2_bestFor_4 : decode cX2_bestFor 4 = .ok (.iconst (-1), 1) := by decide +kernel
theorem dX2_bestFor_5 : decode cX2_bestFor 5 = .ok (.invokevirtual 73, 3) := by decide +kernel
theorem dX2_bestFor_8 : decode cX2_bestFor 8 = .ok (.istore_n 3, 1) := by decide +kernel
theorem dX2_bestFor_9 : decode cX2_bestFor 9 = .ok (.iconst 0, 1) := by decide +kernel
theorem dX2_bestFor_10 : decode cX2_bestFor 10 = .ok (.istore 4, 2) := by decide +kernel
theorem dX2_bestFor_12 : decode cX2_bestFor 12 = .ok (.iload 4, 2) := by decide +kernel
theorem dX2_bestFor_14 : decode cX2_bestFor 14 = .ok (.aload_n 0, 1) := by decide +kernel
theorem dX2_bestFor_15 : decode cX2_bestFor 15 = .ok (.getfield 24, 3) := by decide +kernel
theorem dX2_bestFor_18 : decode cX2_bestFor 18 = .ok (.if_icmp .ge 41, 3) := by decide +kernel
theorem dX2_bestFor_21 : decode cX2_bestFor 21 = .ok (.aload_n 0, 1) := by decide +kernel
theorem dX2_bestFor_22 : decode cX2_bestFor 22 = .ok (.iload_n 1, 1) := by decide +kernel
theorem dX2_bestFor_23 : decode cX2_bestFor 23 = .ok (.iload 4, 2) := by decide +kernel
theorem dX2_bestFor_25 : decode cX2_bestFor 25 = .ok (.invokevirtual 76, 3) := by decide +kernel
theorem dX2_bestFor_28 : decode cX2_bestFor 28 = .ok (.ifCond .eq 25, 3) := by decide +kernel
theorem dX2_bestFor_31 : decode cX2_bestFor 31 = .ok (.aload_n 0, 1) := by decide +kernel
theorem dX2_bestFor_32 : decode cX2_bestFor 32 = .ok (.iload_n 1, 1) := by decide +kernel
theorem dX2_bestFor_33 : decode cX2_bestFor 33 = .ok (.iload 4, 2) := by decide +kernel
theorem dX2_bestFor_35 : decode cX2_bestFor 35 = .ok (.invokevirtual 73, 3) := by decide +kernel
theorem dX2_bestFor_38 : decode cX2_bestFor 38 = .ok (.iload_n 3, 1) := by decide +kernel
theorem dX2_bestFor_39 : decode cX2_bestFor 39 = .ok (.if_icmp .ge 14, 3) := by decide +kernel
theorem dX2_bestFor_42 : decode cX2_bestFor 42 = .ok (.iload 4, 2) := by decide +kernel
theorem dX2_bestFor_44 : decode cX2_bestFor 44 = .ok (.istore_n 2, 1) := by decide +kernel
theorem dX2_bestFor_45 : decode cX2_bestFor 45 = .ok (.aload_n 0, 1) := by decide +kernel
theorem dX2_bestFor_46 : decode cX2_bestFor 46 = .ok (.iload_n 1, 1) := by decide +kernel
theorem dX2_bestFor_47 : decode cX2_bestFor 47 = .ok (.iload 4, 2) := by decide +kernel
theorem dX2_bestFor_49 : decode cX2_bestFor 49 = .ok (.invokevirtual 73, 3) := by decide +kernel
theorem dX2_bestFor_52 : decode cX2_bestFor 52 = .ok (.istore_n 3, 1) := by decide +kernel
theorem dX2_bestFor_53 : decode cX2_bestFor 53 = .ok (.iinc 4 1, 3) := by decide +kernel
theorem dX2_bestFor_56 : decode cX2_bestFor 56 = .ok (.goto (-44), 3) := by decide +kernel
theorem dX2_bestFor_59 : decode cX2_bestFor 59 = .ok (.iload_n 2, 1) := by decide +kernel
theorem dX2_bestFor_60 : decode cX2_bestFor 60 = .ok (.ireturn, 1) := by decide +kernel
theorem dX2_evensAfter_0 : decode cX2_evensAfter 0 = .ok (.iload_n 2, 1) := by decide +kernel
theorem dX2_evensAfter_1 : decode cX2_evensAfter 1 = .ok (.iconst (-1), 1) := by decide +kernel
theorem dX2_evensAfter_2 : decode cX2_evensAfter 2 = .ok (.if_icmp .ne 12, 3) := by decide +kernel
theorem dX2_evensAfter_5 : decode cX2_evensAfter 5 = .ok (.aload_n 0, 1) := by decide +kernel
theorem dX2_evensAfter_6 : decode cX2_evensAfter 6 = .ok (.iload_n 1, 1) := by decide +kernel
theorem dX2_evensAfter_7 : decode cX2_evensAfter 7 = .ok (.invokevirtual 79, 3) := by decide +kernel
theorem dX2_evensAfter_10 : decode cX2_evensAfter 10 = .ok (.invokestatic 56, 3) := by decide +kernel
theorem dX2_evensAfter_13 : decode cX2_evensAfter 13 = .ok (.ireturn, 1) := by decide +kernel
theorem dX2_evensAfter_14 : decode cX2_evensAfter 14 = .ok (.aload_n 0, 1) := by decide +kernel
theorem dX2_evensAfter_15 : decode cX2_evensAfter 15 = .ok (.iload_n 1, 1) := by decide +kernel
theorem dX2_evensAfter_16 : decode cX2_evensAfter 16 = .ok (.iload_n 2, 1) := by decide +kernel
theorem dX2_evensAfter_17 : decode cX2_evensAfter 17 = .ok (.invokevirtual 82, 3) := by decide +kernel
theorem dX2_evensAfter_20 : decode cX2_evensAfter 20 = .ok (.aload_n 0, 1) := by decide +kernel
theorem dX2_evensAfter_21 : decode cX2_evensAfter 21 = .ok (.iload_n 1, 1) := by decide +kernel
theorem dX2_evensAfter_22 : decode cX2_evensAfter 22 = .ok (.invokevirtual 79, 3) := by decide +kernel
theorem dX2_evensAfter_25 : decode cX2_evensAfter 25 = .ok (.invokestatic 56, 3) := by decide +kernel
theorem dX2_evensAfter_28 : decode cX2_evensAfter 28 = .ok (.istore_n 3, 1) := by decide +kernel
theorem dX2_evensAfter_29 : decode cX2_evensAfter 29 = .ok (.aload_n 0, 1) := by decide +kernel
theorem dX2_evensAfter_30 : decode cX2_evensAfter 30 = .ok (.iload_n 2, 1) := by decide +kernel
theorem dX2_evensAfter_31 : decode cX2_evensAfter 31 = .ok (.iload_n 1, 1) := by decide +kernel
theorem dX2_evensAfter_32 : decode cX2_evensAfter 32 = .ok (.invokevirtual 82, 3) := by decide +kernel
theorem dX2_evensAfter_35 : decode cX2_evensAfter 35 = .ok (.iload_n 3, 1) := by decide +kernel
theorem dX2_evensAfter_36 : decode cX2_evensAfter 36 = .ok (.ireturn, 1) := by decide +kernel
theorem dX2_allDepths_0 : decode cX2_allDepths 0 = .ok (.iconst 0, 1) := by decide +kernel
theorem dX2_allDepths_1 : decode cX2_allDepths 1 = .ok (.istore_n 1, 1) := by decide +kernel
theorem dX2_allDepths_2 : decode cX2_allDepths 2 = .ok (.iconst 0, 1) := by decide +kernel
theorem dX2_allDepths_3 : decode cX2_allDepths 3 = .ok (.istore_n 2, 1) := by decide +kernel
theorem dX2_allDepths_4 : decode cX2_allDepths 4 = .ok (.iload_n 2, 1) := by decide +kernel
theorem dX2_allDepths_5 : decode cX2_allDepths 5 = .ok (.aload_n 0, 1) := by decide +kernel
theorem dX2_allDepths_6 : decode cX2_allDepths 6 = .ok (.getfield 24, 3) := by decide +kernel
theorem dX2_allDepths_9 : decode cX2_allDepths 9 = .ok (.if_icmp .ge 18, 3) := by decide +kernel
theorem dX2_allDepths_12 : decode cX2_allDepths 12 = .ok (.iload_n 1, 1) := by decide +kernel
theorem dX2_allDepths_13 : decode cX2_allDepths 13 = .ok (.aload_n 0, 1) := by decide +kernel
theorem dX2_allDepths_14 : decode cX2_allDepths 14 = .ok (.getfield 9, 3) := by decide +kernel
theorem dX2_allDepths_17 : decode cX2_allDepths 17 = .ok (.iload_n 2, 1) := by decide +kernel
theorem dX2_allDepths_18 : decode cX2_allDepths 18 = .ok (.iaload, 1) := by decide +kernel
theorem dX2_allDepths_19 : decode cX2_allDepths 19 = .ok (.iadd, 1) := by decide +kernel
theorem dX2_allDepths_20 : decode cX2_allDepths 20 = .ok (.istore_n 1, 1) := by decide +kernel
theorem dX2_allDepths_21 : decode cX2_allDepths 21 = .ok (.iinc 2 1, 3) := by decide +kernel
theorem dX2_allDepths_24 : decode cX2_allDepths 24 = .ok (.goto (-20), 3) := by decide +kernel
theorem dX2_allDepths_27 : decode cX2_allDepths 27 = .ok (.iload_n 1, 1) := by decide +kernel
theorem dX2_allDepths_28 : decode cX2_allDepths 28 = .ok (.ireturn, 1) := by decide +kernel
theorem dX2_allPaid_0 : decode cX2_allPaid 0 = .ok (.iconst 0, 1) := by decide +kernel
theorem dX2_allPaid_1 : decode cX2_allPaid 1 = .ok (.istore_n 1, 1) := by decide +kernel
theorem dX2_allPaid_2 : decode cX2_allPaid 2 = .ok (.iconst 0, 1) := by decide +kernel
theorem dX2_allPaid_3 : decode cX2_allPaid 3 = .ok (.istore_n 2, 1) := by decide +kernel
theorem dX2_allPaid_4 : decode cX2_allPaid 4 = .ok (.iload_n 2, 1) := by decide +kernel
theorem dX2_allPaid_5 : decode cX2_allPaid 5 = .ok (.aload_n 0, 1) := by decide +kernel
theorem dX2_allPaid_6 : decode cX2_allPaid 6 = .ok (.getfield 24, 3) := by decide +kernel
theorem dX2_allPaid_9 : decode cX2_allPaid 9 = .ok (.if_icmp .ge 18, 3) := by decide +kernel
theorem dX2_allPaid_12 : decode cX2_allPaid 12 = .ok (.iload_n 1, 1) := by decide +kernel
theorem dX2_allPaid_13 : decode cX2_allPaid 13 = .ok (.aload_n 0, 1) := by decide +kernel
theorem dX2_allPaid_14 : decode cX2_allPaid 14 = .ok (.getfield 18, 3) := by decide +kernel
theorem dX2_allPaid_17 : decode cX2_allPaid 17 = .ok (.iload_n 2, 1) := by decide +kernel
theorem dX2_allPaid_18 : decode cX2_allPaid 18 = .ok (.iaload, 1) := by decide +kernel
theorem dX2_allPaid_19 : decode cX2_allPaid 19 = .ok (.iadd, 1) := by decide +kernel
theorem dX2_allPaid_20 : decode cX2_allPaid 20 = .ok (.istore_n 1, 1) := by decide +kernel
theorem dX2_allPaid_21 : decode cX2_allPaid 21 = .ok (.iinc 2 1, 3) := by decide +kernel
theorem dX2_allPaid_24 : decode cX2_allPaid 24 = .ok (.goto (-20), 3) := by decide +kernel
theorem dX2_allPaid_27 : decode cX2_allPaid 27 = .ok (.iload_n 1, 1) := by decide +kernel
theorem dX2_allPaid_28 : decode cX2_allPaid 28 = .ok (.ireturn, 1) := by decide +kernel
theorem dX3_init_0 : decode cX3_init 0 = .ok (.aload_n 0, 1) := by decide +kernel
theorem dX3_init_1 : decode cX3_init 1 = .ok (.invokespecial 3, 3) := by decide +kernel
theorem dX3_init_4 : decode cX3_init 4 = .ok (.aload_n 0, 1) := by decide +kernel
theorem dX3_init_5 : decode cX3_init 5 = .ok (.bipush 10, 2) := by decide +kernel
theorem dX3_init_7 : decode cX3_init 7 = .ok (.newarray .int, 2) := by decide +kernel
theorem dX3_init_9 : decode cX3_init 9 = .ok (.putfield 9, 3) := by decide +kernel
theorem dX3_init_12 : decode cX3_init 12 = .ok (.aload_n 0, 1) := by decide +kernel
theorem dX3_init_13 : decode cX3_init 13 = .ok (.iconst 0, 1) := by decide +kernel
theorem dX3_init_14 : decode cX3_init 14 = .ok (.putfield 15, 3) := by decide +kernel
theorem dX3_init_17 : decode cX3_init 17 = .ok (.return_, 1) := by decide +kernel
theorem dX3_clear_0 : decode cX3_clear 0 = .ok (.aload_n 0, 1) := by decide +kernel
theorem dX3_clear_1 : decode cX3_clear 1 = .ok (.iconst 0, 1) := by decide +kernel
theorem dX3_clear_2 : decode cX3_clear 2 = .ok (.putfield 15, 3) := by decide +kernel
theorem dX3_clear_5 : decode cX3_clear 5 = .ok (.return_, 1) := by decide +kernel
theorem dX3_add_0 : decode cX3_add 0 = .ok (.aload_n 0, 1) := by decide +kernel
theorem dX3_add_1 : decode cX3_add 1 = .ok (.getfield 15, 3) := by decide +kernel
theorem dX3_add_4 : decode cX3_add 4 = .ok (.bipush 10, 2) := by decide +kernel
theorem dX3_add_6 : decode cX3_add 6 = .ok (.if_icmp .ge 23, 3) := by decide +kernel
theorem dX3_add_9 : decode cX3_add 9 = .ok (.aload_n 0, 1) := by decide +kernel
theorem dX3_add_10 : decode cX3_add 10 = .ok (.getfield 9, 3) := by decide +kernel
theorem dX3_add_13 : decode cX3_add 13 = .ok (.aload_n 0, 1) := by decide +kernel
theorem dX3_add_14 : decode cX3_add 14 = .ok (.getfield 15, 3) := by decide +kernel
theorem dX3_add_17 : decode cX3_add 17 = .ok (.iload_n 1, 1) := by decide +kernel
theorem dX3_add_18 : decode cX3_add 18 = .ok (.iastore, 1) := by decide +kernel
theorem dX3_add_19 : decode cX3_add 19 = .ok (.aload_n 0, 1) := by decide +kernel
theorem dX3_add_20 : decode cX3_add 20 = .ok (.dup, 1) := by decide +kernel
theorem dX3_add_21 : decode cX3_add 21 = .ok (.getfield 15, 3) := by decide +kernel
theorem dX3_add_24 : decode cX3_add 24 = .ok (.iconst 1, 1) := by decide +kernel
theorem dX3_add_25 : decode cX3_add 25 = .ok (.iadd, 1) := by decide +kernel
theorem dX3_add_26 : decode cX3_add 26 = .ok (.putfield 15, 3) := by decide +kernel
theorem dX3_add_29 : decode cX3_add 29 = .ok (.return_, 1) := by decide +kernel
theorem dX3_addAhead_0 : decode cX3_addAhead 0 = .ok (.aload_n 0, 1) := by decide +kernel
theorem dX3_addAhead_1 : decode cX3_addAhead 1 = .ok (.bipush 10, 2) := by decide +kernel
theorem dX3_addAhead_3 : decode cX3_addAhead 3 = .ok (.aload_n 0, 1) := by decide +kernel
theorem dX3_addAhead_4 : decode cX3_addAhead 4 = .ok (.getfield 15, 3) := by decide +kernel
theorem dX3_addAhead_7 : decode cX3_addAhead 7 = .ok (.iconst 1, 1) := by decide +kernel
theorem dX3_addAhead_8 : decode cX3_addAhead 8 = .ok (.iadd, 1) := by decide +kernel
theorem dX3_addAhead_9 : decode cX3_addAhead 9 = .ok (.invokestatic 19, 3) := by decide +kernel
theorem dX3_addAhead_12 : decode cX3_addAhead 12 = .ok (.putfield 15, 3) := by decide +kernel
theorem dX3_addAhead_15 : decode cX3_addAhead 15 = .ok (.aload_n 0, 1) := by decide +kernel
theorem dX3_addAhead_16 : decode cX3_addAhead 16 = .ok (.getfield 15, 3) := by decide +kernel
theorem dX3_addAhead_19 : decode cX3_addAhead 19 = .ok (.iconst 1, 1) := by decide +kernel
theorem dX3_addAhead_20 : decode cX3_addAhead 20 = .ok (.isub, 1) := by decide +kernel
theorem dX3_addAhead_21 : decode cX3_addAhead 21 = .ok (.istore_n 2, 1) := by decide +kernel
theorem dX3_addAhead_22 : decode cX3_addAhead 22 = .ok (.iload_n 2, 1) := by decide +kernel
theorem dX3_addAhead_23 : decode cX3_addAhead 23 = .ok (.ifCond .le 23, 3) := by decide +kernel
theorem dX3_addAhead_26 : decode cX3_addAhead 26 = .ok (.aload_n 0, 1) := by decide +kernel
theorem dX3_addAhead_27 : decode cX3_addAhead 27 = .ok (.getfield 9, 3) := by decide +kernel
theorem dX3_addAhead_30 : decode cX3_addAhead 30 = .ok (.iload_n 2, 1) := by decide +kernel
theorem dX3_addAhead_31 : decode cX3_addAhead 31 = .ok (.aload_n 0, 1) := by decide +kernel
theorem dX3_addAhead_32 : decode cX3_addAhead 32 = .ok (.getfield 9, 3) := by decide +kernel
theorem dX3_addAhead_35 : decode cX3_addAhead 35 = .ok (.iload_n 2, 1) := by decide +kernel
theorem dX3_addAhead_36 : decode cX3_addAhead 36 = .ok (.iconst 1, 1) := by decide +kernel
theorem dX3_addAhead_37 : decode cX3_addAhead 37 = .ok (.isub, 1) := by decide +kernel
theorem dX3_addAhead_38 : decode cX3_addAhead 38 = .ok (.iaload, 1) := by decide +kernel
theorem dX3_addAhead_39 : decode cX3_addAhead 39 = .ok (.iastore, 1) := by decide +kernel
theorem dX3_addAhead_40 : decode cX3_addAhead 40 = .ok (.iinc 2 (-1), 3) := by decide +kernel
theorem dX3_addAhead_43 : decode cX3_addAhead 43 = .ok (.goto (-21), 3) := by decide +kernel
theorem dX3_addAhead_46 : decode cX3_addAhead 46 = .ok (.aload_n 0, 1) := by decide +kernel
theorem dX3_addAhead_47 : decode cX3_addAhead 47 = .ok (.getfield 9, 3) := by decide +kernel
theorem dX3_addAhead_50 : decode cX3_addAhead 50 = .ok (.iconst 0, 1) := by decide +kernel
theorem dX3_addAhead_51 : decode cX3_addAhead 51 = .ok (.iload_n 1, 1) := by decide +kernel
theorem dX3_addAhead_52 : decode cX3_addAhead 52 = .ok (.iastore, 1) := by decide +kernel
theorem dX3_addAhead_53 : decode cX3_addAhead 53 = .ok (.return_, 1) := by decide +kernel
theorem dX3_tell_0 : decode cX3_tell 0 = .ok (.aload_n 0, 1) := by decide +kernel
theorem dX3_tell_1 : decode cX3_tell 1 = .ok (.invokevirtual 25, 3) := by decide +kernel
theorem dX3_tell_4 : decode cX3_tell 4 = .ok (.aload_n 0, 1) := by decide +kernel
theorem dX3_tell_5 : decode cX3_tell 5 = .ok (.iload_n 1, 1) := by decide +kernel
theorem dX3_tell_6 : decode cX3_tell 6 = .ok (.invokevirtual 28, 3) := by decide +kernel
theorem dX3_tell_9 : decode cX3_tell 9 = .ok (.return_, 1) := by decide +kernel
theorem dX4_init_0 : decode cX4_init 0 = .ok (.aload_n 0, 1) := by decide +kernel
theorem dX4_init_1 : decode cX4_init 1 = .ok (.invokespecial 3, 3) := by decide +kernel
theorem dX4_init_4 : decode cX4_init 4 = .ok (.aload_n 0, 1) := by decide +kernel
theorem dX4_init_5 : decode cX4_init 5 = .ok (.iconst 0, 1) := by decide +kernel
theorem dX4_init_6 : decode cX4_init 6 = .ok (.putfield 9, 3) := by decide +kernel
theorem dX4_init_9 : decode cX4_init 9 = .ok (.aload_n 0, 1) := by decide +kernel
theorem dX4_init_10 : decode cX4_init 10 = .ok (.bipush 21, 2) := by decide +kernel
theorem dX4_init_12 : decode cX4_init 12 = .ok (.anewarray 15, 3) := by decide +kernel
theorem dX4_init_15 : decode cX4_init 15 = .ok (.putfield 17, 3) := by decide +kernel
theorem dX4_init_18 : decode cX4_init 18 = .ok (.aload_n 0, 1) := by decide +kernel
theorem dX4_init_19 : decode cX4_init 19 = .ok (.iconst 0, 1) := by decide +kernel
theorem dX4_init_20 : decode cX4_init 20 = .ok (.putfield 21, 3) := by decide +kernel
theorem dX4_init_23 : decode cX4_init 23 = .ok (.iconst 0, 1) := by decide +kernel
theorem dX4_init_24 : decode cX4_init 24 = .ok (.istore_n 1, 1) := by decide +kernel
theorem dX4_init_25 : decode cX4_init 25 = .ok (.iload_n 1, 1) := by decide +kernel
theorem dX4_init_26 : decode cX4_init 26 = .ok (.bipush 21, 2) := by decide +kernel
theorem dX4_init_28 : decode cX4_init 28 = .ok (.if_icmp .ge 22, 3) := by decide +kernel
theorem dX4_init_31 : decode cX4_init 31 = .ok (.aload_n 0, 1) := by decide +kernel
theorem dX4_init_32 : decode cX4_init 32 = .ok (.getfield 17, 3) := by decide +kernel
theorem dX4_init_35 : decode cX4_init 35 = .ok (.iload_n 1, 1) := by decide +kernel
theorem dX4_init_36 : decode cX4_init 36 = .ok (.new 15, 3) := by decide +kernel
theorem dX4_init_39 : decode cX4_init 39 = .ok (.dup, 1) := by decide +kernel
theorem dX4_init_40 : decode cX4_init 40 = .ok (.invokespecial 24, 3) := by decide +kernel
theorem dX4_init_43 : decode cX4_init 43 = .ok (.aastore, 1) := by decide +kernel
theorem dX4_init_44 : decode cX4_init 44 = .ok (.iinc 1 1, 3) := by decide +kernel
theorem dX4_init_47 : decode cX4_init 47 = .ok (.goto (-22), 3) := by decide +kernel
theorem dX4_init_50 : decode cX4_init 50 = .ok (.return_, 1) := by decide +kernel
theorem dX4_clear_0 : decode cX4_clear 0 = .ok (.aload_n 0, 1) := by decide +kernel
theorem dX4_clear_1 : decode cX4_clear 1 = .ok (.iconst 0, 1) := by decide +kernel
theorem dX4_clear_2 : decode cX4_clear 2 = .ok (.putfield 9, 3) := by decide +kernel
theorem dX4_clear_5 : decode cX4_clear 5 = .ok (.return_, 1) := by decide +kernel
theorem dX4_note_0 : decode cX4_note 0 = .ok (.aload_n 0, 1) := by decide +kernel
theorem dX4_note_1 : decode cX4_note 1 = .ok (.getfield 17, 3) := by decide +kernel
theorem dX4_note_4 : decode cX4_note 4 = .ok (.aload_n 0, 1) := by decide +kernel
theorem dX4_note_5 : decode cX4_note 5 = .ok (.getfield 21, 3) := by decide +kernel
theorem dX4_note_8 : decode cX4_note 8 = .ok (.aaload, 1) := by decide +kernel
theorem dX4_note_9 : decode cX4_note 9 = .ok (.aload_n 1, 1) := by decide +kernel
theorem dX4_note_10 : decode cX4_note 10 = .ok (.invokevirtual 25, 3) := by decide +kernel
theorem dX4_note_13 : decode cX4_note 13 = .ok (.return_, 1) := by decide +kernel
theorem dX4_keepNoted_0 : decode cX4_keepNoted 0 = .ok (.aload_n 0, 1) := by decide +kernel
theorem dX4_keepNoted_1 : decode cX4_keepNoted 1 = .ok (.aload_n 0, 1) := by decide +kernel
theorem dX4_keepNoted_2 : decode cX4_keepNoted 2 = .ok (.getfield 21, 3) := by decide +kernel
theorem dX4_keepNoted_5 : decode cX4_keepNoted 5 = .ok (.iconst 1, 1) := by decide +kernel
theorem dX4_keepNoted_6 : decode cX4_keepNoted 6 = .ok (.iadd, 1) := by decide +kernel
theorem dX4_keepNoted_7 : decode cX4_keepNoted 7 = .ok (.bipush 21, 2) := by decide +kernel
theorem dX4_keepNoted_9 : decode cX4_keepNoted 9 = .ok (.irem, 1) := by decide +kernel
theorem dX4_keepNoted_10 : decode cX4_keepNoted 10 = .ok (.putfield 21, 3) := by decide +kernel
theorem dX4_keepNoted_13 : decode cX4_keepNoted 13 = .ok (.aload_n 0, 1) := by decide +kernel
theorem dX4_keepNoted_14 : decode cX4_keepNoted 14 = .ok (.bipush 20, 2) := by decide +kernel
theorem dX4_keepNoted_16 : decode cX4_keepNoted 16 = .ok (.aload_n 0, 1) := by decide +kernel
theorem dX4_keepNoted_17 : decode cX4_keepNoted 17 = .ok (.getfield 9, 3) := by decide +kernel
theorem dX4_keepNoted_20 : decode cX4_keepNoted 20 = .ok (.iconst 1, 1) := by decide +kernel
theorem dX4_keepNoted_21 : decode cX4_keepNoted 21 = .ok (.iadd, 1) := by decide +kernel
theorem dX4_keepNoted_22 : decode cX4_keepNoted 22 = .ok (.invokestatic 29, 3) := by decide +kernel
theorem dX4_keepNoted_25 : decode cX4_keepNoted 25 = .ok (.putfield 9, 3) := by decide +kernel
theorem dX4_keepNoted_28 : decode cX4_keepNoted 28 = .ok (.return_, 1) := by decide +kernel
theorem dX4_goBack_0 : decode cX4_goBack 0 = .ok (.aload_n 0, 1) := by decide +kernel
theorem dX4_goBack_1 : decode cX4_goBack 1 = .ok (.aload_n 0, 1) := by decide +kernel
theorem dX4_goBack_2 : decode cX4_goBack 2 = .ok (.getfield 21, 3) := by decide +kernel
theorem dX4_goBack_5 : decode cX4_goBack 5 = .ok (.bipush 21, 2) := by decide +kernel
theorem dX4_goBack_7 : decode cX4_goBack 7 = .ok (.iadd, 1) := by decide +kernel
theorem dX4_goBack_8 : decode cX4_goBack 8 = .ok (.iconst 1, 1) := by decide +kernel
theorem dX4_goBack_9 : decode cX4_goBack 9 = .ok (.isub, 1) := by decide +kernel
theorem dX4_goBack_10 : decode cX4_goBack 10 = .ok (.bipush 21, 2) := by decide +kernel
theorem dX4_goBack_12 : decode cX4_goBack 12 = .ok (.irem, 1) := by decide +kernel
theorem dX4_goBack_13 : decode cX4_goBack 13 = .ok (.putfield 21, 3) := by decide +kernel
theorem dX4_goBack_16 : decode cX4_goBack 16 = .ok (.aload_n 0, 1) := by decide +kernel
theorem dX4_goBack_17 : decode cX4_goBack 17 = .ok (.dup, 1) := by decide +kernel
theorem dX4_goBack_18 : decode cX4_goBack 18 = .ok (.getfield 9, 3) := by decide +kernel
theorem dX4_goBack_21 : decode cX4_goBack 21 = .ok (.iconst 1, 1) := by decide +kernel
theorem dX4_goBack_22 : decode cX4_goBack 22 = .ok (.isub, 1) := by decide +kernel
theorem dX4_goBack_23 : decode cX4_goBack 23 = .ok (.putfield 9, 3) := by decide +kernel
theorem dX4_goBack_26 : decode cX4_goBack 26 = .ok (.aload_n 0, 1) := by decide +kernel
theorem dX4_goBack_27 : decode cX4_goBack 27 = .ok (.getfield 17, 3) := by decide +kernel
theorem dX4_goBack_30 : decode cX4_goBack 30 = .ok (.aload_n 0, 1) := by decide +kernel
theorem dX4_goBack_31 : decode cX4_goBack 31 = .ok (.getfield 21, 3) := by decide +kernel
theorem dX4_goBack_34 : decode cX4_goBack 34 = .ok (.aaload, 1) := by decide +kernel
theorem dX4_goBack_35 : decode cX4_goBack 35 = .ok (.aload_n 1, 1) := by decide +kernel
theorem dX4_goBack_36 : decode cX4_goBack 36 = .ok (.invokevirtual 35, 3) := by decide +kernel
theorem dX4_goBack_39 : decode cX4_goBack 39 = .ok (.return_, 1) := by decide +kernel
theorem dX5_init_0 : decode cX5_init 0 = .ok (.aload_n 0, 1) := by decide +kernel
theorem dX5_init_1 : decode cX5_init 1 = .ok (.invokespecial 3, 3) := by decide +kernel
theorem dX5_init_4 : decode cX5_init 4 = .ok (.aload_n 0, 1) := by decide +kernel
theorem dX5_init_5 : decode cX5_init 5 = .ok (.bipush 40, 2) := by decide +kernel
theorem dX5_init_7 : decode cX5_init 7 = .ok (.newarray .int, 2) := by decide +kernel
theorem dX5_init_9 : decode cX5_init 9 = .ok (.putfield 9, 3) := by decide +kernel
theorem dX5_init_12 : decode cX5_init 12 = .ok (.aload_n 0, 1) := by decide +kernel
theorem dX5_init_13 : decode cX5_init 13 = .ok (.bipush 40, 2) := by decide +kernel
