theorem dX11_paints_115 : decode cX11_paints 115 = .ok (.iinc 4 1, 3) := by decide +kernel
theorem dX11_paints_118 : decode cX11_paints 118 = .ok (.goto (-105), 3) := by decide +kernel
theorem dX11_paints_121 : decode cX11_paints 121 = .ok (.iconst 0, 1) := by decide +kernel
theorem dX11_paints_122 : decode cX11_paints 122 = .ok (.ireturn, 1) := by decide +kernel
theorem dX11_paintsAll_0 : decode cX11_paintsAll 0 = .ok (.aload_n 0, 1) := by decide +kernel
theorem dX11_paintsAll_1 : decode cX11_paintsAll 1 = .ok (.getfield 14, 3) := by decide +kernel
theorem dX11_paintsAll_4 : decode cX11_paintsAll 4 = .ok (.ifCond .le 7, 3) := by decide +kernel
theorem dX11_paintsAll_7 : decode cX11_paintsAll 7 = .ok (.iconst 1, 1) := by decide +kernel
theorem dX11_paintsAll_8 : decode cX11_paintsAll 8 = .ok (.goto 4, 3) := by decide +kernel
theorem dX11_paintsAll_11 : decode cX11_paintsAll 11 = .ok (.iconst 0, 1) := by decide +kernel
theorem dX11_paintsAll_12 : decode cX11_paintsAll 12 = .ok (.invokestatic 43, 3) := by decide +kernel
theorem dX11_paintsAll_15 : decode cX11_paintsAll 15 = .ok (.istore_n 1, 1) := by decide +kernel
theorem dX11_paintsAll_16 : decode cX11_paintsAll 16 = .ok (.aload_n 0, 1) := by decide +kernel
theorem dX11_paintsAll_17 : decode cX11_paintsAll 17 = .ok (.iconst 0, 1) := by decide +kernel
theorem dX11_paintsAll_18 : decode cX11_paintsAll 18 = .ok (.iconst 0, 1) := by decide +kernel
theorem dX11_paintsAll_19 : decode cX11_paintsAll 19 = .ok (.iload_n 1, 1) := by decide +kernel
theorem dX11_paintsAll_20 : decode cX11_paintsAll 20 = .ok (.invokevirtual 314, 3) := by decide +kernel
theorem dX11_paintsAll_23 : decode cX11_paintsAll 23 = .ok (.ifCond .ne 9, 3) := by decide +kernel
theorem dX11_paintsAll_26 : decode cX11_paintsAll 26 = .ok (.iinc 1 1, 3) := by decide +kernel
theorem dX11_paintsAll_29 : decode cX11_paintsAll 29 = .ok (.goto (-13), 3) := by decide +kernel
theorem dX11_paintsAll_32 : decode cX11_paintsAll 32 = .ok (.iload_n 1, 1) := by decide +kernel
theorem dX11_paintsAll_33 : decode cX11_paintsAll 33 = .ok (.ireturn, 1) := by decide +kernel
theorem dX11_colours_0 : decode cX11_colours 0 = .ok (.aload_n 0, 1) := by decide +kernel
theorem dX11_colours_1 : decode cX11_colours 1 = .ok (.iconst 0, 1) := by decide +kernel
theorem dX11_colours_2 : decode cX11_colours 2 = .ok (.putfield 3, 3) := by decide +kernel
theorem dX11_colours_5 : decode cX11_colours 5 = .ok (.aload_n 0, 1) := by decide +kernel
theorem dX11_colours_6 : decode cX11_colours 6 = .ok (.invokevirtual 318, 3) := by decide +kernel
theorem dX11_colours_9 : decode cX11_colours 9 = .ok (.istore_n 1, 1) := by decide +kernel
theorem dX11_colours_10 : decode cX11_colours 10 = .ok (.aload_n 0, 1) := by decide +kernel
theorem dX11_colours_11 : decode cX11_colours 11 = .ok (.iconst 0, 1) := by decide +kernel
theorem dX11_colours_12 : decode cX11_colours 12 = .ok (.putfield 11, 3) := by decide +kernel
theorem dX11_colours_15 : decode cX11_colours 15 = .ok (.iconst 0, 1) := by decide +kernel
theorem dX11_colours_16 : decode cX11_colours 16 = .ok (.istore_n 2, 1) := by decide +kernel
theorem dX11_colours_17 : decode cX11_colours 17 = .ok (.iload_n 2, 1) := by decide +kernel
theorem dX11_colours_18 : decode cX11_colours 18 = .ok (.aload_n 0, 1) := by decide +kernel
theorem dX11_colours_19 : decode cX11_colours 19 = .ok (.getfield 14, 3) := by decide +kernel
theorem dX11_colours_22 : decode cX11_colours 22 = .ok (.if_icmp .ge 19, 3) := by decide +kernel
theorem dX11_colours_25 : decode cX11_colours 25 = .ok (.aload_n 0, 1) := by decide +kernel
theorem dX11_colours_26 : decode cX11_colours 26 = .ok (.aload_n 0, 1) := by decide +kernel
theorem dX11_colours_27 : decode cX11_colours 27 = .ok (.getfield 311, 3) := by decide +kernel
theorem dX11_colours_30 : decode cX11_colours 30 = .ok (.iload_n 2, 1) := by decide +kernel
theorem dX11_colours_31 : decode cX11_colours 31 = .ok (.iaload, 1) := by decide +kernel
theorem dX11_colours_32 : decode cX11_colours 32 = .ok (.invokevirtual 200, 3) := by decide +kernel
theorem dX11_colours_35 : decode cX11_colours 35 = .ok (.iinc 2 1, 3) := by decide +kernel
theorem dX11_colours_38 : decode cX11_colours 38 = .ok (.goto (-21), 3) := by decide +kernel
theorem dX11_colours_41 : decode cX11_colours 41 = .ok (.iload_n 1, 1) := by decide +kernel
theorem dX11_colours_42 : decode cX11_colours 42 = .ok (.ireturn, 1) := by decide +kernel
theorem dX11_clique_0 : decode cX11_clique 0 = .ok (.aload_n 0, 1) := by decide +kernel
theorem dX11_clique_1 : decode cX11_clique 1 = .ok (.iconst 0, 1) := by decide +kernel
theorem dX11_clique_2 : decode cX11_clique 2 = .ok (.putfield 3, 3) := by decide +kernel
theorem dX11_clique_5 : decode cX11_clique 5 = .ok (.iconst 0, 1) := by decide +kernel
theorem dX11_clique_6 : decode cX11_clique 6 = .ok (.istore_n 1, 1) := by decide +kernel
theorem dX11_clique_7 : decode cX11_clique 7 = .ok (.iconst 1, 1) := by decide +kernel
theorem dX11_clique_8 : decode cX11_clique 8 = .ok (.istore_n 2, 1) := by decide +kernel
theorem dX11_clique_9 : decode cX11_clique 9 = .ok (.iload_n 2, 1) := by decide +kernel
theorem dX11_clique_10 : decode cX11_clique 10 = .ok (.iconst 1, 1) := by decide +kernel
theorem dX11_clique_11 : decode cX11_clique 11 = .ok (.aload_n 0, 1) := by decide +kernel
theorem dX11_clique_12 : decode cX11_clique 12 = .ok (.getfield 14, 3) := by decide +kernel
theorem dX11_clique_15 : decode cX11_clique 15 = .ok (.ishl, 1) := by decide +kernel
theorem dX11_clique_16 : decode cX11_clique 16 = .ok (.if_icmp .ge 91, 3) := by decide +kernel
theorem dX11_clique_19 : decode cX11_clique 19 = .ok (.iload_n 2, 1) := by decide +kernel
theorem dX11_clique_20 : decode cX11_clique 20 = .ok (.invokestatic 126, 3) := by decide +kernel
theorem dX11_clique_23 : decode cX11_clique 23 = .ok (.iload_n 1, 1) := by decide +kernel
theorem dX11_clique_24 : decode cX11_clique 24 = .ok (.invokestatic 126, 3) := by decide +kernel
theorem dX11_clique_27 : decode cX11_clique 27 = .ok (.if_icmp .le 7, 3) := by decide +kernel
theorem dX11_clique_30 : decode cX11_clique 30 = .ok (.iconst 1, 1) := by decide +kernel
theorem dX11_clique_31 : decode cX11_clique 31 = .ok (.goto 4, 3) := by decide +kernel
theorem dX11_clique_34 : decode cX11_clique 34 = .ok (.iconst 0, 1) := by decide +kernel
theorem dX11_clique_35 : decode cX11_clique 35 = .ok (.istore_n 3, 1) := by decide +kernel
theorem dX11_clique_36 : decode cX11_clique 36 = .ok (.iconst 0, 1) := by decide +kernel
theorem dX11_clique_37 : decode cX11_clique 37 = .ok (.istore 4, 2) := by decide +kernel
theorem dX11_clique_39 : decode cX11_clique 39 = .ok (.iload 4, 2) := by decide +kernel
theorem dX11_clique_41 : decode cX11_clique 41 = .ok (.aload_n 0, 1) := by decide +kernel
theorem dX11_clique_42 : decode cX11_clique 42 = .ok (.getfield 14, 3) := by decide +kernel
theorem dX11_clique_45 : decode cX11_clique 45 = .ok (.if_icmp .ge 46, 3) := by decide +kernel
theorem dX11_clique_48 : decode cX11_clique 48 = .ok (.iload_n 3, 1) := by decide +kernel
theorem dX11_clique_49 : decode cX11_clique 49 = .ok (.ifCond .eq 42, 3) := by decide +kernel
theorem dX11_clique_52 : decode cX11_clique 52 = .ok (.iload_n 2, 1) := by decide +kernel
theorem dX11_clique_53 : decode cX11_clique 53 = .ok (.iload 4, 2) := by decide +kernel
theorem dX11_clique_55 : decode cX11_clique 55 = .ok (.invokestatic 108, 3) := by decide +kernel
theorem dX11_clique_58 : decode cX11_clique 58 = .ok (.ifCond .eq 21, 3) := by decide +kernel
theorem dX11_clique_61 : decode cX11_clique 61 = .ok (.iload_n 2, 1) := by decide +kernel
theorem dX11_clique_62 : decode cX11_clique 62 = .ok (.aload_n 0, 1) := by decide +kernel
theorem dX11_clique_63 : decode cX11_clique 63 = .ok (.getfield 80, 3) := by decide +kernel
theorem dX11_clique_66 : decode cX11_clique 66 = .ok (.iload 4, 2) := by decide +kernel
theorem dX11_clique_68 : decode cX11_clique 68 = .ok (.iaload, 1) := by decide +kernel
theorem dX11_clique_69 : decode cX11_clique 69 = .ok (.iconst (-1), 1) := by decide +kernel
theorem dX11_clique_70 : decode cX11_clique 70 = .ok (.ixor, 1) := by decide +kernel
theorem dX11_clique_71 : decode cX11_clique 71 = .ok (.iand, 1) := by decide +kernel
theorem dX11_clique_72 : decode cX11_clique 72 = .ok (.iconst 1, 1) := by decide +kernel
theorem dX11_clique_73 : decode cX11_clique 73 = .ok (.iload 4, 2) := by decide +kernel
theorem dX11_clique_75 : decode cX11_clique 75 = .ok (.ishl, 1) := by decide +kernel
theorem dX11_clique_76 : decode cX11_clique 76 = .ok (.if_icmp .ne 7, 3) := by decide +kernel
theorem dX11_clique_79 : decode cX11_clique 79 = .ok (.iconst 1, 1) := by decide +kernel
theorem dX11_clique_80 : decode cX11_clique 80 = .ok (.goto 4, 3) := by decide +kernel
theorem dX11_clique_83 : decode cX11_clique 83 = .ok (.iconst 0, 1) := by decide +kernel
theorem dX11_clique_84 : decode cX11_clique 84 = .ok (.istore_n 3, 1) := by decide +kernel
theorem dX11_clique_85 : decode cX11_clique 85 = .ok (.iinc 4 1, 3) := by decide +kernel
theorem dX11_clique_88 : decode cX11_clique 88 = .ok (.goto (-49), 3) := by decide +kernel
theorem dX11_clique_91 : decode cX11_clique 91 = .ok (.iload_n 3, 1) := by decide +kernel
theorem dX11_clique_92 : decode cX11_clique 92 = .ok (.ifCond .eq 7, 3) := by decide +kernel
theorem dX11_clique_95 : decode cX11_clique 95 = .ok (.iload_n 2, 1) := by decide +kernel
theorem dX11_clique_96 : decode cX11_clique 96 = .ok (.goto 4, 3) := by decide +kernel
theorem dX11_clique_99 : decode cX11_clique 99 = .ok (.iload_n 1, 1) := by decide +kernel
theorem dX11_clique_100 : decode cX11_clique 100 = .ok (.istore_n 1, 1) := by decide +kernel
theorem dX11_clique_101 : decode cX11_clique 101 = .ok (.iinc 2 1, 3) := by decide +kernel
theorem dX11_clique_104 : decode cX11_clique 104 = .ok (.goto (-95), 3) := by decide +kernel
theorem dX11_clique_107 : decode cX11_clique 107 = .ok (.aload_n 0, 1) := by decide +kernel
theorem dX11_clique_108 : decode cX11_clique 108 = .ok (.iconst 0, 1) := by decide +kernel
theorem dX11_clique_109 : decode cX11_clique 109 = .ok (.putfield 11, 3) := by decide +kernel
theorem dX11_clique_112 : decode cX11_clique 112 = .ok (.aload_n 0, 1) := by decide +kernel
theorem dX11_clique_113 : decode cX11_clique 113 = .ok (.iload_n 1, 1) := by decide +kernel
theorem dX11_clique_114 : decode cX11_clique 114 = .ok (.invokevirtual 200, 3) := by decide +kernel
theorem dX11_clique_117 : decode cX11_clique 117 = .ok (.iload_n 1, 1) := by decide +kernel
theorem dX11_clique_118 : decode cX11_clique 118 = .ok (.invokestatic 126, 3) := by decide +kernel
theorem dX11_clique_121 : decode cX11_clique 121 = .ok (.ireturn, 1) := by decide +kernel
theorem dX11_lowest_0 : decode cX11_lowest 0 = .ok (.aload_n 0, 1) := by decide +kernel
theorem dX11_lowest_1 : decode cX11_lowest 1 = .ok (.iconst 0, 1) := by decide +kernel
theorem dX11_lowest_2 : decode cX11_lowest 2 = .ok (.putfield 3, 3) := by decide +kernel
theorem dX11_lowest_5 : decode cX11_lowest 5 = .ok (.aload_n 0, 1) := by decide +kernel
theorem dX11_lowest_6 : decode cX11_lowest 6 = .ok (.invokevirtual 318, 3) := by decide +kernel
theorem dX11_lowest_9 : decode cX11_lowest 9 = .ok (.istore_n 1, 1) := by decide +kernel
theorem dX11_lowest_10 : decode cX11_lowest 10 = .ok (.aload_n 0, 1) := by decide +kernel
theorem dX11_lowest_11 : decode cX11_lowest 11 = .ok (.iconst 0, 1) := by decide +kernel
theorem dX11_lowest_12 : decode cX11_lowest 12 = .ok (.putfield 11, 3) := by decide +kernel
theorem dX11_lowest_15 : decode cX11_lowest 15 = .ok (.iconst 0, 1) := by decide +kernel
theorem dX11_lowest_16 : decode cX11_lowest 16 = .ok (.istore_n 2, 1) := by decide +kernel
theorem dX11_lowest_17 : decode cX11_lowest 17 = .ok (.iload_n 2, 1) := by decide +kernel
theorem dX11_lowest_18 : decode cX11_lowest 18 = .ok (.aload_n 0, 1) := by decide +kernel
theorem dX11_lowest_19 : decode cX11_lowest 19 = .ok (.getfield 14, 3) := by decide +kernel
theorem dX11_lowest_22 : decode cX11_lowest 22 = .ok (.if_icmp .ge 26, 3) := by decide +kernel
theorem dX11_lowest_25 : decode cX11_lowest 25 = .ok (.aload_n 0, 1) := by decide +kernel
theorem dX11_lowest_26 : decode cX11_lowest 26 = .ok (.aload_n 0, 1) := by decide +kernel
theorem dX11_lowest_27 : decode cX11_lowest 27 = .ok (.getfield 115, 3) := by decide +kernel
theorem dX11_lowest_30 : decode cX11_lowest 30 = .ok (.iconst 0, 1) := by decide +kernel
theorem dX11_lowest_31 : decode cX11_lowest 31 = .ok (.iaload, 1) := by decide +kernel
theorem dX11_lowest_32 : decode cX11_lowest 32 = .ok (.aload_n 0, 1) := by decide +kernel
theorem dX11_lowest_33 : decode cX11_lowest 33 = .ok (.getfield 311, 3) := by decide +kernel
theorem dX11_lowest_36 : decode cX11_lowest 36 = .ok (.iload_n 2, 1) := by decide +kernel
theorem dX11_lowest_37 : decode cX11_lowest 37 = .ok (.iaload, 1) := by decide +kernel
theorem dX11_lowest_38 : decode cX11_lowest 38 = .ok (.imul, 1) := by decide +kernel
theorem dX11_lowest_39 : decode cX11_lowest 39 = .ok (.invokevirtual 200, 3) := by decide +kernel
theorem dX11_lowest_42 : decode cX11_lowest 42 = .ok (.iinc 2 1, 3) := by decide +kernel
theorem dX11_lowest_45 : decode cX11_lowest 45 = .ok (.goto (-28), 3) := by decide +kernel
theorem dX11_lowest_48 : decode cX11_lowest 48 = .ok (.aload_n 0, 1) := by decide +kernel
theorem dX11_lowest_49 : decode cX11_lowest 49 = .ok (.getfield 14, 3) := by decide +kernel
theorem dX11_lowest_52 : decode cX11_lowest 52 = .ok (.ifCond .ne 7, 3) := by decide +kernel
theorem dX11_lowest_55 : decode cX11_lowest 55 = .ok (.iconst 0, 1) := by decide +kernel
theorem dX11_lowest_56 : decode cX11_lowest 56 = .ok (.goto 13, 3) := by decide +kernel
theorem dX11_lowest_59 : decode cX11_lowest 59 = .ok (.aload_n 0, 1) := by decide +kernel
theorem dX11_lowest_60 : decode cX11_lowest 60 = .ok (.getfield 115, 3) := by decide +kernel
theorem dX11_lowest_63 : decode cX11_lowest 63 = .ok (.iconst 0, 1) := by decide +kernel
theorem dX11_lowest_64 : decode cX11_lowest 64 = .ok (.iaload, 1) := by decide +kernel
theorem dX11_lowest_65 : decode cX11_lowest 65 = .ok (.iload_n 1, 1) := by decide +kernel
theorem dX11_lowest_66 : decode cX11_lowest 66 = .ok (.iconst 1, 1) := by decide +kernel
theorem dX11_lowest_67 : decode cX11_lowest 67 = .ok (.isub, 1) := by decide +kernel
theorem dX11_lowest_68 : decode cX11_lowest 68 = .ok (.imul, 1) := by decide +kernel
theorem dX11_lowest_69 : decode cX11_lowest 69 = .ok (.ireturn, 1) := by decide +kernel
theorem dX11_place_0 : decode cX11_place 0 = .ok (.aload_n 0, 1) := by decide +kernel
theorem dX11_place_1 : decode cX11_place 1 = .ok (.iconst 0, 1) := by decide +kernel
theorem dX11_place_2 : decode cX11_place 2 = .ok (.putfield 3, 3) := by decide +kernel
theorem dX11_place_5 : decode cX11_place 5 = .ok (.aload_n 0, 1) := by decide +kernel
theorem dX11_place_6 : decode cX11_place 6 = .ok (.iload_n 1, 1) := by decide +kernel
theorem dX11_place_7 : decode cX11_place 7 = .ok (.invokevirtual 218, 3) := by decide +kernel
theorem dX11_place_10 : decode cX11_place 10 = .ok (.ifCond .ne 5, 3) := by decide +kernel
theorem dX11_place_13 : decode cX11_place 13 = .ok (.iconst (-1), 1) := by decide +kernel
theorem dX11_place_14 : decode cX11_place 14 = .ok (.ireturn, 1) := by decide +kernel
theorem dX11_place_15 : decode cX11_place 15 = .ok (.iconst 0, 1) := by decide +kernel
theorem dX11_place_16 : decode cX11_place 16 = .ok (.istore_n 2, 1) := by decide +kernel
theorem dX11_place_17 : decode cX11_place 17 = .ok (.iconst 0, 1) := by decide +kernel
theorem dX11_place_18 : decode cX11_place 18 = .ok (.istore_n 3, 1) := by decide +kernel
theorem dX11_place_19 : decode cX11_place 19 = .ok (.iconst 0, 1) := by decide +kernel
theorem dX11_place_20 : decode cX11_place 20 = .ok (.istore 4, 2) := by decide +kernel
theorem dX11_place_22 : decode cX11_place 22 = .ok (.iconst 0, 1) := by decide +kernel
theorem dX11_place_23 : decode cX11_place 23 = .ok (.istore 5, 2) := by decide +kernel
theorem dX11_place_25 : decode cX11_place 25 = .ok (.iload 5, 2) := by decide +kernel
theorem dX11_place_27 : decode cX11_place 27 = .ok (.bipush 99, 2) := by decide +kernel
theorem dX11_place_29 : decode cX11_place 29 = .ok (.if_icmp .gt 96, 3) := by decide +kernel
theorem dX11_place_32 : decode cX11_place 32 = .ok (.iconst 1, 1) := by decide +kernel
theorem dX11_place_33 : decode cX11_place 33 = .ok (.istore 6, 2) := by decide +kernel
theorem dX11_place_35 : decode cX11_place 35 = .ok (.iconst 0, 1) := by decide +kernel
theorem dX11_place_36 : decode cX11_place 36 = .ok (.istore 7, 2) := by decide +kernel
theorem dX11_place_38 : decode cX11_place 38 = .ok (.iload 7, 2) := by decide +kernel
theorem dX11_place_40 : decode cX11_place 40 = .ok (.aload_n 0, 1) := by decide +kernel
theorem dX11_place_41 : decode cX11_place 41 = .ok (.getfield 14, 3) := by decide +kernel
theorem dX11_place_44 : decode cX11_place 44 = .ok (.if_icmp .ge 52, 3) := by decide +kernel
theorem dX11_place_47 : decode cX11_place 47 = .ok (.iload 6, 2) := by decide +kernel
theorem dX11_place_49 : decode cX11_place 49 = .ok (.ifCond .eq 38, 3) := by decide +kernel
theorem dX11_place_52 : decode cX11_place 52 = .ok (.iload_n 1, 1) := by decide +kernel
theorem dX11_place_53 : decode cX11_place 53 = .ok (.iload 7, 2) := by decide +kernel
theorem dX11_place_55 : decode cX11_place 55 = .ok (.invokestatic 108, 3) := by decide +kernel
theorem dX11_place_58 : decode cX11_place 58 = .ok (.ifCond .eq 25, 3) := by decide +kernel
theorem dX11_place_61 : decode cX11_place 61 = .ok (.aload_n 0, 1) := by decide +kernel
theorem dX11_place_62 : decode cX11_place 62 = .ok (.getfield 96, 3) := by decide +kernel
theorem dX11_place_65 : decode cX11_place 65 = .ok (.iload 7, 2) := by decide +kernel
theorem dX11_place_67 : decode cX11_place 67 = .ok (.iaload, 1) := by decide +kernel
theorem dX11_place_68 : decode cX11_place 68 = .ok (.iload 5, 2) := by decide +kernel
theorem dX11_place_70 : decode cX11_place 70 = .ok (.isub, 1) := by decide +kernel
theorem dX11_place_71 : decode cX11_place 71 = .ok (.invokestatic 112, 3) := by decide +kernel
theorem dX11_place_74 : decode cX11_place 74 = .ok (.aload_n 0, 1) := by decide +kernel
theorem dX11_place_75 : decode cX11_place 75 = .ok (.getfield 115, 3) := by decide +kernel
theorem dX11_place_78 : decode cX11_place 78 = .ok (.iconst 0, 1) := by decide +kernel
theorem dX11_place_79 : decode cX11_place 79 = .ok (.iaload, 1) := by decide +kernel
theorem dX11_place_80 : decode cX11_place 80 = .ok (.if_icmp .lt 7, 3) := by decide +kernel
theorem dX11_place_83 : decode cX11_place 83 = .ok (.iconst 1, 1) := by decide +kernel
theorem dX11_place_84 : decode cX11_place 84 = .ok (.goto 4, 3) := by decide +kernel
theorem dX11_place_87 : decode cX11_place 87 = .ok (.iconst 0, 1) := by decide +kernel
theorem dX11_place_88 : decode cX11_place 88 = .ok (.istore 6, 2) := by decide +kernel
theorem dX11_place_90 : decode cX11_place 90 = .ok (.iinc 7 1, 3) := by decide +kernel
theorem dX11_place_93 : decode cX11_place 93 = .ok (.goto (-55), 3) := by decide +kernel
theorem dX11_place_96 : decode cX11_place 96 = .ok (.iload 6, 2) := by decide +kernel
theorem dX11_place_98 : decode cX11_place 98 = .ok (.ifCond .eq 21, 3) := by decide +kernel
theorem dX11_place_101 : decode cX11_place 101 = .ok (.iload_n 2, 1) := by decide +kernel
theorem dX11_place_102 : decode cX11_place 102 = .ok (.ifCond .ne 8, 3) := by decide +kernel
theorem dX11_place_105 : decode cX11_place 105 = .ok (.iload 5, 2) := by decide +kernel
theorem dX11_place_107 : decode cX11_place 107 = .ok (.goto 4, 3) := by decide +kernel
theorem dX11_place_110 : decode cX11_place 110 = .ok (.iload_n 3, 1) := by decide +kernel
theorem dX11_place_111 : decode cX11_place 111 = .ok (.istore_n 3, 1) := by decide +kernel
theorem dX11_place_112 : decode cX11_place 112 = .ok (.iload 5, 2) := by decide +kernel
theorem dX11_place_114 : decode cX11_place 114 = .ok (.istore 4, 2) := by decide +kernel
theorem dX11_place_116 : decode cX11_place 116 = .ok (.iinc 2 1, 3) := by decide +kernel
theorem dX11_place_119 : decode cX11_place 119 = .ok (.iinc 5 1, 3) := by decide +kernel
theorem dX11_place_122 : decode cX11_place 122 = .ok (.goto (-97), 3) := by decide +kernel
theorem dX11_place_125 : decode cX11_place 125 = .ok (.aload_n 0, 1) := by decide +kernel
theorem dX11_place_126 : decode cX11_place 126 = .ok (.iconst 0, 1) := by decide +kernel
theorem dX11_place_127 : decode cX11_place 127 = .ok (.putfield 11, 3) := by decide +kernel
theorem dX11_place_130 : decode cX11_place 130 = .ok (.iload_n 2, 1) := by decide +kernel
theorem dX11_place_131 : decode cX11_place 131 = .ok (.ifCond .le 14, 3) := by decide +kernel
theorem dX11_place_134 : decode cX11_place 134 = .ok (.aload_n 0, 1) := by decide +kernel
theorem dX11_place_135 : decode cX11_place 135 = .ok (.iload_n 3, 1) := by decide +kernel
theorem dX11_place_136 : decode cX11_place 136 = .ok (.invokevirtual 200, 3) := by decide +kernel
theorem dX11_place_139 : decode cX11_place 139 = .ok (.aload_n 0, 1) := by decide +kernel
theorem dX11_place_140 : decode cX11_place 140 = .ok (.iload 4, 2) := by decide +kernel
theorem dX11_place_142 : decode cX11_place 142 = .ok (.invokevirtual 200, 3) := by decide +kernel
theorem dX11_place_145 : decode cX11_place 145 = .ok (.iload_n 2, 1) := by decide +kernel
theorem dX11_place_146 : decode cX11_place 146 = .ok (.ireturn, 1) := by decide +kernel
theorem dX11_startsThen_0 : decode cX11_startsThen 0 = .ok (.iconst 0, 1) := by decide +kernel
theorem dX11_startsThen_1 : decode cX11_startsThen 1 = .ok (.istore_n 1, 1) := by decide +kernel
theorem dX11_startsThen_2 : decode cX11_startsThen 2 = .ok (.iload_n 1, 1) := by decide +kernel
theorem dX11_startsThen_3 : decode cX11_startsThen 3 = .ok (.bipush 9, 2) := by decide +kernel
theorem dX11_startsThen_5 : decode cX11_startsThen 5 = .ok (.if_icmp .ge 21, 3) := by decide +kernel
theorem dX11_startsThen_8 : decode cX11_startsThen 8 = .ok (.aload_n 0, 1) := by decide +kernel
theorem dX11_startsThen_9 : decode cX11_startsThen 9 = .ok (.getfield 321, 3) := by decide +kernel
theorem dX11_startsThen_12 : decode cX11_startsThen 12 = .ok (.iload_n 1, 1) := by decide +kernel
theorem dX11_startsThen_13 : decode cX11_startsThen 13 = .ok (.aload_n 0, 1) := by decide +kernel
theorem dX11_startsThen_14 : decode cX11_startsThen 14 = .ok (.getfield 96, 3) := by decide +kernel
theorem dX11_startsThen_17 : decode cX11_startsThen 17 = .ok (.iload_n 1, 1) := by decide +kernel
theorem dX11_startsThen_18 : decode cX11_startsThen 18 = .ok (.iaload, 1) := by decide +kernel
theorem dX11_startsThen_19 : decode cX11_startsThen 19 = .ok (.iastore, 1) := by decide +kernel
theorem dX11_startsThen_20 : decode cX11_startsThen 20 = .ok (.iinc 1 1, 3) := by decide +kernel
theorem dX11_startsThen_23 : decode cX11_startsThen 23 = .ok (.goto (-21), 3) := by decide +kernel
theorem dX11_startsThen_26 : decode cX11_startsThen 26 = .ok (.return_, 1) := by decide +kernel
theorem dX11_lastsNow_0 : decode cX11_lastsNow 0 = .ok (.aload_n 0, 1) := by decide +kernel
theorem dX11_lastsNow_1 : decode cX11_lastsNow 1 = .ok (.invokevirtual 324, 3) := by decide +kernel
theorem dX11_lastsNow_4 : decode cX11_lastsNow 4 = .ok (.iconst 1, 1) := by decide +kernel
theorem dX11_lastsNow_5 : decode cX11_lastsNow 5 = .ok (.istore_n 1, 1) := by decide +kernel
theorem dX11_lastsNow_6 : decode cX11_lastsNow 6 = .ok (.iload_n 1, 1) := by decide +kernel
theorem dX11_lastsNow_7 : decode cX11_lastsNow 7 = .ok (.bipush 100, 2) := by decide +kernel
theorem dX11_lastsNow_9 : decode cX11_lastsNow 9 = .ok (.if_icmp .gt 32, 3) := by decide +kernel
theorem dX11_lastsNow_12 : decode cX11_lastsNow 12 = .ok (.aload_n 0, 1) := by decide +kernel
theorem dX11_lastsNow_13 : decode cX11_lastsNow 13 = .ok (.aload_n 0, 1) := by decide +kernel
theorem dX11_lastsNow_14 : decode cX11_lastsNow 14 = .ok (.getfield 321, 3) := by decide +kernel
theorem dX11_lastsNow_17 : decode cX11_lastsNow 17 = .ok (.iconst 0, 1) := by decide +kernel
theorem dX11_lastsNow_18 : decode cX11_lastsNow 18 = .ok (.iconst 0, 1) := by decide +kernel
theorem dX11_lastsNow_19 : decode cX11_lastsNow 19 = .ok (.invokevirtual 213, 3) := by decide +kernel
theorem dX11_lastsNow_22 : decode cX11_lastsNow 22 = .ok (.aload_n 0, 1) := by decide +kernel
theorem dX11_lastsNow_23 : decode cX11_lastsNow 23 = .ok (.aload_n 0, 1) := by decide +kernel
theorem dX11_lastsNow_24 : decode cX11_lastsNow 24 = .ok (.getfield 321, 3) := by decide +kernel
theorem dX11_lastsNow_27 : decode cX11_lastsNow 27 = .ok (.invokevirtual 224, 3) := by decide +kernel
theorem dX11_lastsNow_30 : decode cX11_lastsNow 30 = .ok (.ifCond .le 5, 3) := by decide +kernel
theorem dX11_lastsNow_33 : decode cX11_lastsNow 33 = .ok (.iload_n 1, 1) := by decide +kernel
theorem dX11_lastsNow_34 : decode cX11_lastsNow 34 = .ok (.ireturn, 1) := by decide +kernel
theorem dX11_lastsNow_35 : decode cX11_lastsNow 35 = .ok (.iinc 1 1, 3) := by decide +kernel
theorem dX11_lastsNow_38 : decode cX11_lastsNow 38 = .ok (.goto (-32), 3) := by decide +kernel
theorem dX11_lastsNow_41 : decode cX11_lastsNow 41 = .ok (.bipush (-2), 2) := by decide +kernel
theorem dX11_lastsNow_43 : decode cX11_lastsNow 43 = .ok (.ireturn, 1) := by decide +kernel
theorem dX11_lasts_0 : decode cX11_lasts 0 = .ok (.aload_n 0, 1) := by decide +kernel
theorem dX11_lasts_1 : decode cX11_lasts 1 = .ok (.iconst 0, 1) := by decide +kernel
theorem dX11_lasts_2 : decode cX11_lasts 2 = .ok (.putfield 3, 3) := by decide +kernel
theorem dX11_lasts_5 : decode cX11_lasts 5 = .ok (.aload_n 0, 1) := by decide +kernel
theorem dX11_lasts_6 : decode cX11_lasts 6 = .ok (.invokevirtual 327, 3) := by decide +kernel
theorem dX11_lasts_9 : decode cX11_lasts 9 = .ok (.ireturn, 1) := by decide +kernel
theorem dX11_isHundred_0 : decode cX11_isHundred 0 = .ok (.iload_n 0, 1) := by decide +kernel
theorem dX11_isHundred_1 : decode cX11_isHundred 1 = .ok (.i2l, 1) := by decide +kernel
theorem dX11_isHundred_2 : decode cX11_isHundred 2 = .ok (.lconst 0, 1) := by decide +kernel
theorem dX11_isHundred_3 : decode cX11_isHundred 3 = .ok (.ldc2_w 330, 3) := by decide +kernel
theorem dX11_isHundred_6 : decode cX11_isHundred 6 = .ok (.invokestatic 17, 3) := by decide +kernel
theorem dX11_isHundred_9 : decode cX11_isHundred 9 = .ok (.ireturn, 1) := by decide +kernel
theorem dX11_later_0 : decode cX11_later 0 = .ok (.aload_n 0, 1) := by decide +kernel
theorem dX11_later_1 : decode cX11_later 1 = .ok (.iconst 0, 1) := by decide +kernel
theorem dX11_later_2 : decode cX11_later 2 = .ok (.putfield 3, 3) := by decide +kernel
theorem dX11_later_5 : decode cX11_later 5 = .ok (.aload_n 0, 1) := by decide +kernel
theorem dX11_later_6 : decode cX11_later 6 = .ok (.iload_n 1, 1) := by decide +kernel
theorem dX11_later_7 : decode cX11_later 7 = .ok (.invokevirtual 21, 3) := by decide +kernel
theorem dX11_later_10 : decode cX11_later 10 = .ok (.ifCond .eq 10, 3) := by decide +kernel
theorem dX11_later_13 : decode cX11_later 13 = .ok (.iload_n 2, 1) := by decide +kernel
theorem dX11_later_14 : decode cX11_later 14 = .ok (.invokestatic 332, 3) := by decide +kernel
theorem dX11_later_17 : decode cX11_later 17 = .ok (.ifCond .ne 5, 3) := by decide +kernel
theorem dX11_later_20 : decode cX11_later 20 = .ok (.iconst (-1), 1) := by decide +kernel
theorem dX11_later_21 : decode cX11_later 21 = .ok (.ireturn, 1) := by decide +kernel
theorem dX11_later_22 : decode cX11_later 22 = .ok (.aload_n 0, 1) := by decide +kernel
theorem dX11_later_23 : decode cX11_later 23 = .ok (.invokevirtual 324, 3) := by decide +kernel
theorem dX11_later_26 : decode cX11_later 26 = .ok (.iconst 0, 1) := by decide +kernel
theorem dX11_later_27 : decode cX11_later 27 = .ok (.istore_n 3, 1) := by decide +kernel
theorem dX11_later_28 : decode cX11_later 28 = .ok (.iload_n 3, 1) := by decide +kernel
theorem dX11_later_29 : decode cX11_later 29 = .ok (.iload_n 2, 1) := by decide +kernel
theorem dX11_later_30 : decode cX11_later 30 = .ok (.if_icmp .ge 19, 3) := by decide +kernel
theorem dX11_later_33 : decode cX11_later 33 = .ok (.aload_n 0, 1) := by decide +kernel
theorem dX11_later_34 : decode cX11_later 34 = .ok (.aload_n 0, 1) := by decide +kernel
theorem dX11_later_35 : decode cX11_later 35 = .ok (.getfield 321, 3) := by decide +kernel
theorem dX11_later_38 : decode cX11_later 38 = .ok (.iconst 0, 1) := by decide +kernel
theorem dX11_later_39 : decode cX11_later 39 = .ok (.iconst 0, 1) := by decide +kernel
theorem dX11_later_40 : decode cX11_later 40 = .ok (.invokevirtual 213, 3) := by decide +kernel
theorem dX11_later_43 : decode cX11_later 43 = .ok (.iinc 3 1, 3) := by decide +kernel
theorem dX11_later_46 : decode cX11_later 46 = .ok (.goto (-18), 3) := by decide +kernel
theorem dX11_later_49 : decode cX11_later 49 = .ok (.aload_n 0, 1) := by decide +kernel
theorem dX11_later_50 : decode cX11_later 50 = .ok (.getfield 321, 3) := by decide +kernel
theorem dX11_later_53 : decode cX11_later 53 = .ok (.iload_n 1, 1) := by decide +kernel
theorem dX11_later_54 : decode cX11_later 54 = .ok (.iaload, 1) := by decide +kernel
theorem dX11_later_55 : decode cX11_later 55 = .ok (.ireturn, 1) := by decide +kernel
theorem dX11_still_0 : decode cX11_still 0 = .ok (.aload_n 0, 1) := by decide +kernel
theorem dX11_still_1 : decode cX11_still 1 = .ok (.iconst 0, 1) := by decide +kernel
theorem dX11_still_2 : decode cX11_still 2 = .ok (.putfield 3, 3) := by decide +kernel
theorem dX11_still_5 : decode cX11_still 5 = .ok (.aload_n 0, 1) := by decide +kernel
theorem dX11_still_6 : decode cX11_still 6 = .ok (.invokevirtual 324, 3) := by decide +kernel
theorem dX11_still_9 : decode cX11_still 9 = .ok (.iconst 0, 1) := by decide +kernel
theorem dX11_still_10 : decode cX11_still 10 = .ok (.istore_n 1, 1) := by decide +kernel
theorem dX11_still_11 : decode cX11_still 11 = .ok (.iload_n 1, 1) := by decide +kernel
theorem dX11_still_12 : decode cX11_still 12 = .ok (.bipush 100, 2) := by decide +kernel
theorem dX11_still_14 : decode cX11_still 14 = .ok (.if_icmp .gt 64, 3) := by decide +kernel
theorem dX11_still_17 : decode cX11_still 17 = .ok (.aload_n 0, 1) := by decide +kernel
theorem dX11_still_18 : decode cX11_still 18 = .ok (.aload_n 0, 1) := by decide +kernel
theorem dX11_still_19 : decode cX11_still 19 = .ok (.getfield 321, 3) := by decide +kernel
theorem dX11_still_22 : decode cX11_still 22 = .ok (.invokevirtual 250, 3) := by decide +kernel
theorem dX11_still_25 : decode cX11_still 25 = .ok (.lstore_n 2, 1) := by decide +kernel
theorem dX11_still_26 : decode cX11_still 26 = .ok (.aload_n 0, 1) := by decide +kernel
theorem dX11_still_27 : decode cX11_still 27 = .ok (.aload_n 0, 1) := by decide +kernel
theorem dX11_still_28 : decode cX11_still 28 = .ok (.getfield 321, 3) := by decide +kernel
theorem dX11_still_31 : decode cX11_still 31 = .ok (.invokevirtual 224, 3) := by decide +kernel
theorem dX11_still_34 : decode cX11_still 34 = .ok (.istore 4, 2) := by decide +kernel
theorem dX11_still_36 : decode cX11_still 36 = .ok (.aload_n 0, 1) := by decide +kernel
theorem dX11_still_37 : decode cX11_still 37 = .ok (.aload_n 0, 1) := by decide +kernel
theorem dX11_still_38 : decode cX11_still 38 = .ok (.getfield 321, 3) := by decide +kernel
theorem dX11_still_41 : decode cX11_still 41 = .ok (.iconst 0, 1) := by decide +kernel
theorem dX11_still_42 : decode cX11_still 42 = .ok (.iconst 0, 1) := by decide +kernel
theorem dX11_still_43 : decode cX11_still 43 = .ok (.invokevirtual 213, 3) := by decide +kernel
theorem dX11_still_46 : decode cX11_still 46 = .ok (.aload_n 0, 1) := by decide +kernel
theorem dX11_still_47 : decode cX11_still 47 = .ok (.aload_n 0, 1) := by decide +kernel
theorem dX11_still_48 : decode cX11_still 48 = .ok (.getfield 321, 3) := by decide +kernel
theorem dX11_still_51 : decode cX11_still 51 = .ok (.invokevirtual 250, 3) := by decide +kernel
theorem dX11_still_54 : decode cX11_still 54 = .ok (.lload_n 2, 1) := by decide +kernel
theorem dX11_still_55 : decode cX11_still 55 = .ok (.lcmp, 1) := by decide +kernel
theorem dX11_still_56 : decode cX11_still 56 = .ok (.ifCond .ne 16, 3) := by decide +kernel
theorem dX11_still_59 : decode cX11_still 59 = .ok (.aload_n 0, 1) := by decide +kernel
theorem dX11_still_60 : decode cX11_still 60 = .ok (.iconst 0, 1) := by decide +kernel
theorem dX11_still_61 : decode cX11_still 61 = .ok (.putfield 11, 3) := by decide +kernel
theorem dX11_still_64 : decode cX11_still 64 = .ok (.aload_n 0, 1) := by decide +kernel
theorem dX11_still_65 : decode cX11_still 65 = .ok (.iload 4, 2) := by decide +kernel
theorem dX11_still_67 : decode cX11_still 67 = .ok (.invokevirtual 200, 3) := by decide +kernel
theorem dX11_still_70 : decode cX11_still 70 = .ok (.iload_n 1, 1) := by decide +kernel
theorem dX11_still_71 : decode cX11_still 71 = .ok (.ireturn, 1) := by decide +kernel
theorem dX11_still_72 : decode cX11_still 72 = .ok (.iinc 1 1, 3) := by decide +kernel
theorem dX11_still_75 : decode cX11_still 75 = .ok (.goto (-64), 3) := by decide +kernel
theorem dX11_still_78 : decode cX11_still 78 = .ok (.bipush (-2), 2) := by decide +kernel
theorem dX11_still_80 : decode cX11_still 80 = .ok (.ireturn, 1) := by decide +kernel
theorem dX11_keeps_0 : decode cX11_keeps 0 = .ok (.aload_n 0, 1) := by decide +kernel
theorem dX11_keeps_1 : decode cX11_keeps 1 = .ok (.iconst 0, 1) := by decide +kernel
theorem dX11_keeps_2 : decode cX11_keeps 2 = .ok (.putfield 3, 3) := by decide +kernel
theorem dX11_keeps_5 : decode cX11_keeps 5 = .ok (.iload_n 1, 1) := by decide +kernel
theorem dX11_keeps_6 : decode cX11_keeps 6 = .ok (.i2l, 1) := by decide +kernel
theorem dX11_keeps_7 : decode cX11_keeps 7 = .ok (.lconst 0, 1) := by decide +kernel
theorem dX11_keeps_8 : decode cX11_keeps 8 = .ok (.ldc2_w 335, 3) := by decide +kernel
theorem dX11_keeps_11 : decode cX11_keeps 11 = .ok (.invokestatic 17, 3) := by decide +kernel
theorem dX11_keeps_14 : decode cX11_keeps 14 = .ok (.ifCond .eq 15, 3) := by decide +kernel
theorem dX11_keeps_17 : decode cX11_keeps 17 = .ok (.iload_n 2, 1) := by decide +kernel
theorem dX11_keeps_18 : decode cX11_keeps 18 = .ok (.i2l, 1) := by decide +kernel
theorem dX11_keeps_19 : decode cX11_keeps 19 = .ok (.lconst 0, 1) := by decide +kernel
theorem dX11_keeps_20 : decode cX11_keeps 20 = .ok (.ldc2_w 151, 3) := by decide +kernel
theorem dX11_keeps_23 : decode cX11_keeps 23 = .ok (.invokestatic 17, 3) := by decide +kernel
theorem dX11_keeps_26 : decode cX11_keeps 26 = .ok (.ifCond .ne 5, 3) := by decide +kernel
theorem dX11_keeps_29 : decode cX11_keeps 29 = .ok (.iconst (-1), 1) := by decide +kernel
theorem dX11_keeps_30 : decode cX11_keeps 30 = .ok (.ireturn, 1) := by decide +kernel
theorem dX11_keeps_31 : decode cX11_keeps 31 = .ok (.aload_n 0, 1) := by decide +kernel
theorem dX11_keeps_32 : decode cX11_keeps 32 = .ok (.invokevirtual 324, 3) := by decide +kernel
theorem dX11_keeps_35 : decode cX11_keeps 35 = .ok (.iconst 0, 1) := by decide +kernel
theorem dX11_keeps_36 : decode cX11_keeps 36 = .ok (.istore_n 3, 1) := by decide +kernel
theorem dX11_keeps_37 : decode cX11_keeps 37 = .ok (.iconst 0, 1) := by decide +kernel
theorem dX11_keeps_38 : decode cX11_keeps 38 = .ok (.istore 4, 2) := by decide +kernel
theorem dX11_keeps_40 : decode cX11_keeps 40 = .ok (.iconst 1, 1) := by decide +kernel
theorem dX11_keeps_41 : decode cX11_keeps 41 = .ok (.istore 5, 2) := by decide +kernel
theorem dX11_keeps_43 : decode cX11_keeps 43 = .ok (.iload_n 3, 1) := by decide +kernel
theorem dX11_keeps_44 : decode cX11_keeps 44 = .ok (.iload_n 1, 1) := by decide +kernel
theorem dX11_keeps_45 : decode cX11_keeps 45 = .ok (.if_icmp .ge 150, 3) := by decide +kernel
theorem dX11_keeps_48 : decode cX11_keeps 48 = .ok (.iload 5, 2) := by decide +kernel
theorem dX11_keeps_50 : decode cX11_keeps 50 = .ok (.ifCond .eq 145, 3) := by decide +kernel
theorem dX11_keeps_53 : decode cX11_keeps 53 = .ok (.aload_n 0, 1) := by decide +kernel
theorem dX11_keeps_54 : decode cX11_keeps 54 = .ok (.aload_n 0, 1) := by decide +kernel
theorem dX11_keeps_55 : decode cX11_keeps 55 = .ok (.getfield 321, 3) := by decide +kernel
theorem dX11_keeps_58 : decode cX11_keeps 58 = .ok (.iload_n 2, 1) := by decide +kernel
theorem dX11_keeps_59 : decode cX11_keeps 59 = .ok (.invokevirtual 292, 3) := by decide +kernel
theorem dX11_keeps_62 : decode cX11_keeps 62 = .ok (.ifCond .ne 6, 3) := by decide +kernel
theorem dX11_keeps_65 : decode cX11_keeps 65 = .ok (.bipush (-3), 2) := by decide +kernel
theorem dX11_keeps_67 : decode cX11_keeps 67 = .ok (.ireturn, 1) := by decide +kernel
theorem dX11_keeps_68 : decode cX11_keeps 68 = .ok (.iconst (-1), 1) := by decide +kernel
theorem dX11_keeps_69 : decode cX11_keeps 69 = .ok (.istore 6, 2) := by decide +kernel
theorem dX11_keeps_71 : decode cX11_keeps 71 = .ok (.iconst 0, 1) := by decide +kernel
theorem dX11_keeps_72 : decode cX11_keeps 72 = .ok (.istore 7, 2) := by decide +kernel
theorem dX11_keeps_74 : decode cX11_keeps 74 = .ok (.iload 7, 2) := by decide +kernel
theorem dX11_keeps_76 : decode cX11_keeps 76 = .ok (.aload_n 0, 1) := by decide +kernel
theorem dX11_keeps_77 : decode cX11_keeps 77 = .ok (.getfield 258, 3) := by decide +kernel
theorem dX11_keeps_80 : decode cX11_keeps 80 = .ok (.if_icmp .ge 50, 3) := by decide +kernel
theorem dX11_keeps_83 : decode cX11_keeps 83 = .ok (.iload 6, 2) := by decide +kernel
theorem dX11_keeps_85 : decode cX11_keeps 85 = .ok (.ifCond .ge 45, 3) := by decide +kernel
theorem dX11_keeps_88 : decode cX11_keeps 88 = .ok (.aload_n 0, 1) := by decide +kernel
theorem dX11_keeps_89 : decode cX11_keeps 89 = .ok (.iload 7, 2) := by decide +kernel
theorem dX11_keeps_91 : decode cX11_keeps 91 = .ok (.invokevirtual 278, 3) := by decide +kernel
theorem dX11_keeps_94 : decode cX11_keeps 94 = .ok (.aload_n 0, 1) := by decide +kernel
theorem dX11_keeps_95 : decode cX11_keeps 95 = .ok (.aload_n 0, 1) := by decide +kernel
theorem dX11_keeps_96 : decode cX11_keeps 96 = .ok (.getfield 234, 3) := by decide +kernel
theorem dX11_keeps_99 : decode cX11_keeps 99 = .ok (.iconst 0, 1) := by decide +kernel
theorem dX11_keeps_100 : decode cX11_keeps 100 = .ok (.iconst 0, 1) := by decide +kernel
theorem dX11_keeps_101 : decode cX11_keeps 101 = .ok (.invokevirtual 213, 3) := by decide +kernel
theorem dX11_keeps_104 : decode cX11_keeps 104 = .ok (.aload_n 0, 1) := by decide +kernel
theorem dX11_keeps_105 : decode cX11_keeps 105 = .ok (.aload_n 0, 1) := by decide +kernel
theorem dX11_keeps_106 : decode cX11_keeps 106 = .ok (.getfield 234, 3) := by decide +kernel
theorem dX11_keeps_109 : decode cX11_keeps 109 = .ok (.invokevirtual 224, 3) := by decide +kernel
theorem dX11_keeps_112 : decode cX11_keeps 112 = .ok (.ifCond .ne 8, 3) := by decide +kernel
theorem dX11_keeps_115 : decode cX11_keeps 115 = .ok (.iload 7, 2) := by decide +kernel
theorem dX11_keeps_117 : decode cX11_keeps 117 = .ok (.goto 5, 3) := by decide +kernel
theorem dX11_keeps_120 : decode cX11_keeps 120 = .ok (.iload 6, 2) := by decide +kernel
theorem dX11_keeps_122 : decode cX11_keeps 122 = .ok (.istore 6, 2) := by decide +kernel
theorem dX11_keeps_124 : decode cX11_keeps 124 = .ok (.iinc 7 1, 3) := by decide +kernel
theorem dX11_keeps_127 : decode cX11_keeps 127 = .ok (.goto (-53), 3) := by decide +kernel
theorem dX11_keeps_130 : decode cX11_keeps 130 = .ok (.iload 6, 2) := by decide +kernel
theorem dX11_keeps_132 : decode cX11_keeps 132 = .ok (.ifCond .lt 7, 3) := by decide +kernel
theorem dX11_keeps_135 : decode cX11_keeps 135 = .ok (.iconst 1, 1) := by decide +kernel
theorem dX11_keeps_136 : decode cX11_keeps 136 = .ok (.goto 4, 3) := by decide +kernel
theorem dX11_keeps_139 : decode cX11_keeps 139 = .ok (.iconst 0, 1) := by decide +kernel
theorem dX11_keeps_140 : decode cX11_keeps 140 = .ok (.istore 5, 2) := by decide +kernel
theorem dX11_keeps_142 : decode cX11_keeps 142 = .ok (.iload 5, 2) := by decide +kernel
theorem dX11_keeps_144 : decode cX11_keeps 144 = .ok (.ifCond .eq 48, 3) := by decide +kernel
theorem dX11_keeps_147 : decode cX11_keeps 147 = .ok (.iload 4, 2) := by decide +kernel
theorem dX11_keeps_149 : decode cX11_keeps 149 = .ok (.aload_n 0, 1) := by decide +kernel
theorem dX11_keeps_150 : decode cX11_keeps 150 = .ok (.getfield 271, 3) := by decide +kernel
theorem dX11_keeps_153 : decode cX11_keeps 153 = .ok (.iload 6, 2) := by decide +kernel
theorem dX11_keeps_155 : decode cX11_keeps 155 = .ok (.iaload, 1) := by decide +kernel
theorem dX11_keeps_156 : decode cX11_keeps 156 = .ok (.iadd, 1) := by decide +kernel
theorem dX11_keeps_157 : decode cX11_keeps 157 = .ok (.istore 4, 2) := by decide +kernel
theorem dX11_keeps_159 : decode cX11_keeps 159 = .ok (.iinc 3 1, 3) := by decide +kernel
theorem dX11_keeps_162 : decode cX11_keeps 162 = .ok (.iconst 0, 1) := by decide +kernel
theorem dX11_keeps_163 : decode cX11_keeps 163 = .ok (.istore 7, 2) := by decide +kernel
theorem dX11_keeps_165 : decode cX11_keeps 165 = .ok (.iload 7, 2) := by decide +kernel
theorem dX11_keeps_167 : decode cX11_keeps 167 = .ok (.bipush 9, 2) := by decide +kernel
theorem dX11_keeps_169 : decode cX11_keeps 169 = .ok (.if_icmp .ge 23, 3) := by decide +kernel
theorem dX11_keeps_172 : decode cX11_keeps 172 = .ok (.aload_n 0, 1) := by decide +kernel
theorem dX11_keeps_173 : decode cX11_keeps 173 = .ok (.getfield 321, 3) := by decide +kernel
theorem dX11_keeps_176 : decode cX11_keeps 176 = .ok (.iload 7, 2) := by decide +kernel
theorem dX11_keeps_178 : decode cX11_keeps 178 = .ok (.aload_n 0, 1) := by decide +kernel
theorem dX11_keeps_179 : decode cX11_keeps 179 = .ok (.getfield 234, 3) := by decide +kernel
theorem dX11_keeps_182 : decode cX11_keeps 182 = .ok (.iload 7, 2) := by decide +kernel
theorem dX11_keeps_184 : decode cX11_keeps 184 = .ok (.iaload, 1) := by decide +kernel
theorem dX11_keeps_185 : decode cX11_keeps 185 = .ok (.iastore, 1) := by decide +kernel
theorem dX11_keeps_186 : decode cX11_keeps 186 = .ok (.iinc 7 1, 3) := by decide +kernel
theorem dX11_keeps_189 : decode cX11_keeps 189 = .ok (.goto (-24), 3) := by decide +kernel
theorem dX11_keeps_192 : decode cX11_keeps 192 = .ok (.goto (-149), 3) := by decide +kernel
theorem dX11_keeps_195 : decode cX11_keeps 195 = .ok (.aload_n 0, 1) := by decide +kernel
theorem dX11_keeps_196 : decode cX11_keeps 196 = .ok (.iconst 0, 1) := by decide +kernel
theorem dX11_keeps_197 : decode cX11_keeps 197 = .ok (.putfield 11, 3) := by decide +kernel
theorem dX11_keeps_200 : decode cX11_keeps 200 = .ok (.aload_n 0, 1) := by decide +kernel
theorem dX11_keeps_201 : decode cX11_keeps 201 = .ok (.iload 4, 2) := by decide +kernel
theorem dX11_keeps_203 : decode cX11_keeps 203 = .ok (.invokevirtual 200, 3) := by decide +kernel
theorem dX11_keeps_206 : decode cX11_keeps 206 = .ok (.iload_n 3, 1) := by decide +kernel
theorem dX11_keeps_207 : decode cX11_keeps 207 = .ok (.ireturn, 1) := by decide +kernel
theorem dX11_mercy_0 : decode cX11_mercy 0 = .ok (.aload_n 0, 1) := by decide +kernel
theorem dX11_mercy_1 : decode cX11_mercy 1 = .ok (.iconst 0, 1) := by decide +kernel
theorem dX11_mercy_2 : decode cX11_mercy 2 = .ok (.putfield 3, 3) := by decide +kernel
theorem dX11_mercy_5 : decode cX11_mercy 5 = .ok (.iload_n 1, 1) := by decide +kernel
theorem dX11_mercy_6 : decode cX11_mercy 6 = .ok (.invokestatic 332, 3) := by decide +kernel
theorem dX11_mercy_9 : decode cX11_mercy 9 = .ok (.ifCond .ne 5, 3) := by decide +kernel
theorem dX11_mercy_12 : decode cX11_mercy 12 = .ok (.iconst (-1), 1) := by decide +kernel
theorem dX11_mercy_13 : decode cX11_mercy 13 = .ok (.ireturn, 1) := by decide +kernel
theorem dX11_mercy_14 : decode cX11_mercy 14 = .ok (.aload_n 0, 1) := by decide +kernel
theorem dX11_mercy_15 : decode cX11_mercy 15 = .ok (.invokevirtual 324, 3) := by decide +kernel
theorem dX11_mercy_18 : decode cX11_mercy 18 = .ok (.iconst 0, 1) := by decide +kernel
theorem dX11_mercy_19 : decode cX11_mercy 19 = .ok (.istore_n 2, 1) := by decide +kernel
theorem dX11_mercy_20 : decode cX11_mercy 20 = .ok (.iload_n 2, 1) := by decide +kernel
theorem dX11_mercy_21 : decode cX11_mercy 21 = .ok (.bipush 9, 2) := by decide +kernel
theorem dX11_mercy_23 : decode cX11_mercy 23 = .ok (.if_icmp .ge 16, 3) := by decide +kernel
theorem dX11_mercy_26 : decode cX11_mercy 26 = .ok (.aload_n 0, 1) := by decide +kernel
theorem dX11_mercy_27 : decode cX11_mercy 27 = .ok (.getfield 337, 3) := by decide +kernel
theorem dX11_mercy_30 : decode cX11_mercy 30 = .ok (.iload_n 2, 1) := by decide +kernel
theorem dX11_mercy_31 : decode cX11_mercy 31 = .ok (.iconst 0, 1) := by decide +kernel
theorem dX11_mercy_32 : decode cX11_mercy 32 = .ok (.iastore, 1) := by decide +kernel
theorem dX11_mercy_33 : decode cX11_mercy 33 = .ok (.iinc 2 1, 3) := by decide +kernel
theorem dX11_mercy_36 : decode cX11_mercy 36 = .ok (.goto (-16), 3) := by decide +kernel
theorem dX11_mercy_39 : decode cX11_mercy 39 = .ok (.iconst 0, 1) := by decide +kernel
theorem dX11_mercy_40 : decode cX11_mercy 40 = .ok (.istore_n 2, 1) := by decide +kernel
theorem dX11_mercy_41 : decode cX11_mercy 41 = .ok (.iload_n 2, 1) := by decide +kernel
theorem dX11_mercy_42 : decode cX11_mercy 42 = .ok (.iload_n 1, 1) := by decide +kernel
theorem dX11_mercy_43 : decode cX11_mercy 43 = .ok (.if_icmp .ge 53, 3) := by decide +kernel
theorem dX11_mercy_46 : decode cX11_mercy 46 = .ok (.aload_n 0, 1) := by decide +kernel
theorem dX11_mercy_47 : decode cX11_mercy 47 = .ok (.aload_n 0, 1) := by decide +kernel
theorem dX11_mercy_48 : decode cX11_mercy 48 = .ok (.getfield 321, 3) := by decide +kernel
theorem dX11_mercy_51 : decode cX11_mercy 51 = .ok (.iconst 0, 1) := by decide +kernel
theorem dX11_mercy_52 : decode cX11_mercy 52 = .ok (.iconst 0, 1) := by decide +kernel
theorem dX11_mercy_53 : decode cX11_mercy 53 = .ok (.invokevirtual 213, 3) := by decide +kernel
theorem dX11_mercy_56 : decode cX11_mercy 56 = .ok (.iconst 0, 1) := by decide +kernel
theorem dX11_mercy_57 : decode cX11_mercy 57 = .ok (.istore_n 3, 1) := by decide +kernel
theorem dX11_mercy_58 : decode cX11_mercy 58 = .ok (.iload_n 3, 1) := by decide +kernel
theorem dX11_mercy_59 : decode cX11_mercy 59 = .ok (.aload_n 0, 1) := by decide +kernel
theorem dX11_mercy_60 : decode cX11_mercy 60 = .ok (.getfield 14, 3) := by decide +kernel
theorem dX11_mercy_63 : decode cX11_mercy 63 = .ok (.if_icmp .ge 27, 3) := by decide +kernel
theorem dX11_mercy_66 : decode cX11_mercy 66 = .ok (.aload_n 0, 1) := by decide +kernel
theorem dX11_mercy_67 : decode cX11_mercy 67 = .ok (.getfield 337, 3) := by decide +kernel
theorem dX11_mercy_70 : decode cX11_mercy 70 = .ok (.iload_n 3, 1) := by decide +kernel
theorem dX11_mercy_71 : decode cX11_mercy 71 = .ok (.dup2, 1) := by decide +kernel
theorem dX11_mercy_72 : decode cX11_mercy 72 = .ok (.iaload, 1) := by decide +kernel
theorem dX11_mercy_73 : decode cX11_mercy 73 = .ok (.aload_n 0, 1) := by decide +kernel
theorem dX11_mercy_74 : decode cX11_mercy 74 = .ok (.aload_n 0, 1) := by decide +kernel
theorem dX11_mercy_75 : decode cX11_mercy 75 = .ok (.getfield 321, 3) := by decide +kernel
theorem dX11_mercy_78 : decode cX11_mercy 78 = .ok (.iload_n 3, 1) := by decide +kernel
theorem dX11_mercy_79 : decode cX11_mercy 79 = .ok (.invokevirtual 122, 3) := by decide +kernel
theorem dX11_mercy_82 : decode cX11_mercy 82 = .ok (.ior, 1) := by decide +kernel
theorem dX11_mercy_83 : decode cX11_mercy 83 = .ok (.iastore, 1) := by decide +kernel
theorem dX11_mercy_84 : decode cX11_mercy 84 = .ok (.iinc 3 1, 3) := by decide +kernel
theorem dX11_mercy_87 : decode cX11_mercy 87 = .ok (.goto (-29), 3) := by decide +kernel
theorem dX11_mercy_90 : decode cX11_mercy 90 = .ok (.iinc 2 1, 3) := by decide +kernel
theorem dX11_mercy_93 : decode cX11_mercy 93 = .ok (.goto (-52), 3) := by decide +kernel
theorem dX11_mercy_96 : decode cX11_mercy 96 = .ok (.iconst 0, 1) := by decide +kernel
theorem dX11_mercy_97 : decode cX11_mercy 97 = .ok (.istore_n 2, 1) := by decide +kernel
theorem dX11_mercy_98 : decode cX11_mercy 98 = .ok (.iconst 0, 1) := by decide +kernel
theorem dX11_mercy_99 : decode cX11_mercy 99 = .ok (.istore_n 3, 1) := by decide +kernel
theorem dX11_mercy_100 : decode cX11_mercy 100 = .ok (.iload_n 3, 1) := by decide +kernel
theorem dX11_mercy_101 : decode cX11_mercy 101 = .ok (.aload_n 0, 1) := by decide +kernel
theorem dX11_mercy_102 : decode cX11_mercy 102 = .ok (.getfield 14, 3) := by decide +kernel
theorem dX11_mercy_105 : decode cX11_mercy 105 = .ok (.if_icmp .ge 21, 3) := by decide +kernel
theorem dX11_mercy_108 : decode cX11_mercy 108 = .ok (.iload_n 2, 1) := by decide +kernel
theorem dX11_mercy_109 : decode cX11_mercy 109 = .ok (.aload_n 0, 1) := by decide +kernel
theorem dX11_mercy_110 : decode cX11_mercy 110 = .ok (.getfield 337, 3) := by decide +kernel
theorem dX11_mercy_113 : decode cX11_mercy 113 = .ok (.iload_n 3, 1) := by decide +kernel
theorem dX11_mercy_114 : decode cX11_mercy 114 = .ok (.iaload, 1) := by decide +kernel
theorem dX11_mercy_115 : decode cX11_mercy 115 = .ok (.invokestatic 126, 3) := by decide +kernel
theorem dX11_mercy_118 : decode cX11_mercy 118 = .ok (.iadd, 1) := by decide +kernel
theorem dX11_mercy_119 : decode cX11_mercy 119 = .ok (.istore_n 2, 1) := by decide +kernel
theorem dX11_mercy_120 : decode cX11_mercy 120 = .ok (.iinc 3 1, 3) := by decide +kernel
theorem dX11_mercy_123 : decode cX11_mercy 123 = .ok (.goto (-23), 3) := by decide +kernel
theorem dX11_mercy_126 : decode cX11_mercy 126 = .ok (.iconst 1, 1) := by decide +kernel
theorem dX11_mercy_127 : decode cX11_mercy 127 = .ok (.aload_n 0, 1) := by decide +kernel
theorem dX11_mercy_128 : decode cX11_mercy 128 = .ok (.getfield 14, 3) := by decide +kernel
theorem dX11_mercy_131 : decode cX11_mercy 131 = .ok (.ishl, 1) := by decide +kernel
theorem dX11_mercy_132 : decode cX11_mercy 132 = .ok (.iconst 1, 1) := by decide +kernel
theorem dX11_mercy_133 : decode cX11_mercy 133 = .ok (.isub, 1) := by decide +kernel
theorem dX11_mercy_134 : decode cX11_mercy 134 = .ok (.istore_n 3, 1) := by decide +kernel
theorem dX11_mercy_135 : decode cX11_mercy 135 = .ok (.iload_n 3, 1) := by decide +kernel
theorem dX11_mercy_136 : decode cX11_mercy 136 = .ok (.istore 4, 2) := by decide +kernel
theorem dX11_mercy_138 : decode cX11_mercy 138 = .ok (.iload 4, 2) := by decide +kernel
theorem dX11_mercy_140 : decode cX11_mercy 140 = .ok (.ifCond .lt 95, 3) := by decide +kernel
theorem dX11_mercy_143 : decode cX11_mercy 143 = .ok (.iload 4, 2) := by decide +kernel
theorem dX11_mercy_145 : decode cX11_mercy 145 = .ok (.invokestatic 126, 3) := by decide +kernel
theorem dX11_mercy_148 : decode cX11_mercy 148 = .ok (.iload_n 3, 1) := by decide +kernel
theorem dX11_mercy_149 : decode cX11_mercy 149 = .ok (.invokestatic 126, 3) := by decide +kernel
theorem dX11_mercy_152 : decode cX11_mercy 152 = .ok (.if_icmp .gt 7, 3) := by decide +kernel
theorem dX11_mercy_155 : decode cX11_mercy 155 = .ok (.iconst 1, 1) := by decide +kernel
theorem dX11_mercy_156 : decode cX11_mercy 156 = .ok (.goto 4, 3) := by decide +kernel
theorem dX11_mercy_159 : decode cX11_mercy 159 = .ok (.iconst 0, 1) := by decide +kernel
theorem dX11_mercy_160 : decode cX11_mercy 160 = .ok (.istore 5, 2) := by decide +kernel
theorem dX11_mercy_162 : decode cX11_mercy 162 = .ok (.iconst 0, 1) := by decide +kernel
theorem dX11_mercy_163 : decode cX11_mercy 163 = .ok (.istore 6, 2) := by decide +kernel
theorem dX11_mercy_165 : decode cX11_mercy 165 = .ok (.iload 6, 2) := by decide +kernel
theorem dX11_mercy_167 : decode cX11_mercy 167 = .ok (.aload_n 0, 1) := by decide +kernel
theorem dX11_mercy_168 : decode cX11_mercy 168 = .ok (.getfield 14, 3) := by decide +kernel
theorem dX11_mercy_171 : decode cX11_mercy 171 = .ok (.if_icmp .ge 46, 3) := by decide +kernel
theorem dX11_mercy_174 : decode cX11_mercy 174 = .ok (.iload 5, 2) := by decide +kernel
theorem dX11_mercy_176 : decode cX11_mercy 176 = .ok (.ifCond .eq 41, 3) := by decide +kernel
theorem dX11_mercy_179 : decode cX11_mercy 179 = .ok (.iload 4, 2) := by decide +kernel
theorem dX11_mercy_181 : decode cX11_mercy 181 = .ok (.iload 6, 2) := by decide +kernel
theorem dX11_mercy_183 : decode cX11_mercy 183 = .ok (.invokestatic 108, 3) := by decide +kernel
theorem dX11_mercy_186 : decode cX11_mercy 186 = .ok (.ifCond .ne 18, 3) := by decide +kernel
theorem dX11_mercy_189 : decode cX11_mercy 189 = .ok (.aload_n 0, 1) := by decide +kernel
theorem dX11_mercy_190 : decode cX11_mercy 190 = .ok (.getfield 337, 3) := by decide +kernel
theorem dX11_mercy_193 : decode cX11_mercy 193 = .ok (.iload 6, 2) := by decide +kernel
theorem dX11_mercy_195 : decode cX11_mercy 195 = .ok (.iaload, 1) := by decide +kernel
theorem dX11_mercy_196 : decode cX11_mercy 196 = .ok (.iload 4, 2) := by decide +kernel
theorem dX11_mercy_198 : decode cX11_mercy 198 = .ok (.iconst (-1), 1) := by decide +kernel
theorem dX11_mercy_199 : decode cX11_mercy 199 = .ok (.ixor, 1) := by decide +kernel
theorem dX11_mercy_200 : decode cX11_mercy 200 = .ok (.iand, 1) := by decide +kernel
theorem dX11_mercy_201 : decode cX11_mercy 201 = .ok (.ifCond .ne 7, 3) := by decide +kernel
theorem dX11_mercy_204 : decode cX11_mercy 204 = .ok (.iconst 1, 1) := by decide +kernel
theorem dX11_mercy_205 : decode cX11_mercy 205 = .ok (.goto 4, 3) := by decide +kernel
theorem dX11_mercy_208 : decode cX11_mercy 208 = .ok (.iconst 0, 1) := by decide +kernel
theorem dX11_mercy_209 : decode cX11_mercy 209 = .ok (.istore 5, 2) := by decide +kernel
theorem dX11_mercy_211 : decode cX11_mercy 211 = .ok (.iinc 6 1, 3) := by decide +kernel
theorem dX11_mercy_214 : decode cX11_mercy 214 = .ok (.goto (-49), 3) := by decide +kernel
theorem dX11_mercy_217 : decode cX11_mercy 217 = .ok (.iload 5, 2) := by decide +kernel
theorem dX11_mercy_219 : decode cX11_mercy 219 = .ok (.ifCond .eq 8, 3) := by decide +kernel
theorem dX11_mercy_222 : decode cX11_mercy 222 = .ok (.iload 4, 2) := by decide +kernel
theorem dX11_mercy_224 : decode cX11_mercy 224 = .ok (.goto 4, 3) := by decide +kernel
theorem dX11_mercy_227 : decode cX11_mercy 227 = .ok (.iload_n 3, 1) := by decide +kernel
theorem dX11_mercy_228 : decode cX11_mercy 228 = .ok (.istore_n 3, 1) := by decide +kernel
theorem dX11_mercy_229 : decode cX11_mercy 229 = .ok (.iinc 4 (-1), 3) := by decide +kernel
theorem dX11_mercy_232 : decode cX11_mercy 232 = .ok (.goto (-94), 3) := by decide +kernel
theorem dX11_mercy_235 : decode cX11_mercy 235 = .ok (.aload_n 0, 1) := by decide +kernel
theorem dX11_mercy_236 : decode cX11_mercy 236 = .ok (.iconst 0, 1) := by decide +kernel
theorem dX11_mercy_237 : decode cX11_mercy 237 = .ok (.putfield 11, 3) := by decide +kernel
theorem dX11_mercy_240 : decode cX11_mercy 240 = .ok (.aload_n 0, 1) := by decide +kernel
theorem dX11_mercy_241 : decode cX11_mercy 241 = .ok (.iload_n 3, 1) := by decide +kernel
theorem dX11_mercy_242 : decode cX11_mercy 242 = .ok (.invokevirtual 200, 3) := by decide +kernel
theorem dX11_mercy_245 : decode cX11_mercy 245 = .ok (.iload_n 2, 1) := by decide +kernel
theorem dX11_mercy_246 : decode cX11_mercy 246 = .ok (.iconst 2, 1) := by decide +kernel
theorem dX11_mercy_247 : decode cX11_mercy 247 = .ok (.idiv, 1) := by decide +kernel
theorem dX11_mercy_248 : decode cX11_mercy 248 = .ok (.ireturn, 1) := by decide +kernel
theorem dX11_drought_0 : decode cX11_drought 0 = .ok (.aload_n 0, 1) := by decide +kernel
theorem dX11_drought_1 : decode cX11_drought 1 = .ok (.iconst 0, 1) := by decide +kernel
theorem dX11_drought_2 : decode cX11_drought 2 = .ok (.putfield 3, 3) := by decide +kernel
theorem dX11_drought_5 : decode cX11_drought 5 = .ok (.iload_n 1, 1) := by decide +kernel
theorem dX11_drought_6 : decode cX11_drought 6 = .ok (.i2l, 1) := by decide +kernel
theorem dX11_drought_7 : decode cX11_drought 7 = .ok (.ldc2_w 216, 3) := by decide +kernel
theorem dX11_drought_10 : decode cX11_drought 10 = .ok (.ldc2_w 145, 3) := by decide +kernel
theorem dX11_drought_13 : decode cX11_drought 13 = .ok (.invokestatic 17, 3) := by decide +kernel
theorem dX11_drought_16 : decode cX11_drought 16 = .ok (.ifCond .ne 5, 3) := by decide +kernel
theorem dX11_drought_19 : decode cX11_drought 19 = .ok (.iconst (-1), 1) := by decide +kernel
theorem dX11_drought_20 : decode cX11_drought 20 = .ok (.ireturn, 1) := by decide +kernel
theorem dX11_drought_21 : decode cX11_drought 21 = .ok (.aload_n 0, 1) := by decide +kernel
theorem dX11_drought_22 : decode cX11_drought 22 = .ok (.invokevirtual 324, 3) := by decide +kernel
theorem dX11_drought_25 : decode cX11_drought 25 = .ok (.iconst 1, 1) := by decide +kernel
theorem dX11_drought_26 : decode cX11_drought 26 = .ok (.istore_n 2, 1) := by decide +kernel
theorem dX11_drought_27 : decode cX11_drought 27 = .ok (.iload_n 2, 1) := by decide +kernel
theorem dX11_drought_28 : decode cX11_drought 28 = .ok (.bipush 100, 2) := by decide +kernel
theorem dX11_drought_30 : decode cX11_drought 30 = .ok (.if_icmp .gt 86, 3) := by decide +kernel
theorem dX11_drought_33 : decode cX11_drought 33 = .ok (.aload_n 0, 1) := by decide +kernel
theorem dX11_drought_34 : decode cX11_drought 34 = .ok (.getfield 14, 3) := by decide +kernel
theorem dX11_drought_37 : decode cX11_drought 37 = .ok (.iconst 1, 1) := by decide +kernel
theorem dX11_drought_38 : decode cX11_drought 38 = .ok (.if_icmp .le 78, 3) := by decide +kernel
theorem dX11_drought_41 : decode cX11_drought 41 = .ok (.aload_n 0, 1) := by decide +kernel
theorem dX11_drought_42 : decode cX11_drought 42 = .ok (.aload_n 0, 1) := by decide +kernel
theorem dX11_drought_43 : decode cX11_drought 43 = .ok (.getfield 321, 3) := by decide +kernel
theorem dX11_drought_46 : decode cX11_drought 46 = .ok (.iload_n 1, 1) := by decide +kernel
theorem dX11_drought_47 : decode cX11_drought 47 = .ok (.iconst 1, 1) := by decide +kernel
theorem dX11_drought_48 : decode cX11_drought 48 = .ok (.aload_n 0, 1) := by decide +kernel
theorem dX11_drought_49 : decode cX11_drought 49 = .ok (.getfield 14, 3) := by decide +kernel
theorem dX11_drought_52 : decode cX11_drought 52 = .ok (.ishl, 1) := by decide +kernel
theorem dX11_drought_53 : decode cX11_drought 53 = .ok (.iconst 1, 1) := by decide +kernel
theorem dX11_drought_54 : decode cX11_drought 54 = .ok (.isub, 1) := by decide +kernel
theorem dX11_drought_55 : decode cX11_drought 55 = .ok (.invokevirtual 213, 3) := by decide +kernel
theorem dX11_drought_58 : decode cX11_drought 58 = .ok (.iconst 1, 1) := by decide +kernel
theorem dX11_drought_59 : decode cX11_drought 59 = .ok (.istore_n 3, 1) := by decide +kernel
theorem dX11_drought_60 : decode cX11_drought 60 = .ok (.iconst 1, 1) := by decide +kernel
theorem dX11_drought_61 : decode cX11_drought 61 = .ok (.istore 4, 2) := by decide +kernel
theorem dX11_drought_63 : decode cX11_drought 63 = .ok (.iload 4, 2) := by decide +kernel
theorem dX11_drought_65 : decode cX11_drought 65 = .ok (.aload_n 0, 1) := by decide +kernel
theorem dX11_drought_66 : decode cX11_drought 66 = .ok (.getfield 14, 3) := by decide +kernel
theorem dX11_drought_69 : decode cX11_drought 69 = .ok (.if_icmp .ge 35, 3) := by decide +kernel
theorem dX11_drought_72 : decode cX11_drought 72 = .ok (.iload_n 3, 1) := by decide +kernel
theorem dX11_drought_73 : decode cX11_drought 73 = .ok (.ifCond .eq 23, 3) := by decide +kernel
theorem dX11_drought_76 : decode cX11_drought 76 = .ok (.aload_n 0, 1) := by decide +kernel
theorem dX11_drought_77 : decode cX11_drought 77 = .ok (.getfield 321, 3) := by decide +kernel
theorem dX11_drought_80 : decode cX11_drought 80 = .ok (.iload 4, 2) := by decide +kernel
theorem dX11_drought_82 : decode cX11_drought 82 = .ok (.iaload, 1) := by decide +kernel
theorem dX11_drought_83 : decode cX11_drought 83 = .ok (.aload_n 0, 1) := by decide +kernel
theorem dX11_drought_84 : decode cX11_drought 84 = .ok (.getfield 321, 3) := by decide +kernel
theorem dX11_drought_87 : decode cX11_drought 87 = .ok (.iconst 0, 1) := by decide +kernel
theorem dX11_drought_88 : decode cX11_drought 88 = .ok (.iaload, 1) := by decide +kernel
theorem dX11_drought_89 : decode cX11_drought 89 = .ok (.if_icmp .ne 7, 3) := by decide +kernel
theorem dX11_drought_92 : decode cX11_drought 92 = .ok (.iconst 1, 1) := by decide +kernel
theorem dX11_drought_93 : decode cX11_drought 93 = .ok (.goto 4, 3) := by decide +kernel
theorem dX11_drought_96 : decode cX11_drought 96 = .ok (.iconst 0, 1) := by decide +kernel
theorem dX11_drought_97 : decode cX11_drought 97 = .ok (.istore_n 3, 1) := by decide +kernel
theorem dX11_drought_98 : decode cX11_drought 98 = .ok (.iinc 4 1, 3) := by decide +kernel
theorem dX11_drought_101 : decode cX11_drought 101 = .ok (.goto (-38), 3) := by decide +kernel
theorem dX11_drought_104 : decode cX11_drought 104 = .ok (.iload_n 3, 1) := by decide +kernel
theorem dX11_drought_105 : decode cX11_drought 105 = .ok (.ifCond .eq 5, 3) := by decide +kernel
theorem dX11_drought_108 : decode cX11_drought 108 = .ok (.iload_n 2, 1) := by decide +kernel
theorem dX11_drought_109 : decode cX11_drought 109 = .ok (.ireturn, 1) := by decide +kernel
theorem dX11_drought_110 : decode cX11_drought 110 = .ok (.iinc 2 1, 3) := by decide +kernel
theorem dX11_drought_113 : decode cX11_drought 113 = .ok (.goto (-86), 3) := by decide +kernel
theorem dX11_drought_116 : decode cX11_drought 116 = .ok (.bipush (-2), 2) := by decide +kernel
theorem dX11_drought_118 : decode cX11_drought 118 = .ok (.ireturn, 1) := by decide +kernel
theorem dX11_clash_0 : decode cX11_clash 0 = .ok (.aload_n 0, 1) := by decide +kernel
theorem dX11_clash_1 : decode cX11_clash 1 = .ok (.iconst 0, 1) := by decide +kernel
theorem dX11_clash_2 : decode cX11_clash 2 = .ok (.putfield 3, 3) := by decide +kernel
theorem dX11_clash_5 : decode cX11_clash 5 = .ok (.aload_n 0, 1) := by decide +kernel
theorem dX11_clash_6 : decode cX11_clash 6 = .ok (.iload_n 1, 1) := by decide +kernel
theorem dX11_clash_7 : decode cX11_clash 7 = .ok (.iload_n 2, 1) := by decide +kernel
theorem dX11_clash_8 : decode cX11_clash 8 = .ok (.invokevirtual 137, 3) := by decide +kernel
theorem dX11_clash_11 : decode cX11_clash 11 = .ok (.ifCond .ne 5, 3) := by decide +kernel
theorem dX11_clash_14 : decode cX11_clash 14 = .ok (.iconst (-1), 1) := by decide +kernel
theorem dX11_clash_15 : decode cX11_clash 15 = .ok (.ireturn, 1) := by decide +kernel
theorem dX11_clash_16 : decode cX11_clash 16 = .ok (.aload_n 0, 1) := by decide +kernel
theorem dX11_clash_17 : decode cX11_clash 17 = .ok (.invokevirtual 324, 3) := by decide +kernel
theorem dX11_clash_20 : decode cX11_clash 20 = .ok (.iconst 1, 1) := by decide +kernel
theorem dX11_clash_21 : decode cX11_clash 21 = .ok (.istore_n 3, 1) := by decide +kernel
theorem dX11_clash_22 : decode cX11_clash 22 = .ok (.iload_n 3, 1) := by decide +kernel
theorem dX11_clash_23 : decode cX11_clash 23 = .ok (.bipush 100, 2) := by decide +kernel
theorem dX11_clash_25 : decode cX11_clash 25 = .ok (.if_icmp .gt 34, 3) := by decide +kernel
theorem dX11_clash_28 : decode cX11_clash 28 = .ok (.aload_n 0, 1) := by decide +kernel
theorem dX11_clash_29 : decode cX11_clash 29 = .ok (.aload_n 0, 1) := by decide +kernel
theorem dX11_clash_30 : decode cX11_clash 30 = .ok (.getfield 321, 3) := by decide +kernel
theorem dX11_clash_33 : decode cX11_clash 33 = .ok (.iconst 0, 1) := by decide +kernel
theorem dX11_clash_34 : decode cX11_clash 34 = .ok (.iconst 0, 1) := by decide +kernel
theorem dX11_clash_35 : decode cX11_clash 35 = .ok (.invokevirtual 213, 3) := by decide +kernel
theorem dX11_clash_38 : decode cX11_clash 38 = .ok (.aload_n 0, 1) := by decide +kernel
theorem dX11_clash_39 : decode cX11_clash 39 = .ok (.aload_n 0, 1) := by decide +kernel
theorem dX11_clash_40 : decode cX11_clash 40 = .ok (.getfield 321, 3) := by decide +kernel
theorem dX11_clash_43 : decode cX11_clash 43 = .ok (.iload_n 1, 1) := by decide +kernel
theorem dX11_clash_44 : decode cX11_clash 44 = .ok (.iload_n 2, 1) := by decide +kernel
theorem dX11_clash_45 : decode cX11_clash 45 = .ok (.invokevirtual 118, 3) := by decide +kernel
theorem dX11_clash_48 : decode cX11_clash 48 = .ok (.ifCond .eq 5, 3) := by decide +kernel
theorem dX11_clash_51 : decode cX11_clash 51 = .ok (.iload_n 3, 1) := by decide +kernel
theorem dX11_clash_52 : decode cX11_clash 52 = .ok (.ireturn, 1) := by decide +kernel
theorem dX11_clash_53 : decode cX11_clash 53 = .ok (.iinc 3 1, 3) := by decide +kernel
theorem dX11_clash_56 : decode cX11_clash 56 = .ok (.goto (-34), 3) := by decide +kernel
theorem dX11_clash_59 : decode cX11_clash 59 = .ok (.bipush (-2), 2) := by decide +kernel
theorem dX11_clash_61 : decode cX11_clash 61 = .ok (.ireturn, 1) := by decide +kernel
theorem dX11_payer_0 : decode cX11_payer 0 = .ok (.aload_n 0, 1) := by decide +kernel
theorem dX11_payer_1 : decode cX11_payer 1 = .ok (.iconst 0, 1) := by decide +kernel
theorem dX11_payer_2 : decode cX11_payer 2 = .ok (.putfield 3, 3) := by decide +kernel
theorem dX11_payer_5 : decode cX11_payer 5 = .ok (.iload_n 1, 1) := by decide +kernel
theorem dX11_payer_6 : decode cX11_payer 6 = .ok (.invokestatic 332, 3) := by decide +kernel
theorem dX11_payer_9 : decode cX11_payer 9 = .ok (.ifCond .ne 5, 3) := by decide +kernel
theorem dX11_payer_12 : decode cX11_payer 12 = .ok (.iconst (-1), 1) := by decide +kernel
theorem dX11_payer_13 : decode cX11_payer 13 = .ok (.ireturn, 1) := by decide +kernel
theorem dX11_payer_14 : decode cX11_payer 14 = .ok (.aload_n 0, 1) := by decide +kernel
theorem dX11_payer_15 : decode cX11_payer 15 = .ok (.getfield 14, 3) := by decide +kernel
theorem dX11_payer_18 : decode cX11_payer 18 = .ok (.ifCond .ne 6, 3) := by decide +kernel
theorem dX11_payer_21 : decode cX11_payer 21 = .ok (.bipush (-2), 2) := by decide +kernel
theorem dX11_payer_23 : decode cX11_payer 23 = .ok (.ireturn, 1) := by decide +kernel
theorem dX11_payer_24 : decode cX11_payer 24 = .ok (.aload_n 0, 1) := by decide +kernel
theorem dX11_payer_25 : decode cX11_payer 25 = .ok (.invokevirtual 324, 3) := by decide +kernel
theorem dX11_payer_28 : decode cX11_payer 28 = .ok (.iconst 0, 1) := by decide +kernel
theorem dX11_payer_29 : decode cX11_payer 29 = .ok (.istore_n 2, 1) := by decide +kernel
theorem dX11_payer_30 : decode cX11_payer 30 = .ok (.iload_n 2, 1) := by decide +kernel
theorem dX11_payer_31 : decode cX11_payer 31 = .ok (.bipush 9, 2) := by decide +kernel
theorem dX11_payer_33 : decode cX11_payer 33 = .ok (.if_icmp .ge 16, 3) := by decide +kernel
theorem dX11_payer_36 : decode cX11_payer 36 = .ok (.aload_n 0, 1) := by decide +kernel
theorem dX11_payer_37 : decode cX11_payer 37 = .ok (.getfield 340, 3) := by decide +kernel
theorem dX11_payer_40 : decode cX11_payer 40 = .ok (.iload_n 2, 1) := by decide +kernel
theorem dX11_payer_41 : decode cX11_payer 41 = .ok (.iconst 0, 1) := by decide +kernel
theorem dX11_payer_42 : decode cX11_payer 42 = .ok (.iastore, 1) := by decide +kernel
theorem dX11_payer_43 : decode cX11_payer 43 = .ok (.iinc 2 1, 3) := by decide +kernel
theorem dX11_payer_46 : decode cX11_payer 46 = .ok (.goto (-16), 3) := by decide +kernel
theorem dX11_payer_49 : decode cX11_payer 49 = .ok (.iconst 0, 1) := by decide +kernel
theorem dX11_payer_50 : decode cX11_payer 50 = .ok (.istore_n 2, 1) := by decide +kernel
theorem dX11_payer_51 : decode cX11_payer 51 = .ok (.iload_n 2, 1) := by decide +kernel
theorem dX11_payer_52 : decode cX11_payer 52 = .ok (.iload_n 1, 1) := by decide +kernel
theorem dX11_payer_53 : decode cX11_payer 53 = .ok (.if_icmp .ge 63, 3) := by decide +kernel
theorem dX11_payer_56 : decode cX11_payer 56 = .ok (.aload_n 0, 1) := by decide +kernel
theorem dX11_payer_57 : decode cX11_payer 57 = .ok (.aload_n 0, 1) := by decide +kernel
theorem dX11_payer_58 : decode cX11_payer 58 = .ok (.getfield 321, 3) := by decide +kernel
theorem dX11_payer_61 : decode cX11_payer 61 = .ok (.iconst 0, 1) := by decide +kernel
theorem dX11_payer_62 : decode cX11_payer 62 = .ok (.iconst 0, 1) := by decide +kernel
theorem dX11_payer_63 : decode cX11_payer 63 = .ok (.invokevirtual 213, 3) := by decide +kernel
theorem dX11_payer_66 : decode cX11_payer 66 = .ok (.iconst 0, 1) := by decide +kernel
theorem dX11_payer_67 : decode cX11_payer 67 = .ok (.istore_n 3, 1) := by decide +kernel
theorem dX11_payer_68 : decode cX11_payer 68 = .ok (.iload_n 3, 1) := by decide +kernel
theorem dX11_payer_69 : decode cX11_payer 69 = .ok (.aload_n 0, 1) := by decide +kernel
theorem dX11_payer_70 : decode cX11_payer 70 = .ok (.getfield 14, 3) := by decide +kernel
theorem dX11_payer_73 : decode cX11_payer 73 = .ok (.if_icmp .ge 37, 3) := by decide +kernel
theorem dX11_payer_76 : decode cX11_payer 76 = .ok (.aload_n 0, 1) := by decide +kernel
theorem dX11_payer_77 : decode cX11_payer 77 = .ok (.getfield 340, 3) := by decide +kernel
theorem dX11_payer_80 : decode cX11_payer 80 = .ok (.iload_n 3, 1) := by decide +kernel
theorem dX11_payer_81 : decode cX11_payer 81 = .ok (.dup2, 1) := by decide +kernel
theorem dX11_payer_82 : decode cX11_payer 82 = .ok (.iaload, 1) := by decide +kernel
theorem dX11_payer_83 : decode cX11_payer 83 = .ok (.aload_n 0, 1) := by decide +kernel
theorem dX11_payer_84 : decode cX11_payer 84 = .ok (.getfield 115, 3) := by decide +kernel
theorem dX11_payer_87 : decode cX11_payer 87 = .ok (.iconst 1, 1) := by decide +kernel
theorem dX11_payer_88 : decode cX11_payer 88 = .ok (.iaload, 1) := by decide +kernel
theorem dX11_payer_89 : decode cX11_payer 89 = .ok (.aload_n 0, 1) := by decide +kernel
theorem dX11_payer_90 : decode cX11_payer 90 = .ok (.aload_n 0, 1) := by decide +kernel
theorem dX11_payer_91 : decode cX11_payer 91 = .ok (.getfield 321, 3) := by decide +kernel
theorem dX11_payer_94 : decode cX11_payer 94 = .ok (.iload_n 3, 1) := by decide +kernel
theorem dX11_payer_95 : decode cX11_payer 95 = .ok (.invokevirtual 122, 3) := by decide +kernel
theorem dX11_payer_98 : decode cX11_payer 98 = .ok (.invokestatic 126, 3) := by decide +kernel
theorem dX11_payer_101 : decode cX11_payer 101 = .ok (.imul, 1) := by decide +kernel
theorem dX11_payer_102 : decode cX11_payer 102 = .ok (.iadd, 1) := by decide +kernel
theorem dX11_payer_103 : decode cX11_payer 103 = .ok (.iastore, 1) := by decide +kernel
theorem dX11_payer_104 : decode cX11_payer 104 = .ok (.iinc 3 1, 3) := by decide +kernel
theorem dX11_payer_107 : decode cX11_payer 107 = .ok (.goto (-39), 3) := by decide +kernel
theorem dX11_payer_110 : decode cX11_payer 110 = .ok (.iinc 2 1, 3) := by decide +kernel
theorem dX11_payer_113 : decode cX11_payer 113 = .ok (.goto (-62), 3) := by decide +kernel
theorem dX11_payer_116 : decode cX11_payer 116 = .ok (.iconst 0, 1) := by decide +kernel
theorem dX11_payer_117 : decode cX11_payer 117 = .ok (.istore_n 2, 1) := by decide +kernel
theorem dX11_payer_118 : decode cX11_payer 118 = .ok (.iconst 0, 1) := by decide +kernel
theorem dX11_payer_119 : decode cX11_payer 119 = .ok (.istore_n 3, 1) := by decide +kernel
theorem dX11_payer_120 : decode cX11_payer 120 = .ok (.iconst 0, 1) := by decide +kernel
theorem dX11_payer_121 : decode cX11_payer 121 = .ok (.istore 4, 2) := by decide +kernel
theorem dX11_payer_123 : decode cX11_payer 123 = .ok (.iload 4, 2) := by decide +kernel
theorem dX11_payer_125 : decode cX11_payer 125 = .ok (.aload_n 0, 1) := by decide +kernel
theorem dX11_payer_126 : decode cX11_payer 126 = .ok (.getfield 14, 3) := by decide +kernel
theorem dX11_payer_129 : decode cX11_payer 129 = .ok (.if_icmp .ge 42, 3) := by decide +kernel
theorem dX11_payer_132 : decode cX11_payer 132 = .ok (.aload_n 0, 1) := by decide +kernel
theorem dX11_payer_133 : decode cX11_payer 133 = .ok (.getfield 340, 3) := by decide +kernel
theorem dX11_payer_136 : decode cX11_payer 136 = .ok (.iload 4, 2) := by decide +kernel
theorem dX11_payer_138 : decode cX11_payer 138 = .ok (.iaload, 1) := by decide +kernel
theorem dX11_payer_139 : decode cX11_payer 139 = .ok (.aload_n 0, 1) := by decide +kernel
theorem dX11_payer_140 : decode cX11_payer 140 = .ok (.getfield 340, 3) := by decide +kernel
theorem dX11_payer_143 : decode cX11_payer 143 = .ok (.iload_n 2, 1) := by decide +kernel
theorem dX11_payer_144 : decode cX11_payer 144 = .ok (.iaload, 1) := by decide +kernel
theorem dX11_payer_145 : decode cX11_payer 145 = .ok (.if_icmp .le 8, 3) := by decide +kernel
theorem dX11_payer_148 : decode cX11_payer 148 = .ok (.iload 4, 2) := by decide +kernel
theorem dX11_payer_150 : decode cX11_payer 150 = .ok (.goto 4, 3) := by decide +kernel
theorem dX11_payer_153 : decode cX11_payer 153 = .ok (.iload_n 2, 1) := by decide +kernel
theorem dX11_payer_154 : decode cX11_payer 154 = .ok (.istore_n 2, 1) := by decide +kernel
theorem dX11_payer_155 : decode cX11_payer 155 = .ok (.iload_n 3, 1) := by decide +kernel
theorem dX11_payer_156 : decode cX11_payer 156 = .ok (.aload_n 0, 1) := by decide +kernel
theorem dX11_payer_157 : decode cX11_payer 157 = .ok (.getfield 340, 3) := by decide +kernel
theorem dX11_payer_160 : decode cX11_payer 160 = .ok (.iload 4, 2) := by decide +kernel
theorem dX11_payer_162 : decode cX11_payer 162 = .ok (.iaload, 1) := by decide +kernel
theorem dX11_payer_163 : decode cX11_payer 163 = .ok (.iadd, 1) := by decide +kernel
theorem dX11_payer_164 : decode cX11_payer 164 = .ok (.istore_n 3, 1) := by decide +kernel
theorem dX11_payer_165 : decode cX11_payer 165 = .ok (.iinc 4 1, 3) := by decide +kernel
theorem dX11_payer_168 : decode cX11_payer 168 = .ok (.goto (-45), 3) := by decide +kernel
theorem dX11_payer_171 : decode cX11_payer 171 = .ok (.aload_n 0, 1) := by decide +kernel
theorem dX11_payer_172 : decode cX11_payer 172 = .ok (.iconst 0, 1) := by decide +kernel
theorem dX11_payer_173 : decode cX11_payer 173 = .ok (.putfield 11, 3) := by decide +kernel
theorem dX11_payer_176 : decode cX11_payer 176 = .ok (.aload_n 0, 1) := by decide +kernel
theorem dX11_payer_177 : decode cX11_payer 177 = .ok (.aload_n 0, 1) := by decide +kernel
theorem dX11_payer_178 : decode cX11_payer 178 = .ok (.getfield 340, 3) := by decide +kernel
theorem dX11_payer_181 : decode cX11_payer 181 = .ok (.iload_n 2, 1) := by decide +kernel
theorem dX11_payer_182 : decode cX11_payer 182 = .ok (.iaload, 1) := by decide +kernel
theorem dX11_payer_183 : decode cX11_payer 183 = .ok (.invokevirtual 200, 3) := by decide +kernel
theorem dX11_payer_186 : decode cX11_payer 186 = .ok (.aload_n 0, 1) := by decide +kernel
theorem dX11_payer_187 : decode cX11_payer 187 = .ok (.iload_n 3, 1) := by decide +kernel
theorem dX11_payer_188 : decode cX11_payer 188 = .ok (.invokevirtual 200, 3) := by decide +kernel
theorem dX11_payer_191 : decode cX11_payer 191 = .ok (.iload_n 2, 1) := by decide +kernel
theorem dX11_payer_192 : decode cX11_payer 192 = .ok (.ireturn, 1) := by decide +kernel
theorem dX11_pray_0 : decode cX11_pray 0 = .ok (.aload_n 0, 1) := by decide +kernel
theorem dX11_pray_1 : decode cX11_pray 1 = .ok (.iconst 0, 1) := by decide +kernel
theorem dX11_pray_2 : decode cX11_pray 2 = .ok (.putfield 3, 3) := by decide +kernel
theorem dX11_pray_5 : decode cX11_pray 5 = .ok (.aload_n 0, 1) := by decide +kernel
theorem dX11_pray_6 : decode cX11_pray 6 = .ok (.iload_n 1, 1) := by decide +kernel
theorem dX11_pray_7 : decode cX11_pray 7 = .ok (.invokevirtual 218, 3) := by decide +kernel
theorem dX11_pray_10 : decode cX11_pray 10 = .ok (.ifCond .ne 6, 3) := by decide +kernel
theorem dX11_pray_13 : decode cX11_pray 13 = .ok (.bipush (-10), 2) := by decide +kernel
theorem dX11_pray_15 : decode cX11_pray 15 = .ok (.ireturn, 1) := by decide +kernel
theorem dX11_pray_16 : decode cX11_pray 16 = .ok (.iconst 0, 1) := by decide +kernel
theorem dX11_pray_17 : decode cX11_pray 17 = .ok (.istore_n 2, 1) := by decide +kernel
theorem dX11_pray_18 : decode cX11_pray 18 = .ok (.ldc_w 296, 3) := by decide +kernel
theorem dX11_pray_21 : decode cX11_pray 21 = .ok (.istore_n 3, 1) := by decide +kernel
theorem dX11_pray_22 : decode cX11_pray 22 = .ok (.iconst 0, 1) := by decide +kernel
theorem dX11_pray_23 : decode cX11_pray 23 = .ok (.istore 4, 2) := by decide +kernel
theorem dX11_pray_25 : decode cX11_pray 25 = .ok (.iload 4, 2) := by decide +kernel
theorem dX11_pray_27 : decode cX11_pray 27 = .ok (.bipush 9, 2) := by decide +kernel
theorem dX11_pray_29 : decode cX11_pray 29 = .ok (.if_icmp .gt 75, 3) := by decide +kernel
theorem dX11_pray_32 : decode cX11_pray 32 = .ok (.iconst (-1), 1) := by decide +kernel
theorem dX11_pray_33 : decode cX11_pray 33 = .ok (.istore 5, 2) := by decide +kernel
theorem dX11_pray_35 : decode cX11_pray 35 = .ok (.iload 5, 2) := by decide +kernel
theorem dX11_pray_37 : decode cX11_pray 37 = .ok (.iconst 1, 1) := by decide +kernel
theorem dX11_pray_38 : decode cX11_pray 38 = .ok (.if_icmp .gt 60, 3) := by decide +kernel
theorem dX11_pray_41 : decode cX11_pray 41 = .ok (.aload_n 0, 1) := by decide +kernel
theorem dX11_pray_42 : decode cX11_pray 42 = .ok (.invokevirtual 324, 3) := by decide +kernel
theorem dX11_pray_45 : decode cX11_pray 45 = .ok (.aload_n 0, 1) := by decide +kernel
theorem dX11_pray_46 : decode cX11_pray 46 = .ok (.aload_n 0, 1) := by decide +kernel
theorem dX11_pray_47 : decode cX11_pray 47 = .ok (.getfield 321, 3) := by decide +kernel
theorem dX11_pray_50 : decode cX11_pray 50 = .ok (.iload 5, 2) := by decide +kernel
theorem dX11_pray_52 : decode cX11_pray 52 = .ok (.iload 4, 2) := by decide +kernel
theorem dX11_pray_54 : decode cX11_pray 54 = .ok (.imul, 1) := by decide +kernel
theorem dX11_pray_55 : decode cX11_pray 55 = .ok (.iload_n 1, 1) := by decide +kernel
theorem dX11_pray_56 : decode cX11_pray 56 = .ok (.invokevirtual 213, 3) := by decide +kernel
theorem dX11_pray_59 : decode cX11_pray 59 = .ok (.aload_n 0, 1) := by decide +kernel
theorem dX11_pray_60 : decode cX11_pray 60 = .ok (.aload_n 0, 1) := by decide +kernel
theorem dX11_pray_61 : decode cX11_pray 61 = .ok (.getfield 321, 3) := by decide +kernel
theorem dX11_pray_64 : decode cX11_pray 64 = .ok (.invokevirtual 224, 3) := by decide +kernel
theorem dX11_pray_67 : decode cX11_pray 67 = .ok (.istore 6, 2) := by decide +kernel
theorem dX11_pray_69 : decode cX11_pray 69 = .ok (.iload 6, 2) := by decide +kernel
theorem dX11_pray_71 : decode cX11_pray 71 = .ok (.iload_n 3, 1) := by decide +kernel
theorem dX11_pray_72 : decode cX11_pray 72 = .ok (.if_icmp .ge 11, 3) := by decide +kernel
theorem dX11_pray_75 : decode cX11_pray 75 = .ok (.iload 5, 2) := by decide +kernel
theorem dX11_pray_77 : decode cX11_pray 77 = .ok (.iload 4, 2) := by decide +kernel
theorem dX11_pray_79 : decode cX11_pray 79 = .ok (.imul, 1) := by decide +kernel
theorem dX11_pray_80 : decode cX11_pray 80 = .ok (.goto 4, 3) := by decide +kernel
theorem dX11_pray_83 : decode cX11_pray 83 = .ok (.iload_n 2, 1) := by decide +kernel
theorem dX11_pray_84 : decode cX11_pray 84 = .ok (.istore_n 2, 1) := by decide +kernel
theorem dX11_pray_85 : decode cX11_pray 85 = .ok (.iload_n 3, 1) := by decide +kernel
theorem dX11_pray_86 : decode cX11_pray 86 = .ok (.iload 6, 2) := by decide +kernel
theorem dX11_pray_88 : decode cX11_pray 88 = .ok (.invokestatic 34, 3) := by decide +kernel
theorem dX11_pray_91 : decode cX11_pray 91 = .ok (.istore_n 3, 1) := by decide +kernel
theorem dX11_pray_92 : decode cX11_pray 92 = .ok (.iinc 5 2, 3) := by decide +kernel
theorem dX11_pray_95 : decode cX11_pray 95 = .ok (.goto (-60), 3) := by decide +kernel
theorem dX11_pray_98 : decode cX11_pray 98 = .ok (.iinc 4 1, 3) := by decide +kernel
theorem dX11_pray_101 : decode cX11_pray 101 = .ok (.goto (-76), 3) := by decide +kernel
theorem dX11_pray_104 : decode cX11_pray 104 = .ok (.aload_n 0, 1) := by decide +kernel
theorem dX11_pray_105 : decode cX11_pray 105 = .ok (.iconst 0, 1) := by decide +kernel
theorem dX11_pray_106 : decode cX11_pray 106 = .ok (.putfield 11, 3) := by decide +kernel
theorem dX11_pray_109 : decode cX11_pray 109 = .ok (.aload_n 0, 1) := by decide +kernel
theorem dX11_pray_110 : decode cX11_pray 110 = .ok (.iload_n 3, 1) := by decide +kernel
theorem dX11_pray_111 : decode cX11_pray 111 = .ok (.invokevirtual 200, 3) := by decide +kernel
theorem dX11_pray_114 : decode cX11_pray 114 = .ok (.iload_n 2, 1) := by decide +kernel
theorem dX11_pray_115 : decode cX11_pray 115 = .ok (.ireturn, 1) := by decide +kernel
theorem dX11_seal_0 : decode cX11_seal 0 = .ok (.aload_n 0, 1) := by decide +kernel
theorem dX11_seal_1 : decode cX11_seal 1 = .ok (.iconst 0, 1) := by decide +kernel
theorem dX11_seal_2 : decode cX11_seal 2 = .ok (.putfield 3, 3) := by decide +kernel
theorem dX11_seal_5 : decode cX11_seal 5 = .ok (.bipush (-2), 2) := by decide +kernel
theorem dX11_seal_7 : decode cX11_seal 7 = .ok (.istore_n 1, 1) := by decide +kernel
theorem dX11_seal_8 : decode cX11_seal 8 = .ok (.iconst 0, 1) := by decide +kernel
theorem dX11_seal_9 : decode cX11_seal 9 = .ok (.istore_n 2, 1) := by decide +kernel
theorem dX11_seal_10 : decode cX11_seal 10 = .ok (.iconst 0, 1) := by decide +kernel
theorem dX11_seal_11 : decode cX11_seal 11 = .ok (.istore_n 3, 1) := by decide +kernel
theorem dX11_seal_12 : decode cX11_seal 12 = .ok (.iconst 0, 1) := by decide +kernel
theorem dX11_seal_13 : decode cX11_seal 13 = .ok (.istore 4, 2) := by decide +kernel
theorem dX11_seal_15 : decode cX11_seal 15 = .ok (.iload 4, 2) := by decide +kernel
theorem dX11_seal_17 : decode cX11_seal 17 = .ok (.aload_n 0, 1) := by decide +kernel
theorem dX11_seal_18 : decode cX11_seal 18 = .ok (.getfield 14, 3) := by decide +kernel
theorem dX11_seal_21 : decode cX11_seal 21 = .ok (.if_icmp .ge 122, 3) := by decide +kernel
theorem dX11_seal_24 : decode cX11_seal 24 = .ok (.iload 4, 2) := by decide +kernel
theorem dX11_seal_26 : decode cX11_seal 26 = .ok (.iconst 1, 1) := by decide +kernel
theorem dX11_seal_27 : decode cX11_seal 27 = .ok (.iadd, 1) := by decide +kernel
theorem dX11_seal_28 : decode cX11_seal 28 = .ok (.istore 5, 2) := by decide +kernel
theorem dX11_seal_30 : decode cX11_seal 30 = .ok (.iload 5, 2) := by decide +kernel
theorem dX11_seal_32 : decode cX11_seal 32 = .ok (.aload_n 0, 1) := by decide +kernel
theorem dX11_seal_33 : decode cX11_seal 33 = .ok (.getfield 14, 3) := by decide +kernel
theorem dX11_seal_36 : decode cX11_seal 36 = .ok (.if_icmp .ge 101, 3) := by decide +kernel
theorem dX11_seal_39 : decode cX11_seal 39 = .ok (.aload_n 0, 1) := by decide +kernel
theorem dX11_seal_40 : decode cX11_seal 40 = .ok (.getfield 77, 3) := by decide +kernel
theorem dX11_seal_43 : decode cX11_seal 43 = .ok (.bipush 9, 2) := by decide +kernel
theorem dX11_seal_45 : decode cX11_seal 45 = .ok (.iload 4, 2) := by decide +kernel
theorem dX11_seal_47 : decode cX11_seal 47 = .ok (.imul, 1) := by decide +kernel
theorem dX11_seal_48 : decode cX11_seal 48 = .ok (.iload 5, 2) := by decide +kernel
theorem dX11_seal_50 : decode cX11_seal 50 = .ok (.iadd, 1) := by decide +kernel
theorem dX11_seal_51 : decode cX11_seal 51 = .ok (.iaload, 1) := by decide +kernel
theorem dX11_seal_52 : decode cX11_seal 52 = .ok (.istore 6, 2) := by decide +kernel
theorem dX11_seal_54 : decode cX11_seal 54 = .ok (.aload_n 0, 1) := by decide +kernel
theorem dX11_seal_55 : decode cX11_seal 55 = .ok (.getfield 80, 3) := by decide +kernel
theorem dX11_seal_58 : decode cX11_seal 58 = .ok (.iload 4, 2) := by decide +kernel
theorem dX11_seal_60 : decode cX11_seal 60 = .ok (.iaload, 1) := by decide +kernel
theorem dX11_seal_61 : decode cX11_seal 61 = .ok (.iload 5, 2) := by decide +kernel
theorem dX11_seal_63 : decode cX11_seal 63 = .ok (.invokestatic 108, 3) := by decide +kernel
theorem dX11_seal_66 : decode cX11_seal 66 = .ok (.ifCond .eq 65, 3) := by decide +kernel
theorem dX11_seal_69 : decode cX11_seal 69 = .ok (.iload 6, 2) := by decide +kernel
theorem dX11_seal_71 : decode cX11_seal 71 = .ok (.ifCond .ne 6, 3) := by decide +kernel
theorem dX11_seal_74 : decode cX11_seal 74 = .ok (.goto 57, 3) := by decide +kernel
theorem dX11_seal_77 : decode cX11_seal 77 = .ok (.aload_n 0, 1) := by decide +kernel
theorem dX11_seal_78 : decode cX11_seal 78 = .ok (.iload 4, 2) := by decide +kernel
theorem dX11_seal_80 : decode cX11_seal 80 = .ok (.iload 5, 2) := by decide +kernel
theorem dX11_seal_82 : decode cX11_seal 82 = .ok (.iconst 0, 1) := by decide +kernel
theorem dX11_seal_83 : decode cX11_seal 83 = .ok (.invokevirtual 147, 3) := by decide +kernel
theorem dX11_seal_86 : decode cX11_seal 86 = .ok (.aload_n 0, 1) := by decide +kernel
theorem dX11_seal_87 : decode cX11_seal 87 = .ok (.invokevirtual 327, 3) := by decide +kernel
theorem dX11_seal_90 : decode cX11_seal 90 = .ok (.istore 7, 2) := by decide +kernel
theorem dX11_seal_92 : decode cX11_seal 92 = .ok (.aload_n 0, 1) := by decide +kernel
theorem dX11_seal_93 : decode cX11_seal 93 = .ok (.iload 4, 2) := by decide +kernel
theorem dX11_seal_95 : decode cX11_seal 95 = .ok (.iload 5, 2) := by decide +kernel
theorem dX11_seal_97 : decode cX11_seal 97 = .ok (.iload 6, 2) := by decide +kernel
theorem dX11_seal_99 : decode cX11_seal 99 = .ok (.invokevirtual 147, 3) := by decide +kernel
theorem dX11_seal_102 : decode cX11_seal 102 = .ok (.iload 7, 2) := by decide +kernel
theorem dX11_seal_104 : decode cX11_seal 104 = .ok (.ifCond .ge 8, 3) := by decide +kernel
theorem dX11_seal_107 : decode cX11_seal 107 = .ok (.bipush 101, 2) := by decide +kernel
theorem dX11_seal_109 : decode cX11_seal 109 = .ok (.goto 5, 3) := by decide +kernel
theorem dX11_seal_112 : decode cX11_seal 112 = .ok (.iload 7, 2) := by decide +kernel
theorem dX11_seal_114 : decode cX11_seal 114 = .ok (.istore 7, 2) := by decide +kernel
theorem dX11_seal_116 : decode cX11_seal 116 = .ok (.iload 7, 2) := by decide +kernel
theorem dX11_seal_118 : decode cX11_seal 118 = .ok (.iload_n 3, 1) := by decide +kernel
theorem dX11_seal_119 : decode cX11_seal 119 = .ok (.if_icmp .le 12, 3) := by decide +kernel
theorem dX11_seal_122 : decode cX11_seal 122 = .ok (.iload 4, 2) := by decide +kernel
theorem dX11_seal_124 : decode cX11_seal 124 = .ok (.istore_n 1, 1) := by decide +kernel
theorem dX11_seal_125 : decode cX11_seal 125 = .ok (.iload 5, 2) := by decide +kernel
theorem dX11_seal_127 : decode cX11_seal 127 = .ok (.istore_n 2, 1) := by decide +kernel
theorem dX11_seal_128 : decode cX11_seal 128 = .ok (.iload 7, 2) := by decide +kernel
theorem dX11_seal_130 : decode cX11_seal 130 = .ok (.istore_n 3, 1) := by decide +kernel
theorem dX11_seal_131 : decode cX11_seal 131 = .ok (.iinc 5 1, 3) := by decide +kernel
theorem dX11_seal_134 : decode cX11_seal 134 = .ok (.goto (-104), 3) := by decide +kernel
theorem dX11_seal_137 : decode cX11_seal 137 = .ok (.iinc 4 1, 3) := by decide +kernel
theorem dX11_seal_140 : decode cX11_seal 140 = .ok (.goto (-125), 3) := by decide +kernel
theorem dX11_seal_143 : decode cX11_seal 143 = .ok (.iload_n 1, 1) := by decide +kernel
theorem dX11_seal_144 : decode cX11_seal 144 = .ok (.ifCond .ge 6, 3) := by decide +kernel
theorem dX11_seal_147 : decode cX11_seal 147 = .ok (.bipush (-2), 2) := by decide +kernel
theorem dX11_seal_149 : decode cX11_seal 149 = .ok (.ireturn, 1) := by decide +kernel
theorem dX11_seal_150 : decode cX11_seal 150 = .ok (.aload_n 0, 1) := by decide +kernel
theorem dX11_seal_151 : decode cX11_seal 151 = .ok (.iconst 0, 1) := by decide +kernel
theorem dX11_seal_152 : decode cX11_seal 152 = .ok (.putfield 11, 3) := by decide +kernel
theorem dX11_seal_155 : decode cX11_seal 155 = .ok (.aload_n 0, 1) := by decide +kernel
theorem dX11_seal_156 : decode cX11_seal 156 = .ok (.iload_n 2, 1) := by decide +kernel
theorem dX11_seal_157 : decode cX11_seal 157 = .ok (.invokevirtual 200, 3) := by decide +kernel
theorem dX11_seal_160 : decode cX11_seal 160 = .ok (.aload_n 0, 1) := by decide +kernel
theorem dX11_seal_161 : decode cX11_seal 161 = .ok (.iload_n 3, 1) := by decide +kernel
theorem dX11_seal_162 : decode cX11_seal 162 = .ok (.bipush 100, 2) := by decide +kernel
theorem dX11_seal_164 : decode cX11_seal 164 = .ok (.if_icmp .le 8, 3) := by decide +kernel
theorem dX11_seal_167 : decode cX11_seal 167 = .ok (.bipush (-2), 2) := by decide +kernel
theorem dX11_seal_169 : decode cX11_seal 169 = .ok (.goto 4, 3) := by decide +kernel
theorem dX11_seal_172 : decode cX11_seal 172 = .ok (.iload_n 3, 1) := by decide +kernel
theorem dX11_seal_173 : decode cX11_seal 173 = .ok (.invokevirtual 200, 3) := by decide +kernel
theorem dX11_seal_176 : decode cX11_seal 176 = .ok (.iload_n 1, 1) := by decide +kernel
theorem dX11_seal_177 : decode cX11_seal 177 = .ok (.ireturn, 1) := by decide +kernel
theorem dX11_road_0 : decode cX11_road 0 = .ok (.aload_n 0, 1) := by decide +kernel
theorem dX11_road_1 : decode cX11_road 1 = .ok (.iconst 0, 1) := by decide +kernel
theorem dX11_road_2 : decode cX11_road 2 = .ok (.putfield 3, 3) := by decide +kernel
theorem dX11_road_5 : decode cX11_road 5 = .ok (.aload_n 0, 1) := by decide +kernel
theorem dX11_road_6 : decode cX11_road 6 = .ok (.iload_n 1, 1) := by decide +kernel
theorem dX11_road_7 : decode cX11_road 7 = .ok (.invokevirtual 21, 3) := by decide +kernel
theorem dX11_road_10 : decode cX11_road 10 = .ok (.ifCond .eq 11, 3) := by decide +kernel
theorem dX11_road_13 : decode cX11_road 13 = .ok (.aload_n 0, 1) := by decide +kernel
theorem dX11_road_14 : decode cX11_road 14 = .ok (.iload_n 2, 1) := by decide +kernel
theorem dX11_road_15 : decode cX11_road 15 = .ok (.invokevirtual 21, 3) := by decide +kernel
theorem dX11_road_18 : decode cX11_road 18 = .ok (.ifCond .ne 5, 3) := by decide +kernel
theorem dX11_road_21 : decode cX11_road 21 = .ok (.iconst (-1), 1) := by decide +kernel
theorem dX11_road_22 : decode cX11_road 22 = .ok (.ireturn, 1) := by decide +kernel
theorem dX11_road_23 : decode cX11_road 23 = .ok (.iconst 0, 1) := by decide +kernel
theorem dX11_road_24 : decode cX11_road 24 = .ok (.istore_n 3, 1) := by decide +kernel
theorem dX11_road_25 : decode cX11_road 25 = .ok (.iload_n 3, 1) := by decide +kernel
theorem dX11_road_26 : decode cX11_road 26 = .ok (.bipush 9, 2) := by decide +kernel
theorem dX11_road_28 : decode cX11_road 28 = .ok (.if_icmp .ge 26, 3) := by decide +kernel
theorem dX11_road_31 : decode cX11_road 31 = .ok (.aload_n 0, 1) := by decide +kernel
theorem dX11_road_32 : decode cX11_road 32 = .ok (.getfield 343, 3) := by decide +kernel
theorem dX11_road_35 : decode cX11_road 35 = .ok (.iload_n 3, 1) := by decide +kernel
theorem dX11_road_36 : decode cX11_road 36 = .ok (.iload_n 3, 1) := by decide +kernel
theorem dX11_road_37 : decode cX11_road 37 = .ok (.iload_n 2, 1) := by decide +kernel
theorem dX11_road_38 : decode cX11_road 38 = .ok (.if_icmp .ne 7, 3) := by decide +kernel
theorem dX11_road_41 : decode cX11_road 41 = .ok (.iconst 0, 1) := by decide +kernel
theorem dX11_road_42 : decode cX11_road 42 = .ok (.goto 5, 3) := by decide +kernel
theorem dX11_road_45 : decode cX11_road 45 = .ok (.bipush 100, 2) := by decide +kernel
theorem dX11_road_47 : decode cX11_road 47 = .ok (.iastore, 1) := by decide +kernel
theorem dX11_road_48 : decode cX11_road 48 = .ok (.iinc 3 1, 3) := by decide +kernel
theorem dX11_road_51 : decode cX11_road 51 = .ok (.goto (-26), 3) := by decide +kernel
theorem dX11_road_54 : decode cX11_road 54 = .ok (.iconst 0, 1) := by decide +kernel
theorem dX11_road_55 : decode cX11_road 55 = .ok (.istore_n 3, 1) := by decide +kernel
theorem dX11_road_56 : decode cX11_road 56 = .ok (.iload_n 3, 1) := by decide +kernel
theorem dX11_road_57 : decode cX11_road 57 = .ok (.aload_n 0, 1) := by decide +kernel
theorem dX11_road_58 : decode cX11_road 58 = .ok (.getfield 14, 3) := by decide +kernel
theorem dX11_road_61 : decode cX11_road 61 = .ok (.if_icmp .ge 96, 3) := by decide +kernel
theorem dX11_road_64 : decode cX11_road 64 = .ok (.iconst 0, 1) := by decide +kernel
theorem dX11_road_65 : decode cX11_road 65 = .ok (.istore 4, 2) := by decide +kernel
theorem dX11_road_67 : decode cX11_road 67 = .ok (.iload 4, 2) := by decide +kernel
theorem dX11_road_69 : decode cX11_road 69 = .ok (.aload_n 0, 1) := by decide +kernel
theorem dX11_road_70 : decode cX11_road 70 = .ok (.getfield 14, 3) := by decide +kernel
theorem dX11_road_73 : decode cX11_road 73 = .ok (.if_icmp .ge 78, 3) := by decide +kernel
theorem dX11_road_76 : decode cX11_road 76 = .ok (.iconst 0, 1) := by decide +kernel
theorem dX11_road_77 : decode cX11_road 77 = .ok (.istore 5, 2) := by decide +kernel
theorem dX11_road_79 : decode cX11_road 79 = .ok (.iload 5, 2) := by decide +kernel
theorem dX11_road_81 : decode cX11_road 81 = .ok (.aload_n 0, 1) := by decide +kernel
theorem dX11_road_82 : decode cX11_road 82 = .ok (.getfield 14, 3) := by decide +kernel
theorem dX11_road_85 : decode cX11_road 85 = .ok (.if_icmp .ge 60, 3) := by decide +kernel
theorem dX11_road_88 : decode cX11_road 88 = .ok (.aload_n 0, 1) := by decide +kernel
theorem dX11_road_89 : decode cX11_road 89 = .ok (.getfield 343, 3) := by decide +kernel
theorem dX11_road_92 : decode cX11_road 92 = .ok (.iload 4, 2) := by decide +kernel
theorem dX11_road_94 : decode cX11_road 94 = .ok (.aload_n 0, 1) := by decide +kernel
theorem dX11_road_95 : decode cX11_road 95 = .ok (.getfield 80, 3) := by decide +kernel
theorem dX11_road_98 : decode cX11_road 98 = .ok (.iload 4, 2) := by decide +kernel
theorem dX11_road_100 : decode cX11_road 100 = .ok (.iaload, 1) := by decide +kernel
theorem dX11_road_101 : decode cX11_road 101 = .ok (.iload 5, 2) := by decide +kernel
theorem dX11_road_103 : decode cX11_road 103 = .ok (.invokestatic 108, 3) := by decide +kernel
theorem dX11_road_106 : decode cX11_road 106 = .ok (.ifCond .eq 25, 3) := by decide +kernel
theorem dX11_road_109 : decode cX11_road 109 = .ok (.aload_n 0, 1) := by decide +kernel
theorem dX11_road_110 : decode cX11_road 110 = .ok (.getfield 343, 3) := by decide +kernel
theorem dX11_road_113 : decode cX11_road 113 = .ok (.iload 4, 2) := by decide +kernel
theorem dX11_road_115 : decode cX11_road 115 = .ok (.iaload, 1) := by decide +kernel
theorem dX11_road_116 : decode cX11_road 116 = .ok (.iconst 1, 1) := by decide +kernel
theorem dX11_road_117 : decode cX11_road 117 = .ok (.aload_n 0, 1) := by decide +kernel
theorem dX11_road_118 : decode cX11_road 118 = .ok (.getfield 343, 3) := by decide +kernel
theorem dX11_road_121 : decode cX11_road 121 = .ok (.iload 5, 2) := by decide +kernel
theorem dX11_road_123 : decode cX11_road 123 = .ok (.iaload, 1) := by decide +kernel
theorem dX11_road_124 : decode cX11_road 124 = .ok (.iadd, 1) := by decide +kernel
theorem dX11_road_125 : decode cX11_road 125 = .ok (.invokestatic 34, 3) := by decide +kernel
theorem dX11_road_128 : decode cX11_road 128 = .ok (.goto 10, 3) := by decide +kernel
theorem dX11_road_131 : decode cX11_road 131 = .ok (.aload_n 0, 1) := by decide +kernel
theorem dX11_road_132 : decode cX11_road 132 = .ok (.getfield 343, 3) := by decide +kernel
theorem dX11_road_135 : decode cX11_road 135 = .ok (.iload 4, 2) := by decide +kernel
theorem dX11_road_137 : decode cX11_road 137 = .ok (.iaload, 1) := by decide +kernel
theorem dX11_road_138 : decode cX11_road 138 = .ok (.iastore, 1) := by decide +kernel
theorem dX11_road_139 : decode cX11_road 139 = .ok (.iinc 5 1, 3) := by decide +kernel
theorem dX11_road_142 : decode cX11_road 142 = .ok (.goto (-63), 3) := by decide +kernel
theorem dX11_road_145 : decode cX11_road 145 = .ok (.iinc 4 1, 3) := by decide +kernel
theorem dX11_road_148 : decode cX11_road 148 = .ok (.goto (-81), 3) := by decide +kernel
theorem dX11_road_151 : decode cX11_road 151 = .ok (.iinc 3 1, 3) := by decide +kernel
theorem dX11_road_154 : decode cX11_road 154 = .ok (.goto (-98), 3) := by decide +kernel
theorem dX11_road_157 : decode cX11_road 157 = .ok (.aload_n 0, 1) := by decide +kernel
theorem dX11_road_158 : decode cX11_road 158 = .ok (.getfield 343, 3) := by decide +kernel
theorem dX11_road_161 : decode cX11_road 161 = .ok (.iload_n 1, 1) := by decide +kernel
theorem dX11_road_162 : decode cX11_road 162 = .ok (.iaload, 1) := by decide +kernel
theorem dX11_road_163 : decode cX11_road 163 = .ok (.bipush 100, 2) := by decide +kernel
theorem dX11_road_165 : decode cX11_road 165 = .ok (.if_icmp .lt 6, 3) := by decide +kernel
theorem dX11_road_168 : decode cX11_road 168 = .ok (.bipush (-2), 2) := by decide +kernel
theorem dX11_road_170 : decode cX11_road 170 = .ok (.ireturn, 1) := by decide +kernel
theorem dX11_road_171 : decode cX11_road 171 = .ok (.aload_n 0, 1) := by decide +kernel
theorem dX11_road_172 : decode cX11_road 172 = .ok (.iconst 0, 1) := by decide +kernel
theorem dX11_road_173 : decode cX11_road 173 = .ok (.putfield 11, 3) := by decide +kernel
theorem dX11_road_176 : decode cX11_road 176 = .ok (.iload_n 1, 1) := by decide +kernel
theorem dX11_road_177 : decode cX11_road 177 = .ok (.istore_n 3, 1) := by decide +kernel
theorem dX11_road_178 : decode cX11_road 178 = .ok (.aload_n 0, 1) := by decide +kernel
theorem dX11_road_179 : decode cX11_road 179 = .ok (.getfield 343, 3) := by decide +kernel
theorem dX11_road_182 : decode cX11_road 182 = .ok (.iload_n 1, 1) := by decide +kernel
theorem dX11_road_183 : decode cX11_road 183 = .ok (.iaload, 1) := by decide +kernel
theorem dX11_road_184 : decode cX11_road 184 = .ok (.iconst 1, 1) := by decide +kernel
theorem dX11_road_185 : decode cX11_road 185 = .ok (.isub, 1) := by decide +kernel
theorem dX11_road_186 : decode cX11_road 186 = .ok (.istore 4, 2) := by decide +kernel
theorem dX11_road_188 : decode cX11_road 188 = .ok (.iload 4, 2) := by decide +kernel
theorem dX11_road_190 : decode cX11_road 190 = .ok (.ifCond .le 53, 3) := by decide +kernel
theorem dX11_road_193 : decode cX11_road 193 = .ok (.iconst 0, 1) := by decide +kernel
theorem dX11_road_194 : decode cX11_road 194 = .ok (.istore 5, 2) := by decide +kernel
theorem dX11_road_196 : decode cX11_road 196 = .ok (.aload_n 0, 1) := by decide +kernel
theorem dX11_road_197 : decode cX11_road 197 = .ok (.getfield 80, 3) := by decide +kernel
theorem dX11_road_200 : decode cX11_road 200 = .ok (.iload_n 3, 1) := by decide +kernel
theorem dX11_road_201 : decode cX11_road 201 = .ok (.iaload, 1) := by decide +kernel
theorem dX11_road_202 : decode cX11_road 202 = .ok (.iload 5, 2) := by decide +kernel
theorem dX11_road_204 : decode cX11_road 204 = .ok (.invokestatic 108, 3) := by decide +kernel
theorem dX11_road_207 : decode cX11_road 207 = .ok (.ifCond .eq 15, 3) := by decide +kernel
theorem dX11_road_210 : decode cX11_road 210 = .ok (.aload_n 0, 1) := by decide +kernel
theorem dX11_road_211 : decode cX11_road 211 = .ok (.getfield 343, 3) := by decide +kernel
theorem dX11_road_214 : decode cX11_road 214 = .ok (.iload 5, 2) := by decide +kernel
theorem dX11_road_216 : decode cX11_road 216 = .ok (.iaload, 1) := by decide +kernel
theorem dX11_road_217 : decode cX11_road 217 = .ok (.iload 4, 2) := by decide +kernel
theorem dX11_road_219 : decode cX11_road 219 = .ok (.if_icmp .eq 9, 3) := by decide +kernel
theorem dX11_road_222 : decode cX11_road 222 = .ok (.iinc 5 1, 3) := by decide +kernel
theorem dX11_road_225 : decode cX11_road 225 = .ok (.goto (-29), 3) := by decide +kernel
theorem dX11_road_228 : decode cX11_road 228 = .ok (.aload_n 0, 1) := by decide +kernel
theorem dX11_road_229 : decode cX11_road 229 = .ok (.iload 5, 2) := by decide +kernel
theorem dX11_road_231 : decode cX11_road 231 = .ok (.invokevirtual 200, 3) := by decide +kernel
theorem dX11_road_234 : decode cX11_road 234 = .ok (.iload 5, 2) := by decide +kernel
theorem dX11_road_236 : decode cX11_road 236 = .ok (.istore_n 3, 1) := by decide +kernel
theorem dX11_road_237 : decode cX11_road 237 = .ok (.iinc 4 (-1), 3) := by decide +kernel
theorem dX11_road_240 : decode cX11_road 240 = .ok (.goto (-52), 3) := by decide +kernel
theorem dX11_road_243 : decode cX11_road 243 = .ok (.aload_n 0, 1) := by decide +kernel
theorem dX11_road_244 : decode cX11_road 244 = .ok (.getfield 343, 3) := by decide +kernel
theorem dX11_road_247 : decode cX11_road 247 = .ok (.iload_n 1, 1) := by decide +kernel
theorem dX11_road_248 : decode cX11_road 248 = .ok (.iaload, 1) := by decide +kernel
theorem dX11_road_249 : decode cX11_road 249 = .ok (.ireturn, 1) := by decide +kernel
theorem dX11_asMany_0 : decode cX11_asMany 0 = .ok (.iload_n 0, 1) := by decide +kernel
theorem dX11_asMany_1 : decode cX11_asMany 1 = .ok (.ifCond .ge 8, 3) := by decide +kernel
theorem dX11_asMany_4 : decode cX11_asMany 4 = .ok (.bipush 101, 2) := by decide +kernel
theorem dX11_asMany_6 : decode cX11_asMany 6 = .ok (.goto 4, 3) := by decide +kernel
theorem dX11_asMany_9 : decode cX11_asMany 9 = .ok (.iload_n 0, 1) := by decide +kernel
theorem dX11_asMany_10 : decode cX11_asMany 10 = .ok (.ireturn, 1) := by decide +kernel
theorem dX11_boon_0 : decode cX11_boon 0 = .ok (.aload_n 0, 1) := by decide +kernel
theorem dX11_boon_1 : decode cX11_boon 1 = .ok (.iconst 0, 1) := by decide +kernel
theorem dX11_boon_2 : decode cX11_boon 2 = .ok (.putfield 3, 3) := by decide +kernel
theorem dX11_boon_5 : decode cX11_boon 5 = .ok (.aload_n 0, 1) := by decide +kernel
theorem dX11_boon_6 : decode cX11_boon 6 = .ok (.getfield 14, 3) := by decide +kernel
theorem dX11_boon_9 : decode cX11_boon 9 = .ok (.ifCond .ne 6, 3) := by decide +kernel
theorem dX11_boon_12 : decode cX11_boon 12 = .ok (.bipush (-2), 2) := by decide +kernel
theorem dX11_boon_14 : decode cX11_boon 14 = .ok (.ireturn, 1) := by decide +kernel
theorem dX11_boon_15 : decode cX11_boon 15 = .ok (.iconst 0, 1) := by decide +kernel
theorem dX11_boon_16 : decode cX11_boon 16 = .ok (.istore_n 1, 1) := by decide +kernel
theorem dX11_boon_17 : decode cX11_boon 17 = .ok (.iconst 0, 1) := by decide +kernel
theorem dX11_boon_18 : decode cX11_boon 18 = .ok (.istore_n 2, 1) := by decide +kernel
theorem dX11_boon_19 : decode cX11_boon 19 = .ok (.iconst 0, 1) := by decide +kernel
theorem dX11_boon_20 : decode cX11_boon 20 = .ok (.istore_n 3, 1) := by decide +kernel
theorem dX11_boon_21 : decode cX11_boon 21 = .ok (.iload_n 3, 1) := by decide +kernel
theorem dX11_boon_22 : decode cX11_boon 22 = .ok (.aload_n 0, 1) := by decide +kernel
theorem dX11_boon_23 : decode cX11_boon 23 = .ok (.getfield 14, 3) := by decide +kernel
theorem dX11_boon_26 : decode cX11_boon 26 = .ok (.if_icmp .ge 68, 3) := by decide +kernel
theorem dX11_boon_29 : decode cX11_boon 29 = .ok (.aload_n 0, 1) := by decide +kernel
theorem dX11_boon_30 : decode cX11_boon 30 = .ok (.getfield 99, 3) := by decide +kernel
theorem dX11_boon_33 : decode cX11_boon 33 = .ok (.iload_n 3, 1) := by decide +kernel
theorem dX11_boon_34 : decode cX11_boon 34 = .ok (.iaload, 1) := by decide +kernel
theorem dX11_boon_35 : decode cX11_boon 35 = .ok (.istore 4, 2) := by decide +kernel
theorem dX11_boon_37 : decode cX11_boon 37 = .ok (.aload_n 0, 1) := by decide +kernel
theorem dX11_boon_38 : decode cX11_boon 38 = .ok (.getfield 99, 3) := by decide +kernel
theorem dX11_boon_41 : decode cX11_boon 41 = .ok (.iload_n 3, 1) := by decide +kernel
theorem dX11_boon_42 : decode cX11_boon 42 = .ok (.bipush 9, 2) := by decide +kernel
theorem dX11_boon_44 : decode cX11_boon 44 = .ok (.iload 4, 2) := by decide +kernel
theorem dX11_boon_46 : decode cX11_boon 46 = .ok (.iconst 1, 1) := by decide +kernel
theorem dX11_boon_47 : decode cX11_boon 47 = .ok (.iadd, 1) := by decide +kernel
theorem dX11_boon_48 : decode cX11_boon 48 = .ok (.invokestatic 34, 3) := by decide +kernel
theorem dX11_boon_51 : decode cX11_boon 51 = .ok (.iastore, 1) := by decide +kernel
theorem dX11_boon_52 : decode cX11_boon 52 = .ok (.aload_n 0, 1) := by decide +kernel
theorem dX11_boon_53 : decode cX11_boon 53 = .ok (.invokevirtual 327, 3) := by decide +kernel
theorem dX11_boon_56 : decode cX11_boon 56 = .ok (.invokestatic 346, 3) := by decide +kernel
theorem dX11_boon_59 : decode cX11_boon 59 = .ok (.istore 5, 2) := by decide +kernel
theorem dX11_boon_61 : decode cX11_boon 61 = .ok (.aload_n 0, 1) := by decide +kernel
theorem dX11_boon_62 : decode cX11_boon 62 = .ok (.getfield 99, 3) := by decide +kernel
theorem dX11_boon_65 : decode cX11_boon 65 = .ok (.iload_n 3, 1) := by decide +kernel
theorem dX11_boon_66 : decode cX11_boon 66 = .ok (.iload 4, 2) := by decide +kernel
theorem dX11_boon_68 : decode cX11_boon 68 = .ok (.iastore, 1) := by decide +kernel
theorem dX11_boon_69 : decode cX11_boon 69 = .ok (.iload 5, 2) := by decide +kernel
theorem dX11_boon_71 : decode cX11_boon 71 = .ok (.iload_n 2, 1) := by decide +kernel
theorem dX11_boon_72 : decode cX11_boon 72 = .ok (.if_icmp .le 7, 3) := by decide +kernel
theorem dX11_boon_75 : decode cX11_boon 75 = .ok (.iload_n 3, 1) := by decide +kernel
theorem dX11_boon_76 : decode cX11_boon 76 = .ok (.goto 4, 3) := by decide +kernel
theorem dX11_boon_79 : decode cX11_boon 79 = .ok (.iload_n 1, 1) := by decide +kernel
theorem dX11_boon_80 : decode cX11_boon 80 = .ok (.istore_n 1, 1) := by decide +kernel
theorem dX11_boon_81 : decode cX11_boon 81 = .ok (.iload_n 2, 1) := by decide +kernel
theorem dX11_boon_82 : decode cX11_boon 82 = .ok (.iload 5, 2) := by decide +kernel
theorem dX11_boon_84 : decode cX11_boon 84 = .ok (.invokestatic 140, 3) := by decide +kernel
theorem dX11_boon_87 : decode cX11_boon 87 = .ok (.istore_n 2, 1) := by decide +kernel
theorem dX11_boon_88 : decode cX11_boon 88 = .ok (.iinc 3 1, 3) := by decide +kernel
theorem dX11_boon_91 : decode cX11_boon 91 = .ok (.goto (-70), 3) := by decide +kernel
theorem dX11_boon_94 : decode cX11_boon 94 = .ok (.aload_n 0, 1) := by decide +kernel
theorem dX11_boon_95 : decode cX11_boon 95 = .ok (.iconst 0, 1) := by decide +kernel
theorem dX11_boon_96 : decode cX11_boon 96 = .ok (.putfield 11, 3) := by decide +kernel
theorem dX11_boon_99 : decode cX11_boon 99 = .ok (.aload_n 0, 1) := by decide +kernel
theorem dX11_boon_100 : decode cX11_boon 100 = .ok (.iload_n 2, 1) := by decide +kernel
theorem dX11_boon_101 : decode cX11_boon 101 = .ok (.bipush 100, 2) := by decide +kernel
theorem dX11_boon_103 : decode cX11_boon 103 = .ok (.if_icmp .le 8, 3) := by decide +kernel
theorem dX11_boon_106 : decode cX11_boon 106 = .ok (.bipush (-2), 2) := by decide +kernel
theorem dX11_boon_108 : decode cX11_boon 108 = .ok (.goto 4, 3) := by decide +kernel
theorem dX11_boon_111 : decode cX11_boon 111 = .ok (.iload_n 2, 1) := by decide +kernel
theorem dX11_boon_112 : decode cX11_boon 112 = .ok (.invokevirtual 200, 3) := by decide +kernel
theorem dX11_boon_115 : decode cX11_boon 115 = .ok (.aload_n 0, 1) := by decide +kernel
theorem dX11_boon_116 : decode cX11_boon 116 = .ok (.aload_n 0, 1) := by decide +kernel
theorem dX11_boon_117 : decode cX11_boon 117 = .ok (.invokevirtual 327, 3) := by decide +kernel
theorem dX11_boon_120 : decode cX11_boon 120 = .ok (.invokevirtual 200, 3) := by decide +kernel
theorem dX11_boon_123 : decode cX11_boon 123 = .ok (.iload_n 1, 1) := by decide +kernel
theorem dX11_boon_124 : decode cX11_boon 124 = .ok (.ireturn, 1) := by decide +kernel
theorem dX11_seen_0 : decode cX11_seen 0 = .ok (.aload_n 0, 1) := by decide +kernel
theorem dX11_seen_1 : decode cX11_seen 1 = .ok (.iconst 0, 1) := by decide +kernel
theorem dX11_seen_2 : decode cX11_seen 2 = .ok (.putfield 3, 3) := by decide +kernel
theorem dX11_seen_5 : decode cX11_seen 5 = .ok (.iload_n 1, 1) := by decide +kernel
theorem dX11_seen_6 : decode cX11_seen 6 = .ok (.i2l, 1) := by decide +kernel
theorem dX11_seen_7 : decode cX11_seen 7 = .ok (.lconst 1, 1) := by decide +kernel
theorem dX11_seen_8 : decode cX11_seen 8 = .ok (.ldc2_w 330, 3) := by decide +kernel
theorem dX11_seen_11 : decode cX11_seen 11 = .ok (.invokestatic 17, 3) := by decide +kernel
theorem dX11_seen_14 : decode cX11_seen 14 = .ok (.ifCond .eq 24, 3) := by decide +kernel
theorem dX11_seen_17 : decode cX11_seen 17 = .ok (.iload_n 2, 1) := by decide +kernel
theorem dX11_seen_18 : decode cX11_seen 18 = .ok (.i2l, 1) := by decide +kernel
theorem dX11_seen_19 : decode cX11_seen 19 = .ok (.lconst 0, 1) := by decide +kernel
theorem dX11_seen_20 : decode cX11_seen 20 = .ok (.ldc2_w 349, 3) := by decide +kernel
theorem dX11_seen_23 : decode cX11_seen 23 = .ok (.invokestatic 17, 3) := by decide +kernel
theorem dX11_seen_26 : decode cX11_seen 26 = .ok (.ifCond .eq 12, 3) := by decide +kernel
theorem dX11_seen_29 : decode cX11_seen 29 = .ok (.aload_n 0, 1) := by decide +kernel
theorem dX11_seen_30 : decode cX11_seen 30 = .ok (.getfield 351, 3) := by decide +kernel
theorem dX11_seen_33 : decode cX11_seen 33 = .ok (.bipush 10, 2) := by decide +kernel
theorem dX11_seen_35 : decode cX11_seen 35 = .ok (.if_icmp .ne 5, 3) := by decide +kernel
theorem dX11_seen_38 : decode cX11_seen 38 = .ok (.iconst (-1), 1) := by decide +kernel
theorem dX11_seen_39 : decode cX11_seen 39 = .ok (.ireturn, 1) := by decide +kernel
theorem dX11_seen_40 : decode cX11_seen 40 = .ok (.aload_n 0, 1) := by decide +kernel
theorem dX11_seen_41 : decode cX11_seen 41 = .ok (.getfield 354, 3) := by decide +kernel
theorem dX11_seen_44 : decode cX11_seen 44 = .ok (.aload_n 0, 1) := by decide +kernel
theorem dX11_seen_45 : decode cX11_seen 45 = .ok (.getfield 351, 3) := by decide +kernel
theorem dX11_seen_48 : decode cX11_seen 48 = .ok (.iload_n 1, 1) := by decide +kernel
theorem dX11_seen_49 : decode cX11_seen 49 = .ok (.iastore, 1) := by decide +kernel
theorem dX11_seen_50 : decode cX11_seen 50 = .ok (.aload_n 0, 1) := by decide +kernel
theorem dX11_seen_51 : decode cX11_seen 51 = .ok (.getfield 357, 3) := by decide +kernel
theorem dX11_seen_54 : decode cX11_seen 54 = .ok (.aload_n 0, 1) := by decide +kernel
theorem dX11_seen_55 : decode cX11_seen 55 = .ok (.getfield 351, 3) := by decide +kernel
theorem dX11_seen_58 : decode cX11_seen 58 = .ok (.iload_n 2, 1) := by decide +kernel
theorem dX11_seen_59 : decode cX11_seen 59 = .ok (.iastore, 1) := by decide +kernel
theorem dX11_seen_60 : decode cX11_seen 60 = .ok (.aload_n 0, 1) := by decide +kernel
theorem dX11_seen_61 : decode cX11_seen 61 = .ok (.dup, 1) := by decide +kernel
theorem dX11_seen_62 : decode cX11_seen 62 = .ok (.getfield 351, 3) := by decide +kernel
theorem dX11_seen_65 : decode cX11_seen 65 = .ok (.iconst 1, 1) := by decide +kernel
theorem dX11_seen_66 : decode cX11_seen 66 = .ok (.iadd, 1) := by decide +kernel
theorem dX11_seen_67 : decode cX11_seen 67 = .ok (.putfield 351, 3) := by decide +kernel
theorem dX11_seen_70 : decode cX11_seen 70 = .ok (.aload_n 0, 1) := by decide +kernel
theorem dX11_seen_71 : decode cX11_seen 71 = .ok (.getfield 351, 3) := by decide +kernel
theorem dX11_seen_74 : decode cX11_seen 74 = .ok (.ireturn, 1) := by decide +kernel
theorem dX11_forget_0 : decode cX11_forget 0 = .ok (.aload_n 0, 1) := by decide +kernel
theorem dX11_forget_1 : decode cX11_forget 1 = .ok (.iconst 0, 1) := by decide +kernel
theorem dX11_forget_2 : decode cX11_forget 2 = .ok (.putfield 3, 3) := by decide +kernel
theorem dX11_forget_5 : decode cX11_forget 5 = .ok (.aload_n 0, 1) := by decide +kernel
theorem dX11_forget_6 : decode cX11_forget 6 = .ok (.getfield 351, 3) := by decide +kernel
theorem dX11_forget_9 : decode cX11_forget 9 = .ok (.ifCond .ne 5, 3) := by decide +kernel
theorem dX11_forget_12 : decode cX11_forget 12 = .ok (.iconst (-1), 1) := by decide +kernel
theorem dX11_forget_13 : decode cX11_forget 13 = .ok (.ireturn, 1) := by decide +kernel
theorem dX11_forget_14 : decode cX11_forget 14 = .ok (.aload_n 0, 1) := by decide +kernel
theorem dX11_forget_15 : decode cX11_forget 15 = .ok (.dup, 1) := by decide +kernel
theorem dX11_forget_16 : decode cX11_forget 16 = .ok (.getfield 351, 3) := by decide +kernel
theorem dX11_forget_19 : decode cX11_forget 19 = .ok (.iconst 1, 1) := by decide +kernel
theorem dX11_forget_20 : decode cX11_forget 20 = .ok (.isub, 1) := by decide +kernel
theorem dX11_forget_21 : decode cX11_forget 21 = .ok (.putfield 351, 3) := by decide +kernel
theorem dX11_forget_24 : decode cX11_forget 24 = .ok (.aload_n 0, 1) := by decide +kernel
theorem dX11_forget_25 : decode cX11_forget 25 = .ok (.getfield 351, 3) := by decide +kernel
theorem dX11_forget_28 : decode cX11_forget 28 = .ok (.ireturn, 1) := by decide +kernel
theorem dX11_isSo_0 : decode cX11_isSo 0 = .ok (.iconst 0, 1) := by decide +kernel
theorem dX11_isSo_1 : decode cX11_isSo 1 = .ok (.istore_n 1, 1) := by decide +kernel
theorem dX11_isSo_2 : decode cX11_isSo 2 = .ok (.iconst 0, 1) := by decide +kernel
theorem dX11_isSo_3 : decode cX11_isSo 3 = .ok (.istore_n 2, 1) := by decide +kernel
theorem dX11_isSo_4 : decode cX11_isSo 4 = .ok (.iload_n 2, 1) := by decide +kernel
theorem dX11_isSo_5 : decode cX11_isSo 5 = .ok (.aload_n 0, 1) := by decide +kernel
theorem dX11_isSo_6 : decode cX11_isSo 6 = .ok (.getfield 351, 3) := by decide +kernel
theorem dX11_isSo_9 : decode cX11_isSo 9 = .ok (.if_icmp .ge 20, 3) := by decide +kernel
theorem dX11_isSo_12 : decode cX11_isSo 12 = .ok (.iload_n 1, 1) := by decide +kernel
theorem dX11_isSo_13 : decode cX11_isSo 13 = .ok (.aload_n 0, 1) := by decide +kernel
theorem dX11_isSo_14 : decode cX11_isSo 14 = .ok (.getfield 354, 3) := by decide +kernel
theorem dX11_isSo_17 : decode cX11_isSo 17 = .ok (.iload_n 2, 1) := by decide +kernel
theorem dX11_isSo_18 : decode cX11_isSo 18 = .ok (.iaload, 1) := by decide +kernel
theorem dX11_isSo_19 : decode cX11_isSo 19 = .ok (.invokestatic 140, 3) := by decide +kernel
theorem dX11_isSo_22 : decode cX11_isSo 22 = .ok (.istore_n 1, 1) := by decide +kernel
theorem dX11_isSo_23 : decode cX11_isSo 23 = .ok (.iinc 2 1, 3) := by decide +kernel
theorem dX11_isSo_26 : decode cX11_isSo 26 = .ok (.goto (-22), 3) := by decide +kernel
theorem dX11_isSo_29 : decode cX11_isSo 29 = .ok (.iconst 1, 1) := by decide +kernel
theorem dX11_isSo_30 : decode cX11_isSo 30 = .ok (.istore_n 2, 1) := by decide +kernel
theorem dX11_isSo_31 : decode cX11_isSo 31 = .ok (.iload_n 2, 1) := by decide +kernel
theorem dX11_isSo_32 : decode cX11_isSo 32 = .ok (.iload_n 1, 1) := by decide +kernel
theorem dX11_isSo_33 : decode cX11_isSo 33 = .ok (.if_icmp .gt 64, 3) := by decide +kernel
theorem dX11_isSo_36 : decode cX11_isSo 36 = .ok (.aload_n 0, 1) := by decide +kernel
theorem dX11_isSo_37 : decode cX11_isSo 37 = .ok (.aload_n 0, 1) := by decide +kernel
theorem dX11_isSo_38 : decode cX11_isSo 38 = .ok (.getfield 321, 3) := by decide +kernel
theorem dX11_isSo_41 : decode cX11_isSo 41 = .ok (.iconst 0, 1) := by decide +kernel
theorem dX11_isSo_42 : decode cX11_isSo 42 = .ok (.iconst 0, 1) := by decide +kernel
theorem dX11_isSo_43 : decode cX11_isSo 43 = .ok (.invokevirtual 213, 3) := by decide +kernel
theorem dX11_isSo_46 : decode cX11_isSo 46 = .ok (.iconst 0, 1) := by decide +kernel
theorem dX11_isSo_47 : decode cX11_isSo 47 = .ok (.istore_n 3, 1) := by decide +kernel
theorem dX11_isSo_48 : decode cX11_isSo 48 = .ok (.iload_n 3, 1) := by decide +kernel
theorem dX11_isSo_49 : decode cX11_isSo 49 = .ok (.aload_n 0, 1) := by decide +kernel
theorem dX11_isSo_50 : decode cX11_isSo 50 = .ok (.getfield 351, 3) := by decide +kernel
theorem dX11_isSo_53 : decode cX11_isSo 53 = .ok (.if_icmp .ge 38, 3) := by decide +kernel
theorem dX11_isSo_56 : decode cX11_isSo 56 = .ok (.aload_n 0, 1) := by decide +kernel
theorem dX11_isSo_57 : decode cX11_isSo 57 = .ok (.getfield 354, 3) := by decide +kernel
theorem dX11_isSo_60 : decode cX11_isSo 60 = .ok (.iload_n 3, 1) := by decide +kernel
theorem dX11_isSo_61 : decode cX11_isSo 61 = .ok (.iaload, 1) := by decide +kernel
theorem dX11_isSo_62 : decode cX11_isSo 62 = .ok (.iload_n 2, 1) := by decide +kernel
theorem dX11_isSo_63 : decode cX11_isSo 63 = .ok (.if_icmp .ne 22, 3) := by decide +kernel
theorem dX11_isSo_66 : decode cX11_isSo 66 = .ok (.aload_n 0, 1) := by decide +kernel
theorem dX11_isSo_67 : decode cX11_isSo 67 = .ok (.getfield 357, 3) := by decide +kernel
theorem dX11_isSo_70 : decode cX11_isSo 70 = .ok (.iload_n 3, 1) := by decide +kernel
theorem dX11_isSo_71 : decode cX11_isSo 71 = .ok (.iaload, 1) := by decide +kernel
theorem dX11_isSo_72 : decode cX11_isSo 72 = .ok (.aload_n 0, 1) := by decide +kernel
theorem dX11_isSo_73 : decode cX11_isSo 73 = .ok (.aload_n 0, 1) := by decide +kernel
theorem dX11_isSo_74 : decode cX11_isSo 74 = .ok (.getfield 321, 3) := by decide +kernel
theorem dX11_isSo_77 : decode cX11_isSo 77 = .ok (.invokevirtual 224, 3) := by decide +kernel
theorem dX11_isSo_80 : decode cX11_isSo 80 = .ok (.if_icmp .eq 5, 3) := by decide +kernel
theorem dX11_isSo_83 : decode cX11_isSo 83 = .ok (.iconst 0, 1) := by decide +kernel
theorem dX11_isSo_84 : decode cX11_isSo 84 = .ok (.ireturn, 1) := by decide +kernel
theorem dX11_isSo_85 : decode cX11_isSo 85 = .ok (.iinc 3 1, 3) := by decide +kernel
theorem dX11_isSo_88 : decode cX11_isSo 88 = .ok (.goto (-40), 3) := by decide +kernel
theorem dX11_isSo_91 : decode cX11_isSo 91 = .ok (.iinc 2 1, 3) := by decide +kernel
theorem dX11_isSo_94 : decode cX11_isSo 94 = .ok (.goto (-63), 3) := by decide +kernel
theorem dX11_isSo_97 : decode cX11_isSo 97 = .ok (.iconst 1, 1) := by decide +kernel
theorem dX11_isSo_98 : decode cX11_isSo 98 = .ok (.ireturn, 1) := by decide +kernel
theorem dX11_springs_0 : decode cX11_springs 0 = .ok (.aload_n 0, 1) := by decide +kernel
theorem dX11_springs_1 : decode cX11_springs 1 = .ok (.iconst 0, 1) := by decide +kernel
theorem dX11_springs_2 : decode cX11_springs 2 = .ok (.putfield 3, 3) := by decide +kernel
theorem dX11_springs_5 : decode cX11_springs 5 = .ok (.aload_n 0, 1) := by decide +kernel
theorem dX11_springs_6 : decode cX11_springs 6 = .ok (.iload_n 1, 1) := by decide +kernel
theorem dX11_springs_7 : decode cX11_springs 7 = .ok (.invokevirtual 21, 3) := by decide +kernel
theorem dX11_springs_10 : decode cX11_springs 10 = .ok (.ifCond .ne 5, 3) := by decide +kernel
theorem dX11_springs_13 : decode cX11_springs 13 = .ok (.iconst (-1), 1) := by decide +kernel
theorem dX11_springs_14 : decode cX11_springs 14 = .ok (.ireturn, 1) := by decide +kernel
theorem dX11_springs_15 : decode cX11_springs 15 = .ok (.aload_n 0, 1) := by decide +kernel
theorem dX11_springs_16 : decode cX11_springs 16 = .ok (.getfield 99, 3) := by decide +kernel
theorem dX11_springs_19 : decode cX11_springs 19 = .ok (.iload_n 1, 1) := by decide +kernel
theorem dX11_springs_20 : decode cX11_springs 20 = .ok (.iaload, 1) := by decide +kernel
theorem dX11_springs_21 : decode cX11_springs 21 = .ok (.istore_n 2, 1) := by decide +kernel
theorem dX11_springs_22 : decode cX11_springs 22 = .ok (.iconst 0, 1) := by decide +kernel
theorem dX11_springs_23 : decode cX11_springs 23 = .ok (.istore_n 3, 1) := by decide +kernel
theorem dX11_springs_24 : decode cX11_springs 24 = .ok (.iconst 0, 1) := by decide +kernel
theorem dX11_springs_25 : decode cX11_springs 25 = .ok (.istore 4, 2) := by decide +kernel
theorem dX11_springs_27 : decode cX11_springs 27 = .ok (.iload 4, 2) := by decide +kernel
theorem dX11_springs_29 : decode cX11_springs 29 = .ok (.bipush 9, 2) := by decide +kernel
theorem dX11_springs_31 : decode cX11_springs 31 = .ok (.if_icmp .gt 39, 3) := by decide +kernel
theorem dX11_springs_34 : decode cX11_springs 34 = .ok (.aload_n 0, 1) := by decide +kernel
theorem dX11_springs_35 : decode cX11_springs 35 = .ok (.getfield 99, 3) := by decide +kernel
theorem dX11_springs_38 : decode cX11_springs 38 = .ok (.iload_n 1, 1) := by decide +kernel
theorem dX11_springs_39 : decode cX11_springs 39 = .ok (.iload 4, 2) := by decide +kernel
theorem dX11_springs_41 : decode cX11_springs 41 = .ok (.iastore, 1) := by decide +kernel
theorem dX11_springs_42 : decode cX11_springs 42 = .ok (.aload_n 0, 1) := by decide +kernel
theorem dX11_springs_43 : decode cX11_springs 43 = .ok (.invokevirtual 324, 3) := by decide +kernel
theorem dX11_springs_46 : decode cX11_springs 46 = .ok (.iload_n 3, 1) := by decide +kernel
theorem dX11_springs_47 : decode cX11_springs 47 = .ok (.aload_n 0, 1) := by decide +kernel
theorem dX11_springs_48 : decode cX11_springs 48 = .ok (.invokevirtual 360, 3) := by decide +kernel
theorem dX11_springs_51 : decode cX11_springs 51 = .ok (.ifCond .eq 10, 3) := by decide +kernel
theorem dX11_springs_54 : decode cX11_springs 54 = .ok (.iconst 1, 1) := by decide +kernel
theorem dX11_springs_55 : decode cX11_springs 55 = .ok (.iload 4, 2) := by decide +kernel
theorem dX11_springs_57 : decode cX11_springs 57 = .ok (.ishl, 1) := by decide +kernel
theorem dX11_springs_58 : decode cX11_springs 58 = .ok (.goto 4, 3) := by decide +kernel
theorem dX11_springs_61 : decode cX11_springs 61 = .ok (.iconst 0, 1) := by decide +kernel
theorem dX11_springs_62 : decode cX11_springs 62 = .ok (.ior, 1) := by decide +kernel
theorem dX11_springs_63 : decode cX11_springs 63 = .ok (.istore_n 3, 1) := by decide +kernel
theorem dX11_springs_64 : decode cX11_springs 64 = .ok (.iinc 4 1, 3) := by decide +kernel
theorem dX11_springs_67 : decode cX11_springs 67 = .ok (.goto (-40), 3) := by decide +kernel
theorem dX11_springs_70 : decode cX11_springs 70 = .ok (.aload_n 0, 1) := by decide +kernel
theorem dX11_springs_71 : decode cX11_springs 71 = .ok (.getfield 99, 3) := by decide +kernel
theorem dX11_springs_74 : decode cX11_springs 74 = .ok (.iload_n 1, 1) := by decide +kernel
theorem dX11_springs_75 : decode cX11_springs 75 = .ok (.iload_n 2, 1) := by decide +kernel
theorem dX11_springs_76 : decode cX11_springs 76 = .ok (.iastore, 1) := by decide +kernel
theorem dX11_springs_77 : decode cX11_springs 77 = .ok (.iload_n 3, 1) := by decide +kernel
theorem dX11_springs_78 : decode cX11_springs 78 = .ok (.ireturn, 1) := by decide +kernel
theorem dX11_stones_0 : decode cX11_stones 0 = .ok (.aload_n 0, 1) := by decide +kernel
theorem dX11_stones_1 : decode cX11_stones 1 = .ok (.iconst 0, 1) := by decide +kernel
theorem dX11_stones_2 : decode cX11_stones 2 = .ok (.putfield 3, 3) := by decide +kernel
theorem dX11_stones_5 : decode cX11_stones 5 = .ok (.aload_n 0, 1) := by decide +kernel
theorem dX11_stones_6 : decode cX11_stones 6 = .ok (.iload_n 1, 1) := by decide +kernel
theorem dX11_stones_7 : decode cX11_stones 7 = .ok (.iload_n 2, 1) := by decide +kernel
theorem dX11_stones_8 : decode cX11_stones 8 = .ok (.invokevirtual 137, 3) := by decide +kernel
theorem dX11_stones_11 : decode cX11_stones 11 = .ok (.ifCond .ne 5, 3) := by decide +kernel
theorem dX11_stones_14 : decode cX11_stones 14 = .ok (.iconst (-1), 1) := by decide +kernel
theorem dX11_stones_15 : decode cX11_stones 15 = .ok (.ireturn, 1) := by decide +kernel
theorem dX11_stones_16 : decode cX11_stones 16 = .ok (.aload_n 0, 1) := by decide +kernel
theorem dX11_stones_17 : decode cX11_stones 17 = .ok (.getfield 80, 3) := by decide +kernel
theorem dX11_stones_20 : decode cX11_stones 20 = .ok (.iload_n 1, 1) := by decide +kernel
theorem dX11_stones_21 : decode cX11_stones 21 = .ok (.iaload, 1) := by decide +kernel
theorem dX11_stones_22 : decode cX11_stones 22 = .ok (.iload_n 2, 1) := by decide +kernel
theorem dX11_stones_23 : decode cX11_stones 23 = .ok (.invokestatic 108, 3) := by decide +kernel
theorem dX11_stones_26 : decode cX11_stones 26 = .ok (.ifCond .ne 6, 3) := by decide +kernel
theorem dX11_stones_29 : decode cX11_stones 29 = .ok (.bipush (-2), 2) := by decide +kernel
theorem dX11_stones_31 : decode cX11_stones 31 = .ok (.ireturn, 1) := by decide +kernel
theorem dX11_stones_32 : decode cX11_stones 32 = .ok (.aload_n 0, 1) := by decide +kernel
theorem dX11_stones_33 : decode cX11_stones 33 = .ok (.getfield 77, 3) := by decide +kernel
theorem dX11_stones_36 : decode cX11_stones 36 = .ok (.bipush 9, 2) := by decide +kernel
theorem dX11_stones_38 : decode cX11_stones 38 = .ok (.iload_n 1, 1) := by decide +kernel
theorem dX11_stones_39 : decode cX11_stones 39 = .ok (.imul, 1) := by decide +kernel
theorem dX11_stones_40 : decode cX11_stones 40 = .ok (.iload_n 2, 1) := by decide +kernel
theorem dX11_stones_41 : decode cX11_stones 41 = .ok (.iadd, 1) := by decide +kernel
theorem dX11_stones_42 : decode cX11_stones 42 = .ok (.iaload, 1) := by decide +kernel
theorem dX11_stones_43 : decode cX11_stones 43 = .ok (.istore_n 3, 1) := by decide +kernel
theorem dX11_stones_44 : decode cX11_stones 44 = .ok (.iconst 0, 1) := by decide +kernel
theorem dX11_stones_45 : decode cX11_stones 45 = .ok (.istore 4, 2) := by decide +kernel
theorem dX11_stones_47 : decode cX11_stones 47 = .ok (.iconst 0, 1) := by decide +kernel
theorem dX11_stones_48 : decode cX11_stones 48 = .ok (.istore 5, 2) := by decide +kernel
theorem dX11_stones_50 : decode cX11_stones 50 = .ok (.iload 5, 2) := by decide +kernel
theorem dX11_stones_52 : decode cX11_stones 52 = .ok (.bipush 9, 2) := by decide +kernel
theorem dX11_stones_54 : decode cX11_stones 54 = .ok (.if_icmp .gt 41, 3) := by decide +kernel
theorem dX11_stones_57 : decode cX11_stones 57 = .ok (.aload_n 0, 1) := by decide +kernel
theorem dX11_stones_58 : decode cX11_stones 58 = .ok (.iload_n 1, 1) := by decide +kernel
theorem dX11_stones_59 : decode cX11_stones 59 = .ok (.iload_n 2, 1) := by decide +kernel
theorem dX11_stones_60 : decode cX11_stones 60 = .ok (.iload 5, 2) := by decide +kernel
theorem dX11_stones_62 : decode cX11_stones 62 = .ok (.invokevirtual 147, 3) := by decide +kernel
theorem dX11_stones_65 : decode cX11_stones 65 = .ok (.aload_n 0, 1) := by decide +kernel
theorem dX11_stones_66 : decode cX11_stones 66 = .ok (.invokevirtual 324, 3) := by decide +kernel
theorem dX11_stones_69 : decode cX11_stones 69 = .ok (.iload 4, 2) := by decide +kernel
theorem dX11_stones_71 : decode cX11_stones 71 = .ok (.aload_n 0, 1) := by decide +kernel
theorem dX11_stones_72 : decode cX11_stones 72 = .ok (.invokevirtual 360, 3) := by decide +kernel
theorem dX11_stones_75 : decode cX11_stones 75 = .ok (.ifCond .eq 10, 3) := by decide +kernel
theorem dX11_stones_78 : decode cX11_stones 78 = .ok (.iconst 1, 1) := by decide +kernel
theorem dX11_stones_79 : decode cX11_stones 79 = .ok (.iload 5, 2) := by decide +kernel
theorem dX11_stones_81 : decode cX11_stones 81 = .ok (.ishl, 1) := by decide +kernel
theorem dX11_stones_82 : decode cX11_stones 82 = .ok (.goto 4, 3) := by decide +kernel
theorem dX11_stones_85 : decode cX11_stones 85 = .ok (.iconst 0, 1) := by decide +kernel
theorem dX11_stones_86 : decode cX11_stones 86 = .ok (.ior, 1) := by decide +kernel
theorem dX11_stones_87 : decode cX11_stones 87 = .ok (.istore 4, 2) := by decide +kernel
theorem dX11_stones_89 : decode cX11_stones 89 = .ok (.iinc 5 1, 3) := by decide +kernel
theorem dX11_stones_92 : decode cX11_stones 92 = .ok (.goto (-42), 3) := by decide +kernel
theorem dX11_stones_95 : decode cX11_stones 95 = .ok (.aload_n 0, 1) := by decide +kernel
theorem dX11_stones_96 : decode cX11_stones 96 = .ok (.iload_n 1, 1) := by decide +kernel
theorem dX11_stones_97 : decode cX11_stones 97 = .ok (.iload_n 2, 1) := by decide +kernel
theorem dX11_stones_98 : decode cX11_stones 98 = .ok (.iload_n 3, 1) := by decide +kernel
theorem dX11_stones_99 : decode cX11_stones 99 = .ok (.invokevirtual 147, 3) := by decide +kernel
theorem dX11_stones_102 : decode cX11_stones 102 = .ok (.iload 4, 2) := by decide +kernel
theorem dX11_stones_104 : decode cX11_stones 104 = .ok (.ireturn, 1) := by decide +kernel
theorem dX11_nights_0 : decode cX11_nights 0 = .ok (.aload_n 0, 1) := by decide +kernel
theorem dX11_nights_1 : decode cX11_nights 1 = .ok (.iconst 0, 1) := by decide +kernel
theorem dX11_nights_2 : decode cX11_nights 2 = .ok (.putfield 3, 3) := by decide +kernel
theorem dX11_nights_5 : decode cX11_nights 5 = .ok (.iconst 0, 1) := by decide +kernel
theorem dX11_nights_6 : decode cX11_nights 6 = .ok (.istore_n 1, 1) := by decide +kernel
theorem dX11_nights_7 : decode cX11_nights 7 = .ok (.aload_n 0, 1) := by decide +kernel
theorem dX11_nights_8 : decode cX11_nights 8 = .ok (.iconst 0, 1) := by decide +kernel
theorem dX11_nights_9 : decode cX11_nights 9 = .ok (.putfield 11, 3) := by decide +kernel
theorem dX11_nights_12 : decode cX11_nights 12 = .ok (.iconst 0, 1) := by decide +kernel
theorem dX11_nights_13 : decode cX11_nights 13 = .ok (.istore_n 2, 1) := by decide +kernel
theorem dX11_nights_14 : decode cX11_nights 14 = .ok (.iload_n 2, 1) := by decide +kernel
theorem dX11_nights_15 : decode cX11_nights 15 = .ok (.aload_n 0, 1) := by decide +kernel
theorem dX11_nights_16 : decode cX11_nights 16 = .ok (.getfield 14, 3) := by decide +kernel
theorem dX11_nights_19 : decode cX11_nights 19 = .ok (.if_icmp .ge 84, 3) := by decide +kernel
theorem dX11_nights_22 : decode cX11_nights 22 = .ok (.iconst 0, 1) := by decide +kernel
theorem dX11_nights_23 : decode cX11_nights 23 = .ok (.istore_n 3, 1) := by decide +kernel
theorem dX11_nights_24 : decode cX11_nights 24 = .ok (.iload_n 3, 1) := by decide +kernel
theorem dX11_nights_25 : decode cX11_nights 25 = .ok (.aload_n 0, 1) := by decide +kernel
theorem dX11_nights_26 : decode cX11_nights 26 = .ok (.getfield 14, 3) := by decide +kernel
theorem dX11_nights_29 : decode cX11_nights 29 = .ok (.if_icmp .ge 68, 3) := by decide +kernel
theorem dX11_nights_32 : decode cX11_nights 32 = .ok (.iload_n 2, 1) := by decide +kernel
theorem dX11_nights_33 : decode cX11_nights 33 = .ok (.iload_n 3, 1) := by decide +kernel
theorem dX11_nights_34 : decode cX11_nights 34 = .ok (.if_icmp .eq 57, 3) := by decide +kernel
theorem dX11_nights_37 : decode cX11_nights 37 = .ok (.aload_n 0, 1) := by decide +kernel
theorem dX11_nights_38 : decode cX11_nights 38 = .ok (.aload_n 0, 1) := by decide +kernel
theorem dX11_nights_39 : decode cX11_nights 39 = .ok (.getfield 96, 3) := by decide +kernel
theorem dX11_nights_42 : decode cX11_nights 42 = .ok (.iload_n 2, 1) := by decide +kernel
theorem dX11_nights_43 : decode cX11_nights 43 = .ok (.iload_n 3, 1) := by decide +kernel
theorem dX11_nights_44 : decode cX11_nights 44 = .ok (.invokevirtual 167, 3) := by decide +kernel
theorem dX11_nights_47 : decode cX11_nights 47 = .ok (.ifCond .ne 6, 3) := by decide +kernel
theorem dX11_nights_50 : decode cX11_nights 50 = .ok (.goto 41, 3) := by decide +kernel
theorem dX11_nights_53 : decode cX11_nights 53 = .ok (.aload_n 0, 1) := by decide +kernel
theorem dX11_nights_54 : decode cX11_nights 54 = .ok (.invokevirtual 324, 3) := by decide +kernel
theorem dX11_nights_57 : decode cX11_nights 57 = .ok (.aload_n 0, 1) := by decide +kernel
theorem dX11_nights_58 : decode cX11_nights 58 = .ok (.aload_n 0, 1) := by decide +kernel
theorem dX11_nights_59 : decode cX11_nights 59 = .ok (.getfield 321, 3) := by decide +kernel
theorem dX11_nights_62 : decode cX11_nights 62 = .ok (.iload_n 2, 1) := by decide +kernel
theorem dX11_nights_63 : decode cX11_nights 63 = .ok (.iload_n 3, 1) := by decide +kernel
theorem dX11_nights_64 : decode cX11_nights 64 = .ok (.invokevirtual 174, 3) := by decide +kernel
theorem dX11_nights_67 : decode cX11_nights 67 = .ok (.aload_n 0, 1) := by decide +kernel
theorem dX11_nights_68 : decode cX11_nights 68 = .ok (.invokevirtual 360, 3) := by decide +kernel
theorem dX11_nights_71 : decode cX11_nights 71 = .ok (.ifCond .eq 20, 3) := by decide +kernel
theorem dX11_nights_74 : decode cX11_nights 74 = .ok (.iload_n 1, 1) := by decide +kernel
theorem dX11_nights_75 : decode cX11_nights 75 = .ok (.ifCond .ne 13, 3) := by decide +kernel
theorem dX11_nights_78 : decode cX11_nights 78 = .ok (.aload_n 0, 1) := by decide +kernel
theorem dX11_nights_79 : decode cX11_nights 79 = .ok (.bipush 10, 2) := by decide +kernel
theorem dX11_nights_81 : decode cX11_nights 81 = .ok (.iload_n 2, 1) := by decide +kernel
theorem dX11_nights_82 : decode cX11_nights 82 = .ok (.imul, 1) := by decide +kernel
theorem dX11_nights_83 : decode cX11_nights 83 = .ok (.iload_n 3, 1) := by decide +kernel
theorem dX11_nights_84 : decode cX11_nights 84 = .ok (.iadd, 1) := by decide +kernel
theorem dX11_nights_85 : decode cX11_nights 85 = .ok (.invokevirtual 200, 3) := by decide +kernel
theorem dX11_nights_88 : decode cX11_nights 88 = .ok (.iinc 1 1, 3) := by decide +kernel
theorem dX11_nights_91 : decode cX11_nights 91 = .ok (.iinc 3 1, 3) := by decide +kernel
theorem dX11_nights_94 : decode cX11_nights 94 = .ok (.goto (-70), 3) := by decide +kernel
theorem dX11_nights_97 : decode cX11_nights 97 = .ok (.iinc 2 1, 3) := by decide +kernel
theorem dX11_nights_100 : decode cX11_nights 100 = .ok (.goto (-86), 3) := by decide +kernel
theorem dX11_nights_103 : decode cX11_nights 103 = .ok (.aload_n 0, 1) := by decide +kernel
theorem dX11_nights_104 : decode cX11_nights 104 = .ok (.invokevirtual 324, 3) := by decide +kernel
theorem dX11_nights_107 : decode cX11_nights 107 = .ok (.aload_n 0, 1) := by decide +kernel
theorem dX11_nights_108 : decode cX11_nights 108 = .ok (.aload_n 0, 1) := by decide +kernel
theorem dX11_nights_109 : decode cX11_nights 109 = .ok (.invokevirtual 360, 3) := by decide +kernel
theorem dX11_nights_112 : decode cX11_nights 112 = .ok (.invokestatic 43, 3) := by decide +kernel
theorem dX11_nights_115 : decode cX11_nights 115 = .ok (.invokevirtual 200, 3) := by decide +kernel
theorem dX11_nights_118 : decode cX11_nights 118 = .ok (.iload_n 1, 1) := by decide +kernel
theorem dX11_nights_119 : decode cX11_nights 119 = .ok (.ireturn, 1) := by decide +kernel
theorem dX11_sunday_0 : decode cX11_sunday 0 = .ok (.aload_n 0, 1) := by decide +kernel
theorem dX11_sunday_1 : decode cX11_sunday 1 = .ok (.iconst 0, 1) := by decide +kernel
theorem dX11_sunday_2 : decode cX11_sunday 2 = .ok (.putfield 3, 3) := by decide +kernel
theorem dX11_sunday_5 : decode cX11_sunday 5 = .ok (.aload_n 0, 1) := by decide +kernel
theorem dX11_sunday_6 : decode cX11_sunday 6 = .ok (.getfield 14, 3) := by decide +kernel
theorem dX11_sunday_9 : decode cX11_sunday 9 = .ok (.ifCond .ne 6, 3) := by decide +kernel
theorem dX11_sunday_12 : decode cX11_sunday 12 = .ok (.bipush (-2), 2) := by decide +kernel
theorem dX11_sunday_14 : decode cX11_sunday 14 = .ok (.ireturn, 1) := by decide +kernel
theorem dX11_sunday_15 : decode cX11_sunday 15 = .ok (.iconst 0, 1) := by decide +kernel
theorem dX11_sunday_16 : decode cX11_sunday 16 = .ok (.istore_n 1, 1) := by decide +kernel
theorem dX11_sunday_17 : decode cX11_sunday 17 = .ok (.iload_n 1, 1) := by decide +kernel
theorem dX11_sunday_18 : decode cX11_sunday 18 = .ok (.sipush 777, 3) := by decide +kernel
theorem dX11_sunday_21 : decode cX11_sunday 21 = .ok (.if_icmp .ge 16, 3) := by decide +kernel
theorem dX11_sunday_24 : decode cX11_sunday 24 = .ok (.aload_n 0, 1) := by decide +kernel
theorem dX11_sunday_25 : decode cX11_sunday 25 = .ok (.getfield 363, 3) := by decide +kernel
theorem dX11_sunday_28 : decode cX11_sunday 28 = .ok (.iload_n 1, 1) := by decide +kernel
theorem dX11_sunday_29 : decode cX11_sunday 29 = .ok (.iconst 0, 1) := by decide +kernel
theorem dX11_sunday_30 : decode cX11_sunday 30 = .ok (.iastore, 1) := by decide +kernel
theorem dX11_sunday_31 : decode cX11_sunday 31 = .ok (.iinc 1 1, 3) := by decide +kernel
theorem dX11_sunday_34 : decode cX11_sunday 34 = .ok (.goto (-17), 3) := by decide +kernel
theorem dX11_sunday_37 : decode cX11_sunday 37 = .ok (.iconst (-1), 1) := by decide +kernel
theorem dX11_sunday_38 : decode cX11_sunday 38 = .ok (.istore_n 1, 1) := by decide +kernel
theorem dX11_sunday_39 : decode cX11_sunday 39 = .ok (.iload_n 1, 1) := by decide +kernel
theorem dX11_sunday_40 : decode cX11_sunday 40 = .ok (.aload_n 0, 1) := by decide +kernel
theorem dX11_sunday_41 : decode cX11_sunday 41 = .ok (.getfield 14, 3) := by decide +kernel
theorem dX11_sunday_44 : decode cX11_sunday 44 = .ok (.if_icmp .ge 127, 3) := by decide +kernel
theorem dX11_sunday_47 : decode cX11_sunday 47 = .ok (.iload_n 1, 1) := by decide +kernel
theorem dX11_sunday_48 : decode cX11_sunday 48 = .ok (.ifCond .lt 17, 3) := by decide +kernel
theorem dX11_sunday_51 : decode cX11_sunday 51 = .ok (.aload_n 0, 1) := by decide +kernel
theorem dX11_sunday_52 : decode cX11_sunday 52 = .ok (.getfield 99, 3) := by decide +kernel
theorem dX11_sunday_55 : decode cX11_sunday 55 = .ok (.iload_n 1, 1) := by decide +kernel
theorem dX11_sunday_56 : decode cX11_sunday 56 = .ok (.iaload, 1) := by decide +kernel
theorem dX11_sunday_57 : decode cX11_sunday 57 = .ok (.bipush 9, 2) := by decide +kernel
theorem dX11_sunday_59 : decode cX11_sunday 59 = .ok (.if_icmp .ne 6, 3) := by decide +kernel
theorem dX11_sunday_62 : decode cX11_sunday 62 = .ok (.goto 103, 3) := by decide +kernel
theorem dX11_sunday_65 : decode cX11_sunday 65 = .ok (.aload_n 0, 1) := by decide +kernel
theorem dX11_sunday_66 : decode cX11_sunday 66 = .ok (.getfield 99, 3) := by decide +kernel
theorem dX11_sunday_69 : decode cX11_sunday 69 = .ok (.iconst 0, 1) := by decide +kernel
theorem dX11_sunday_70 : decode cX11_sunday 70 = .ok (.iload_n 1, 1) := by decide +kernel
theorem dX11_sunday_71 : decode cX11_sunday 71 = .ok (.invokestatic 140, 3) := by decide +kernel
theorem dX11_sunday_74 : decode cX11_sunday 74 = .ok (.dup2, 1) := by decide +kernel
theorem dX11_sunday_75 : decode cX11_sunday 75 = .ok (.iaload, 1) := by decide +kernel
theorem dX11_sunday_76 : decode cX11_sunday 76 = .ok (.iload_n 1, 1) := by decide +kernel
theorem dX11_sunday_77 : decode cX11_sunday 77 = .ok (.ifCond .lt 7, 3) := by decide +kernel
theorem dX11_sunday_80 : decode cX11_sunday 80 = .ok (.iconst 1, 1) := by decide +kernel
theorem dX11_sunday_81 : decode cX11_sunday 81 = .ok (.goto 4, 3) := by decide +kernel
theorem dX11_sunday_84 : decode cX11_sunday 84 = .ok (.iconst 0, 1) := by decide +kernel
theorem dX11_sunday_85 : decode cX11_sunday 85 = .ok (.invokestatic 43, 3) := by decide +kernel
theorem dX11_sunday_88 : decode cX11_sunday 88 = .ok (.iadd, 1) := by decide +kernel
theorem dX11_sunday_89 : decode cX11_sunday 89 = .ok (.iastore, 1) := by decide +kernel
theorem dX11_sunday_90 : decode cX11_sunday 90 = .ok (.aload_n 0, 1) := by decide +kernel
theorem dX11_sunday_91 : decode cX11_sunday 91 = .ok (.invokevirtual 324, 3) := by decide +kernel
theorem dX11_sunday_94 : decode cX11_sunday 94 = .ok (.iconst 1, 1) := by decide +kernel
theorem dX11_sunday_95 : decode cX11_sunday 95 = .ok (.istore_n 2, 1) := by decide +kernel
theorem dX11_sunday_96 : decode cX11_sunday 96 = .ok (.iload_n 2, 1) := by decide +kernel
theorem dX11_sunday_97 : decode cX11_sunday 97 = .ok (.bipush 20, 2) := by decide +kernel
theorem dX11_sunday_99 : decode cX11_sunday 99 = .ok (.if_icmp .gt 41, 3) := by decide +kernel
theorem dX11_sunday_102 : decode cX11_sunday 102 = .ok (.aload_n 0, 1) := by decide +kernel
theorem dX11_sunday_103 : decode cX11_sunday 103 = .ok (.aload_n 0, 1) := by decide +kernel
theorem dX11_sunday_104 : decode cX11_sunday 104 = .ok (.getfield 321, 3) := by decide +kernel
theorem dX11_sunday_107 : decode cX11_sunday 107 = .ok (.iconst 0, 1) := by decide +kernel
theorem dX11_sunday_108 : decode cX11_sunday 108 = .ok (.iconst 0, 1) := by decide +kernel
theorem dX11_sunday_109 : decode cX11_sunday 109 = .ok (.invokevirtual 213, 3) := by decide +kernel
theorem dX11_sunday_112 : decode cX11_sunday 112 = .ok (.aload_n 0, 1) := by decide +kernel
theorem dX11_sunday_113 : decode cX11_sunday 113 = .ok (.getfield 363, 3) := by decide +kernel
theorem dX11_sunday_116 : decode cX11_sunday 116 = .ok (.bipush 37, 2) := by decide +kernel
theorem dX11_sunday_118 : decode cX11_sunday 118 = .ok (.iload_n 2, 1) := by decide +kernel
theorem dX11_sunday_119 : decode cX11_sunday 119 = .ok (.imul, 1) := by decide +kernel
theorem dX11_sunday_120 : decode cX11_sunday 120 = .ok (.aload_n 0, 1) := by decide +kernel
theorem dX11_sunday_121 : decode cX11_sunday 121 = .ok (.aload_n 0, 1) := by decide +kernel
theorem dX11_sunday_122 : decode cX11_sunday 122 = .ok (.getfield 321, 3) := by decide +kernel
theorem dX11_sunday_125 : decode cX11_sunday 125 = .ok (.invokevirtual 224, 3) := by decide +kernel
theorem dX11_sunday_128 : decode cX11_sunday 128 = .ok (.iadd, 1) := by decide +kernel
theorem dX11_sunday_129 : decode cX11_sunday 129 = .ok (.dup2, 1) := by decide +kernel
theorem dX11_sunday_130 : decode cX11_sunday 130 = .ok (.iaload, 1) := by decide +kernel
theorem dX11_sunday_131 : decode cX11_sunday 131 = .ok (.iconst 1, 1) := by decide +kernel
theorem dX11_sunday_132 : decode cX11_sunday 132 = .ok (.iadd, 1) := by decide +kernel
theorem dX11_sunday_133 : decode cX11_sunday 133 = .ok (.iastore, 1) := by decide +kernel
theorem dX11_sunday_134 : decode cX11_sunday 134 = .ok (.iinc 2 1, 3) := by decide +kernel
theorem dX11_sunday_137 : decode cX11_sunday 137 = .ok (.goto (-41), 3) := by decide +kernel
theorem dX11_sunday_140 : decode cX11_sunday 140 = .ok (.aload_n 0, 1) := by decide +kernel
theorem dX11_sunday_141 : decode cX11_sunday 141 = .ok (.getfield 99, 3) := by decide +kernel
theorem dX11_sunday_144 : decode cX11_sunday 144 = .ok (.iconst 0, 1) := by decide +kernel
theorem dX11_sunday_145 : decode cX11_sunday 145 = .ok (.iload_n 1, 1) := by decide +kernel
theorem dX11_sunday_146 : decode cX11_sunday 146 = .ok (.invokestatic 140, 3) := by decide +kernel
theorem dX11_sunday_149 : decode cX11_sunday 149 = .ok (.dup2, 1) := by decide +kernel
theorem dX11_sunday_150 : decode cX11_sunday 150 = .ok (.iaload, 1) := by decide +kernel
theorem dX11_sunday_151 : decode cX11_sunday 151 = .ok (.iload_n 1, 1) := by decide +kernel
theorem dX11_sunday_152 : decode cX11_sunday 152 = .ok (.ifCond .lt 7, 3) := by decide +kernel
theorem dX11_sunday_155 : decode cX11_sunday 155 = .ok (.iconst 1, 1) := by decide +kernel
theorem dX11_sunday_156 : decode cX11_sunday 156 = .ok (.goto 4, 3) := by decide +kernel
theorem dX11_sunday_159 : decode cX11_sunday 159 = .ok (.iconst 0, 1) := by decide +kernel
theorem dX11_sunday_160 : decode cX11_sunday 160 = .ok (.invokestatic 43, 3) := by decide +kernel
theorem dX11_sunday_163 : decode cX11_sunday 163 = .ok (.isub, 1) := by decide +kernel
theorem dX11_sunday_164 : decode cX11_sunday 164 = .ok (.iastore, 1) := by decide +kernel
theorem dX11_sunday_165 : decode cX11_sunday 165 = .ok (.iinc 1 1, 3) := by decide +kernel
theorem dX11_sunday_168 : decode cX11_sunday 168 = .ok (.goto (-129), 3) := by decide +kernel
theorem dX11_sunday_171 : decode cX11_sunday 171 = .ok (.iconst 0, 1) := by decide +kernel
theorem dX11_sunday_172 : decode cX11_sunday 172 = .ok (.istore_n 1, 1) := by decide +kernel
theorem dX11_sunday_173 : decode cX11_sunday 173 = .ok (.ldc_w 296, 3) := by decide +kernel
theorem dX11_sunday_176 : decode cX11_sunday 176 = .ok (.istore_n 2, 1) := by decide +kernel
theorem dX11_sunday_177 : decode cX11_sunday 177 = .ok (.iconst 1, 1) := by decide +kernel
theorem dX11_sunday_178 : decode cX11_sunday 178 = .ok (.istore_n 3, 1) := by decide +kernel
theorem dX11_sunday_179 : decode cX11_sunday 179 = .ok (.iload_n 3, 1) := by decide +kernel
theorem dX11_sunday_180 : decode cX11_sunday 180 = .ok (.bipush 20, 2) := by decide +kernel
theorem dX11_sunday_182 : decode cX11_sunday 182 = .ok (.if_icmp .gt 66, 3) := by decide +kernel
theorem dX11_sunday_185 : decode cX11_sunday 185 = .ok (.iconst 0, 1) := by decide +kernel
theorem dX11_sunday_186 : decode cX11_sunday 186 = .ok (.istore 4, 2) := by decide +kernel
theorem dX11_sunday_188 : decode cX11_sunday 188 = .ok (.iconst 0, 1) := by decide +kernel
theorem dX11_sunday_189 : decode cX11_sunday 189 = .ok (.istore 5, 2) := by decide +kernel
theorem dX11_sunday_191 : decode cX11_sunday 191 = .ok (.iload 5, 2) := by decide +kernel
theorem dX11_sunday_193 : decode cX11_sunday 193 = .ok (.bipush 37, 2) := by decide +kernel
theorem dX11_sunday_195 : decode cX11_sunday 195 = .ok (.if_icmp .ge 28, 3) := by decide +kernel
theorem dX11_sunday_198 : decode cX11_sunday 198 = .ok (.iload 4, 2) := by decide +kernel
theorem dX11_sunday_200 : decode cX11_sunday 200 = .ok (.aload_n 0, 1) := by decide +kernel
theorem dX11_sunday_201 : decode cX11_sunday 201 = .ok (.getfield 363, 3) := by decide +kernel
theorem dX11_sunday_204 : decode cX11_sunday 204 = .ok (.bipush 37, 2) := by decide +kernel
theorem dX11_sunday_206 : decode cX11_sunday 206 = .ok (.iload_n 3, 1) := by decide +kernel
