theorem dX11_putsBy_1 : decode cX11_putsBy 1 = .ok (.aload_n 0, 1) := by decide +kernel
theorem dX11_putsBy_2 : decode cX11_putsBy 2 = .ok (.getfield 105, 3) := by decide +kernel
theorem dX11_putsBy_5 : decode cX11_putsBy 5 = .ok (.invokevirtual 163, 3) := by decide +kernel
theorem dX11_putsBy_8 : decode cX11_putsBy 8 = .ok (.return_, 1) := by decide +kernel
theorem dX11_adds_0 : decode cX11_adds 0 = .ok (.aload_n 0, 1) := by decide +kernel
theorem dX11_adds_1 : decode cX11_adds 1 = .ok (.dup, 1) := by decide +kernel
theorem dX11_adds_2 : decode cX11_adds 2 = .ok (.getfield 105, 3) := by decide +kernel
theorem dX11_adds_5 : decode cX11_adds 5 = .ok (.iconst 1, 1) := by decide +kernel
theorem dX11_adds_6 : decode cX11_adds 6 = .ok (.iadd, 1) := by decide +kernel
theorem dX11_adds_7 : decode cX11_adds 7 = .ok (.putfield 105, 3) := by decide +kernel
theorem dX11_adds_10 : decode cX11_adds 10 = .ok (.aload_n 0, 1) := by decide +kernel
theorem dX11_adds_11 : decode cX11_adds 11 = .ok (.getfield 105, 3) := by decide +kernel
theorem dX11_adds_14 : decode cX11_adds 14 = .ok (.bipush 20, 2) := by decide +kernel
theorem dX11_adds_16 : decode cX11_adds 16 = .ok (.if_icmp .le 43, 3) := by decide +kernel
theorem dX11_adds_19 : decode cX11_adds 19 = .ok (.iconst 0, 1) := by decide +kernel
theorem dX11_adds_20 : decode cX11_adds 20 = .ok (.istore_n 1, 1) := by decide +kernel
theorem dX11_adds_21 : decode cX11_adds 21 = .ok (.iload_n 1, 1) := by decide +kernel
theorem dX11_adds_22 : decode cX11_adds 22 = .ok (.sipush 380, 3) := by decide +kernel
theorem dX11_adds_25 : decode cX11_adds 25 = .ok (.if_icmp .ge 24, 3) := by decide +kernel
theorem dX11_adds_28 : decode cX11_adds 28 = .ok (.aload_n 0, 1) := by decide +kernel
theorem dX11_adds_29 : decode cX11_adds 29 = .ok (.getfield 157, 3) := by decide +kernel
theorem dX11_adds_32 : decode cX11_adds 32 = .ok (.iload_n 1, 1) := by decide +kernel
theorem dX11_adds_33 : decode cX11_adds 33 = .ok (.aload_n 0, 1) := by decide +kernel
theorem dX11_adds_34 : decode cX11_adds 34 = .ok (.getfield 157, 3) := by decide +kernel
theorem dX11_adds_37 : decode cX11_adds 37 = .ok (.iload_n 1, 1) := by decide +kernel
theorem dX11_adds_38 : decode cX11_adds 38 = .ok (.bipush 19, 2) := by decide +kernel
theorem dX11_adds_40 : decode cX11_adds 40 = .ok (.iadd, 1) := by decide +kernel
theorem dX11_adds_41 : decode cX11_adds 41 = .ok (.iaload, 1) := by decide +kernel
theorem dX11_adds_42 : decode cX11_adds 42 = .ok (.iastore, 1) := by decide +kernel
theorem dX11_adds_43 : decode cX11_adds 43 = .ok (.iinc 1 1, 3) := by decide +kernel
theorem dX11_adds_46 : decode cX11_adds 46 = .ok (.goto (-25), 3) := by decide +kernel
theorem dX11_adds_49 : decode cX11_adds 49 = .ok (.aload_n 0, 1) := by decide +kernel
theorem dX11_adds_50 : decode cX11_adds 50 = .ok (.dup, 1) := by decide +kernel
theorem dX11_adds_51 : decode cX11_adds 51 = .ok (.getfield 105, 3) := by decide +kernel
theorem dX11_adds_54 : decode cX11_adds 54 = .ok (.iconst 1, 1) := by decide +kernel
theorem dX11_adds_55 : decode cX11_adds 55 = .ok (.isub, 1) := by decide +kernel
theorem dX11_adds_56 : decode cX11_adds 56 = .ok (.putfield 105, 3) := by decide +kernel
theorem dX11_adds_59 : decode cX11_adds 59 = .ok (.return_, 1) := by decide +kernel
theorem dX11_undo_0 : decode cX11_undo 0 = .ok (.aload_n 0, 1) := by decide +kernel
theorem dX11_undo_1 : decode cX11_undo 1 = .ok (.iconst 0, 1) := by decide +kernel
theorem dX11_undo_2 : decode cX11_undo 2 = .ok (.putfield 3, 3) := by decide +kernel
theorem dX11_undo_5 : decode cX11_undo 5 = .ok (.aload_n 0, 1) := by decide +kernel
theorem dX11_undo_6 : decode cX11_undo 6 = .ok (.getfield 105, 3) := by decide +kernel
theorem dX11_undo_9 : decode cX11_undo 9 = .ok (.ifCond .ne 5, 3) := by decide +kernel
theorem dX11_undo_12 : decode cX11_undo 12 = .ok (.iconst (-1), 1) := by decide +kernel
theorem dX11_undo_13 : decode cX11_undo 13 = .ok (.ireturn, 1) := by decide +kernel
theorem dX11_undo_14 : decode cX11_undo 14 = .ok (.aload_n 0, 1) := by decide +kernel
theorem dX11_undo_15 : decode cX11_undo 15 = .ok (.dup, 1) := by decide +kernel
theorem dX11_undo_16 : decode cX11_undo 16 = .ok (.getfield 105, 3) := by decide +kernel
theorem dX11_undo_19 : decode cX11_undo 19 = .ok (.iconst 1, 1) := by decide +kernel
theorem dX11_undo_20 : decode cX11_undo 20 = .ok (.isub, 1) := by decide +kernel
theorem dX11_undo_21 : decode cX11_undo 21 = .ok (.putfield 105, 3) := by decide +kernel
theorem dX11_undo_24 : decode cX11_undo 24 = .ok (.iconst 0, 1) := by decide +kernel
theorem dX11_undo_25 : decode cX11_undo 25 = .ok (.istore_n 1, 1) := by decide +kernel
theorem dX11_undo_26 : decode cX11_undo 26 = .ok (.iload_n 1, 1) := by decide +kernel
theorem dX11_undo_27 : decode cX11_undo 27 = .ok (.bipush 9, 2) := by decide +kernel
theorem dX11_undo_29 : decode cX11_undo 29 = .ok (.if_icmp .ge 52, 3) := by decide +kernel
theorem dX11_undo_32 : decode cX11_undo 32 = .ok (.aload_n 0, 1) := by decide +kernel
theorem dX11_undo_33 : decode cX11_undo 33 = .ok (.getfield 96, 3) := by decide +kernel
theorem dX11_undo_36 : decode cX11_undo 36 = .ok (.iload_n 1, 1) := by decide +kernel
theorem dX11_undo_37 : decode cX11_undo 37 = .ok (.aload_n 0, 1) := by decide +kernel
theorem dX11_undo_38 : decode cX11_undo 38 = .ok (.getfield 157, 3) := by decide +kernel
theorem dX11_undo_41 : decode cX11_undo 41 = .ok (.bipush 19, 2) := by decide +kernel
theorem dX11_undo_43 : decode cX11_undo 43 = .ok (.aload_n 0, 1) := by decide +kernel
theorem dX11_undo_44 : decode cX11_undo 44 = .ok (.getfield 105, 3) := by decide +kernel
theorem dX11_undo_47 : decode cX11_undo 47 = .ok (.imul, 1) := by decide +kernel
theorem dX11_undo_48 : decode cX11_undo 48 = .ok (.iload_n 1, 1) := by decide +kernel
theorem dX11_undo_49 : decode cX11_undo 49 = .ok (.iadd, 1) := by decide +kernel
theorem dX11_undo_50 : decode cX11_undo 50 = .ok (.iaload, 1) := by decide +kernel
theorem dX11_undo_51 : decode cX11_undo 51 = .ok (.iastore, 1) := by decide +kernel
theorem dX11_undo_52 : decode cX11_undo 52 = .ok (.aload_n 0, 1) := by decide +kernel
theorem dX11_undo_53 : decode cX11_undo 53 = .ok (.getfield 102, 3) := by decide +kernel
theorem dX11_undo_56 : decode cX11_undo 56 = .ok (.iload_n 1, 1) := by decide +kernel
theorem dX11_undo_57 : decode cX11_undo 57 = .ok (.aload_n 0, 1) := by decide +kernel
theorem dX11_undo_58 : decode cX11_undo 58 = .ok (.getfield 157, 3) := by decide +kernel
theorem dX11_undo_61 : decode cX11_undo 61 = .ok (.bipush 19, 2) := by decide +kernel
theorem dX11_undo_63 : decode cX11_undo 63 = .ok (.aload_n 0, 1) := by decide +kernel
theorem dX11_undo_64 : decode cX11_undo 64 = .ok (.getfield 105, 3) := by decide +kernel
theorem dX11_undo_67 : decode cX11_undo 67 = .ok (.imul, 1) := by decide +kernel
theorem dX11_undo_68 : decode cX11_undo 68 = .ok (.bipush 9, 2) := by decide +kernel
theorem dX11_undo_70 : decode cX11_undo 70 = .ok (.iadd, 1) := by decide +kernel
theorem dX11_undo_71 : decode cX11_undo 71 = .ok (.iload_n 1, 1) := by decide +kernel
theorem dX11_undo_72 : decode cX11_undo 72 = .ok (.iadd, 1) := by decide +kernel
theorem dX11_undo_73 : decode cX11_undo 73 = .ok (.iaload, 1) := by decide +kernel
theorem dX11_undo_74 : decode cX11_undo 74 = .ok (.iastore, 1) := by decide +kernel
theorem dX11_undo_75 : decode cX11_undo 75 = .ok (.iinc 1 1, 3) := by decide +kernel
theorem dX11_undo_78 : decode cX11_undo 78 = .ok (.goto (-52), 3) := by decide +kernel
theorem dX11_undo_81 : decode cX11_undo 81 = .ok (.aload_n 0, 1) := by decide +kernel
theorem dX11_undo_82 : decode cX11_undo 82 = .ok (.aload_n 0, 1) := by decide +kernel
theorem dX11_undo_83 : decode cX11_undo 83 = .ok (.getfield 157, 3) := by decide +kernel
theorem dX11_undo_86 : decode cX11_undo 86 = .ok (.bipush 19, 2) := by decide +kernel
theorem dX11_undo_88 : decode cX11_undo 88 = .ok (.aload_n 0, 1) := by decide +kernel
theorem dX11_undo_89 : decode cX11_undo 89 = .ok (.getfield 105, 3) := by decide +kernel
theorem dX11_undo_92 : decode cX11_undo 92 = .ok (.imul, 1) := by decide +kernel
theorem dX11_undo_93 : decode cX11_undo 93 = .ok (.bipush 18, 2) := by decide +kernel
theorem dX11_undo_95 : decode cX11_undo 95 = .ok (.iadd, 1) := by decide +kernel
theorem dX11_undo_96 : decode cX11_undo 96 = .ok (.iaload, 1) := by decide +kernel
theorem dX11_undo_97 : decode cX11_undo 97 = .ok (.putfield 160, 3) := by decide +kernel
theorem dX11_undo_100 : decode cX11_undo 100 = .ok (.aload_n 0, 1) := by decide +kernel
theorem dX11_undo_101 : decode cX11_undo 101 = .ok (.getfield 105, 3) := by decide +kernel
theorem dX11_undo_104 : decode cX11_undo 104 = .ok (.ireturn, 1) := by decide +kernel
theorem dX11_canCarry_0 : decode cX11_canCarry 0 = .ok (.aload_n 0, 1) := by decide +kernel
theorem dX11_canCarry_1 : decode cX11_canCarry 1 = .ok (.getfield 80, 3) := by decide +kernel
theorem dX11_canCarry_4 : decode cX11_canCarry 4 = .ok (.iload_n 2, 1) := by decide +kernel
theorem dX11_canCarry_5 : decode cX11_canCarry 5 = .ok (.iaload, 1) := by decide +kernel
theorem dX11_canCarry_6 : decode cX11_canCarry 6 = .ok (.iload_n 3, 1) := by decide +kernel
theorem dX11_canCarry_7 : decode cX11_canCarry 7 = .ok (.invokestatic 108, 3) := by decide +kernel
theorem dX11_canCarry_10 : decode cX11_canCarry 10 = .ok (.ifCond .eq 34, 3) := by decide +kernel
theorem dX11_canCarry_13 : decode cX11_canCarry 13 = .ok (.aload_n 1, 1) := by decide +kernel
theorem dX11_canCarry_14 : decode cX11_canCarry 14 = .ok (.iload_n 2, 1) := by decide +kernel
theorem dX11_canCarry_15 : decode cX11_canCarry 15 = .ok (.iaload, 1) := by decide +kernel
theorem dX11_canCarry_16 : decode cX11_canCarry 16 = .ok (.aload_n 0, 1) := by decide +kernel
theorem dX11_canCarry_17 : decode cX11_canCarry 17 = .ok (.getfield 115, 3) := by decide +kernel
theorem dX11_canCarry_20 : decode cX11_canCarry 20 = .ok (.iconst 2, 1) := by decide +kernel
theorem dX11_canCarry_21 : decode cX11_canCarry 21 = .ok (.iaload, 1) := by decide +kernel
theorem dX11_canCarry_22 : decode cX11_canCarry 22 = .ok (.if_icmp .lt 22, 3) := by decide +kernel
theorem dX11_canCarry_25 : decode cX11_canCarry 25 = .ok (.aload_n 1, 1) := by decide +kernel
theorem dX11_canCarry_26 : decode cX11_canCarry 26 = .ok (.iload_n 3, 1) := by decide +kernel
theorem dX11_canCarry_27 : decode cX11_canCarry 27 = .ok (.iaload, 1) := by decide +kernel
theorem dX11_canCarry_28 : decode cX11_canCarry 28 = .ok (.bipush 99, 2) := by decide +kernel
theorem dX11_canCarry_30 : decode cX11_canCarry 30 = .ok (.aload_n 0, 1) := by decide +kernel
theorem dX11_canCarry_31 : decode cX11_canCarry 31 = .ok (.getfield 115, 3) := by decide +kernel
theorem dX11_canCarry_34 : decode cX11_canCarry 34 = .ok (.iconst 2, 1) := by decide +kernel
theorem dX11_canCarry_35 : decode cX11_canCarry 35 = .ok (.iaload, 1) := by decide +kernel
theorem dX11_canCarry_36 : decode cX11_canCarry 36 = .ok (.isub, 1) := by decide +kernel
theorem dX11_canCarry_37 : decode cX11_canCarry 37 = .ok (.if_icmp .gt 7, 3) := by decide +kernel
theorem dX11_canCarry_40 : decode cX11_canCarry 40 = .ok (.iconst 1, 1) := by decide +kernel
theorem dX11_canCarry_41 : decode cX11_canCarry 41 = .ok (.goto 4, 3) := by decide +kernel
theorem dX11_canCarry_44 : decode cX11_canCarry 44 = .ok (.iconst 0, 1) := by decide +kernel
theorem dX11_canCarry_45 : decode cX11_canCarry 45 = .ok (.ireturn, 1) := by decide +kernel
theorem dX11_carries_0 : decode cX11_carries 0 = .ok (.aload_n 1, 1) := by decide +kernel
theorem dX11_carries_1 : decode cX11_carries 1 = .ok (.iload_n 2, 1) := by decide +kernel
theorem dX11_carries_2 : decode cX11_carries 2 = .ok (.dup2, 1) := by decide +kernel
theorem dX11_carries_3 : decode cX11_carries 3 = .ok (.iaload, 1) := by decide +kernel
theorem dX11_carries_4 : decode cX11_carries 4 = .ok (.aload_n 0, 1) := by decide +kernel
theorem dX11_carries_5 : decode cX11_carries 5 = .ok (.getfield 115, 3) := by decide +kernel
theorem dX11_carries_8 : decode cX11_carries 8 = .ok (.iconst 2, 1) := by decide +kernel
theorem dX11_carries_9 : decode cX11_carries 9 = .ok (.iaload, 1) := by decide +kernel
theorem dX11_carries_10 : decode cX11_carries 10 = .ok (.isub, 1) := by decide +kernel
theorem dX11_carries_11 : decode cX11_carries 11 = .ok (.iastore, 1) := by decide +kernel
theorem dX11_carries_12 : decode cX11_carries 12 = .ok (.aload_n 1, 1) := by decide +kernel
theorem dX11_carries_13 : decode cX11_carries 13 = .ok (.iload_n 3, 1) := by decide +kernel
theorem dX11_carries_14 : decode cX11_carries 14 = .ok (.dup2, 1) := by decide +kernel
theorem dX11_carries_15 : decode cX11_carries 15 = .ok (.iaload, 1) := by decide +kernel
theorem dX11_carries_16 : decode cX11_carries 16 = .ok (.aload_n 0, 1) := by decide +kernel
theorem dX11_carries_17 : decode cX11_carries 17 = .ok (.getfield 115, 3) := by decide +kernel
theorem dX11_carries_20 : decode cX11_carries 20 = .ok (.iconst 2, 1) := by decide +kernel
theorem dX11_carries_21 : decode cX11_carries 21 = .ok (.iaload, 1) := by decide +kernel
theorem dX11_carries_22 : decode cX11_carries 22 = .ok (.iadd, 1) := by decide +kernel
theorem dX11_carries_23 : decode cX11_carries 23 = .ok (.iastore, 1) := by decide +kernel
theorem dX11_carries_24 : decode cX11_carries 24 = .ok (.return_, 1) := by decide +kernel
theorem dX11_carry_0 : decode cX11_carry 0 = .ok (.aload_n 0, 1) := by decide +kernel
theorem dX11_carry_1 : decode cX11_carry 1 = .ok (.iconst 0, 1) := by decide +kernel
theorem dX11_carry_2 : decode cX11_carry 2 = .ok (.putfield 3, 3) := by decide +kernel
theorem dX11_carry_5 : decode cX11_carry 5 = .ok (.aload_n 0, 1) := by decide +kernel
theorem dX11_carry_6 : decode cX11_carry 6 = .ok (.iload_n 1, 1) := by decide +kernel
theorem dX11_carry_7 : decode cX11_carry 7 = .ok (.iload_n 2, 1) := by decide +kernel
theorem dX11_carry_8 : decode cX11_carry 8 = .ok (.invokevirtual 137, 3) := by decide +kernel
theorem dX11_carry_11 : decode cX11_carry 11 = .ok (.ifCond .ne 5, 3) := by decide +kernel
theorem dX11_carry_14 : decode cX11_carry 14 = .ok (.iconst (-1), 1) := by decide +kernel
theorem dX11_carry_15 : decode cX11_carry 15 = .ok (.ireturn, 1) := by decide +kernel
theorem dX11_carry_16 : decode cX11_carry 16 = .ok (.aload_n 0, 1) := by decide +kernel
theorem dX11_carry_17 : decode cX11_carry 17 = .ok (.getfield 80, 3) := by decide +kernel
theorem dX11_carry_20 : decode cX11_carry 20 = .ok (.iload_n 1, 1) := by decide +kernel
theorem dX11_carry_21 : decode cX11_carry 21 = .ok (.iaload, 1) := by decide +kernel
theorem dX11_carry_22 : decode cX11_carry 22 = .ok (.iload_n 2, 1) := by decide +kernel
theorem dX11_carry_23 : decode cX11_carry 23 = .ok (.invokestatic 108, 3) := by decide +kernel
theorem dX11_carry_26 : decode cX11_carry 26 = .ok (.ifCond .ne 6, 3) := by decide +kernel
theorem dX11_carry_29 : decode cX11_carry 29 = .ok (.bipush (-2), 2) := by decide +kernel
theorem dX11_carry_31 : decode cX11_carry 31 = .ok (.ireturn, 1) := by decide +kernel
theorem dX11_carry_32 : decode cX11_carry 32 = .ok (.aload_n 0, 1) := by decide +kernel
theorem dX11_carry_33 : decode cX11_carry 33 = .ok (.aload_n 0, 1) := by decide +kernel
theorem dX11_carry_34 : decode cX11_carry 34 = .ok (.getfield 96, 3) := by decide +kernel
theorem dX11_carry_37 : decode cX11_carry 37 = .ok (.iload_n 1, 1) := by decide +kernel
theorem dX11_carry_38 : decode cX11_carry 38 = .ok (.iload_n 2, 1) := by decide +kernel
theorem dX11_carry_39 : decode cX11_carry 39 = .ok (.invokevirtual 167, 3) := by decide +kernel
theorem dX11_carry_42 : decode cX11_carry 42 = .ok (.ifCond .ne 6, 3) := by decide +kernel
theorem dX11_carry_45 : decode cX11_carry 45 = .ok (.bipush (-3), 2) := by decide +kernel
theorem dX11_carry_47 : decode cX11_carry 47 = .ok (.ireturn, 1) := by decide +kernel
theorem dX11_carry_48 : decode cX11_carry 48 = .ok (.aload_n 0, 1) := by decide +kernel
theorem dX11_carry_49 : decode cX11_carry 49 = .ok (.invokevirtual 170, 3) := by decide +kernel
theorem dX11_carry_52 : decode cX11_carry 52 = .ok (.aload_n 0, 1) := by decide +kernel
theorem dX11_carry_53 : decode cX11_carry 53 = .ok (.aload_n 0, 1) := by decide +kernel
theorem dX11_carry_54 : decode cX11_carry 54 = .ok (.getfield 96, 3) := by decide +kernel
theorem dX11_carry_57 : decode cX11_carry 57 = .ok (.iload_n 1, 1) := by decide +kernel
theorem dX11_carry_58 : decode cX11_carry 58 = .ok (.iload_n 2, 1) := by decide +kernel
theorem dX11_carry_59 : decode cX11_carry 59 = .ok (.invokevirtual 174, 3) := by decide +kernel
theorem dX11_carry_62 : decode cX11_carry 62 = .ok (.aload_n 0, 1) := by decide +kernel
theorem dX11_carry_63 : decode cX11_carry 63 = .ok (.invokevirtual 178, 3) := by decide +kernel
theorem dX11_carry_66 : decode cX11_carry 66 = .ok (.aload_n 0, 1) := by decide +kernel
theorem dX11_carry_67 : decode cX11_carry 67 = .ok (.getfield 96, 3) := by decide +kernel
theorem dX11_carry_70 : decode cX11_carry 70 = .ok (.iload_n 1, 1) := by decide +kernel
theorem dX11_carry_71 : decode cX11_carry 71 = .ok (.iaload, 1) := by decide +kernel
theorem dX11_carry_72 : decode cX11_carry 72 = .ok (.ireturn, 1) := by decide +kernel
theorem dX11_readsStep_0 : decode cX11_readsStep 0 = .ok (.aload_n 0, 1) := by decide +kernel
theorem dX11_readsStep_1 : decode cX11_readsStep 1 = .ok (.getfield 31, 3) := by decide +kernel
theorem dX11_readsStep_4 : decode cX11_readsStep 4 = .ok (.aload_n 0, 1) := by decide +kernel
theorem dX11_readsStep_5 : decode cX11_readsStep 5 = .ok (.getfield 40, 3) := by decide +kernel
theorem dX11_readsStep_8 : decode cX11_readsStep 8 = .ok (.if_icmp .ge 25, 3) := by decide +kernel
theorem dX11_readsStep_11 : decode cX11_readsStep 11 = .ok (.aload_n 0, 1) := by decide +kernel
theorem dX11_readsStep_12 : decode cX11_readsStep 12 = .ok (.getfield 28, 3) := by decide +kernel
theorem dX11_readsStep_15 : decode cX11_readsStep 15 = .ok (.aload_n 0, 1) := by decide +kernel
theorem dX11_readsStep_16 : decode cX11_readsStep 16 = .ok (.getfield 31, 3) := by decide +kernel
theorem dX11_readsStep_19 : decode cX11_readsStep 19 = .ok (.iaload, 1) := by decide +kernel
theorem dX11_readsStep_20 : decode cX11_readsStep 20 = .ok (.i2l, 1) := by decide +kernel
theorem dX11_readsStep_21 : decode cX11_readsStep 21 = .ok (.ldc2_w 181, 3) := by decide +kernel
theorem dX11_readsStep_24 : decode cX11_readsStep 24 = .ok (.ldc2_w 183, 3) := by decide +kernel
theorem dX11_readsStep_27 : decode cX11_readsStep 27 = .ok (.invokestatic 17, 3) := by decide +kernel
theorem dX11_readsStep_30 : decode cX11_readsStep 30 = .ok (.ifCond .ne 5, 3) := by decide +kernel
theorem dX11_readsStep_33 : decode cX11_readsStep 33 = .ok (.iconst 0, 1) := by decide +kernel
theorem dX11_readsStep_34 : decode cX11_readsStep 34 = .ok (.ireturn, 1) := by decide +kernel
theorem dX11_readsStep_35 : decode cX11_readsStep 35 = .ok (.aload_n 0, 1) := by decide +kernel
theorem dX11_readsStep_36 : decode cX11_readsStep 36 = .ok (.getfield 185, 3) := by decide +kernel
theorem dX11_readsStep_39 : decode cX11_readsStep 39 = .ok (.aload_n 0, 1) := by decide +kernel
theorem dX11_readsStep_40 : decode cX11_readsStep 40 = .ok (.getfield 188, 3) := by decide +kernel
theorem dX11_readsStep_43 : decode cX11_readsStep 43 = .ok (.aload_n 0, 1) := by decide +kernel
theorem dX11_readsStep_44 : decode cX11_readsStep 44 = .ok (.getfield 28, 3) := by decide +kernel
theorem dX11_readsStep_47 : decode cX11_readsStep 47 = .ok (.aload_n 0, 1) := by decide +kernel
theorem dX11_readsStep_48 : decode cX11_readsStep 48 = .ok (.getfield 31, 3) := by decide +kernel
theorem dX11_readsStep_51 : decode cX11_readsStep 51 = .ok (.iaload, 1) := by decide +kernel
theorem dX11_readsStep_52 : decode cX11_readsStep 52 = .ok (.bipush 97, 2) := by decide +kernel
theorem dX11_readsStep_54 : decode cX11_readsStep 54 = .ok (.isub, 1) := by decide +kernel
theorem dX11_readsStep_55 : decode cX11_readsStep 55 = .ok (.iastore, 1) := by decide +kernel
theorem dX11_readsStep_56 : decode cX11_readsStep 56 = .ok (.aload_n 0, 1) := by decide +kernel
theorem dX11_readsStep_57 : decode cX11_readsStep 57 = .ok (.dup, 1) := by decide +kernel
theorem dX11_readsStep_58 : decode cX11_readsStep 58 = .ok (.getfield 31, 3) := by decide +kernel
theorem dX11_readsStep_61 : decode cX11_readsStep 61 = .ok (.iconst 1, 1) := by decide +kernel
theorem dX11_readsStep_62 : decode cX11_readsStep 62 = .ok (.iadd, 1) := by decide +kernel
theorem dX11_readsStep_63 : decode cX11_readsStep 63 = .ok (.putfield 31, 3) := by decide +kernel
theorem dX11_readsStep_66 : decode cX11_readsStep 66 = .ok (.aload_n 0, 1) := by decide +kernel
theorem dX11_readsStep_67 : decode cX11_readsStep 67 = .ok (.bipush 62, 2) := by decide +kernel
theorem dX11_readsStep_69 : decode cX11_readsStep 69 = .ok (.invokevirtual 56, 3) := by decide +kernel
theorem dX11_readsStep_72 : decode cX11_readsStep 72 = .ok (.ifCond .eq 36, 3) := by decide +kernel
theorem dX11_readsStep_75 : decode cX11_readsStep 75 = .ok (.aload_n 0, 1) := by decide +kernel
theorem dX11_readsStep_76 : decode cX11_readsStep 76 = .ok (.getfield 31, 3) := by decide +kernel
theorem dX11_readsStep_79 : decode cX11_readsStep 79 = .ok (.aload_n 0, 1) := by decide +kernel
theorem dX11_readsStep_80 : decode cX11_readsStep 80 = .ok (.getfield 40, 3) := by decide +kernel
theorem dX11_readsStep_83 : decode cX11_readsStep 83 = .ok (.if_icmp .ge 25, 3) := by decide +kernel
theorem dX11_readsStep_86 : decode cX11_readsStep 86 = .ok (.aload_n 0, 1) := by decide +kernel
theorem dX11_readsStep_87 : decode cX11_readsStep 87 = .ok (.getfield 28, 3) := by decide +kernel
theorem dX11_readsStep_90 : decode cX11_readsStep 90 = .ok (.aload_n 0, 1) := by decide +kernel
theorem dX11_readsStep_91 : decode cX11_readsStep 91 = .ok (.getfield 31, 3) := by decide +kernel
theorem dX11_readsStep_94 : decode cX11_readsStep 94 = .ok (.iaload, 1) := by decide +kernel
theorem dX11_readsStep_95 : decode cX11_readsStep 95 = .ok (.i2l, 1) := by decide +kernel
theorem dX11_readsStep_96 : decode cX11_readsStep 96 = .ok (.ldc2_w 181, 3) := by decide +kernel
theorem dX11_readsStep_99 : decode cX11_readsStep 99 = .ok (.ldc2_w 183, 3) := by decide +kernel
theorem dX11_readsStep_102 : decode cX11_readsStep 102 = .ok (.invokestatic 17, 3) := by decide +kernel
theorem dX11_readsStep_105 : decode cX11_readsStep 105 = .ok (.ifCond .ne 5, 3) := by decide +kernel
theorem dX11_readsStep_108 : decode cX11_readsStep 108 = .ok (.iconst 0, 1) := by decide +kernel
theorem dX11_readsStep_109 : decode cX11_readsStep 109 = .ok (.ireturn, 1) := by decide +kernel
theorem dX11_readsStep_110 : decode cX11_readsStep 110 = .ok (.aload_n 0, 1) := by decide +kernel
theorem dX11_readsStep_111 : decode cX11_readsStep 111 = .ok (.getfield 191, 3) := by decide +kernel
theorem dX11_readsStep_114 : decode cX11_readsStep 114 = .ok (.aload_n 0, 1) := by decide +kernel
theorem dX11_readsStep_115 : decode cX11_readsStep 115 = .ok (.getfield 188, 3) := by decide +kernel
theorem dX11_readsStep_118 : decode cX11_readsStep 118 = .ok (.aload_n 0, 1) := by decide +kernel
theorem dX11_readsStep_119 : decode cX11_readsStep 119 = .ok (.getfield 28, 3) := by decide +kernel
theorem dX11_readsStep_122 : decode cX11_readsStep 122 = .ok (.aload_n 0, 1) := by decide +kernel
theorem dX11_readsStep_123 : decode cX11_readsStep 123 = .ok (.getfield 31, 3) := by decide +kernel
theorem dX11_readsStep_126 : decode cX11_readsStep 126 = .ok (.iaload, 1) := by decide +kernel
theorem dX11_readsStep_127 : decode cX11_readsStep 127 = .ok (.bipush 97, 2) := by decide +kernel
theorem dX11_readsStep_129 : decode cX11_readsStep 129 = .ok (.isub, 1) := by decide +kernel
theorem dX11_readsStep_130 : decode cX11_readsStep 130 = .ok (.iastore, 1) := by decide +kernel
theorem dX11_readsStep_131 : decode cX11_readsStep 131 = .ok (.aload_n 0, 1) := by decide +kernel
theorem dX11_readsStep_132 : decode cX11_readsStep 132 = .ok (.dup, 1) := by decide +kernel
theorem dX11_readsStep_133 : decode cX11_readsStep 133 = .ok (.getfield 31, 3) := by decide +kernel
theorem dX11_readsStep_136 : decode cX11_readsStep 136 = .ok (.iconst 1, 1) := by decide +kernel
theorem dX11_readsStep_137 : decode cX11_readsStep 137 = .ok (.iadd, 1) := by decide +kernel
theorem dX11_readsStep_138 : decode cX11_readsStep 138 = .ok (.putfield 31, 3) := by decide +kernel
theorem dX11_readsStep_141 : decode cX11_readsStep 141 = .ok (.aload_n 0, 1) := by decide +kernel
theorem dX11_readsStep_142 : decode cX11_readsStep 142 = .ok (.getfield 194, 3) := by decide +kernel
theorem dX11_readsStep_145 : decode cX11_readsStep 145 = .ok (.aload_n 0, 1) := by decide +kernel
theorem dX11_readsStep_146 : decode cX11_readsStep 146 = .ok (.getfield 188, 3) := by decide +kernel
theorem dX11_readsStep_149 : decode cX11_readsStep 149 = .ok (.aload_n 0, 1) := by decide +kernel
theorem dX11_readsStep_150 : decode cX11_readsStep 150 = .ok (.bipush 42, 2) := by decide +kernel
theorem dX11_readsStep_152 : decode cX11_readsStep 152 = .ok (.invokevirtual 56, 3) := by decide +kernel
theorem dX11_readsStep_155 : decode cX11_readsStep 155 = .ok (.ifCond .eq 11, 3) := by decide +kernel
theorem dX11_readsStep_158 : decode cX11_readsStep 158 = .ok (.aload_n 0, 1) := by decide +kernel
theorem dX11_readsStep_159 : decode cX11_readsStep 159 = .ok (.iconst 1, 1) := by decide +kernel
theorem dX11_readsStep_160 : decode cX11_readsStep 160 = .ok (.invokevirtual 52, 3) := by decide +kernel
theorem dX11_readsStep_163 : decode cX11_readsStep 163 = .ok (.goto 4, 3) := by decide +kernel
theorem dX11_readsStep_166 : decode cX11_readsStep 166 = .ok (.iconst 1, 1) := by decide +kernel
theorem dX11_readsStep_167 : decode cX11_readsStep 167 = .ok (.iastore, 1) := by decide +kernel
theorem dX11_readsStep_168 : decode cX11_readsStep 168 = .ok (.aload_n 0, 1) := by decide +kernel
theorem dX11_readsStep_169 : decode cX11_readsStep 169 = .ok (.dup, 1) := by decide +kernel
theorem dX11_readsStep_170 : decode cX11_readsStep 170 = .ok (.getfield 188, 3) := by decide +kernel
theorem dX11_readsStep_173 : decode cX11_readsStep 173 = .ok (.iconst 1, 1) := by decide +kernel
theorem dX11_readsStep_174 : decode cX11_readsStep 174 = .ok (.iadd, 1) := by decide +kernel
theorem dX11_readsStep_175 : decode cX11_readsStep 175 = .ok (.putfield 188, 3) := by decide +kernel
theorem dX11_readsStep_178 : decode cX11_readsStep 178 = .ok (.aload_n 0, 1) := by decide +kernel
theorem dX11_readsStep_179 : decode cX11_readsStep 179 = .ok (.getfield 194, 3) := by decide +kernel
theorem dX11_readsStep_182 : decode cX11_readsStep 182 = .ok (.aload_n 0, 1) := by decide +kernel
theorem dX11_readsStep_183 : decode cX11_readsStep 183 = .ok (.getfield 188, 3) := by decide +kernel
theorem dX11_readsStep_186 : decode cX11_readsStep 186 = .ok (.iconst 1, 1) := by decide +kernel
theorem dX11_readsStep_187 : decode cX11_readsStep 187 = .ok (.isub, 1) := by decide +kernel
theorem dX11_readsStep_188 : decode cX11_readsStep 188 = .ok (.iaload, 1) := by decide +kernel
theorem dX11_readsStep_189 : decode cX11_readsStep 189 = .ok (.ifCond .le 7, 3) := by decide +kernel
theorem dX11_readsStep_192 : decode cX11_readsStep 192 = .ok (.iconst 1, 1) := by decide +kernel
theorem dX11_readsStep_193 : decode cX11_readsStep 193 = .ok (.goto 4, 3) := by decide +kernel
theorem dX11_readsStep_196 : decode cX11_readsStep 196 = .ok (.iconst 0, 1) := by decide +kernel
theorem dX11_readsStep_197 : decode cX11_readsStep 197 = .ok (.ireturn, 1) := by decide +kernel
theorem dX11_night_0 : decode cX11_night 0 = .ok (.aload_n 0, 1) := by decide +kernel
theorem dX11_night_1 : decode cX11_night 1 = .ok (.iconst 0, 1) := by decide +kernel
theorem dX11_night_2 : decode cX11_night 2 = .ok (.putfield 3, 3) := by decide +kernel
theorem dX11_night_5 : decode cX11_night 5 = .ok (.aload_n 0, 1) := by decide +kernel
theorem dX11_night_6 : decode cX11_night 6 = .ok (.bipush 40, 2) := by decide +kernel
theorem dX11_night_8 : decode cX11_night 8 = .ok (.invokevirtual 74, 3) := by decide +kernel
theorem dX11_night_11 : decode cX11_night 11 = .ok (.istore_n 1, 1) := by decide +kernel
theorem dX11_night_12 : decode cX11_night 12 = .ok (.aload_n 0, 1) := by decide +kernel
theorem dX11_night_13 : decode cX11_night 13 = .ok (.iconst 0, 1) := by decide +kernel
theorem dX11_night_14 : decode cX11_night 14 = .ok (.putfield 188, 3) := by decide +kernel
theorem dX11_night_17 : decode cX11_night 17 = .ok (.iconst 1, 1) := by decide +kernel
theorem dX11_night_18 : decode cX11_night 18 = .ok (.istore_n 2, 1) := by decide +kernel
theorem dX11_night_19 : decode cX11_night 19 = .ok (.iload_n 1, 1) := by decide +kernel
theorem dX11_night_20 : decode cX11_night 20 = .ok (.ifCond .le 7, 3) := by decide +kernel
theorem dX11_night_23 : decode cX11_night 23 = .ok (.iconst 1, 1) := by decide +kernel
theorem dX11_night_24 : decode cX11_night 24 = .ok (.goto 4, 3) := by decide +kernel
theorem dX11_night_27 : decode cX11_night 27 = .ok (.iconst 0, 1) := by decide +kernel
theorem dX11_night_28 : decode cX11_night 28 = .ok (.istore_n 3, 1) := by decide +kernel
theorem dX11_night_29 : decode cX11_night 29 = .ok (.iload_n 3, 1) := by decide +kernel
theorem dX11_night_30 : decode cX11_night 30 = .ok (.ifCond .eq 30, 3) := by decide +kernel
theorem dX11_night_33 : decode cX11_night 33 = .ok (.aload_n 0, 1) := by decide +kernel
theorem dX11_night_34 : decode cX11_night 34 = .ok (.invokevirtual 197, 3) := by decide +kernel
theorem dX11_night_37 : decode cX11_night 37 = .ok (.istore_n 2, 1) := by decide +kernel
theorem dX11_night_38 : decode cX11_night 38 = .ok (.iload_n 2, 1) := by decide +kernel
theorem dX11_night_39 : decode cX11_night 39 = .ok (.ifCond .eq 16, 3) := by decide +kernel
theorem dX11_night_42 : decode cX11_night 42 = .ok (.aload_n 0, 1) := by decide +kernel
theorem dX11_night_43 : decode cX11_night 43 = .ok (.bipush 59, 2) := by decide +kernel
theorem dX11_night_45 : decode cX11_night 45 = .ok (.invokevirtual 56, 3) := by decide +kernel
theorem dX11_night_48 : decode cX11_night 48 = .ok (.ifCond .eq 7, 3) := by decide +kernel
theorem dX11_night_51 : decode cX11_night 51 = .ok (.iconst 1, 1) := by decide +kernel
theorem dX11_night_52 : decode cX11_night 52 = .ok (.goto 4, 3) := by decide +kernel
theorem dX11_night_55 : decode cX11_night 55 = .ok (.iconst 0, 1) := by decide +kernel
theorem dX11_night_56 : decode cX11_night 56 = .ok (.istore_n 3, 1) := by decide +kernel
theorem dX11_night_57 : decode cX11_night 57 = .ok (.goto (-28), 3) := by decide +kernel
theorem dX11_night_60 : decode cX11_night 60 = .ok (.aload_n 0, 1) := by decide +kernel
theorem dX11_night_61 : decode cX11_night 61 = .ok (.iload_n 1, 1) := by decide +kernel
theorem dX11_night_62 : decode cX11_night 62 = .ok (.bipush 40, 2) := by decide +kernel
theorem dX11_night_64 : decode cX11_night 64 = .ok (.iload_n 2, 1) := by decide +kernel
theorem dX11_night_65 : decode cX11_night 65 = .ok (.invokevirtual 92, 3) := by decide +kernel
theorem dX11_night_68 : decode cX11_night 68 = .ok (.istore 4, 2) := by decide +kernel
theorem dX11_night_70 : decode cX11_night 70 = .ok (.iload 4, 2) := by decide +kernel
theorem dX11_night_72 : decode cX11_night 72 = .ok (.ifCond .ge 6, 3) := by decide +kernel
theorem dX11_night_75 : decode cX11_night 75 = .ok (.iload 4, 2) := by decide +kernel
theorem dX11_night_77 : decode cX11_night 77 = .ok (.ireturn, 1) := by decide +kernel
theorem dX11_night_78 : decode cX11_night 78 = .ok (.aload_n 0, 1) := by decide +kernel
theorem dX11_night_79 : decode cX11_night 79 = .ok (.invokevirtual 170, 3) := by decide +kernel
theorem dX11_night_82 : decode cX11_night 82 = .ok (.iconst 0, 1) := by decide +kernel
theorem dX11_night_83 : decode cX11_night 83 = .ok (.istore 5, 2) := by decide +kernel
theorem dX11_night_85 : decode cX11_night 85 = .ok (.iconst 1, 1) := by decide +kernel
theorem dX11_night_86 : decode cX11_night 86 = .ok (.istore 6, 2) := by decide +kernel
theorem dX11_night_88 : decode cX11_night 88 = .ok (.iconst 0, 1) := by decide +kernel
theorem dX11_night_89 : decode cX11_night 89 = .ok (.istore 7, 2) := by decide +kernel
theorem dX11_night_91 : decode cX11_night 91 = .ok (.iload 7, 2) := by decide +kernel
theorem dX11_night_93 : decode cX11_night 93 = .ok (.aload_n 0, 1) := by decide +kernel
theorem dX11_night_94 : decode cX11_night 94 = .ok (.getfield 188, 3) := by decide +kernel
theorem dX11_night_97 : decode cX11_night 97 = .ok (.if_icmp .ge 123, 3) := by decide +kernel
theorem dX11_night_100 : decode cX11_night 100 = .ok (.iload 6, 2) := by decide +kernel
theorem dX11_night_102 : decode cX11_night 102 = .ok (.ifCond .eq 118, 3) := by decide +kernel
theorem dX11_night_105 : decode cX11_night 105 = .ok (.iconst 0, 1) := by decide +kernel
theorem dX11_night_106 : decode cX11_night 106 = .ok (.istore 8, 2) := by decide +kernel
theorem dX11_night_108 : decode cX11_night 108 = .ok (.iload 8, 2) := by decide +kernel
theorem dX11_night_110 : decode cX11_night 110 = .ok (.aload_n 0, 1) := by decide +kernel
theorem dX11_night_111 : decode cX11_night 111 = .ok (.getfield 194, 3) := by decide +kernel
theorem dX11_night_114 : decode cX11_night 114 = .ok (.iload 7, 2) := by decide +kernel
theorem dX11_night_116 : decode cX11_night 116 = .ok (.iaload, 1) := by decide +kernel
theorem dX11_night_117 : decode cX11_night 117 = .ok (.if_icmp .ge 97, 3) := by decide +kernel
theorem dX11_night_120 : decode cX11_night 120 = .ok (.iload 6, 2) := by decide +kernel
theorem dX11_night_122 : decode cX11_night 122 = .ok (.ifCond .eq 92, 3) := by decide +kernel
theorem dX11_night_125 : decode cX11_night 125 = .ok (.aload_n 0, 1) := by decide +kernel
theorem dX11_night_126 : decode cX11_night 126 = .ok (.aload_n 0, 1) := by decide +kernel
theorem dX11_night_127 : decode cX11_night 127 = .ok (.getfield 185, 3) := by decide +kernel
theorem dX11_night_130 : decode cX11_night 130 = .ok (.iload 7, 2) := by decide +kernel
theorem dX11_night_132 : decode cX11_night 132 = .ok (.iaload, 1) := by decide +kernel
theorem dX11_night_133 : decode cX11_night 133 = .ok (.aload_n 0, 1) := by decide +kernel
theorem dX11_night_134 : decode cX11_night 134 = .ok (.getfield 191, 3) := by decide +kernel
theorem dX11_night_137 : decode cX11_night 137 = .ok (.iload 7, 2) := by decide +kernel
theorem dX11_night_139 : decode cX11_night 139 = .ok (.iaload, 1) := by decide +kernel
theorem dX11_night_140 : decode cX11_night 140 = .ok (.invokevirtual 137, 3) := by decide +kernel
theorem dX11_night_143 : decode cX11_night 143 = .ok (.ifCond .eq 32, 3) := by decide +kernel
theorem dX11_night_146 : decode cX11_night 146 = .ok (.aload_n 0, 1) := by decide +kernel
theorem dX11_night_147 : decode cX11_night 147 = .ok (.aload_n 0, 1) := by decide +kernel
theorem dX11_night_148 : decode cX11_night 148 = .ok (.getfield 96, 3) := by decide +kernel
theorem dX11_night_151 : decode cX11_night 151 = .ok (.aload_n 0, 1) := by decide +kernel
theorem dX11_night_152 : decode cX11_night 152 = .ok (.getfield 185, 3) := by decide +kernel
theorem dX11_night_155 : decode cX11_night 155 = .ok (.iload 7, 2) := by decide +kernel
theorem dX11_night_157 : decode cX11_night 157 = .ok (.iaload, 1) := by decide +kernel
theorem dX11_night_158 : decode cX11_night 158 = .ok (.aload_n 0, 1) := by decide +kernel
theorem dX11_night_159 : decode cX11_night 159 = .ok (.getfield 191, 3) := by decide +kernel
theorem dX11_night_162 : decode cX11_night 162 = .ok (.iload 7, 2) := by decide +kernel
theorem dX11_night_164 : decode cX11_night 164 = .ok (.iaload, 1) := by decide +kernel
theorem dX11_night_165 : decode cX11_night 165 = .ok (.invokevirtual 167, 3) := by decide +kernel
theorem dX11_night_168 : decode cX11_night 168 = .ok (.ifCond .eq 7, 3) := by decide +kernel
theorem dX11_night_171 : decode cX11_night 171 = .ok (.iconst 1, 1) := by decide +kernel
theorem dX11_night_172 : decode cX11_night 172 = .ok (.goto 4, 3) := by decide +kernel
theorem dX11_night_175 : decode cX11_night 175 = .ok (.iconst 0, 1) := by decide +kernel
theorem dX11_night_176 : decode cX11_night 176 = .ok (.istore 6, 2) := by decide +kernel
theorem dX11_night_178 : decode cX11_night 178 = .ok (.iload 6, 2) := by decide +kernel
theorem dX11_night_180 : decode cX11_night 180 = .ok (.ifCond .eq 28, 3) := by decide +kernel
theorem dX11_night_183 : decode cX11_night 183 = .ok (.aload_n 0, 1) := by decide +kernel
theorem dX11_night_184 : decode cX11_night 184 = .ok (.aload_n 0, 1) := by decide +kernel
theorem dX11_night_185 : decode cX11_night 185 = .ok (.getfield 96, 3) := by decide +kernel
theorem dX11_night_188 : decode cX11_night 188 = .ok (.aload_n 0, 1) := by decide +kernel
theorem dX11_night_189 : decode cX11_night 189 = .ok (.getfield 185, 3) := by decide +kernel
theorem dX11_night_192 : decode cX11_night 192 = .ok (.iload 7, 2) := by decide +kernel
theorem dX11_night_194 : decode cX11_night 194 = .ok (.iaload, 1) := by decide +kernel
theorem dX11_night_195 : decode cX11_night 195 = .ok (.aload_n 0, 1) := by decide +kernel
theorem dX11_night_196 : decode cX11_night 196 = .ok (.getfield 191, 3) := by decide +kernel
theorem dX11_night_199 : decode cX11_night 199 = .ok (.iload 7, 2) := by decide +kernel
theorem dX11_night_201 : decode cX11_night 201 = .ok (.iaload, 1) := by decide +kernel
theorem dX11_night_202 : decode cX11_night 202 = .ok (.invokevirtual 174, 3) := by decide +kernel
theorem dX11_night_205 : decode cX11_night 205 = .ok (.iinc 5 1, 3) := by decide +kernel
theorem dX11_night_208 : decode cX11_night 208 = .ok (.iinc 8 1, 3) := by decide +kernel
theorem dX11_night_211 : decode cX11_night 211 = .ok (.goto (-103), 3) := by decide +kernel
theorem dX11_night_214 : decode cX11_night 214 = .ok (.iinc 7 1, 3) := by decide +kernel
theorem dX11_night_217 : decode cX11_night 217 = .ok (.goto (-126), 3) := by decide +kernel
theorem dX11_night_220 : decode cX11_night 220 = .ok (.iload 5, 2) := by decide +kernel
theorem dX11_night_222 : decode cX11_night 222 = .ok (.ifCond .le 7, 3) := by decide +kernel
theorem dX11_night_225 : decode cX11_night 225 = .ok (.aload_n 0, 1) := by decide +kernel
theorem dX11_night_226 : decode cX11_night 226 = .ok (.invokevirtual 178, 3) := by decide +kernel
theorem dX11_night_229 : decode cX11_night 229 = .ok (.aload_n 0, 1) := by decide +kernel
theorem dX11_night_230 : decode cX11_night 230 = .ok (.iconst 0, 1) := by decide +kernel
theorem dX11_night_231 : decode cX11_night 231 = .ok (.putfield 11, 3) := by decide +kernel
theorem dX11_night_234 : decode cX11_night 234 = .ok (.aload_n 0, 1) := by decide +kernel
theorem dX11_night_235 : decode cX11_night 235 = .ok (.iload 6, 2) := by decide +kernel
theorem dX11_night_237 : decode cX11_night 237 = .ok (.ifCond .ne 7, 3) := by decide +kernel
theorem dX11_night_240 : decode cX11_night 240 = .ok (.iconst 1, 1) := by decide +kernel
theorem dX11_night_241 : decode cX11_night 241 = .ok (.goto 4, 3) := by decide +kernel
theorem dX11_night_244 : decode cX11_night 244 = .ok (.iconst 0, 1) := by decide +kernel
theorem dX11_night_245 : decode cX11_night 245 = .ok (.invokestatic 43, 3) := by decide +kernel
theorem dX11_night_248 : decode cX11_night 248 = .ok (.invokevirtual 200, 3) := by decide +kernel
theorem dX11_night_251 : decode cX11_night 251 = .ok (.iload 5, 2) := by decide +kernel
theorem dX11_night_253 : decode cX11_night 253 = .ok (.ireturn, 1) := by decide +kernel
theorem dX11_seeps_0 : decode cX11_seeps 0 = .ok (.aload_n 0, 1) := by decide +kernel
theorem dX11_seeps_1 : decode cX11_seeps 1 = .ok (.getfield 77, 3) := by decide +kernel
theorem dX11_seeps_4 : decode cX11_seeps 4 = .ok (.bipush 9, 2) := by decide +kernel
theorem dX11_seeps_6 : decode cX11_seeps 6 = .ok (.iload_n 2, 1) := by decide +kernel
theorem dX11_seeps_7 : decode cX11_seeps 7 = .ok (.imul, 1) := by decide +kernel
theorem dX11_seeps_8 : decode cX11_seeps 8 = .ok (.iload_n 3, 1) := by decide +kernel
theorem dX11_seeps_9 : decode cX11_seeps 9 = .ok (.iadd, 1) := by decide +kernel
theorem dX11_seeps_10 : decode cX11_seeps 10 = .ok (.iaload, 1) := by decide +kernel
theorem dX11_seeps_11 : decode cX11_seeps 11 = .ok (.istore 4, 2) := by decide +kernel
theorem dX11_seeps_13 : decode cX11_seeps 13 = .ok (.aload_n 0, 1) := by decide +kernel
theorem dX11_seeps_14 : decode cX11_seeps 14 = .ok (.getfield 80, 3) := by decide +kernel
theorem dX11_seeps_17 : decode cX11_seeps 17 = .ok (.iload_n 2, 1) := by decide +kernel
theorem dX11_seeps_18 : decode cX11_seeps 18 = .ok (.iaload, 1) := by decide +kernel
theorem dX11_seeps_19 : decode cX11_seeps 19 = .ok (.iload_n 3, 1) := by decide +kernel
theorem dX11_seeps_20 : decode cX11_seeps 20 = .ok (.invokestatic 108, 3) := by decide +kernel
theorem dX11_seeps_23 : decode cX11_seeps 23 = .ok (.ifCond .eq 21, 3) := by decide +kernel
theorem dX11_seeps_26 : decode cX11_seeps 26 = .ok (.iload 4, 2) := by decide +kernel
theorem dX11_seeps_28 : decode cX11_seeps 28 = .ok (.ifCond .le 16, 3) := by decide +kernel
theorem dX11_seeps_31 : decode cX11_seeps 31 = .ok (.aload_n 1, 1) := by decide +kernel
theorem dX11_seeps_32 : decode cX11_seeps 32 = .ok (.iload_n 2, 1) := by decide +kernel
theorem dX11_seeps_33 : decode cX11_seeps 33 = .ok (.iaload, 1) := by decide +kernel
theorem dX11_seeps_34 : decode cX11_seeps 34 = .ok (.aload_n 1, 1) := by decide +kernel
theorem dX11_seeps_35 : decode cX11_seeps 35 = .ok (.iload_n 3, 1) := by decide +kernel
theorem dX11_seeps_36 : decode cX11_seeps 36 = .ok (.iaload, 1) := by decide +kernel
theorem dX11_seeps_37 : decode cX11_seeps 37 = .ok (.if_icmp .le 7, 3) := by decide +kernel
theorem dX11_seeps_40 : decode cX11_seeps 40 = .ok (.iconst 1, 1) := by decide +kernel
theorem dX11_seeps_41 : decode cX11_seeps 41 = .ok (.goto 4, 3) := by decide +kernel
theorem dX11_seeps_44 : decode cX11_seeps 44 = .ok (.iconst 0, 1) := by decide +kernel
theorem dX11_seeps_45 : decode cX11_seeps 45 = .ok (.istore 5, 2) := by decide +kernel
theorem dX11_seeps_47 : decode cX11_seeps 47 = .ok (.iload 5, 2) := by decide +kernel
theorem dX11_seeps_49 : decode cX11_seeps 49 = .ok (.ifCond .eq 18, 3) := by decide +kernel
theorem dX11_seeps_52 : decode cX11_seeps 52 = .ok (.aload_n 1, 1) := by decide +kernel
theorem dX11_seeps_53 : decode cX11_seeps 53 = .ok (.iload_n 2, 1) := by decide +kernel
theorem dX11_seeps_54 : decode cX11_seeps 54 = .ok (.iaload, 1) := by decide +kernel
theorem dX11_seeps_55 : decode cX11_seeps 55 = .ok (.aload_n 1, 1) := by decide +kernel
theorem dX11_seeps_56 : decode cX11_seeps 56 = .ok (.iload_n 3, 1) := by decide +kernel
theorem dX11_seeps_57 : decode cX11_seeps 57 = .ok (.iaload, 1) := by decide +kernel
theorem dX11_seeps_58 : decode cX11_seeps 58 = .ok (.isub, 1) := by decide +kernel
theorem dX11_seeps_59 : decode cX11_seeps 59 = .ok (.iconst 2, 1) := by decide +kernel
theorem dX11_seeps_60 : decode cX11_seeps 60 = .ok (.iload 4, 2) := by decide +kernel
theorem dX11_seeps_62 : decode cX11_seeps 62 = .ok (.imul, 1) := by decide +kernel
theorem dX11_seeps_63 : decode cX11_seeps 63 = .ok (.idiv, 1) := by decide +kernel
theorem dX11_seeps_64 : decode cX11_seeps 64 = .ok (.goto 4, 3) := by decide +kernel
theorem dX11_seeps_67 : decode cX11_seeps 67 = .ok (.iconst 0, 1) := by decide +kernel
theorem dX11_seeps_68 : decode cX11_seeps 68 = .ok (.ireturn, 1) := by decide +kernel
theorem dX11_weekGoes_0 : decode cX11_weekGoes 0 = .ok (.iconst 0, 1) := by decide +kernel
theorem dX11_weekGoes_1 : decode cX11_weekGoes 1 = .ok (.istore 4, 2) := by decide +kernel
theorem dX11_weekGoes_3 : decode cX11_weekGoes 3 = .ok (.iload 4, 2) := by decide +kernel
theorem dX11_weekGoes_5 : decode cX11_weekGoes 5 = .ok (.aload_n 0, 1) := by decide +kernel
theorem dX11_weekGoes_6 : decode cX11_weekGoes 6 = .ok (.getfield 14, 3) := by decide +kernel
theorem dX11_weekGoes_9 : decode cX11_weekGoes 9 = .ok (.if_icmp .ge 38, 3) := by decide +kernel
theorem dX11_weekGoes_12 : decode cX11_weekGoes 12 = .ok (.aload_n 0, 1) := by decide +kernel
theorem dX11_weekGoes_13 : decode cX11_weekGoes 13 = .ok (.getfield 203, 3) := by decide +kernel
theorem dX11_weekGoes_16 : decode cX11_weekGoes 16 = .ok (.iload 4, 2) := by decide +kernel
theorem dX11_weekGoes_18 : decode cX11_weekGoes 18 = .ok (.aload_n 0, 1) := by decide +kernel
theorem dX11_weekGoes_19 : decode cX11_weekGoes 19 = .ok (.getfield 99, 3) := by decide +kernel
theorem dX11_weekGoes_22 : decode cX11_weekGoes 22 = .ok (.iload 4, 2) := by decide +kernel
theorem dX11_weekGoes_24 : decode cX11_weekGoes 24 = .ok (.iaload, 1) := by decide +kernel
theorem dX11_weekGoes_25 : decode cX11_weekGoes 25 = .ok (.iload_n 3, 1) := by decide +kernel
theorem dX11_weekGoes_26 : decode cX11_weekGoes 26 = .ok (.iload 4, 2) := by decide +kernel
theorem dX11_weekGoes_28 : decode cX11_weekGoes 28 = .ok (.invokestatic 108, 3) := by decide +kernel
theorem dX11_weekGoes_31 : decode cX11_weekGoes 31 = .ok (.ifCond .eq 7, 3) := by decide +kernel
theorem dX11_weekGoes_34 : decode cX11_weekGoes 34 = .ok (.iload_n 2, 1) := by decide +kernel
theorem dX11_weekGoes_35 : decode cX11_weekGoes 35 = .ok (.goto 4, 3) := by decide +kernel
theorem dX11_weekGoes_38 : decode cX11_weekGoes 38 = .ok (.iconst 0, 1) := by decide +kernel
theorem dX11_weekGoes_39 : decode cX11_weekGoes 39 = .ok (.iadd, 1) := by decide +kernel
theorem dX11_weekGoes_40 : decode cX11_weekGoes 40 = .ok (.iastore, 1) := by decide +kernel
theorem dX11_weekGoes_41 : decode cX11_weekGoes 41 = .ok (.iinc 4 1, 3) := by decide +kernel
theorem dX11_weekGoes_44 : decode cX11_weekGoes 44 = .ok (.goto (-41), 3) := by decide +kernel
theorem dX11_weekGoes_47 : decode cX11_weekGoes 47 = .ok (.iconst 0, 1) := by decide +kernel
theorem dX11_weekGoes_48 : decode cX11_weekGoes 48 = .ok (.istore 4, 2) := by decide +kernel
theorem dX11_weekGoes_50 : decode cX11_weekGoes 50 = .ok (.iload 4, 2) := by decide +kernel
theorem dX11_weekGoes_52 : decode cX11_weekGoes 52 = .ok (.aload_n 0, 1) := by decide +kernel
theorem dX11_weekGoes_53 : decode cX11_weekGoes 53 = .ok (.getfield 14, 3) := by decide +kernel
theorem dX11_weekGoes_56 : decode cX11_weekGoes 56 = .ok (.if_icmp .ge 128, 3) := by decide +kernel
theorem dX11_weekGoes_59 : decode cX11_weekGoes 59 = .ok (.iconst 0, 1) := by decide +kernel
theorem dX11_weekGoes_60 : decode cX11_weekGoes 60 = .ok (.istore 5, 2) := by decide +kernel
theorem dX11_weekGoes_62 : decode cX11_weekGoes 62 = .ok (.iconst 0, 1) := by decide +kernel
theorem dX11_weekGoes_63 : decode cX11_weekGoes 63 = .ok (.istore 6, 2) := by decide +kernel
theorem dX11_weekGoes_65 : decode cX11_weekGoes 65 = .ok (.iload 6, 2) := by decide +kernel
theorem dX11_weekGoes_67 : decode cX11_weekGoes 67 = .ok (.aload_n 0, 1) := by decide +kernel
theorem dX11_weekGoes_68 : decode cX11_weekGoes 68 = .ok (.getfield 14, 3) := by decide +kernel
theorem dX11_weekGoes_71 : decode cX11_weekGoes 71 = .ok (.if_icmp .ge 34, 3) := by decide +kernel
theorem dX11_weekGoes_74 : decode cX11_weekGoes 74 = .ok (.iload 5, 2) := by decide +kernel
theorem dX11_weekGoes_76 : decode cX11_weekGoes 76 = .ok (.iload 6, 2) := by decide +kernel
theorem dX11_weekGoes_78 : decode cX11_weekGoes 78 = .ok (.iload 4, 2) := by decide +kernel
theorem dX11_weekGoes_80 : decode cX11_weekGoes 80 = .ok (.if_icmp .ne 7, 3) := by decide +kernel
theorem dX11_weekGoes_83 : decode cX11_weekGoes 83 = .ok (.iconst 0, 1) := by decide +kernel
theorem dX11_weekGoes_84 : decode cX11_weekGoes 84 = .ok (.goto 12, 3) := by decide +kernel
theorem dX11_weekGoes_87 : decode cX11_weekGoes 87 = .ok (.aload_n 0, 1) := by decide +kernel
theorem dX11_weekGoes_88 : decode cX11_weekGoes 88 = .ok (.aload_n 1, 1) := by decide +kernel
theorem dX11_weekGoes_89 : decode cX11_weekGoes 89 = .ok (.iload 4, 2) := by decide +kernel
theorem dX11_weekGoes_91 : decode cX11_weekGoes 91 = .ok (.iload 6, 2) := by decide +kernel
theorem dX11_weekGoes_93 : decode cX11_weekGoes 93 = .ok (.invokevirtual 206, 3) := by decide +kernel
theorem dX11_weekGoes_96 : decode cX11_weekGoes 96 = .ok (.iadd, 1) := by decide +kernel
theorem dX11_weekGoes_97 : decode cX11_weekGoes 97 = .ok (.istore 5, 2) := by decide +kernel
theorem dX11_weekGoes_99 : decode cX11_weekGoes 99 = .ok (.iinc 6 1, 3) := by decide +kernel
theorem dX11_weekGoes_102 : decode cX11_weekGoes 102 = .ok (.goto (-37), 3) := by decide +kernel
theorem dX11_weekGoes_105 : decode cX11_weekGoes 105 = .ok (.iconst 0, 1) := by decide +kernel
theorem dX11_weekGoes_106 : decode cX11_weekGoes 106 = .ok (.istore 6, 2) := by decide +kernel
theorem dX11_weekGoes_108 : decode cX11_weekGoes 108 = .ok (.iload 6, 2) := by decide +kernel
theorem dX11_weekGoes_110 : decode cX11_weekGoes 110 = .ok (.aload_n 0, 1) := by decide +kernel
theorem dX11_weekGoes_111 : decode cX11_weekGoes 111 = .ok (.getfield 14, 3) := by decide +kernel
theorem dX11_weekGoes_114 : decode cX11_weekGoes 114 = .ok (.if_icmp .ge 64, 3) := by decide +kernel
theorem dX11_weekGoes_117 : decode cX11_weekGoes 117 = .ok (.iload 5, 2) := by decide +kernel
theorem dX11_weekGoes_119 : decode cX11_weekGoes 119 = .ok (.aload_n 1, 1) := by decide +kernel
theorem dX11_weekGoes_120 : decode cX11_weekGoes 120 = .ok (.iload 4, 2) := by decide +kernel
theorem dX11_weekGoes_122 : decode cX11_weekGoes 122 = .ok (.iaload, 1) := by decide +kernel
theorem dX11_weekGoes_123 : decode cX11_weekGoes 123 = .ok (.if_icmp .gt 55, 3) := by decide +kernel
theorem dX11_weekGoes_126 : decode cX11_weekGoes 126 = .ok (.iload 6, 2) := by decide +kernel
theorem dX11_weekGoes_128 : decode cX11_weekGoes 128 = .ok (.iload 4, 2) := by decide +kernel
theorem dX11_weekGoes_130 : decode cX11_weekGoes 130 = .ok (.if_icmp .ne 7, 3) := by decide +kernel
theorem dX11_weekGoes_133 : decode cX11_weekGoes 133 = .ok (.iconst 0, 1) := by decide +kernel
theorem dX11_weekGoes_134 : decode cX11_weekGoes 134 = .ok (.goto 12, 3) := by decide +kernel
theorem dX11_weekGoes_137 : decode cX11_weekGoes 137 = .ok (.aload_n 0, 1) := by decide +kernel
theorem dX11_weekGoes_138 : decode cX11_weekGoes 138 = .ok (.aload_n 1, 1) := by decide +kernel
theorem dX11_weekGoes_139 : decode cX11_weekGoes 139 = .ok (.iload 4, 2) := by decide +kernel
theorem dX11_weekGoes_141 : decode cX11_weekGoes 141 = .ok (.iload 6, 2) := by decide +kernel
theorem dX11_weekGoes_143 : decode cX11_weekGoes 143 = .ok (.invokevirtual 206, 3) := by decide +kernel
theorem dX11_weekGoes_146 : decode cX11_weekGoes 146 = .ok (.istore 7, 2) := by decide +kernel
theorem dX11_weekGoes_148 : decode cX11_weekGoes 148 = .ok (.aload_n 0, 1) := by decide +kernel
theorem dX11_weekGoes_149 : decode cX11_weekGoes 149 = .ok (.getfield 203, 3) := by decide +kernel
theorem dX11_weekGoes_152 : decode cX11_weekGoes 152 = .ok (.iload 4, 2) := by decide +kernel
theorem dX11_weekGoes_154 : decode cX11_weekGoes 154 = .ok (.dup2, 1) := by decide +kernel
theorem dX11_weekGoes_155 : decode cX11_weekGoes 155 = .ok (.iaload, 1) := by decide +kernel
theorem dX11_weekGoes_156 : decode cX11_weekGoes 156 = .ok (.iload 7, 2) := by decide +kernel
theorem dX11_weekGoes_158 : decode cX11_weekGoes 158 = .ok (.isub, 1) := by decide +kernel
theorem dX11_weekGoes_159 : decode cX11_weekGoes 159 = .ok (.iastore, 1) := by decide +kernel
theorem dX11_weekGoes_160 : decode cX11_weekGoes 160 = .ok (.aload_n 0, 1) := by decide +kernel
theorem dX11_weekGoes_161 : decode cX11_weekGoes 161 = .ok (.getfield 203, 3) := by decide +kernel
theorem dX11_weekGoes_164 : decode cX11_weekGoes 164 = .ok (.iload 6, 2) := by decide +kernel
theorem dX11_weekGoes_166 : decode cX11_weekGoes 166 = .ok (.dup2, 1) := by decide +kernel
theorem dX11_weekGoes_167 : decode cX11_weekGoes 167 = .ok (.iaload, 1) := by decide +kernel
theorem dX11_weekGoes_168 : decode cX11_weekGoes 168 = .ok (.iload 7, 2) := by decide +kernel
theorem dX11_weekGoes_170 : decode cX11_weekGoes 170 = .ok (.iadd, 1) := by decide +kernel
theorem dX11_weekGoes_171 : decode cX11_weekGoes 171 = .ok (.iastore, 1) := by decide +kernel
theorem dX11_weekGoes_172 : decode cX11_weekGoes 172 = .ok (.iinc 6 1, 3) := by decide +kernel
theorem dX11_weekGoes_175 : decode cX11_weekGoes 175 = .ok (.goto (-67), 3) := by decide +kernel
theorem dX11_weekGoes_178 : decode cX11_weekGoes 178 = .ok (.iinc 4 1, 3) := by decide +kernel
theorem dX11_weekGoes_181 : decode cX11_weekGoes 181 = .ok (.goto (-131), 3) := by decide +kernel
theorem dX11_weekGoes_184 : decode cX11_weekGoes 184 = .ok (.aload_n 0, 1) := by decide +kernel
theorem dX11_weekGoes_185 : decode cX11_weekGoes 185 = .ok (.iconst 0, 1) := by decide +kernel
theorem dX11_weekGoes_186 : decode cX11_weekGoes 186 = .ok (.putfield 210, 3) := by decide +kernel
theorem dX11_weekGoes_189 : decode cX11_weekGoes 189 = .ok (.iconst 0, 1) := by decide +kernel
theorem dX11_weekGoes_190 : decode cX11_weekGoes 190 = .ok (.istore 4, 2) := by decide +kernel
theorem dX11_weekGoes_192 : decode cX11_weekGoes 192 = .ok (.iload 4, 2) := by decide +kernel
theorem dX11_weekGoes_194 : decode cX11_weekGoes 194 = .ok (.aload_n 0, 1) := by decide +kernel
theorem dX11_weekGoes_195 : decode cX11_weekGoes 195 = .ok (.getfield 14, 3) := by decide +kernel
theorem dX11_weekGoes_198 : decode cX11_weekGoes 198 = .ok (.if_icmp .ge 56, 3) := by decide +kernel
theorem dX11_weekGoes_201 : decode cX11_weekGoes 201 = .ok (.aload_n 1, 1) := by decide +kernel
theorem dX11_weekGoes_202 : decode cX11_weekGoes 202 = .ok (.iload 4, 2) := by decide +kernel
theorem dX11_weekGoes_204 : decode cX11_weekGoes 204 = .ok (.iaload, 1) := by decide +kernel
theorem dX11_weekGoes_205 : decode cX11_weekGoes 205 = .ok (.aload_n 0, 1) := by decide +kernel
theorem dX11_weekGoes_206 : decode cX11_weekGoes 206 = .ok (.getfield 203, 3) := by decide +kernel
theorem dX11_weekGoes_209 : decode cX11_weekGoes 209 = .ok (.iload 4, 2) := by decide +kernel
theorem dX11_weekGoes_211 : decode cX11_weekGoes 211 = .ok (.iaload, 1) := by decide +kernel
theorem dX11_weekGoes_212 : decode cX11_weekGoes 212 = .ok (.iadd, 1) := by decide +kernel
theorem dX11_weekGoes_213 : decode cX11_weekGoes 213 = .ok (.istore 5, 2) := by decide +kernel
theorem dX11_weekGoes_215 : decode cX11_weekGoes 215 = .ok (.aload_n 0, 1) := by decide +kernel
theorem dX11_weekGoes_216 : decode cX11_weekGoes 216 = .ok (.dup, 1) := by decide +kernel
theorem dX11_weekGoes_217 : decode cX11_weekGoes 217 = .ok (.getfield 210, 3) := by decide +kernel
theorem dX11_weekGoes_220 : decode cX11_weekGoes 220 = .ok (.iconst 0, 1) := by decide +kernel
theorem dX11_weekGoes_221 : decode cX11_weekGoes 221 = .ok (.iload 5, 2) := by decide +kernel
theorem dX11_weekGoes_223 : decode cX11_weekGoes 223 = .ok (.bipush 99, 2) := by decide +kernel
theorem dX11_weekGoes_225 : decode cX11_weekGoes 225 = .ok (.isub, 1) := by decide +kernel
theorem dX11_weekGoes_226 : decode cX11_weekGoes 226 = .ok (.invokestatic 140, 3) := by decide +kernel
theorem dX11_weekGoes_229 : decode cX11_weekGoes 229 = .ok (.iadd, 1) := by decide +kernel
theorem dX11_weekGoes_230 : decode cX11_weekGoes 230 = .ok (.putfield 210, 3) := by decide +kernel
theorem dX11_weekGoes_233 : decode cX11_weekGoes 233 = .ok (.aload_n 1, 1) := by decide +kernel
theorem dX11_weekGoes_234 : decode cX11_weekGoes 234 = .ok (.iload 4, 2) := by decide +kernel
theorem dX11_weekGoes_236 : decode cX11_weekGoes 236 = .ok (.iconst 0, 1) := by decide +kernel
theorem dX11_weekGoes_237 : decode cX11_weekGoes 237 = .ok (.bipush 99, 2) := by decide +kernel
theorem dX11_weekGoes_239 : decode cX11_weekGoes 239 = .ok (.iload 5, 2) := by decide +kernel
theorem dX11_weekGoes_241 : decode cX11_weekGoes 241 = .ok (.invokestatic 34, 3) := by decide +kernel
theorem dX11_weekGoes_244 : decode cX11_weekGoes 244 = .ok (.invokestatic 140, 3) := by decide +kernel
theorem dX11_weekGoes_247 : decode cX11_weekGoes 247 = .ok (.iastore, 1) := by decide +kernel
theorem dX11_weekGoes_248 : decode cX11_weekGoes 248 = .ok (.iinc 4 1, 3) := by decide +kernel
theorem dX11_weekGoes_251 : decode cX11_weekGoes 251 = .ok (.goto (-59), 3) := by decide +kernel
theorem dX11_weekGoes_254 : decode cX11_weekGoes 254 = .ok (.return_, 1) := by decide +kernel
theorem dX11_weekPays_0 : decode cX11_weekPays 0 = .ok (.aload_n 0, 1) := by decide +kernel
theorem dX11_weekPays_1 : decode cX11_weekPays 1 = .ok (.aload_n 0, 1) := by decide +kernel
theorem dX11_weekPays_2 : decode cX11_weekPays 2 = .ok (.getfield 96, 3) := by decide +kernel
theorem dX11_weekPays_5 : decode cX11_weekPays 5 = .ok (.iload_n 1, 1) := by decide +kernel
theorem dX11_weekPays_6 : decode cX11_weekPays 6 = .ok (.iload_n 2, 1) := by decide +kernel
theorem dX11_weekPays_7 : decode cX11_weekPays 7 = .ok (.invokevirtual 213, 3) := by decide +kernel
theorem dX11_weekPays_10 : decode cX11_weekPays 10 = .ok (.aload_n 0, 1) := by decide +kernel
theorem dX11_weekPays_11 : decode cX11_weekPays 11 = .ok (.dup, 1) := by decide +kernel
theorem dX11_weekPays_12 : decode cX11_weekPays 12 = .ok (.getfield 160, 3) := by decide +kernel
theorem dX11_weekPays_15 : decode cX11_weekPays 15 = .ok (.iconst 1, 1) := by decide +kernel
theorem dX11_weekPays_16 : decode cX11_weekPays 16 = .ok (.iadd, 1) := by decide +kernel
theorem dX11_weekPays_17 : decode cX11_weekPays 17 = .ok (.putfield 160, 3) := by decide +kernel
theorem dX11_weekPays_20 : decode cX11_weekPays 20 = .ok (.iconst 0, 1) := by decide +kernel
theorem dX11_weekPays_21 : decode cX11_weekPays 21 = .ok (.istore_n 3, 1) := by decide +kernel
theorem dX11_weekPays_22 : decode cX11_weekPays 22 = .ok (.iconst 0, 1) := by decide +kernel
theorem dX11_weekPays_23 : decode cX11_weekPays 23 = .ok (.istore 4, 2) := by decide +kernel
theorem dX11_weekPays_25 : decode cX11_weekPays 25 = .ok (.iload 4, 2) := by decide +kernel
theorem dX11_weekPays_27 : decode cX11_weekPays 27 = .ok (.aload_n 0, 1) := by decide +kernel
theorem dX11_weekPays_28 : decode cX11_weekPays 28 = .ok (.getfield 14, 3) := by decide +kernel
theorem dX11_weekPays_31 : decode cX11_weekPays 31 = .ok (.if_icmp .ge 48, 3) := by decide +kernel
theorem dX11_weekPays_34 : decode cX11_weekPays 34 = .ok (.aload_n 0, 1) := by decide +kernel
theorem dX11_weekPays_35 : decode cX11_weekPays 35 = .ok (.getfield 115, 3) := by decide +kernel
theorem dX11_weekPays_38 : decode cX11_weekPays 38 = .ok (.iconst 1, 1) := by decide +kernel
theorem dX11_weekPays_39 : decode cX11_weekPays 39 = .ok (.iaload, 1) := by decide +kernel
theorem dX11_weekPays_40 : decode cX11_weekPays 40 = .ok (.aload_n 0, 1) := by decide +kernel
theorem dX11_weekPays_41 : decode cX11_weekPays 41 = .ok (.aload_n 0, 1) := by decide +kernel
theorem dX11_weekPays_42 : decode cX11_weekPays 42 = .ok (.getfield 96, 3) := by decide +kernel
theorem dX11_weekPays_45 : decode cX11_weekPays 45 = .ok (.iload 4, 2) := by decide +kernel
theorem dX11_weekPays_47 : decode cX11_weekPays 47 = .ok (.invokevirtual 122, 3) := by decide +kernel
theorem dX11_weekPays_50 : decode cX11_weekPays 50 = .ok (.invokestatic 126, 3) := by decide +kernel
theorem dX11_weekPays_53 : decode cX11_weekPays 53 = .ok (.imul, 1) := by decide +kernel
theorem dX11_weekPays_54 : decode cX11_weekPays 54 = .ok (.istore 5, 2) := by decide +kernel
theorem dX11_weekPays_56 : decode cX11_weekPays 56 = .ok (.aload_n 0, 1) := by decide +kernel
theorem dX11_weekPays_57 : decode cX11_weekPays 57 = .ok (.getfield 102, 3) := by decide +kernel
theorem dX11_weekPays_60 : decode cX11_weekPays 60 = .ok (.iload 4, 2) := by decide +kernel
theorem dX11_weekPays_62 : decode cX11_weekPays 62 = .ok (.dup2, 1) := by decide +kernel
theorem dX11_weekPays_63 : decode cX11_weekPays 63 = .ok (.iaload, 1) := by decide +kernel
theorem dX11_weekPays_64 : decode cX11_weekPays 64 = .ok (.iload 5, 2) := by decide +kernel
theorem dX11_weekPays_66 : decode cX11_weekPays 66 = .ok (.iadd, 1) := by decide +kernel
theorem dX11_weekPays_67 : decode cX11_weekPays 67 = .ok (.iastore, 1) := by decide +kernel
theorem dX11_weekPays_68 : decode cX11_weekPays 68 = .ok (.iload_n 3, 1) := by decide +kernel
theorem dX11_weekPays_69 : decode cX11_weekPays 69 = .ok (.iload 5, 2) := by decide +kernel
theorem dX11_weekPays_71 : decode cX11_weekPays 71 = .ok (.iadd, 1) := by decide +kernel
theorem dX11_weekPays_72 : decode cX11_weekPays 72 = .ok (.istore_n 3, 1) := by decide +kernel
theorem dX11_weekPays_73 : decode cX11_weekPays 73 = .ok (.iinc 4 1, 3) := by decide +kernel
theorem dX11_weekPays_76 : decode cX11_weekPays 76 = .ok (.goto (-51), 3) := by decide +kernel
theorem dX11_weekPays_79 : decode cX11_weekPays 79 = .ok (.iload_n 3, 1) := by decide +kernel
theorem dX11_weekPays_80 : decode cX11_weekPays 80 = .ok (.ireturn, 1) := by decide +kernel
theorem dX11_week_0 : decode cX11_week 0 = .ok (.aload_n 0, 1) := by decide +kernel
theorem dX11_week_1 : decode cX11_week 1 = .ok (.iconst 0, 1) := by decide +kernel
theorem dX11_week_2 : decode cX11_week 2 = .ok (.putfield 3, 3) := by decide +kernel
theorem dX11_week_5 : decode cX11_week 5 = .ok (.iload_n 1, 1) := by decide +kernel
theorem dX11_week_6 : decode cX11_week 6 = .ok (.i2l, 1) := by decide +kernel
theorem dX11_week_7 : decode cX11_week 7 = .ok (.ldc2_w 216, 3) := by decide +kernel
theorem dX11_week_10 : decode cX11_week 10 = .ok (.ldc2_w 145, 3) := by decide +kernel
theorem dX11_week_13 : decode cX11_week 13 = .ok (.invokestatic 17, 3) := by decide +kernel
theorem dX11_week_16 : decode cX11_week 16 = .ok (.ifCond .eq 11, 3) := by decide +kernel
theorem dX11_week_19 : decode cX11_week 19 = .ok (.aload_n 0, 1) := by decide +kernel
theorem dX11_week_20 : decode cX11_week 20 = .ok (.iload_n 2, 1) := by decide +kernel
theorem dX11_week_21 : decode cX11_week 21 = .ok (.invokevirtual 218, 3) := by decide +kernel
theorem dX11_week_24 : decode cX11_week 24 = .ok (.ifCond .ne 5, 3) := by decide +kernel
theorem dX11_week_27 : decode cX11_week 27 = .ok (.iconst (-1), 1) := by decide +kernel
theorem dX11_week_28 : decode cX11_week 28 = .ok (.ireturn, 1) := by decide +kernel
theorem dX11_week_29 : decode cX11_week 29 = .ok (.aload_n 0, 1) := by decide +kernel
theorem dX11_week_30 : decode cX11_week 30 = .ok (.invokevirtual 170, 3) := by decide +kernel
theorem dX11_week_33 : decode cX11_week 33 = .ok (.aload_n 0, 1) := by decide +kernel
theorem dX11_week_34 : decode cX11_week 34 = .ok (.iload_n 1, 1) := by decide +kernel
theorem dX11_week_35 : decode cX11_week 35 = .ok (.iload_n 2, 1) := by decide +kernel
theorem dX11_week_36 : decode cX11_week 36 = .ok (.invokevirtual 221, 3) := by decide +kernel
theorem dX11_week_39 : decode cX11_week 39 = .ok (.istore_n 3, 1) := by decide +kernel
theorem dX11_week_40 : decode cX11_week 40 = .ok (.aload_n 0, 1) := by decide +kernel
theorem dX11_week_41 : decode cX11_week 41 = .ok (.invokevirtual 178, 3) := by decide +kernel
theorem dX11_week_44 : decode cX11_week 44 = .ok (.aload_n 0, 1) := by decide +kernel
theorem dX11_week_45 : decode cX11_week 45 = .ok (.iconst 0, 1) := by decide +kernel
theorem dX11_week_46 : decode cX11_week 46 = .ok (.putfield 11, 3) := by decide +kernel
theorem dX11_week_49 : decode cX11_week 49 = .ok (.aload_n 0, 1) := by decide +kernel
theorem dX11_week_50 : decode cX11_week 50 = .ok (.iload_n 3, 1) := by decide +kernel
theorem dX11_week_51 : decode cX11_week 51 = .ok (.invokevirtual 200, 3) := by decide +kernel
theorem dX11_week_54 : decode cX11_week 54 = .ok (.aload_n 0, 1) := by decide +kernel
theorem dX11_week_55 : decode cX11_week 55 = .ok (.aload_n 0, 1) := by decide +kernel
theorem dX11_week_56 : decode cX11_week 56 = .ok (.getfield 210, 3) := by decide +kernel
theorem dX11_week_59 : decode cX11_week 59 = .ok (.invokevirtual 200, 3) := by decide +kernel
theorem dX11_week_62 : decode cX11_week 62 = .ok (.aload_n 0, 1) := by decide +kernel
theorem dX11_week_63 : decode cX11_week 63 = .ok (.aload_n 0, 1) := by decide +kernel
theorem dX11_week_64 : decode cX11_week 64 = .ok (.getfield 96, 3) := by decide +kernel
theorem dX11_week_67 : decode cX11_week 67 = .ok (.invokevirtual 224, 3) := by decide +kernel
theorem dX11_week_70 : decode cX11_week 70 = .ok (.ireturn, 1) := by decide +kernel
theorem dX11_weeks_0 : decode cX11_weeks 0 = .ok (.aload_n 0, 1) := by decide +kernel
theorem dX11_weeks_1 : decode cX11_weeks 1 = .ok (.iconst 0, 1) := by decide +kernel
theorem dX11_weeks_2 : decode cX11_weeks 2 = .ok (.putfield 3, 3) := by decide +kernel
theorem dX11_weeks_5 : decode cX11_weeks 5 = .ok (.iload_n 1, 1) := by decide +kernel
theorem dX11_weeks_6 : decode cX11_weeks 6 = .ok (.i2l, 1) := by decide +kernel
theorem dX11_weeks_7 : decode cX11_weeks 7 = .ok (.lconst 0, 1) := by decide +kernel
theorem dX11_weeks_8 : decode cX11_weeks 8 = .ok (.ldc2_w 228, 3) := by decide +kernel
theorem dX11_weeks_11 : decode cX11_weeks 11 = .ok (.invokestatic 17, 3) := by decide +kernel
theorem dX11_weeks_14 : decode cX11_weeks 14 = .ok (.ifCond .ne 5, 3) := by decide +kernel
theorem dX11_weeks_17 : decode cX11_weeks 17 = .ok (.iconst (-1), 1) := by decide +kernel
theorem dX11_weeks_18 : decode cX11_weeks 18 = .ok (.ireturn, 1) := by decide +kernel
theorem dX11_weeks_19 : decode cX11_weeks 19 = .ok (.aload_n 0, 1) := by decide +kernel
theorem dX11_weeks_20 : decode cX11_weeks 20 = .ok (.invokevirtual 170, 3) := by decide +kernel
theorem dX11_weeks_23 : decode cX11_weeks 23 = .ok (.iconst 0, 1) := by decide +kernel
theorem dX11_weeks_24 : decode cX11_weeks 24 = .ok (.istore_n 2, 1) := by decide +kernel
theorem dX11_weeks_25 : decode cX11_weeks 25 = .ok (.iconst 0, 1) := by decide +kernel
theorem dX11_weeks_26 : decode cX11_weeks 26 = .ok (.istore_n 3, 1) := by decide +kernel
theorem dX11_weeks_27 : decode cX11_weeks 27 = .ok (.iconst 0, 1) := by decide +kernel
theorem dX11_weeks_28 : decode cX11_weeks 28 = .ok (.istore 4, 2) := by decide +kernel
theorem dX11_weeks_30 : decode cX11_weeks 30 = .ok (.iload 4, 2) := by decide +kernel
theorem dX11_weeks_32 : decode cX11_weeks 32 = .ok (.iload_n 1, 1) := by decide +kernel
theorem dX11_weeks_33 : decode cX11_weeks 33 = .ok (.if_icmp .ge 40, 3) := by decide +kernel
theorem dX11_weeks_36 : decode cX11_weeks 36 = .ok (.iload_n 2, 1) := by decide +kernel
theorem dX11_weeks_37 : decode cX11_weeks 37 = .ok (.aload_n 0, 1) := by decide +kernel
theorem dX11_weeks_38 : decode cX11_weeks 38 = .ok (.iconst 0, 1) := by decide +kernel
theorem dX11_weeks_39 : decode cX11_weeks 39 = .ok (.iconst 0, 1) := by decide +kernel
theorem dX11_weeks_40 : decode cX11_weeks 40 = .ok (.invokevirtual 221, 3) := by decide +kernel
theorem dX11_weeks_43 : decode cX11_weeks 43 = .ok (.iadd, 1) := by decide +kernel
theorem dX11_weeks_44 : decode cX11_weeks 44 = .ok (.istore_n 2, 1) := by decide +kernel
theorem dX11_weeks_45 : decode cX11_weeks 45 = .ok (.iload_n 3, 1) := by decide +kernel
theorem dX11_weeks_46 : decode cX11_weeks 46 = .ok (.aload_n 0, 1) := by decide +kernel
theorem dX11_weeks_47 : decode cX11_weeks 47 = .ok (.aload_n 0, 1) := by decide +kernel
theorem dX11_weeks_48 : decode cX11_weeks 48 = .ok (.getfield 96, 3) := by decide +kernel
theorem dX11_weeks_51 : decode cX11_weeks 51 = .ok (.invokevirtual 224, 3) := by decide +kernel
theorem dX11_weeks_54 : decode cX11_weeks 54 = .ok (.ifCond .ne 7, 3) := by decide +kernel
theorem dX11_weeks_57 : decode cX11_weeks 57 = .ok (.iconst 1, 1) := by decide +kernel
theorem dX11_weeks_58 : decode cX11_weeks 58 = .ok (.goto 4, 3) := by decide +kernel
theorem dX11_weeks_61 : decode cX11_weeks 61 = .ok (.iconst 0, 1) := by decide +kernel
theorem dX11_weeks_62 : decode cX11_weeks 62 = .ok (.invokestatic 43, 3) := by decide +kernel
theorem dX11_weeks_65 : decode cX11_weeks 65 = .ok (.iadd, 1) := by decide +kernel
theorem dX11_weeks_66 : decode cX11_weeks 66 = .ok (.istore_n 3, 1) := by decide +kernel
theorem dX11_weeks_67 : decode cX11_weeks 67 = .ok (.iinc 4 1, 3) := by decide +kernel
theorem dX11_weeks_70 : decode cX11_weeks 70 = .ok (.goto (-40), 3) := by decide +kernel
theorem dX11_weeks_73 : decode cX11_weeks 73 = .ok (.iload_n 1, 1) := by decide +kernel
theorem dX11_weeks_74 : decode cX11_weeks 74 = .ok (.ifCond .le 7, 3) := by decide +kernel
theorem dX11_weeks_77 : decode cX11_weeks 77 = .ok (.aload_n 0, 1) := by decide +kernel
theorem dX11_weeks_78 : decode cX11_weeks 78 = .ok (.invokevirtual 178, 3) := by decide +kernel
theorem dX11_weeks_81 : decode cX11_weeks 81 = .ok (.aload_n 0, 1) := by decide +kernel
theorem dX11_weeks_82 : decode cX11_weeks 82 = .ok (.iconst 0, 1) := by decide +kernel
theorem dX11_weeks_83 : decode cX11_weeks 83 = .ok (.putfield 11, 3) := by decide +kernel
theorem dX11_weeks_86 : decode cX11_weeks 86 = .ok (.aload_n 0, 1) := by decide +kernel
theorem dX11_weeks_87 : decode cX11_weeks 87 = .ok (.iload_n 3, 1) := by decide +kernel
theorem dX11_weeks_88 : decode cX11_weeks 88 = .ok (.invokevirtual 200, 3) := by decide +kernel
theorem dX11_weeks_91 : decode cX11_weeks 91 = .ok (.iload_n 2, 1) := by decide +kernel
theorem dX11_weeks_92 : decode cX11_weeks 92 = .ok (.ireturn, 1) := by decide +kernel
theorem dX11_even_0 : decode cX11_even 0 = .ok (.aload_n 0, 1) := by decide +kernel
theorem dX11_even_1 : decode cX11_even 1 = .ok (.iconst 0, 1) := by decide +kernel
theorem dX11_even_2 : decode cX11_even 2 = .ok (.putfield 3, 3) := by decide +kernel
theorem dX11_even_5 : decode cX11_even 5 = .ok (.iconst 0, 1) := by decide +kernel
theorem dX11_even_6 : decode cX11_even 6 = .ok (.istore_n 1, 1) := by decide +kernel
theorem dX11_even_7 : decode cX11_even 7 = .ok (.aload_n 0, 1) := by decide +kernel
theorem dX11_even_8 : decode cX11_even 8 = .ok (.iconst 0, 1) := by decide +kernel
theorem dX11_even_9 : decode cX11_even 9 = .ok (.putfield 11, 3) := by decide +kernel
theorem dX11_even_12 : decode cX11_even 12 = .ok (.iconst 0, 1) := by decide +kernel
theorem dX11_even_13 : decode cX11_even 13 = .ok (.istore_n 2, 1) := by decide +kernel
theorem dX11_even_14 : decode cX11_even 14 = .ok (.iload_n 2, 1) := by decide +kernel
theorem dX11_even_15 : decode cX11_even 15 = .ok (.aload_n 0, 1) := by decide +kernel
theorem dX11_even_16 : decode cX11_even 16 = .ok (.getfield 14, 3) := by decide +kernel
theorem dX11_even_19 : decode cX11_even 19 = .ok (.if_icmp .ge 67, 3) := by decide +kernel
theorem dX11_even_22 : decode cX11_even 22 = .ok (.iload_n 2, 1) := by decide +kernel
theorem dX11_even_23 : decode cX11_even 23 = .ok (.iconst 1, 1) := by decide +kernel
theorem dX11_even_24 : decode cX11_even 24 = .ok (.iadd, 1) := by decide +kernel
theorem dX11_even_25 : decode cX11_even 25 = .ok (.istore_n 3, 1) := by decide +kernel
theorem dX11_even_26 : decode cX11_even 26 = .ok (.iload_n 3, 1) := by decide +kernel
theorem dX11_even_27 : decode cX11_even 27 = .ok (.aload_n 0, 1) := by decide +kernel
theorem dX11_even_28 : decode cX11_even 28 = .ok (.getfield 14, 3) := by decide +kernel
theorem dX11_even_31 : decode cX11_even 31 = .ok (.if_icmp .ge 49, 3) := by decide +kernel
theorem dX11_even_34 : decode cX11_even 34 = .ok (.aload_n 0, 1) := by decide +kernel
theorem dX11_even_35 : decode cX11_even 35 = .ok (.aload_n 0, 1) := by decide +kernel
theorem dX11_even_36 : decode cX11_even 36 = .ok (.getfield 96, 3) := by decide +kernel
theorem dX11_even_39 : decode cX11_even 39 = .ok (.iload_n 2, 1) := by decide +kernel
theorem dX11_even_40 : decode cX11_even 40 = .ok (.iload_n 3, 1) := by decide +kernel
theorem dX11_even_41 : decode cX11_even 41 = .ok (.invokevirtual 118, 3) := by decide +kernel
theorem dX11_even_44 : decode cX11_even 44 = .ok (.ifCond .ne 6, 3) := by decide +kernel
theorem dX11_even_47 : decode cX11_even 47 = .ok (.goto 27, 3) := by decide +kernel
theorem dX11_even_50 : decode cX11_even 50 = .ok (.iload_n 1, 1) := by decide +kernel
theorem dX11_even_51 : decode cX11_even 51 = .ok (.ifCond .ne 13, 3) := by decide +kernel
theorem dX11_even_54 : decode cX11_even 54 = .ok (.aload_n 0, 1) := by decide +kernel
theorem dX11_even_55 : decode cX11_even 55 = .ok (.iload_n 2, 1) := by decide +kernel
theorem dX11_even_56 : decode cX11_even 56 = .ok (.invokevirtual 200, 3) := by decide +kernel
theorem dX11_even_59 : decode cX11_even 59 = .ok (.aload_n 0, 1) := by decide +kernel
theorem dX11_even_60 : decode cX11_even 60 = .ok (.iload_n 3, 1) := by decide +kernel
theorem dX11_even_61 : decode cX11_even 61 = .ok (.invokevirtual 200, 3) := by decide +kernel
theorem dX11_even_64 : decode cX11_even 64 = .ok (.iload_n 1, 1) := by decide +kernel
theorem dX11_even_65 : decode cX11_even 65 = .ok (.iconst 1, 1) := by decide +kernel
theorem dX11_even_66 : decode cX11_even 66 = .ok (.iload_n 2, 1) := by decide +kernel
theorem dX11_even_67 : decode cX11_even 67 = .ok (.ishl, 1) := by decide +kernel
theorem dX11_even_68 : decode cX11_even 68 = .ok (.iconst 1, 1) := by decide +kernel
theorem dX11_even_69 : decode cX11_even 69 = .ok (.iload_n 3, 1) := by decide +kernel
theorem dX11_even_70 : decode cX11_even 70 = .ok (.ishl, 1) := by decide +kernel
theorem dX11_even_71 : decode cX11_even 71 = .ok (.ior, 1) := by decide +kernel
theorem dX11_even_72 : decode cX11_even 72 = .ok (.ior, 1) := by decide +kernel
theorem dX11_even_73 : decode cX11_even 73 = .ok (.istore_n 1, 1) := by decide +kernel
theorem dX11_even_74 : decode cX11_even 74 = .ok (.iinc 3 1, 3) := by decide +kernel
theorem dX11_even_77 : decode cX11_even 77 = .ok (.goto (-51), 3) := by decide +kernel
theorem dX11_even_80 : decode cX11_even 80 = .ok (.iinc 2 1, 3) := by decide +kernel
theorem dX11_even_83 : decode cX11_even 83 = .ok (.goto (-69), 3) := by decide +kernel
theorem dX11_even_86 : decode cX11_even 86 = .ok (.aload_n 0, 1) := by decide +kernel
theorem dX11_even_87 : decode cX11_even 87 = .ok (.iload_n 1, 1) := by decide +kernel
theorem dX11_even_88 : decode cX11_even 88 = .ok (.invokevirtual 200, 3) := by decide +kernel
theorem dX11_even_91 : decode cX11_even 91 = .ok (.aload_n 0, 1) := by decide +kernel
theorem dX11_even_92 : decode cX11_even 92 = .ok (.aload_n 0, 1) := by decide +kernel
theorem dX11_even_93 : decode cX11_even 93 = .ok (.getfield 96, 3) := by decide +kernel
theorem dX11_even_96 : decode cX11_even 96 = .ok (.invokevirtual 224, 3) := by decide +kernel
theorem dX11_even_99 : decode cX11_even 99 = .ok (.ireturn, 1) := by decide +kernel
theorem dX11_packed_0 : decode cX11_packed 0 = .ok (.lconst 0, 1) := by decide +kernel
theorem dX11_packed_1 : decode cX11_packed 1 = .ok (.lstore_n 2, 1) := by decide +kernel
theorem dX11_packed_2 : decode cX11_packed 2 = .ok (.iconst 0, 1) := by decide +kernel
theorem dX11_packed_3 : decode cX11_packed 3 = .ok (.istore 4, 2) := by decide +kernel
theorem dX11_packed_5 : decode cX11_packed 5 = .ok (.iload 4, 2) := by decide +kernel
theorem dX11_packed_7 : decode cX11_packed 7 = .ok (.aload_n 0, 1) := by decide +kernel
theorem dX11_packed_8 : decode cX11_packed 8 = .ok (.getfield 14, 3) := by decide +kernel
theorem dX11_packed_11 : decode cX11_packed 11 = .ok (.if_icmp .ge 20, 3) := by decide +kernel
theorem dX11_packed_14 : decode cX11_packed 14 = .ok (.lload_n 2, 1) := by decide +kernel
theorem dX11_packed_15 : decode cX11_packed 15 = .ok (.bipush 7, 2) := by decide +kernel
theorem dX11_packed_17 : decode cX11_packed 17 = .ok (.lshl, 1) := by decide +kernel
theorem dX11_packed_18 : decode cX11_packed 18 = .ok (.aload_n 1, 1) := by decide +kernel
theorem dX11_packed_19 : decode cX11_packed 19 = .ok (.iload 4, 2) := by decide +kernel
theorem dX11_packed_21 : decode cX11_packed 21 = .ok (.iaload, 1) := by decide +kernel
theorem dX11_packed_22 : decode cX11_packed 22 = .ok (.i2l, 1) := by decide +kernel
theorem dX11_packed_23 : decode cX11_packed 23 = .ok (.lor, 1) := by decide +kernel
theorem dX11_packed_24 : decode cX11_packed 24 = .ok (.lstore_n 2, 1) := by decide +kernel
theorem dX11_packed_25 : decode cX11_packed 25 = .ok (.iinc 4 1, 3) := by decide +kernel
theorem dX11_packed_28 : decode cX11_packed 28 = .ok (.goto (-23), 3) := by decide +kernel
theorem dX11_packed_31 : decode cX11_packed 31 = .ok (.lload_n 2, 1) := by decide +kernel
theorem dX11_packed_32 : decode cX11_packed 32 = .ok (.lreturn, 1) := by decide +kernel
theorem dX11_unpacks_0 : decode cX11_unpacks 0 = .ok (.aload_n 0, 1) := by decide +kernel
theorem dX11_unpacks_1 : decode cX11_unpacks 1 = .ok (.getfield 230, 3) := by decide +kernel
theorem dX11_unpacks_4 : decode cX11_unpacks 4 = .ok (.iload_n 1, 1) := by decide +kernel
theorem dX11_unpacks_5 : decode cX11_unpacks 5 = .ok (.laload, 1) := by decide +kernel
theorem dX11_unpacks_6 : decode cX11_unpacks 6 = .ok (.lstore_n 2, 1) := by decide +kernel
theorem dX11_unpacks_7 : decode cX11_unpacks 7 = .ok (.aload_n 0, 1) := by decide +kernel
theorem dX11_unpacks_8 : decode cX11_unpacks 8 = .ok (.getfield 14, 3) := by decide +kernel
theorem dX11_unpacks_11 : decode cX11_unpacks 11 = .ok (.iconst 1, 1) := by decide +kernel
theorem dX11_unpacks_12 : decode cX11_unpacks 12 = .ok (.isub, 1) := by decide +kernel
theorem dX11_unpacks_13 : decode cX11_unpacks 13 = .ok (.istore 4, 2) := by decide +kernel
theorem dX11_unpacks_15 : decode cX11_unpacks 15 = .ok (.iload 4, 2) := by decide +kernel
theorem dX11_unpacks_17 : decode cX11_unpacks 17 = .ok (.ifCond .lt 27, 3) := by decide +kernel
theorem dX11_unpacks_20 : decode cX11_unpacks 20 = .ok (.aload_n 0, 1) := by decide +kernel
theorem dX11_unpacks_21 : decode cX11_unpacks 21 = .ok (.getfield 234, 3) := by decide +kernel
theorem dX11_unpacks_24 : decode cX11_unpacks 24 = .ok (.iload 4, 2) := by decide +kernel
theorem dX11_unpacks_26 : decode cX11_unpacks 26 = .ok (.lload_n 2, 1) := by decide +kernel
theorem dX11_unpacks_27 : decode cX11_unpacks 27 = .ok (.ldc2_w 237, 3) := by decide +kernel
theorem dX11_unpacks_30 : decode cX11_unpacks 30 = .ok (.land, 1) := by decide +kernel
theorem dX11_unpacks_31 : decode cX11_unpacks 31 = .ok (.l2i, 1) := by decide +kernel
theorem dX11_unpacks_32 : decode cX11_unpacks 32 = .ok (.iastore, 1) := by decide +kernel
theorem dX11_unpacks_33 : decode cX11_unpacks 33 = .ok (.lload_n 2, 1) := by decide +kernel
theorem dX11_unpacks_34 : decode cX11_unpacks 34 = .ok (.bipush 7, 2) := by decide +kernel
theorem dX11_unpacks_36 : decode cX11_unpacks 36 = .ok (.lshr, 1) := by decide +kernel
theorem dX11_unpacks_37 : decode cX11_unpacks 37 = .ok (.lstore_n 2, 1) := by decide +kernel
theorem dX11_unpacks_38 : decode cX11_unpacks 38 = .ok (.iinc 4 (-1), 3) := by decide +kernel
theorem dX11_unpacks_41 : decode cX11_unpacks 41 = .ok (.goto (-26), 3) := by decide +kernel
theorem dX11_unpacks_44 : decode cX11_unpacks 44 = .ok (.return_, 1) := by decide +kernel
theorem dX11_slotOf_0 : decode cX11_slotOf 0 = .ok (.lload_n 1, 1) := by decide +kernel
theorem dX11_slotOf_1 : decode cX11_slotOf 1 = .ok (.lload_n 1, 1) := by decide +kernel
theorem dX11_slotOf_2 : decode cX11_slotOf 2 = .ok (.bipush 29, 2) := by decide +kernel
theorem dX11_slotOf_4 : decode cX11_slotOf 4 = .ok (.lushr, 1) := by decide +kernel
theorem dX11_slotOf_5 : decode cX11_slotOf 5 = .ok (.lxor, 1) := by decide +kernel
theorem dX11_slotOf_6 : decode cX11_slotOf 6 = .ok (.ldc2_w 239, 3) := by decide +kernel
theorem dX11_slotOf_9 : decode cX11_slotOf 9 = .ok (.lmul, 1) := by decide +kernel
theorem dX11_slotOf_10 : decode cX11_slotOf 10 = .ok (.ldc2_w 243, 3) := by decide +kernel
theorem dX11_slotOf_13 : decode cX11_slotOf 13 = .ok (.land, 1) := by decide +kernel
theorem dX11_slotOf_14 : decode cX11_slotOf 14 = .ok (.ldc2_w 245, 3) := by decide +kernel
theorem dX11_slotOf_17 : decode cX11_slotOf 17 = .ok (.lrem, 1) := by decide +kernel
theorem dX11_slotOf_18 : decode cX11_slotOf 18 = .ok (.l2i, 1) := by decide +kernel
theorem dX11_slotOf_19 : decode cX11_slotOf 19 = .ok (.istore_n 3, 1) := by decide +kernel
theorem dX11_slotOf_20 : decode cX11_slotOf 20 = .ok (.aload_n 0, 1) := by decide +kernel
theorem dX11_slotOf_21 : decode cX11_slotOf 21 = .ok (.getfield 247, 3) := by decide +kernel
theorem dX11_slotOf_24 : decode cX11_slotOf 24 = .ok (.iload_n 3, 1) := by decide +kernel
theorem dX11_slotOf_25 : decode cX11_slotOf 25 = .ok (.iaload, 1) := by decide +kernel
theorem dX11_slotOf_26 : decode cX11_slotOf 26 = .ok (.ifCond .lt 30, 3) := by decide +kernel
theorem dX11_slotOf_29 : decode cX11_slotOf 29 = .ok (.aload_n 0, 1) := by decide +kernel
theorem dX11_slotOf_30 : decode cX11_slotOf 30 = .ok (.getfield 230, 3) := by decide +kernel
theorem dX11_slotOf_33 : decode cX11_slotOf 33 = .ok (.aload_n 0, 1) := by decide +kernel
theorem dX11_slotOf_34 : decode cX11_slotOf 34 = .ok (.getfield 247, 3) := by decide +kernel
theorem dX11_slotOf_37 : decode cX11_slotOf 37 = .ok (.iload_n 3, 1) := by decide +kernel
theorem dX11_slotOf_38 : decode cX11_slotOf 38 = .ok (.iaload, 1) := by decide +kernel
theorem dX11_slotOf_39 : decode cX11_slotOf 39 = .ok (.laload, 1) := by decide +kernel
theorem dX11_slotOf_40 : decode cX11_slotOf 40 = .ok (.lload_n 1, 1) := by decide +kernel
theorem dX11_slotOf_41 : decode cX11_slotOf 41 = .ok (.lcmp, 1) := by decide +kernel
theorem dX11_slotOf_42 : decode cX11_slotOf 42 = .ok (.ifCond .eq 14, 3) := by decide +kernel
theorem dX11_slotOf_45 : decode cX11_slotOf 45 = .ok (.iload_n 3, 1) := by decide +kernel
theorem dX11_slotOf_46 : decode cX11_slotOf 46 = .ok (.iconst 1, 1) := by decide +kernel
theorem dX11_slotOf_47 : decode cX11_slotOf 47 = .ok (.iadd, 1) := by decide +kernel
theorem dX11_slotOf_48 : decode cX11_slotOf 48 = .ok (.sipush 16384, 3) := by decide +kernel
theorem dX11_slotOf_51 : decode cX11_slotOf 51 = .ok (.irem, 1) := by decide +kernel
theorem dX11_slotOf_52 : decode cX11_slotOf 52 = .ok (.istore_n 3, 1) := by decide +kernel
theorem dX11_slotOf_53 : decode cX11_slotOf 53 = .ok (.goto (-33), 3) := by decide +kernel
theorem dX11_slotOf_56 : decode cX11_slotOf 56 = .ok (.iload_n 3, 1) := by decide +kernel
theorem dX11_slotOf_57 : decode cX11_slotOf 57 = .ok (.ireturn, 1) := by decide +kernel
theorem dX11_finds_0 : decode cX11_finds 0 = .ok (.aload_n 0, 1) := by decide +kernel
theorem dX11_finds_1 : decode cX11_finds 1 = .ok (.aload_n 1, 1) := by decide +kernel
theorem dX11_finds_2 : decode cX11_finds 2 = .ok (.invokevirtual 250, 3) := by decide +kernel
theorem dX11_finds_5 : decode cX11_finds 5 = .ok (.lstore 5, 2) := by decide +kernel
theorem dX11_finds_7 : decode cX11_finds 7 = .ok (.aload_n 0, 1) := by decide +kernel
theorem dX11_finds_8 : decode cX11_finds 8 = .ok (.lload 5, 2) := by decide +kernel
theorem dX11_finds_10 : decode cX11_finds 10 = .ok (.invokevirtual 254, 3) := by decide +kernel
theorem dX11_finds_13 : decode cX11_finds 13 = .ok (.istore 7, 2) := by decide +kernel
theorem dX11_finds_15 : decode cX11_finds 15 = .ok (.aload_n 0, 1) := by decide +kernel
theorem dX11_finds_16 : decode cX11_finds 16 = .ok (.getfield 247, 3) := by decide +kernel
theorem dX11_finds_19 : decode cX11_finds 19 = .ok (.iload 7, 2) := by decide +kernel
theorem dX11_finds_21 : decode cX11_finds 21 = .ok (.iaload, 1) := by decide +kernel
theorem dX11_finds_22 : decode cX11_finds 22 = .ok (.ifCond .lt 4, 3) := by decide +kernel
theorem dX11_finds_25 : decode cX11_finds 25 = .ok (.return_, 1) := by decide +kernel
theorem dX11_finds_26 : decode cX11_finds 26 = .ok (.aload_n 0, 1) := by decide +kernel
theorem dX11_finds_27 : decode cX11_finds 27 = .ok (.getfield 258, 3) := by decide +kernel
theorem dX11_finds_30 : decode cX11_finds 30 = .ok (.iload 4, 2) := by decide +kernel
theorem dX11_finds_32 : decode cX11_finds 32 = .ok (.if_icmp .ne 9, 3) := by decide +kernel
theorem dX11_finds_35 : decode cX11_finds 35 = .ok (.aload_n 0, 1) := by decide +kernel
theorem dX11_finds_36 : decode cX11_finds 36 = .ok (.iconst 1, 1) := by decide +kernel
theorem dX11_finds_37 : decode cX11_finds 37 = .ok (.putfield 261, 3) := by decide +kernel
theorem dX11_finds_40 : decode cX11_finds 40 = .ok (.return_, 1) := by decide +kernel
theorem dX11_finds_41 : decode cX11_finds 41 = .ok (.aload_n 0, 1) := by decide +kernel
theorem dX11_finds_42 : decode cX11_finds 42 = .ok (.getfield 230, 3) := by decide +kernel
theorem dX11_finds_45 : decode cX11_finds 45 = .ok (.aload_n 0, 1) := by decide +kernel
theorem dX11_finds_46 : decode cX11_finds 46 = .ok (.getfield 258, 3) := by decide +kernel
theorem dX11_finds_49 : decode cX11_finds 49 = .ok (.lload 5, 2) := by decide +kernel
theorem dX11_finds_51 : decode cX11_finds 51 = .ok (.lastore, 1) := by decide +kernel
theorem dX11_finds_52 : decode cX11_finds 52 = .ok (.aload_n 0, 1) := by decide +kernel
theorem dX11_finds_53 : decode cX11_finds 53 = .ok (.getfield 265, 3) := by decide +kernel
theorem dX11_finds_56 : decode cX11_finds 56 = .ok (.aload_n 0, 1) := by decide +kernel
theorem dX11_finds_57 : decode cX11_finds 57 = .ok (.getfield 258, 3) := by decide +kernel
theorem dX11_finds_60 : decode cX11_finds 60 = .ok (.iload_n 2, 1) := by decide +kernel
theorem dX11_finds_61 : decode cX11_finds 61 = .ok (.iastore, 1) := by decide +kernel
theorem dX11_finds_62 : decode cX11_finds 62 = .ok (.aload_n 0, 1) := by decide +kernel
theorem dX11_finds_63 : decode cX11_finds 63 = .ok (.getfield 268, 3) := by decide +kernel
theorem dX11_finds_66 : decode cX11_finds 66 = .ok (.aload_n 0, 1) := by decide +kernel
theorem dX11_finds_67 : decode cX11_finds 67 = .ok (.getfield 258, 3) := by decide +kernel
theorem dX11_finds_70 : decode cX11_finds 70 = .ok (.iload_n 3, 1) := by decide +kernel
theorem dX11_finds_71 : decode cX11_finds 71 = .ok (.iastore, 1) := by decide +kernel
theorem dX11_finds_72 : decode cX11_finds 72 = .ok (.aload_n 0, 1) := by decide +kernel
theorem dX11_finds_73 : decode cX11_finds 73 = .ok (.getfield 271, 3) := by decide +kernel
theorem dX11_finds_76 : decode cX11_finds 76 = .ok (.aload_n 0, 1) := by decide +kernel
theorem dX11_finds_77 : decode cX11_finds 77 = .ok (.getfield 258, 3) := by decide +kernel
theorem dX11_finds_80 : decode cX11_finds 80 = .ok (.iload_n 2, 1) := by decide +kernel
theorem dX11_finds_81 : decode cX11_finds 81 = .ok (.ifCond .ge 7, 3) := by decide +kernel
theorem dX11_finds_84 : decode cX11_finds 84 = .ok (.iconst 0, 1) := by decide +kernel
theorem dX11_finds_85 : decode cX11_finds 85 = .ok (.goto 11, 3) := by decide +kernel
theorem dX11_finds_88 : decode cX11_finds 88 = .ok (.aload_n 0, 1) := by decide +kernel
theorem dX11_finds_89 : decode cX11_finds 89 = .ok (.getfield 271, 3) := by decide +kernel
theorem dX11_finds_92 : decode cX11_finds 92 = .ok (.iload_n 2, 1) := by decide +kernel
theorem dX11_finds_93 : decode cX11_finds 93 = .ok (.iaload, 1) := by decide +kernel
theorem dX11_finds_94 : decode cX11_finds 94 = .ok (.iconst 1, 1) := by decide +kernel
theorem dX11_finds_95 : decode cX11_finds 95 = .ok (.iadd, 1) := by decide +kernel
theorem dX11_finds_96 : decode cX11_finds 96 = .ok (.iastore, 1) := by decide +kernel
theorem dX11_finds_97 : decode cX11_finds 97 = .ok (.aload_n 0, 1) := by decide +kernel
theorem dX11_finds_98 : decode cX11_finds 98 = .ok (.getfield 247, 3) := by decide +kernel
theorem dX11_finds_101 : decode cX11_finds 101 = .ok (.iload 7, 2) := by decide +kernel
theorem dX11_finds_103 : decode cX11_finds 103 = .ok (.aload_n 0, 1) := by decide +kernel
theorem dX11_finds_104 : decode cX11_finds 104 = .ok (.getfield 258, 3) := by decide +kernel
theorem dX11_finds_107 : decode cX11_finds 107 = .ok (.iastore, 1) := by decide +kernel
theorem dX11_finds_108 : decode cX11_finds 108 = .ok (.aload_n 0, 1) := by decide +kernel
theorem dX11_finds_109 : decode cX11_finds 109 = .ok (.dup, 1) := by decide +kernel
theorem dX11_finds_110 : decode cX11_finds 110 = .ok (.getfield 258, 3) := by decide +kernel
theorem dX11_finds_113 : decode cX11_finds 113 = .ok (.iconst 1, 1) := by decide +kernel
theorem dX11_finds_114 : decode cX11_finds 114 = .ok (.iadd, 1) := by decide +kernel
theorem dX11_finds_115 : decode cX11_finds 115 = .ok (.putfield 258, 3) := by decide +kernel
theorem dX11_finds_118 : decode cX11_finds 118 = .ok (.return_, 1) := by decide +kernel
theorem dX11_findsFirst_0 : decode cX11_findsFirst 0 = .ok (.iconst 0, 1) := by decide +kernel
theorem dX11_findsFirst_1 : decode cX11_findsFirst 1 = .ok (.istore_n 2, 1) := by decide +kernel
theorem dX11_findsFirst_2 : decode cX11_findsFirst 2 = .ok (.iload_n 2, 1) := by decide +kernel
theorem dX11_findsFirst_3 : decode cX11_findsFirst 3 = .ok (.sipush 16384, 3) := by decide +kernel
theorem dX11_findsFirst_6 : decode cX11_findsFirst 6 = .ok (.if_icmp .ge 16, 3) := by decide +kernel
theorem dX11_findsFirst_9 : decode cX11_findsFirst 9 = .ok (.aload_n 0, 1) := by decide +kernel
theorem dX11_findsFirst_10 : decode cX11_findsFirst 10 = .ok (.getfield 247, 3) := by decide +kernel
theorem dX11_findsFirst_13 : decode cX11_findsFirst 13 = .ok (.iload_n 2, 1) := by decide +kernel
theorem dX11_findsFirst_14 : decode cX11_findsFirst 14 = .ok (.iconst (-1), 1) := by decide +kernel
theorem dX11_findsFirst_15 : decode cX11_findsFirst 15 = .ok (.iastore, 1) := by decide +kernel
theorem dX11_findsFirst_16 : decode cX11_findsFirst 16 = .ok (.iinc 2 1, 3) := by decide +kernel
theorem dX11_findsFirst_19 : decode cX11_findsFirst 19 = .ok (.goto (-17), 3) := by decide +kernel
theorem dX11_findsFirst_22 : decode cX11_findsFirst 22 = .ok (.aload_n 0, 1) := by decide +kernel
theorem dX11_findsFirst_23 : decode cX11_findsFirst 23 = .ok (.iconst 0, 1) := by decide +kernel
theorem dX11_findsFirst_24 : decode cX11_findsFirst 24 = .ok (.putfield 258, 3) := by decide +kernel
theorem dX11_findsFirst_27 : decode cX11_findsFirst 27 = .ok (.aload_n 0, 1) := by decide +kernel
theorem dX11_findsFirst_28 : decode cX11_findsFirst 28 = .ok (.iconst 0, 1) := by decide +kernel
theorem dX11_findsFirst_29 : decode cX11_findsFirst 29 = .ok (.putfield 261, 3) := by decide +kernel
theorem dX11_findsFirst_32 : decode cX11_findsFirst 32 = .ok (.aload_n 0, 1) := by decide +kernel
theorem dX11_findsFirst_33 : decode cX11_findsFirst 33 = .ok (.aload_n 1, 1) := by decide +kernel
theorem dX11_findsFirst_34 : decode cX11_findsFirst 34 = .ok (.iconst (-1), 1) := by decide +kernel
theorem dX11_findsFirst_35 : decode cX11_findsFirst 35 = .ok (.iconst (-1), 1) := by decide +kernel
theorem dX11_findsFirst_36 : decode cX11_findsFirst 36 = .ok (.iconst 1, 1) := by decide +kernel
theorem dX11_findsFirst_37 : decode cX11_findsFirst 37 = .ok (.invokevirtual 274, 3) := by decide +kernel
theorem dX11_findsFirst_40 : decode cX11_findsFirst 40 = .ok (.return_, 1) := by decide +kernel
theorem dX11_findsFrom_0 : decode cX11_findsFrom 0 = .ok (.iconst 0, 1) := by decide +kernel
theorem dX11_findsFrom_1 : decode cX11_findsFrom 1 = .ok (.istore_n 3, 1) := by decide +kernel
theorem dX11_findsFrom_2 : decode cX11_findsFrom 2 = .ok (.iload_n 3, 1) := by decide +kernel
theorem dX11_findsFrom_3 : decode cX11_findsFrom 3 = .ok (.aload_n 0, 1) := by decide +kernel
theorem dX11_findsFrom_4 : decode cX11_findsFrom 4 = .ok (.getfield 14, 3) := by decide +kernel
theorem dX11_findsFrom_7 : decode cX11_findsFrom 7 = .ok (.if_icmp .ge 87, 3) := by decide +kernel
theorem dX11_findsFrom_10 : decode cX11_findsFrom 10 = .ok (.iconst 0, 1) := by decide +kernel
theorem dX11_findsFrom_11 : decode cX11_findsFrom 11 = .ok (.istore 4, 2) := by decide +kernel
theorem dX11_findsFrom_13 : decode cX11_findsFrom 13 = .ok (.iload 4, 2) := by decide +kernel
theorem dX11_findsFrom_15 : decode cX11_findsFrom 15 = .ok (.aload_n 0, 1) := by decide +kernel
theorem dX11_findsFrom_16 : decode cX11_findsFrom 16 = .ok (.getfield 14, 3) := by decide +kernel
theorem dX11_findsFrom_19 : decode cX11_findsFrom 19 = .ok (.if_icmp .ge 69, 3) := by decide +kernel
theorem dX11_findsFrom_22 : decode cX11_findsFrom 22 = .ok (.aload_n 0, 1) := by decide +kernel
theorem dX11_findsFrom_23 : decode cX11_findsFrom 23 = .ok (.getfield 261, 3) := by decide +kernel
theorem dX11_findsFrom_26 : decode cX11_findsFrom 26 = .ok (.ifCond .ne 62, 3) := by decide +kernel
theorem dX11_findsFrom_29 : decode cX11_findsFrom 29 = .ok (.aload_n 0, 1) := by decide +kernel
theorem dX11_findsFrom_30 : decode cX11_findsFrom 30 = .ok (.iload_n 1, 1) := by decide +kernel
theorem dX11_findsFrom_31 : decode cX11_findsFrom 31 = .ok (.invokevirtual 278, 3) := by decide +kernel
theorem dX11_findsFrom_34 : decode cX11_findsFrom 34 = .ok (.iload_n 3, 1) := by decide +kernel
theorem dX11_findsFrom_35 : decode cX11_findsFrom 35 = .ok (.iload 4, 2) := by decide +kernel
theorem dX11_findsFrom_37 : decode cX11_findsFrom 37 = .ok (.if_icmp .eq 45, 3) := by decide +kernel
theorem dX11_findsFrom_40 : decode cX11_findsFrom 40 = .ok (.aload_n 0, 1) := by decide +kernel
theorem dX11_findsFrom_41 : decode cX11_findsFrom 41 = .ok (.aload_n 0, 1) := by decide +kernel
theorem dX11_findsFrom_42 : decode cX11_findsFrom 42 = .ok (.getfield 234, 3) := by decide +kernel
theorem dX11_findsFrom_45 : decode cX11_findsFrom 45 = .ok (.iload_n 3, 1) := by decide +kernel
theorem dX11_findsFrom_46 : decode cX11_findsFrom 46 = .ok (.iload 4, 2) := by decide +kernel
theorem dX11_findsFrom_48 : decode cX11_findsFrom 48 = .ok (.invokevirtual 167, 3) := by decide +kernel
theorem dX11_findsFrom_51 : decode cX11_findsFrom 51 = .ok (.ifCond .eq 31, 3) := by decide +kernel
theorem dX11_findsFrom_54 : decode cX11_findsFrom 54 = .ok (.aload_n 0, 1) := by decide +kernel
theorem dX11_findsFrom_55 : decode cX11_findsFrom 55 = .ok (.aload_n 0, 1) := by decide +kernel
theorem dX11_findsFrom_56 : decode cX11_findsFrom 56 = .ok (.getfield 234, 3) := by decide +kernel
theorem dX11_findsFrom_59 : decode cX11_findsFrom 59 = .ok (.iload_n 3, 1) := by decide +kernel
theorem dX11_findsFrom_60 : decode cX11_findsFrom 60 = .ok (.iload 4, 2) := by decide +kernel
theorem dX11_findsFrom_62 : decode cX11_findsFrom 62 = .ok (.invokevirtual 174, 3) := by decide +kernel
theorem dX11_findsFrom_65 : decode cX11_findsFrom 65 = .ok (.aload_n 0, 1) := by decide +kernel
theorem dX11_findsFrom_66 : decode cX11_findsFrom 66 = .ok (.aload_n 0, 1) := by decide +kernel
theorem dX11_findsFrom_67 : decode cX11_findsFrom 67 = .ok (.getfield 234, 3) := by decide +kernel
theorem dX11_findsFrom_70 : decode cX11_findsFrom 70 = .ok (.iload_n 1, 1) := by decide +kernel
theorem dX11_findsFrom_71 : decode cX11_findsFrom 71 = .ok (.bipush 10, 2) := by decide +kernel
theorem dX11_findsFrom_73 : decode cX11_findsFrom 73 = .ok (.iload_n 3, 1) := by decide +kernel
theorem dX11_findsFrom_74 : decode cX11_findsFrom 74 = .ok (.imul, 1) := by decide +kernel
theorem dX11_findsFrom_75 : decode cX11_findsFrom 75 = .ok (.iload 4, 2) := by decide +kernel
theorem dX11_findsFrom_77 : decode cX11_findsFrom 77 = .ok (.iadd, 1) := by decide +kernel
theorem dX11_findsFrom_78 : decode cX11_findsFrom 78 = .ok (.iload_n 2, 1) := by decide +kernel
theorem dX11_findsFrom_79 : decode cX11_findsFrom 79 = .ok (.invokevirtual 274, 3) := by decide +kernel
theorem dX11_findsFrom_82 : decode cX11_findsFrom 82 = .ok (.iinc 4 1, 3) := by decide +kernel
theorem dX11_findsFrom_85 : decode cX11_findsFrom 85 = .ok (.goto (-72), 3) := by decide +kernel
theorem dX11_findsFrom_88 : decode cX11_findsFrom 88 = .ok (.iinc 3 1, 3) := by decide +kernel
theorem dX11_findsFrom_91 : decode cX11_findsFrom 91 = .ok (.goto (-89), 3) := by decide +kernel
theorem dX11_findsFrom_94 : decode cX11_findsFrom 94 = .ok (.return_, 1) := by decide +kernel
theorem dX11_findsAll_0 : decode cX11_findsAll 0 = .ok (.aload_n 0, 1) := by decide +kernel
theorem dX11_findsAll_1 : decode cX11_findsAll 1 = .ok (.aload_n 1, 1) := by decide +kernel
theorem dX11_findsAll_2 : decode cX11_findsAll 2 = .ok (.invokevirtual 281, 3) := by decide +kernel
theorem dX11_findsAll_5 : decode cX11_findsAll 5 = .ok (.iconst 0, 1) := by decide +kernel
theorem dX11_findsAll_6 : decode cX11_findsAll 6 = .ok (.istore_n 3, 1) := by decide +kernel
theorem dX11_findsAll_7 : decode cX11_findsAll 7 = .ok (.iload_n 3, 1) := by decide +kernel
theorem dX11_findsAll_8 : decode cX11_findsAll 8 = .ok (.aload_n 0, 1) := by decide +kernel
theorem dX11_findsAll_9 : decode cX11_findsAll 9 = .ok (.getfield 258, 3) := by decide +kernel
theorem dX11_findsAll_12 : decode cX11_findsAll 12 = .ok (.if_icmp .ge 34, 3) := by decide +kernel
theorem dX11_findsAll_15 : decode cX11_findsAll 15 = .ok (.aload_n 0, 1) := by decide +kernel
theorem dX11_findsAll_16 : decode cX11_findsAll 16 = .ok (.getfield 261, 3) := by decide +kernel
theorem dX11_findsAll_19 : decode cX11_findsAll 19 = .ok (.ifCond .ne 27, 3) := by decide +kernel
theorem dX11_findsAll_22 : decode cX11_findsAll 22 = .ok (.aload_n 0, 1) := by decide +kernel
theorem dX11_findsAll_23 : decode cX11_findsAll 23 = .ok (.getfield 271, 3) := by decide +kernel
theorem dX11_findsAll_26 : decode cX11_findsAll 26 = .ok (.iload_n 3, 1) := by decide +kernel
theorem dX11_findsAll_27 : decode cX11_findsAll 27 = .ok (.iaload, 1) := by decide +kernel
theorem dX11_findsAll_28 : decode cX11_findsAll 28 = .ok (.iload_n 2, 1) := by decide +kernel
theorem dX11_findsAll_29 : decode cX11_findsAll 29 = .ok (.if_icmp .ge 11, 3) := by decide +kernel
theorem dX11_findsAll_32 : decode cX11_findsAll 32 = .ok (.aload_n 0, 1) := by decide +kernel
theorem dX11_findsAll_33 : decode cX11_findsAll 33 = .ok (.iload_n 3, 1) := by decide +kernel
theorem dX11_findsAll_34 : decode cX11_findsAll 34 = .ok (.sipush 3000, 3) := by decide +kernel
theorem dX11_findsAll_37 : decode cX11_findsAll 37 = .ok (.invokevirtual 285, 3) := by decide +kernel
theorem dX11_findsAll_40 : decode cX11_findsAll 40 = .ok (.iinc 3 1, 3) := by decide +kernel
theorem dX11_findsAll_43 : decode cX11_findsAll 43 = .ok (.goto (-36), 3) := by decide +kernel
theorem dX11_findsAll_46 : decode cX11_findsAll 46 = .ok (.aload_n 0, 1) := by decide +kernel
theorem dX11_findsAll_47 : decode cX11_findsAll 47 = .ok (.getfield 261, 3) := by decide +kernel
theorem dX11_findsAll_50 : decode cX11_findsAll 50 = .ok (.ifCond .ne 7, 3) := by decide +kernel
theorem dX11_findsAll_53 : decode cX11_findsAll 53 = .ok (.iconst 1, 1) := by decide +kernel
theorem dX11_findsAll_54 : decode cX11_findsAll 54 = .ok (.goto 4, 3) := by decide +kernel
theorem dX11_findsAll_57 : decode cX11_findsAll 57 = .ok (.iconst 0, 1) := by decide +kernel
theorem dX11_findsAll_58 : decode cX11_findsAll 58 = .ok (.ireturn, 1) := by decide +kernel
theorem dX11_tellsWay_0 : decode cX11_tellsWay 0 = .ok (.aload_n 0, 1) := by decide +kernel
theorem dX11_tellsWay_1 : decode cX11_tellsWay 1 = .ok (.getfield 271, 3) := by decide +kernel
theorem dX11_tellsWay_4 : decode cX11_tellsWay 4 = .ok (.iload_n 1, 1) := by decide +kernel
theorem dX11_tellsWay_5 : decode cX11_tellsWay 5 = .ok (.iaload, 1) := by decide +kernel
theorem dX11_tellsWay_6 : decode cX11_tellsWay 6 = .ok (.istore_n 2, 1) := by decide +kernel
theorem dX11_tellsWay_7 : decode cX11_tellsWay 7 = .ok (.iload_n 1, 1) := by decide +kernel
theorem dX11_tellsWay_8 : decode cX11_tellsWay 8 = .ok (.istore_n 3, 1) := by decide +kernel
theorem dX11_tellsWay_9 : decode cX11_tellsWay 9 = .ok (.iload_n 2, 1) := by decide +kernel
theorem dX11_tellsWay_10 : decode cX11_tellsWay 10 = .ok (.iconst 1, 1) := by decide +kernel
theorem dX11_tellsWay_11 : decode cX11_tellsWay 11 = .ok (.isub, 1) := by decide +kernel
theorem dX11_tellsWay_12 : decode cX11_tellsWay 12 = .ok (.istore 4, 2) := by decide +kernel
theorem dX11_tellsWay_14 : decode cX11_tellsWay 14 = .ok (.iload 4, 2) := by decide +kernel
theorem dX11_tellsWay_16 : decode cX11_tellsWay 16 = .ok (.ifCond .lt 29, 3) := by decide +kernel
theorem dX11_tellsWay_19 : decode cX11_tellsWay 19 = .ok (.aload_n 0, 1) := by decide +kernel
theorem dX11_tellsWay_20 : decode cX11_tellsWay 20 = .ok (.getfield 289, 3) := by decide +kernel
theorem dX11_tellsWay_23 : decode cX11_tellsWay 23 = .ok (.iload 4, 2) := by decide +kernel
theorem dX11_tellsWay_25 : decode cX11_tellsWay 25 = .ok (.aload_n 0, 1) := by decide +kernel
theorem dX11_tellsWay_26 : decode cX11_tellsWay 26 = .ok (.getfield 268, 3) := by decide +kernel
theorem dX11_tellsWay_29 : decode cX11_tellsWay 29 = .ok (.iload_n 3, 1) := by decide +kernel
theorem dX11_tellsWay_30 : decode cX11_tellsWay 30 = .ok (.iaload, 1) := by decide +kernel
theorem dX11_tellsWay_31 : decode cX11_tellsWay 31 = .ok (.iastore, 1) := by decide +kernel
theorem dX11_tellsWay_32 : decode cX11_tellsWay 32 = .ok (.aload_n 0, 1) := by decide +kernel
theorem dX11_tellsWay_33 : decode cX11_tellsWay 33 = .ok (.getfield 265, 3) := by decide +kernel
theorem dX11_tellsWay_36 : decode cX11_tellsWay 36 = .ok (.iload_n 3, 1) := by decide +kernel
theorem dX11_tellsWay_37 : decode cX11_tellsWay 37 = .ok (.iaload, 1) := by decide +kernel
theorem dX11_tellsWay_38 : decode cX11_tellsWay 38 = .ok (.istore_n 3, 1) := by decide +kernel
theorem dX11_tellsWay_39 : decode cX11_tellsWay 39 = .ok (.iinc 4 (-1), 3) := by decide +kernel
theorem dX11_tellsWay_42 : decode cX11_tellsWay 42 = .ok (.goto (-28), 3) := by decide +kernel
theorem dX11_tellsWay_45 : decode cX11_tellsWay 45 = .ok (.aload_n 0, 1) := by decide +kernel
theorem dX11_tellsWay_46 : decode cX11_tellsWay 46 = .ok (.iconst 0, 1) := by decide +kernel
theorem dX11_tellsWay_47 : decode cX11_tellsWay 47 = .ok (.putfield 11, 3) := by decide +kernel
theorem dX11_tellsWay_50 : decode cX11_tellsWay 50 = .ok (.iconst 0, 1) := by decide +kernel
theorem dX11_tellsWay_51 : decode cX11_tellsWay 51 = .ok (.istore 4, 2) := by decide +kernel
theorem dX11_tellsWay_53 : decode cX11_tellsWay 53 = .ok (.iload 4, 2) := by decide +kernel
theorem dX11_tellsWay_55 : decode cX11_tellsWay 55 = .ok (.iload_n 2, 1) := by decide +kernel
theorem dX11_tellsWay_56 : decode cX11_tellsWay 56 = .ok (.if_icmp .ge 27, 3) := by decide +kernel
theorem dX11_tellsWay_59 : decode cX11_tellsWay 59 = .ok (.iload 4, 2) := by decide +kernel
theorem dX11_tellsWay_61 : decode cX11_tellsWay 61 = .ok (.bipush 10, 2) := by decide +kernel
theorem dX11_tellsWay_63 : decode cX11_tellsWay 63 = .ok (.if_icmp .ge 20, 3) := by decide +kernel
theorem dX11_tellsWay_66 : decode cX11_tellsWay 66 = .ok (.aload_n 0, 1) := by decide +kernel
theorem dX11_tellsWay_67 : decode cX11_tellsWay 67 = .ok (.aload_n 0, 1) := by decide +kernel
theorem dX11_tellsWay_68 : decode cX11_tellsWay 68 = .ok (.getfield 289, 3) := by decide +kernel
theorem dX11_tellsWay_71 : decode cX11_tellsWay 71 = .ok (.iload 4, 2) := by decide +kernel
theorem dX11_tellsWay_73 : decode cX11_tellsWay 73 = .ok (.iaload, 1) := by decide +kernel
theorem dX11_tellsWay_74 : decode cX11_tellsWay 74 = .ok (.invokevirtual 200, 3) := by decide +kernel
theorem dX11_tellsWay_77 : decode cX11_tellsWay 77 = .ok (.iinc 4 1, 3) := by decide +kernel
theorem dX11_tellsWay_80 : decode cX11_tellsWay 80 = .ok (.goto (-27), 3) := by decide +kernel
theorem dX11_tellsWay_83 : decode cX11_tellsWay 83 = .ok (.iload_n 2, 1) := by decide +kernel
theorem dX11_tellsWay_84 : decode cX11_tellsWay 84 = .ok (.ireturn, 1) := by decide +kernel
theorem dX11_reach_0 : decode cX11_reach 0 = .ok (.aload_n 0, 1) := by decide +kernel
theorem dX11_reach_1 : decode cX11_reach 1 = .ok (.iconst 0, 1) := by decide +kernel
theorem dX11_reach_2 : decode cX11_reach 2 = .ok (.putfield 3, 3) := by decide +kernel
theorem dX11_reach_5 : decode cX11_reach 5 = .ok (.iload_n 1, 1) := by decide +kernel
theorem dX11_reach_6 : decode cX11_reach 6 = .ok (.i2l, 1) := by decide +kernel
theorem dX11_reach_7 : decode cX11_reach 7 = .ok (.lconst 0, 1) := by decide +kernel
theorem dX11_reach_8 : decode cX11_reach 8 = .ok (.ldc2_w 131, 3) := by decide +kernel
theorem dX11_reach_11 : decode cX11_reach 11 = .ok (.invokestatic 17, 3) := by decide +kernel
theorem dX11_reach_14 : decode cX11_reach 14 = .ok (.ifCond .ne 5, 3) := by decide +kernel
theorem dX11_reach_17 : decode cX11_reach 17 = .ok (.iconst (-1), 1) := by decide +kernel
theorem dX11_reach_18 : decode cX11_reach 18 = .ok (.ireturn, 1) := by decide +kernel
theorem dX11_reach_19 : decode cX11_reach 19 = .ok (.aload_n 0, 1) := by decide +kernel
theorem dX11_reach_20 : decode cX11_reach 20 = .ok (.aload_n 0, 1) := by decide +kernel
theorem dX11_reach_21 : decode cX11_reach 21 = .ok (.getfield 96, 3) := by decide +kernel
theorem dX11_reach_24 : decode cX11_reach 24 = .ok (.iload_n 1, 1) := by decide +kernel
theorem dX11_reach_25 : decode cX11_reach 25 = .ok (.invokevirtual 292, 3) := by decide +kernel
theorem dX11_reach_28 : decode cX11_reach 28 = .ok (.ifCond .ne 6, 3) := by decide +kernel
theorem dX11_reach_31 : decode cX11_reach 31 = .ok (.bipush (-3), 2) := by decide +kernel
theorem dX11_reach_33 : decode cX11_reach 33 = .ok (.ireturn, 1) := by decide +kernel
theorem dX11_reach_34 : decode cX11_reach 34 = .ok (.iconst 0, 1) := by decide +kernel
theorem dX11_reach_35 : decode cX11_reach 35 = .ok (.istore_n 2, 1) := by decide +kernel
theorem dX11_reach_36 : decode cX11_reach 36 = .ok (.ldc_w 296, 3) := by decide +kernel
theorem dX11_reach_39 : decode cX11_reach 39 = .ok (.istore_n 3, 1) := by decide +kernel
theorem dX11_reach_40 : decode cX11_reach 40 = .ok (.iconst 0, 1) := by decide +kernel
theorem dX11_reach_41 : decode cX11_reach 41 = .ok (.istore 4, 2) := by decide +kernel
theorem dX11_reach_43 : decode cX11_reach 43 = .ok (.iload 4, 2) := by decide +kernel
theorem dX11_reach_45 : decode cX11_reach 45 = .ok (.aload_n 0, 1) := by decide +kernel
theorem dX11_reach_46 : decode cX11_reach 46 = .ok (.getfield 258, 3) := by decide +kernel
theorem dX11_reach_49 : decode cX11_reach 49 = .ok (.if_icmp .ge 48, 3) := by decide +kernel
theorem dX11_reach_52 : decode cX11_reach 52 = .ok (.aload_n 0, 1) := by decide +kernel
theorem dX11_reach_53 : decode cX11_reach 53 = .ok (.iload 4, 2) := by decide +kernel
theorem dX11_reach_55 : decode cX11_reach 55 = .ok (.invokevirtual 278, 3) := by decide +kernel
theorem dX11_reach_58 : decode cX11_reach 58 = .ok (.aload_n 0, 1) := by decide +kernel
theorem dX11_reach_59 : decode cX11_reach 59 = .ok (.aload_n 0, 1) := by decide +kernel
theorem dX11_reach_60 : decode cX11_reach 60 = .ok (.getfield 234, 3) := by decide +kernel
theorem dX11_reach_63 : decode cX11_reach 63 = .ok (.invokevirtual 224, 3) := by decide +kernel
theorem dX11_reach_66 : decode cX11_reach 66 = .ok (.istore 5, 2) := by decide +kernel
theorem dX11_reach_68 : decode cX11_reach 68 = .ok (.iload_n 2, 1) := by decide +kernel
theorem dX11_reach_69 : decode cX11_reach 69 = .ok (.iload 5, 2) := by decide +kernel
theorem dX11_reach_71 : decode cX11_reach 71 = .ok (.ifCond .ne 7, 3) := by decide +kernel
theorem dX11_reach_74 : decode cX11_reach 74 = .ok (.iconst 1, 1) := by decide +kernel
theorem dX11_reach_75 : decode cX11_reach 75 = .ok (.goto 4, 3) := by decide +kernel
theorem dX11_reach_78 : decode cX11_reach 78 = .ok (.iconst 0, 1) := by decide +kernel
theorem dX11_reach_79 : decode cX11_reach 79 = .ok (.invokestatic 43, 3) := by decide +kernel
theorem dX11_reach_82 : decode cX11_reach 82 = .ok (.iadd, 1) := by decide +kernel
theorem dX11_reach_83 : decode cX11_reach 83 = .ok (.istore_n 2, 1) := by decide +kernel
theorem dX11_reach_84 : decode cX11_reach 84 = .ok (.iload_n 3, 1) := by decide +kernel
theorem dX11_reach_85 : decode cX11_reach 85 = .ok (.iload 5, 2) := by decide +kernel
theorem dX11_reach_87 : decode cX11_reach 87 = .ok (.invokestatic 34, 3) := by decide +kernel
theorem dX11_reach_90 : decode cX11_reach 90 = .ok (.istore_n 3, 1) := by decide +kernel
theorem dX11_reach_91 : decode cX11_reach 91 = .ok (.iinc 4 1, 3) := by decide +kernel
theorem dX11_reach_94 : decode cX11_reach 94 = .ok (.goto (-51), 3) := by decide +kernel
theorem dX11_reach_97 : decode cX11_reach 97 = .ok (.aload_n 0, 1) := by decide +kernel
theorem dX11_reach_98 : decode cX11_reach 98 = .ok (.iconst 0, 1) := by decide +kernel
theorem dX11_reach_99 : decode cX11_reach 99 = .ok (.putfield 11, 3) := by decide +kernel
theorem dX11_reach_102 : decode cX11_reach 102 = .ok (.aload_n 0, 1) := by decide +kernel
theorem dX11_reach_103 : decode cX11_reach 103 = .ok (.iload_n 2, 1) := by decide +kernel
theorem dX11_reach_104 : decode cX11_reach 104 = .ok (.invokevirtual 200, 3) := by decide +kernel
theorem dX11_reach_107 : decode cX11_reach 107 = .ok (.aload_n 0, 1) := by decide +kernel
theorem dX11_reach_108 : decode cX11_reach 108 = .ok (.iload_n 3, 1) := by decide +kernel
theorem dX11_reach_109 : decode cX11_reach 109 = .ok (.invokevirtual 200, 3) := by decide +kernel
theorem dX11_reach_112 : decode cX11_reach 112 = .ok (.aload_n 0, 1) := by decide +kernel
theorem dX11_reach_113 : decode cX11_reach 113 = .ok (.getfield 258, 3) := by decide +kernel
theorem dX11_reach_116 : decode cX11_reach 116 = .ok (.ireturn, 1) := by decide +kernel
theorem dX11_fewestTo_0 : decode cX11_fewestTo 0 = .ok (.aload_n 0, 1) := by decide +kernel
theorem dX11_fewestTo_1 : decode cX11_fewestTo 1 = .ok (.aload_n 0, 1) := by decide +kernel
theorem dX11_fewestTo_2 : decode cX11_fewestTo 2 = .ok (.getfield 96, 3) := by decide +kernel
theorem dX11_fewestTo_5 : decode cX11_fewestTo 5 = .ok (.invokevirtual 281, 3) := by decide +kernel
theorem dX11_fewestTo_8 : decode cX11_fewestTo 8 = .ok (.iconst (-1), 1) := by decide +kernel
theorem dX11_fewestTo_9 : decode cX11_fewestTo 9 = .ok (.istore_n 3, 1) := by decide +kernel
theorem dX11_fewestTo_10 : decode cX11_fewestTo 10 = .ok (.iconst 0, 1) := by decide +kernel
theorem dX11_fewestTo_11 : decode cX11_fewestTo 11 = .ok (.istore 4, 2) := by decide +kernel
theorem dX11_fewestTo_13 : decode cX11_fewestTo 13 = .ok (.iconst 0, 1) := by decide +kernel
theorem dX11_fewestTo_14 : decode cX11_fewestTo 14 = .ok (.istore 5, 2) := by decide +kernel
theorem dX11_fewestTo_16 : decode cX11_fewestTo 16 = .ok (.iload_n 3, 1) := by decide +kernel
theorem dX11_fewestTo_17 : decode cX11_fewestTo 17 = .ok (.ifCond .ge 115, 3) := by decide +kernel
theorem dX11_fewestTo_20 : decode cX11_fewestTo 20 = .ok (.iload 5, 2) := by decide +kernel
theorem dX11_fewestTo_22 : decode cX11_fewestTo 22 = .ok (.aload_n 0, 1) := by decide +kernel
theorem dX11_fewestTo_23 : decode cX11_fewestTo 23 = .ok (.getfield 258, 3) := by decide +kernel
theorem dX11_fewestTo_26 : decode cX11_fewestTo 26 = .ok (.if_icmp .ge 106, 3) := by decide +kernel
theorem dX11_fewestTo_29 : decode cX11_fewestTo 29 = .ok (.iload 4, 2) := by decide +kernel
theorem dX11_fewestTo_31 : decode cX11_fewestTo 31 = .ok (.aload_n 0, 1) := by decide +kernel
theorem dX11_fewestTo_32 : decode cX11_fewestTo 32 = .ok (.getfield 258, 3) := by decide +kernel
theorem dX11_fewestTo_35 : decode cX11_fewestTo 35 = .ok (.if_icmp .ge 71, 3) := by decide +kernel
theorem dX11_fewestTo_38 : decode cX11_fewestTo 38 = .ok (.iload_n 3, 1) := by decide +kernel
theorem dX11_fewestTo_39 : decode cX11_fewestTo 39 = .ok (.ifCond .ge 67, 3) := by decide +kernel
theorem dX11_fewestTo_42 : decode cX11_fewestTo 42 = .ok (.aload_n 0, 1) := by decide +kernel
theorem dX11_fewestTo_43 : decode cX11_fewestTo 43 = .ok (.iload 4, 2) := by decide +kernel
theorem dX11_fewestTo_45 : decode cX11_fewestTo 45 = .ok (.invokevirtual 278, 3) := by decide +kernel
theorem dX11_fewestTo_48 : decode cX11_fewestTo 48 = .ok (.iload_n 1, 1) := by decide +kernel
theorem dX11_fewestTo_49 : decode cX11_fewestTo 49 = .ok (.ifCond .ge 22, 3) := by decide +kernel
theorem dX11_fewestTo_52 : decode cX11_fewestTo 52 = .ok (.aload_n 0, 1) := by decide +kernel
theorem dX11_fewestTo_53 : decode cX11_fewestTo 53 = .ok (.aload_n 0, 1) := by decide +kernel
theorem dX11_fewestTo_54 : decode cX11_fewestTo 54 = .ok (.getfield 234, 3) := by decide +kernel
theorem dX11_fewestTo_57 : decode cX11_fewestTo 57 = .ok (.invokevirtual 224, 3) := by decide +kernel
theorem dX11_fewestTo_60 : decode cX11_fewestTo 60 = .ok (.ifCond .ne 7, 3) := by decide +kernel
theorem dX11_fewestTo_63 : decode cX11_fewestTo 63 = .ok (.iconst 1, 1) := by decide +kernel
theorem dX11_fewestTo_64 : decode cX11_fewestTo 64 = .ok (.goto 22, 3) := by decide +kernel
theorem dX11_fewestTo_67 : decode cX11_fewestTo 67 = .ok (.iconst 0, 1) := by decide +kernel
theorem dX11_fewestTo_68 : decode cX11_fewestTo 68 = .ok (.goto 18, 3) := by decide +kernel
theorem dX11_fewestTo_71 : decode cX11_fewestTo 71 = .ok (.aload_n 0, 1) := by decide +kernel
theorem dX11_fewestTo_72 : decode cX11_fewestTo 72 = .ok (.getfield 234, 3) := by decide +kernel
theorem dX11_fewestTo_75 : decode cX11_fewestTo 75 = .ok (.iload_n 1, 1) := by decide +kernel
theorem dX11_fewestTo_76 : decode cX11_fewestTo 76 = .ok (.iaload, 1) := by decide +kernel
theorem dX11_fewestTo_77 : decode cX11_fewestTo 77 = .ok (.iload_n 2, 1) := by decide +kernel
theorem dX11_fewestTo_78 : decode cX11_fewestTo 78 = .ok (.if_icmp .lt 7, 3) := by decide +kernel
theorem dX11_fewestTo_81 : decode cX11_fewestTo 81 = .ok (.iconst 1, 1) := by decide +kernel
theorem dX11_fewestTo_82 : decode cX11_fewestTo 82 = .ok (.goto 4, 3) := by decide +kernel
theorem dX11_fewestTo_85 : decode cX11_fewestTo 85 = .ok (.iconst 0, 1) := by decide +kernel
theorem dX11_fewestTo_86 : decode cX11_fewestTo 86 = .ok (.istore 6, 2) := by decide +kernel
theorem dX11_fewestTo_88 : decode cX11_fewestTo 88 = .ok (.iload 6, 2) := by decide +kernel
theorem dX11_fewestTo_90 : decode cX11_fewestTo 90 = .ok (.ifCond .eq 8, 3) := by decide +kernel
theorem dX11_fewestTo_93 : decode cX11_fewestTo 93 = .ok (.iload 4, 2) := by decide +kernel
theorem dX11_fewestTo_95 : decode cX11_fewestTo 95 = .ok (.goto 4, 3) := by decide +kernel
theorem dX11_fewestTo_98 : decode cX11_fewestTo 98 = .ok (.iload_n 3, 1) := by decide +kernel
theorem dX11_fewestTo_99 : decode cX11_fewestTo 99 = .ok (.istore_n 3, 1) := by decide +kernel
theorem dX11_fewestTo_100 : decode cX11_fewestTo 100 = .ok (.iinc 4 1, 3) := by decide +kernel
theorem dX11_fewestTo_103 : decode cX11_fewestTo 103 = .ok (.goto (-74), 3) := by decide +kernel
theorem dX11_fewestTo_106 : decode cX11_fewestTo 106 = .ok (.iload_n 3, 1) := by decide +kernel
theorem dX11_fewestTo_107 : decode cX11_fewestTo 107 = .ok (.ifCond .ge 19, 3) := by decide +kernel
theorem dX11_fewestTo_110 : decode cX11_fewestTo 110 = .ok (.aload_n 0, 1) := by decide +kernel
theorem dX11_fewestTo_111 : decode cX11_fewestTo 111 = .ok (.getfield 261, 3) := by decide +kernel
theorem dX11_fewestTo_114 : decode cX11_fewestTo 114 = .ok (.ifCond .ne 12, 3) := by decide +kernel
theorem dX11_fewestTo_117 : decode cX11_fewestTo 117 = .ok (.aload_n 0, 1) := by decide +kernel
theorem dX11_fewestTo_118 : decode cX11_fewestTo 118 = .ok (.iload 5, 2) := by decide +kernel
theorem dX11_fewestTo_120 : decode cX11_fewestTo 120 = .ok (.sipush 3000, 3) := by decide +kernel
theorem dX11_fewestTo_123 : decode cX11_fewestTo 123 = .ok (.invokevirtual 285, 3) := by decide +kernel
theorem dX11_fewestTo_126 : decode cX11_fewestTo 126 = .ok (.iinc 5 1, 3) := by decide +kernel
theorem dX11_fewestTo_129 : decode cX11_fewestTo 129 = .ok (.goto (-113), 3) := by decide +kernel
theorem dX11_fewestTo_132 : decode cX11_fewestTo 132 = .ok (.iload_n 3, 1) := by decide +kernel
theorem dX11_fewestTo_133 : decode cX11_fewestTo 133 = .ok (.ifCond .ge 18, 3) := by decide +kernel
theorem dX11_fewestTo_136 : decode cX11_fewestTo 136 = .ok (.aload_n 0, 1) := by decide +kernel
theorem dX11_fewestTo_137 : decode cX11_fewestTo 137 = .ok (.getfield 261, 3) := by decide +kernel
theorem dX11_fewestTo_140 : decode cX11_fewestTo 140 = .ok (.ifCond .eq 8, 3) := by decide +kernel
theorem dX11_fewestTo_143 : decode cX11_fewestTo 143 = .ok (.bipush (-3), 2) := by decide +kernel
theorem dX11_fewestTo_145 : decode cX11_fewestTo 145 = .ok (.goto 5, 3) := by decide +kernel
theorem dX11_fewestTo_148 : decode cX11_fewestTo 148 = .ok (.bipush (-2), 2) := by decide +kernel
theorem dX11_fewestTo_150 : decode cX11_fewestTo 150 = .ok (.ireturn, 1) := by decide +kernel
theorem dX11_fewestTo_151 : decode cX11_fewestTo 151 = .ok (.aload_n 0, 1) := by decide +kernel
theorem dX11_fewestTo_152 : decode cX11_fewestTo 152 = .ok (.iload_n 3, 1) := by decide +kernel
theorem dX11_fewestTo_153 : decode cX11_fewestTo 153 = .ok (.invokevirtual 297, 3) := by decide +kernel
theorem dX11_fewestTo_156 : decode cX11_fewestTo 156 = .ok (.ireturn, 1) := by decide +kernel
theorem dX11_fewest_0 : decode cX11_fewest 0 = .ok (.aload_n 0, 1) := by decide +kernel
theorem dX11_fewest_1 : decode cX11_fewest 1 = .ok (.iconst 0, 1) := by decide +kernel
theorem dX11_fewest_2 : decode cX11_fewest 2 = .ok (.putfield 3, 3) := by decide +kernel
theorem dX11_fewest_5 : decode cX11_fewest 5 = .ok (.aload_n 0, 1) := by decide +kernel
theorem dX11_fewest_6 : decode cX11_fewest 6 = .ok (.iconst (-1), 1) := by decide +kernel
theorem dX11_fewest_7 : decode cX11_fewest 7 = .ok (.iconst 0, 1) := by decide +kernel
theorem dX11_fewest_8 : decode cX11_fewest 8 = .ok (.invokevirtual 300, 3) := by decide +kernel
theorem dX11_fewest_11 : decode cX11_fewest 11 = .ok (.ireturn, 1) := by decide +kernel
theorem dX11_fill_0 : decode cX11_fill 0 = .ok (.aload_n 0, 1) := by decide +kernel
theorem dX11_fill_1 : decode cX11_fill 1 = .ok (.iconst 0, 1) := by decide +kernel
theorem dX11_fill_2 : decode cX11_fill 2 = .ok (.putfield 3, 3) := by decide +kernel
theorem dX11_fill_5 : decode cX11_fill 5 = .ok (.aload_n 0, 1) := by decide +kernel
theorem dX11_fill_6 : decode cX11_fill 6 = .ok (.iload_n 1, 1) := by decide +kernel
theorem dX11_fill_7 : decode cX11_fill 7 = .ok (.invokevirtual 21, 3) := by decide +kernel
theorem dX11_fill_10 : decode cX11_fill 10 = .ok (.ifCond .eq 24, 3) := by decide +kernel
theorem dX11_fill_13 : decode cX11_fill 13 = .ok (.iload_n 2, 1) := by decide +kernel
theorem dX11_fill_14 : decode cX11_fill 14 = .ok (.i2l, 1) := by decide +kernel
theorem dX11_fill_15 : decode cX11_fill 15 = .ok (.lconst 0, 1) := by decide +kernel
theorem dX11_fill_16 : decode cX11_fill 16 = .ok (.ldc2_w 153, 3) := by decide +kernel
theorem dX11_fill_19 : decode cX11_fill 19 = .ok (.invokestatic 17, 3) := by decide +kernel
theorem dX11_fill_22 : decode cX11_fill 22 = .ok (.ifCond .eq 12, 3) := by decide +kernel
theorem dX11_fill_25 : decode cX11_fill 25 = .ok (.aload_n 0, 1) := by decide +kernel
theorem dX11_fill_26 : decode cX11_fill 26 = .ok (.iload_n 1, 1) := by decide +kernel
theorem dX11_fill_27 : decode cX11_fill 27 = .ok (.iload_n 2, 1) := by decide +kernel
theorem dX11_fill_28 : decode cX11_fill 28 = .ok (.invokevirtual 300, 3) := by decide +kernel
theorem dX11_fill_31 : decode cX11_fill 31 = .ok (.goto 4, 3) := by decide +kernel
theorem dX11_fill_34 : decode cX11_fill 34 = .ok (.iconst (-1), 1) := by decide +kernel
theorem dX11_fill_35 : decode cX11_fill 35 = .ok (.ireturn, 1) := by decide +kernel
theorem dX11_bestFor_0 : decode cX11_bestFor 0 = .ok (.iconst (-1), 1) := by decide +kernel
theorem dX11_bestFor_1 : decode cX11_bestFor 1 = .ok (.istore_n 2, 1) := by decide +kernel
theorem dX11_bestFor_2 : decode cX11_bestFor 2 = .ok (.aload_n 0, 1) := by decide +kernel
theorem dX11_bestFor_3 : decode cX11_bestFor 3 = .ok (.aload_n 0, 1) := by decide +kernel
theorem dX11_bestFor_4 : decode cX11_bestFor 4 = .ok (.aload_n 0, 1) := by decide +kernel
theorem dX11_bestFor_5 : decode cX11_bestFor 5 = .ok (.getfield 96, 3) := by decide +kernel
theorem dX11_bestFor_8 : decode cX11_bestFor 8 = .ok (.iload_n 1, 1) := by decide +kernel
theorem dX11_bestFor_9 : decode cX11_bestFor 9 = .ok (.invokevirtual 122, 3) := by decide +kernel
theorem dX11_bestFor_12 : decode cX11_bestFor 12 = .ok (.invokestatic 126, 3) := by decide +kernel
theorem dX11_bestFor_15 : decode cX11_bestFor 15 = .ok (.putfield 303, 3) := by decide +kernel
theorem dX11_bestFor_18 : decode cX11_bestFor 18 = .ok (.iconst 0, 1) := by decide +kernel
theorem dX11_bestFor_19 : decode cX11_bestFor 19 = .ok (.istore_n 3, 1) := by decide +kernel
theorem dX11_bestFor_20 : decode cX11_bestFor 20 = .ok (.iload_n 3, 1) := by decide +kernel
theorem dX11_bestFor_21 : decode cX11_bestFor 21 = .ok (.aload_n 0, 1) := by decide +kernel
theorem dX11_bestFor_22 : decode cX11_bestFor 22 = .ok (.getfield 14, 3) := by decide +kernel
theorem dX11_bestFor_25 : decode cX11_bestFor 25 = .ok (.if_icmp .ge 109, 3) := by decide +kernel
theorem dX11_bestFor_28 : decode cX11_bestFor 28 = .ok (.iload_n 3, 1) := by decide +kernel
theorem dX11_bestFor_29 : decode cX11_bestFor 29 = .ok (.iload_n 1, 1) := by decide +kernel
theorem dX11_bestFor_30 : decode cX11_bestFor 30 = .ok (.if_icmp .eq 98, 3) := by decide +kernel
theorem dX11_bestFor_33 : decode cX11_bestFor 33 = .ok (.aload_n 0, 1) := by decide +kernel
theorem dX11_bestFor_34 : decode cX11_bestFor 34 = .ok (.aload_n 0, 1) := by decide +kernel
theorem dX11_bestFor_35 : decode cX11_bestFor 35 = .ok (.getfield 96, 3) := by decide +kernel
theorem dX11_bestFor_38 : decode cX11_bestFor 38 = .ok (.iload_n 1, 1) := by decide +kernel
theorem dX11_bestFor_39 : decode cX11_bestFor 39 = .ok (.iload_n 3, 1) := by decide +kernel
theorem dX11_bestFor_40 : decode cX11_bestFor 40 = .ok (.invokevirtual 167, 3) := by decide +kernel
theorem dX11_bestFor_43 : decode cX11_bestFor 43 = .ok (.ifCond .eq 85, 3) := by decide +kernel
theorem dX11_bestFor_46 : decode cX11_bestFor 46 = .ok (.aload_n 0, 1) := by decide +kernel
theorem dX11_bestFor_47 : decode cX11_bestFor 47 = .ok (.aload_n 0, 1) := by decide +kernel
theorem dX11_bestFor_48 : decode cX11_bestFor 48 = .ok (.getfield 96, 3) := by decide +kernel
theorem dX11_bestFor_51 : decode cX11_bestFor 51 = .ok (.iload_n 1, 1) := by decide +kernel
theorem dX11_bestFor_52 : decode cX11_bestFor 52 = .ok (.iload_n 3, 1) := by decide +kernel
theorem dX11_bestFor_53 : decode cX11_bestFor 53 = .ok (.invokevirtual 174, 3) := by decide +kernel
theorem dX11_bestFor_56 : decode cX11_bestFor 56 = .ok (.aload_n 0, 1) := by decide +kernel
theorem dX11_bestFor_57 : decode cX11_bestFor 57 = .ok (.aload_n 0, 1) := by decide +kernel
theorem dX11_bestFor_58 : decode cX11_bestFor 58 = .ok (.getfield 96, 3) := by decide +kernel
theorem dX11_bestFor_61 : decode cX11_bestFor 61 = .ok (.iload_n 1, 1) := by decide +kernel
theorem dX11_bestFor_62 : decode cX11_bestFor 62 = .ok (.invokevirtual 122, 3) := by decide +kernel
theorem dX11_bestFor_65 : decode cX11_bestFor 65 = .ok (.invokestatic 126, 3) := by decide +kernel
theorem dX11_bestFor_68 : decode cX11_bestFor 68 = .ok (.istore 4, 2) := by decide +kernel
theorem dX11_bestFor_70 : decode cX11_bestFor 70 = .ok (.aload_n 0, 1) := by decide +kernel
theorem dX11_bestFor_71 : decode cX11_bestFor 71 = .ok (.getfield 96, 3) := by decide +kernel
theorem dX11_bestFor_74 : decode cX11_bestFor 74 = .ok (.iload_n 1, 1) := by decide +kernel
theorem dX11_bestFor_75 : decode cX11_bestFor 75 = .ok (.dup2, 1) := by decide +kernel
theorem dX11_bestFor_76 : decode cX11_bestFor 76 = .ok (.iaload, 1) := by decide +kernel
theorem dX11_bestFor_77 : decode cX11_bestFor 77 = .ok (.aload_n 0, 1) := by decide +kernel
theorem dX11_bestFor_78 : decode cX11_bestFor 78 = .ok (.getfield 115, 3) := by decide +kernel
theorem dX11_bestFor_81 : decode cX11_bestFor 81 = .ok (.iconst 2, 1) := by decide +kernel
theorem dX11_bestFor_82 : decode cX11_bestFor 82 = .ok (.iaload, 1) := by decide +kernel
theorem dX11_bestFor_83 : decode cX11_bestFor 83 = .ok (.iadd, 1) := by decide +kernel
theorem dX11_bestFor_84 : decode cX11_bestFor 84 = .ok (.iastore, 1) := by decide +kernel
theorem dX11_bestFor_85 : decode cX11_bestFor 85 = .ok (.aload_n 0, 1) := by decide +kernel
theorem dX11_bestFor_86 : decode cX11_bestFor 86 = .ok (.getfield 96, 3) := by decide +kernel
theorem dX11_bestFor_89 : decode cX11_bestFor 89 = .ok (.iload_n 3, 1) := by decide +kernel
theorem dX11_bestFor_90 : decode cX11_bestFor 90 = .ok (.dup2, 1) := by decide +kernel
theorem dX11_bestFor_91 : decode cX11_bestFor 91 = .ok (.iaload, 1) := by decide +kernel
theorem dX11_bestFor_92 : decode cX11_bestFor 92 = .ok (.aload_n 0, 1) := by decide +kernel
theorem dX11_bestFor_93 : decode cX11_bestFor 93 = .ok (.getfield 115, 3) := by decide +kernel
theorem dX11_bestFor_96 : decode cX11_bestFor 96 = .ok (.iconst 2, 1) := by decide +kernel
theorem dX11_bestFor_97 : decode cX11_bestFor 97 = .ok (.iaload, 1) := by decide +kernel
theorem dX11_bestFor_98 : decode cX11_bestFor 98 = .ok (.isub, 1) := by decide +kernel
theorem dX11_bestFor_99 : decode cX11_bestFor 99 = .ok (.iastore, 1) := by decide +kernel
theorem dX11_bestFor_100 : decode cX11_bestFor 100 = .ok (.iload 4, 2) := by decide +kernel
theorem dX11_bestFor_102 : decode cX11_bestFor 102 = .ok (.aload_n 0, 1) := by decide +kernel
theorem dX11_bestFor_103 : decode cX11_bestFor 103 = .ok (.getfield 303, 3) := by decide +kernel
theorem dX11_bestFor_106 : decode cX11_bestFor 106 = .ok (.if_icmp .ge 7, 3) := by decide +kernel
theorem dX11_bestFor_109 : decode cX11_bestFor 109 = .ok (.iload_n 3, 1) := by decide +kernel
theorem dX11_bestFor_110 : decode cX11_bestFor 110 = .ok (.goto 4, 3) := by decide +kernel
theorem dX11_bestFor_113 : decode cX11_bestFor 113 = .ok (.iload_n 2, 1) := by decide +kernel
theorem dX11_bestFor_114 : decode cX11_bestFor 114 = .ok (.istore_n 2, 1) := by decide +kernel
theorem dX11_bestFor_115 : decode cX11_bestFor 115 = .ok (.aload_n 0, 1) := by decide +kernel
theorem dX11_bestFor_116 : decode cX11_bestFor 116 = .ok (.aload_n 0, 1) := by decide +kernel
theorem dX11_bestFor_117 : decode cX11_bestFor 117 = .ok (.getfield 303, 3) := by decide +kernel
theorem dX11_bestFor_120 : decode cX11_bestFor 120 = .ok (.iload 4, 2) := by decide +kernel
theorem dX11_bestFor_122 : decode cX11_bestFor 122 = .ok (.invokestatic 34, 3) := by decide +kernel
theorem dX11_bestFor_125 : decode cX11_bestFor 125 = .ok (.putfield 303, 3) := by decide +kernel
theorem dX11_bestFor_128 : decode cX11_bestFor 128 = .ok (.iinc 3 1, 3) := by decide +kernel
theorem dX11_bestFor_131 : decode cX11_bestFor 131 = .ok (.goto (-111), 3) := by decide +kernel
theorem dX11_bestFor_134 : decode cX11_bestFor 134 = .ok (.iload_n 2, 1) := by decide +kernel
theorem dX11_bestFor_135 : decode cX11_bestFor 135 = .ok (.ireturn, 1) := by decide +kernel
theorem dX11_selfish_0 : decode cX11_selfish 0 = .ok (.aload_n 0, 1) := by decide +kernel
theorem dX11_selfish_1 : decode cX11_selfish 1 = .ok (.iconst 0, 1) := by decide +kernel
theorem dX11_selfish_2 : decode cX11_selfish 2 = .ok (.putfield 3, 3) := by decide +kernel
theorem dX11_selfish_5 : decode cX11_selfish 5 = .ok (.aload_n 0, 1) := by decide +kernel
theorem dX11_selfish_6 : decode cX11_selfish 6 = .ok (.iload_n 1, 1) := by decide +kernel
theorem dX11_selfish_7 : decode cX11_selfish 7 = .ok (.invokevirtual 21, 3) := by decide +kernel
theorem dX11_selfish_10 : decode cX11_selfish 10 = .ok (.ifCond .ne 6, 3) := by decide +kernel
theorem dX11_selfish_13 : decode cX11_selfish 13 = .ok (.bipush (-2), 2) := by decide +kernel
theorem dX11_selfish_15 : decode cX11_selfish 15 = .ok (.ireturn, 1) := by decide +kernel
theorem dX11_selfish_16 : decode cX11_selfish 16 = .ok (.aload_n 0, 1) := by decide +kernel
theorem dX11_selfish_17 : decode cX11_selfish 17 = .ok (.iload_n 1, 1) := by decide +kernel
theorem dX11_selfish_18 : decode cX11_selfish 18 = .ok (.invokevirtual 306, 3) := by decide +kernel
theorem dX11_selfish_21 : decode cX11_selfish 21 = .ok (.istore_n 2, 1) := by decide +kernel
theorem dX11_selfish_22 : decode cX11_selfish 22 = .ok (.aload_n 0, 1) := by decide +kernel
theorem dX11_selfish_23 : decode cX11_selfish 23 = .ok (.iconst 0, 1) := by decide +kernel
theorem dX11_selfish_24 : decode cX11_selfish 24 = .ok (.putfield 11, 3) := by decide +kernel
theorem dX11_selfish_27 : decode cX11_selfish 27 = .ok (.aload_n 0, 1) := by decide +kernel
theorem dX11_selfish_28 : decode cX11_selfish 28 = .ok (.aload_n 0, 1) := by decide +kernel
theorem dX11_selfish_29 : decode cX11_selfish 29 = .ok (.getfield 303, 3) := by decide +kernel
theorem dX11_selfish_32 : decode cX11_selfish 32 = .ok (.invokevirtual 200, 3) := by decide +kernel
theorem dX11_selfish_35 : decode cX11_selfish 35 = .ok (.iload_n 2, 1) := by decide +kernel
theorem dX11_selfish_36 : decode cX11_selfish 36 = .ok (.ireturn, 1) := by decide +kernel
theorem dX11_rests_0 : decode cX11_rests 0 = .ok (.aload_n 0, 1) := by decide +kernel
theorem dX11_rests_1 : decode cX11_rests 1 = .ok (.iconst 0, 1) := by decide +kernel
theorem dX11_rests_2 : decode cX11_rests 2 = .ok (.putfield 3, 3) := by decide +kernel
theorem dX11_rests_5 : decode cX11_rests 5 = .ok (.iload_n 1, 1) := by decide +kernel
theorem dX11_rests_6 : decode cX11_rests 6 = .ok (.i2l, 1) := by decide +kernel
theorem dX11_rests_7 : decode cX11_rests 7 = .ok (.lconst 0, 1) := by decide +kernel
theorem dX11_rests_8 : decode cX11_rests 8 = .ok (.ldc2_w 309, 3) := by decide +kernel
theorem dX11_rests_11 : decode cX11_rests 11 = .ok (.invokestatic 17, 3) := by decide +kernel
theorem dX11_rests_14 : decode cX11_rests 14 = .ok (.ifCond .ne 5, 3) := by decide +kernel
theorem dX11_rests_17 : decode cX11_rests 17 = .ok (.iconst (-1), 1) := by decide +kernel
theorem dX11_rests_18 : decode cX11_rests 18 = .ok (.ireturn, 1) := by decide +kernel
theorem dX11_rests_19 : decode cX11_rests 19 = .ok (.aload_n 0, 1) := by decide +kernel
theorem dX11_rests_20 : decode cX11_rests 20 = .ok (.invokevirtual 170, 3) := by decide +kernel
theorem dX11_rests_23 : decode cX11_rests 23 = .ok (.iconst 0, 1) := by decide +kernel
theorem dX11_rests_24 : decode cX11_rests 24 = .ok (.istore_n 2, 1) := by decide +kernel
theorem dX11_rests_25 : decode cX11_rests 25 = .ok (.iconst 0, 1) := by decide +kernel
theorem dX11_rests_26 : decode cX11_rests 26 = .ok (.istore_n 3, 1) := by decide +kernel
theorem dX11_rests_27 : decode cX11_rests 27 = .ok (.iconst 0, 1) := by decide +kernel
theorem dX11_rests_28 : decode cX11_rests 28 = .ok (.istore 4, 2) := by decide +kernel
theorem dX11_rests_30 : decode cX11_rests 30 = .ok (.iload_n 2, 1) := by decide +kernel
theorem dX11_rests_31 : decode cX11_rests 31 = .ok (.iload_n 1, 1) := by decide +kernel
theorem dX11_rests_32 : decode cX11_rests 32 = .ok (.if_icmp .ge 66, 3) := by decide +kernel
theorem dX11_rests_35 : decode cX11_rests 35 = .ok (.iload 4, 2) := by decide +kernel
theorem dX11_rests_37 : decode cX11_rests 37 = .ok (.ifCond .ne 61, 3) := by decide +kernel
theorem dX11_rests_40 : decode cX11_rests 40 = .ok (.iconst 1, 1) := by decide +kernel
theorem dX11_rests_41 : decode cX11_rests 41 = .ok (.istore 4, 2) := by decide +kernel
theorem dX11_rests_43 : decode cX11_rests 43 = .ok (.iconst 0, 1) := by decide +kernel
theorem dX11_rests_44 : decode cX11_rests 44 = .ok (.istore 5, 2) := by decide +kernel
theorem dX11_rests_46 : decode cX11_rests 46 = .ok (.iload 5, 2) := by decide +kernel
theorem dX11_rests_48 : decode cX11_rests 48 = .ok (.aload_n 0, 1) := by decide +kernel
theorem dX11_rests_49 : decode cX11_rests 49 = .ok (.getfield 14, 3) := by decide +kernel
theorem dX11_rests_52 : decode cX11_rests 52 = .ok (.if_icmp .ge 40, 3) := by decide +kernel
theorem dX11_rests_55 : decode cX11_rests 55 = .ok (.aload_n 0, 1) := by decide +kernel
theorem dX11_rests_56 : decode cX11_rests 56 = .ok (.iload 5, 2) := by decide +kernel
theorem dX11_rests_58 : decode cX11_rests 58 = .ok (.invokevirtual 306, 3) := by decide +kernel
theorem dX11_rests_61 : decode cX11_rests 61 = .ok (.istore 6, 2) := by decide +kernel
theorem dX11_rests_63 : decode cX11_rests 63 = .ok (.iload 6, 2) := by decide +kernel
theorem dX11_rests_65 : decode cX11_rests 65 = .ok (.ifCond .lt 21, 3) := by decide +kernel
theorem dX11_rests_68 : decode cX11_rests 68 = .ok (.aload_n 0, 1) := by decide +kernel
theorem dX11_rests_69 : decode cX11_rests 69 = .ok (.aload_n 0, 1) := by decide +kernel
theorem dX11_rests_70 : decode cX11_rests 70 = .ok (.getfield 96, 3) := by decide +kernel
theorem dX11_rests_73 : decode cX11_rests 73 = .ok (.iload 5, 2) := by decide +kernel
theorem dX11_rests_75 : decode cX11_rests 75 = .ok (.iload 6, 2) := by decide +kernel
theorem dX11_rests_77 : decode cX11_rests 77 = .ok (.invokevirtual 174, 3) := by decide +kernel
theorem dX11_rests_80 : decode cX11_rests 80 = .ok (.iinc 3 1, 3) := by decide +kernel
theorem dX11_rests_83 : decode cX11_rests 83 = .ok (.iconst 0, 1) := by decide +kernel
theorem dX11_rests_84 : decode cX11_rests 84 = .ok (.istore 4, 2) := by decide +kernel
theorem dX11_rests_86 : decode cX11_rests 86 = .ok (.iinc 5 1, 3) := by decide +kernel
theorem dX11_rests_89 : decode cX11_rests 89 = .ok (.goto (-43), 3) := by decide +kernel
theorem dX11_rests_92 : decode cX11_rests 92 = .ok (.iinc 2 1, 3) := by decide +kernel
theorem dX11_rests_95 : decode cX11_rests 95 = .ok (.goto (-65), 3) := by decide +kernel
theorem dX11_rests_98 : decode cX11_rests 98 = .ok (.iload_n 3, 1) := by decide +kernel
theorem dX11_rests_99 : decode cX11_rests 99 = .ok (.ifCond .le 7, 3) := by decide +kernel
theorem dX11_rests_102 : decode cX11_rests 102 = .ok (.aload_n 0, 1) := by decide +kernel
theorem dX11_rests_103 : decode cX11_rests 103 = .ok (.invokevirtual 178, 3) := by decide +kernel
theorem dX11_rests_106 : decode cX11_rests 106 = .ok (.aload_n 0, 1) := by decide +kernel
theorem dX11_rests_107 : decode cX11_rests 107 = .ok (.iconst 0, 1) := by decide +kernel
theorem dX11_rests_108 : decode cX11_rests 108 = .ok (.putfield 11, 3) := by decide +kernel
theorem dX11_rests_111 : decode cX11_rests 111 = .ok (.aload_n 0, 1) := by decide +kernel
theorem dX11_rests_112 : decode cX11_rests 112 = .ok (.iload 4, 2) := by decide +kernel
theorem dX11_rests_114 : decode cX11_rests 114 = .ok (.invokestatic 43, 3) := by decide +kernel
theorem dX11_rests_117 : decode cX11_rests 117 = .ok (.invokevirtual 200, 3) := by decide +kernel
theorem dX11_rests_120 : decode cX11_rests 120 = .ok (.aload_n 0, 1) := by decide +kernel
theorem dX11_rests_121 : decode cX11_rests 121 = .ok (.aload_n 0, 1) := by decide +kernel
theorem dX11_rests_122 : decode cX11_rests 122 = .ok (.aload_n 0, 1) := by decide +kernel
theorem dX11_rests_123 : decode cX11_rests 123 = .ok (.getfield 96, 3) := by decide +kernel
theorem dX11_rests_126 : decode cX11_rests 126 = .ok (.invokevirtual 224, 3) := by decide +kernel
theorem dX11_rests_129 : decode cX11_rests 129 = .ok (.invokevirtual 200, 3) := by decide +kernel
theorem dX11_rests_132 : decode cX11_rests 132 = .ok (.iload_n 2, 1) := by decide +kernel
theorem dX11_rests_133 : decode cX11_rests 133 = .ok (.ireturn, 1) := by decide +kernel
theorem dX11_alter_0 : decode cX11_alter 0 = .ok (.aload_n 0, 1) := by decide +kernel
theorem dX11_alter_1 : decode cX11_alter 1 = .ok (.iconst 0, 1) := by decide +kernel
theorem dX11_alter_2 : decode cX11_alter 2 = .ok (.putfield 3, 3) := by decide +kernel
theorem dX11_alter_5 : decode cX11_alter 5 = .ok (.aload_n 0, 1) := by decide +kernel
theorem dX11_alter_6 : decode cX11_alter 6 = .ok (.iload_n 1, 1) := by decide +kernel
theorem dX11_alter_7 : decode cX11_alter 7 = .ok (.invokevirtual 21, 3) := by decide +kernel
theorem dX11_alter_10 : decode cX11_alter 10 = .ok (.ifCond .ne 5, 3) := by decide +kernel
theorem dX11_alter_13 : decode cX11_alter 13 = .ok (.iconst (-1), 1) := by decide +kernel
theorem dX11_alter_14 : decode cX11_alter 14 = .ok (.ireturn, 1) := by decide +kernel
theorem dX11_alter_15 : decode cX11_alter 15 = .ok (.aload_n 0, 1) := by decide +kernel
theorem dX11_alter_16 : decode cX11_alter 16 = .ok (.getfield 96, 3) := by decide +kernel
theorem dX11_alter_19 : decode cX11_alter 19 = .ok (.iload_n 1, 1) := by decide +kernel
theorem dX11_alter_20 : decode cX11_alter 20 = .ok (.iaload, 1) := by decide +kernel
theorem dX11_alter_21 : decode cX11_alter 21 = .ok (.istore_n 2, 1) := by decide +kernel
theorem dX11_alter_22 : decode cX11_alter 22 = .ok (.iconst (-1), 1) := by decide +kernel
theorem dX11_alter_23 : decode cX11_alter 23 = .ok (.istore_n 3, 1) := by decide +kernel
theorem dX11_alter_24 : decode cX11_alter 24 = .ok (.iconst 0, 1) := by decide +kernel
theorem dX11_alter_25 : decode cX11_alter 25 = .ok (.istore 4, 2) := by decide +kernel
theorem dX11_alter_27 : decode cX11_alter 27 = .ok (.iload 4, 2) := by decide +kernel
theorem dX11_alter_29 : decode cX11_alter 29 = .ok (.bipush 99, 2) := by decide +kernel
theorem dX11_alter_31 : decode cX11_alter 31 = .ok (.if_icmp .gt 68, 3) := by decide +kernel
theorem dX11_alter_34 : decode cX11_alter 34 = .ok (.aload_n 0, 1) := by decide +kernel
theorem dX11_alter_35 : decode cX11_alter 35 = .ok (.getfield 96, 3) := by decide +kernel
theorem dX11_alter_38 : decode cX11_alter 38 = .ok (.iload_n 1, 1) := by decide +kernel
theorem dX11_alter_39 : decode cX11_alter 39 = .ok (.iload 4, 2) := by decide +kernel
theorem dX11_alter_41 : decode cX11_alter 41 = .ok (.iastore, 1) := by decide +kernel
theorem dX11_alter_42 : decode cX11_alter 42 = .ok (.aload_n 0, 1) := by decide +kernel
theorem dX11_alter_43 : decode cX11_alter 43 = .ok (.aload_n 0, 1) := by decide +kernel
theorem dX11_alter_44 : decode cX11_alter 44 = .ok (.getfield 96, 3) := by decide +kernel
theorem dX11_alter_47 : decode cX11_alter 47 = .ok (.iload_n 1, 1) := by decide +kernel
theorem dX11_alter_48 : decode cX11_alter 48 = .ok (.invokevirtual 122, 3) := by decide +kernel
theorem dX11_alter_51 : decode cX11_alter 51 = .ok (.ifCond .ne 27, 3) := by decide +kernel
theorem dX11_alter_54 : decode cX11_alter 54 = .ok (.iload_n 3, 1) := by decide +kernel
theorem dX11_alter_55 : decode cX11_alter 55 = .ok (.ifCond .lt 19, 3) := by decide +kernel
theorem dX11_alter_58 : decode cX11_alter 58 = .ok (.iload 4, 2) := by decide +kernel
theorem dX11_alter_60 : decode cX11_alter 60 = .ok (.iload_n 2, 1) := by decide +kernel
theorem dX11_alter_61 : decode cX11_alter 61 = .ok (.isub, 1) := by decide +kernel
theorem dX11_alter_62 : decode cX11_alter 62 = .ok (.invokestatic 112, 3) := by decide +kernel
theorem dX11_alter_65 : decode cX11_alter 65 = .ok (.iload_n 3, 1) := by decide +kernel
theorem dX11_alter_66 : decode cX11_alter 66 = .ok (.iload_n 2, 1) := by decide +kernel
theorem dX11_alter_67 : decode cX11_alter 67 = .ok (.isub, 1) := by decide +kernel
theorem dX11_alter_68 : decode cX11_alter 68 = .ok (.invokestatic 112, 3) := by decide +kernel
theorem dX11_alter_71 : decode cX11_alter 71 = .ok (.if_icmp .ge 7, 3) := by decide +kernel
theorem dX11_alter_74 : decode cX11_alter 74 = .ok (.iconst 1, 1) := by decide +kernel
theorem dX11_alter_75 : decode cX11_alter 75 = .ok (.goto 4, 3) := by decide +kernel
theorem dX11_alter_78 : decode cX11_alter 78 = .ok (.iconst 0, 1) := by decide +kernel
theorem dX11_alter_79 : decode cX11_alter 79 = .ok (.istore 5, 2) := by decide +kernel
theorem dX11_alter_81 : decode cX11_alter 81 = .ok (.iload 5, 2) := by decide +kernel
theorem dX11_alter_83 : decode cX11_alter 83 = .ok (.ifCond .eq 8, 3) := by decide +kernel
theorem dX11_alter_86 : decode cX11_alter 86 = .ok (.iload 4, 2) := by decide +kernel
theorem dX11_alter_88 : decode cX11_alter 88 = .ok (.goto 4, 3) := by decide +kernel
theorem dX11_alter_91 : decode cX11_alter 91 = .ok (.iload_n 3, 1) := by decide +kernel
theorem dX11_alter_92 : decode cX11_alter 92 = .ok (.istore_n 3, 1) := by decide +kernel
theorem dX11_alter_93 : decode cX11_alter 93 = .ok (.iinc 4 1, 3) := by decide +kernel
theorem dX11_alter_96 : decode cX11_alter 96 = .ok (.goto (-69), 3) := by decide +kernel
theorem dX11_alter_99 : decode cX11_alter 99 = .ok (.aload_n 0, 1) := by decide +kernel
theorem dX11_alter_100 : decode cX11_alter 100 = .ok (.getfield 96, 3) := by decide +kernel
theorem dX11_alter_103 : decode cX11_alter 103 = .ok (.iload_n 1, 1) := by decide +kernel
theorem dX11_alter_104 : decode cX11_alter 104 = .ok (.iload_n 2, 1) := by decide +kernel
theorem dX11_alter_105 : decode cX11_alter 105 = .ok (.iastore, 1) := by decide +kernel
theorem dX11_alter_106 : decode cX11_alter 106 = .ok (.iload_n 3, 1) := by decide +kernel
theorem dX11_alter_107 : decode cX11_alter 107 = .ok (.ifCond .ge 6, 3) := by decide +kernel
theorem dX11_alter_110 : decode cX11_alter 110 = .ok (.bipush (-2), 2) := by decide +kernel
theorem dX11_alter_112 : decode cX11_alter 112 = .ok (.ireturn, 1) := by decide +kernel
theorem dX11_alter_113 : decode cX11_alter 113 = .ok (.aload_n 0, 1) := by decide +kernel
theorem dX11_alter_114 : decode cX11_alter 114 = .ok (.iconst 0, 1) := by decide +kernel
theorem dX11_alter_115 : decode cX11_alter 115 = .ok (.putfield 11, 3) := by decide +kernel
theorem dX11_alter_118 : decode cX11_alter 118 = .ok (.aload_n 0, 1) := by decide +kernel
theorem dX11_alter_119 : decode cX11_alter 119 = .ok (.iload_n 3, 1) := by decide +kernel
theorem dX11_alter_120 : decode cX11_alter 120 = .ok (.invokevirtual 200, 3) := by decide +kernel
theorem dX11_alter_123 : decode cX11_alter 123 = .ok (.iload_n 3, 1) := by decide +kernel
theorem dX11_alter_124 : decode cX11_alter 124 = .ok (.iload_n 2, 1) := by decide +kernel
theorem dX11_alter_125 : decode cX11_alter 125 = .ok (.isub, 1) := by decide +kernel
theorem dX11_alter_126 : decode cX11_alter 126 = .ok (.invokestatic 112, 3) := by decide +kernel
theorem dX11_alter_129 : decode cX11_alter 129 = .ok (.ireturn, 1) := by decide +kernel
theorem dX11_paints_0 : decode cX11_paints 0 = .ok (.iload_n 1, 1) := by decide +kernel
theorem dX11_paints_1 : decode cX11_paints 1 = .ok (.aload_n 0, 1) := by decide +kernel
theorem dX11_paints_2 : decode cX11_paints 2 = .ok (.getfield 14, 3) := by decide +kernel
theorem dX11_paints_5 : decode cX11_paints 5 = .ok (.if_icmp .ne 5, 3) := by decide +kernel
theorem dX11_paints_8 : decode cX11_paints 8 = .ok (.iconst 1, 1) := by decide +kernel
theorem dX11_paints_9 : decode cX11_paints 9 = .ok (.ireturn, 1) := by decide +kernel
theorem dX11_paints_10 : decode cX11_paints 10 = .ok (.iconst 0, 1) := by decide +kernel
theorem dX11_paints_11 : decode cX11_paints 11 = .ok (.istore 4, 2) := by decide +kernel
theorem dX11_paints_13 : decode cX11_paints 13 = .ok (.iload 4, 2) := by decide +kernel
theorem dX11_paints_15 : decode cX11_paints 15 = .ok (.iload_n 2, 1) := by decide +kernel
theorem dX11_paints_16 : decode cX11_paints 16 = .ok (.if_icmp .gt 105, 3) := by decide +kernel
theorem dX11_paints_19 : decode cX11_paints 19 = .ok (.iload 4, 2) := by decide +kernel
theorem dX11_paints_21 : decode cX11_paints 21 = .ok (.iload_n 3, 1) := by decide +kernel
theorem dX11_paints_22 : decode cX11_paints 22 = .ok (.if_icmp .ge 99, 3) := by decide +kernel
theorem dX11_paints_25 : decode cX11_paints 25 = .ok (.iconst 1, 1) := by decide +kernel
theorem dX11_paints_26 : decode cX11_paints 26 = .ok (.istore 5, 2) := by decide +kernel
theorem dX11_paints_28 : decode cX11_paints 28 = .ok (.iconst 0, 1) := by decide +kernel
theorem dX11_paints_29 : decode cX11_paints 29 = .ok (.istore 6, 2) := by decide +kernel
theorem dX11_paints_31 : decode cX11_paints 31 = .ok (.iload 6, 2) := by decide +kernel
theorem dX11_paints_33 : decode cX11_paints 33 = .ok (.iload_n 1, 1) := by decide +kernel
theorem dX11_paints_34 : decode cX11_paints 34 = .ok (.if_icmp .ge 47, 3) := by decide +kernel
theorem dX11_paints_37 : decode cX11_paints 37 = .ok (.iload 5, 2) := by decide +kernel
theorem dX11_paints_39 : decode cX11_paints 39 = .ok (.ifCond .eq 33, 3) := by decide +kernel
theorem dX11_paints_42 : decode cX11_paints 42 = .ok (.aload_n 0, 1) := by decide +kernel
theorem dX11_paints_43 : decode cX11_paints 43 = .ok (.getfield 80, 3) := by decide +kernel
theorem dX11_paints_46 : decode cX11_paints 46 = .ok (.iload_n 1, 1) := by decide +kernel
theorem dX11_paints_47 : decode cX11_paints 47 = .ok (.iaload, 1) := by decide +kernel
theorem dX11_paints_48 : decode cX11_paints 48 = .ok (.iload 6, 2) := by decide +kernel
theorem dX11_paints_50 : decode cX11_paints 50 = .ok (.invokestatic 108, 3) := by decide +kernel
theorem dX11_paints_53 : decode cX11_paints 53 = .ok (.ifCond .eq 15, 3) := by decide +kernel
theorem dX11_paints_56 : decode cX11_paints 56 = .ok (.aload_n 0, 1) := by decide +kernel
theorem dX11_paints_57 : decode cX11_paints 57 = .ok (.getfield 311, 3) := by decide +kernel
theorem dX11_paints_60 : decode cX11_paints 60 = .ok (.iload 6, 2) := by decide +kernel
theorem dX11_paints_62 : decode cX11_paints 62 = .ok (.iaload, 1) := by decide +kernel
theorem dX11_paints_63 : decode cX11_paints 63 = .ok (.iload 4, 2) := by decide +kernel
theorem dX11_paints_65 : decode cX11_paints 65 = .ok (.if_icmp .eq 7, 3) := by decide +kernel
theorem dX11_paints_68 : decode cX11_paints 68 = .ok (.iconst 1, 1) := by decide +kernel
theorem dX11_paints_69 : decode cX11_paints 69 = .ok (.goto 4, 3) := by decide +kernel
theorem dX11_paints_72 : decode cX11_paints 72 = .ok (.iconst 0, 1) := by decide +kernel
theorem dX11_paints_73 : decode cX11_paints 73 = .ok (.istore 5, 2) := by decide +kernel
theorem dX11_paints_75 : decode cX11_paints 75 = .ok (.iinc 6 1, 3) := by decide +kernel
theorem dX11_paints_78 : decode cX11_paints 78 = .ok (.goto (-47), 3) := by decide +kernel
theorem dX11_paints_81 : decode cX11_paints 81 = .ok (.iload 5, 2) := by decide +kernel
theorem dX11_paints_83 : decode cX11_paints 83 = .ok (.ifCond .eq 32, 3) := by decide +kernel
theorem dX11_paints_86 : decode cX11_paints 86 = .ok (.aload_n 0, 1) := by decide +kernel
theorem dX11_paints_87 : decode cX11_paints 87 = .ok (.getfield 311, 3) := by decide +kernel
theorem dX11_paints_90 : decode cX11_paints 90 = .ok (.iload_n 1, 1) := by decide +kernel
theorem dX11_paints_91 : decode cX11_paints 91 = .ok (.iload 4, 2) := by decide +kernel
theorem dX11_paints_93 : decode cX11_paints 93 = .ok (.iastore, 1) := by decide +kernel
theorem dX11_paints_94 : decode cX11_paints 94 = .ok (.aload_n 0, 1) := by decide +kernel
theorem dX11_paints_95 : decode cX11_paints 95 = .ok (.iload_n 1, 1) := by decide +kernel
theorem dX11_paints_96 : decode cX11_paints 96 = .ok (.iconst 1, 1) := by decide +kernel
theorem dX11_paints_97 : decode cX11_paints 97 = .ok (.iadd, 1) := by decide +kernel
theorem dX11_paints_98 : decode cX11_paints 98 = .ok (.iload_n 2, 1) := by decide +kernel
theorem dX11_paints_99 : decode cX11_paints 99 = .ok (.iload 4, 2) := by decide +kernel
theorem dX11_paints_101 : decode cX11_paints 101 = .ok (.iconst 1, 1) := by decide +kernel
theorem dX11_paints_102 : decode cX11_paints 102 = .ok (.iadd, 1) := by decide +kernel
theorem dX11_paints_103 : decode cX11_paints 103 = .ok (.invokestatic 140, 3) := by decide +kernel
theorem dX11_paints_106 : decode cX11_paints 106 = .ok (.iload_n 3, 1) := by decide +kernel
theorem dX11_paints_107 : decode cX11_paints 107 = .ok (.invokevirtual 314, 3) := by decide +kernel
theorem dX11_paints_110 : decode cX11_paints 110 = .ok (.ifCond .eq 5, 3) := by decide +kernel
theorem dX11_paints_113 : decode cX11_paints 113 = .ok (.iconst 1, 1) := by decide +kernel
theorem dX11_paints_114 : decode cX11_paints 114 = .ok (.ireturn, 1) := by decide +kernel
