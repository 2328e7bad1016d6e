theorem dX5_lineTold_20 : decode (mC mX5_lineTold) 20 = .ok (.bipush 10, 2) := by decide +kernel
theorem dX5_lineTold_22 : decode (mC mX5_lineTold) 22 = .ok (.istore_n 3, 1) := by decide +kernel
theorem dX5_lineTold_23 : decode (mC mX5_lineTold) 23 = .ok (.iload_n 2, 1) := by decide +kernel
theorem dX5_lineTold_24 : decode (mC mX5_lineTold) 24 = .ok (.istore 4, 2) := by decide +kernel
theorem dX5_lineTold_26 : decode (mC mX5_lineTold) 26 = .ok (.iload 4, 2) := by decide +kernel
theorem dX5_lineTold_28 : decode (mC mX5_lineTold) 28 = .ok (.iload_n 3, 1) := by decide +kernel
theorem dX5_lineTold_29 : decode (mC mX5_lineTold) 29 = .ok (.if_icmp .gt 32, 3) := by decide +kernel
theorem dX5_lineTold_32 : decode (mC mX5_lineTold) 32 = .ok (.aload_n 0, 1) := by decide +kernel
theorem dX5_lineTold_33 : decode (mC mX5_lineTold) 33 = .ok (.getfield 60, 3) := by decide +kernel
theorem dX5_lineTold_36 : decode (mC mX5_lineTold) 36 = .ok (.iconst 1, 1) := by decide +kernel
theorem dX5_lineTold_37 : decode (mC mX5_lineTold) 37 = .ok (.if_icmp .ne 24, 3) := by decide +kernel
theorem dX5_lineTold_40 : decode (mC mX5_lineTold) 40 = .ok (.aload_n 0, 1) := by decide +kernel
theorem dX5_lineTold_41 : decode (mC mX5_lineTold) 41 = .ok (.iload 4, 2) := by decide +kernel
theorem dX5_lineTold_43 : decode (mC mX5_lineTold) 43 = .ok (.invokestatic 114, 3) := by decide +kernel
theorem dX5_lineTold_46 : decode (mC mX5_lineTold) 46 = .ok (.invokevirtual 118, 3) := by decide +kernel
theorem dX5_lineTold_49 : decode (mC mX5_lineTold) 49 = .ok (.ifCond .eq 6, 3) := by decide +kernel
theorem dX5_lineTold_52 : decode (mC mX5_lineTold) 52 = .ok (.iload 4, 2) := by decide +kernel
theorem dX5_lineTold_54 : decode (mC mX5_lineTold) 54 = .ok (.ireturn, 1) := by decide +kernel
theorem dX5_lineTold_55 : decode (mC mX5_lineTold) 55 = .ok (.iinc 4 1, 3) := by decide +kernel
theorem dX5_lineTold_58 : decode (mC mX5_lineTold) 58 = .ok (.goto (-32), 3) := by decide +kernel
theorem dX5_lineTold_61 : decode (mC mX5_lineTold) 61 = .ok (.iconst (-1), 1) := by decide +kernel
theorem dX5_lineTold_62 : decode (mC mX5_lineTold) 62 = .ok (.ireturn, 1) := by decide +kernel
theorem dX5_wordOf_0 : decode (mC mX5_wordOf) 0 = .ok (.iload_n 0, 1) := by decide +kernel
theorem dX5_wordOf_1 : decode (mC mX5_wordOf) 1 = .ok (.tableswitch 85 0 9 #[55, 58, 61, 64, 67, 70, 73, 76, 79, 82], 55) := by decide +kernel
theorem dX5_wordOf_56 : decode (mC mX5_wordOf) 56 = .ok (.ldc 122, 2) := by decide +kernel
theorem dX5_wordOf_58 : decode (mC mX5_wordOf) 58 = .ok (.areturn, 1) := by decide +kernel
theorem dX5_wordOf_59 : decode (mC mX5_wordOf) 59 = .ok (.ldc 124, 2) := by decide +kernel
theorem dX5_wordOf_61 : decode (mC mX5_wordOf) 61 = .ok (.areturn, 1) := by decide +kernel
theorem dX5_wordOf_62 : decode (mC mX5_wordOf) 62 = .ok (.ldc 126, 2) := by decide +kernel
theorem dX5_wordOf_64 : decode (mC mX5_wordOf) 64 = .ok (.areturn, 1) := by decide +kernel
theorem dX5_wordOf_65 : decode (mC mX5_wordOf) 65 = .ok (.ldc 128, 2) := by decide +kernel
theorem dX5_wordOf_67 : decode (mC mX5_wordOf) 67 = .ok (.areturn, 1) := by decide +kernel
theorem dX5_wordOf_68 : decode (mC mX5_wordOf) 68 = .ok (.ldc 130, 2) := by decide +kernel
theorem dX5_wordOf_70 : decode (mC mX5_wordOf) 70 = .ok (.areturn, 1) := by decide +kernel
theorem dX5_wordOf_71 : decode (mC mX5_wordOf) 71 = .ok (.ldc 132, 2) := by decide +kernel
theorem dX5_wordOf_73 : decode (mC mX5_wordOf) 73 = .ok (.areturn, 1) := by decide +kernel
theorem dX5_wordOf_74 : decode (mC mX5_wordOf) 74 = .ok (.ldc 134, 2) := by decide +kernel
theorem dX5_wordOf_76 : decode (mC mX5_wordOf) 76 = .ok (.areturn, 1) := by decide +kernel
theorem dX5_wordOf_77 : decode (mC mX5_wordOf) 77 = .ok (.ldc 136, 2) := by decide +kernel
theorem dX5_wordOf_79 : decode (mC mX5_wordOf) 79 = .ok (.areturn, 1) := by decide +kernel
theorem dX5_wordOf_80 : decode (mC mX5_wordOf) 80 = .ok (.ldc 138, 2) := by decide +kernel
theorem dX5_wordOf_82 : decode (mC mX5_wordOf) 82 = .ok (.areturn, 1) := by decide +kernel
theorem dX5_wordOf_83 : decode (mC mX5_wordOf) 83 = .ok (.ldc 140, 2) := by decide +kernel
theorem dX5_wordOf_85 : decode (mC mX5_wordOf) 85 = .ok (.areturn, 1) := by decide +kernel
theorem dX5_wordOf_86 : decode (mC mX5_wordOf) 86 = .ok (.ldc 142, 2) := by decide +kernel
theorem dX5_wordOf_88 : decode (mC mX5_wordOf) 88 = .ok (.areturn, 1) := by decide +kernel
theorem dX5_spells_0 : decode (mC mX5_spells) 0 = .ok (.aload_n 0, 1) := by decide +kernel
theorem dX5_spells_1 : decode (mC mX5_spells) 1 = .ok (.getfield 36, 3) := by decide +kernel
theorem dX5_spells_4 : decode (mC mX5_spells) 4 = .ok (.aload_n 0, 1) := by decide +kernel
theorem dX5_spells_5 : decode (mC mX5_spells) 5 = .ok (.getfield 67, 3) := by decide +kernel
theorem dX5_spells_8 : decode (mC mX5_spells) 8 = .ok (.isub, 1) := by decide +kernel
theorem dX5_spells_9 : decode (mC mX5_spells) 9 = .ok (.aload_n 1, 1) := by decide +kernel
theorem dX5_spells_10 : decode (mC mX5_spells) 10 = .ok (.invokevirtual 144, 3) := by decide +kernel
theorem dX5_spells_13 : decode (mC mX5_spells) 13 = .ok (.if_icmp .eq 5, 3) := by decide +kernel
theorem dX5_spells_16 : decode (mC mX5_spells) 16 = .ok (.iconst 0, 1) := by decide +kernel
theorem dX5_spells_17 : decode (mC mX5_spells) 17 = .ok (.ireturn, 1) := by decide +kernel
theorem dX5_spells_18 : decode (mC mX5_spells) 18 = .ok (.iconst 0, 1) := by decide +kernel
theorem dX5_spells_19 : decode (mC mX5_spells) 19 = .ok (.istore_n 2, 1) := by decide +kernel
theorem dX5_spells_20 : decode (mC mX5_spells) 20 = .ok (.iload_n 2, 1) := by decide +kernel
theorem dX5_spells_21 : decode (mC mX5_spells) 21 = .ok (.aload_n 1, 1) := by decide +kernel
theorem dX5_spells_22 : decode (mC mX5_spells) 22 = .ok (.invokevirtual 144, 3) := by decide +kernel
theorem dX5_spells_25 : decode (mC mX5_spells) 25 = .ok (.if_icmp .ge 32, 3) := by decide +kernel
theorem dX5_spells_28 : decode (mC mX5_spells) 28 = .ok (.aload_n 0, 1) := by decide +kernel
theorem dX5_spells_29 : decode (mC mX5_spells) 29 = .ok (.getfield 29, 3) := by decide +kernel
theorem dX5_spells_32 : decode (mC mX5_spells) 32 = .ok (.aload_n 0, 1) := by decide +kernel
theorem dX5_spells_33 : decode (mC mX5_spells) 33 = .ok (.getfield 67, 3) := by decide +kernel
theorem dX5_spells_36 : decode (mC mX5_spells) 36 = .ok (.iload_n 2, 1) := by decide +kernel
theorem dX5_spells_37 : decode (mC mX5_spells) 37 = .ok (.iadd, 1) := by decide +kernel
theorem dX5_spells_38 : decode (mC mX5_spells) 38 = .ok (.invokestatic 96, 3) := by decide +kernel
theorem dX5_spells_41 : decode (mC mX5_spells) 41 = .ok (.aload_n 1, 1) := by decide +kernel
theorem dX5_spells_42 : decode (mC mX5_spells) 42 = .ok (.iload_n 2, 1) := by decide +kernel
theorem dX5_spells_43 : decode (mC mX5_spells) 43 = .ok (.invokevirtual 149, 3) := by decide +kernel
theorem dX5_spells_46 : decode (mC mX5_spells) 46 = .ok (.if_icmp .eq 5, 3) := by decide +kernel
theorem dX5_spells_49 : decode (mC mX5_spells) 49 = .ok (.iconst 0, 1) := by decide +kernel
theorem dX5_spells_50 : decode (mC mX5_spells) 50 = .ok (.ireturn, 1) := by decide +kernel
theorem dX5_spells_51 : decode (mC mX5_spells) 51 = .ok (.iinc 2 1, 3) := by decide +kernel
theorem dX5_spells_54 : decode (mC mX5_spells) 54 = .ok (.goto (-34), 3) := by decide +kernel
theorem dX5_spells_57 : decode (mC mX5_spells) 57 = .ok (.iconst 1, 1) := by decide +kernel
theorem dX5_spells_58 : decode (mC mX5_spells) 58 = .ok (.ireturn, 1) := by decide +kernel
theorem dX5_isFull_0 : decode (mC mX5_isFull) 0 = .ok (.iload_n 1, 1) := by decide +kernel
theorem dX5_isFull_1 : decode (mC mX5_isFull) 1 = .ok (.lookupswitch 88 #[(2, 35), (9, 53), (10, 70)], 35) := by decide +kernel
theorem dX5_isFull_36 : decode (mC mX5_isFull) 36 = .ok (.aload_n 0, 1) := by decide +kernel
theorem dX5_isFull_37 : decode (mC mX5_isFull) 37 = .ok (.getfield 12, 3) := by decide +kernel
theorem dX5_isFull_40 : decode (mC mX5_isFull) 40 = .ok (.getfield 79, 3) := by decide +kernel
theorem dX5_isFull_43 : decode (mC mX5_isFull) 43 = .ok (.bipush 6, 2) := by decide +kernel
theorem dX5_isFull_45 : decode (mC mX5_isFull) 45 = .ok (.if_icmp .lt 7, 3) := by decide +kernel
theorem dX5_isFull_48 : decode (mC mX5_isFull) 48 = .ok (.iconst 1, 1) := by decide +kernel
theorem dX5_isFull_49 : decode (mC mX5_isFull) 49 = .ok (.goto 4, 3) := by decide +kernel
theorem dX5_isFull_52 : decode (mC mX5_isFull) 52 = .ok (.iconst 0, 1) := by decide +kernel
theorem dX5_isFull_53 : decode (mC mX5_isFull) 53 = .ok (.ireturn, 1) := by decide +kernel
theorem dX5_isFull_54 : decode (mC mX5_isFull) 54 = .ok (.aload_n 0, 1) := by decide +kernel
theorem dX5_isFull_55 : decode (mC mX5_isFull) 55 = .ok (.getfield 12, 3) := by decide +kernel
theorem dX5_isFull_58 : decode (mC mX5_isFull) 58 = .ok (.getfield 153, 3) := by decide +kernel
theorem dX5_isFull_61 : decode (mC mX5_isFull) 61 = .ok (.iconst 5, 1) := by decide +kernel
theorem dX5_isFull_62 : decode (mC mX5_isFull) 62 = .ok (.if_icmp .lt 7, 3) := by decide +kernel
theorem dX5_isFull_65 : decode (mC mX5_isFull) 65 = .ok (.iconst 1, 1) := by decide +kernel
theorem dX5_isFull_66 : decode (mC mX5_isFull) 66 = .ok (.goto 4, 3) := by decide +kernel
theorem dX5_isFull_69 : decode (mC mX5_isFull) 69 = .ok (.iconst 0, 1) := by decide +kernel
theorem dX5_isFull_70 : decode (mC mX5_isFull) 70 = .ok (.ireturn, 1) := by decide +kernel
theorem dX5_isFull_71 : decode (mC mX5_isFull) 71 = .ok (.aload_n 0, 1) := by decide +kernel
theorem dX5_isFull_72 : decode (mC mX5_isFull) 72 = .ok (.getfield 21, 3) := by decide +kernel
theorem dX5_isFull_75 : decode (mC mX5_isFull) 75 = .ok (.getfield 54, 3) := by decide +kernel
theorem dX5_isFull_78 : decode (mC mX5_isFull) 78 = .ok (.bipush 10, 2) := by decide +kernel
theorem dX5_isFull_80 : decode (mC mX5_isFull) 80 = .ok (.if_icmp .lt 7, 3) := by decide +kernel
theorem dX5_isFull_83 : decode (mC mX5_isFull) 83 = .ok (.iconst 1, 1) := by decide +kernel
theorem dX5_isFull_84 : decode (mC mX5_isFull) 84 = .ok (.goto 4, 3) := by decide +kernel
theorem dX5_isFull_87 : decode (mC mX5_isFull) 87 = .ok (.iconst 0, 1) := by decide +kernel
theorem dX5_isFull_88 : decode (mC mX5_isFull) 88 = .ok (.ireturn, 1) := by decide +kernel
theorem dX5_isFull_89 : decode (mC mX5_isFull) 89 = .ok (.iconst 0, 1) := by decide +kernel
theorem dX5_isFull_90 : decode (mC mX5_isFull) 90 = .ok (.ireturn, 1) := by decide +kernel
theorem dX5_note_0 : decode (mC mX5_note) 0 = .ok (.aload_n 0, 1) := by decide +kernel
theorem dX5_note_1 : decode (mC mX5_note) 1 = .ok (.getfield 39, 3) := by decide +kernel
theorem dX5_note_4 : decode (mC mX5_note) 4 = .ok (.ifCond .ne 16, 3) := by decide +kernel
theorem dX5_note_7 : decode (mC mX5_note) 7 = .ok (.aload_n 0, 1) := by decide +kernel
theorem dX5_note_8 : decode (mC mX5_note) 8 = .ok (.iload_n 1, 1) := by decide +kernel
theorem dX5_note_9 : decode (mC mX5_note) 9 = .ok (.putfield 39, 3) := by decide +kernel
theorem dX5_note_12 : decode (mC mX5_note) 12 = .ok (.aload_n 0, 1) := by decide +kernel
theorem dX5_note_13 : decode (mC mX5_note) 13 = .ok (.aload_n 0, 1) := by decide +kernel
theorem dX5_note_14 : decode (mC mX5_note) 14 = .ok (.getfield 67, 3) := by decide +kernel
theorem dX5_note_17 : decode (mC mX5_note) 17 = .ok (.putfield 42, 3) := by decide +kernel
theorem dX5_note_20 : decode (mC mX5_note) 20 = .ok (.return_, 1) := by decide +kernel
theorem dX5_weigh_0 : decode (mC mX5_weigh) 0 = .ok (.iload_n 1, 1) := by decide +kernel
theorem dX5_weigh_1 : decode (mC mX5_weigh) 1 = .ok (.iconst 5, 1) := by decide +kernel
theorem dX5_weigh_2 : decode (mC mX5_weigh) 2 = .ok (.imul, 1) := by decide +kernel
theorem dX5_weigh_3 : decode (mC mX5_weigh) 3 = .ok (.iload_n 2, 1) := by decide +kernel
theorem dX5_weigh_4 : decode (mC mX5_weigh) 4 = .ok (.iload_n 1, 1) := by decide +kernel
theorem dX5_weigh_5 : decode (mC mX5_weigh) 5 = .ok (.iconst 3, 1) := by decide +kernel
theorem dX5_weigh_6 : decode (mC mX5_weigh) 6 = .ok (.if_icmp .ne 7, 3) := by decide +kernel
theorem dX5_weigh_9 : decode (mC mX5_weigh) 9 = .ok (.iconst 3, 1) := by decide +kernel
theorem dX5_weigh_10 : decode (mC mX5_weigh) 10 = .ok (.goto 4, 3) := by decide +kernel
theorem dX5_weigh_13 : decode (mC mX5_weigh) 13 = .ok (.iconst 4, 1) := by decide +kernel
theorem dX5_weigh_14 : decode (mC mX5_weigh) 14 = .ok (.invokestatic 156, 3) := by decide +kernel
theorem dX5_weigh_17 : decode (mC mX5_weigh) 17 = .ok (.iadd, 1) := by decide +kernel
theorem dX5_weigh_18 : decode (mC mX5_weigh) 18 = .ok (.istore_n 3, 1) := by decide +kernel
theorem dX5_weigh_19 : decode (mC mX5_weigh) 19 = .ok (.iload_n 1, 1) := by decide +kernel
theorem dX5_weigh_20 : decode (mC mX5_weigh) 20 = .ok (.iconst 4, 1) := by decide +kernel
theorem dX5_weigh_21 : decode (mC mX5_weigh) 21 = .ok (.if_icmp .ne 27, 3) := by decide +kernel
theorem dX5_weigh_24 : decode (mC mX5_weigh) 24 = .ok (.iload_n 2, 1) := by decide +kernel
theorem dX5_weigh_25 : decode (mC mX5_weigh) 25 = .ok (.iconst 1, 1) := by decide +kernel
theorem dX5_weigh_26 : decode (mC mX5_weigh) 26 = .ok (.if_icmp .ne 22, 3) := by decide +kernel
theorem dX5_weigh_29 : decode (mC mX5_weigh) 29 = .ok (.aload_n 0, 1) := by decide +kernel
theorem dX5_weigh_30 : decode (mC mX5_weigh) 30 = .ok (.getfield 104, 3) := by decide +kernel
theorem dX5_weigh_33 : decode (mC mX5_weigh) 33 = .ok (.aload_n 0, 1) := by decide +kernel
theorem dX5_weigh_34 : decode (mC mX5_weigh) 34 = .ok (.getfield 25, 3) := by decide +kernel
theorem dX5_weigh_37 : decode (mC mX5_weigh) 37 = .ok (.iconst 0, 1) := by decide +kernel
theorem dX5_weigh_38 : decode (mC mX5_weigh) 38 = .ok (.invokestatic 96, 3) := by decide +kernel
theorem dX5_weigh_41 : decode (mC mX5_weigh) 41 = .ok (.if_icmp .ne 7, 3) := by decide +kernel
theorem dX5_weigh_44 : decode (mC mX5_weigh) 44 = .ok (.iconst 1, 1) := by decide +kernel
theorem dX5_weigh_45 : decode (mC mX5_weigh) 45 = .ok (.goto 4, 3) := by decide +kernel
theorem dX5_weigh_48 : decode (mC mX5_weigh) 48 = .ok (.iconst 0, 1) := by decide +kernel
theorem dX5_weigh_49 : decode (mC mX5_weigh) 49 = .ok (.istore 4, 2) := by decide +kernel
theorem dX5_weigh_51 : decode (mC mX5_weigh) 51 = .ok (.aload_n 0, 1) := by decide +kernel
theorem dX5_weigh_52 : decode (mC mX5_weigh) 52 = .ok (.getfield 104, 3) := by decide +kernel
theorem dX5_weigh_55 : decode (mC mX5_weigh) 55 = .ok (.getstatic 159, 3) := by decide +kernel
theorem dX5_weigh_58 : decode (mC mX5_weigh) 58 = .ok (.iload_n 3, 1) := by decide +kernel
theorem dX5_weigh_59 : decode (mC mX5_weigh) 59 = .ok (.invokestatic 96, 3) := by decide +kernel
theorem dX5_weigh_62 : decode (mC mX5_weigh) 62 = .ok (.if_icmp .lt 22, 3) := by decide +kernel
theorem dX5_weigh_65 : decode (mC mX5_weigh) 65 = .ok (.aload_n 0, 1) := by decide +kernel
theorem dX5_weigh_66 : decode (mC mX5_weigh) 66 = .ok (.getfield 104, 3) := by decide +kernel
theorem dX5_weigh_69 : decode (mC mX5_weigh) 69 = .ok (.getstatic 162, 3) := by decide +kernel
theorem dX5_weigh_72 : decode (mC mX5_weigh) 72 = .ok (.iload_n 3, 1) := by decide +kernel
theorem dX5_weigh_73 : decode (mC mX5_weigh) 73 = .ok (.invokestatic 96, 3) := by decide +kernel
theorem dX5_weigh_76 : decode (mC mX5_weigh) 76 = .ok (.if_icmp .gt 8, 3) := by decide +kernel
theorem dX5_weigh_79 : decode (mC mX5_weigh) 79 = .ok (.iload 4, 2) := by decide +kernel
theorem dX5_weigh_81 : decode (mC mX5_weigh) 81 = .ok (.ifCond .eq 8, 3) := by decide +kernel
theorem dX5_weigh_84 : decode (mC mX5_weigh) 84 = .ok (.aload_n 0, 1) := by decide +kernel
theorem dX5_weigh_85 : decode (mC mX5_weigh) 85 = .ok (.iconst 2, 1) := by decide +kernel
theorem dX5_weigh_86 : decode (mC mX5_weigh) 86 = .ok (.invokevirtual 82, 3) := by decide +kernel
theorem dX5_weigh_89 : decode (mC mX5_weigh) 89 = .ok (.iload_n 1, 1) := by decide +kernel
theorem dX5_weigh_90 : decode (mC mX5_weigh) 90 = .ok (.iconst 3, 1) := by decide +kernel
theorem dX5_weigh_91 : decode (mC mX5_weigh) 91 = .ok (.if_icmp .ne 14, 3) := by decide +kernel
theorem dX5_weigh_94 : decode (mC mX5_weigh) 94 = .ok (.iload_n 2, 1) := by decide +kernel
theorem dX5_weigh_95 : decode (mC mX5_weigh) 95 = .ok (.bipush 27, 2) := by decide +kernel
theorem dX5_weigh_97 : decode (mC mX5_weigh) 97 = .ok (.if_icmp .ne 8, 3) := by decide +kernel
theorem dX5_weigh_100 : decode (mC mX5_weigh) 100 = .ok (.aload_n 0, 1) := by decide +kernel
theorem dX5_weigh_101 : decode (mC mX5_weigh) 101 = .ok (.iconst 3, 1) := by decide +kernel
theorem dX5_weigh_102 : decode (mC mX5_weigh) 102 = .ok (.invokevirtual 82, 3) := by decide +kernel
theorem dX5_weigh_105 : decode (mC mX5_weigh) 105 = .ok (.return_, 1) := by decide +kernel
theorem dX5_tell_0 : decode (mC mX5_tell) 0 = .ok (.aload_n 0, 1) := by decide +kernel
theorem dX5_tell_1 : decode (mC mX5_tell) 1 = .ok (.getfield 25, 3) := by decide +kernel
theorem dX5_tell_4 : decode (mC mX5_tell) 4 = .ok (.iconst 0, 1) := by decide +kernel
theorem dX5_tell_5 : decode (mC mX5_tell) 5 = .ok (.invokestatic 96, 3) := by decide +kernel
theorem dX5_tell_8 : decode (mC mX5_tell) 8 = .ok (.istore_n 3, 1) := by decide +kernel
theorem dX5_tell_9 : decode (mC mX5_tell) 9 = .ok (.aload_n 0, 1) := by decide +kernel
theorem dX5_tell_10 : decode (mC mX5_tell) 10 = .ok (.getfield 25, 3) := by decide +kernel
theorem dX5_tell_13 : decode (mC mX5_tell) 13 = .ok (.iconst 1, 1) := by decide +kernel
theorem dX5_tell_14 : decode (mC mX5_tell) 14 = .ok (.invokestatic 96, 3) := by decide +kernel
theorem dX5_tell_17 : decode (mC mX5_tell) 17 = .ok (.istore 4, 2) := by decide +kernel
theorem dX5_tell_19 : decode (mC mX5_tell) 19 = .ok (.aload_n 0, 1) := by decide +kernel
theorem dX5_tell_20 : decode (mC mX5_tell) 20 = .ok (.getfield 25, 3) := by decide +kernel
theorem dX5_tell_23 : decode (mC mX5_tell) 23 = .ok (.iconst 2, 1) := by decide +kernel
theorem dX5_tell_24 : decode (mC mX5_tell) 24 = .ok (.invokestatic 96, 3) := by decide +kernel
theorem dX5_tell_27 : decode (mC mX5_tell) 27 = .ok (.istore 5, 2) := by decide +kernel
theorem dX5_tell_29 : decode (mC mX5_tell) 29 = .ok (.iload_n 1, 1) := by decide +kernel
theorem dX5_tell_30 : decode (mC mX5_tell) 30 = .ok (.tableswitch 184 0 9 #[54, 74, 85, 105, 120, 130, 139, 148, 157, 172], 54) := by decide +kernel
theorem dX5_tell_84 : decode (mC mX5_tell) 84 = .ok (.aload_n 0, 1) := by decide +kernel
theorem dX5_tell_85 : decode (mC mX5_tell) 85 = .ok (.getfield 12, 3) := by decide +kernel
theorem dX5_tell_88 : decode (mC mX5_tell) 88 = .ok (.iload_n 3, 1) := by decide +kernel
theorem dX5_tell_89 : decode (mC mX5_tell) 89 = .ok (.putfield 165, 3) := by decide +kernel
theorem dX5_tell_92 : decode (mC mX5_tell) 92 = .ok (.aload_n 0, 1) := by decide +kernel
theorem dX5_tell_93 : decode (mC mX5_tell) 93 = .ok (.getfield 12, 3) := by decide +kernel
theorem dX5_tell_96 : decode (mC mX5_tell) 96 = .ok (.iload 4, 2) := by decide +kernel
theorem dX5_tell_98 : decode (mC mX5_tell) 98 = .ok (.putfield 168, 3) := by decide +kernel
theorem dX5_tell_101 : decode (mC mX5_tell) 101 = .ok (.goto 117, 3) := by decide +kernel
theorem dX5_tell_104 : decode (mC mX5_tell) 104 = .ok (.aload_n 0, 1) := by decide +kernel
theorem dX5_tell_105 : decode (mC mX5_tell) 105 = .ok (.getfield 12, 3) := by decide +kernel
theorem dX5_tell_108 : decode (mC mX5_tell) 108 = .ok (.iload_n 3, 1) := by decide +kernel
theorem dX5_tell_109 : decode (mC mX5_tell) 109 = .ok (.putfield 171, 3) := by decide +kernel
theorem dX5_tell_112 : decode (mC mX5_tell) 112 = .ok (.goto 106, 3) := by decide +kernel
theorem dX5_tell_115 : decode (mC mX5_tell) 115 = .ok (.aload_n 0, 1) := by decide +kernel
theorem dX5_tell_116 : decode (mC mX5_tell) 116 = .ok (.iload_n 3, 1) := by decide +kernel
theorem dX5_tell_117 : decode (mC mX5_tell) 117 = .ok (.iload 4, 2) := by decide +kernel
theorem dX5_tell_119 : decode (mC mX5_tell) 119 = .ok (.iload 5, 2) := by decide +kernel
theorem dX5_tell_121 : decode (mC mX5_tell) 121 = .ok (.aload_n 0, 1) := by decide +kernel
theorem dX5_tell_122 : decode (mC mX5_tell) 122 = .ok (.getfield 25, 3) := by decide +kernel
theorem dX5_tell_125 : decode (mC mX5_tell) 125 = .ok (.iconst 3, 1) := by decide +kernel
theorem dX5_tell_126 : decode (mC mX5_tell) 126 = .ok (.invokestatic 96, 3) := by decide +kernel
theorem dX5_tell_129 : decode (mC mX5_tell) 129 = .ok (.invokevirtual 173, 3) := by decide +kernel
theorem dX5_tell_132 : decode (mC mX5_tell) 132 = .ok (.goto 86, 3) := by decide +kernel
theorem dX5_tell_135 : decode (mC mX5_tell) 135 = .ok (.aload_n 0, 1) := by decide +kernel
theorem dX5_tell_136 : decode (mC mX5_tell) 136 = .ok (.iload_n 3, 1) := by decide +kernel
theorem dX5_tell_137 : decode (mC mX5_tell) 137 = .ok (.iload 4, 2) := by decide +kernel
theorem dX5_tell_139 : decode (mC mX5_tell) 139 = .ok (.iload 5, 2) := by decide +kernel
theorem dX5_tell_141 : decode (mC mX5_tell) 141 = .ok (.iload_n 2, 1) := by decide +kernel
theorem dX5_tell_142 : decode (mC mX5_tell) 142 = .ok (.iconst 3, 1) := by decide +kernel
theorem dX5_tell_143 : decode (mC mX5_tell) 143 = .ok (.isub, 1) := by decide +kernel
theorem dX5_tell_144 : decode (mC mX5_tell) 144 = .ok (.invokevirtual 177, 3) := by decide +kernel
theorem dX5_tell_147 : decode (mC mX5_tell) 147 = .ok (.goto 71, 3) := by decide +kernel
theorem dX5_tell_150 : decode (mC mX5_tell) 150 = .ok (.aload_n 0, 1) := by decide +kernel
theorem dX5_tell_151 : decode (mC mX5_tell) 151 = .ok (.iload_n 3, 1) := by decide +kernel
theorem dX5_tell_152 : decode (mC mX5_tell) 152 = .ok (.iload 4, 2) := by decide +kernel
theorem dX5_tell_154 : decode (mC mX5_tell) 154 = .ok (.invokevirtual 180, 3) := by decide +kernel
theorem dX5_tell_157 : decode (mC mX5_tell) 157 = .ok (.goto 61, 3) := by decide +kernel
theorem dX5_tell_160 : decode (mC mX5_tell) 160 = .ok (.aload_n 0, 1) := by decide +kernel
theorem dX5_tell_161 : decode (mC mX5_tell) 161 = .ok (.iload_n 3, 1) := by decide +kernel
theorem dX5_tell_162 : decode (mC mX5_tell) 162 = .ok (.iconst 0, 1) := by decide +kernel
theorem dX5_tell_163 : decode (mC mX5_tell) 163 = .ok (.invokevirtual 183, 3) := by decide +kernel
theorem dX5_tell_166 : decode (mC mX5_tell) 166 = .ok (.goto 52, 3) := by decide +kernel
theorem dX5_tell_169 : decode (mC mX5_tell) 169 = .ok (.aload_n 0, 1) := by decide +kernel
theorem dX5_tell_170 : decode (mC mX5_tell) 170 = .ok (.iload_n 3, 1) := by decide +kernel
theorem dX5_tell_171 : decode (mC mX5_tell) 171 = .ok (.iconst 1, 1) := by decide +kernel
theorem dX5_tell_172 : decode (mC mX5_tell) 172 = .ok (.invokevirtual 183, 3) := by decide +kernel
theorem dX5_tell_175 : decode (mC mX5_tell) 175 = .ok (.goto 43, 3) := by decide +kernel
theorem dX5_tell_178 : decode (mC mX5_tell) 178 = .ok (.aload_n 0, 1) := by decide +kernel
theorem dX5_tell_179 : decode (mC mX5_tell) 179 = .ok (.iload_n 3, 1) := by decide +kernel
theorem dX5_tell_180 : decode (mC mX5_tell) 180 = .ok (.iconst 2, 1) := by decide +kernel
theorem dX5_tell_181 : decode (mC mX5_tell) 181 = .ok (.invokevirtual 183, 3) := by decide +kernel
theorem dX5_tell_184 : decode (mC mX5_tell) 184 = .ok (.goto 34, 3) := by decide +kernel
theorem dX5_tell_187 : decode (mC mX5_tell) 187 = .ok (.aload_n 0, 1) := by decide +kernel
theorem dX5_tell_188 : decode (mC mX5_tell) 188 = .ok (.getfield 12, 3) := by decide +kernel
theorem dX5_tell_191 : decode (mC mX5_tell) 191 = .ok (.getfield 186, 3) := by decide +kernel
theorem dX5_tell_194 : decode (mC mX5_tell) 194 = .ok (.iload_n 3, 1) := by decide +kernel
theorem dX5_tell_195 : decode (mC mX5_tell) 195 = .ok (.iconst 1, 1) := by decide +kernel
theorem dX5_tell_196 : decode (mC mX5_tell) 196 = .ok (.invokestatic 107, 3) := by decide +kernel
theorem dX5_tell_199 : decode (mC mX5_tell) 199 = .ok (.goto 19, 3) := by decide +kernel
theorem dX5_tell_202 : decode (mC mX5_tell) 202 = .ok (.aload_n 0, 1) := by decide +kernel
theorem dX5_tell_203 : decode (mC mX5_tell) 203 = .ok (.iload_n 3, 1) := by decide +kernel
theorem dX5_tell_204 : decode (mC mX5_tell) 204 = .ok (.iload 4, 2) := by decide +kernel
theorem dX5_tell_206 : decode (mC mX5_tell) 206 = .ok (.iload 5, 2) := by decide +kernel
theorem dX5_tell_208 : decode (mC mX5_tell) 208 = .ok (.invokevirtual 189, 3) := by decide +kernel
theorem dX5_tell_211 : decode (mC mX5_tell) 211 = .ok (.goto 7, 3) := by decide +kernel
theorem dX5_tell_214 : decode (mC mX5_tell) 214 = .ok (.aload_n 0, 1) := by decide +kernel
theorem dX5_tell_215 : decode (mC mX5_tell) 215 = .ok (.invokevirtual 193, 3) := by decide +kernel
theorem dX5_tell_218 : decode (mC mX5_tell) 218 = .ok (.return_, 1) := by decide +kernel
theorem dX5_tellFoot_0 : decode (mC mX5_tellFoot) 0 = .ok (.aload_n 0, 1) := by decide +kernel
theorem dX5_tellFoot_1 : decode (mC mX5_tellFoot) 1 = .ok (.getfield 12, 3) := by decide +kernel
theorem dX5_tellFoot_4 : decode (mC mX5_tellFoot) 4 = .ok (.aload_n 0, 1) := by decide +kernel
theorem dX5_tellFoot_5 : decode (mC mX5_tellFoot) 5 = .ok (.getfield 12, 3) := by decide +kernel
theorem dX5_tellFoot_8 : decode (mC mX5_tellFoot) 8 = .ok (.getfield 79, 3) := by decide +kernel
theorem dX5_tellFoot_11 : decode (mC mX5_tellFoot) 11 = .ok (.invokevirtual 196, 3) := by decide +kernel
theorem dX5_tellFoot_14 : decode (mC mX5_tellFoot) 14 = .ok (.astore 5, 2) := by decide +kernel
theorem dX5_tellFoot_16 : decode (mC mX5_tellFoot) 16 = .ok (.aload 5, 2) := by decide +kernel
theorem dX5_tellFoot_18 : decode (mC mX5_tellFoot) 18 = .ok (.ifnull 41, 3) := by decide +kernel
theorem dX5_tellFoot_21 : decode (mC mX5_tellFoot) 21 = .ok (.aload 5, 2) := by decide +kernel
theorem dX5_tellFoot_23 : decode (mC mX5_tellFoot) 23 = .ok (.iload_n 1, 1) := by decide +kernel
theorem dX5_tellFoot_24 : decode (mC mX5_tellFoot) 24 = .ok (.putfield 200, 3) := by decide +kernel
theorem dX5_tellFoot_27 : decode (mC mX5_tellFoot) 27 = .ok (.aload 5, 2) := by decide +kernel
theorem dX5_tellFoot_29 : decode (mC mX5_tellFoot) 29 = .ok (.iload_n 2, 1) := by decide +kernel
theorem dX5_tellFoot_30 : decode (mC mX5_tellFoot) 30 = .ok (.putfield 205, 3) := by decide +kernel
theorem dX5_tellFoot_33 : decode (mC mX5_tellFoot) 33 = .ok (.aload 5, 2) := by decide +kernel
theorem dX5_tellFoot_35 : decode (mC mX5_tellFoot) 35 = .ok (.iload_n 3, 1) := by decide +kernel
theorem dX5_tellFoot_36 : decode (mC mX5_tellFoot) 36 = .ok (.putfield 208, 3) := by decide +kernel
theorem dX5_tellFoot_39 : decode (mC mX5_tellFoot) 39 = .ok (.aload 5, 2) := by decide +kernel
theorem dX5_tellFoot_41 : decode (mC mX5_tellFoot) 41 = .ok (.iload 4, 2) := by decide +kernel
theorem dX5_tellFoot_43 : decode (mC mX5_tellFoot) 43 = .ok (.putfield 211, 3) := by decide +kernel
theorem dX5_tellFoot_46 : decode (mC mX5_tellFoot) 46 = .ok (.aload_n 0, 1) := by decide +kernel
theorem dX5_tellFoot_47 : decode (mC mX5_tellFoot) 47 = .ok (.getfield 12, 3) := by decide +kernel
theorem dX5_tellFoot_50 : decode (mC mX5_tellFoot) 50 = .ok (.dup, 1) := by decide +kernel
theorem dX5_tellFoot_51 : decode (mC mX5_tellFoot) 51 = .ok (.getfield 79, 3) := by decide +kernel
theorem dX5_tellFoot_54 : decode (mC mX5_tellFoot) 54 = .ok (.iconst 1, 1) := by decide +kernel
theorem dX5_tellFoot_55 : decode (mC mX5_tellFoot) 55 = .ok (.iadd, 1) := by decide +kernel
theorem dX5_tellFoot_56 : decode (mC mX5_tellFoot) 56 = .ok (.putfield 79, 3) := by decide +kernel
theorem dX5_tellFoot_59 : decode (mC mX5_tellFoot) 59 = .ok (.return_, 1) := by decide +kernel
theorem dX5_tellWalk_0 : decode (mC mX5_tellWalk) 0 = .ok (.aload_n 0, 1) := by decide +kernel
theorem dX5_tellWalk_1 : decode (mC mX5_tellWalk) 1 = .ok (.getfield 12, 3) := by decide +kernel
theorem dX5_tellWalk_4 : decode (mC mX5_tellWalk) 4 = .ok (.iload_n 1, 1) := by decide +kernel
theorem dX5_tellWalk_5 : decode (mC mX5_tellWalk) 5 = .ok (.invokevirtual 196, 3) := by decide +kernel
theorem dX5_tellWalk_8 : decode (mC mX5_tellWalk) 8 = .ok (.astore 5, 2) := by decide +kernel
theorem dX5_tellWalk_10 : decode (mC mX5_tellWalk) 10 = .ok (.aload 5, 2) := by decide +kernel
theorem dX5_tellWalk_12 : decode (mC mX5_tellWalk) 12 = .ok (.ifnull 67, 3) := by decide +kernel
theorem dX5_tellWalk_15 : decode (mC mX5_tellWalk) 15 = .ok (.aload 5, 2) := by decide +kernel
theorem dX5_tellWalk_17 : decode (mC mX5_tellWalk) 17 = .ok (.iload_n 2, 1) := by decide +kernel
theorem dX5_tellWalk_18 : decode (mC mX5_tellWalk) 18 = .ok (.putfield 214, 3) := by decide +kernel
theorem dX5_tellWalk_21 : decode (mC mX5_tellWalk) 21 = .ok (.aload 5, 2) := by decide +kernel
theorem dX5_tellWalk_23 : decode (mC mX5_tellWalk) 23 = .ok (.iload_n 3, 1) := by decide +kernel
theorem dX5_tellWalk_24 : decode (mC mX5_tellWalk) 24 = .ok (.putfield 217, 3) := by decide +kernel
theorem dX5_tellWalk_27 : decode (mC mX5_tellWalk) 27 = .ok (.aload 5, 2) := by decide +kernel
theorem dX5_tellWalk_29 : decode (mC mX5_tellWalk) 29 = .ok (.iload 4, 2) := by decide +kernel
theorem dX5_tellWalk_31 : decode (mC mX5_tellWalk) 31 = .ok (.bipush 24, 2) := by decide +kernel
theorem dX5_tellWalk_33 : decode (mC mX5_tellWalk) 33 = .ok (.invokestatic 156, 3) := by decide +kernel
theorem dX5_tellWalk_36 : decode (mC mX5_tellWalk) 36 = .ok (.putfield 220, 3) := by decide +kernel
theorem dX5_tellWalk_39 : decode (mC mX5_tellWalk) 39 = .ok (.iconst 0, 1) := by decide +kernel
theorem dX5_tellWalk_40 : decode (mC mX5_tellWalk) 40 = .ok (.istore 6, 2) := by decide +kernel
theorem dX5_tellWalk_42 : decode (mC mX5_tellWalk) 42 = .ok (.iload 6, 2) := by decide +kernel
theorem dX5_tellWalk_44 : decode (mC mX5_tellWalk) 44 = .ok (.aload 5, 2) := by decide +kernel
theorem dX5_tellWalk_46 : decode (mC mX5_tellWalk) 46 = .ok (.getfield 220, 3) := by decide +kernel
theorem dX5_tellWalk_49 : decode (mC mX5_tellWalk) 49 = .ok (.if_icmp .ge 30, 3) := by decide +kernel
theorem dX5_tellWalk_52 : decode (mC mX5_tellWalk) 52 = .ok (.aload 5, 2) := by decide +kernel
theorem dX5_tellWalk_54 : decode (mC mX5_tellWalk) 54 = .ok (.getfield 223, 3) := by decide +kernel
theorem dX5_tellWalk_57 : decode (mC mX5_tellWalk) 57 = .ok (.iload 6, 2) := by decide +kernel
theorem dX5_tellWalk_59 : decode (mC mX5_tellWalk) 59 = .ok (.aload_n 0, 1) := by decide +kernel
theorem dX5_tellWalk_60 : decode (mC mX5_tellWalk) 60 = .ok (.getfield 25, 3) := by decide +kernel
theorem dX5_tellWalk_63 : decode (mC mX5_tellWalk) 63 = .ok (.iconst 3, 1) := by decide +kernel
theorem dX5_tellWalk_64 : decode (mC mX5_tellWalk) 64 = .ok (.iload 6, 2) := by decide +kernel
theorem dX5_tellWalk_66 : decode (mC mX5_tellWalk) 66 = .ok (.iadd, 1) := by decide +kernel
theorem dX5_tellWalk_67 : decode (mC mX5_tellWalk) 67 = .ok (.invokestatic 96, 3) := by decide +kernel
theorem dX5_tellWalk_70 : decode (mC mX5_tellWalk) 70 = .ok (.invokestatic 107, 3) := by decide +kernel
theorem dX5_tellWalk_73 : decode (mC mX5_tellWalk) 73 = .ok (.iinc 6 1, 3) := by decide +kernel
theorem dX5_tellWalk_76 : decode (mC mX5_tellWalk) 76 = .ok (.goto (-34), 3) := by decide +kernel
theorem dX5_tellWalk_79 : decode (mC mX5_tellWalk) 79 = .ok (.aload_n 0, 1) := by decide +kernel
theorem dX5_tellWalk_80 : decode (mC mX5_tellWalk) 80 = .ok (.aload_n 0, 1) := by decide +kernel
theorem dX5_tellWalk_81 : decode (mC mX5_tellWalk) 81 = .ok (.getfield 48, 3) := by decide +kernel
theorem dX5_tellWalk_84 : decode (mC mX5_tellWalk) 84 = .ok (.iload_n 1, 1) := by decide +kernel
theorem dX5_tellWalk_85 : decode (mC mX5_tellWalk) 85 = .ok (.invokestatic 70, 3) := by decide +kernel
theorem dX5_tellWalk_88 : decode (mC mX5_tellWalk) 88 = .ok (.putfield 48, 3) := by decide +kernel
theorem dX5_tellWalk_91 : decode (mC mX5_tellWalk) 91 = .ok (.aload_n 0, 1) := by decide +kernel
theorem dX5_tellWalk_92 : decode (mC mX5_tellWalk) 92 = .ok (.aload_n 0, 1) := by decide +kernel
theorem dX5_tellWalk_93 : decode (mC mX5_tellWalk) 93 = .ok (.getfield 45, 3) := by decide +kernel
theorem dX5_tellWalk_96 : decode (mC mX5_tellWalk) 96 = .ok (.iload_n 2, 1) := by decide +kernel
theorem dX5_tellWalk_97 : decode (mC mX5_tellWalk) 97 = .ok (.invokestatic 70, 3) := by decide +kernel
theorem dX5_tellWalk_100 : decode (mC mX5_tellWalk) 100 = .ok (.putfield 45, 3) := by decide +kernel
theorem dX5_tellWalk_103 : decode (mC mX5_tellWalk) 103 = .ok (.return_, 1) := by decide +kernel
theorem dX5_tellCarry_0 : decode (mC mX5_tellCarry) 0 = .ok (.aload_n 0, 1) := by decide +kernel
theorem dX5_tellCarry_1 : decode (mC mX5_tellCarry) 1 = .ok (.getfield 12, 3) := by decide +kernel
theorem dX5_tellCarry_4 : decode (mC mX5_tellCarry) 4 = .ok (.iload_n 2, 1) := by decide +kernel
theorem dX5_tellCarry_5 : decode (mC mX5_tellCarry) 5 = .ok (.invokevirtual 196, 3) := by decide +kernel
theorem dX5_tellCarry_8 : decode (mC mX5_tellCarry) 8 = .ok (.astore_n 3, 1) := by decide +kernel
theorem dX5_tellCarry_9 : decode (mC mX5_tellCarry) 9 = .ok (.aload_n 3, 1) := by decide +kernel
theorem dX5_tellCarry_10 : decode (mC mX5_tellCarry) 10 = .ok (.ifnull 8, 3) := by decide +kernel
theorem dX5_tellCarry_13 : decode (mC mX5_tellCarry) 13 = .ok (.aload_n 3, 1) := by decide +kernel
theorem dX5_tellCarry_14 : decode (mC mX5_tellCarry) 14 = .ok (.iload_n 1, 1) := by decide +kernel
theorem dX5_tellCarry_15 : decode (mC mX5_tellCarry) 15 = .ok (.putfield 226, 3) := by decide +kernel
theorem dX5_tellCarry_18 : decode (mC mX5_tellCarry) 18 = .ok (.aload_n 0, 1) := by decide +kernel
theorem dX5_tellCarry_19 : decode (mC mX5_tellCarry) 19 = .ok (.aload_n 0, 1) := by decide +kernel
theorem dX5_tellCarry_20 : decode (mC mX5_tellCarry) 20 = .ok (.getfield 48, 3) := by decide +kernel
theorem dX5_tellCarry_23 : decode (mC mX5_tellCarry) 23 = .ok (.iload_n 1, 1) := by decide +kernel
theorem dX5_tellCarry_24 : decode (mC mX5_tellCarry) 24 = .ok (.iload_n 2, 1) := by decide +kernel
theorem dX5_tellCarry_25 : decode (mC mX5_tellCarry) 25 = .ok (.invokestatic 70, 3) := by decide +kernel
theorem dX5_tellCarry_28 : decode (mC mX5_tellCarry) 28 = .ok (.invokestatic 70, 3) := by decide +kernel
theorem dX5_tellCarry_31 : decode (mC mX5_tellCarry) 31 = .ok (.putfield 48, 3) := by decide +kernel
theorem dX5_tellCarry_34 : decode (mC mX5_tellCarry) 34 = .ok (.return_, 1) := by decide +kernel
theorem dX5_tellManner_0 : decode (mC mX5_tellManner) 0 = .ok (.aload_n 0, 1) := by decide +kernel
theorem dX5_tellManner_1 : decode (mC mX5_tellManner) 1 = .ok (.getfield 12, 3) := by decide +kernel
theorem dX5_tellManner_4 : decode (mC mX5_tellManner) 4 = .ok (.iload_n 1, 1) := by decide +kernel
theorem dX5_tellManner_5 : decode (mC mX5_tellManner) 5 = .ok (.invokevirtual 196, 3) := by decide +kernel
theorem dX5_tellManner_8 : decode (mC mX5_tellManner) 8 = .ok (.astore_n 3, 1) := by decide +kernel
theorem dX5_tellManner_9 : decode (mC mX5_tellManner) 9 = .ok (.aload_n 3, 1) := by decide +kernel
theorem dX5_tellManner_10 : decode (mC mX5_tellManner) 10 = .ok (.ifnull 8, 3) := by decide +kernel
theorem dX5_tellManner_13 : decode (mC mX5_tellManner) 13 = .ok (.aload_n 3, 1) := by decide +kernel
theorem dX5_tellManner_14 : decode (mC mX5_tellManner) 14 = .ok (.iload_n 2, 1) := by decide +kernel
theorem dX5_tellManner_15 : decode (mC mX5_tellManner) 15 = .ok (.putfield 229, 3) := by decide +kernel
theorem dX5_tellManner_18 : decode (mC mX5_tellManner) 18 = .ok (.aload_n 0, 1) := by decide +kernel
theorem dX5_tellManner_19 : decode (mC mX5_tellManner) 19 = .ok (.aload_n 0, 1) := by decide +kernel
theorem dX5_tellManner_20 : decode (mC mX5_tellManner) 20 = .ok (.getfield 48, 3) := by decide +kernel
theorem dX5_tellManner_23 : decode (mC mX5_tellManner) 23 = .ok (.iload_n 1, 1) := by decide +kernel
theorem dX5_tellManner_24 : decode (mC mX5_tellManner) 24 = .ok (.invokestatic 70, 3) := by decide +kernel
theorem dX5_tellManner_27 : decode (mC mX5_tellManner) 27 = .ok (.putfield 48, 3) := by decide +kernel
theorem dX5_tellManner_30 : decode (mC mX5_tellManner) 30 = .ok (.return_, 1) := by decide +kernel
theorem dX5_tellErrand_0 : decode (mC mX5_tellErrand) 0 = .ok (.aload_n 0, 1) := by decide +kernel
theorem dX5_tellErrand_1 : decode (mC mX5_tellErrand) 1 = .ok (.getfield 12, 3) := by decide +kernel
theorem dX5_tellErrand_4 : decode (mC mX5_tellErrand) 4 = .ok (.getfield 232, 3) := by decide +kernel
theorem dX5_tellErrand_7 : decode (mC mX5_tellErrand) 7 = .ok (.aload_n 0, 1) := by decide +kernel
theorem dX5_tellErrand_8 : decode (mC mX5_tellErrand) 8 = .ok (.getfield 12, 3) := by decide +kernel
theorem dX5_tellErrand_11 : decode (mC mX5_tellErrand) 11 = .ok (.getfield 153, 3) := by decide +kernel
theorem dX5_tellErrand_14 : decode (mC mX5_tellErrand) 14 = .ok (.iload_n 1, 1) := by decide +kernel
theorem dX5_tellErrand_15 : decode (mC mX5_tellErrand) 15 = .ok (.invokestatic 107, 3) := by decide +kernel
theorem dX5_tellErrand_18 : decode (mC mX5_tellErrand) 18 = .ok (.aload_n 0, 1) := by decide +kernel
theorem dX5_tellErrand_19 : decode (mC mX5_tellErrand) 19 = .ok (.getfield 12, 3) := by decide +kernel
theorem dX5_tellErrand_22 : decode (mC mX5_tellErrand) 22 = .ok (.getfield 235, 3) := by decide +kernel
theorem dX5_tellErrand_25 : decode (mC mX5_tellErrand) 25 = .ok (.aload_n 0, 1) := by decide +kernel
theorem dX5_tellErrand_26 : decode (mC mX5_tellErrand) 26 = .ok (.getfield 12, 3) := by decide +kernel
theorem dX5_tellErrand_29 : decode (mC mX5_tellErrand) 29 = .ok (.getfield 153, 3) := by decide +kernel
theorem dX5_tellErrand_32 : decode (mC mX5_tellErrand) 32 = .ok (.iload_n 2, 1) := by decide +kernel
theorem dX5_tellErrand_33 : decode (mC mX5_tellErrand) 33 = .ok (.invokestatic 107, 3) := by decide +kernel
theorem dX5_tellErrand_36 : decode (mC mX5_tellErrand) 36 = .ok (.aload_n 0, 1) := by decide +kernel
theorem dX5_tellErrand_37 : decode (mC mX5_tellErrand) 37 = .ok (.getfield 12, 3) := by decide +kernel
theorem dX5_tellErrand_40 : decode (mC mX5_tellErrand) 40 = .ok (.getfield 238, 3) := by decide +kernel
theorem dX5_tellErrand_43 : decode (mC mX5_tellErrand) 43 = .ok (.aload_n 0, 1) := by decide +kernel
theorem dX5_tellErrand_44 : decode (mC mX5_tellErrand) 44 = .ok (.getfield 12, 3) := by decide +kernel
theorem dX5_tellErrand_47 : decode (mC mX5_tellErrand) 47 = .ok (.getfield 153, 3) := by decide +kernel
theorem dX5_tellErrand_50 : decode (mC mX5_tellErrand) 50 = .ok (.iload_n 3, 1) := by decide +kernel
theorem dX5_tellErrand_51 : decode (mC mX5_tellErrand) 51 = .ok (.invokestatic 107, 3) := by decide +kernel
theorem dX5_tellErrand_54 : decode (mC mX5_tellErrand) 54 = .ok (.aload_n 0, 1) := by decide +kernel
theorem dX5_tellErrand_55 : decode (mC mX5_tellErrand) 55 = .ok (.getfield 12, 3) := by decide +kernel
theorem dX5_tellErrand_58 : decode (mC mX5_tellErrand) 58 = .ok (.dup, 1) := by decide +kernel
theorem dX5_tellErrand_59 : decode (mC mX5_tellErrand) 59 = .ok (.getfield 153, 3) := by decide +kernel
theorem dX5_tellErrand_62 : decode (mC mX5_tellErrand) 62 = .ok (.iconst 1, 1) := by decide +kernel
theorem dX5_tellErrand_63 : decode (mC mX5_tellErrand) 63 = .ok (.iadd, 1) := by decide +kernel
theorem dX5_tellErrand_64 : decode (mC mX5_tellErrand) 64 = .ok (.putfield 153, 3) := by decide +kernel
theorem dX5_tellErrand_67 : decode (mC mX5_tellErrand) 67 = .ok (.aload_n 0, 1) := by decide +kernel
theorem dX5_tellErrand_68 : decode (mC mX5_tellErrand) 68 = .ok (.aload_n 0, 1) := by decide +kernel
theorem dX5_tellErrand_69 : decode (mC mX5_tellErrand) 69 = .ok (.getfield 48, 3) := by decide +kernel
theorem dX5_tellErrand_72 : decode (mC mX5_tellErrand) 72 = .ok (.iload_n 1, 1) := by decide +kernel
theorem dX5_tellErrand_73 : decode (mC mX5_tellErrand) 73 = .ok (.invokestatic 70, 3) := by decide +kernel
theorem dX5_tellErrand_76 : decode (mC mX5_tellErrand) 76 = .ok (.putfield 48, 3) := by decide +kernel
theorem dX5_tellErrand_79 : decode (mC mX5_tellErrand) 79 = .ok (.aload_n 0, 1) := by decide +kernel
theorem dX5_tellErrand_80 : decode (mC mX5_tellErrand) 80 = .ok (.aload_n 0, 1) := by decide +kernel
theorem dX5_tellErrand_81 : decode (mC mX5_tellErrand) 81 = .ok (.getfield 45, 3) := by decide +kernel
theorem dX5_tellErrand_84 : decode (mC mX5_tellErrand) 84 = .ok (.iload_n 2, 1) := by decide +kernel
theorem dX5_tellErrand_85 : decode (mC mX5_tellErrand) 85 = .ok (.iload_n 3, 1) := by decide +kernel
theorem dX5_tellErrand_86 : decode (mC mX5_tellErrand) 86 = .ok (.invokestatic 70, 3) := by decide +kernel
theorem dX5_tellErrand_89 : decode (mC mX5_tellErrand) 89 = .ok (.invokestatic 70, 3) := by decide +kernel
theorem dX5_tellErrand_92 : decode (mC mX5_tellErrand) 92 = .ok (.putfield 45, 3) := by decide +kernel
theorem dX5_tellErrand_95 : decode (mC mX5_tellErrand) 95 = .ok (.return_, 1) := by decide +kernel
theorem dX5_tellSign_0 : decode (mC mX5_tellSign) 0 = .ok (.aload_n 0, 1) := by decide +kernel
theorem dX5_tellSign_1 : decode (mC mX5_tellSign) 1 = .ok (.getfield 21, 3) := by decide +kernel
theorem dX5_tellSign_4 : decode (mC mX5_tellSign) 4 = .ok (.getfield 241, 3) := by decide +kernel
theorem dX5_tellSign_7 : decode (mC mX5_tellSign) 7 = .ok (.aload_n 0, 1) := by decide +kernel
theorem dX5_tellSign_8 : decode (mC mX5_tellSign) 8 = .ok (.getfield 21, 3) := by decide +kernel
theorem dX5_tellSign_11 : decode (mC mX5_tellSign) 11 = .ok (.getfield 54, 3) := by decide +kernel
theorem dX5_tellSign_14 : decode (mC mX5_tellSign) 14 = .ok (.aload_n 0, 1) := by decide +kernel
theorem dX5_tellSign_15 : decode (mC mX5_tellSign) 15 = .ok (.getfield 25, 3) := by decide +kernel
theorem dX5_tellSign_18 : decode (mC mX5_tellSign) 18 = .ok (.iconst 0, 1) := by decide +kernel
theorem dX5_tellSign_19 : decode (mC mX5_tellSign) 19 = .ok (.invokestatic 96, 3) := by decide +kernel
theorem dX5_tellSign_22 : decode (mC mX5_tellSign) 22 = .ok (.invokestatic 107, 3) := by decide +kernel
theorem dX5_tellSign_25 : decode (mC mX5_tellSign) 25 = .ok (.aload_n 0, 1) := by decide +kernel
theorem dX5_tellSign_26 : decode (mC mX5_tellSign) 26 = .ok (.getfield 21, 3) := by decide +kernel
theorem dX5_tellSign_29 : decode (mC mX5_tellSign) 29 = .ok (.getfield 244, 3) := by decide +kernel
theorem dX5_tellSign_32 : decode (mC mX5_tellSign) 32 = .ok (.aload_n 0, 1) := by decide +kernel
theorem dX5_tellSign_33 : decode (mC mX5_tellSign) 33 = .ok (.getfield 21, 3) := by decide +kernel
theorem dX5_tellSign_36 : decode (mC mX5_tellSign) 36 = .ok (.getfield 54, 3) := by decide +kernel
theorem dX5_tellSign_39 : decode (mC mX5_tellSign) 39 = .ok (.aload_n 0, 1) := by decide +kernel
theorem dX5_tellSign_40 : decode (mC mX5_tellSign) 40 = .ok (.getfield 25, 3) := by decide +kernel
theorem dX5_tellSign_43 : decode (mC mX5_tellSign) 43 = .ok (.iconst 1, 1) := by decide +kernel
theorem dX5_tellSign_44 : decode (mC mX5_tellSign) 44 = .ok (.invokestatic 96, 3) := by decide +kernel
theorem dX5_tellSign_47 : decode (mC mX5_tellSign) 47 = .ok (.invokestatic 107, 3) := by decide +kernel
theorem dX5_tellSign_50 : decode (mC mX5_tellSign) 50 = .ok (.aload_n 0, 1) := by decide +kernel
theorem dX5_tellSign_51 : decode (mC mX5_tellSign) 51 = .ok (.getfield 21, 3) := by decide +kernel
theorem dX5_tellSign_54 : decode (mC mX5_tellSign) 54 = .ok (.getfield 247, 3) := by decide +kernel
theorem dX5_tellSign_57 : decode (mC mX5_tellSign) 57 = .ok (.aload_n 0, 1) := by decide +kernel
theorem dX5_tellSign_58 : decode (mC mX5_tellSign) 58 = .ok (.getfield 21, 3) := by decide +kernel
theorem dX5_tellSign_61 : decode (mC mX5_tellSign) 61 = .ok (.getfield 54, 3) := by decide +kernel
theorem dX5_tellSign_64 : decode (mC mX5_tellSign) 64 = .ok (.aload_n 0, 1) := by decide +kernel
theorem dX5_tellSign_65 : decode (mC mX5_tellSign) 65 = .ok (.getfield 25, 3) := by decide +kernel
theorem dX5_tellSign_68 : decode (mC mX5_tellSign) 68 = .ok (.iconst 2, 1) := by decide +kernel
theorem dX5_tellSign_69 : decode (mC mX5_tellSign) 69 = .ok (.invokestatic 96, 3) := by decide +kernel
theorem dX5_tellSign_72 : decode (mC mX5_tellSign) 72 = .ok (.invokestatic 107, 3) := by decide +kernel
theorem dX5_tellSign_75 : decode (mC mX5_tellSign) 75 = .ok (.aload_n 0, 1) := by decide +kernel
theorem dX5_tellSign_76 : decode (mC mX5_tellSign) 76 = .ok (.getfield 21, 3) := by decide +kernel
theorem dX5_tellSign_79 : decode (mC mX5_tellSign) 79 = .ok (.getfield 249, 3) := by decide +kernel
theorem dX5_tellSign_82 : decode (mC mX5_tellSign) 82 = .ok (.aload_n 0, 1) := by decide +kernel
theorem dX5_tellSign_83 : decode (mC mX5_tellSign) 83 = .ok (.getfield 21, 3) := by decide +kernel
theorem dX5_tellSign_86 : decode (mC mX5_tellSign) 86 = .ok (.getfield 54, 3) := by decide +kernel
theorem dX5_tellSign_89 : decode (mC mX5_tellSign) 89 = .ok (.aload_n 0, 1) := by decide +kernel
theorem dX5_tellSign_90 : decode (mC mX5_tellSign) 90 = .ok (.getfield 25, 3) := by decide +kernel
theorem dX5_tellSign_93 : decode (mC mX5_tellSign) 93 = .ok (.iconst 3, 1) := by decide +kernel
theorem dX5_tellSign_94 : decode (mC mX5_tellSign) 94 = .ok (.invokestatic 96, 3) := by decide +kernel
theorem dX5_tellSign_97 : decode (mC mX5_tellSign) 97 = .ok (.invokestatic 107, 3) := by decide +kernel
theorem dX5_tellSign_100 : decode (mC mX5_tellSign) 100 = .ok (.aload_n 0, 1) := by decide +kernel
theorem dX5_tellSign_101 : decode (mC mX5_tellSign) 101 = .ok (.getfield 21, 3) := by decide +kernel
theorem dX5_tellSign_104 : decode (mC mX5_tellSign) 104 = .ok (.getfield 250, 3) := by decide +kernel
theorem dX5_tellSign_107 : decode (mC mX5_tellSign) 107 = .ok (.aload_n 0, 1) := by decide +kernel
theorem dX5_tellSign_108 : decode (mC mX5_tellSign) 108 = .ok (.getfield 21, 3) := by decide +kernel
theorem dX5_tellSign_111 : decode (mC mX5_tellSign) 111 = .ok (.getfield 54, 3) := by decide +kernel
theorem dX5_tellSign_114 : decode (mC mX5_tellSign) 114 = .ok (.aload_n 0, 1) := by decide +kernel
theorem dX5_tellSign_115 : decode (mC mX5_tellSign) 115 = .ok (.getfield 25, 3) := by decide +kernel
theorem dX5_tellSign_118 : decode (mC mX5_tellSign) 118 = .ok (.iconst 4, 1) := by decide +kernel
theorem dX5_tellSign_119 : decode (mC mX5_tellSign) 119 = .ok (.invokestatic 96, 3) := by decide +kernel
theorem dX5_tellSign_122 : decode (mC mX5_tellSign) 122 = .ok (.invokestatic 107, 3) := by decide +kernel
theorem dX5_tellSign_125 : decode (mC mX5_tellSign) 125 = .ok (.aload_n 0, 1) := by decide +kernel
theorem dX5_tellSign_126 : decode (mC mX5_tellSign) 126 = .ok (.getfield 21, 3) := by decide +kernel
theorem dX5_tellSign_129 : decode (mC mX5_tellSign) 129 = .ok (.dup, 1) := by decide +kernel
theorem dX5_tellSign_130 : decode (mC mX5_tellSign) 130 = .ok (.getfield 54, 3) := by decide +kernel
theorem dX5_tellSign_133 : decode (mC mX5_tellSign) 133 = .ok (.iconst 1, 1) := by decide +kernel
theorem dX5_tellSign_134 : decode (mC mX5_tellSign) 134 = .ok (.iadd, 1) := by decide +kernel
theorem dX5_tellSign_135 : decode (mC mX5_tellSign) 135 = .ok (.putfield 54, 3) := by decide +kernel
theorem dX5_tellSign_138 : decode (mC mX5_tellSign) 138 = .ok (.return_, 1) := by decide +kernel
theorem dX5_next_0 : decode (mC mX5_next) 0 = .ok (.aload_n 0, 1) := by decide +kernel
theorem dX5_next_1 : decode (mC mX5_next) 1 = .ok (.aload_n 0, 1) := by decide +kernel
theorem dX5_next_2 : decode (mC mX5_next) 2 = .ok (.getfield 36, 3) := by decide +kernel
theorem dX5_next_5 : decode (mC mX5_next) 5 = .ok (.putfield 67, 3) := by decide +kernel
theorem dX5_next_8 : decode (mC mX5_next) 8 = .ok (.aload_n 0, 1) := by decide +kernel
theorem dX5_next_9 : decode (mC mX5_next) 9 = .ok (.getfield 67, 3) := by decide +kernel
theorem dX5_next_12 : decode (mC mX5_next) 12 = .ok (.aload_n 0, 1) := by decide +kernel
theorem dX5_next_13 : decode (mC mX5_next) 13 = .ok (.getfield 32, 3) := by decide +kernel
theorem dX5_next_16 : decode (mC mX5_next) 16 = .ok (.if_icmp .ge 33, 3) := by decide +kernel
theorem dX5_next_19 : decode (mC mX5_next) 19 = .ok (.aload_n 0, 1) := by decide +kernel
theorem dX5_next_20 : decode (mC mX5_next) 20 = .ok (.getfield 29, 3) := by decide +kernel
theorem dX5_next_23 : decode (mC mX5_next) 23 = .ok (.aload_n 0, 1) := by decide +kernel
theorem dX5_next_24 : decode (mC mX5_next) 24 = .ok (.getfield 67, 3) := by decide +kernel
theorem dX5_next_27 : decode (mC mX5_next) 27 = .ok (.invokestatic 96, 3) := by decide +kernel
theorem dX5_next_30 : decode (mC mX5_next) 30 = .ok (.invokestatic 253, 3) := by decide +kernel
theorem dX5_next_33 : decode (mC mX5_next) 33 = .ok (.ifCond .eq 16, 3) := by decide +kernel
theorem dX5_next_36 : decode (mC mX5_next) 36 = .ok (.aload_n 0, 1) := by decide +kernel
theorem dX5_next_37 : decode (mC mX5_next) 37 = .ok (.dup, 1) := by decide +kernel
theorem dX5_next_38 : decode (mC mX5_next) 38 = .ok (.getfield 67, 3) := by decide +kernel
theorem dX5_next_41 : decode (mC mX5_next) 41 = .ok (.iconst 1, 1) := by decide +kernel
theorem dX5_next_42 : decode (mC mX5_next) 42 = .ok (.iadd, 1) := by decide +kernel
theorem dX5_next_43 : decode (mC mX5_next) 43 = .ok (.putfield 67, 3) := by decide +kernel
theorem dX5_next_46 : decode (mC mX5_next) 46 = .ok (.goto (-38), 3) := by decide +kernel
theorem dX5_next_49 : decode (mC mX5_next) 49 = .ok (.aload_n 0, 1) := by decide +kernel
theorem dX5_next_50 : decode (mC mX5_next) 50 = .ok (.getfield 67, 3) := by decide +kernel
theorem dX5_next_53 : decode (mC mX5_next) 53 = .ok (.aload_n 0, 1) := by decide +kernel
theorem dX5_next_54 : decode (mC mX5_next) 54 = .ok (.getfield 32, 3) := by decide +kernel
theorem dX5_next_57 : decode (mC mX5_next) 57 = .ok (.if_icmp .lt 17, 3) := by decide +kernel
theorem dX5_next_60 : decode (mC mX5_next) 60 = .ok (.aload_n 0, 1) := by decide +kernel
theorem dX5_next_61 : decode (mC mX5_next) 61 = .ok (.iconst 4, 1) := by decide +kernel
theorem dX5_next_62 : decode (mC mX5_next) 62 = .ok (.putfield 60, 3) := by decide +kernel
theorem dX5_next_65 : decode (mC mX5_next) 65 = .ok (.aload_n 0, 1) := by decide +kernel
theorem dX5_next_66 : decode (mC mX5_next) 66 = .ok (.aload_n 0, 1) := by decide +kernel
theorem dX5_next_67 : decode (mC mX5_next) 67 = .ok (.getfield 67, 3) := by decide +kernel
theorem dX5_next_70 : decode (mC mX5_next) 70 = .ok (.putfield 36, 3) := by decide +kernel
theorem dX5_next_73 : decode (mC mX5_next) 73 = .ok (.return_, 1) := by decide +kernel
theorem dX5_next_74 : decode (mC mX5_next) 74 = .ok (.aload_n 0, 1) := by decide +kernel
theorem dX5_next_75 : decode (mC mX5_next) 75 = .ok (.getfield 29, 3) := by decide +kernel
theorem dX5_next_78 : decode (mC mX5_next) 78 = .ok (.aload_n 0, 1) := by decide +kernel
theorem dX5_next_79 : decode (mC mX5_next) 79 = .ok (.getfield 67, 3) := by decide +kernel
theorem dX5_next_82 : decode (mC mX5_next) 82 = .ok (.invokestatic 96, 3) := by decide +kernel
theorem dX5_next_85 : decode (mC mX5_next) 85 = .ok (.istore_n 1, 1) := by decide +kernel
theorem dX5_next_86 : decode (mC mX5_next) 86 = .ok (.aload_n 0, 1) := by decide +kernel
theorem dX5_next_87 : decode (mC mX5_next) 87 = .ok (.aload_n 0, 1) := by decide +kernel
theorem dX5_next_88 : decode (mC mX5_next) 88 = .ok (.getfield 67, 3) := by decide +kernel
theorem dX5_next_91 : decode (mC mX5_next) 91 = .ok (.iconst 1, 1) := by decide +kernel
theorem dX5_next_92 : decode (mC mX5_next) 92 = .ok (.iadd, 1) := by decide +kernel
theorem dX5_next_93 : decode (mC mX5_next) 93 = .ok (.putfield 36, 3) := by decide +kernel
theorem dX5_next_96 : decode (mC mX5_next) 96 = .ok (.iload_n 1, 1) := by decide +kernel
theorem dX5_next_97 : decode (mC mX5_next) 97 = .ok (.invokestatic 256, 3) := by decide +kernel
theorem dX5_next_100 : decode (mC mX5_next) 100 = .ok (.ifCond .eq 49, 3) := by decide +kernel
theorem dX5_next_103 : decode (mC mX5_next) 103 = .ok (.aload_n 0, 1) := by decide +kernel
theorem dX5_next_104 : decode (mC mX5_next) 104 = .ok (.iconst 1, 1) := by decide +kernel
theorem dX5_next_105 : decode (mC mX5_next) 105 = .ok (.putfield 60, 3) := by decide +kernel
theorem dX5_next_108 : decode (mC mX5_next) 108 = .ok (.aload_n 0, 1) := by decide +kernel
theorem dX5_next_109 : decode (mC mX5_next) 109 = .ok (.getfield 36, 3) := by decide +kernel
theorem dX5_next_112 : decode (mC mX5_next) 112 = .ok (.aload_n 0, 1) := by decide +kernel
theorem dX5_next_113 : decode (mC mX5_next) 113 = .ok (.getfield 32, 3) := by decide +kernel
theorem dX5_next_116 : decode (mC mX5_next) 116 = .ok (.if_icmp .ge 66, 3) := by decide +kernel
theorem dX5_next_119 : decode (mC mX5_next) 119 = .ok (.aload_n 0, 1) := by decide +kernel
theorem dX5_next_120 : decode (mC mX5_next) 120 = .ok (.getfield 29, 3) := by decide +kernel
theorem dX5_next_123 : decode (mC mX5_next) 123 = .ok (.aload_n 0, 1) := by decide +kernel
theorem dX5_next_124 : decode (mC mX5_next) 124 = .ok (.getfield 36, 3) := by decide +kernel
theorem dX5_next_127 : decode (mC mX5_next) 127 = .ok (.invokestatic 96, 3) := by decide +kernel
theorem dX5_next_130 : decode (mC mX5_next) 130 = .ok (.invokestatic 256, 3) := by decide +kernel
theorem dX5_next_133 : decode (mC mX5_next) 133 = .ok (.ifCond .eq 49, 3) := by decide +kernel
theorem dX5_next_136 : decode (mC mX5_next) 136 = .ok (.aload_n 0, 1) := by decide +kernel
theorem dX5_next_137 : decode (mC mX5_next) 137 = .ok (.dup, 1) := by decide +kernel
theorem dX5_next_138 : decode (mC mX5_next) 138 = .ok (.getfield 36, 3) := by decide +kernel
theorem dX5_next_141 : decode (mC mX5_next) 141 = .ok (.iconst 1, 1) := by decide +kernel
theorem dX5_next_142 : decode (mC mX5_next) 142 = .ok (.iadd, 1) := by decide +kernel
theorem dX5_next_143 : decode (mC mX5_next) 143 = .ok (.putfield 36, 3) := by decide +kernel
theorem dX5_next_146 : decode (mC mX5_next) 146 = .ok (.goto (-38), 3) := by decide +kernel
theorem dX5_next_149 : decode (mC mX5_next) 149 = .ok (.iload_n 1, 1) := by decide +kernel
theorem dX5_next_150 : decode (mC mX5_next) 150 = .ok (.invokestatic 259, 3) := by decide +kernel
theorem dX5_next_153 : decode (mC mX5_next) 153 = .ok (.ifCond .eq 14, 3) := by decide +kernel
theorem dX5_next_156 : decode (mC mX5_next) 156 = .ok (.aload_n 0, 1) := by decide +kernel
theorem dX5_next_157 : decode (mC mX5_next) 157 = .ok (.iload_n 1, 1) := by decide +kernel
theorem dX5_next_158 : decode (mC mX5_next) 158 = .ok (.bipush 48, 2) := by decide +kernel
theorem dX5_next_160 : decode (mC mX5_next) 160 = .ok (.isub, 1) := by decide +kernel
theorem dX5_next_161 : decode (mC mX5_next) 161 = .ok (.invokevirtual 262, 3) := by decide +kernel
theorem dX5_next_164 : decode (mC mX5_next) 164 = .ok (.goto 18, 3) := by decide +kernel
theorem dX5_next_167 : decode (mC mX5_next) 167 = .ok (.aload_n 0, 1) := by decide +kernel
theorem dX5_next_168 : decode (mC mX5_next) 168 = .ok (.iload_n 1, 1) := by decide +kernel
theorem dX5_next_169 : decode (mC mX5_next) 169 = .ok (.bipush 59, 2) := by decide +kernel
theorem dX5_next_171 : decode (mC mX5_next) 171 = .ok (.if_icmp .ne 7, 3) := by decide +kernel
theorem dX5_next_174 : decode (mC mX5_next) 174 = .ok (.iconst 3, 1) := by decide +kernel
theorem dX5_next_175 : decode (mC mX5_next) 175 = .ok (.goto 4, 3) := by decide +kernel
theorem dX5_next_178 : decode (mC mX5_next) 178 = .ok (.iconst 0, 1) := by decide +kernel
theorem dX5_next_179 : decode (mC mX5_next) 179 = .ok (.putfield 60, 3) := by decide +kernel
theorem dX5_next_182 : decode (mC mX5_next) 182 = .ok (.return_, 1) := by decide +kernel
theorem dX5_nextNumber_0 : decode (mC mX5_nextNumber) 0 = .ok (.aload_n 0, 1) := by decide +kernel
theorem dX5_nextNumber_1 : decode (mC mX5_nextNumber) 1 = .ok (.iload_n 1, 1) := by decide +kernel
theorem dX5_nextNumber_2 : decode (mC mX5_nextNumber) 2 = .ok (.putfield 104, 3) := by decide +kernel
theorem dX5_nextNumber_5 : decode (mC mX5_nextNumber) 5 = .ok (.aload_n 0, 1) := by decide +kernel
theorem dX5_nextNumber_6 : decode (mC mX5_nextNumber) 6 = .ok (.getfield 36, 3) := by decide +kernel
theorem dX5_nextNumber_9 : decode (mC mX5_nextNumber) 9 = .ok (.aload_n 0, 1) := by decide +kernel
theorem dX5_nextNumber_10 : decode (mC mX5_nextNumber) 10 = .ok (.getfield 32, 3) := by decide +kernel
theorem dX5_nextNumber_13 : decode (mC mX5_nextNumber) 13 = .ok (.if_icmp .ge 63, 3) := by decide +kernel
theorem dX5_nextNumber_16 : decode (mC mX5_nextNumber) 16 = .ok (.aload_n 0, 1) := by decide +kernel
theorem dX5_nextNumber_17 : decode (mC mX5_nextNumber) 17 = .ok (.getfield 29, 3) := by decide +kernel
theorem dX5_nextNumber_20 : decode (mC mX5_nextNumber) 20 = .ok (.aload_n 0, 1) := by decide +kernel
theorem dX5_nextNumber_21 : decode (mC mX5_nextNumber) 21 = .ok (.getfield 36, 3) := by decide +kernel
theorem dX5_nextNumber_24 : decode (mC mX5_nextNumber) 24 = .ok (.invokestatic 96, 3) := by decide +kernel
theorem dX5_nextNumber_27 : decode (mC mX5_nextNumber) 27 = .ok (.invokestatic 259, 3) := by decide +kernel
theorem dX5_nextNumber_30 : decode (mC mX5_nextNumber) 30 = .ok (.ifCond .eq 46, 3) := by decide +kernel
theorem dX5_nextNumber_33 : decode (mC mX5_nextNumber) 33 = .ok (.aload_n 0, 1) := by decide +kernel
theorem dX5_nextNumber_34 : decode (mC mX5_nextNumber) 34 = .ok (.aload_n 0, 1) := by decide +kernel
theorem dX5_nextNumber_35 : decode (mC mX5_nextNumber) 35 = .ok (.getfield 104, 3) := by decide +kernel
theorem dX5_nextNumber_38 : decode (mC mX5_nextNumber) 38 = .ok (.bipush 10, 2) := by decide +kernel
theorem dX5_nextNumber_40 : decode (mC mX5_nextNumber) 40 = .ok (.imul, 1) := by decide +kernel
theorem dX5_nextNumber_41 : decode (mC mX5_nextNumber) 41 = .ok (.aload_n 0, 1) := by decide +kernel
theorem dX5_nextNumber_42 : decode (mC mX5_nextNumber) 42 = .ok (.getfield 29, 3) := by decide +kernel
theorem dX5_nextNumber_45 : decode (mC mX5_nextNumber) 45 = .ok (.aload_n 0, 1) := by decide +kernel
theorem dX5_nextNumber_46 : decode (mC mX5_nextNumber) 46 = .ok (.getfield 36, 3) := by decide +kernel
theorem dX5_nextNumber_49 : decode (mC mX5_nextNumber) 49 = .ok (.invokestatic 96, 3) := by decide +kernel
theorem dX5_nextNumber_52 : decode (mC mX5_nextNumber) 52 = .ok (.iadd, 1) := by decide +kernel
theorem dX5_nextNumber_53 : decode (mC mX5_nextNumber) 53 = .ok (.bipush 48, 2) := by decide +kernel
theorem dX5_nextNumber_55 : decode (mC mX5_nextNumber) 55 = .ok (.isub, 1) := by decide +kernel
theorem dX5_nextNumber_56 : decode (mC mX5_nextNumber) 56 = .ok (.sipush 1000, 3) := by decide +kernel
theorem dX5_nextNumber_59 : decode (mC mX5_nextNumber) 59 = .ok (.irem, 1) := by decide +kernel
theorem dX5_nextNumber_60 : decode (mC mX5_nextNumber) 60 = .ok (.putfield 104, 3) := by decide +kernel
theorem dX5_nextNumber_63 : decode (mC mX5_nextNumber) 63 = .ok (.aload_n 0, 1) := by decide +kernel
theorem dX5_nextNumber_64 : decode (mC mX5_nextNumber) 64 = .ok (.dup, 1) := by decide +kernel
theorem dX5_nextNumber_65 : decode (mC mX5_nextNumber) 65 = .ok (.getfield 36, 3) := by decide +kernel
theorem dX5_nextNumber_68 : decode (mC mX5_nextNumber) 68 = .ok (.iconst 1, 1) := by decide +kernel
theorem dX5_nextNumber_69 : decode (mC mX5_nextNumber) 69 = .ok (.iadd, 1) := by decide +kernel
theorem dX5_nextNumber_70 : decode (mC mX5_nextNumber) 70 = .ok (.putfield 36, 3) := by decide +kernel
theorem dX5_nextNumber_73 : decode (mC mX5_nextNumber) 73 = .ok (.goto (-68), 3) := by decide +kernel
theorem dX5_nextNumber_76 : decode (mC mX5_nextNumber) 76 = .ok (.aload_n 0, 1) := by decide +kernel
theorem dX5_nextNumber_77 : decode (mC mX5_nextNumber) 77 = .ok (.aload_n 0, 1) := by decide +kernel
theorem dX5_nextNumber_78 : decode (mC mX5_nextNumber) 78 = .ok (.getfield 36, 3) := by decide +kernel
theorem dX5_nextNumber_81 : decode (mC mX5_nextNumber) 81 = .ok (.aload_n 0, 1) := by decide +kernel
theorem dX5_nextNumber_82 : decode (mC mX5_nextNumber) 82 = .ok (.getfield 67, 3) := by decide +kernel
theorem dX5_nextNumber_85 : decode (mC mX5_nextNumber) 85 = .ok (.isub, 1) := by decide +kernel
theorem dX5_nextNumber_86 : decode (mC mX5_nextNumber) 86 = .ok (.iconst 2, 1) := by decide +kernel
theorem dX5_nextNumber_87 : decode (mC mX5_nextNumber) 87 = .ok (.if_icmp .gt 7, 3) := by decide +kernel
theorem dX5_nextNumber_90 : decode (mC mX5_nextNumber) 90 = .ok (.iconst 2, 1) := by decide +kernel
theorem dX5_nextNumber_91 : decode (mC mX5_nextNumber) 91 = .ok (.goto 4, 3) := by decide +kernel
theorem dX5_nextNumber_94 : decode (mC mX5_nextNumber) 94 = .ok (.iconst 0, 1) := by decide +kernel
theorem dX5_nextNumber_95 : decode (mC mX5_nextNumber) 95 = .ok (.putfield 60, 3) := by decide +kernel
theorem dX5_nextNumber_98 : decode (mC mX5_nextNumber) 98 = .ok (.return_, 1) := by decide +kernel
theorem dX5_isBlank_0 : decode (mC mX5_isBlank) 0 = .ok (.iload_n 0, 1) := by decide +kernel
theorem dX5_isBlank_1 : decode (mC mX5_isBlank) 1 = .ok (.bipush 10, 2) := by decide +kernel
theorem dX5_isBlank_3 : decode (mC mX5_isBlank) 3 = .ok (.if_icmp .eq 9, 3) := by decide +kernel
theorem dX5_isBlank_6 : decode (mC mX5_isBlank) 6 = .ok (.iload_n 0, 1) := by decide +kernel
theorem dX5_isBlank_7 : decode (mC mX5_isBlank) 7 = .ok (.bipush 32, 2) := by decide +kernel
theorem dX5_isBlank_9 : decode (mC mX5_isBlank) 9 = .ok (.if_icmp .ne 7, 3) := by decide +kernel
theorem dX5_isBlank_12 : decode (mC mX5_isBlank) 12 = .ok (.iconst 1, 1) := by decide +kernel
theorem dX5_isBlank_13 : decode (mC mX5_isBlank) 13 = .ok (.goto 4, 3) := by decide +kernel
theorem dX5_isBlank_16 : decode (mC mX5_isBlank) 16 = .ok (.iconst 0, 1) := by decide +kernel
theorem dX5_isBlank_17 : decode (mC mX5_isBlank) 17 = .ok (.ireturn, 1) := by decide +kernel
theorem dX5_isLetter_0 : decode (mC mX5_isLetter) 0 = .ok (.iload_n 0, 1) := by decide +kernel
theorem dX5_isLetter_1 : decode (mC mX5_isLetter) 1 = .ok (.bipush 97, 2) := by decide +kernel
theorem dX5_isLetter_3 : decode (mC mX5_isLetter) 3 = .ok (.if_icmp .lt 13, 3) := by decide +kernel
theorem dX5_isLetter_6 : decode (mC mX5_isLetter) 6 = .ok (.iload_n 0, 1) := by decide +kernel
theorem dX5_isLetter_7 : decode (mC mX5_isLetter) 7 = .ok (.bipush 122, 2) := by decide +kernel
theorem dX5_isLetter_9 : decode (mC mX5_isLetter) 9 = .ok (.if_icmp .gt 7, 3) := by decide +kernel
theorem dX5_isLetter_12 : decode (mC mX5_isLetter) 12 = .ok (.iconst 1, 1) := by decide +kernel
theorem dX5_isLetter_13 : decode (mC mX5_isLetter) 13 = .ok (.goto 4, 3) := by decide +kernel
theorem dX5_isLetter_16 : decode (mC mX5_isLetter) 16 = .ok (.iconst 0, 1) := by decide +kernel
theorem dX5_isLetter_17 : decode (mC mX5_isLetter) 17 = .ok (.ireturn, 1) := by decide +kernel
theorem dX5_isDigit_0 : decode (mC mX5_isDigit) 0 = .ok (.iload_n 0, 1) := by decide +kernel
theorem dX5_isDigit_1 : decode (mC mX5_isDigit) 1 = .ok (.bipush 48, 2) := by decide +kernel
theorem dX5_isDigit_3 : decode (mC mX5_isDigit) 3 = .ok (.if_icmp .lt 13, 3) := by decide +kernel
theorem dX5_isDigit_6 : decode (mC mX5_isDigit) 6 = .ok (.iload_n 0, 1) := by decide +kernel
theorem dX5_isDigit_7 : decode (mC mX5_isDigit) 7 = .ok (.bipush 57, 2) := by decide +kernel
theorem dX5_isDigit_9 : decode (mC mX5_isDigit) 9 = .ok (.if_icmp .gt 7, 3) := by decide +kernel
theorem dX5_isDigit_12 : decode (mC mX5_isDigit) 12 = .ok (.iconst 1, 1) := by decide +kernel
theorem dX5_isDigit_13 : decode (mC mX5_isDigit) 13 = .ok (.goto 4, 3) := by decide +kernel
theorem dX5_isDigit_16 : decode (mC mX5_isDigit) 16 = .ok (.iconst 0, 1) := by decide +kernel
theorem dX5_isDigit_17 : decode (mC mX5_isDigit) 17 = .ok (.ireturn, 1) := by decide +kernel
theorem dX6_init_0 : decode (mC mX6_init) 0 = .ok (.aload_n 0, 1) := by decide +kernel
theorem dX6_init_1 : decode (mC mX6_init) 1 = .ok (.invokespecial 3, 3) := by decide +kernel
theorem dX6_init_4 : decode (mC mX6_init) 4 = .ok (.aload_n 0, 1) := by decide +kernel
theorem dX6_init_5 : decode (mC mX6_init) 5 = .ok (.sipush 600, 3) := by decide +kernel
theorem dX6_init_8 : decode (mC mX6_init) 8 = .ok (.newarray .int, 2) := by decide +kernel
theorem dX6_init_10 : decode (mC mX6_init) 10 = .ok (.putfield 9, 3) := by decide +kernel
theorem dX6_init_13 : decode (mC mX6_init) 13 = .ok (.aload_n 0, 1) := by decide +kernel
theorem dX6_init_14 : decode (mC mX6_init) 14 = .ok (.iconst (-1), 1) := by decide +kernel
theorem dX6_init_15 : decode (mC mX6_init) 15 = .ok (.putfield 15, 3) := by decide +kernel
theorem dX6_init_18 : decode (mC mX6_init) 18 = .ok (.aload_n 0, 1) := by decide +kernel
theorem dX6_init_19 : decode (mC mX6_init) 19 = .ok (.iconst 2, 1) := by decide +kernel
theorem dX6_init_20 : decode (mC mX6_init) 20 = .ok (.anewarray 19, 3) := by decide +kernel
theorem dX6_init_23 : decode (mC mX6_init) 23 = .ok (.putfield 21, 3) := by decide +kernel
theorem dX6_init_26 : decode (mC mX6_init) 26 = .ok (.aload_n 0, 1) := by decide +kernel
theorem dX6_init_27 : decode (mC mX6_init) 27 = .ok (.iconst 2, 1) := by decide +kernel
theorem dX6_init_28 : decode (mC mX6_init) 28 = .ok (.anewarray 25, 3) := by decide +kernel
theorem dX6_init_31 : decode (mC mX6_init) 31 = .ok (.putfield 27, 3) := by decide +kernel
theorem dX6_init_34 : decode (mC mX6_init) 34 = .ok (.iconst 0, 1) := by decide +kernel
theorem dX6_init_35 : decode (mC mX6_init) 35 = .ok (.istore_n 1, 1) := by decide +kernel
theorem dX6_init_36 : decode (mC mX6_init) 36 = .ok (.iload_n 1, 1) := by decide +kernel
theorem dX6_init_37 : decode (mC mX6_init) 37 = .ok (.aload_n 0, 1) := by decide +kernel
theorem dX6_init_38 : decode (mC mX6_init) 38 = .ok (.getfield 21, 3) := by decide +kernel
theorem dX6_init_41 : decode (mC mX6_init) 41 = .ok (.arraylength, 1) := by decide +kernel
theorem dX6_init_42 : decode (mC mX6_init) 42 = .ok (.if_icmp .ge 22, 3) := by decide +kernel
theorem dX6_init_45 : decode (mC mX6_init) 45 = .ok (.aload_n 0, 1) := by decide +kernel
theorem dX6_init_46 : decode (mC mX6_init) 46 = .ok (.getfield 21, 3) := by decide +kernel
theorem dX6_init_49 : decode (mC mX6_init) 49 = .ok (.iload_n 1, 1) := by decide +kernel
theorem dX6_init_50 : decode (mC mX6_init) 50 = .ok (.new 19, 3) := by decide +kernel
theorem dX6_init_53 : decode (mC mX6_init) 53 = .ok (.dup, 1) := by decide +kernel
theorem dX6_init_54 : decode (mC mX6_init) 54 = .ok (.invokespecial 31, 3) := by decide +kernel
theorem dX6_init_57 : decode (mC mX6_init) 57 = .ok (.aastore, 1) := by decide +kernel
theorem dX6_init_58 : decode (mC mX6_init) 58 = .ok (.iinc 1 1, 3) := by decide +kernel
theorem dX6_init_61 : decode (mC mX6_init) 61 = .ok (.goto (-25), 3) := by decide +kernel
theorem dX6_init_64 : decode (mC mX6_init) 64 = .ok (.iconst 0, 1) := by decide +kernel
theorem dX6_init_65 : decode (mC mX6_init) 65 = .ok (.istore_n 1, 1) := by decide +kernel
theorem dX6_init_66 : decode (mC mX6_init) 66 = .ok (.iload_n 1, 1) := by decide +kernel
theorem dX6_init_67 : decode (mC mX6_init) 67 = .ok (.aload_n 0, 1) := by decide +kernel
theorem dX6_init_68 : decode (mC mX6_init) 68 = .ok (.getfield 27, 3) := by decide +kernel
theorem dX6_init_71 : decode (mC mX6_init) 71 = .ok (.arraylength, 1) := by decide +kernel
theorem dX6_init_72 : decode (mC mX6_init) 72 = .ok (.if_icmp .ge 22, 3) := by decide +kernel
theorem dX6_init_75 : decode (mC mX6_init) 75 = .ok (.aload_n 0, 1) := by decide +kernel
theorem dX6_init_76 : decode (mC mX6_init) 76 = .ok (.getfield 27, 3) := by decide +kernel
theorem dX6_init_79 : decode (mC mX6_init) 79 = .ok (.iload_n 1, 1) := by decide +kernel
theorem dX6_init_80 : decode (mC mX6_init) 80 = .ok (.new 25, 3) := by decide +kernel
theorem dX6_init_83 : decode (mC mX6_init) 83 = .ok (.dup, 1) := by decide +kernel
theorem dX6_init_84 : decode (mC mX6_init) 84 = .ok (.invokespecial 32, 3) := by decide +kernel
theorem dX6_init_87 : decode (mC mX6_init) 87 = .ok (.aastore, 1) := by decide +kernel
theorem dX6_init_88 : decode (mC mX6_init) 88 = .ok (.iinc 1 1, 3) := by decide +kernel
theorem dX6_init_91 : decode (mC mX6_init) 91 = .ok (.goto (-25), 3) := by decide +kernel
theorem dX6_init_94 : decode (mC mX6_init) 94 = .ok (.return_, 1) := by decide +kernel
theorem dX6_append_0 : decode (mC mX6_append) 0 = .ok (.bipush 24, 2) := by decide +kernel
theorem dX6_append_2 : decode (mC mX6_append) 2 = .ok (.istore_n 2, 1) := by decide +kernel
theorem dX6_append_3 : decode (mC mX6_append) 3 = .ok (.iload_n 2, 1) := by decide +kernel
theorem dX6_append_4 : decode (mC mX6_append) 4 = .ok (.ifCond .lt 37, 3) := by decide +kernel
theorem dX6_append_7 : decode (mC mX6_append) 7 = .ok (.aload_n 0, 1) := by decide +kernel
theorem dX6_append_8 : decode (mC mX6_append) 8 = .ok (.getfield 9, 3) := by decide +kernel
theorem dX6_append_11 : decode (mC mX6_append) 11 = .ok (.aload_n 0, 1) := by decide +kernel
theorem dX6_append_12 : decode (mC mX6_append) 12 = .ok (.getfield 33, 3) := by decide +kernel
theorem dX6_append_15 : decode (mC mX6_append) 15 = .ok (.iload_n 1, 1) := by decide +kernel
theorem dX6_append_16 : decode (mC mX6_append) 16 = .ok (.iload_n 2, 1) := by decide +kernel
theorem dX6_append_17 : decode (mC mX6_append) 17 = .ok (.iushr, 1) := by decide +kernel
theorem dX6_append_18 : decode (mC mX6_append) 18 = .ok (.sipush 255, 3) := by decide +kernel
theorem dX6_append_21 : decode (mC mX6_append) 21 = .ok (.iand, 1) := by decide +kernel
theorem dX6_append_22 : decode (mC mX6_append) 22 = .ok (.invokestatic 36, 3) := by decide +kernel
theorem dX6_append_25 : decode (mC mX6_append) 25 = .ok (.aload_n 0, 1) := by decide +kernel
theorem dX6_append_26 : decode (mC mX6_append) 26 = .ok (.dup, 1) := by decide +kernel
theorem dX6_append_27 : decode (mC mX6_append) 27 = .ok (.getfield 33, 3) := by decide +kernel
theorem dX6_append_30 : decode (mC mX6_append) 30 = .ok (.iconst 1, 1) := by decide +kernel
theorem dX6_append_31 : decode (mC mX6_append) 31 = .ok (.iadd, 1) := by decide +kernel
theorem dX6_append_32 : decode (mC mX6_append) 32 = .ok (.putfield 33, 3) := by decide +kernel
theorem dX6_append_35 : decode (mC mX6_append) 35 = .ok (.iinc 2 (-8), 3) := by decide +kernel
theorem dX6_append_38 : decode (mC mX6_append) 38 = .ok (.goto (-35), 3) := by decide +kernel
theorem dX6_append_41 : decode (mC mX6_append) 41 = .ok (.return_, 1) := by decide +kernel
theorem dX6_nightAt_0 : decode (mC mX6_nightAt) 0 = .ok (.iload_n 1, 1) := by decide +kernel
theorem dX6_nightAt_1 : decode (mC mX6_nightAt) 1 = .ok (.ifCond .lt 29, 3) := by decide +kernel
theorem dX6_nightAt_4 : decode (mC mX6_nightAt) 4 = .ok (.iload_n 1, 1) := by decide +kernel
theorem dX6_nightAt_5 : decode (mC mX6_nightAt) 5 = .ok (.aload_n 0, 1) := by decide +kernel
theorem dX6_nightAt_6 : decode (mC mX6_nightAt) 6 = .ok (.getfield 40, 3) := by decide +kernel
theorem dX6_nightAt_9 : decode (mC mX6_nightAt) 9 = .ok (.if_icmp .ge 21, 3) := by decide +kernel
theorem dX6_nightAt_12 : decode (mC mX6_nightAt) 12 = .ok (.iload_n 1, 1) := by decide +kernel
theorem dX6_nightAt_13 : decode (mC mX6_nightAt) 13 = .ok (.aload_n 0, 1) := by decide +kernel
theorem dX6_nightAt_14 : decode (mC mX6_nightAt) 14 = .ok (.getfield 21, 3) := by decide +kernel
theorem dX6_nightAt_17 : decode (mC mX6_nightAt) 17 = .ok (.arraylength, 1) := by decide +kernel
theorem dX6_nightAt_18 : decode (mC mX6_nightAt) 18 = .ok (.if_icmp .ge 12, 3) := by decide +kernel
theorem dX6_nightAt_21 : decode (mC mX6_nightAt) 21 = .ok (.aload_n 0, 1) := by decide +kernel
theorem dX6_nightAt_22 : decode (mC mX6_nightAt) 22 = .ok (.getfield 21, 3) := by decide +kernel
theorem dX6_nightAt_25 : decode (mC mX6_nightAt) 25 = .ok (.iload_n 1, 1) := by decide +kernel
theorem dX6_nightAt_26 : decode (mC mX6_nightAt) 26 = .ok (.aaload, 1) := by decide +kernel
theorem dX6_nightAt_27 : decode (mC mX6_nightAt) 27 = .ok (.goto 4, 3) := by decide +kernel
theorem dX6_nightAt_30 : decode (mC mX6_nightAt) 30 = .ok (.aconst_null, 1) := by decide +kernel
theorem dX6_nightAt_31 : decode (mC mX6_nightAt) 31 = .ok (.areturn, 1) := by decide +kernel
theorem dX6_readingAt_0 : decode (mC mX6_readingAt) 0 = .ok (.iload_n 1, 1) := by decide +kernel
theorem dX6_readingAt_1 : decode (mC mX6_readingAt) 1 = .ok (.ifCond .lt 29, 3) := by decide +kernel
theorem dX6_readingAt_4 : decode (mC mX6_readingAt) 4 = .ok (.iload_n 1, 1) := by decide +kernel
theorem dX6_readingAt_5 : decode (mC mX6_readingAt) 5 = .ok (.aload_n 0, 1) := by decide +kernel
theorem dX6_readingAt_6 : decode (mC mX6_readingAt) 6 = .ok (.getfield 43, 3) := by decide +kernel
theorem dX6_readingAt_9 : decode (mC mX6_readingAt) 9 = .ok (.if_icmp .ge 21, 3) := by decide +kernel
theorem dX6_readingAt_12 : decode (mC mX6_readingAt) 12 = .ok (.iload_n 1, 1) := by decide +kernel
theorem dX6_readingAt_13 : decode (mC mX6_readingAt) 13 = .ok (.aload_n 0, 1) := by decide +kernel
theorem dX6_readingAt_14 : decode (mC mX6_readingAt) 14 = .ok (.getfield 27, 3) := by decide +kernel
theorem dX6_readingAt_17 : decode (mC mX6_readingAt) 17 = .ok (.arraylength, 1) := by decide +kernel
theorem dX6_readingAt_18 : decode (mC mX6_readingAt) 18 = .ok (.if_icmp .ge 12, 3) := by decide +kernel
theorem dX6_readingAt_21 : decode (mC mX6_readingAt) 21 = .ok (.aload_n 0, 1) := by decide +kernel
theorem dX6_readingAt_22 : decode (mC mX6_readingAt) 22 = .ok (.getfield 27, 3) := by decide +kernel
theorem dX6_readingAt_25 : decode (mC mX6_readingAt) 25 = .ok (.iload_n 1, 1) := by decide +kernel
theorem dX6_readingAt_26 : decode (mC mX6_readingAt) 26 = .ok (.aaload, 1) := by decide +kernel
theorem dX6_readingAt_27 : decode (mC mX6_readingAt) 27 = .ok (.goto 4, 3) := by decide +kernel
theorem dX6_readingAt_30 : decode (mC mX6_readingAt) 30 = .ok (.aconst_null, 1) := by decide +kernel
theorem dX6_readingAt_31 : decode (mC mX6_readingAt) 31 = .ok (.areturn, 1) := by decide +kernel
theorem dX6_slotFor_0 : decode (mC mX6_slotFor) 0 = .ok (.iload_n 1, 1) := by decide +kernel
theorem dX6_slotFor_1 : decode (mC mX6_slotFor) 1 = .ok (.ifCond .eq 10, 3) := by decide +kernel
theorem dX6_slotFor_4 : decode (mC mX6_slotFor) 4 = .ok (.iload_n 1, 1) := by decide +kernel
theorem dX6_slotFor_5 : decode (mC mX6_slotFor) 5 = .ok (.iconst 1, 1) := by decide +kernel
theorem dX6_slotFor_6 : decode (mC mX6_slotFor) 6 = .ok (.if_icmp .eq 5, 3) := by decide +kernel
theorem dX6_slotFor_9 : decode (mC mX6_slotFor) 9 = .ok (.iconst (-1), 1) := by decide +kernel
theorem dX6_slotFor_10 : decode (mC mX6_slotFor) 10 = .ok (.ireturn, 1) := by decide +kernel
theorem dX6_slotFor_11 : decode (mC mX6_slotFor) 11 = .ok (.iload_n 1, 1) := by decide +kernel
theorem dX6_slotFor_12 : decode (mC mX6_slotFor) 12 = .ok (.ifCond .ne 10, 3) := by decide +kernel
theorem dX6_slotFor_15 : decode (mC mX6_slotFor) 15 = .ok (.aload_n 0, 1) := by decide +kernel
theorem dX6_slotFor_16 : decode (mC mX6_slotFor) 16 = .ok (.getfield 40, 3) := by decide +kernel
theorem dX6_slotFor_19 : decode (mC mX6_slotFor) 19 = .ok (.goto 7, 3) := by decide +kernel
theorem dX6_slotFor_22 : decode (mC mX6_slotFor) 22 = .ok (.aload_n 0, 1) := by decide +kernel
theorem dX6_slotFor_23 : decode (mC mX6_slotFor) 23 = .ok (.getfield 43, 3) := by decide +kernel
theorem dX6_slotFor_26 : decode (mC mX6_slotFor) 26 = .ok (.istore_n 3, 1) := by decide +kernel
theorem dX6_slotFor_27 : decode (mC mX6_slotFor) 27 = .ok (.iload_n 2, 1) := by decide +kernel
theorem dX6_slotFor_28 : decode (mC mX6_slotFor) 28 = .ok (.iconst (-1), 1) := by decide +kernel
theorem dX6_slotFor_29 : decode (mC mX6_slotFor) 29 = .ok (.if_icmp .ne 14, 3) := by decide +kernel
theorem dX6_slotFor_32 : decode (mC mX6_slotFor) 32 = .ok (.iload_n 3, 1) := by decide +kernel
theorem dX6_slotFor_33 : decode (mC mX6_slotFor) 33 = .ok (.iconst 2, 1) := by decide +kernel
theorem dX6_slotFor_34 : decode (mC mX6_slotFor) 34 = .ok (.if_icmp .ge 7, 3) := by decide +kernel
theorem dX6_slotFor_37 : decode (mC mX6_slotFor) 37 = .ok (.iload_n 3, 1) := by decide +kernel
theorem dX6_slotFor_38 : decode (mC mX6_slotFor) 38 = .ok (.goto 4, 3) := by decide +kernel
theorem dX6_slotFor_41 : decode (mC mX6_slotFor) 41 = .ok (.iconst (-1), 1) := by decide +kernel
theorem dX6_slotFor_42 : decode (mC mX6_slotFor) 42 = .ok (.ireturn, 1) := by decide +kernel
theorem dX6_slotFor_43 : decode (mC mX6_slotFor) 43 = .ok (.iload_n 2, 1) := by decide +kernel
theorem dX6_slotFor_44 : decode (mC mX6_slotFor) 44 = .ok (.ifCond .lt 12, 3) := by decide +kernel
theorem dX6_slotFor_47 : decode (mC mX6_slotFor) 47 = .ok (.iload_n 2, 1) := by decide +kernel
theorem dX6_slotFor_48 : decode (mC mX6_slotFor) 48 = .ok (.iload_n 3, 1) := by decide +kernel
theorem dX6_slotFor_49 : decode (mC mX6_slotFor) 49 = .ok (.if_icmp .ge 7, 3) := by decide +kernel
theorem dX6_slotFor_52 : decode (mC mX6_slotFor) 52 = .ok (.iload_n 2, 1) := by decide +kernel
theorem dX6_slotFor_53 : decode (mC mX6_slotFor) 53 = .ok (.goto 4, 3) := by decide +kernel
theorem dX6_slotFor_56 : decode (mC mX6_slotFor) 56 = .ok (.iconst (-1), 1) := by decide +kernel
theorem dX6_slotFor_57 : decode (mC mX6_slotFor) 57 = .ok (.ireturn, 1) := by decide +kernel
theorem dX6_tellNight_0 : decode (mC mX6_tellNight) 0 = .ok (.iload_n 1, 1) := by decide +kernel
theorem dX6_tellNight_1 : decode (mC mX6_tellNight) 1 = .ok (.ifCond .lt 36, 3) := by decide +kernel
theorem dX6_tellNight_4 : decode (mC mX6_tellNight) 4 = .ok (.iload_n 1, 1) := by decide +kernel
theorem dX6_tellNight_5 : decode (mC mX6_tellNight) 5 = .ok (.aload_n 0, 1) := by decide +kernel
theorem dX6_tellNight_6 : decode (mC mX6_tellNight) 6 = .ok (.getfield 21, 3) := by decide +kernel
theorem dX6_tellNight_9 : decode (mC mX6_tellNight) 9 = .ok (.arraylength, 1) := by decide +kernel
theorem dX6_tellNight_10 : decode (mC mX6_tellNight) 10 = .ok (.if_icmp .ge 27, 3) := by decide +kernel
theorem dX6_tellNight_13 : decode (mC mX6_tellNight) 13 = .ok (.aload_n 0, 1) := by decide +kernel
theorem dX6_tellNight_14 : decode (mC mX6_tellNight) 14 = .ok (.getfield 21, 3) := by decide +kernel
theorem dX6_tellNight_17 : decode (mC mX6_tellNight) 17 = .ok (.iload_n 1, 1) := by decide +kernel
theorem dX6_tellNight_18 : decode (mC mX6_tellNight) 18 = .ok (.aaload, 1) := by decide +kernel
theorem dX6_tellNight_19 : decode (mC mX6_tellNight) 19 = .ok (.aload_n 2, 1) := by decide +kernel
theorem dX6_tellNight_20 : decode (mC mX6_tellNight) 20 = .ok (.invokevirtual 46, 3) := by decide +kernel
theorem dX6_tellNight_23 : decode (mC mX6_tellNight) 23 = .ok (.aload_n 0, 1) := by decide +kernel
theorem dX6_tellNight_24 : decode (mC mX6_tellNight) 24 = .ok (.aload_n 0, 1) := by decide +kernel
theorem dX6_tellNight_25 : decode (mC mX6_tellNight) 25 = .ok (.getfield 40, 3) := by decide +kernel
theorem dX6_tellNight_28 : decode (mC mX6_tellNight) 28 = .ok (.iload_n 1, 1) := by decide +kernel
theorem dX6_tellNight_29 : decode (mC mX6_tellNight) 29 = .ok (.iconst 1, 1) := by decide +kernel
theorem dX6_tellNight_30 : decode (mC mX6_tellNight) 30 = .ok (.iadd, 1) := by decide +kernel
theorem dX6_tellNight_31 : decode (mC mX6_tellNight) 31 = .ok (.invokestatic 50, 3) := by decide +kernel
theorem dX6_tellNight_34 : decode (mC mX6_tellNight) 34 = .ok (.putfield 40, 3) := by decide +kernel
theorem dX6_tellNight_37 : decode (mC mX6_tellNight) 37 = .ok (.return_, 1) := by decide +kernel
theorem dX6_tellReading_0 : decode (mC mX6_tellReading) 0 = .ok (.iload_n 1, 1) := by decide +kernel
theorem dX6_tellReading_1 : decode (mC mX6_tellReading) 1 = .ok (.ifCond .lt 36, 3) := by decide +kernel
theorem dX6_tellReading_4 : decode (mC mX6_tellReading) 4 = .ok (.iload_n 1, 1) := by decide +kernel
theorem dX6_tellReading_5 : decode (mC mX6_tellReading) 5 = .ok (.aload_n 0, 1) := by decide +kernel
theorem dX6_tellReading_6 : decode (mC mX6_tellReading) 6 = .ok (.getfield 27, 3) := by decide +kernel
theorem dX6_tellReading_9 : decode (mC mX6_tellReading) 9 = .ok (.arraylength, 1) := by decide +kernel
theorem dX6_tellReading_10 : decode (mC mX6_tellReading) 10 = .ok (.if_icmp .ge 27, 3) := by decide +kernel
theorem dX6_tellReading_13 : decode (mC mX6_tellReading) 13 = .ok (.aload_n 0, 1) := by decide +kernel
theorem dX6_tellReading_14 : decode (mC mX6_tellReading) 14 = .ok (.getfield 27, 3) := by decide +kernel
theorem dX6_tellReading_17 : decode (mC mX6_tellReading) 17 = .ok (.iload_n 1, 1) := by decide +kernel
theorem dX6_tellReading_18 : decode (mC mX6_tellReading) 18 = .ok (.aaload, 1) := by decide +kernel
theorem dX6_tellReading_19 : decode (mC mX6_tellReading) 19 = .ok (.aload_n 2, 1) := by decide +kernel
theorem dX6_tellReading_20 : decode (mC mX6_tellReading) 20 = .ok (.invokevirtual 56, 3) := by decide +kernel
theorem dX6_tellReading_23 : decode (mC mX6_tellReading) 23 = .ok (.aload_n 0, 1) := by decide +kernel
theorem dX6_tellReading_24 : decode (mC mX6_tellReading) 24 = .ok (.aload_n 0, 1) := by decide +kernel
theorem dX6_tellReading_25 : decode (mC mX6_tellReading) 25 = .ok (.getfield 43, 3) := by decide +kernel
theorem dX6_tellReading_28 : decode (mC mX6_tellReading) 28 = .ok (.iload_n 1, 1) := by decide +kernel
theorem dX6_tellReading_29 : decode (mC mX6_tellReading) 29 = .ok (.iconst 1, 1) := by decide +kernel
theorem dX6_tellReading_30 : decode (mC mX6_tellReading) 30 = .ok (.iadd, 1) := by decide +kernel
theorem dX6_tellReading_31 : decode (mC mX6_tellReading) 31 = .ok (.invokestatic 50, 3) := by decide +kernel
theorem dX6_tellReading_34 : decode (mC mX6_tellReading) 34 = .ok (.putfield 43, 3) := by decide +kernel
theorem dX6_tellReading_37 : decode (mC mX6_tellReading) 37 = .ok (.return_, 1) := by decide +kernel
theorem dX6_copyFrom_0 : decode (mC mX6_copyFrom) 0 = .ok (.aload_n 1, 1) := by decide +kernel
theorem dX6_copyFrom_1 : decode (mC mX6_copyFrom) 1 = .ok (.getfield 9, 3) := by decide +kernel
theorem dX6_copyFrom_4 : decode (mC mX6_copyFrom) 4 = .ok (.aload_n 0, 1) := by decide +kernel
theorem dX6_copyFrom_5 : decode (mC mX6_copyFrom) 5 = .ok (.getfield 9, 3) := by decide +kernel
theorem dX6_copyFrom_8 : decode (mC mX6_copyFrom) 8 = .ok (.invokestatic 59, 3) := by decide +kernel
theorem dX6_copyFrom_11 : decode (mC mX6_copyFrom) 11 = .ok (.aload_n 0, 1) := by decide +kernel
theorem dX6_copyFrom_12 : decode (mC mX6_copyFrom) 12 = .ok (.aload_n 1, 1) := by decide +kernel
theorem dX6_copyFrom_13 : decode (mC mX6_copyFrom) 13 = .ok (.getfield 33, 3) := by decide +kernel
theorem dX6_copyFrom_16 : decode (mC mX6_copyFrom) 16 = .ok (.putfield 33, 3) := by decide +kernel
theorem dX6_copyFrom_19 : decode (mC mX6_copyFrom) 19 = .ok (.aload_n 0, 1) := by decide +kernel
theorem dX6_copyFrom_20 : decode (mC mX6_copyFrom) 20 = .ok (.aload_n 1, 1) := by decide +kernel
theorem dX6_copyFrom_21 : decode (mC mX6_copyFrom) 21 = .ok (.getfield 63, 3) := by decide +kernel
theorem dX6_copyFrom_24 : decode (mC mX6_copyFrom) 24 = .ok (.putfield 63, 3) := by decide +kernel
theorem dX6_copyFrom_27 : decode (mC mX6_copyFrom) 27 = .ok (.aload_n 0, 1) := by decide +kernel
theorem dX6_copyFrom_28 : decode (mC mX6_copyFrom) 28 = .ok (.aload_n 1, 1) := by decide +kernel
theorem dX6_copyFrom_29 : decode (mC mX6_copyFrom) 29 = .ok (.getfield 15, 3) := by decide +kernel
theorem dX6_copyFrom_32 : decode (mC mX6_copyFrom) 32 = .ok (.putfield 15, 3) := by decide +kernel
theorem dX6_copyFrom_35 : decode (mC mX6_copyFrom) 35 = .ok (.aload_n 0, 1) := by decide +kernel
theorem dX6_copyFrom_36 : decode (mC mX6_copyFrom) 36 = .ok (.aload_n 1, 1) := by decide +kernel
theorem dX6_copyFrom_37 : decode (mC mX6_copyFrom) 37 = .ok (.getfield 40, 3) := by decide +kernel
theorem dX6_copyFrom_40 : decode (mC mX6_copyFrom) 40 = .ok (.putfield 40, 3) := by decide +kernel
theorem dX6_copyFrom_43 : decode (mC mX6_copyFrom) 43 = .ok (.aload_n 0, 1) := by decide +kernel
theorem dX6_copyFrom_44 : decode (mC mX6_copyFrom) 44 = .ok (.aload_n 1, 1) := by decide +kernel
theorem dX6_copyFrom_45 : decode (mC mX6_copyFrom) 45 = .ok (.getfield 43, 3) := by decide +kernel
theorem dX6_copyFrom_48 : decode (mC mX6_copyFrom) 48 = .ok (.putfield 43, 3) := by decide +kernel
theorem dX6_copyFrom_51 : decode (mC mX6_copyFrom) 51 = .ok (.iconst 0, 1) := by decide +kernel
theorem dX6_copyFrom_52 : decode (mC mX6_copyFrom) 52 = .ok (.istore_n 2, 1) := by decide +kernel
theorem dX6_copyFrom_53 : decode (mC mX6_copyFrom) 53 = .ok (.iload_n 2, 1) := by decide +kernel
theorem dX6_copyFrom_54 : decode (mC mX6_copyFrom) 54 = .ok (.aload_n 0, 1) := by decide +kernel
theorem dX6_copyFrom_55 : decode (mC mX6_copyFrom) 55 = .ok (.getfield 21, 3) := by decide +kernel
theorem dX6_copyFrom_58 : decode (mC mX6_copyFrom) 58 = .ok (.arraylength, 1) := by decide +kernel
theorem dX6_copyFrom_59 : decode (mC mX6_copyFrom) 59 = .ok (.if_icmp .ge 33, 3) := by decide +kernel
theorem dX6_copyFrom_62 : decode (mC mX6_copyFrom) 62 = .ok (.iload_n 2, 1) := by decide +kernel
theorem dX6_copyFrom_63 : decode (mC mX6_copyFrom) 63 = .ok (.aload_n 1, 1) := by decide +kernel
theorem dX6_copyFrom_64 : decode (mC mX6_copyFrom) 64 = .ok (.getfield 21, 3) := by decide +kernel
theorem dX6_copyFrom_67 : decode (mC mX6_copyFrom) 67 = .ok (.arraylength, 1) := by decide +kernel
theorem dX6_copyFrom_68 : decode (mC mX6_copyFrom) 68 = .ok (.if_icmp .ge 24, 3) := by decide +kernel
theorem dX6_copyFrom_71 : decode (mC mX6_copyFrom) 71 = .ok (.aload_n 0, 1) := by decide +kernel
theorem dX6_copyFrom_72 : decode (mC mX6_copyFrom) 72 = .ok (.getfield 21, 3) := by decide +kernel
theorem dX6_copyFrom_75 : decode (mC mX6_copyFrom) 75 = .ok (.iload_n 2, 1) := by decide +kernel
theorem dX6_copyFrom_76 : decode (mC mX6_copyFrom) 76 = .ok (.aaload, 1) := by decide +kernel
theorem dX6_copyFrom_77 : decode (mC mX6_copyFrom) 77 = .ok (.aload_n 1, 1) := by decide +kernel
theorem dX6_copyFrom_78 : decode (mC mX6_copyFrom) 78 = .ok (.getfield 21, 3) := by decide +kernel
theorem dX6_copyFrom_81 : decode (mC mX6_copyFrom) 81 = .ok (.iload_n 2, 1) := by decide +kernel
theorem dX6_copyFrom_82 : decode (mC mX6_copyFrom) 82 = .ok (.aaload, 1) := by decide +kernel
theorem dX6_copyFrom_83 : decode (mC mX6_copyFrom) 83 = .ok (.invokevirtual 46, 3) := by decide +kernel
theorem dX6_copyFrom_86 : decode (mC mX6_copyFrom) 86 = .ok (.iinc 2 1, 3) := by decide +kernel
theorem dX6_copyFrom_89 : decode (mC mX6_copyFrom) 89 = .ok (.goto (-36), 3) := by decide +kernel
theorem dX6_copyFrom_92 : decode (mC mX6_copyFrom) 92 = .ok (.iconst 0, 1) := by decide +kernel
theorem dX6_copyFrom_93 : decode (mC mX6_copyFrom) 93 = .ok (.istore_n 2, 1) := by decide +kernel
theorem dX6_copyFrom_94 : decode (mC mX6_copyFrom) 94 = .ok (.iload_n 2, 1) := by decide +kernel
theorem dX6_copyFrom_95 : decode (mC mX6_copyFrom) 95 = .ok (.aload_n 0, 1) := by decide +kernel
theorem dX6_copyFrom_96 : decode (mC mX6_copyFrom) 96 = .ok (.getfield 27, 3) := by decide +kernel
theorem dX6_copyFrom_99 : decode (mC mX6_copyFrom) 99 = .ok (.arraylength, 1) := by decide +kernel
theorem dX6_copyFrom_100 : decode (mC mX6_copyFrom) 100 = .ok (.if_icmp .ge 33, 3) := by decide +kernel
theorem dX6_copyFrom_103 : decode (mC mX6_copyFrom) 103 = .ok (.iload_n 2, 1) := by decide +kernel
theorem dX6_copyFrom_104 : decode (mC mX6_copyFrom) 104 = .ok (.aload_n 1, 1) := by decide +kernel
theorem dX6_copyFrom_105 : decode (mC mX6_copyFrom) 105 = .ok (.getfield 27, 3) := by decide +kernel
theorem dX6_copyFrom_108 : decode (mC mX6_copyFrom) 108 = .ok (.arraylength, 1) := by decide +kernel
theorem dX6_copyFrom_109 : decode (mC mX6_copyFrom) 109 = .ok (.if_icmp .ge 24, 3) := by decide +kernel
theorem dX6_copyFrom_112 : decode (mC mX6_copyFrom) 112 = .ok (.aload_n 0, 1) := by decide +kernel
theorem dX6_copyFrom_113 : decode (mC mX6_copyFrom) 113 = .ok (.getfield 27, 3) := by decide +kernel
theorem dX6_copyFrom_116 : decode (mC mX6_copyFrom) 116 = .ok (.iload_n 2, 1) := by decide +kernel
theorem dX6_copyFrom_117 : decode (mC mX6_copyFrom) 117 = .ok (.aaload, 1) := by decide +kernel
theorem dX6_copyFrom_118 : decode (mC mX6_copyFrom) 118 = .ok (.aload_n 1, 1) := by decide +kernel
theorem dX6_copyFrom_119 : decode (mC mX6_copyFrom) 119 = .ok (.getfield 27, 3) := by decide +kernel
theorem dX6_copyFrom_122 : decode (mC mX6_copyFrom) 122 = .ok (.iload_n 2, 1) := by decide +kernel
theorem dX6_copyFrom_123 : decode (mC mX6_copyFrom) 123 = .ok (.aaload, 1) := by decide +kernel
theorem dX6_copyFrom_124 : decode (mC mX6_copyFrom) 124 = .ok (.invokevirtual 56, 3) := by decide +kernel
theorem dX6_copyFrom_127 : decode (mC mX6_copyFrom) 127 = .ok (.iinc 2 1, 3) := by decide +kernel
theorem dX6_copyFrom_130 : decode (mC mX6_copyFrom) 130 = .ok (.goto (-36), 3) := by decide +kernel
theorem dX6_copyFrom_133 : decode (mC mX6_copyFrom) 133 = .ok (.return_, 1) := by decide +kernel
theorem dX7_init_0 : decode (mC mX7_init) 0 = .ok (.aload_n 0, 1) := by decide +kernel
theorem dX7_init_1 : decode (mC mX7_init) 1 = .ok (.invokespecial 3, 3) := by decide +kernel
theorem dX7_init_4 : decode (mC mX7_init) 4 = .ok (.aload_n 0, 1) := by decide +kernel
theorem dX7_init_5 : decode (mC mX7_init) 5 = .ok (.iconst 5, 1) := by decide +kernel
theorem dX7_init_6 : decode (mC mX7_init) 6 = .ok (.newarray .int, 2) := by decide +kernel
theorem dX7_init_8 : decode (mC mX7_init) 8 = .ok (.putfield 9, 3) := by decide +kernel
theorem dX7_init_11 : decode (mC mX7_init) 11 = .ok (.aload_n 0, 1) := by decide +kernel
theorem dX7_init_12 : decode (mC mX7_init) 12 = .ok (.iconst 5, 1) := by decide +kernel
theorem dX7_init_13 : decode (mC mX7_init) 13 = .ok (.newarray .int, 2) := by decide +kernel
theorem dX7_init_15 : decode (mC mX7_init) 15 = .ok (.putfield 15, 3) := by decide +kernel
theorem dX7_init_18 : decode (mC mX7_init) 18 = .ok (.aload_n 0, 1) := by decide +kernel
theorem dX7_init_19 : decode (mC mX7_init) 19 = .ok (.bipush 6, 2) := by decide +kernel
theorem dX7_init_21 : decode (mC mX7_init) 21 = .ok (.bipush 64, 2) := by decide +kernel
theorem dX7_init_23 : decode (mC mX7_init) 23 = .ok (.multianewarray 18 2, 4) := by decide +kernel
theorem dX7_init_27 : decode (mC mX7_init) 27 = .ok (.putfield 20, 3) := by decide +kernel
theorem dX7_init_30 : decode (mC mX7_init) 30 = .ok (.aload_n 0, 1) := by decide +kernel
theorem dX7_init_31 : decode (mC mX7_init) 31 = .ok (.new 23, 3) := by decide +kernel
theorem dX7_init_34 : decode (mC mX7_init) 34 = .ok (.dup, 1) := by decide +kernel
theorem dX7_init_35 : decode (mC mX7_init) 35 = .ok (.invokespecial 25, 3) := by decide +kernel
theorem dX7_init_38 : decode (mC mX7_init) 38 = .ok (.putfield 26, 3) := by decide +kernel
theorem dX7_init_41 : decode (mC mX7_init) 41 = .ok (.return_, 1) := by decide +kernel
theorem dX7_begin_0 : decode (mC mX7_begin) 0 = .ok (.aload_n 0, 1) := by decide +kernel
theorem dX7_begin_1 : decode (mC mX7_begin) 1 = .ok (.aload_n 1, 1) := by decide +kernel
theorem dX7_begin_2 : decode (mC mX7_begin) 2 = .ok (.putfield 30, 3) := by decide +kernel
theorem dX7_begin_5 : decode (mC mX7_begin) 5 = .ok (.aload_n 0, 1) := by decide +kernel
theorem dX7_begin_6 : decode (mC mX7_begin) 6 = .ok (.iconst 0, 1) := by decide +kernel
theorem dX7_begin_7 : decode (mC mX7_begin) 7 = .ok (.putfield 34, 3) := by decide +kernel
theorem dX7_begin_10 : decode (mC mX7_begin) 10 = .ok (.aload_n 0, 1) := by decide +kernel
theorem dX7_begin_11 : decode (mC mX7_begin) 11 = .ok (.iconst (-1), 1) := by decide +kernel
theorem dX7_begin_12 : decode (mC mX7_begin) 12 = .ok (.putfield 38, 3) := by decide +kernel
theorem dX7_begin_15 : decode (mC mX7_begin) 15 = .ok (.aload_n 0, 1) := by decide +kernel
theorem dX7_begin_16 : decode (mC mX7_begin) 16 = .ok (.iconst 0, 1) := by decide +kernel
theorem dX7_begin_17 : decode (mC mX7_begin) 17 = .ok (.putfield 41, 3) := by decide +kernel
theorem dX7_begin_20 : decode (mC mX7_begin) 20 = .ok (.aload_n 2, 1) := by decide +kernel
theorem dX7_begin_21 : decode (mC mX7_begin) 21 = .ok (.aload_n 0, 1) := by decide +kernel
theorem dX7_begin_22 : decode (mC mX7_begin) 22 = .ok (.iconst 0, 1) := by decide +kernel
theorem dX7_begin_23 : decode (mC mX7_begin) 23 = .ok (.invokevirtual 44, 3) := by decide +kernel
theorem dX7_begin_26 : decode (mC mX7_begin) 26 = .ok (.invokestatic 48, 3) := by decide +kernel
theorem dX7_begin_29 : decode (mC mX7_begin) 29 = .ok (.return_, 1) := by decide +kernel
theorem dX7_extend_0 : decode (mC mX7_extend) 0 = .ok (.aload_n 0, 1) := by decide +kernel
theorem dX7_extend_1 : decode (mC mX7_extend) 1 = .ok (.getfield 38, 3) := by decide +kernel
theorem dX7_extend_4 : decode (mC mX7_extend) 4 = .ok (.iconst (-1), 1) := by decide +kernel
theorem dX7_extend_5 : decode (mC mX7_extend) 5 = .ok (.if_icmp .eq 12, 3) := by decide +kernel
theorem dX7_extend_8 : decode (mC mX7_extend) 8 = .ok (.iload_n 2, 1) := by decide +kernel
theorem dX7_extend_9 : decode (mC mX7_extend) 9 = .ok (.aload_n 0, 1) := by decide +kernel
theorem dX7_extend_10 : decode (mC mX7_extend) 10 = .ok (.getfield 38, 3) := by decide +kernel
theorem dX7_extend_13 : decode (mC mX7_extend) 13 = .ok (.if_icmp .lt 4, 3) := by decide +kernel
theorem dX7_extend_16 : decode (mC mX7_extend) 16 = .ok (.return_, 1) := by decide +kernel
theorem dX7_extend_17 : decode (mC mX7_extend) 17 = .ok (.iload_n 1, 1) := by decide +kernel
theorem dX7_extend_18 : decode (mC mX7_extend) 18 = .ok (.aload_n 0, 1) := by decide +kernel
theorem dX7_extend_19 : decode (mC mX7_extend) 19 = .ok (.getfield 30, 3) := by decide +kernel
theorem dX7_extend_22 : decode (mC mX7_extend) 22 = .ok (.getfield 52, 3) := by decide +kernel
theorem dX7_extend_25 : decode (mC mX7_extend) 25 = .ok (.if_icmp .ge 8, 3) := by decide +kernel
theorem dX7_extend_28 : decode (mC mX7_extend) 28 = .ok (.iload_n 1, 1) := by decide +kernel
theorem dX7_extend_29 : decode (mC mX7_extend) 29 = .ok (.iconst 5, 1) := by decide +kernel
theorem dX7_extend_30 : decode (mC mX7_extend) 30 = .ok (.if_icmp .lt 25, 3) := by decide +kernel
theorem dX7_extend_33 : decode (mC mX7_extend) 33 = .ok (.aload_n 0, 1) := by decide +kernel
theorem dX7_extend_34 : decode (mC mX7_extend) 34 = .ok (.iload_n 2, 1) := by decide +kernel
theorem dX7_extend_35 : decode (mC mX7_extend) 35 = .ok (.putfield 38, 3) := by decide +kernel
theorem dX7_extend_38 : decode (mC mX7_extend) 38 = .ok (.aload_n 0, 1) := by decide +kernel
theorem dX7_extend_39 : decode (mC mX7_extend) 39 = .ok (.iload_n 3, 1) := by decide +kernel
theorem dX7_extend_40 : decode (mC mX7_extend) 40 = .ok (.putfield 41, 3) := by decide +kernel
theorem dX7_extend_43 : decode (mC mX7_extend) 43 = .ok (.aload_n 0, 1) := by decide +kernel
theorem dX7_extend_44 : decode (mC mX7_extend) 44 = .ok (.getfield 15, 3) := by decide +kernel
theorem dX7_extend_47 : decode (mC mX7_extend) 47 = .ok (.aload_n 0, 1) := by decide +kernel
theorem dX7_extend_48 : decode (mC mX7_extend) 48 = .ok (.getfield 9, 3) := by decide +kernel
theorem dX7_extend_51 : decode (mC mX7_extend) 51 = .ok (.invokestatic 48, 3) := by decide +kernel
theorem dX7_extend_54 : decode (mC mX7_extend) 54 = .ok (.return_, 1) := by decide +kernel
theorem dX7_extend_55 : decode (mC mX7_extend) 55 = .ok (.iconst 0, 1) := by decide +kernel
theorem dX7_extend_56 : decode (mC mX7_extend) 56 = .ok (.istore 4, 2) := by decide +kernel
theorem dX7_extend_58 : decode (mC mX7_extend) 58 = .ok (.iload 4, 2) := by decide +kernel
theorem dX7_extend_60 : decode (mC mX7_extend) 60 = .ok (.aload_n 0, 1) := by decide +kernel
theorem dX7_extend_61 : decode (mC mX7_extend) 61 = .ok (.getfield 30, 3) := by decide +kernel
theorem dX7_extend_64 : decode (mC mX7_extend) 64 = .ok (.getfield 52, 3) := by decide +kernel
theorem dX7_extend_67 : decode (mC mX7_extend) 67 = .ok (.if_icmp .ge 166, 3) := by decide +kernel
theorem dX7_extend_70 : decode (mC mX7_extend) 70 = .ok (.aload_n 0, 1) := by decide +kernel
theorem dX7_extend_71 : decode (mC mX7_extend) 71 = .ok (.getfield 34, 3) := by decide +kernel
theorem dX7_extend_74 : decode (mC mX7_extend) 74 = .ok (.iload 4, 2) := by decide +kernel
theorem dX7_extend_76 : decode (mC mX7_extend) 76 = .ok (.ishr, 1) := by decide +kernel
theorem dX7_extend_77 : decode (mC mX7_extend) 77 = .ok (.iconst 1, 1) := by decide +kernel
theorem dX7_extend_78 : decode (mC mX7_extend) 78 = .ok (.iand, 1) := by decide +kernel
theorem dX7_extend_79 : decode (mC mX7_extend) 79 = .ok (.ifCond .ne 148, 3) := by decide +kernel
theorem dX7_extend_82 : decode (mC mX7_extend) 82 = .ok (.aload_n 0, 1) := by decide +kernel
theorem dX7_extend_83 : decode (mC mX7_extend) 83 = .ok (.getfield 30, 3) := by decide +kernel
theorem dX7_extend_86 : decode (mC mX7_extend) 86 = .ok (.getfield 57, 3) := by decide +kernel
theorem dX7_extend_89 : decode (mC mX7_extend) 89 = .ok (.iload 4, 2) := by decide +kernel
theorem dX7_extend_91 : decode (mC mX7_extend) 91 = .ok (.invokestatic 60, 3) := by decide +kernel
theorem dX7_extend_94 : decode (mC mX7_extend) 94 = .ok (.istore 5, 2) := by decide +kernel
theorem dX7_extend_96 : decode (mC mX7_extend) 96 = .ok (.aload_n 0, 1) := by decide +kernel
theorem dX7_extend_97 : decode (mC mX7_extend) 97 = .ok (.getfield 26, 3) := by decide +kernel
theorem dX7_extend_100 : decode (mC mX7_extend) 100 = .ok (.aload_n 0, 1) := by decide +kernel
theorem dX7_extend_101 : decode (mC mX7_extend) 101 = .ok (.getfield 30, 3) := by decide +kernel
theorem dX7_extend_104 : decode (mC mX7_extend) 104 = .ok (.aload_n 0, 1) := by decide +kernel
theorem dX7_extend_105 : decode (mC mX7_extend) 105 = .ok (.iload_n 1, 1) := by decide +kernel
theorem dX7_extend_106 : decode (mC mX7_extend) 106 = .ok (.invokevirtual 44, 3) := by decide +kernel
theorem dX7_extend_109 : decode (mC mX7_extend) 109 = .ok (.iload 5, 2) := by decide +kernel
theorem dX7_extend_111 : decode (mC mX7_extend) 111 = .ok (.aload_n 0, 1) := by decide +kernel
theorem dX7_extend_112 : decode (mC mX7_extend) 112 = .ok (.getfield 30, 3) := by decide +kernel
theorem dX7_extend_115 : decode (mC mX7_extend) 115 = .ok (.getfield 64, 3) := by decide +kernel
theorem dX7_extend_118 : decode (mC mX7_extend) 118 = .ok (.iload 4, 2) := by decide +kernel
theorem dX7_extend_120 : decode (mC mX7_extend) 120 = .ok (.invokestatic 60, 3) := by decide +kernel
theorem dX7_extend_123 : decode (mC mX7_extend) 123 = .ok (.aload_n 0, 1) := by decide +kernel
theorem dX7_extend_124 : decode (mC mX7_extend) 124 = .ok (.getfield 30, 3) := by decide +kernel
theorem dX7_extend_127 : decode (mC mX7_extend) 127 = .ok (.getfield 67, 3) := by decide +kernel
theorem dX7_extend_130 : decode (mC mX7_extend) 130 = .ok (.iload 4, 2) := by decide +kernel
theorem dX7_extend_132 : decode (mC mX7_extend) 132 = .ok (.invokestatic 60, 3) := by decide +kernel
theorem dX7_extend_135 : decode (mC mX7_extend) 135 = .ok (.invokevirtual 70, 3) := by decide +kernel
theorem dX7_extend_138 : decode (mC mX7_extend) 138 = .ok (.aload_n 0, 1) := by decide +kernel
theorem dX7_extend_139 : decode (mC mX7_extend) 139 = .ok (.getfield 26, 3) := by decide +kernel
theorem dX7_extend_142 : decode (mC mX7_extend) 142 = .ok (.getfield 74, 3) := by decide +kernel
theorem dX7_extend_145 : decode (mC mX7_extend) 145 = .ok (.iconst (-1), 1) := by decide +kernel
theorem dX7_extend_146 : decode (mC mX7_extend) 146 = .ok (.if_icmp .ne 4, 3) := by decide +kernel
theorem dX7_extend_149 : decode (mC mX7_extend) 149 = .ok (.return_, 1) := by decide +kernel
theorem dX7_extend_150 : decode (mC mX7_extend) 150 = .ok (.aload_n 0, 1) := by decide +kernel
theorem dX7_extend_151 : decode (mC mX7_extend) 151 = .ok (.getfield 26, 3) := by decide +kernel
theorem dX7_extend_154 : decode (mC mX7_extend) 154 = .ok (.aload_n 0, 1) := by decide +kernel
theorem dX7_extend_155 : decode (mC mX7_extend) 155 = .ok (.iload_n 1, 1) := by decide +kernel
theorem dX7_extend_156 : decode (mC mX7_extend) 156 = .ok (.iconst 1, 1) := by decide +kernel
theorem dX7_extend_157 : decode (mC mX7_extend) 157 = .ok (.iadd, 1) := by decide +kernel
theorem dX7_extend_158 : decode (mC mX7_extend) 158 = .ok (.invokevirtual 44, 3) := by decide +kernel
theorem dX7_extend_161 : decode (mC mX7_extend) 161 = .ok (.invokevirtual 75, 3) := by decide +kernel
theorem dX7_extend_164 : decode (mC mX7_extend) 164 = .ok (.aload_n 0, 1) := by decide +kernel
theorem dX7_extend_165 : decode (mC mX7_extend) 165 = .ok (.dup, 1) := by decide +kernel
theorem dX7_extend_166 : decode (mC mX7_extend) 166 = .ok (.getfield 34, 3) := by decide +kernel
theorem dX7_extend_169 : decode (mC mX7_extend) 169 = .ok (.iconst 1, 1) := by decide +kernel
theorem dX7_extend_170 : decode (mC mX7_extend) 170 = .ok (.iload 4, 2) := by decide +kernel
theorem dX7_extend_172 : decode (mC mX7_extend) 172 = .ok (.ishl, 1) := by decide +kernel
theorem dX7_extend_173 : decode (mC mX7_extend) 173 = .ok (.ior, 1) := by decide +kernel
theorem dX7_extend_174 : decode (mC mX7_extend) 174 = .ok (.putfield 34, 3) := by decide +kernel
theorem dX7_extend_177 : decode (mC mX7_extend) 177 = .ok (.aload_n 0, 1) := by decide +kernel
theorem dX7_extend_178 : decode (mC mX7_extend) 178 = .ok (.getfield 15, 3) := by decide +kernel
theorem dX7_extend_181 : decode (mC mX7_extend) 181 = .ok (.iload_n 1, 1) := by decide +kernel
theorem dX7_extend_182 : decode (mC mX7_extend) 182 = .ok (.iload 4, 2) := by decide +kernel
theorem dX7_extend_184 : decode (mC mX7_extend) 184 = .ok (.invokestatic 79, 3) := by decide +kernel
theorem dX7_extend_187 : decode (mC mX7_extend) 187 = .ok (.aload_n 0, 1) := by decide +kernel
theorem dX7_extend_188 : decode (mC mX7_extend) 188 = .ok (.iload_n 1, 1) := by decide +kernel
theorem dX7_extend_189 : decode (mC mX7_extend) 189 = .ok (.iconst 1, 1) := by decide +kernel
theorem dX7_extend_190 : decode (mC mX7_extend) 190 = .ok (.iadd, 1) := by decide +kernel
theorem dX7_extend_191 : decode (mC mX7_extend) 191 = .ok (.iload_n 2, 1) := by decide +kernel
theorem dX7_extend_192 : decode (mC mX7_extend) 192 = .ok (.aload_n 0, 1) := by decide +kernel
theorem dX7_extend_193 : decode (mC mX7_extend) 193 = .ok (.getfield 26, 3) := by decide +kernel
theorem dX7_extend_196 : decode (mC mX7_extend) 196 = .ok (.getfield 74, 3) := by decide +kernel
theorem dX7_extend_199 : decode (mC mX7_extend) 199 = .ok (.iadd, 1) := by decide +kernel
theorem dX7_extend_200 : decode (mC mX7_extend) 200 = .ok (.iload_n 3, 1) := by decide +kernel
theorem dX7_extend_201 : decode (mC mX7_extend) 201 = .ok (.aload_n 0, 1) := by decide +kernel
theorem dX7_extend_202 : decode (mC mX7_extend) 202 = .ok (.getfield 26, 3) := by decide +kernel
theorem dX7_extend_205 : decode (mC mX7_extend) 205 = .ok (.getfield 83, 3) := by decide +kernel
theorem dX7_extend_208 : decode (mC mX7_extend) 208 = .ok (.iadd, 1) := by decide +kernel
theorem dX7_extend_209 : decode (mC mX7_extend) 209 = .ok (.invokevirtual 84, 3) := by decide +kernel
theorem dX7_extend_212 : decode (mC mX7_extend) 212 = .ok (.aload_n 0, 1) := by decide +kernel
theorem dX7_extend_213 : decode (mC mX7_extend) 213 = .ok (.dup, 1) := by decide +kernel
theorem dX7_extend_214 : decode (mC mX7_extend) 214 = .ok (.getfield 34, 3) := by decide +kernel
theorem dX7_extend_217 : decode (mC mX7_extend) 217 = .ok (.iconst 1, 1) := by decide +kernel
theorem dX7_extend_218 : decode (mC mX7_extend) 218 = .ok (.iload 4, 2) := by decide +kernel
theorem dX7_extend_220 : decode (mC mX7_extend) 220 = .ok (.ishl, 1) := by decide +kernel
theorem dX7_extend_221 : decode (mC mX7_extend) 221 = .ok (.iconst (-1), 1) := by decide +kernel
theorem dX7_extend_222 : decode (mC mX7_extend) 222 = .ok (.ixor, 1) := by decide +kernel
theorem dX7_extend_223 : decode (mC mX7_extend) 223 = .ok (.iand, 1) := by decide +kernel
theorem dX7_extend_224 : decode (mC mX7_extend) 224 = .ok (.putfield 34, 3) := by decide +kernel
theorem dX7_extend_227 : decode (mC mX7_extend) 227 = .ok (.iinc 4 1, 3) := by decide +kernel
theorem dX7_extend_230 : decode (mC mX7_extend) 230 = .ok (.goto (-172), 3) := by decide +kernel
theorem dX7_extend_233 : decode (mC mX7_extend) 233 = .ok (.return_, 1) := by decide +kernel
theorem dX7_groundAt_0 : decode (mC mX7_groundAt) 0 = .ok (.iload_n 1, 1) := by decide +kernel
theorem dX7_groundAt_1 : decode (mC mX7_groundAt) 1 = .ok (.ifCond .lt 21, 3) := by decide +kernel
theorem dX7_groundAt_4 : decode (mC mX7_groundAt) 4 = .ok (.iload_n 1, 1) := by decide +kernel
theorem dX7_groundAt_5 : decode (mC mX7_groundAt) 5 = .ok (.aload_n 0, 1) := by decide +kernel
theorem dX7_groundAt_6 : decode (mC mX7_groundAt) 6 = .ok (.getfield 20, 3) := by decide +kernel
theorem dX7_groundAt_9 : decode (mC mX7_groundAt) 9 = .ok (.arraylength, 1) := by decide +kernel
theorem dX7_groundAt_10 : decode (mC mX7_groundAt) 10 = .ok (.if_icmp .ge 12, 3) := by decide +kernel
theorem dX7_groundAt_13 : decode (mC mX7_groundAt) 13 = .ok (.aload_n 0, 1) := by decide +kernel
theorem dX7_groundAt_14 : decode (mC mX7_groundAt) 14 = .ok (.getfield 20, 3) := by decide +kernel
theorem dX7_groundAt_17 : decode (mC mX7_groundAt) 17 = .ok (.iload_n 1, 1) := by decide +kernel
theorem dX7_groundAt_18 : decode (mC mX7_groundAt) 18 = .ok (.aaload, 1) := by decide +kernel
theorem dX7_groundAt_19 : decode (mC mX7_groundAt) 19 = .ok (.goto 4, 3) := by decide +kernel
theorem dX7_groundAt_22 : decode (mC mX7_groundAt) 22 = .ok (.aconst_null, 1) := by decide +kernel
theorem dX7_groundAt_23 : decode (mC mX7_groundAt) 23 = .ok (.areturn, 1) := by decide +kernel
theorem dX8_init_0 : decode (mC mX8_init) 0 = .ok (.aload_n 0, 1) := by decide +kernel
theorem dX8_init_1 : decode (mC mX8_init) 1 = .ok (.invokespecial 3, 3) := by decide +kernel
theorem dX8_init_4 : decode (mC mX8_init) 4 = .ok (.aload_n 0, 1) := by decide +kernel
theorem dX8_init_5 : decode (mC mX8_init) 5 = .ok (.bipush 64, 2) := by decide +kernel
theorem dX8_init_7 : decode (mC mX8_init) 7 = .ok (.newarray .int, 2) := by decide +kernel
theorem dX8_init_9 : decode (mC mX8_init) 9 = .ok (.putfield 9, 3) := by decide +kernel
theorem dX8_init_12 : decode (mC mX8_init) 12 = .ok (.aload_n 0, 1) := by decide +kernel
theorem dX8_init_13 : decode (mC mX8_init) 13 = .ok (.iconst 3, 1) := by decide +kernel
theorem dX8_init_14 : decode (mC mX8_init) 14 = .ok (.newarray .int, 2) := by decide +kernel
theorem dX8_init_16 : decode (mC mX8_init) 16 = .ok (.putfield 15, 3) := by decide +kernel
theorem dX8_init_19 : decode (mC mX8_init) 19 = .ok (.aload_n 0, 1) := by decide +kernel
theorem dX8_init_20 : decode (mC mX8_init) 20 = .ok (.iconst 3, 1) := by decide +kernel
theorem dX8_init_21 : decode (mC mX8_init) 21 = .ok (.newarray .int, 2) := by decide +kernel
theorem dX8_init_23 : decode (mC mX8_init) 23 = .ok (.putfield 18, 3) := by decide +kernel
theorem dX8_init_26 : decode (mC mX8_init) 26 = .ok (.return_, 1) := by decide +kernel
theorem dX8_set_0 : decode (mC mX8_set) 0 = .ok (.aload_n 0, 1) := by decide +kernel
theorem dX8_set_1 : decode (mC mX8_set) 1 = .ok (.iload_n 2, 1) := by decide +kernel
theorem dX8_set_2 : decode (mC mX8_set) 2 = .ok (.putfield 21, 3) := by decide +kernel
theorem dX8_set_5 : decode (mC mX8_set) 5 = .ok (.aload_n 0, 1) := by decide +kernel
theorem dX8_set_6 : decode (mC mX8_set) 6 = .ok (.iload_n 3, 1) := by decide +kernel
theorem dX8_set_7 : decode (mC mX8_set) 7 = .ok (.putfield 25, 3) := by decide +kernel
theorem dX8_set_10 : decode (mC mX8_set) 10 = .ok (.aload_n 0, 1) := by decide +kernel
theorem dX8_set_11 : decode (mC mX8_set) 11 = .ok (.iconst 0, 1) := by decide +kernel
theorem dX8_set_12 : decode (mC mX8_set) 12 = .ok (.putfield 28, 3) := by decide +kernel
theorem dX8_set_15 : decode (mC mX8_set) 15 = .ok (.iconst 0, 1) := by decide +kernel
theorem dX8_set_16 : decode (mC mX8_set) 16 = .ok (.istore 4, 2) := by decide +kernel
theorem dX8_set_18 : decode (mC mX8_set) 18 = .ok (.iload 4, 2) := by decide +kernel
theorem dX8_set_20 : decode (mC mX8_set) 20 = .ok (.aload_n 0, 1) := by decide +kernel
theorem dX8_set_21 : decode (mC mX8_set) 21 = .ok (.getfield 21, 3) := by decide +kernel
theorem dX8_set_24 : decode (mC mX8_set) 24 = .ok (.if_icmp .ge 39, 3) := by decide +kernel
theorem dX8_set_27 : decode (mC mX8_set) 27 = .ok (.aload_n 1, 1) := by decide +kernel
theorem dX8_set_28 : decode (mC mX8_set) 28 = .ok (.iload 4, 2) := by decide +kernel
theorem dX8_set_30 : decode (mC mX8_set) 30 = .ok (.invokevirtual 31, 3) := by decide +kernel
theorem dX8_set_33 : decode (mC mX8_set) 33 = .ok (.istore 5, 2) := by decide +kernel
theorem dX8_set_35 : decode (mC mX8_set) 35 = .ok (.aload_n 0, 1) := by decide +kernel
theorem dX8_set_36 : decode (mC mX8_set) 36 = .ok (.getfield 9, 3) := by decide +kernel
theorem dX8_set_39 : decode (mC mX8_set) 39 = .ok (.iload 4, 2) := by decide +kernel
theorem dX8_set_41 : decode (mC mX8_set) 41 = .ok (.iload 5, 2) := by decide +kernel
theorem dX8_set_43 : decode (mC mX8_set) 43 = .ok (.invokestatic 37, 3) := by decide +kernel
theorem dX8_set_46 : decode (mC mX8_set) 46 = .ok (.aload_n 0, 1) := by decide +kernel
theorem dX8_set_47 : decode (mC mX8_set) 47 = .ok (.dup, 1) := by decide +kernel
theorem dX8_set_48 : decode (mC mX8_set) 48 = .ok (.getfield 28, 3) := by decide +kernel
theorem dX8_set_51 : decode (mC mX8_set) 51 = .ok (.iload 5, 2) := by decide +kernel
theorem dX8_set_53 : decode (mC mX8_set) 53 = .ok (.ior, 1) := by decide +kernel
theorem dX8_set_54 : decode (mC mX8_set) 54 = .ok (.putfield 28, 3) := by decide +kernel
theorem dX8_set_57 : decode (mC mX8_set) 57 = .ok (.iinc 4 1, 3) := by decide +kernel
theorem dX8_set_60 : decode (mC mX8_set) 60 = .ok (.goto (-42), 3) := by decide +kernel
theorem dX8_set_63 : decode (mC mX8_set) 63 = .ok (.aload_n 0, 1) := by decide +kernel
theorem dX8_set_64 : decode (mC mX8_set) 64 = .ok (.iconst (-1), 1) := by decide +kernel
theorem dX8_set_65 : decode (mC mX8_set) 65 = .ok (.putfield 41, 3) := by decide +kernel
theorem dX8_set_68 : decode (mC mX8_set) 68 = .ok (.aload_n 0, 1) := by decide +kernel
theorem dX8_set_69 : decode (mC mX8_set) 69 = .ok (.iconst 0, 1) := by decide +kernel
theorem dX8_set_70 : decode (mC mX8_set) 70 = .ok (.iconst 0, 1) := by decide +kernel
theorem dX8_set_71 : decode (mC mX8_set) 71 = .ok (.iconst 0, 1) := by decide +kernel
theorem dX8_set_72 : decode (mC mX8_set) 72 = .ok (.invokevirtual 44, 3) := by decide +kernel
theorem dX8_set_75 : decode (mC mX8_set) 75 = .ok (.return_, 1) := by decide +kernel
theorem dX8_choose_0 : decode (mC mX8_choose) 0 = .ok (.iload_n 1, 1) := by decide +kernel
theorem dX8_choose_1 : decode (mC mX8_choose) 1 = .ok (.aload_n 0, 1) := by decide +kernel
theorem dX8_choose_2 : decode (mC mX8_choose) 2 = .ok (.getfield 25, 3) := by decide +kernel
theorem dX8_choose_5 : decode (mC mX8_choose) 5 = .ok (.if_icmp .ge 8, 3) := by decide +kernel
theorem dX8_choose_8 : decode (mC mX8_choose) 8 = .ok (.iload_n 1, 1) := by decide +kernel
theorem dX8_choose_9 : decode (mC mX8_choose) 9 = .ok (.iconst 3, 1) := by decide +kernel
theorem dX8_choose_10 : decode (mC mX8_choose) 10 = .ok (.if_icmp .lt 34, 3) := by decide +kernel
theorem dX8_choose_13 : decode (mC mX8_choose) 13 = .ok (.iload_n 3, 1) := by decide +kernel
theorem dX8_choose_14 : decode (mC mX8_choose) 14 = .ok (.invokestatic 48, 3) := by decide +kernel
theorem dX8_choose_17 : decode (mC mX8_choose) 17 = .ok (.aload_n 0, 1) := by decide +kernel
theorem dX8_choose_18 : decode (mC mX8_choose) 18 = .ok (.getfield 41, 3) := by decide +kernel
theorem dX8_choose_21 : decode (mC mX8_choose) 21 = .ok (.if_icmp .le 22, 3) := by decide +kernel
theorem dX8_choose_24 : decode (mC mX8_choose) 24 = .ok (.aload_n 0, 1) := by decide +kernel
theorem dX8_choose_25 : decode (mC mX8_choose) 25 = .ok (.iload_n 3, 1) := by decide +kernel
theorem dX8_choose_26 : decode (mC mX8_choose) 26 = .ok (.invokestatic 48, 3) := by decide +kernel
theorem dX8_choose_29 : decode (mC mX8_choose) 29 = .ok (.putfield 41, 3) := by decide +kernel
theorem dX8_choose_32 : decode (mC mX8_choose) 32 = .ok (.aload_n 0, 1) := by decide +kernel
theorem dX8_choose_33 : decode (mC mX8_choose) 33 = .ok (.getfield 15, 3) := by decide +kernel
theorem dX8_choose_36 : decode (mC mX8_choose) 36 = .ok (.aload_n 0, 1) := by decide +kernel
theorem dX8_choose_37 : decode (mC mX8_choose) 37 = .ok (.getfield 18, 3) := by decide +kernel
theorem dX8_choose_40 : decode (mC mX8_choose) 40 = .ok (.invokestatic 53, 3) := by decide +kernel
theorem dX8_choose_43 : decode (mC mX8_choose) 43 = .ok (.return_, 1) := by decide +kernel
theorem dX8_choose_44 : decode (mC mX8_choose) 44 = .ok (.iload_n 2, 1) := by decide +kernel
theorem dX8_choose_45 : decode (mC mX8_choose) 45 = .ok (.istore 4, 2) := by decide +kernel
theorem dX8_choose_47 : decode (mC mX8_choose) 47 = .ok (.iload 4, 2) := by decide +kernel
theorem dX8_choose_49 : decode (mC mX8_choose) 49 = .ok (.aload_n 0, 1) := by decide +kernel
theorem dX8_choose_50 : decode (mC mX8_choose) 50 = .ok (.getfield 21, 3) := by decide +kernel
theorem dX8_choose_53 : decode (mC mX8_choose) 53 = .ok (.if_icmp .ge 55, 3) := by decide +kernel
theorem dX8_choose_56 : decode (mC mX8_choose) 56 = .ok (.aload_n 0, 1) := by decide +kernel
theorem dX8_choose_57 : decode (mC mX8_choose) 57 = .ok (.getfield 41, 3) := by decide +kernel
theorem dX8_choose_60 : decode (mC mX8_choose) 60 = .ok (.aload_n 0, 1) := by decide +kernel
theorem dX8_choose_61 : decode (mC mX8_choose) 61 = .ok (.getfield 28, 3) := by decide +kernel
theorem dX8_choose_64 : decode (mC mX8_choose) 64 = .ok (.invokestatic 48, 3) := by decide +kernel
theorem dX8_choose_67 : decode (mC mX8_choose) 67 = .ok (.if_icmp .ge 41, 3) := by decide +kernel
theorem dX8_choose_70 : decode (mC mX8_choose) 70 = .ok (.aload_n 0, 1) := by decide +kernel
theorem dX8_choose_71 : decode (mC mX8_choose) 71 = .ok (.getfield 15, 3) := by decide +kernel
theorem dX8_choose_74 : decode (mC mX8_choose) 74 = .ok (.iload_n 1, 1) := by decide +kernel
theorem dX8_choose_75 : decode (mC mX8_choose) 75 = .ok (.iload 4, 2) := by decide +kernel
theorem dX8_choose_77 : decode (mC mX8_choose) 77 = .ok (.invokestatic 37, 3) := by decide +kernel
theorem dX8_choose_80 : decode (mC mX8_choose) 80 = .ok (.aload_n 0, 1) := by decide +kernel
theorem dX8_choose_81 : decode (mC mX8_choose) 81 = .ok (.iload_n 1, 1) := by decide +kernel
theorem dX8_choose_82 : decode (mC mX8_choose) 82 = .ok (.iconst 1, 1) := by decide +kernel
theorem dX8_choose_83 : decode (mC mX8_choose) 83 = .ok (.iadd, 1) := by decide +kernel
theorem dX8_choose_84 : decode (mC mX8_choose) 84 = .ok (.iload 4, 2) := by decide +kernel
theorem dX8_choose_86 : decode (mC mX8_choose) 86 = .ok (.iconst 1, 1) := by decide +kernel
theorem dX8_choose_87 : decode (mC mX8_choose) 87 = .ok (.iadd, 1) := by decide +kernel
theorem dX8_choose_88 : decode (mC mX8_choose) 88 = .ok (.iload_n 3, 1) := by decide +kernel
theorem dX8_choose_89 : decode (mC mX8_choose) 89 = .ok (.aload_n 0, 1) := by decide +kernel
theorem dX8_choose_90 : decode (mC mX8_choose) 90 = .ok (.getfield 9, 3) := by decide +kernel
theorem dX8_choose_93 : decode (mC mX8_choose) 93 = .ok (.iload 4, 2) := by decide +kernel
theorem dX8_choose_95 : decode (mC mX8_choose) 95 = .ok (.invokestatic 57, 3) := by decide +kernel
theorem dX8_choose_98 : decode (mC mX8_choose) 98 = .ok (.ior, 1) := by decide +kernel
theorem dX8_choose_99 : decode (mC mX8_choose) 99 = .ok (.invokevirtual 44, 3) := by decide +kernel
theorem dX8_choose_102 : decode (mC mX8_choose) 102 = .ok (.iinc 4 1, 3) := by decide +kernel
theorem dX8_choose_105 : decode (mC mX8_choose) 105 = .ok (.goto (-58), 3) := by decide +kernel
theorem dX8_choose_108 : decode (mC mX8_choose) 108 = .ok (.return_, 1) := by decide +kernel
theorem dX9_init_0 : decode (mC mX9_init) 0 = .ok (.aload_n 0, 1) := by decide +kernel
theorem dX9_init_1 : decode (mC mX9_init) 1 = .ok (.invokespecial 3, 3) := by decide +kernel
theorem dX9_init_4 : decode (mC mX9_init) 4 = .ok (.aload_n 0, 1) := by decide +kernel
theorem dX9_init_5 : decode (mC mX9_init) 5 = .ok (.bipush 40, 2) := by decide +kernel
theorem dX9_init_7 : decode (mC mX9_init) 7 = .ok (.newarray .int, 2) := by decide +kernel
theorem dX9_init_9 : decode (mC mX9_init) 9 = .ok (.putfield 9, 3) := by decide +kernel
theorem dX9_init_12 : decode (mC mX9_init) 12 = .ok (.aload_n 0, 1) := by decide +kernel
theorem dX9_init_13 : decode (mC mX9_init) 13 = .ok (.sipush 2624, 3) := by decide +kernel
theorem dX9_init_16 : decode (mC mX9_init) 16 = .ok (.newarray .int, 2) := by decide +kernel
theorem dX9_init_18 : decode (mC mX9_init) 18 = .ok (.putfield 15, 3) := by decide +kernel
theorem dX9_init_21 : decode (mC mX9_init) 21 = .ok (.aload_n 0, 1) := by decide +kernel
theorem dX9_init_22 : decode (mC mX9_init) 22 = .ok (.sipush 128, 3) := by decide +kernel
theorem dX9_init_25 : decode (mC mX9_init) 25 = .ok (.newarray .int, 2) := by decide +kernel
theorem dX9_init_27 : decode (mC mX9_init) 27 = .ok (.putfield 18, 3) := by decide +kernel
theorem dX9_init_30 : decode (mC mX9_init) 30 = .ok (.return_, 1) := by decide +kernel
theorem dX9_seek_0 : decode (mC mX9_seek) 0 = .ok (.aload_n 0, 1) := by decide +kernel
theorem dX9_seek_1 : decode (mC mX9_seek) 1 = .ok (.iconst (-1), 1) := by decide +kernel
theorem dX9_seek_2 : decode (mC mX9_seek) 2 = .ok (.putfield 21, 3) := by decide +kernel
theorem dX9_seek_5 : decode (mC mX9_seek) 5 = .ok (.aload_n 0, 1) := by decide +kernel
theorem dX9_seek_6 : decode (mC mX9_seek) 6 = .ok (.iconst 0, 1) := by decide +kernel
theorem dX9_seek_7 : decode (mC mX9_seek) 7 = .ok (.putfield 25, 3) := by decide +kernel
theorem dX9_seek_10 : decode (mC mX9_seek) 10 = .ok (.aload_n 1, 1) := by decide +kernel
theorem dX9_seek_11 : decode (mC mX9_seek) 11 = .ok (.iload_n 3, 1) := by decide +kernel
theorem dX9_seek_12 : decode (mC mX9_seek) 12 = .ok (.invokevirtual 28, 3) := by decide +kernel
theorem dX9_seek_15 : decode (mC mX9_seek) 15 = .ok (.astore 6, 2) := by decide +kernel
theorem dX9_seek_17 : decode (mC mX9_seek) 17 = .ok (.aload 6, 2) := by decide +kernel
theorem dX9_seek_19 : decode (mC mX9_seek) 19 = .ok (.ifnonnull 4, 3) := by decide +kernel
theorem dX9_seek_22 : decode (mC mX9_seek) 22 = .ok (.return_, 1) := by decide +kernel
theorem dX9_seek_23 : decode (mC mX9_seek) 23 = .ok (.aload_n 0, 1) := by decide +kernel
theorem dX9_seek_24 : decode (mC mX9_seek) 24 = .ok (.aload_n 1, 1) := by decide +kernel
theorem dX9_seek_25 : decode (mC mX9_seek) 25 = .ok (.putfield 34, 3) := by decide +kernel
theorem dX9_seek_28 : decode (mC mX9_seek) 28 = .ok (.aload_n 0, 1) := by decide +kernel
theorem dX9_seek_29 : decode (mC mX9_seek) 29 = .ok (.aload_n 2, 1) := by decide +kernel
theorem dX9_seek_30 : decode (mC mX9_seek) 30 = .ok (.putfield 38, 3) := by decide +kernel
theorem dX9_seek_33 : decode (mC mX9_seek) 33 = .ok (.aload_n 0, 1) := by decide +kernel
theorem dX9_seek_34 : decode (mC mX9_seek) 34 = .ok (.aload 6, 2) := by decide +kernel
theorem dX9_seek_36 : decode (mC mX9_seek) 36 = .ok (.getfield 41, 3) := by decide +kernel
theorem dX9_seek_39 : decode (mC mX9_seek) 39 = .ok (.putfield 46, 3) := by decide +kernel
theorem dX9_seek_42 : decode (mC mX9_seek) 42 = .ok (.aload_n 0, 1) := by decide +kernel
theorem dX9_seek_43 : decode (mC mX9_seek) 43 = .ok (.aload 6, 2) := by decide +kernel
theorem dX9_seek_45 : decode (mC mX9_seek) 45 = .ok (.getfield 47, 3) := by decide +kernel
theorem dX9_seek_48 : decode (mC mX9_seek) 48 = .ok (.putfield 50, 3) := by decide +kernel
theorem dX9_seek_51 : decode (mC mX9_seek) 51 = .ok (.aload_n 0, 1) := by decide +kernel
theorem dX9_seek_52 : decode (mC mX9_seek) 52 = .ok (.iload 4, 2) := by decide +kernel
theorem dX9_seek_54 : decode (mC mX9_seek) 54 = .ok (.putfield 51, 3) := by decide +kernel
theorem dX9_seek_57 : decode (mC mX9_seek) 57 = .ok (.iload 4, 2) := by decide +kernel
theorem dX9_seek_59 : decode (mC mX9_seek) 59 = .ok (.iload 5, 2) := by decide +kernel
theorem dX9_seek_61 : decode (mC mX9_seek) 61 = .ok (.if_icmp .ne 9, 3) := by decide +kernel
theorem dX9_seek_64 : decode (mC mX9_seek) 64 = .ok (.aload_n 0, 1) := by decide +kernel
theorem dX9_seek_65 : decode (mC mX9_seek) 65 = .ok (.iconst 0, 1) := by decide +kernel
theorem dX9_seek_66 : decode (mC mX9_seek) 66 = .ok (.putfield 21, 3) := by decide +kernel
theorem dX9_seek_69 : decode (mC mX9_seek) 69 = .ok (.return_, 1) := by decide +kernel
theorem dX9_seek_70 : decode (mC mX9_seek) 70 = .ok (.aload_n 0, 1) := by decide +kernel
theorem dX9_seek_71 : decode (mC mX9_seek) 71 = .ok (.iload 4, 2) := by decide +kernel
theorem dX9_seek_73 : decode (mC mX9_seek) 73 = .ok (.iload 5, 2) := by decide +kernel
theorem dX9_seek_75 : decode (mC mX9_seek) 75 = .ok (.invokevirtual 54, 3) := by decide +kernel
theorem dX9_seek_78 : decode (mC mX9_seek) 78 = .ok (.istore 7, 2) := by decide +kernel
theorem dX9_seek_80 : decode (mC mX9_seek) 80 = .ok (.iload 7, 2) := by decide +kernel
theorem dX9_seek_82 : decode (mC mX9_seek) 82 = .ok (.sipush 1000, 3) := by decide +kernel
theorem dX9_seek_85 : decode (mC mX9_seek) 85 = .ok (.if_icmp .ge 17, 3) := by decide +kernel
theorem dX9_seek_88 : decode (mC mX9_seek) 88 = .ok (.aload_n 0, 1) := by decide +kernel
theorem dX9_seek_89 : decode (mC mX9_seek) 89 = .ok (.iload 7, 2) := by decide +kernel
theorem dX9_seek_91 : decode (mC mX9_seek) 91 = .ok (.putfield 21, 3) := by decide +kernel
theorem dX9_seek_94 : decode (mC mX9_seek) 94 = .ok (.aload_n 0, 1) := by decide +kernel
theorem dX9_seek_95 : decode (mC mX9_seek) 95 = .ok (.iload 4, 2) := by decide +kernel
theorem dX9_seek_97 : decode (mC mX9_seek) 97 = .ok (.iload 5, 2) := by decide +kernel
theorem dX9_seek_99 : decode (mC mX9_seek) 99 = .ok (.invokevirtual 58, 3) := by decide +kernel
theorem dX9_seek_102 : decode (mC mX9_seek) 102 = .ok (.return_, 1) := by decide +kernel
theorem dX9_fewestPrints_0 : decode (mC mX9_fewestPrints) 0 = .ok (.aload_n 0, 1) := by decide +kernel
theorem dX9_fewestPrints_1 : decode (mC mX9_fewestPrints) 1 = .ok (.getfield 18, 3) := by decide +kernel
theorem dX9_fewestPrints_4 : decode (mC mX9_fewestPrints) 4 = .ok (.sipush 1000, 3) := by decide +kernel
theorem dX9_fewestPrints_7 : decode (mC mX9_fewestPrints) 7 = .ok (.invokestatic 62, 3) := by decide +kernel
theorem dX9_fewestPrints_10 : decode (mC mX9_fewestPrints) 10 = .ok (.aload_n 0, 1) := by decide +kernel
theorem dX9_fewestPrints_11 : decode (mC mX9_fewestPrints) 11 = .ok (.iconst 0, 1) := by decide +kernel
theorem dX9_fewestPrints_12 : decode (mC mX9_fewestPrints) 12 = .ok (.invokevirtual 68, 3) := by decide +kernel
theorem dX9_fewestPrints_15 : decode (mC mX9_fewestPrints) 15 = .ok (.aload_n 0, 1) := by decide +kernel
theorem dX9_fewestPrints_16 : decode (mC mX9_fewestPrints) 16 = .ok (.getfield 15, 3) := by decide +kernel
theorem dX9_fewestPrints_19 : decode (mC mX9_fewestPrints) 19 = .ok (.iload_n 1, 1) := by decide +kernel
theorem dX9_fewestPrints_20 : decode (mC mX9_fewestPrints) 20 = .ok (.iconst 0, 1) := by decide +kernel
theorem dX9_fewestPrints_21 : decode (mC mX9_fewestPrints) 21 = .ok (.invokestatic 72, 3) := by decide +kernel
theorem dX9_fewestPrints_24 : decode (mC mX9_fewestPrints) 24 = .ok (.sipush 1000, 3) := by decide +kernel
theorem dX9_fewestPrints_27 : decode (mC mX9_fewestPrints) 27 = .ok (.istore_n 3, 1) := by decide +kernel
theorem dX9_fewestPrints_28 : decode (mC mX9_fewestPrints) 28 = .ok (.iconst 1, 1) := by decide +kernel
theorem dX9_fewestPrints_29 : decode (mC mX9_fewestPrints) 29 = .ok (.istore 4, 2) := by decide +kernel
theorem dX9_fewestPrints_31 : decode (mC mX9_fewestPrints) 31 = .ok (.iconst 0, 1) := by decide +kernel
theorem dX9_fewestPrints_32 : decode (mC mX9_fewestPrints) 32 = .ok (.istore 5, 2) := by decide +kernel
theorem dX9_fewestPrints_34 : decode (mC mX9_fewestPrints) 34 = .ok (.iload 5, 2) := by decide +kernel
theorem dX9_fewestPrints_36 : decode (mC mX9_fewestPrints) 36 = .ok (.bipush 40, 2) := by decide +kernel
theorem dX9_fewestPrints_38 : decode (mC mX9_fewestPrints) 38 = .ok (.if_icmp .gt 63, 3) := by decide +kernel
theorem dX9_fewestPrints_41 : decode (mC mX9_fewestPrints) 41 = .ok (.iload 4, 2) := by decide +kernel
theorem dX9_fewestPrints_43 : decode (mC mX9_fewestPrints) 43 = .ok (.ifCond .eq 58, 3) := by decide +kernel
theorem dX9_fewestPrints_46 : decode (mC mX9_fewestPrints) 46 = .ok (.aload_n 0, 1) := by decide +kernel
theorem dX9_fewestPrints_47 : decode (mC mX9_fewestPrints) 47 = .ok (.iload 5, 2) := by decide +kernel
theorem dX9_fewestPrints_49 : decode (mC mX9_fewestPrints) 49 = .ok (.iload_n 2, 1) := by decide +kernel
theorem dX9_fewestPrints_50 : decode (mC mX9_fewestPrints) 50 = .ok (.invokevirtual 76, 3) := by decide +kernel
theorem dX9_fewestPrints_53 : decode (mC mX9_fewestPrints) 53 = .ok (.iload_n 3, 1) := by decide +kernel
theorem dX9_fewestPrints_54 : decode (mC mX9_fewestPrints) 54 = .ok (.if_icmp .ge 17, 3) := by decide +kernel
theorem dX9_fewestPrints_57 : decode (mC mX9_fewestPrints) 57 = .ok (.aload_n 0, 1) := by decide +kernel
theorem dX9_fewestPrints_58 : decode (mC mX9_fewestPrints) 58 = .ok (.iload 5, 2) := by decide +kernel
theorem dX9_fewestPrints_60 : decode (mC mX9_fewestPrints) 60 = .ok (.iload_n 2, 1) := by decide +kernel
theorem dX9_fewestPrints_61 : decode (mC mX9_fewestPrints) 61 = .ok (.invokevirtual 76, 3) := by decide +kernel
theorem dX9_fewestPrints_64 : decode (mC mX9_fewestPrints) 64 = .ok (.istore_n 3, 1) := by decide +kernel
theorem dX9_fewestPrints_65 : decode (mC mX9_fewestPrints) 65 = .ok (.aload_n 0, 1) := by decide +kernel
theorem dX9_fewestPrints_66 : decode (mC mX9_fewestPrints) 66 = .ok (.iload 5, 2) := by decide +kernel
theorem dX9_fewestPrints_68 : decode (mC mX9_fewestPrints) 68 = .ok (.putfield 25, 3) := by decide +kernel
theorem dX9_fewestPrints_71 : decode (mC mX9_fewestPrints) 71 = .ok (.iload 5, 2) := by decide +kernel
theorem dX9_fewestPrints_73 : decode (mC mX9_fewestPrints) 73 = .ok (.bipush 40, 2) := by decide +kernel
theorem dX9_fewestPrints_75 : decode (mC mX9_fewestPrints) 75 = .ok (.if_icmp .ge 17, 3) := by decide +kernel
theorem dX9_fewestPrints_78 : decode (mC mX9_fewestPrints) 78 = .ok (.aload_n 0, 1) := by decide +kernel
theorem dX9_fewestPrints_79 : decode (mC mX9_fewestPrints) 79 = .ok (.iload 5, 2) := by decide +kernel
theorem dX9_fewestPrints_81 : decode (mC mX9_fewestPrints) 81 = .ok (.iload_n 3, 1) := by decide +kernel
theorem dX9_fewestPrints_82 : decode (mC mX9_fewestPrints) 82 = .ok (.invokevirtual 79, 3) := by decide +kernel
theorem dX9_fewestPrints_85 : decode (mC mX9_fewestPrints) 85 = .ok (.ifCond .eq 7, 3) := by decide +kernel
theorem dX9_fewestPrints_88 : decode (mC mX9_fewestPrints) 88 = .ok (.iconst 1, 1) := by decide +kernel
theorem dX9_fewestPrints_89 : decode (mC mX9_fewestPrints) 89 = .ok (.goto 4, 3) := by decide +kernel
theorem dX9_fewestPrints_92 : decode (mC mX9_fewestPrints) 92 = .ok (.iconst 0, 1) := by decide +kernel
theorem dX9_fewestPrints_93 : decode (mC mX9_fewestPrints) 93 = .ok (.istore 4, 2) := by decide +kernel
theorem dX9_fewestPrints_95 : decode (mC mX9_fewestPrints) 95 = .ok (.iinc 5 1, 3) := by decide +kernel
theorem dX9_fewestPrints_98 : decode (mC mX9_fewestPrints) 98 = .ok (.goto (-64), 3) := by decide +kernel
theorem dX9_fewestPrints_101 : decode (mC mX9_fewestPrints) 101 = .ok (.iload_n 3, 1) := by decide +kernel
theorem dX9_fewestPrints_102 : decode (mC mX9_fewestPrints) 102 = .ok (.ireturn, 1) := by decide +kernel
theorem dX9_clearLayer_0 : decode (mC mX9_clearLayer) 0 = .ok (.iconst 0, 1) := by decide +kernel
theorem dX9_clearLayer_1 : decode (mC mX9_clearLayer) 1 = .ok (.istore_n 2, 1) := by decide +kernel
theorem dX9_clearLayer_2 : decode (mC mX9_clearLayer) 2 = .ok (.iload_n 2, 1) := by decide +kernel
theorem dX9_clearLayer_3 : decode (mC mX9_clearLayer) 3 = .ok (.bipush 64, 2) := by decide +kernel
theorem dX9_clearLayer_5 : decode (mC mX9_clearLayer) 5 = .ok (.if_icmp .ge 25, 3) := by decide +kernel
theorem dX9_clearLayer_8 : decode (mC mX9_clearLayer) 8 = .ok (.aload_n 0, 1) := by decide +kernel
theorem dX9_clearLayer_9 : decode (mC mX9_clearLayer) 9 = .ok (.getfield 15, 3) := by decide +kernel
theorem dX9_clearLayer_12 : decode (mC mX9_clearLayer) 12 = .ok (.iload_n 1, 1) := by decide +kernel
theorem dX9_clearLayer_13 : decode (mC mX9_clearLayer) 13 = .ok (.bipush 64, 2) := by decide +kernel
theorem dX9_clearLayer_15 : decode (mC mX9_clearLayer) 15 = .ok (.imul, 1) := by decide +kernel
theorem dX9_clearLayer_16 : decode (mC mX9_clearLayer) 16 = .ok (.iload_n 2, 1) := by decide +kernel
theorem dX9_clearLayer_17 : decode (mC mX9_clearLayer) 17 = .ok (.iadd, 1) := by decide +kernel
theorem dX9_clearLayer_18 : decode (mC mX9_clearLayer) 18 = .ok (.sipush 1000, 3) := by decide +kernel
theorem dX9_clearLayer_21 : decode (mC mX9_clearLayer) 21 = .ok (.invokestatic 72, 3) := by decide +kernel
theorem dX9_clearLayer_24 : decode (mC mX9_clearLayer) 24 = .ok (.iinc 2 1, 3) := by decide +kernel
theorem dX9_clearLayer_27 : decode (mC mX9_clearLayer) 27 = .ok (.goto (-25), 3) := by decide +kernel
theorem dX9_clearLayer_30 : decode (mC mX9_clearLayer) 30 = .ok (.return_, 1) := by decide +kernel
theorem dX9_costAt_0 : decode (mC mX9_costAt) 0 = .ok (.iload_n 2, 1) := by decide +kernel
theorem dX9_costAt_1 : decode (mC mX9_costAt) 1 = .ok (.iconst (-1), 1) := by decide +kernel
theorem dX9_costAt_2 : decode (mC mX9_costAt) 2 = .ok (.if_icmp .ne 9, 3) := by decide +kernel
theorem dX9_costAt_5 : decode (mC mX9_costAt) 5 = .ok (.sipush 1000, 3) := by decide +kernel
theorem dX9_costAt_8 : decode (mC mX9_costAt) 8 = .ok (.goto 16, 3) := by decide +kernel
theorem dX9_costAt_11 : decode (mC mX9_costAt) 11 = .ok (.aload_n 0, 1) := by decide +kernel
theorem dX9_costAt_12 : decode (mC mX9_costAt) 12 = .ok (.getfield 15, 3) := by decide +kernel
theorem dX9_costAt_15 : decode (mC mX9_costAt) 15 = .ok (.iload_n 1, 1) := by decide +kernel
theorem dX9_costAt_16 : decode (mC mX9_costAt) 16 = .ok (.bipush 64, 2) := by decide +kernel
theorem dX9_costAt_18 : decode (mC mX9_costAt) 18 = .ok (.imul, 1) := by decide +kernel
theorem dX9_costAt_19 : decode (mC mX9_costAt) 19 = .ok (.iload_n 2, 1) := by decide +kernel
theorem dX9_costAt_20 : decode (mC mX9_costAt) 20 = .ok (.iadd, 1) := by decide +kernel
theorem dX9_costAt_21 : decode (mC mX9_costAt) 21 = .ok (.invokestatic 83, 3) := by decide +kernel
theorem dX9_costAt_24 : decode (mC mX9_costAt) 24 = .ok (.ireturn, 1) := by decide +kernel
theorem dX9_spread_0 : decode (mC mX9_spread) 0 = .ok (.aload_n 0, 1) := by decide +kernel
theorem dX9_spread_1 : decode (mC mX9_spread) 1 = .ok (.iload_n 1, 1) := by decide +kernel
theorem dX9_spread_2 : decode (mC mX9_spread) 2 = .ok (.iconst 1, 1) := by decide +kernel
theorem dX9_spread_3 : decode (mC mX9_spread) 3 = .ok (.iadd, 1) := by decide +kernel
theorem dX9_spread_4 : decode (mC mX9_spread) 4 = .ok (.invokevirtual 68, 3) := by decide +kernel
theorem dX9_spread_7 : decode (mC mX9_spread) 7 = .ok (.iconst 0, 1) := by decide +kernel
theorem dX9_spread_8 : decode (mC mX9_spread) 8 = .ok (.istore_n 3, 1) := by decide +kernel
theorem dX9_spread_9 : decode (mC mX9_spread) 9 = .ok (.iconst 0, 1) := by decide +kernel
theorem dX9_spread_10 : decode (mC mX9_spread) 10 = .ok (.istore 4, 2) := by decide +kernel
theorem dX9_spread_12 : decode (mC mX9_spread) 12 = .ok (.iload 4, 2) := by decide +kernel
theorem dX9_spread_14 : decode (mC mX9_spread) 14 = .ok (.aload_n 0, 1) := by decide +kernel
theorem dX9_spread_15 : decode (mC mX9_spread) 15 = .ok (.getfield 34, 3) := by decide +kernel
theorem dX9_spread_18 : decode (mC mX9_spread) 18 = .ok (.invokevirtual 87, 3) := by decide +kernel
theorem dX9_spread_21 : decode (mC mX9_spread) 21 = .ok (.if_icmp .ge 75, 3) := by decide +kernel
theorem dX9_spread_24 : decode (mC mX9_spread) 24 = .ok (.aload_n 0, 1) := by decide +kernel
theorem dX9_spread_25 : decode (mC mX9_spread) 25 = .ok (.iload_n 1, 1) := by decide +kernel
theorem dX9_spread_26 : decode (mC mX9_spread) 26 = .ok (.iload 4, 2) := by decide +kernel
theorem dX9_spread_28 : decode (mC mX9_spread) 28 = .ok (.invokevirtual 76, 3) := by decide +kernel
theorem dX9_spread_31 : decode (mC mX9_spread) 31 = .ok (.istore 5, 2) := by decide +kernel
theorem dX9_spread_33 : decode (mC mX9_spread) 33 = .ok (.iload_n 1, 1) := by decide +kernel
theorem dX9_spread_34 : decode (mC mX9_spread) 34 = .ok (.iconst 2, 1) := by decide +kernel
theorem dX9_spread_35 : decode (mC mX9_spread) 35 = .ok (.irem, 1) := by decide +kernel
theorem dX9_spread_36 : decode (mC mX9_spread) 36 = .ok (.bipush 64, 2) := by decide +kernel
theorem dX9_spread_38 : decode (mC mX9_spread) 38 = .ok (.imul, 1) := by decide +kernel
theorem dX9_spread_39 : decode (mC mX9_spread) 39 = .ok (.iload 4, 2) := by decide +kernel
theorem dX9_spread_41 : decode (mC mX9_spread) 41 = .ok (.iadd, 1) := by decide +kernel
theorem dX9_spread_42 : decode (mC mX9_spread) 42 = .ok (.istore 6, 2) := by decide +kernel
theorem dX9_spread_44 : decode (mC mX9_spread) 44 = .ok (.iload 5, 2) := by decide +kernel
theorem dX9_spread_46 : decode (mC mX9_spread) 46 = .ok (.iload_n 2, 1) := by decide +kernel
theorem dX9_spread_47 : decode (mC mX9_spread) 47 = .ok (.if_icmp .ge 43, 3) := by decide +kernel
theorem dX9_spread_50 : decode (mC mX9_spread) 50 = .ok (.iload 5, 2) := by decide +kernel
theorem dX9_spread_52 : decode (mC mX9_spread) 52 = .ok (.aload_n 0, 1) := by decide +kernel
theorem dX9_spread_53 : decode (mC mX9_spread) 53 = .ok (.getfield 18, 3) := by decide +kernel
theorem dX9_spread_56 : decode (mC mX9_spread) 56 = .ok (.iload 6, 2) := by decide +kernel
theorem dX9_spread_58 : decode (mC mX9_spread) 58 = .ok (.invokestatic 83, 3) := by decide +kernel
theorem dX9_spread_61 : decode (mC mX9_spread) 61 = .ok (.if_icmp .ge 29, 3) := by decide +kernel
theorem dX9_spread_64 : decode (mC mX9_spread) 64 = .ok (.iconst 1, 1) := by decide +kernel
theorem dX9_spread_65 : decode (mC mX9_spread) 65 = .ok (.istore_n 3, 1) := by decide +kernel
theorem dX9_spread_66 : decode (mC mX9_spread) 66 = .ok (.iload_n 1, 1) := by decide +kernel
theorem dX9_spread_67 : decode (mC mX9_spread) 67 = .ok (.ifCond .le 14, 3) := by decide +kernel
theorem dX9_spread_70 : decode (mC mX9_spread) 70 = .ok (.aload_n 0, 1) := by decide +kernel
theorem dX9_spread_71 : decode (mC mX9_spread) 71 = .ok (.getfield 18, 3) := by decide +kernel
theorem dX9_spread_74 : decode (mC mX9_spread) 74 = .ok (.iload 6, 2) := by decide +kernel
theorem dX9_spread_76 : decode (mC mX9_spread) 76 = .ok (.iload 5, 2) := by decide +kernel
theorem dX9_spread_78 : decode (mC mX9_spread) 78 = .ok (.invokestatic 72, 3) := by decide +kernel
theorem dX9_spread_81 : decode (mC mX9_spread) 81 = .ok (.aload_n 0, 1) := by decide +kernel
theorem dX9_spread_82 : decode (mC mX9_spread) 82 = .ok (.iload_n 1, 1) := by decide +kernel
theorem dX9_spread_83 : decode (mC mX9_spread) 83 = .ok (.iload 4, 2) := by decide +kernel
theorem dX9_spread_85 : decode (mC mX9_spread) 85 = .ok (.iload 5, 2) := by decide +kernel
theorem dX9_spread_87 : decode (mC mX9_spread) 87 = .ok (.invokevirtual 91, 3) := by decide +kernel
theorem dX9_spread_90 : decode (mC mX9_spread) 90 = .ok (.iinc 4 1, 3) := by decide +kernel
theorem dX9_spread_93 : decode (mC mX9_spread) 93 = .ok (.goto (-81), 3) := by decide +kernel
theorem dX9_spread_96 : decode (mC mX9_spread) 96 = .ok (.iload_n 3, 1) := by decide +kernel
theorem dX9_spread_97 : decode (mC mX9_spread) 97 = .ok (.ireturn, 1) := by decide +kernel
theorem dX9_reachFrom_0 : decode (mC mX9_reachFrom) 0 = .ok (.iconst 0, 1) := by decide +kernel
theorem dX9_reachFrom_1 : decode (mC mX9_reachFrom) 1 = .ok (.istore 4, 2) := by decide +kernel
theorem dX9_reachFrom_3 : decode (mC mX9_reachFrom) 3 = .ok (.iload 4, 2) := by decide +kernel
theorem dX9_reachFrom_5 : decode (mC mX9_reachFrom) 5 = .ok (.iconst 4, 1) := by decide +kernel
theorem dX9_reachFrom_6 : decode (mC mX9_reachFrom) 6 = .ok (.if_icmp .ge 75, 3) := by decide +kernel
theorem dX9_reachFrom_9 : decode (mC mX9_reachFrom) 9 = .ok (.aload_n 0, 1) := by decide +kernel
theorem dX9_reachFrom_10 : decode (mC mX9_reachFrom) 10 = .ok (.getfield 34, 3) := by decide +kernel
theorem dX9_reachFrom_13 : decode (mC mX9_reachFrom) 13 = .ok (.iload_n 2, 1) := by decide +kernel
theorem dX9_reachFrom_14 : decode (mC mX9_reachFrom) 14 = .ok (.iload 4, 2) := by decide +kernel
theorem dX9_reachFrom_16 : decode (mC mX9_reachFrom) 16 = .ok (.aload_n 0, 1) := by decide +kernel
theorem dX9_reachFrom_17 : decode (mC mX9_reachFrom) 17 = .ok (.getfield 50, 3) := by decide +kernel
theorem dX9_reachFrom_20 : decode (mC mX9_reachFrom) 20 = .ok (.invokevirtual 95, 3) := by decide +kernel
theorem dX9_reachFrom_23 : decode (mC mX9_reachFrom) 23 = .ok (.istore 5, 2) := by decide +kernel
theorem dX9_reachFrom_25 : decode (mC mX9_reachFrom) 25 = .ok (.iload 5, 2) := by decide +kernel
theorem dX9_reachFrom_27 : decode (mC mX9_reachFrom) 27 = .ok (.iconst (-1), 1) := by decide +kernel
theorem dX9_reachFrom_28 : decode (mC mX9_reachFrom) 28 = .ok (.if_icmp .eq 47, 3) := by decide +kernel
theorem dX9_reachFrom_31 : decode (mC mX9_reachFrom) 31 = .ok (.aload_n 0, 1) := by decide +kernel
theorem dX9_reachFrom_32 : decode (mC mX9_reachFrom) 32 = .ok (.iload_n 1, 1) := by decide +kernel
theorem dX9_reachFrom_33 : decode (mC mX9_reachFrom) 33 = .ok (.iconst 1, 1) := by decide +kernel
theorem dX9_reachFrom_34 : decode (mC mX9_reachFrom) 34 = .ok (.iadd, 1) := by decide +kernel
theorem dX9_reachFrom_35 : decode (mC mX9_reachFrom) 35 = .ok (.iload 5, 2) := by decide +kernel
theorem dX9_reachFrom_37 : decode (mC mX9_reachFrom) 37 = .ok (.invokevirtual 76, 3) := by decide +kernel
theorem dX9_reachFrom_40 : decode (mC mX9_reachFrom) 40 = .ok (.iload_n 3, 1) := by decide +kernel
theorem dX9_reachFrom_41 : decode (mC mX9_reachFrom) 41 = .ok (.aload_n 0, 1) := by decide +kernel
theorem dX9_reachFrom_42 : decode (mC mX9_reachFrom) 42 = .ok (.iload_n 1, 1) := by decide +kernel
theorem dX9_reachFrom_43 : decode (mC mX9_reachFrom) 43 = .ok (.iload_n 2, 1) := by decide +kernel
theorem dX9_reachFrom_44 : decode (mC mX9_reachFrom) 44 = .ok (.iload 4, 2) := by decide +kernel
theorem dX9_reachFrom_46 : decode (mC mX9_reachFrom) 46 = .ok (.iload 5, 2) := by decide +kernel
theorem dX9_reachFrom_48 : decode (mC mX9_reachFrom) 48 = .ok (.invokevirtual 99, 3) := by decide +kernel
theorem dX9_reachFrom_51 : decode (mC mX9_reachFrom) 51 = .ok (.iadd, 1) := by decide +kernel
theorem dX9_reachFrom_52 : decode (mC mX9_reachFrom) 52 = .ok (.invokestatic 103, 3) := by decide +kernel
theorem dX9_reachFrom_55 : decode (mC mX9_reachFrom) 55 = .ok (.istore 6, 2) := by decide +kernel
theorem dX9_reachFrom_57 : decode (mC mX9_reachFrom) 57 = .ok (.aload_n 0, 1) := by decide +kernel
theorem dX9_reachFrom_58 : decode (mC mX9_reachFrom) 58 = .ok (.getfield 15, 3) := by decide +kernel
theorem dX9_reachFrom_61 : decode (mC mX9_reachFrom) 61 = .ok (.iload_n 1, 1) := by decide +kernel
theorem dX9_reachFrom_62 : decode (mC mX9_reachFrom) 62 = .ok (.iconst 1, 1) := by decide +kernel
theorem dX9_reachFrom_63 : decode (mC mX9_reachFrom) 63 = .ok (.iadd, 1) := by decide +kernel
theorem dX9_reachFrom_64 : decode (mC mX9_reachFrom) 64 = .ok (.bipush 64, 2) := by decide +kernel
theorem dX9_reachFrom_66 : decode (mC mX9_reachFrom) 66 = .ok (.imul, 1) := by decide +kernel
theorem dX9_reachFrom_67 : decode (mC mX9_reachFrom) 67 = .ok (.iload 5, 2) := by decide +kernel
theorem dX9_reachFrom_69 : decode (mC mX9_reachFrom) 69 = .ok (.iadd, 1) := by decide +kernel
theorem dX9_reachFrom_70 : decode (mC mX9_reachFrom) 70 = .ok (.iload 6, 2) := by decide +kernel
theorem dX9_reachFrom_72 : decode (mC mX9_reachFrom) 72 = .ok (.invokestatic 72, 3) := by decide +kernel
theorem dX9_reachFrom_75 : decode (mC mX9_reachFrom) 75 = .ok (.iinc 4 1, 3) := by decide +kernel
theorem dX9_reachFrom_78 : decode (mC mX9_reachFrom) 78 = .ok (.goto (-75), 3) := by decide +kernel
theorem dX9_reachFrom_81 : decode (mC mX9_reachFrom) 81 = .ok (.return_, 1) := by decide +kernel
theorem dX9_priceOf_0 : decode (mC mX9_priceOf) 0 = .ok (.aload_n 0, 1) := by decide +kernel
theorem dX9_priceOf_1 : decode (mC mX9_priceOf) 1 = .ok (.getfield 38, 3) := by decide +kernel
theorem dX9_priceOf_4 : decode (mC mX9_priceOf) 4 = .ok (.iload 4, 2) := by decide +kernel
theorem dX9_priceOf_6 : decode (mC mX9_priceOf) 6 = .ok (.invokestatic 83, 3) := by decide +kernel
theorem dX9_priceOf_9 : decode (mC mX9_priceOf) 9 = .ok (.aload_n 0, 1) := by decide +kernel
theorem dX9_priceOf_10 : decode (mC mX9_priceOf) 10 = .ok (.getfield 46, 3) := by decide +kernel
theorem dX9_priceOf_13 : decode (mC mX9_priceOf) 13 = .ok (.iload_n 1, 1) := by decide +kernel
theorem dX9_priceOf_14 : decode (mC mX9_priceOf) 14 = .ok (.iconst 1, 1) := by decide +kernel
theorem dX9_priceOf_15 : decode (mC mX9_priceOf) 15 = .ok (.iadd, 1) := by decide +kernel
theorem dX9_priceOf_16 : decode (mC mX9_priceOf) 16 = .ok (.iconst 2, 1) := by decide +kernel
theorem dX9_priceOf_17 : decode (mC mX9_priceOf) 17 = .ok (.irem, 1) := by decide +kernel
theorem dX9_priceOf_18 : decode (mC mX9_priceOf) 18 = .ok (.iload_n 3, 1) := by decide +kernel
theorem dX9_priceOf_19 : decode (mC mX9_priceOf) 19 = .ok (.invokestatic 108, 3) := by decide +kernel
theorem dX9_priceOf_22 : decode (mC mX9_priceOf) 22 = .ok (.if_icmp .ne 7, 3) := by decide +kernel
theorem dX9_priceOf_25 : decode (mC mX9_priceOf) 25 = .ok (.iconst 0, 1) := by decide +kernel
theorem dX9_priceOf_26 : decode (mC mX9_priceOf) 26 = .ok (.goto 4, 3) := by decide +kernel
theorem dX9_priceOf_29 : decode (mC mX9_priceOf) 29 = .ok (.iconst 1, 1) := by decide +kernel
theorem dX9_priceOf_30 : decode (mC mX9_priceOf) 30 = .ok (.istore 5, 2) := by decide +kernel
theorem dX9_priceOf_32 : decode (mC mX9_priceOf) 32 = .ok (.iload_n 1, 1) := by decide +kernel
theorem dX9_priceOf_33 : decode (mC mX9_priceOf) 33 = .ok (.ifCond .ne 30, 3) := by decide +kernel
theorem dX9_priceOf_36 : decode (mC mX9_priceOf) 36 = .ok (.aload_n 0, 1) := by decide +kernel
theorem dX9_priceOf_37 : decode (mC mX9_priceOf) 37 = .ok (.getfield 38, 3) := by decide +kernel
theorem dX9_priceOf_40 : decode (mC mX9_priceOf) 40 = .ok (.iload_n 2, 1) := by decide +kernel
theorem dX9_priceOf_41 : decode (mC mX9_priceOf) 41 = .ok (.invokestatic 83, 3) := by decide +kernel
theorem dX9_priceOf_44 : decode (mC mX9_priceOf) 44 = .ok (.aload_n 0, 1) := by decide +kernel
theorem dX9_priceOf_45 : decode (mC mX9_priceOf) 45 = .ok (.getfield 46, 3) := by decide +kernel
theorem dX9_priceOf_48 : decode (mC mX9_priceOf) 48 = .ok (.iconst 0, 1) := by decide +kernel
theorem dX9_priceOf_49 : decode (mC mX9_priceOf) 49 = .ok (.iload_n 3, 1) := by decide +kernel
theorem dX9_priceOf_50 : decode (mC mX9_priceOf) 50 = .ok (.invokestatic 108, 3) := by decide +kernel
theorem dX9_priceOf_53 : decode (mC mX9_priceOf) 53 = .ok (.if_icmp .eq 10, 3) := by decide +kernel
theorem dX9_priceOf_56 : decode (mC mX9_priceOf) 56 = .ok (.iload 5, 2) := by decide +kernel
theorem dX9_priceOf_58 : decode (mC mX9_priceOf) 58 = .ok (.iconst 1, 1) := by decide +kernel
theorem dX9_priceOf_59 : decode (mC mX9_priceOf) 59 = .ok (.iadd, 1) := by decide +kernel
theorem dX9_priceOf_60 : decode (mC mX9_priceOf) 60 = .ok (.goto 5, 3) := by decide +kernel
theorem dX9_priceOf_63 : decode (mC mX9_priceOf) 63 = .ok (.iload 5, 2) := by decide +kernel
theorem dX9_priceOf_65 : decode (mC mX9_priceOf) 65 = .ok (.ireturn, 1) := by decide +kernel
theorem dX9_trace_0 : decode (mC mX9_trace) 0 = .ok (.aload_n 0, 1) := by decide +kernel
theorem dX9_trace_1 : decode (mC mX9_trace) 1 = .ok (.aload_n 0, 1) := by decide +kernel
theorem dX9_trace_2 : decode (mC mX9_trace) 2 = .ok (.getfield 25, 3) := by decide +kernel
theorem dX9_trace_5 : decode (mC mX9_trace) 5 = .ok (.iload_n 2, 1) := by decide +kernel
theorem dX9_trace_6 : decode (mC mX9_trace) 6 = .ok (.invokevirtual 76, 3) := by decide +kernel
theorem dX9_trace_9 : decode (mC mX9_trace) 9 = .ok (.istore_n 3, 1) := by decide +kernel
theorem dX9_trace_10 : decode (mC mX9_trace) 10 = .ok (.aload_n 0, 1) := by decide +kernel
theorem dX9_trace_11 : decode (mC mX9_trace) 11 = .ok (.aload_n 0, 1) := by decide +kernel
theorem dX9_trace_12 : decode (mC mX9_trace) 12 = .ok (.getfield 25, 3) := by decide +kernel
theorem dX9_trace_15 : decode (mC mX9_trace) 15 = .ok (.invokevirtual 68, 3) := by decide +kernel
theorem dX9_trace_18 : decode (mC mX9_trace) 18 = .ok (.aload_n 0, 1) := by decide +kernel
theorem dX9_trace_19 : decode (mC mX9_trace) 19 = .ok (.getfield 15, 3) := by decide +kernel
theorem dX9_trace_22 : decode (mC mX9_trace) 22 = .ok (.aload_n 0, 1) := by decide +kernel
theorem dX9_trace_23 : decode (mC mX9_trace) 23 = .ok (.getfield 25, 3) := by decide +kernel
theorem dX9_trace_26 : decode (mC mX9_trace) 26 = .ok (.bipush 64, 2) := by decide +kernel
theorem dX9_trace_28 : decode (mC mX9_trace) 28 = .ok (.imul, 1) := by decide +kernel
theorem dX9_trace_29 : decode (mC mX9_trace) 29 = .ok (.iload_n 2, 1) := by decide +kernel
theorem dX9_trace_30 : decode (mC mX9_trace) 30 = .ok (.iadd, 1) := by decide +kernel
theorem dX9_trace_31 : decode (mC mX9_trace) 31 = .ok (.iload_n 3, 1) := by decide +kernel
theorem dX9_trace_32 : decode (mC mX9_trace) 32 = .ok (.invokestatic 72, 3) := by decide +kernel
theorem dX9_trace_35 : decode (mC mX9_trace) 35 = .ok (.aload_n 0, 1) := by decide +kernel
theorem dX9_trace_36 : decode (mC mX9_trace) 36 = .ok (.getfield 25, 3) := by decide +kernel
theorem dX9_trace_39 : decode (mC mX9_trace) 39 = .ok (.iconst 1, 1) := by decide +kernel
theorem dX9_trace_40 : decode (mC mX9_trace) 40 = .ok (.isub, 1) := by decide +kernel
theorem dX9_trace_41 : decode (mC mX9_trace) 41 = .ok (.istore 4, 2) := by decide +kernel
theorem dX9_trace_43 : decode (mC mX9_trace) 43 = .ok (.iload 4, 2) := by decide +kernel
theorem dX9_trace_45 : decode (mC mX9_trace) 45 = .ok (.ifCond .le 15, 3) := by decide +kernel
theorem dX9_trace_48 : decode (mC mX9_trace) 48 = .ok (.aload_n 0, 1) := by decide +kernel
theorem dX9_trace_49 : decode (mC mX9_trace) 49 = .ok (.iload 4, 2) := by decide +kernel
theorem dX9_trace_51 : decode (mC mX9_trace) 51 = .ok (.invokevirtual 111, 3) := by decide +kernel
theorem dX9_trace_54 : decode (mC mX9_trace) 54 = .ok (.iinc 4 (-1), 3) := by decide +kernel
theorem dX9_trace_57 : decode (mC mX9_trace) 57 = .ok (.goto (-14), 3) := by decide +kernel
theorem dX9_trace_60 : decode (mC mX9_trace) 60 = .ok (.iload_n 1, 1) := by decide +kernel
theorem dX9_trace_61 : decode (mC mX9_trace) 61 = .ok (.istore 4, 2) := by decide +kernel
theorem dX9_trace_63 : decode (mC mX9_trace) 63 = .ok (.iconst 0, 1) := by decide +kernel
theorem dX9_trace_64 : decode (mC mX9_trace) 64 = .ok (.istore 5, 2) := by decide +kernel
theorem dX9_trace_66 : decode (mC mX9_trace) 66 = .ok (.iload 5, 2) := by decide +kernel
theorem dX9_trace_68 : decode (mC mX9_trace) 68 = .ok (.aload_n 0, 1) := by decide +kernel
theorem dX9_trace_69 : decode (mC mX9_trace) 69 = .ok (.getfield 25, 3) := by decide +kernel
theorem dX9_trace_72 : decode (mC mX9_trace) 72 = .ok (.if_icmp .ge 47, 3) := by decide +kernel
theorem dX9_trace_75 : decode (mC mX9_trace) 75 = .ok (.aload_n 0, 1) := by decide +kernel
theorem dX9_trace_76 : decode (mC mX9_trace) 76 = .ok (.iload 5, 2) := by decide +kernel
theorem dX9_trace_78 : decode (mC mX9_trace) 78 = .ok (.iload 4, 2) := by decide +kernel
theorem dX9_trace_80 : decode (mC mX9_trace) 80 = .ok (.invokevirtual 114, 3) := by decide +kernel
theorem dX9_trace_83 : decode (mC mX9_trace) 83 = .ok (.istore 6, 2) := by decide +kernel
theorem dX9_trace_85 : decode (mC mX9_trace) 85 = .ok (.aload_n 0, 1) := by decide +kernel
theorem dX9_trace_86 : decode (mC mX9_trace) 86 = .ok (.getfield 9, 3) := by decide +kernel
theorem dX9_trace_89 : decode (mC mX9_trace) 89 = .ok (.iload 5, 2) := by decide +kernel
theorem dX9_trace_91 : decode (mC mX9_trace) 91 = .ok (.iload 6, 2) := by decide +kernel
theorem dX9_trace_93 : decode (mC mX9_trace) 93 = .ok (.invokestatic 72, 3) := by decide +kernel
theorem dX9_trace_96 : decode (mC mX9_trace) 96 = .ok (.aload_n 0, 1) := by decide +kernel
theorem dX9_trace_97 : decode (mC mX9_trace) 97 = .ok (.getfield 34, 3) := by decide +kernel
theorem dX9_trace_100 : decode (mC mX9_trace) 100 = .ok (.iload 4, 2) := by decide +kernel
theorem dX9_trace_102 : decode (mC mX9_trace) 102 = .ok (.iload 6, 2) := by decide +kernel
theorem dX9_trace_104 : decode (mC mX9_trace) 104 = .ok (.aload_n 0, 1) := by decide +kernel
theorem dX9_trace_105 : decode (mC mX9_trace) 105 = .ok (.getfield 50, 3) := by decide +kernel
theorem dX9_trace_108 : decode (mC mX9_trace) 108 = .ok (.invokevirtual 95, 3) := by decide +kernel
theorem dX9_trace_111 : decode (mC mX9_trace) 111 = .ok (.istore 4, 2) := by decide +kernel
theorem dX9_trace_113 : decode (mC mX9_trace) 113 = .ok (.iinc 5 1, 3) := by decide +kernel
theorem dX9_trace_116 : decode (mC mX9_trace) 116 = .ok (.goto (-50), 3) := by decide +kernel
theorem dX9_trace_119 : decode (mC mX9_trace) 119 = .ok (.return_, 1) := by decide +kernel
theorem dX9_strikeLost_0 : decode (mC mX9_strikeLost) 0 = .ok (.iconst 0, 1) := by decide +kernel
theorem dX9_strikeLost_1 : decode (mC mX9_strikeLost) 1 = .ok (.istore_n 2, 1) := by decide +kernel
theorem dX9_strikeLost_2 : decode (mC mX9_strikeLost) 2 = .ok (.iload_n 2, 1) := by decide +kernel
theorem dX9_strikeLost_3 : decode (mC mX9_strikeLost) 3 = .ok (.aload_n 0, 1) := by decide +kernel
theorem dX9_strikeLost_4 : decode (mC mX9_strikeLost) 4 = .ok (.getfield 34, 3) := by decide +kernel
theorem dX9_strikeLost_7 : decode (mC mX9_strikeLost) 7 = .ok (.invokevirtual 87, 3) := by decide +kernel
theorem dX9_strikeLost_10 : decode (mC mX9_strikeLost) 10 = .ok (.if_icmp .ge 47, 3) := by decide +kernel
theorem dX9_strikeLost_13 : decode (mC mX9_strikeLost) 13 = .ok (.aload_n 0, 1) := by decide +kernel
theorem dX9_strikeLost_14 : decode (mC mX9_strikeLost) 14 = .ok (.iload_n 1, 1) := by decide +kernel
theorem dX9_strikeLost_15 : decode (mC mX9_strikeLost) 15 = .ok (.iload_n 2, 1) := by decide +kernel
theorem dX9_strikeLost_16 : decode (mC mX9_strikeLost) 16 = .ok (.invokevirtual 76, 3) := by decide +kernel
theorem dX9_strikeLost_19 : decode (mC mX9_strikeLost) 19 = .ok (.sipush 1000, 3) := by decide +kernel
theorem dX9_strikeLost_22 : decode (mC mX9_strikeLost) 22 = .ok (.if_icmp .ge 29, 3) := by decide +kernel
theorem dX9_strikeLost_25 : decode (mC mX9_strikeLost) 25 = .ok (.aload_n 0, 1) := by decide +kernel
theorem dX9_strikeLost_26 : decode (mC mX9_strikeLost) 26 = .ok (.iload_n 1, 1) := by decide +kernel
theorem dX9_strikeLost_27 : decode (mC mX9_strikeLost) 27 = .ok (.iload_n 2, 1) := by decide +kernel
theorem dX9_strikeLost_28 : decode (mC mX9_strikeLost) 28 = .ok (.invokevirtual 114, 3) := by decide +kernel
theorem dX9_strikeLost_31 : decode (mC mX9_strikeLost) 31 = .ok (.iconst (-1), 1) := by decide +kernel
theorem dX9_strikeLost_32 : decode (mC mX9_strikeLost) 32 = .ok (.if_icmp .ne 19, 3) := by decide +kernel
theorem dX9_strikeLost_35 : decode (mC mX9_strikeLost) 35 = .ok (.aload_n 0, 1) := by decide +kernel
theorem dX9_strikeLost_36 : decode (mC mX9_strikeLost) 36 = .ok (.getfield 15, 3) := by decide +kernel
theorem dX9_strikeLost_39 : decode (mC mX9_strikeLost) 39 = .ok (.iload_n 1, 1) := by decide +kernel
theorem dX9_strikeLost_40 : decode (mC mX9_strikeLost) 40 = .ok (.bipush 64, 2) := by decide +kernel
theorem dX9_strikeLost_42 : decode (mC mX9_strikeLost) 42 = .ok (.imul, 1) := by decide +kernel
theorem dX9_strikeLost_43 : decode (mC mX9_strikeLost) 43 = .ok (.iload_n 2, 1) := by decide +kernel
theorem dX9_strikeLost_44 : decode (mC mX9_strikeLost) 44 = .ok (.iadd, 1) := by decide +kernel
theorem dX9_strikeLost_45 : decode (mC mX9_strikeLost) 45 = .ok (.sipush 1000, 3) := by decide +kernel
theorem dX9_strikeLost_48 : decode (mC mX9_strikeLost) 48 = .ok (.invokestatic 72, 3) := by decide +kernel
theorem dX9_strikeLost_51 : decode (mC mX9_strikeLost) 51 = .ok (.iinc 2 1, 3) := by decide +kernel
theorem dX9_strikeLost_54 : decode (mC mX9_strikeLost) 54 = .ok (.goto (-52), 3) := by decide +kernel
theorem dX9_strikeLost_57 : decode (mC mX9_strikeLost) 57 = .ok (.return_, 1) := by decide +kernel
theorem dX9_sideOn_0 : decode (mC mX9_sideOn) 0 = .ok (.iconst 0, 1) := by decide +kernel
theorem dX9_sideOn_1 : decode (mC mX9_sideOn) 1 = .ok (.istore_n 3, 1) := by decide +kernel
theorem dX9_sideOn_2 : decode (mC mX9_sideOn) 2 = .ok (.iload_n 3, 1) := by decide +kernel
theorem dX9_sideOn_3 : decode (mC mX9_sideOn) 3 = .ok (.iconst 4, 1) := by decide +kernel
theorem dX9_sideOn_4 : decode (mC mX9_sideOn) 4 = .ok (.if_icmp .ge 66, 3) := by decide +kernel
theorem dX9_sideOn_7 : decode (mC mX9_sideOn) 7 = .ok (.aload_n 0, 1) := by decide +kernel
theorem dX9_sideOn_8 : decode (mC mX9_sideOn) 8 = .ok (.getfield 34, 3) := by decide +kernel
theorem dX9_sideOn_11 : decode (mC mX9_sideOn) 11 = .ok (.iload_n 2, 1) := by decide +kernel
theorem dX9_sideOn_12 : decode (mC mX9_sideOn) 12 = .ok (.iload_n 3, 1) := by decide +kernel
theorem dX9_sideOn_13 : decode (mC mX9_sideOn) 13 = .ok (.aload_n 0, 1) := by decide +kernel
theorem dX9_sideOn_14 : decode (mC mX9_sideOn) 14 = .ok (.getfield 50, 3) := by decide +kernel
theorem dX9_sideOn_17 : decode (mC mX9_sideOn) 17 = .ok (.invokevirtual 95, 3) := by decide +kernel
theorem dX9_sideOn_20 : decode (mC mX9_sideOn) 20 = .ok (.istore 4, 2) := by decide +kernel
theorem dX9_sideOn_22 : decode (mC mX9_sideOn) 22 = .ok (.aload_n 0, 1) := by decide +kernel
theorem dX9_sideOn_23 : decode (mC mX9_sideOn) 23 = .ok (.iload_n 1, 1) := by decide +kernel
theorem dX9_sideOn_24 : decode (mC mX9_sideOn) 24 = .ok (.iconst 1, 1) := by decide +kernel
theorem dX9_sideOn_25 : decode (mC mX9_sideOn) 25 = .ok (.iadd, 1) := by decide +kernel
theorem dX9_sideOn_26 : decode (mC mX9_sideOn) 26 = .ok (.iload 4, 2) := by decide +kernel
theorem dX9_sideOn_28 : decode (mC mX9_sideOn) 28 = .ok (.invokevirtual 76, 3) := by decide +kernel
theorem dX9_sideOn_31 : decode (mC mX9_sideOn) 31 = .ok (.istore 5, 2) := by decide +kernel
theorem dX9_sideOn_33 : decode (mC mX9_sideOn) 33 = .ok (.iload 5, 2) := by decide +kernel
theorem dX9_sideOn_35 : decode (mC mX9_sideOn) 35 = .ok (.sipush 1000, 3) := by decide +kernel
theorem dX9_sideOn_38 : decode (mC mX9_sideOn) 38 = .ok (.if_icmp .ge 26, 3) := by decide +kernel
theorem dX9_sideOn_41 : decode (mC mX9_sideOn) 41 = .ok (.iload 5, 2) := by decide +kernel
theorem dX9_sideOn_43 : decode (mC mX9_sideOn) 43 = .ok (.aload_n 0, 1) := by decide +kernel
theorem dX9_sideOn_44 : decode (mC mX9_sideOn) 44 = .ok (.iload_n 1, 1) := by decide +kernel
theorem dX9_sideOn_45 : decode (mC mX9_sideOn) 45 = .ok (.iload_n 2, 1) := by decide +kernel
theorem dX9_sideOn_46 : decode (mC mX9_sideOn) 46 = .ok (.invokevirtual 76, 3) := by decide +kernel
theorem dX9_sideOn_49 : decode (mC mX9_sideOn) 49 = .ok (.aload_n 0, 1) := by decide +kernel
theorem dX9_sideOn_50 : decode (mC mX9_sideOn) 50 = .ok (.iload_n 1, 1) := by decide +kernel
theorem dX9_sideOn_51 : decode (mC mX9_sideOn) 51 = .ok (.iload_n 2, 1) := by decide +kernel
theorem dX9_sideOn_52 : decode (mC mX9_sideOn) 52 = .ok (.iload_n 3, 1) := by decide +kernel
theorem dX9_sideOn_53 : decode (mC mX9_sideOn) 53 = .ok (.iload 4, 2) := by decide +kernel
theorem dX9_sideOn_55 : decode (mC mX9_sideOn) 55 = .ok (.invokevirtual 99, 3) := by decide +kernel
theorem dX9_sideOn_58 : decode (mC mX9_sideOn) 58 = .ok (.iadd, 1) := by decide +kernel
theorem dX9_sideOn_59 : decode (mC mX9_sideOn) 59 = .ok (.if_icmp .ne 5, 3) := by decide +kernel
theorem dX9_sideOn_62 : decode (mC mX9_sideOn) 62 = .ok (.iload_n 3, 1) := by decide +kernel
theorem dX9_sideOn_63 : decode (mC mX9_sideOn) 63 = .ok (.ireturn, 1) := by decide +kernel
theorem dX9_sideOn_64 : decode (mC mX9_sideOn) 64 = .ok (.iinc 3 1, 3) := by decide +kernel
theorem dX9_sideOn_67 : decode (mC mX9_sideOn) 67 = .ok (.goto (-65), 3) := by decide +kernel
theorem dX9_sideOn_70 : decode (mC mX9_sideOn) 70 = .ok (.iconst (-1), 1) := by decide +kernel
theorem dX9_sideOn_71 : decode (mC mX9_sideOn) 71 = .ok (.ireturn, 1) := by decide +kernel
theorem dX9_tread_0 : decode (mC mX9_tread) 0 = .ok (.aload_n 0, 1) := by decide +kernel
theorem dX9_tread_1 : decode (mC mX9_tread) 1 = .ok (.getfield 38, 3) := by decide +kernel
theorem dX9_tread_4 : decode (mC mX9_tread) 4 = .ok (.aload_n 1, 1) := by decide +kernel
theorem dX9_tread_5 : decode (mC mX9_tread) 5 = .ok (.invokestatic 117, 3) := by decide +kernel
theorem dX9_tread_8 : decode (mC mX9_tread) 8 = .ok (.aload_n 0, 1) := by decide +kernel
theorem dX9_tread_9 : decode (mC mX9_tread) 9 = .ok (.getfield 51, 3) := by decide +kernel
theorem dX9_tread_12 : decode (mC mX9_tread) 12 = .ok (.istore_n 2, 1) := by decide +kernel
theorem dX9_tread_13 : decode (mC mX9_tread) 13 = .ok (.iconst 0, 1) := by decide +kernel
theorem dX9_tread_14 : decode (mC mX9_tread) 14 = .ok (.istore_n 3, 1) := by decide +kernel
theorem dX9_tread_15 : decode (mC mX9_tread) 15 = .ok (.iload_n 3, 1) := by decide +kernel
theorem dX9_tread_16 : decode (mC mX9_tread) 16 = .ok (.aload_n 0, 1) := by decide +kernel
theorem dX9_tread_17 : decode (mC mX9_tread) 17 = .ok (.getfield 25, 3) := by decide +kernel
theorem dX9_tread_20 : decode (mC mX9_tread) 20 = .ok (.if_icmp .ge 74, 3) := by decide +kernel
theorem dX9_tread_23 : decode (mC mX9_tread) 23 = .ok (.aload_n 0, 1) := by decide +kernel
theorem dX9_tread_24 : decode (mC mX9_tread) 24 = .ok (.getfield 9, 3) := by decide +kernel
theorem dX9_tread_27 : decode (mC mX9_tread) 27 = .ok (.iload_n 3, 1) := by decide +kernel
theorem dX9_tread_28 : decode (mC mX9_tread) 28 = .ok (.invokestatic 83, 3) := by decide +kernel
theorem dX9_tread_31 : decode (mC mX9_tread) 31 = .ok (.istore 4, 2) := by decide +kernel
theorem dX9_tread_33 : decode (mC mX9_tread) 33 = .ok (.iload_n 3, 1) := by decide +kernel
theorem dX9_tread_34 : decode (mC mX9_tread) 34 = .ok (.ifCond .ne 19, 3) := by decide +kernel
theorem dX9_tread_37 : decode (mC mX9_tread) 37 = .ok (.aload_n 0, 1) := by decide +kernel
theorem dX9_tread_38 : decode (mC mX9_tread) 38 = .ok (.aload_n 1, 1) := by decide +kernel
theorem dX9_tread_39 : decode (mC mX9_tread) 39 = .ok (.iload_n 2, 1) := by decide +kernel
theorem dX9_tread_40 : decode (mC mX9_tread) 40 = .ok (.aload_n 0, 1) := by decide +kernel
theorem dX9_tread_41 : decode (mC mX9_tread) 41 = .ok (.getfield 46, 3) := by decide +kernel
theorem dX9_tread_44 : decode (mC mX9_tread) 44 = .ok (.iconst 0, 1) := by decide +kernel
theorem dX9_tread_45 : decode (mC mX9_tread) 45 = .ok (.iload 4, 2) := by decide +kernel
theorem dX9_tread_47 : decode (mC mX9_tread) 47 = .ok (.invokestatic 108, 3) := by decide +kernel
theorem dX9_tread_50 : decode (mC mX9_tread) 50 = .ok (.invokevirtual 121, 3) := by decide +kernel
theorem dX9_tread_53 : decode (mC mX9_tread) 53 = .ok (.aload_n 0, 1) := by decide +kernel
theorem dX9_tread_54 : decode (mC mX9_tread) 54 = .ok (.getfield 34, 3) := by decide +kernel
theorem dX9_tread_57 : decode (mC mX9_tread) 57 = .ok (.iload_n 2, 1) := by decide +kernel
theorem dX9_tread_58 : decode (mC mX9_tread) 58 = .ok (.iload 4, 2) := by decide +kernel
theorem dX9_tread_60 : decode (mC mX9_tread) 60 = .ok (.aload_n 0, 1) := by decide +kernel
theorem dX9_tread_61 : decode (mC mX9_tread) 61 = .ok (.getfield 50, 3) := by decide +kernel
theorem dX9_tread_64 : decode (mC mX9_tread) 64 = .ok (.invokevirtual 95, 3) := by decide +kernel
theorem dX9_tread_67 : decode (mC mX9_tread) 67 = .ok (.istore_n 2, 1) := by decide +kernel
theorem dX9_tread_68 : decode (mC mX9_tread) 68 = .ok (.aload_n 0, 1) := by decide +kernel
theorem dX9_tread_69 : decode (mC mX9_tread) 69 = .ok (.aload_n 1, 1) := by decide +kernel
theorem dX9_tread_70 : decode (mC mX9_tread) 70 = .ok (.iload_n 2, 1) := by decide +kernel
theorem dX9_tread_71 : decode (mC mX9_tread) 71 = .ok (.aload_n 0, 1) := by decide +kernel
theorem dX9_tread_72 : decode (mC mX9_tread) 72 = .ok (.getfield 46, 3) := by decide +kernel
theorem dX9_tread_75 : decode (mC mX9_tread) 75 = .ok (.iload_n 3, 1) := by decide +kernel
theorem dX9_tread_76 : decode (mC mX9_tread) 76 = .ok (.iconst 1, 1) := by decide +kernel
theorem dX9_tread_77 : decode (mC mX9_tread) 77 = .ok (.iadd, 1) := by decide +kernel
theorem dX9_tread_78 : decode (mC mX9_tread) 78 = .ok (.iconst 2, 1) := by decide +kernel
theorem dX9_tread_79 : decode (mC mX9_tread) 79 = .ok (.irem, 1) := by decide +kernel
theorem dX9_tread_80 : decode (mC mX9_tread) 80 = .ok (.iload 4, 2) := by decide +kernel
theorem dX9_tread_82 : decode (mC mX9_tread) 82 = .ok (.invokestatic 108, 3) := by decide +kernel
theorem dX9_tread_85 : decode (mC mX9_tread) 85 = .ok (.invokevirtual 121, 3) := by decide +kernel
theorem dX9_tread_88 : decode (mC mX9_tread) 88 = .ok (.iinc 3 1, 3) := by decide +kernel
theorem dX9_tread_91 : decode (mC mX9_tread) 91 = .ok (.goto (-76), 3) := by decide +kernel
theorem dX9_tread_94 : decode (mC mX9_tread) 94 = .ok (.return_, 1) := by decide +kernel
theorem dX9_pressIn_0 : decode (mC mX9_pressIn) 0 = .ok (.aload_n 0, 1) := by decide +kernel
theorem dX9_pressIn_1 : decode (mC mX9_pressIn) 1 = .ok (.getfield 38, 3) := by decide +kernel
theorem dX9_pressIn_4 : decode (mC mX9_pressIn) 4 = .ok (.iload_n 2, 1) := by decide +kernel
theorem dX9_pressIn_5 : decode (mC mX9_pressIn) 5 = .ok (.invokestatic 83, 3) := by decide +kernel
theorem dX9_pressIn_8 : decode (mC mX9_pressIn) 8 = .ok (.iload_n 3, 1) := by decide +kernel
theorem dX9_pressIn_9 : decode (mC mX9_pressIn) 9 = .ok (.if_icmp .eq 9, 3) := by decide +kernel
theorem dX9_pressIn_12 : decode (mC mX9_pressIn) 12 = .ok (.aload_n 1, 1) := by decide +kernel
theorem dX9_pressIn_13 : decode (mC mX9_pressIn) 13 = .ok (.iload_n 2, 1) := by decide +kernel
theorem dX9_pressIn_14 : decode (mC mX9_pressIn) 14 = .ok (.iload_n 3, 1) := by decide +kernel
theorem dX9_pressIn_15 : decode (mC mX9_pressIn) 15 = .ok (.invokestatic 72, 3) := by decide +kernel
theorem dX9_pressIn_18 : decode (mC mX9_pressIn) 18 = .ok (.return_, 1) := by decide +kernel
theorem dX10_init_0 : decode (mC mX10_init) 0 = .ok (.aload_n 0, 1) := by decide +kernel
theorem dX10_init_1 : decode (mC mX10_init) 1 = .ok (.invokespecial 3, 3) := by decide +kernel
theorem dX10_init_4 : decode (mC mX10_init) 4 = .ok (.aload_n 0, 1) := by decide +kernel
theorem dX10_init_5 : decode (mC mX10_init) 5 = .ok (.new 9, 3) := by decide +kernel
theorem dX10_init_8 : decode (mC mX10_init) 8 = .ok (.dup, 1) := by decide +kernel
theorem dX10_init_9 : decode (mC mX10_init) 9 = .ok (.invokespecial 11, 3) := by decide +kernel
theorem dX10_init_12 : decode (mC mX10_init) 12 = .ok (.putfield 12, 3) := by decide +kernel
theorem dX10_init_15 : decode (mC mX10_init) 15 = .ok (.aload_n 0, 1) := by decide +kernel
theorem dX10_init_16 : decode (mC mX10_init) 16 = .ok (.iconst 3, 1) := by decide +kernel
theorem dX10_init_17 : decode (mC mX10_init) 17 = .ok (.anewarray 9, 3) := by decide +kernel
theorem dX10_init_20 : decode (mC mX10_init) 20 = .ok (.putfield 16, 3) := by decide +kernel
theorem dX10_init_23 : decode (mC mX10_init) 23 = .ok (.aload_n 0, 1) := by decide +kernel
theorem dX10_init_24 : decode (mC mX10_init) 24 = .ok (.iconst 3, 1) := by decide +kernel
theorem dX10_init_25 : decode (mC mX10_init) 25 = .ok (.newarray .boolean, 2) := by decide +kernel
theorem dX10_init_27 : decode (mC mX10_init) 27 = .ok (.putfield 20, 3) := by decide +kernel
theorem dX10_init_30 : decode (mC mX10_init) 30 = .ok (.aload_n 0, 1) := by decide +kernel
theorem dX10_init_31 : decode (mC mX10_init) 31 = .ok (.new 24, 3) := by decide +kernel
theorem dX10_init_34 : decode (mC mX10_init) 34 = .ok (.dup, 1) := by decide +kernel
theorem dX10_init_35 : decode (mC mX10_init) 35 = .ok (.invokespecial 26, 3) := by decide +kernel
theorem dX10_init_38 : decode (mC mX10_init) 38 = .ok (.putfield 27, 3) := by decide +kernel
theorem dX10_init_41 : decode (mC mX10_init) 41 = .ok (.aload_n 0, 1) := by decide +kernel
theorem dX10_init_42 : decode (mC mX10_init) 42 = .ok (.new 31, 3) := by decide +kernel
theorem dX10_init_45 : decode (mC mX10_init) 45 = .ok (.dup, 1) := by decide +kernel
theorem dX10_init_46 : decode (mC mX10_init) 46 = .ok (.invokespecial 33, 3) := by decide +kernel
theorem dX10_init_49 : decode (mC mX10_init) 49 = .ok (.putfield 34, 3) := by decide +kernel
theorem dX10_init_52 : decode (mC mX10_init) 52 = .ok (.aload_n 0, 1) := by decide +kernel
theorem dX10_init_53 : decode (mC mX10_init) 53 = .ok (.new 38, 3) := by decide +kernel
theorem dX10_init_56 : decode (mC mX10_init) 56 = .ok (.dup, 1) := by decide +kernel
theorem dX10_init_57 : decode (mC mX10_init) 57 = .ok (.invokespecial 40, 3) := by decide +kernel
theorem dX10_init_60 : decode (mC mX10_init) 60 = .ok (.putfield 41, 3) := by decide +kernel
theorem dX10_init_63 : decode (mC mX10_init) 63 = .ok (.aload_n 0, 1) := by decide +kernel
theorem dX10_init_64 : decode (mC mX10_init) 64 = .ok (.new 31, 3) := by decide +kernel
theorem dX10_init_67 : decode (mC mX10_init) 67 = .ok (.dup, 1) := by decide +kernel
theorem dX10_init_68 : decode (mC mX10_init) 68 = .ok (.invokespecial 33, 3) := by decide +kernel
theorem dX10_init_71 : decode (mC mX10_init) 71 = .ok (.putfield 45, 3) := by decide +kernel
theorem dX10_init_74 : decode (mC mX10_init) 74 = .ok (.aload_n 0, 1) := by decide +kernel
theorem dX10_init_75 : decode (mC mX10_init) 75 = .ok (.bipush 64, 2) := by decide +kernel
theorem dX10_init_77 : decode (mC mX10_init) 77 = .ok (.newarray .int, 2) := by decide +kernel
theorem dX10_init_79 : decode (mC mX10_init) 79 = .ok (.putfield 48, 3) := by decide +kernel
theorem dX10_init_82 : decode (mC mX10_init) 82 = .ok (.aload_n 0, 1) := by decide +kernel
theorem dX10_init_83 : decode (mC mX10_init) 83 = .ok (.new 52, 3) := by decide +kernel
theorem dX10_init_86 : decode (mC mX10_init) 86 = .ok (.dup, 1) := by decide +kernel
theorem dX10_init_87 : decode (mC mX10_init) 87 = .ok (.invokespecial 54, 3) := by decide +kernel
theorem dX10_init_90 : decode (mC mX10_init) 90 = .ok (.putfield 55, 3) := by decide +kernel
theorem dX10_init_93 : decode (mC mX10_init) 93 = .ok (.aload_n 0, 1) := by decide +kernel
theorem dX10_init_94 : decode (mC mX10_init) 94 = .ok (.new 59, 3) := by decide +kernel
theorem dX10_init_97 : decode (mC mX10_init) 97 = .ok (.dup, 1) := by decide +kernel
theorem dX10_init_98 : decode (mC mX10_init) 98 = .ok (.invokespecial 61, 3) := by decide +kernel
theorem dX10_init_101 : decode (mC mX10_init) 101 = .ok (.putfield 62, 3) := by decide +kernel
theorem dX10_init_104 : decode (mC mX10_init) 104 = .ok (.aload_n 0, 1) := by decide +kernel
theorem dX10_init_105 : decode (mC mX10_init) 105 = .ok (.new 66, 3) := by decide +kernel
theorem dX10_init_108 : decode (mC mX10_init) 108 = .ok (.dup, 1) := by decide +kernel
theorem dX10_init_109 : decode (mC mX10_init) 109 = .ok (.invokespecial 68, 3) := by decide +kernel
theorem dX10_init_112 : decode (mC mX10_init) 112 = .ok (.putfield 69, 3) := by decide +kernel
theorem dX10_init_115 : decode (mC mX10_init) 115 = .ok (.aload_n 0, 1) := by decide +kernel
theorem dX10_init_116 : decode (mC mX10_init) 116 = .ok (.iconst (-1), 1) := by decide +kernel
theorem dX10_init_117 : decode (mC mX10_init) 117 = .ok (.putfield 73, 3) := by decide +kernel
theorem dX10_init_120 : decode (mC mX10_init) 120 = .ok (.aload_n 0, 1) := by decide +kernel
theorem dX10_init_121 : decode (mC mX10_init) 121 = .ok (.new 77, 3) := by decide +kernel
theorem dX10_init_124 : decode (mC mX10_init) 124 = .ok (.dup, 1) := by decide +kernel
theorem dX10_init_125 : decode (mC mX10_init) 125 = .ok (.invokespecial 79, 3) := by decide +kernel
theorem dX10_init_128 : decode (mC mX10_init) 128 = .ok (.putfield 80, 3) := by decide +kernel
theorem dX10_init_131 : decode (mC mX10_init) 131 = .ok (.aload_n 0, 1) := by decide +kernel
theorem dX10_init_132 : decode (mC mX10_init) 132 = .ok (.iconst (-1), 1) := by decide +kernel
theorem dX10_init_133 : decode (mC mX10_init) 133 = .ok (.putfield 84, 3) := by decide +kernel
theorem dX10_init_136 : decode (mC mX10_init) 136 = .ok (.aload_n 0, 1) := by decide +kernel
theorem dX10_init_137 : decode (mC mX10_init) 137 = .ok (.iconst (-1), 1) := by decide +kernel
theorem dX10_init_138 : decode (mC mX10_init) 138 = .ok (.putfield 87, 3) := by decide +kernel
theorem dX10_init_141 : decode (mC mX10_init) 141 = .ok (.iconst 0, 1) := by decide +kernel
theorem dX10_init_142 : decode (mC mX10_init) 142 = .ok (.istore_n 1, 1) := by decide +kernel
theorem dX10_init_143 : decode (mC mX10_init) 143 = .ok (.iload_n 1, 1) := by decide +kernel
theorem dX10_init_144 : decode (mC mX10_init) 144 = .ok (.aload_n 0, 1) := by decide +kernel
theorem dX10_init_145 : decode (mC mX10_init) 145 = .ok (.getfield 16, 3) := by decide +kernel
theorem dX10_init_148 : decode (mC mX10_init) 148 = .ok (.arraylength, 1) := by decide +kernel
theorem dX10_init_149 : decode (mC mX10_init) 149 = .ok (.if_icmp .ge 22, 3) := by decide +kernel
theorem dX10_init_152 : decode (mC mX10_init) 152 = .ok (.aload_n 0, 1) := by decide +kernel
theorem dX10_init_153 : decode (mC mX10_init) 153 = .ok (.getfield 16, 3) := by decide +kernel
theorem dX10_init_156 : decode (mC mX10_init) 156 = .ok (.iload_n 1, 1) := by decide +kernel
theorem dX10_init_157 : decode (mC mX10_init) 157 = .ok (.new 9, 3) := by decide +kernel
theorem dX10_init_160 : decode (mC mX10_init) 160 = .ok (.dup, 1) := by decide +kernel
theorem dX10_init_161 : decode (mC mX10_init) 161 = .ok (.invokespecial 11, 3) := by decide +kernel
theorem dX10_init_164 : decode (mC mX10_init) 164 = .ok (.aastore, 1) := by decide +kernel
theorem dX10_init_165 : decode (mC mX10_init) 165 = .ok (.iinc 1 1, 3) := by decide +kernel
theorem dX10_init_168 : decode (mC mX10_init) 168 = .ok (.goto (-25), 3) := by decide +kernel
theorem dX10_init_171 : decode (mC mX10_init) 171 = .ok (.return_, 1) := by decide +kernel
theorem dX10_feed_0 : decode (mC mX10_feed) 0 = .ok (.aload_n 0, 1) := by decide +kernel
theorem dX10_feed_1 : decode (mC mX10_feed) 1 = .ok (.getfield 12, 3) := by decide +kernel
theorem dX10_feed_4 : decode (mC mX10_feed) 4 = .ok (.getfield 90, 3) := by decide +kernel
theorem dX10_feed_7 : decode (mC mX10_feed) 7 = .ok (.bipush 20, 2) := by decide +kernel
theorem dX10_feed_9 : decode (mC mX10_feed) 9 = .ok (.iadd, 1) := by decide +kernel
theorem dX10_feed_10 : decode (mC mX10_feed) 10 = .ok (.sipush 600, 3) := by decide +kernel
theorem dX10_feed_13 : decode (mC mX10_feed) 13 = .ok (.if_icmp .le 5, 3) := by decide +kernel
theorem dX10_feed_16 : decode (mC mX10_feed) 16 = .ok (.iconst (-1), 1) := by decide +kernel
theorem dX10_feed_17 : decode (mC mX10_feed) 17 = .ok (.ireturn, 1) := by decide +kernel
theorem dX10_feed_18 : decode (mC mX10_feed) 18 = .ok (.aload_n 0, 1) := by decide +kernel
theorem dX10_feed_19 : decode (mC mX10_feed) 19 = .ok (.getfield 12, 3) := by decide +kernel
theorem dX10_feed_22 : decode (mC mX10_feed) 22 = .ok (.iload_n 1, 1) := by decide +kernel
theorem dX10_feed_23 : decode (mC mX10_feed) 23 = .ok (.invokevirtual 93, 3) := by decide +kernel
theorem dX10_feed_26 : decode (mC mX10_feed) 26 = .ok (.aload_n 0, 1) := by decide +kernel
theorem dX10_feed_27 : decode (mC mX10_feed) 27 = .ok (.getfield 12, 3) := by decide +kernel
theorem dX10_feed_30 : decode (mC mX10_feed) 30 = .ok (.iload_n 2, 1) := by decide +kernel
theorem dX10_feed_31 : decode (mC mX10_feed) 31 = .ok (.invokevirtual 93, 3) := by decide +kernel
theorem dX10_feed_34 : decode (mC mX10_feed) 34 = .ok (.aload_n 0, 1) := by decide +kernel
theorem dX10_feed_35 : decode (mC mX10_feed) 35 = .ok (.getfield 12, 3) := by decide +kernel
theorem dX10_feed_38 : decode (mC mX10_feed) 38 = .ok (.iload_n 3, 1) := by decide +kernel
theorem dX10_feed_39 : decode (mC mX10_feed) 39 = .ok (.invokevirtual 93, 3) := by decide +kernel
theorem dX10_feed_42 : decode (mC mX10_feed) 42 = .ok (.aload_n 0, 1) := by decide +kernel
theorem dX10_feed_43 : decode (mC mX10_feed) 43 = .ok (.getfield 12, 3) := by decide +kernel
theorem dX10_feed_46 : decode (mC mX10_feed) 46 = .ok (.iload 4, 2) := by decide +kernel
theorem dX10_feed_48 : decode (mC mX10_feed) 48 = .ok (.invokevirtual 93, 3) := by decide +kernel
theorem dX10_feed_51 : decode (mC mX10_feed) 51 = .ok (.aload_n 0, 1) := by decide +kernel
theorem dX10_feed_52 : decode (mC mX10_feed) 52 = .ok (.getfield 12, 3) := by decide +kernel
theorem dX10_feed_55 : decode (mC mX10_feed) 55 = .ok (.iload 5, 2) := by decide +kernel
theorem dX10_feed_57 : decode (mC mX10_feed) 57 = .ok (.invokevirtual 93, 3) := by decide +kernel
theorem dX10_feed_60 : decode (mC mX10_feed) 60 = .ok (.aload_n 0, 1) := by decide +kernel
theorem dX10_feed_61 : decode (mC mX10_feed) 61 = .ok (.getfield 12, 3) := by decide +kernel
theorem dX10_feed_64 : decode (mC mX10_feed) 64 = .ok (.getfield 90, 3) := by decide +kernel
theorem dX10_feed_67 : decode (mC mX10_feed) 67 = .ok (.ireturn, 1) := by decide +kernel
theorem dX10_end_0 : decode (mC mX10_end) 0 = .ok (.iload_n 1, 1) := by decide +kernel
theorem dX10_end_1 : decode (mC mX10_end) 1 = .ok (.ifCond .lt 14, 3) := by decide +kernel
theorem dX10_end_4 : decode (mC mX10_end) 4 = .ok (.iload_n 1, 1) := by decide +kernel
theorem dX10_end_5 : decode (mC mX10_end) 5 = .ok (.aload_n 0, 1) := by decide +kernel
theorem dX10_end_6 : decode (mC mX10_end) 6 = .ok (.getfield 12, 3) := by decide +kernel
theorem dX10_end_9 : decode (mC mX10_end) 9 = .ok (.getfield 90, 3) := by decide +kernel
theorem dX10_end_12 : decode (mC mX10_end) 12 = .ok (.if_icmp .le 5, 3) := by decide +kernel
theorem dX10_end_15 : decode (mC mX10_end) 15 = .ok (.iconst (-1), 1) := by decide +kernel
theorem dX10_end_16 : decode (mC mX10_end) 16 = .ok (.ireturn, 1) := by decide +kernel
theorem dX10_end_17 : decode (mC mX10_end) 17 = .ok (.aload_n 0, 1) := by decide +kernel
theorem dX10_end_18 : decode (mC mX10_end) 18 = .ok (.getfield 12, 3) := by decide +kernel
theorem dX10_end_21 : decode (mC mX10_end) 21 = .ok (.iload_n 1, 1) := by decide +kernel
theorem dX10_end_22 : decode (mC mX10_end) 22 = .ok (.putfield 90, 3) := by decide +kernel
theorem dX10_end_25 : decode (mC mX10_end) 25 = .ok (.iload_n 1, 1) := by decide +kernel
theorem dX10_end_26 : decode (mC mX10_end) 26 = .ok (.ireturn, 1) := by decide +kernel
theorem dX10_text_0 : decode (mC mX10_text) 0 = .ok (.aload_n 0, 1) := by decide +kernel
theorem dX10_text_1 : decode (mC mX10_text) 1 = .ok (.getfield 12, 3) := by decide +kernel
theorem dX10_text_4 : decode (mC mX10_text) 4 = .ok (.getfield 90, 3) := by decide +kernel
theorem dX10_text_7 : decode (mC mX10_text) 7 = .ok (.istore_n 3, 1) := by decide +kernel
theorem dX10_text_8 : decode (mC mX10_text) 8 = .ok (.aload_n 0, 1) := by decide +kernel
theorem dX10_text_9 : decode (mC mX10_text) 9 = .ok (.getfield 12, 3) := by decide +kernel
theorem dX10_text_12 : decode (mC mX10_text) 12 = .ok (.iconst 0, 1) := by decide +kernel
theorem dX10_text_13 : decode (mC mX10_text) 13 = .ok (.putfield 90, 3) := by decide +kernel
theorem dX10_text_16 : decode (mC mX10_text) 16 = .ok (.aload_n 0, 1) := by decide +kernel
theorem dX10_text_17 : decode (mC mX10_text) 17 = .ok (.getfield 12, 3) := by decide +kernel
theorem dX10_text_20 : decode (mC mX10_text) 20 = .ok (.iconst 0, 1) := by decide +kernel
theorem dX10_text_21 : decode (mC mX10_text) 21 = .ok (.putfield 97, 3) := by decide +kernel
theorem dX10_text_24 : decode (mC mX10_text) 24 = .ok (.aload_n 0, 1) := by decide +kernel
theorem dX10_text_25 : decode (mC mX10_text) 25 = .ok (.getfield 12, 3) := by decide +kernel
theorem dX10_text_28 : decode (mC mX10_text) 28 = .ok (.iconst (-1), 1) := by decide +kernel
theorem dX10_text_29 : decode (mC mX10_text) 29 = .ok (.putfield 100, 3) := by decide +kernel
theorem dX10_text_32 : decode (mC mX10_text) 32 = .ok (.aload_n 0, 1) := by decide +kernel
theorem dX10_text_33 : decode (mC mX10_text) 33 = .ok (.getfield 12, 3) := by decide +kernel
theorem dX10_text_36 : decode (mC mX10_text) 36 = .ok (.iload_n 1, 1) := by decide +kernel
theorem dX10_text_37 : decode (mC mX10_text) 37 = .ok (.iload_n 2, 1) := by decide +kernel
theorem dX10_text_38 : decode (mC mX10_text) 38 = .ok (.invokevirtual 103, 3) := by decide +kernel
theorem dX10_text_41 : decode (mC mX10_text) 41 = .ok (.istore 4, 2) := by decide +kernel
theorem dX10_text_43 : decode (mC mX10_text) 43 = .ok (.iload 4, 2) := by decide +kernel
theorem dX10_text_45 : decode (mC mX10_text) 45 = .ok (.iconst (-1), 1) := by decide +kernel
theorem dX10_text_46 : decode (mC mX10_text) 46 = .ok (.if_icmp .ne 6, 3) := by decide +kernel
theorem dX10_text_49 : decode (mC mX10_text) 49 = .ok (.bipush (-2), 2) := by decide +kernel
theorem dX10_text_51 : decode (mC mX10_text) 51 = .ok (.ireturn, 1) := by decide +kernel
theorem dX10_text_52 : decode (mC mX10_text) 52 = .ok (.aload_n 0, 1) := by decide +kernel
theorem dX10_text_53 : decode (mC mX10_text) 53 = .ok (.getfield 27, 3) := by decide +kernel
theorem dX10_text_56 : decode (mC mX10_text) 56 = .ok (.aload_n 0, 1) := by decide +kernel
theorem dX10_text_57 : decode (mC mX10_text) 57 = .ok (.getfield 12, 3) := by decide +kernel
theorem dX10_text_60 : decode (mC mX10_text) 60 = .ok (.getfield 107, 3) := by decide +kernel
theorem dX10_text_63 : decode (mC mX10_text) 63 = .ok (.iload_n 3, 1) := by decide +kernel
theorem dX10_text_64 : decode (mC mX10_text) 64 = .ok (.iload_n 1, 1) := by decide +kernel
theorem dX10_text_65 : decode (mC mX10_text) 65 = .ok (.invokevirtual 110, 3) := by decide +kernel
theorem dX10_text_68 : decode (mC mX10_text) 68 = .ok (.ifCond .ne 33, 3) := by decide +kernel
theorem dX10_text_71 : decode (mC mX10_text) 71 = .ok (.aload_n 0, 1) := by decide +kernel
theorem dX10_text_72 : decode (mC mX10_text) 72 = .ok (.getfield 12, 3) := by decide +kernel
theorem dX10_text_75 : decode (mC mX10_text) 75 = .ok (.aload_n 0, 1) := by decide +kernel
theorem dX10_text_76 : decode (mC mX10_text) 76 = .ok (.getfield 27, 3) := by decide +kernel
theorem dX10_text_79 : decode (mC mX10_text) 79 = .ok (.getfield 114, 3) := by decide +kernel
theorem dX10_text_82 : decode (mC mX10_text) 82 = .ok (.putfield 97, 3) := by decide +kernel
theorem dX10_text_85 : decode (mC mX10_text) 85 = .ok (.aload_n 0, 1) := by decide +kernel
theorem dX10_text_86 : decode (mC mX10_text) 86 = .ok (.getfield 12, 3) := by decide +kernel
theorem dX10_text_89 : decode (mC mX10_text) 89 = .ok (.aload_n 0, 1) := by decide +kernel
theorem dX10_text_90 : decode (mC mX10_text) 90 = .ok (.getfield 27, 3) := by decide +kernel
theorem dX10_text_93 : decode (mC mX10_text) 93 = .ok (.getfield 115, 3) := by decide +kernel
theorem dX10_text_96 : decode (mC mX10_text) 96 = .ok (.putfield 100, 3) := by decide +kernel
theorem dX10_text_99 : decode (mC mX10_text) 99 = .ok (.iconst (-1), 1) := by decide +kernel
theorem dX10_text_100 : decode (mC mX10_text) 100 = .ok (.ireturn, 1) := by decide +kernel
theorem dX10_text_101 : decode (mC mX10_text) 101 = .ok (.iload_n 1, 1) := by decide +kernel
theorem dX10_text_102 : decode (mC mX10_text) 102 = .ok (.ifCond .ne 22, 3) := by decide +kernel
theorem dX10_text_105 : decode (mC mX10_text) 105 = .ok (.aload_n 0, 1) := by decide +kernel
theorem dX10_text_106 : decode (mC mX10_text) 106 = .ok (.getfield 12, 3) := by decide +kernel
theorem dX10_text_109 : decode (mC mX10_text) 109 = .ok (.iload 4, 2) := by decide +kernel
theorem dX10_text_111 : decode (mC mX10_text) 111 = .ok (.aload_n 0, 1) := by decide +kernel
theorem dX10_text_112 : decode (mC mX10_text) 112 = .ok (.getfield 27, 3) := by decide +kernel
theorem dX10_text_115 : decode (mC mX10_text) 115 = .ok (.getfield 116, 3) := by decide +kernel
theorem dX10_text_118 : decode (mC mX10_text) 118 = .ok (.invokevirtual 119, 3) := by decide +kernel
theorem dX10_text_121 : decode (mC mX10_text) 121 = .ok (.goto 19, 3) := by decide +kernel
theorem dX10_text_124 : decode (mC mX10_text) 124 = .ok (.aload_n 0, 1) := by decide +kernel
theorem dX10_text_125 : decode (mC mX10_text) 125 = .ok (.getfield 12, 3) := by decide +kernel
theorem dX10_text_128 : decode (mC mX10_text) 128 = .ok (.iload 4, 2) := by decide +kernel
theorem dX10_text_130 : decode (mC mX10_text) 130 = .ok (.aload_n 0, 1) := by decide +kernel
theorem dX10_text_131 : decode (mC mX10_text) 131 = .ok (.getfield 27, 3) := by decide +kernel
theorem dX10_text_134 : decode (mC mX10_text) 134 = .ok (.getfield 123, 3) := by decide +kernel
theorem dX10_text_137 : decode (mC mX10_text) 137 = .ok (.invokevirtual 127, 3) := by decide +kernel
theorem dX10_text_140 : decode (mC mX10_text) 140 = .ok (.aload_n 0, 1) := by decide +kernel
theorem dX10_text_141 : decode (mC mX10_text) 141 = .ok (.invokevirtual 131, 3) := by decide +kernel
theorem dX10_text_144 : decode (mC mX10_text) 144 = .ok (.iload 4, 2) := by decide +kernel
theorem dX10_text_146 : decode (mC mX10_text) 146 = .ok (.ireturn, 1) := by decide +kernel
theorem dX10_fault_0 : decode (mC mX10_fault) 0 = .ok (.iload_n 1, 1) := by decide +kernel
theorem dX10_fault_1 : decode (mC mX10_fault) 1 = .ok (.ifCond .ne 11, 3) := by decide +kernel
theorem dX10_fault_4 : decode (mC mX10_fault) 4 = .ok (.aload_n 0, 1) := by decide +kernel
theorem dX10_fault_5 : decode (mC mX10_fault) 5 = .ok (.getfield 12, 3) := by decide +kernel
theorem dX10_fault_8 : decode (mC mX10_fault) 8 = .ok (.getfield 97, 3) := by decide +kernel
theorem dX10_fault_11 : decode (mC mX10_fault) 11 = .ok (.ireturn, 1) := by decide +kernel
theorem dX10_fault_12 : decode (mC mX10_fault) 12 = .ok (.iload_n 1, 1) := by decide +kernel
theorem dX10_fault_13 : decode (mC mX10_fault) 13 = .ok (.iconst 1, 1) := by decide +kernel
theorem dX10_fault_14 : decode (mC mX10_fault) 14 = .ok (.if_icmp .ne 13, 3) := by decide +kernel
theorem dX10_fault_17 : decode (mC mX10_fault) 17 = .ok (.aload_n 0, 1) := by decide +kernel
theorem dX10_fault_18 : decode (mC mX10_fault) 18 = .ok (.getfield 12, 3) := by decide +kernel
theorem dX10_fault_21 : decode (mC mX10_fault) 21 = .ok (.getfield 100, 3) := by decide +kernel
theorem dX10_fault_24 : decode (mC mX10_fault) 24 = .ok (.goto 4, 3) := by decide +kernel
theorem dX10_fault_27 : decode (mC mX10_fault) 27 = .ok (.iconst (-1), 1) := by decide +kernel
theorem dX10_fault_28 : decode (mC mX10_fault) 28 = .ok (.ireturn, 1) := by decide +kernel
theorem dX10_count_0 : decode (mC mX10_count) 0 = .ok (.iload_n 1, 1) := by decide +kernel
theorem dX10_count_1 : decode (mC mX10_count) 1 = .ok (.ifCond .ne 11, 3) := by decide +kernel
theorem dX10_count_4 : decode (mC mX10_count) 4 = .ok (.aload_n 0, 1) := by decide +kernel
theorem dX10_count_5 : decode (mC mX10_count) 5 = .ok (.getfield 12, 3) := by decide +kernel
theorem dX10_count_8 : decode (mC mX10_count) 8 = .ok (.getfield 134, 3) := by decide +kernel
theorem dX10_count_11 : decode (mC mX10_count) 11 = .ok (.ireturn, 1) := by decide +kernel
theorem dX10_count_12 : decode (mC mX10_count) 12 = .ok (.iload_n 1, 1) := by decide +kernel
theorem dX10_count_13 : decode (mC mX10_count) 13 = .ok (.iconst 1, 1) := by decide +kernel
theorem dX10_count_14 : decode (mC mX10_count) 14 = .ok (.if_icmp .ne 13, 3) := by decide +kernel
theorem dX10_count_17 : decode (mC mX10_count) 17 = .ok (.aload_n 0, 1) := by decide +kernel
theorem dX10_count_18 : decode (mC mX10_count) 18 = .ok (.getfield 12, 3) := by decide +kernel
theorem dX10_count_21 : decode (mC mX10_count) 21 = .ok (.getfield 137, 3) := by decide +kernel
theorem dX10_count_24 : decode (mC mX10_count) 24 = .ok (.goto 5, 3) := by decide +kernel
theorem dX10_count_27 : decode (mC mX10_count) 27 = .ok (.bipush (-2), 2) := by decide +kernel
theorem dX10_count_29 : decode (mC mX10_count) 29 = .ok (.ireturn, 1) := by decide +kernel
theorem dX10_image_0 : decode (mC mX10_image) 0 = .ok (.iload_n 1, 1) := by decide +kernel
theorem dX10_image_1 : decode (mC mX10_image) 1 = .ok (.ifCond .lt 21, 3) := by decide +kernel
theorem dX10_image_4 : decode (mC mX10_image) 4 = .ok (.iload_n 1, 1) := by decide +kernel
theorem dX10_image_5 : decode (mC mX10_image) 5 = .ok (.aload_n 0, 1) := by decide +kernel
theorem dX10_image_6 : decode (mC mX10_image) 6 = .ok (.getfield 16, 3) := by decide +kernel
theorem dX10_image_9 : decode (mC mX10_image) 9 = .ok (.arraylength, 1) := by decide +kernel
theorem dX10_image_10 : decode (mC mX10_image) 10 = .ok (.if_icmp .ge 12, 3) := by decide +kernel
theorem dX10_image_13 : decode (mC mX10_image) 13 = .ok (.iload_n 1, 1) := by decide +kernel
theorem dX10_image_14 : decode (mC mX10_image) 14 = .ok (.aload_n 0, 1) := by decide +kernel
theorem dX10_image_15 : decode (mC mX10_image) 15 = .ok (.getfield 20, 3) := by decide +kernel
theorem dX10_image_18 : decode (mC mX10_image) 18 = .ok (.arraylength, 1) := by decide +kernel
theorem dX10_image_19 : decode (mC mX10_image) 19 = .ok (.if_icmp .lt 5, 3) := by decide +kernel
theorem dX10_image_22 : decode (mC mX10_image) 22 = .ok (.iconst 0, 1) := by decide +kernel
theorem dX10_image_23 : decode (mC mX10_image) 23 = .ok (.ireturn, 1) := by decide +kernel
theorem dX10_image_24 : decode (mC mX10_image) 24 = .ok (.aload_n 0, 1) := by decide +kernel
theorem dX10_image_25 : decode (mC mX10_image) 25 = .ok (.getfield 16, 3) := by decide +kernel
theorem dX10_image_28 : decode (mC mX10_image) 28 = .ok (.iload_n 1, 1) := by decide +kernel
theorem dX10_image_29 : decode (mC mX10_image) 29 = .ok (.aaload, 1) := by decide +kernel
theorem dX10_image_30 : decode (mC mX10_image) 30 = .ok (.aload_n 0, 1) := by decide +kernel
theorem dX10_image_31 : decode (mC mX10_image) 31 = .ok (.getfield 12, 3) := by decide +kernel
theorem dX10_image_34 : decode (mC mX10_image) 34 = .ok (.invokevirtual 140, 3) := by decide +kernel
theorem dX10_image_37 : decode (mC mX10_image) 37 = .ok (.aload_n 0, 1) := by decide +kernel
theorem dX10_image_38 : decode (mC mX10_image) 38 = .ok (.getfield 20, 3) := by decide +kernel
theorem dX10_image_41 : decode (mC mX10_image) 41 = .ok (.iload_n 1, 1) := by decide +kernel
theorem dX10_image_42 : decode (mC mX10_image) 42 = .ok (.iconst 1, 1) := by decide +kernel
theorem dX10_image_43 : decode (mC mX10_image) 43 = .ok (.bastore, 1) := by decide +kernel
theorem dX10_image_44 : decode (mC mX10_image) 44 = .ok (.iconst 1, 1) := by decide +kernel
theorem dX10_image_45 : decode (mC mX10_image) 45 = .ok (.ireturn, 1) := by decide +kernel
theorem dX10_again_0 : decode (mC mX10_again) 0 = .ok (.iload_n 1, 1) := by decide +kernel
theorem dX10_again_1 : decode (mC mX10_again) 1 = .ok (.ifCond .lt 30, 3) := by decide +kernel
theorem dX10_again_4 : decode (mC mX10_again) 4 = .ok (.iload_n 1, 1) := by decide +kernel
theorem dX10_again_5 : decode (mC mX10_again) 5 = .ok (.aload_n 0, 1) := by decide +kernel
theorem dX10_again_6 : decode (mC mX10_again) 6 = .ok (.getfield 16, 3) := by decide +kernel
theorem dX10_again_9 : decode (mC mX10_again) 9 = .ok (.arraylength, 1) := by decide +kernel
theorem dX10_again_10 : decode (mC mX10_again) 10 = .ok (.if_icmp .ge 21, 3) := by decide +kernel
theorem dX10_again_13 : decode (mC mX10_again) 13 = .ok (.iload_n 1, 1) := by decide +kernel
theorem dX10_again_14 : decode (mC mX10_again) 14 = .ok (.aload_n 0, 1) := by decide +kernel
theorem dX10_again_15 : decode (mC mX10_again) 15 = .ok (.getfield 20, 3) := by decide +kernel
theorem dX10_again_18 : decode (mC mX10_again) 18 = .ok (.arraylength, 1) := by decide +kernel
theorem dX10_again_19 : decode (mC mX10_again) 19 = .ok (.if_icmp .ge 12, 3) := by decide +kernel
theorem dX10_again_22 : decode (mC mX10_again) 22 = .ok (.aload_n 0, 1) := by decide +kernel
theorem dX10_again_23 : decode (mC mX10_again) 23 = .ok (.getfield 20, 3) := by decide +kernel
theorem dX10_again_26 : decode (mC mX10_again) 26 = .ok (.iload_n 1, 1) := by decide +kernel
theorem dX10_again_27 : decode (mC mX10_again) 27 = .ok (.baload, 1) := by decide +kernel
theorem dX10_again_28 : decode (mC mX10_again) 28 = .ok (.ifCond .ne 5, 3) := by decide +kernel
theorem dX10_again_31 : decode (mC mX10_again) 31 = .ok (.iconst 0, 1) := by decide +kernel
theorem dX10_again_32 : decode (mC mX10_again) 32 = .ok (.ireturn, 1) := by decide +kernel
theorem dX10_again_33 : decode (mC mX10_again) 33 = .ok (.aload_n 0, 1) := by decide +kernel
theorem dX10_again_34 : decode (mC mX10_again) 34 = .ok (.getfield 12, 3) := by decide +kernel
theorem dX10_again_37 : decode (mC mX10_again) 37 = .ok (.aload_n 0, 1) := by decide +kernel
theorem dX10_again_38 : decode (mC mX10_again) 38 = .ok (.getfield 16, 3) := by decide +kernel
theorem dX10_again_41 : decode (mC mX10_again) 41 = .ok (.iload_n 1, 1) := by decide +kernel
theorem dX10_again_42 : decode (mC mX10_again) 42 = .ok (.aaload, 1) := by decide +kernel
theorem dX10_again_43 : decode (mC mX10_again) 43 = .ok (.invokevirtual 140, 3) := by decide +kernel
theorem dX10_again_46 : decode (mC mX10_again) 46 = .ok (.aload_n 0, 1) := by decide +kernel
theorem dX10_again_47 : decode (mC mX10_again) 47 = .ok (.invokevirtual 131, 3) := by decide +kernel
theorem dX10_again_50 : decode (mC mX10_again) 50 = .ok (.iconst 1, 1) := by decide +kernel
theorem dX10_again_51 : decode (mC mX10_again) 51 = .ok (.ireturn, 1) := by decide +kernel
theorem dX10_forgetFindings_0 : decode (mC mX10_forgetFindings) 0 = .ok (.aload_n 0, 1) := by decide +kernel
theorem dX10_forgetFindings_1 : decode (mC mX10_forgetFindings) 1 = .ok (.iconst (-1), 1) := by decide +kernel
theorem dX10_forgetFindings_2 : decode (mC mX10_forgetFindings) 2 = .ok (.putfield 73, 3) := by decide +kernel
theorem dX10_forgetFindings_5 : decode (mC mX10_forgetFindings) 5 = .ok (.aload_n 0, 1) := by decide +kernel
theorem dX10_forgetFindings_6 : decode (mC mX10_forgetFindings) 6 = .ok (.iconst (-1), 1) := by decide +kernel
theorem dX10_forgetFindings_7 : decode (mC mX10_forgetFindings) 7 = .ok (.putfield 84, 3) := by decide +kernel
theorem dX10_forgetFindings_10 : decode (mC mX10_forgetFindings) 10 = .ok (.aload_n 0, 1) := by decide +kernel
theorem dX10_forgetFindings_11 : decode (mC mX10_forgetFindings) 11 = .ok (.iconst (-1), 1) := by decide +kernel
theorem dX10_forgetFindings_12 : decode (mC mX10_forgetFindings) 12 = .ok (.putfield 87, 3) := by decide +kernel
theorem dX10_forgetFindings_15 : decode (mC mX10_forgetFindings) 15 = .ok (.return_, 1) := by decide +kernel
theorem dX10_night_0 : decode (mC mX10_night) 0 = .ok (.aload_n 0, 1) := by decide +kernel
theorem dX10_night_1 : decode (mC mX10_night) 1 = .ok (.getfield 12, 3) := by decide +kernel
theorem dX10_night_4 : decode (mC mX10_night) 4 = .ok (.iload_n 1, 1) := by decide +kernel
theorem dX10_night_5 : decode (mC mX10_night) 5 = .ok (.invokevirtual 144, 3) := by decide +kernel
theorem dX10_night_8 : decode (mC mX10_night) 8 = .ok (.astore_n 3, 1) := by decide +kernel
theorem dX10_night_9 : decode (mC mX10_night) 9 = .ok (.aload_n 3, 1) := by decide +kernel
theorem dX10_night_10 : decode (mC mX10_night) 10 = .ok (.ifnonnull 5, 3) := by decide +kernel
theorem dX10_night_13 : decode (mC mX10_night) 13 = .ok (.iconst (-1), 1) := by decide +kernel
theorem dX10_night_14 : decode (mC mX10_night) 14 = .ok (.ireturn, 1) := by decide +kernel
theorem dX10_night_15 : decode (mC mX10_night) 15 = .ok (.iload_n 2, 1) := by decide +kernel
theorem dX10_night_16 : decode (mC mX10_night) 16 = .ok (.tableswitch 70 0 5 #[40, 45, 50, 55, 60, 65], 40) := by decide +kernel
theorem dX10_night_56 : decode (mC mX10_night) 56 = .ok (.aload_n 3, 1) := by decide +kernel
theorem dX10_night_57 : decode (mC mX10_night) 57 = .ok (.getfield 148, 3) := by decide +kernel
theorem dX10_night_60 : decode (mC mX10_night) 60 = .ok (.ireturn, 1) := by decide +kernel
theorem dX10_night_61 : decode (mC mX10_night) 61 = .ok (.aload_n 3, 1) := by decide +kernel
theorem dX10_night_62 : decode (mC mX10_night) 62 = .ok (.getfield 151, 3) := by decide +kernel
theorem dX10_night_65 : decode (mC mX10_night) 65 = .ok (.ireturn, 1) := by decide +kernel
theorem dX10_night_66 : decode (mC mX10_night) 66 = .ok (.aload_n 3, 1) := by decide +kernel
theorem dX10_night_67 : decode (mC mX10_night) 67 = .ok (.getfield 154, 3) := by decide +kernel
theorem dX10_night_70 : decode (mC mX10_night) 70 = .ok (.ireturn, 1) := by decide +kernel
theorem dX10_night_71 : decode (mC mX10_night) 71 = .ok (.aload_n 3, 1) := by decide +kernel
theorem dX10_night_72 : decode (mC mX10_night) 72 = .ok (.getfield 157, 3) := by decide +kernel
theorem dX10_night_75 : decode (mC mX10_night) 75 = .ok (.ireturn, 1) := by decide +kernel
theorem dX10_night_76 : decode (mC mX10_night) 76 = .ok (.aload_n 3, 1) := by decide +kernel
theorem dX10_night_77 : decode (mC mX10_night) 77 = .ok (.getfield 160, 3) := by decide +kernel
theorem dX10_night_80 : decode (mC mX10_night) 80 = .ok (.ireturn, 1) := by decide +kernel
theorem dX10_night_81 : decode (mC mX10_night) 81 = .ok (.aload_n 3, 1) := by decide +kernel
theorem dX10_night_82 : decode (mC mX10_night) 82 = .ok (.invokevirtual 163, 3) := by decide +kernel
theorem dX10_night_85 : decode (mC mX10_night) 85 = .ok (.ireturn, 1) := by decide +kernel
theorem dX10_night_86 : decode (mC mX10_night) 86 = .ok (.aload_n 3, 1) := by decide +kernel
theorem dX10_night_87 : decode (mC mX10_night) 87 = .ok (.iload_n 2, 1) := by decide +kernel
theorem dX10_night_88 : decode (mC mX10_night) 88 = .ok (.invokevirtual 167, 3) := by decide +kernel
theorem dX10_night_91 : decode (mC mX10_night) 91 = .ok (.ireturn, 1) := by decide +kernel
theorem dX10_person_0 : decode (mC mX10_person) 0 = .ok (.aload_n 0, 1) := by decide +kernel
theorem dX10_person_1 : decode (mC mX10_person) 1 = .ok (.getfield 12, 3) := by decide +kernel
theorem dX10_person_4 : decode (mC mX10_person) 4 = .ok (.iload_n 1, 1) := by decide +kernel
theorem dX10_person_5 : decode (mC mX10_person) 5 = .ok (.invokevirtual 144, 3) := by decide +kernel
theorem dX10_person_8 : decode (mC mX10_person) 8 = .ok (.astore 4, 2) := by decide +kernel
theorem dX10_person_10 : decode (mC mX10_person) 10 = .ok (.aload 4, 2) := by decide +kernel
theorem dX10_person_12 : decode (mC mX10_person) 12 = .ok (.ifnonnull 7, 3) := by decide +kernel
theorem dX10_person_15 : decode (mC mX10_person) 15 = .ok (.aconst_null, 1) := by decide +kernel
theorem dX10_person_16 : decode (mC mX10_person) 16 = .ok (.goto 9, 3) := by decide +kernel
theorem dX10_person_19 : decode (mC mX10_person) 19 = .ok (.aload 4, 2) := by decide +kernel
theorem dX10_person_21 : decode (mC mX10_person) 21 = .ok (.iload_n 2, 1) := by decide +kernel
theorem dX10_person_22 : decode (mC mX10_person) 22 = .ok (.invokevirtual 171, 3) := by decide +kernel
theorem dX10_person_25 : decode (mC mX10_person) 25 = .ok (.astore 5, 2) := by decide +kernel
theorem dX10_person_27 : decode (mC mX10_person) 27 = .ok (.aload 5, 2) := by decide +kernel
theorem dX10_person_29 : decode (mC mX10_person) 29 = .ok (.ifnonnull 6, 3) := by decide +kernel
theorem dX10_person_32 : decode (mC mX10_person) 32 = .ok (.bipush (-2), 2) := by decide +kernel
theorem dX10_person_34 : decode (mC mX10_person) 34 = .ok (.ireturn, 1) := by decide +kernel
theorem dX10_person_35 : decode (mC mX10_person) 35 = .ok (.iload_n 3, 1) := by decide +kernel
theorem dX10_person_36 : decode (mC mX10_person) 36 = .ok (.tableswitch 118 0 9 #[56, 62, 68, 74, 80, 86, 92, 98, 104, 110], 56) := by decide +kernel
theorem dX10_person_92 : decode (mC mX10_person) 92 = .ok (.aload 5, 2) := by decide +kernel
theorem dX10_person_94 : decode (mC mX10_person) 94 = .ok (.getfield 175, 3) := by decide +kernel
theorem dX10_person_97 : decode (mC mX10_person) 97 = .ok (.ireturn, 1) := by decide +kernel
theorem dX10_person_98 : decode (mC mX10_person) 98 = .ok (.aload 5, 2) := by decide +kernel
theorem dX10_person_100 : decode (mC mX10_person) 100 = .ok (.getfield 180, 3) := by decide +kernel
theorem dX10_person_103 : decode (mC mX10_person) 103 = .ok (.ireturn, 1) := by decide +kernel
theorem dX10_person_104 : decode (mC mX10_person) 104 = .ok (.aload 5, 2) := by decide +kernel
theorem dX10_person_106 : decode (mC mX10_person) 106 = .ok (.getfield 183, 3) := by decide +kernel
theorem dX10_person_109 : decode (mC mX10_person) 109 = .ok (.ireturn, 1) := by decide +kernel
theorem dX10_person_110 : decode (mC mX10_person) 110 = .ok (.aload 5, 2) := by decide +kernel
theorem dX10_person_112 : decode (mC mX10_person) 112 = .ok (.getfield 186, 3) := by decide +kernel
theorem dX10_person_115 : decode (mC mX10_person) 115 = .ok (.ireturn, 1) := by decide +kernel
theorem dX10_person_116 : decode (mC mX10_person) 116 = .ok (.aload 5, 2) := by decide +kernel
theorem dX10_person_118 : decode (mC mX10_person) 118 = .ok (.getfield 189, 3) := by decide +kernel
theorem dX10_person_121 : decode (mC mX10_person) 121 = .ok (.ireturn, 1) := by decide +kernel
theorem dX10_person_122 : decode (mC mX10_person) 122 = .ok (.aload 5, 2) := by decide +kernel
theorem dX10_person_124 : decode (mC mX10_person) 124 = .ok (.getfield 192, 3) := by decide +kernel
theorem dX10_person_127 : decode (mC mX10_person) 127 = .ok (.ireturn, 1) := by decide +kernel
theorem dX10_person_128 : decode (mC mX10_person) 128 = .ok (.aload 5, 2) := by decide +kernel
theorem dX10_person_130 : decode (mC mX10_person) 130 = .ok (.getfield 195, 3) := by decide +kernel
theorem dX10_person_133 : decode (mC mX10_person) 133 = .ok (.ireturn, 1) := by decide +kernel
theorem dX10_person_134 : decode (mC mX10_person) 134 = .ok (.aload 5, 2) := by decide +kernel
theorem dX10_person_136 : decode (mC mX10_person) 136 = .ok (.getfield 198, 3) := by decide +kernel
theorem dX10_person_139 : decode (mC mX10_person) 139 = .ok (.ireturn, 1) := by decide +kernel
theorem dX10_person_140 : decode (mC mX10_person) 140 = .ok (.aload 5, 2) := by decide +kernel
theorem dX10_person_142 : decode (mC mX10_person) 142 = .ok (.getfield 201, 3) := by decide +kernel
theorem dX10_person_145 : decode (mC mX10_person) 145 = .ok (.ireturn, 1) := by decide +kernel
theorem dX10_person_146 : decode (mC mX10_person) 146 = .ok (.aload 4, 2) := by decide +kernel
theorem dX10_person_148 : decode (mC mX10_person) 148 = .ok (.aload 5, 2) := by decide +kernel
theorem dX10_person_150 : decode (mC mX10_person) 150 = .ok (.invokevirtual 204, 3) := by decide +kernel
theorem dX10_person_153 : decode (mC mX10_person) 153 = .ok (.ireturn, 1) := by decide +kernel
theorem dX10_person_154 : decode (mC mX10_person) 154 = .ok (.bipush (-2), 2) := by decide +kernel
theorem dX10_person_156 : decode (mC mX10_person) 156 = .ok (.ireturn, 1) := by decide +kernel
theorem dX10_where_0 : decode (mC mX10_where) 0 = .ok (.aload_n 0, 1) := by decide +kernel
theorem dX10_where_1 : decode (mC mX10_where) 1 = .ok (.getfield 12, 3) := by decide +kernel
theorem dX10_where_4 : decode (mC mX10_where) 4 = .ok (.iload_n 1, 1) := by decide +kernel
theorem dX10_where_5 : decode (mC mX10_where) 5 = .ok (.invokevirtual 144, 3) := by decide +kernel
theorem dX10_where_8 : decode (mC mX10_where) 8 = .ok (.astore 4, 2) := by decide +kernel
theorem dX10_where_10 : decode (mC mX10_where) 10 = .ok (.aload 4, 2) := by decide +kernel
theorem dX10_where_12 : decode (mC mX10_where) 12 = .ok (.ifnull 19, 3) := by decide +kernel
theorem dX10_where_15 : decode (mC mX10_where) 15 = .ok (.aload 4, 2) := by decide +kernel
theorem dX10_where_17 : decode (mC mX10_where) 17 = .ok (.iload_n 2, 1) := by decide +kernel
theorem dX10_where_18 : decode (mC mX10_where) 18 = .ok (.invokevirtual 171, 3) := by decide +kernel
theorem dX10_where_21 : decode (mC mX10_where) 21 = .ok (.ifnull 10, 3) := by decide +kernel
theorem dX10_where_24 : decode (mC mX10_where) 24 = .ok (.iload_n 3, 1) := by decide +kernel
theorem dX10_where_25 : decode (mC mX10_where) 25 = .ok (.invokestatic 208, 3) := by decide +kernel
theorem dX10_where_28 : decode (mC mX10_where) 28 = .ok (.ifCond .ne 6, 3) := by decide +kernel
theorem dX10_where_31 : decode (mC mX10_where) 31 = .ok (.bipush (-2), 2) := by decide +kernel
theorem dX10_where_33 : decode (mC mX10_where) 33 = .ok (.ireturn, 1) := by decide +kernel
theorem dX10_where_34 : decode (mC mX10_where) 34 = .ok (.aload 4, 2) := by decide +kernel
theorem dX10_where_36 : decode (mC mX10_where) 36 = .ok (.iload_n 2, 1) := by decide +kernel
theorem dX10_where_37 : decode (mC mX10_where) 37 = .ok (.iload_n 3, 1) := by decide +kernel
theorem dX10_where_38 : decode (mC mX10_where) 38 = .ok (.invokevirtual 212, 3) := by decide +kernel
theorem dX10_where_41 : decode (mC mX10_where) 41 = .ok (.ireturn, 1) := by decide +kernel
theorem dX10_near_0 : decode (mC mX10_near) 0 = .ok (.aload_n 0, 1) := by decide +kernel
theorem dX10_near_1 : decode (mC mX10_near) 1 = .ok (.getfield 12, 3) := by decide +kernel
theorem dX10_near_4 : decode (mC mX10_near) 4 = .ok (.iload_n 1, 1) := by decide +kernel
theorem dX10_near_5 : decode (mC mX10_near) 5 = .ok (.invokevirtual 144, 3) := by decide +kernel
theorem dX10_near_8 : decode (mC mX10_near) 8 = .ok (.astore 5, 2) := by decide +kernel
theorem dX10_near_10 : decode (mC mX10_near) 10 = .ok (.aload 5, 2) := by decide +kernel
theorem dX10_near_12 : decode (mC mX10_near) 12 = .ok (.ifnull 30, 3) := by decide +kernel
theorem dX10_near_15 : decode (mC mX10_near) 15 = .ok (.aload 5, 2) := by decide +kernel
theorem dX10_near_17 : decode (mC mX10_near) 17 = .ok (.iload_n 2, 1) := by decide +kernel
theorem dX10_near_18 : decode (mC mX10_near) 18 = .ok (.invokevirtual 215, 3) := by decide +kernel
theorem dX10_near_21 : decode (mC mX10_near) 21 = .ok (.ifCond .eq 21, 3) := by decide +kernel
theorem dX10_near_24 : decode (mC mX10_near) 24 = .ok (.iload_n 3, 1) := by decide +kernel
theorem dX10_near_25 : decode (mC mX10_near) 25 = .ok (.ifCond .lt 17, 3) := by decide +kernel
theorem dX10_near_28 : decode (mC mX10_near) 28 = .ok (.iload_n 3, 1) := by decide +kernel
theorem dX10_near_29 : decode (mC mX10_near) 29 = .ok (.bipush 14, 2) := by decide +kernel
theorem dX10_near_31 : decode (mC mX10_near) 31 = .ok (.if_icmp .gt 11, 3) := by decide +kernel
theorem dX10_near_34 : decode (mC mX10_near) 34 = .ok (.iload 4, 2) := by decide +kernel
theorem dX10_near_36 : decode (mC mX10_near) 36 = .ok (.invokestatic 208, 3) := by decide +kernel
theorem dX10_near_39 : decode (mC mX10_near) 39 = .ok (.ifCond .ne 5, 3) := by decide +kernel
theorem dX10_near_42 : decode (mC mX10_near) 42 = .ok (.iconst (-1), 1) := by decide +kernel
theorem dX10_near_43 : decode (mC mX10_near) 43 = .ok (.ireturn, 1) := by decide +kernel
theorem dX10_near_44 : decode (mC mX10_near) 44 = .ok (.iconst 0, 1) := by decide +kernel
theorem dX10_near_45 : decode (mC mX10_near) 45 = .ok (.istore 6, 2) := by decide +kernel
theorem dX10_near_47 : decode (mC mX10_near) 47 = .ok (.iconst 0, 1) := by decide +kernel
theorem dX10_near_48 : decode (mC mX10_near) 48 = .ok (.istore 7, 2) := by decide +kernel
theorem dX10_near_50 : decode (mC mX10_near) 50 = .ok (.iload 7, 2) := by decide +kernel
theorem dX10_near_52 : decode (mC mX10_near) 52 = .ok (.aload 5, 2) := by decide +kernel
theorem dX10_near_54 : decode (mC mX10_near) 54 = .ok (.getfield 157, 3) := by decide +kernel
theorem dX10_near_57 : decode (mC mX10_near) 57 = .ok (.if_icmp .ge 47, 3) := by decide +kernel
theorem dX10_near_60 : decode (mC mX10_near) 60 = .ok (.aload 5, 2) := by decide +kernel
theorem dX10_near_62 : decode (mC mX10_near) 62 = .ok (.iload 7, 2) := by decide +kernel
theorem dX10_near_64 : decode (mC mX10_near) 64 = .ok (.iload 4, 2) := by decide +kernel
theorem dX10_near_66 : decode (mC mX10_near) 66 = .ok (.invokevirtual 212, 3) := by decide +kernel
theorem dX10_near_69 : decode (mC mX10_near) 69 = .ok (.istore 8, 2) := by decide +kernel
theorem dX10_near_71 : decode (mC mX10_near) 71 = .ok (.iload 8, 2) := by decide +kernel
theorem dX10_near_73 : decode (mC mX10_near) 73 = .ok (.iconst (-1), 1) := by decide +kernel
theorem dX10_near_74 : decode (mC mX10_near) 74 = .ok (.if_icmp .eq 24, 3) := by decide +kernel
theorem dX10_near_77 : decode (mC mX10_near) 77 = .ok (.aload 5, 2) := by decide +kernel
theorem dX10_near_79 : decode (mC mX10_near) 79 = .ok (.iload 8, 2) := by decide +kernel
theorem dX10_near_81 : decode (mC mX10_near) 81 = .ok (.iload_n 2, 1) := by decide +kernel
theorem dX10_near_82 : decode (mC mX10_near) 82 = .ok (.invokevirtual 218, 3) := by decide +kernel
theorem dX10_near_85 : decode (mC mX10_near) 85 = .ok (.iload_n 3, 1) := by decide +kernel
theorem dX10_near_86 : decode (mC mX10_near) 86 = .ok (.if_icmp .gt 12, 3) := by decide +kernel
theorem dX10_near_89 : decode (mC mX10_near) 89 = .ok (.iload 6, 2) := by decide +kernel
theorem dX10_near_91 : decode (mC mX10_near) 91 = .ok (.iconst 1, 1) := by decide +kernel
theorem dX10_near_92 : decode (mC mX10_near) 92 = .ok (.iload 7, 2) := by decide +kernel
theorem dX10_near_94 : decode (mC mX10_near) 94 = .ok (.ishl, 1) := by decide +kernel
theorem dX10_near_95 : decode (mC mX10_near) 95 = .ok (.ior, 1) := by decide +kernel
theorem dX10_near_96 : decode (mC mX10_near) 96 = .ok (.istore 6, 2) := by decide +kernel
theorem dX10_near_98 : decode (mC mX10_near) 98 = .ok (.iinc 7 1, 3) := by decide +kernel
theorem dX10_near_101 : decode (mC mX10_near) 101 = .ok (.goto (-51), 3) := by decide +kernel
theorem dX10_near_104 : decode (mC mX10_near) 104 = .ok (.iload 6, 2) := by decide +kernel
theorem dX10_near_106 : decode (mC mX10_near) 106 = .ok (.ireturn, 1) := by decide +kernel
theorem dX10_print_0 : decode (mC mX10_print) 0 = .ok (.aload_n 0, 1) := by decide +kernel
theorem dX10_print_1 : decode (mC mX10_print) 1 = .ok (.getfield 12, 3) := by decide +kernel
theorem dX10_print_4 : decode (mC mX10_print) 4 = .ok (.iload_n 1, 1) := by decide +kernel
theorem dX10_print_5 : decode (mC mX10_print) 5 = .ok (.invokevirtual 144, 3) := by decide +kernel
theorem dX10_print_8 : decode (mC mX10_print) 8 = .ok (.astore 5, 2) := by decide +kernel
theorem dX10_print_10 : decode (mC mX10_print) 10 = .ok (.aload 5, 2) := by decide +kernel
theorem dX10_print_12 : decode (mC mX10_print) 12 = .ok (.ifnull 10, 3) := by decide +kernel
theorem dX10_print_15 : decode (mC mX10_print) 15 = .ok (.iload_n 2, 1) := by decide +kernel
theorem dX10_print_16 : decode (mC mX10_print) 16 = .ok (.invokestatic 208, 3) := by decide +kernel
theorem dX10_print_19 : decode (mC mX10_print) 19 = .ok (.ifCond .ne 6, 3) := by decide +kernel
theorem dX10_print_22 : decode (mC mX10_print) 22 = .ok (.bipush (-2), 2) := by decide +kernel
theorem dX10_print_24 : decode (mC mX10_print) 24 = .ok (.ireturn, 1) := by decide +kernel
theorem dX10_print_25 : decode (mC mX10_print) 25 = .ok (.aload_n 0, 1) := by decide +kernel
theorem dX10_print_26 : decode (mC mX10_print) 26 = .ok (.getfield 34, 3) := by decide +kernel
theorem dX10_print_29 : decode (mC mX10_print) 29 = .ok (.aload 5, 2) := by decide +kernel
theorem dX10_print_31 : decode (mC mX10_print) 31 = .ok (.iload_n 2, 1) := by decide +kernel
theorem dX10_print_32 : decode (mC mX10_print) 32 = .ok (.invokevirtual 221, 3) := by decide +kernel
theorem dX10_print_35 : decode (mC mX10_print) 35 = .ok (.iload_n 3, 1) := by decide +kernel
theorem dX10_print_36 : decode (mC mX10_print) 36 = .ok (.iconst (-1), 1) := by decide +kernel
theorem dX10_print_37 : decode (mC mX10_print) 37 = .ok (.if_icmp .ne 21, 3) := by decide +kernel
theorem dX10_print_40 : decode (mC mX10_print) 40 = .ok (.iload 4, 2) := by decide +kernel
theorem dX10_print_42 : decode (mC mX10_print) 42 = .ok (.ifCond .ne 13, 3) := by decide +kernel
theorem dX10_print_45 : decode (mC mX10_print) 45 = .ok (.aload_n 0, 1) := by decide +kernel
theorem dX10_print_46 : decode (mC mX10_print) 46 = .ok (.getfield 34, 3) := by decide +kernel
theorem dX10_print_49 : decode (mC mX10_print) 49 = .ok (.getfield 225, 3) := by decide +kernel
theorem dX10_print_52 : decode (mC mX10_print) 52 = .ok (.goto 5, 3) := by decide +kernel
theorem dX10_print_55 : decode (mC mX10_print) 55 = .ok (.bipush (-2), 2) := by decide +kernel
theorem dX10_print_57 : decode (mC mX10_print) 57 = .ok (.ireturn, 1) := by decide +kernel
theorem dX10_print_58 : decode (mC mX10_print) 58 = .ok (.aload_n 0, 1) := by decide +kernel
theorem dX10_print_59 : decode (mC mX10_print) 59 = .ok (.getfield 34, 3) := by decide +kernel
theorem dX10_print_62 : decode (mC mX10_print) 62 = .ok (.iload_n 3, 1) := by decide +kernel
theorem dX10_print_63 : decode (mC mX10_print) 63 = .ok (.iload 4, 2) := by decide +kernel
theorem dX10_print_65 : decode (mC mX10_print) 65 = .ok (.invokevirtual 228, 3) := by decide +kernel
theorem dX10_print_68 : decode (mC mX10_print) 68 = .ok (.ireturn, 1) := by decide +kernel
theorem dX10_cell_0 : decode (mC mX10_cell) 0 = .ok (.aload_n 0, 1) := by decide +kernel
theorem dX10_cell_1 : decode (mC mX10_cell) 1 = .ok (.getfield 12, 3) := by decide +kernel
theorem dX10_cell_4 : decode (mC mX10_cell) 4 = .ok (.iload_n 1, 1) := by decide +kernel
theorem dX10_cell_5 : decode (mC mX10_cell) 5 = .ok (.invokevirtual 144, 3) := by decide +kernel
theorem dX10_cell_8 : decode (mC mX10_cell) 8 = .ok (.astore 5, 2) := by decide +kernel
theorem dX10_cell_10 : decode (mC mX10_cell) 10 = .ok (.aload 5, 2) := by decide +kernel
theorem dX10_cell_12 : decode (mC mX10_cell) 12 = .ok (.ifnull 19, 3) := by decide +kernel
theorem dX10_cell_15 : decode (mC mX10_cell) 15 = .ok (.iload_n 2, 1) := by decide +kernel
theorem dX10_cell_16 : decode (mC mX10_cell) 16 = .ok (.invokestatic 208, 3) := by decide +kernel
theorem dX10_cell_19 : decode (mC mX10_cell) 19 = .ok (.ifCond .eq 12, 3) := by decide +kernel
theorem dX10_cell_22 : decode (mC mX10_cell) 22 = .ok (.aload 5, 2) := by decide +kernel
theorem dX10_cell_24 : decode (mC mX10_cell) 24 = .ok (.iload_n 3, 1) := by decide +kernel
theorem dX10_cell_25 : decode (mC mX10_cell) 25 = .ok (.invokevirtual 215, 3) := by decide +kernel
