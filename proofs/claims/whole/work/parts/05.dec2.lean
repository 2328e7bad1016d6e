theorem dX10_cell_28 : decode (mC mX10_cell) 28 = .ok (.ifCond .ne 6, 3) := by decide +kernel
theorem dX10_cell_31 : decode (mC mX10_cell) 31 = .ok (.bipush (-2), 2) := by decide +kernel
theorem dX10_cell_33 : decode (mC mX10_cell) 33 = .ok (.ireturn, 1) := by decide +kernel
theorem dX10_cell_34 : decode (mC mX10_cell) 34 = .ok (.aload_n 0, 1) := by decide +kernel
theorem dX10_cell_35 : decode (mC mX10_cell) 35 = .ok (.getfield 34, 3) := by decide +kernel
theorem dX10_cell_38 : decode (mC mX10_cell) 38 = .ok (.aload 5, 2) := by decide +kernel
theorem dX10_cell_40 : decode (mC mX10_cell) 40 = .ok (.iload_n 2, 1) := by decide +kernel
theorem dX10_cell_41 : decode (mC mX10_cell) 41 = .ok (.invokevirtual 221, 3) := by decide +kernel
theorem dX10_cell_44 : decode (mC mX10_cell) 44 = .ok (.iload 4, 2) := by decide +kernel
theorem dX10_cell_46 : decode (mC mX10_cell) 46 = .ok (.tableswitch 66 0 3 #[30, 39, 48, 57], 30) := by decide +kernel
theorem dX10_cell_76 : decode (mC mX10_cell) 76 = .ok (.aload_n 0, 1) := by decide +kernel
theorem dX10_cell_77 : decode (mC mX10_cell) 77 = .ok (.getfield 34, 3) := by decide +kernel
theorem dX10_cell_80 : decode (mC mX10_cell) 80 = .ok (.iload_n 3, 1) := by decide +kernel
theorem dX10_cell_81 : decode (mC mX10_cell) 81 = .ok (.invokevirtual 231, 3) := by decide +kernel
theorem dX10_cell_84 : decode (mC mX10_cell) 84 = .ok (.ireturn, 1) := by decide +kernel
theorem dX10_cell_85 : decode (mC mX10_cell) 85 = .ok (.aload_n 0, 1) := by decide +kernel
theorem dX10_cell_86 : decode (mC mX10_cell) 86 = .ok (.getfield 34, 3) := by decide +kernel
theorem dX10_cell_89 : decode (mC mX10_cell) 89 = .ok (.iload_n 3, 1) := by decide +kernel
theorem dX10_cell_90 : decode (mC mX10_cell) 90 = .ok (.invokevirtual 234, 3) := by decide +kernel
theorem dX10_cell_93 : decode (mC mX10_cell) 93 = .ok (.ireturn, 1) := by decide +kernel
theorem dX10_cell_94 : decode (mC mX10_cell) 94 = .ok (.aload_n 0, 1) := by decide +kernel
theorem dX10_cell_95 : decode (mC mX10_cell) 95 = .ok (.getfield 34, 3) := by decide +kernel
theorem dX10_cell_98 : decode (mC mX10_cell) 98 = .ok (.iload_n 3, 1) := by decide +kernel
theorem dX10_cell_99 : decode (mC mX10_cell) 99 = .ok (.invokevirtual 237, 3) := by decide +kernel
theorem dX10_cell_102 : decode (mC mX10_cell) 102 = .ok (.ireturn, 1) := by decide +kernel
theorem dX10_cell_103 : decode (mC mX10_cell) 103 = .ok (.aload_n 0, 1) := by decide +kernel
theorem dX10_cell_104 : decode (mC mX10_cell) 104 = .ok (.getfield 34, 3) := by decide +kernel
theorem dX10_cell_107 : decode (mC mX10_cell) 107 = .ok (.iload_n 3, 1) := by decide +kernel
theorem dX10_cell_108 : decode (mC mX10_cell) 108 = .ok (.invokevirtual 240, 3) := by decide +kernel
theorem dX10_cell_111 : decode (mC mX10_cell) 111 = .ok (.ireturn, 1) := by decide +kernel
theorem dX10_cell_112 : decode (mC mX10_cell) 112 = .ok (.bipush (-2), 2) := by decide +kernel
theorem dX10_cell_114 : decode (mC mX10_cell) 114 = .ok (.ireturn, 1) := by decide +kernel
theorem dX10_gait_0 : decode (mC mX10_gait) 0 = .ok (.aload_n 0, 1) := by decide +kernel
theorem dX10_gait_1 : decode (mC mX10_gait) 1 = .ok (.getfield 12, 3) := by decide +kernel
theorem dX10_gait_4 : decode (mC mX10_gait) 4 = .ok (.iload_n 1, 1) := by decide +kernel
theorem dX10_gait_5 : decode (mC mX10_gait) 5 = .ok (.invokevirtual 144, 3) := by decide +kernel
theorem dX10_gait_8 : decode (mC mX10_gait) 8 = .ok (.astore 4, 2) := by decide +kernel
theorem dX10_gait_10 : decode (mC mX10_gait) 10 = .ok (.aload 4, 2) := by decide +kernel
theorem dX10_gait_12 : decode (mC mX10_gait) 12 = .ok (.ifnull 12, 3) := by decide +kernel
theorem dX10_gait_15 : decode (mC mX10_gait) 15 = .ok (.aload 4, 2) := by decide +kernel
theorem dX10_gait_17 : decode (mC mX10_gait) 17 = .ok (.iload_n 2, 1) := by decide +kernel
theorem dX10_gait_18 : decode (mC mX10_gait) 18 = .ok (.invokevirtual 171, 3) := by decide +kernel
theorem dX10_gait_21 : decode (mC mX10_gait) 21 = .ok (.ifnonnull 6, 3) := by decide +kernel
theorem dX10_gait_24 : decode (mC mX10_gait) 24 = .ok (.bipush (-2), 2) := by decide +kernel
theorem dX10_gait_26 : decode (mC mX10_gait) 26 = .ok (.ireturn, 1) := by decide +kernel
theorem dX10_gait_27 : decode (mC mX10_gait) 27 = .ok (.aload_n 0, 1) := by decide +kernel
theorem dX10_gait_28 : decode (mC mX10_gait) 28 = .ok (.getfield 34, 3) := by decide +kernel
theorem dX10_gait_31 : decode (mC mX10_gait) 31 = .ok (.aload 4, 2) := by decide +kernel
theorem dX10_gait_33 : decode (mC mX10_gait) 33 = .ok (.bipush 99, 2) := by decide +kernel
theorem dX10_gait_35 : decode (mC mX10_gait) 35 = .ok (.invokevirtual 221, 3) := by decide +kernel
theorem dX10_gait_38 : decode (mC mX10_gait) 38 = .ok (.iload_n 3, 1) := by decide +kernel
theorem dX10_gait_39 : decode (mC mX10_gait) 39 = .ok (.tableswitch 77 0 3 #[29, 41, 53, 65], 29) := by decide +kernel
theorem dX10_gait_68 : decode (mC mX10_gait) 68 = .ok (.aload_n 0, 1) := by decide +kernel
theorem dX10_gait_69 : decode (mC mX10_gait) 69 = .ok (.getfield 34, 3) := by decide +kernel
theorem dX10_gait_72 : decode (mC mX10_gait) 72 = .ok (.getfield 243, 3) := by decide +kernel
theorem dX10_gait_75 : decode (mC mX10_gait) 75 = .ok (.iload_n 2, 1) := by decide +kernel
theorem dX10_gait_76 : decode (mC mX10_gait) 76 = .ok (.invokestatic 246, 3) := by decide +kernel
theorem dX10_gait_79 : decode (mC mX10_gait) 79 = .ok (.ireturn, 1) := by decide +kernel
theorem dX10_gait_80 : decode (mC mX10_gait) 80 = .ok (.aload_n 0, 1) := by decide +kernel
theorem dX10_gait_81 : decode (mC mX10_gait) 81 = .ok (.getfield 34, 3) := by decide +kernel
theorem dX10_gait_84 : decode (mC mX10_gait) 84 = .ok (.getfield 250, 3) := by decide +kernel
theorem dX10_gait_87 : decode (mC mX10_gait) 87 = .ok (.iload_n 2, 1) := by decide +kernel
theorem dX10_gait_88 : decode (mC mX10_gait) 88 = .ok (.invokestatic 246, 3) := by decide +kernel
theorem dX10_gait_91 : decode (mC mX10_gait) 91 = .ok (.ireturn, 1) := by decide +kernel
theorem dX10_gait_92 : decode (mC mX10_gait) 92 = .ok (.aload_n 0, 1) := by decide +kernel
theorem dX10_gait_93 : decode (mC mX10_gait) 93 = .ok (.getfield 34, 3) := by decide +kernel
theorem dX10_gait_96 : decode (mC mX10_gait) 96 = .ok (.getfield 253, 3) := by decide +kernel
theorem dX10_gait_99 : decode (mC mX10_gait) 99 = .ok (.iload_n 2, 1) := by decide +kernel
theorem dX10_gait_100 : decode (mC mX10_gait) 100 = .ok (.invokestatic 246, 3) := by decide +kernel
theorem dX10_gait_103 : decode (mC mX10_gait) 103 = .ok (.ireturn, 1) := by decide +kernel
theorem dX10_gait_104 : decode (mC mX10_gait) 104 = .ok (.aload_n 0, 1) := by decide +kernel
theorem dX10_gait_105 : decode (mC mX10_gait) 105 = .ok (.getfield 34, 3) := by decide +kernel
theorem dX10_gait_108 : decode (mC mX10_gait) 108 = .ok (.getfield 256, 3) := by decide +kernel
theorem dX10_gait_111 : decode (mC mX10_gait) 111 = .ok (.iload_n 2, 1) := by decide +kernel
theorem dX10_gait_112 : decode (mC mX10_gait) 112 = .ok (.invokestatic 246, 3) := by decide +kernel
theorem dX10_gait_115 : decode (mC mX10_gait) 115 = .ok (.ireturn, 1) := by decide +kernel
theorem dX10_gait_116 : decode (mC mX10_gait) 116 = .ok (.bipush (-2), 2) := by decide +kernel
theorem dX10_gait_118 : decode (mC mX10_gait) 118 = .ok (.ireturn, 1) := by decide +kernel
theorem dX10_dawn_0 : decode (mC mX10_dawn) 0 = .ok (.aload_n 0, 1) := by decide +kernel
theorem dX10_dawn_1 : decode (mC mX10_dawn) 1 = .ok (.getfield 12, 3) := by decide +kernel
theorem dX10_dawn_4 : decode (mC mX10_dawn) 4 = .ok (.iload_n 1, 1) := by decide +kernel
theorem dX10_dawn_5 : decode (mC mX10_dawn) 5 = .ok (.invokevirtual 144, 3) := by decide +kernel
theorem dX10_dawn_8 : decode (mC mX10_dawn) 8 = .ok (.astore_n 3, 1) := by decide +kernel
theorem dX10_dawn_9 : decode (mC mX10_dawn) 9 = .ok (.aload_n 3, 1) := by decide +kernel
theorem dX10_dawn_10 : decode (mC mX10_dawn) 10 = .ok (.ifnonnull 6, 3) := by decide +kernel
theorem dX10_dawn_13 : decode (mC mX10_dawn) 13 = .ok (.bipush (-2), 2) := by decide +kernel
theorem dX10_dawn_15 : decode (mC mX10_dawn) 15 = .ok (.ireturn, 1) := by decide +kernel
theorem dX10_dawn_16 : decode (mC mX10_dawn) 16 = .ok (.aload_n 0, 1) := by decide +kernel
theorem dX10_dawn_17 : decode (mC mX10_dawn) 17 = .ok (.getfield 34, 3) := by decide +kernel
theorem dX10_dawn_20 : decode (mC mX10_dawn) 20 = .ok (.aload_n 3, 1) := by decide +kernel
theorem dX10_dawn_21 : decode (mC mX10_dawn) 21 = .ok (.bipush 99, 2) := by decide +kernel
theorem dX10_dawn_23 : decode (mC mX10_dawn) 23 = .ok (.invokevirtual 221, 3) := by decide +kernel
theorem dX10_dawn_26 : decode (mC mX10_dawn) 26 = .ok (.iload_n 2, 1) := by decide +kernel
theorem dX10_dawn_27 : decode (mC mX10_dawn) 27 = .ok (.tableswitch 49 0 2 #[25, 33, 41], 25) := by decide +kernel
theorem dX10_dawn_52 : decode (mC mX10_dawn) 52 = .ok (.aload_n 0, 1) := by decide +kernel
theorem dX10_dawn_53 : decode (mC mX10_dawn) 53 = .ok (.getfield 34, 3) := by decide +kernel
theorem dX10_dawn_56 : decode (mC mX10_dawn) 56 = .ok (.invokevirtual 259, 3) := by decide +kernel
theorem dX10_dawn_59 : decode (mC mX10_dawn) 59 = .ok (.ireturn, 1) := by decide +kernel
theorem dX10_dawn_60 : decode (mC mX10_dawn) 60 = .ok (.aload_n 0, 1) := by decide +kernel
theorem dX10_dawn_61 : decode (mC mX10_dawn) 61 = .ok (.getfield 34, 3) := by decide +kernel
theorem dX10_dawn_64 : decode (mC mX10_dawn) 64 = .ok (.invokevirtual 262, 3) := by decide +kernel
theorem dX10_dawn_67 : decode (mC mX10_dawn) 67 = .ok (.ireturn, 1) := by decide +kernel
theorem dX10_dawn_68 : decode (mC mX10_dawn) 68 = .ok (.aload_n 0, 1) := by decide +kernel
theorem dX10_dawn_69 : decode (mC mX10_dawn) 69 = .ok (.getfield 34, 3) := by decide +kernel
theorem dX10_dawn_72 : decode (mC mX10_dawn) 72 = .ok (.invokevirtual 265, 3) := by decide +kernel
theorem dX10_dawn_75 : decode (mC mX10_dawn) 75 = .ok (.ireturn, 1) := by decide +kernel
theorem dX10_dawn_76 : decode (mC mX10_dawn) 76 = .ok (.aload_n 3, 1) := by decide +kernel
theorem dX10_dawn_77 : decode (mC mX10_dawn) 77 = .ok (.iload_n 2, 1) := by decide +kernel
theorem dX10_dawn_78 : decode (mC mX10_dawn) 78 = .ok (.bipush 10, 2) := by decide +kernel
theorem dX10_dawn_80 : decode (mC mX10_dawn) 80 = .ok (.isub, 1) := by decide +kernel
theorem dX10_dawn_81 : decode (mC mX10_dawn) 81 = .ok (.invokevirtual 171, 3) := by decide +kernel
theorem dX10_dawn_84 : decode (mC mX10_dawn) 84 = .ok (.ifnonnull 8, 3) := by decide +kernel
theorem dX10_dawn_87 : decode (mC mX10_dawn) 87 = .ok (.bipush (-2), 2) := by decide +kernel
theorem dX10_dawn_89 : decode (mC mX10_dawn) 89 = .ok (.goto 14, 3) := by decide +kernel
theorem dX10_dawn_92 : decode (mC mX10_dawn) 92 = .ok (.aload_n 0, 1) := by decide +kernel
theorem dX10_dawn_93 : decode (mC mX10_dawn) 93 = .ok (.getfield 34, 3) := by decide +kernel
theorem dX10_dawn_96 : decode (mC mX10_dawn) 96 = .ok (.iload_n 2, 1) := by decide +kernel
theorem dX10_dawn_97 : decode (mC mX10_dawn) 97 = .ok (.bipush 10, 2) := by decide +kernel
theorem dX10_dawn_99 : decode (mC mX10_dawn) 99 = .ok (.isub, 1) := by decide +kernel
theorem dX10_dawn_100 : decode (mC mX10_dawn) 100 = .ok (.invokevirtual 268, 3) := by decide +kernel
theorem dX10_dawn_103 : decode (mC mX10_dawn) 103 = .ok (.ireturn, 1) := by decide +kernel
theorem dX10_thieves_0 : decode (mC mX10_thieves) 0 = .ok (.aload_n 0, 1) := by decide +kernel
theorem dX10_thieves_1 : decode (mC mX10_thieves) 1 = .ok (.getfield 12, 3) := by decide +kernel
theorem dX10_thieves_4 : decode (mC mX10_thieves) 4 = .ok (.iload_n 1, 1) := by decide +kernel
theorem dX10_thieves_5 : decode (mC mX10_thieves) 5 = .ok (.invokevirtual 144, 3) := by decide +kernel
theorem dX10_thieves_8 : decode (mC mX10_thieves) 8 = .ok (.astore 5, 2) := by decide +kernel
theorem dX10_thieves_10 : decode (mC mX10_thieves) 10 = .ok (.aload 5, 2) := by decide +kernel
theorem dX10_thieves_12 : decode (mC mX10_thieves) 12 = .ok (.ifnull 33, 3) := by decide +kernel
theorem dX10_thieves_15 : decode (mC mX10_thieves) 15 = .ok (.aload 5, 2) := by decide +kernel
theorem dX10_thieves_17 : decode (mC mX10_thieves) 17 = .ok (.iload_n 2, 1) := by decide +kernel
theorem dX10_thieves_18 : decode (mC mX10_thieves) 18 = .ok (.invokevirtual 215, 3) := by decide +kernel
theorem dX10_thieves_21 : decode (mC mX10_thieves) 21 = .ok (.ifCond .eq 24, 3) := by decide +kernel
theorem dX10_thieves_24 : decode (mC mX10_thieves) 24 = .ok (.iload_n 3, 1) := by decide +kernel
theorem dX10_thieves_25 : decode (mC mX10_thieves) 25 = .ok (.invokestatic 208, 3) := by decide +kernel
theorem dX10_thieves_28 : decode (mC mX10_thieves) 28 = .ok (.ifCond .eq 17, 3) := by decide +kernel
theorem dX10_thieves_31 : decode (mC mX10_thieves) 31 = .ok (.iload 4, 2) := by decide +kernel
theorem dX10_thieves_33 : decode (mC mX10_thieves) 33 = .ok (.invokestatic 208, 3) := by decide +kernel
theorem dX10_thieves_36 : decode (mC mX10_thieves) 36 = .ok (.ifCond .eq 9, 3) := by decide +kernel
theorem dX10_thieves_39 : decode (mC mX10_thieves) 39 = .ok (.iload_n 3, 1) := by decide +kernel
theorem dX10_thieves_40 : decode (mC mX10_thieves) 40 = .ok (.iload 4, 2) := by decide +kernel
theorem dX10_thieves_42 : decode (mC mX10_thieves) 42 = .ok (.if_icmp .le 5, 3) := by decide +kernel
theorem dX10_thieves_45 : decode (mC mX10_thieves) 45 = .ok (.iconst (-1), 1) := by decide +kernel
theorem dX10_thieves_46 : decode (mC mX10_thieves) 46 = .ok (.ireturn, 1) := by decide +kernel
theorem dX10_thieves_47 : decode (mC mX10_thieves) 47 = .ok (.aload_n 0, 1) := by decide +kernel
theorem dX10_thieves_48 : decode (mC mX10_thieves) 48 = .ok (.getfield 34, 3) := by decide +kernel
theorem dX10_thieves_51 : decode (mC mX10_thieves) 51 = .ok (.aload 5, 2) := by decide +kernel
theorem dX10_thieves_53 : decode (mC mX10_thieves) 53 = .ok (.bipush 99, 2) := by decide +kernel
theorem dX10_thieves_55 : decode (mC mX10_thieves) 55 = .ok (.invokevirtual 221, 3) := by decide +kernel
theorem dX10_thieves_58 : decode (mC mX10_thieves) 58 = .ok (.aload_n 0, 1) := by decide +kernel
theorem dX10_thieves_59 : decode (mC mX10_thieves) 59 = .ok (.getfield 34, 3) := by decide +kernel
theorem dX10_thieves_62 : decode (mC mX10_thieves) 62 = .ok (.iload_n 2, 1) := by decide +kernel
theorem dX10_thieves_63 : decode (mC mX10_thieves) 63 = .ok (.invokevirtual 240, 3) := by decide +kernel
theorem dX10_thieves_66 : decode (mC mX10_thieves) 66 = .ok (.istore 6, 2) := by decide +kernel
theorem dX10_thieves_68 : decode (mC mX10_thieves) 68 = .ok (.iconst 0, 1) := by decide +kernel
theorem dX10_thieves_69 : decode (mC mX10_thieves) 69 = .ok (.istore 7, 2) := by decide +kernel
theorem dX10_thieves_71 : decode (mC mX10_thieves) 71 = .ok (.iconst 0, 1) := by decide +kernel
theorem dX10_thieves_72 : decode (mC mX10_thieves) 72 = .ok (.istore 8, 2) := by decide +kernel
theorem dX10_thieves_74 : decode (mC mX10_thieves) 74 = .ok (.iload 8, 2) := by decide +kernel
theorem dX10_thieves_76 : decode (mC mX10_thieves) 76 = .ok (.aload 5, 2) := by decide +kernel
theorem dX10_thieves_78 : decode (mC mX10_thieves) 78 = .ok (.getfield 157, 3) := by decide +kernel
theorem dX10_thieves_81 : decode (mC mX10_thieves) 81 = .ok (.if_icmp .ge 42, 3) := by decide +kernel
theorem dX10_thieves_84 : decode (mC mX10_thieves) 84 = .ok (.iload 6, 2) := by decide +kernel
theorem dX10_thieves_86 : decode (mC mX10_thieves) 86 = .ok (.iload 8, 2) := by decide +kernel
theorem dX10_thieves_88 : decode (mC mX10_thieves) 88 = .ok (.ishr, 1) := by decide +kernel
theorem dX10_thieves_89 : decode (mC mX10_thieves) 89 = .ok (.iconst 1, 1) := by decide +kernel
theorem dX10_thieves_90 : decode (mC mX10_thieves) 90 = .ok (.iand, 1) := by decide +kernel
theorem dX10_thieves_91 : decode (mC mX10_thieves) 91 = .ok (.ifCond .ne 26, 3) := by decide +kernel
theorem dX10_thieves_94 : decode (mC mX10_thieves) 94 = .ok (.aload 5, 2) := by decide +kernel
theorem dX10_thieves_96 : decode (mC mX10_thieves) 96 = .ok (.iload 8, 2) := by decide +kernel
theorem dX10_thieves_98 : decode (mC mX10_thieves) 98 = .ok (.iload_n 2, 1) := by decide +kernel
theorem dX10_thieves_99 : decode (mC mX10_thieves) 99 = .ok (.iload_n 3, 1) := by decide +kernel
theorem dX10_thieves_100 : decode (mC mX10_thieves) 100 = .ok (.iload 4, 2) := by decide +kernel
theorem dX10_thieves_102 : decode (mC mX10_thieves) 102 = .ok (.invokevirtual 271, 3) := by decide +kernel
theorem dX10_thieves_105 : decode (mC mX10_thieves) 105 = .ok (.ifCond .eq 12, 3) := by decide +kernel
theorem dX10_thieves_108 : decode (mC mX10_thieves) 108 = .ok (.iload 7, 2) := by decide +kernel
theorem dX10_thieves_110 : decode (mC mX10_thieves) 110 = .ok (.iconst 1, 1) := by decide +kernel
theorem dX10_thieves_111 : decode (mC mX10_thieves) 111 = .ok (.iload 8, 2) := by decide +kernel
theorem dX10_thieves_113 : decode (mC mX10_thieves) 113 = .ok (.ishl, 1) := by decide +kernel
theorem dX10_thieves_114 : decode (mC mX10_thieves) 114 = .ok (.ior, 1) := by decide +kernel
theorem dX10_thieves_115 : decode (mC mX10_thieves) 115 = .ok (.istore 7, 2) := by decide +kernel
theorem dX10_thieves_117 : decode (mC mX10_thieves) 117 = .ok (.iinc 8 1, 3) := by decide +kernel
theorem dX10_thieves_120 : decode (mC mX10_thieves) 120 = .ok (.goto (-46), 3) := by decide +kernel
theorem dX10_thieves_123 : decode (mC mX10_thieves) 123 = .ok (.iload 7, 2) := by decide +kernel
theorem dX10_thieves_125 : decode (mC mX10_thieves) 125 = .ok (.ireturn, 1) := by decide +kernel
theorem dX10_traps_0 : decode (mC mX10_traps) 0 = .ok (.aload_n 0, 1) := by decide +kernel
theorem dX10_traps_1 : decode (mC mX10_traps) 1 = .ok (.getfield 12, 3) := by decide +kernel
theorem dX10_traps_4 : decode (mC mX10_traps) 4 = .ok (.iload_n 1, 1) := by decide +kernel
theorem dX10_traps_5 : decode (mC mX10_traps) 5 = .ok (.invokevirtual 144, 3) := by decide +kernel
theorem dX10_traps_8 : decode (mC mX10_traps) 8 = .ok (.astore 4, 2) := by decide +kernel
theorem dX10_traps_10 : decode (mC mX10_traps) 10 = .ok (.aload 4, 2) := by decide +kernel
theorem dX10_traps_12 : decode (mC mX10_traps) 12 = .ok (.ifnull 22, 3) := by decide +kernel
theorem dX10_traps_15 : decode (mC mX10_traps) 15 = .ok (.iload_n 2, 1) := by decide +kernel
theorem dX10_traps_16 : decode (mC mX10_traps) 16 = .ok (.iconst 1, 1) := by decide +kernel
theorem dX10_traps_17 : decode (mC mX10_traps) 17 = .ok (.if_icmp .lt 17, 3) := by decide +kernel
theorem dX10_traps_20 : decode (mC mX10_traps) 20 = .ok (.iload_n 2, 1) := by decide +kernel
theorem dX10_traps_21 : decode (mC mX10_traps) 21 = .ok (.iconst 3, 1) := by decide +kernel
theorem dX10_traps_22 : decode (mC mX10_traps) 22 = .ok (.if_icmp .gt 12, 3) := by decide +kernel
theorem dX10_traps_25 : decode (mC mX10_traps) 25 = .ok (.iload_n 3, 1) := by decide +kernel
theorem dX10_traps_26 : decode (mC mX10_traps) 26 = .ok (.ifCond .lt 8, 3) := by decide +kernel
theorem dX10_traps_29 : decode (mC mX10_traps) 29 = .ok (.iload_n 3, 1) := by decide +kernel
theorem dX10_traps_30 : decode (mC mX10_traps) 30 = .ok (.iload_n 2, 1) := by decide +kernel
theorem dX10_traps_31 : decode (mC mX10_traps) 31 = .ok (.if_icmp .le 5, 3) := by decide +kernel
theorem dX10_traps_34 : decode (mC mX10_traps) 34 = .ok (.iconst (-1), 1) := by decide +kernel
theorem dX10_traps_35 : decode (mC mX10_traps) 35 = .ok (.ireturn, 1) := by decide +kernel
theorem dX10_traps_36 : decode (mC mX10_traps) 36 = .ok (.aload_n 0, 1) := by decide +kernel
theorem dX10_traps_37 : decode (mC mX10_traps) 37 = .ok (.getfield 34, 3) := by decide +kernel
theorem dX10_traps_40 : decode (mC mX10_traps) 40 = .ok (.aload 4, 2) := by decide +kernel
theorem dX10_traps_42 : decode (mC mX10_traps) 42 = .ok (.bipush 99, 2) := by decide +kernel
theorem dX10_traps_44 : decode (mC mX10_traps) 44 = .ok (.invokevirtual 221, 3) := by decide +kernel
theorem dX10_traps_47 : decode (mC mX10_traps) 47 = .ok (.aload_n 0, 1) := by decide +kernel
theorem dX10_traps_48 : decode (mC mX10_traps) 48 = .ok (.getfield 62, 3) := by decide +kernel
theorem dX10_traps_51 : decode (mC mX10_traps) 51 = .ok (.aload_n 0, 1) := by decide +kernel
theorem dX10_traps_52 : decode (mC mX10_traps) 52 = .ok (.getfield 34, 3) := by decide +kernel
theorem dX10_traps_55 : decode (mC mX10_traps) 55 = .ok (.aload 4, 2) := by decide +kernel
theorem dX10_traps_57 : decode (mC mX10_traps) 57 = .ok (.invokevirtual 275, 3) := by decide +kernel
theorem dX10_traps_60 : decode (mC mX10_traps) 60 = .ok (.iload_n 2, 1) := by decide +kernel
theorem dX10_traps_61 : decode (mC mX10_traps) 61 = .ok (.invokevirtual 278, 3) := by decide +kernel
theorem dX10_traps_64 : decode (mC mX10_traps) 64 = .ok (.iload_n 3, 1) := by decide +kernel
theorem dX10_traps_65 : decode (mC mX10_traps) 65 = .ok (.ifCond .ne 13, 3) := by decide +kernel
theorem dX10_traps_68 : decode (mC mX10_traps) 68 = .ok (.aload_n 0, 1) := by decide +kernel
theorem dX10_traps_69 : decode (mC mX10_traps) 69 = .ok (.getfield 62, 3) := by decide +kernel
theorem dX10_traps_72 : decode (mC mX10_traps) 72 = .ok (.getfield 282, 3) := by decide +kernel
theorem dX10_traps_75 : decode (mC mX10_traps) 75 = .ok (.goto 16, 3) := by decide +kernel
theorem dX10_traps_78 : decode (mC mX10_traps) 78 = .ok (.aload_n 0, 1) := by decide +kernel
theorem dX10_traps_79 : decode (mC mX10_traps) 79 = .ok (.getfield 62, 3) := by decide +kernel
theorem dX10_traps_82 : decode (mC mX10_traps) 82 = .ok (.getfield 285, 3) := by decide +kernel
theorem dX10_traps_85 : decode (mC mX10_traps) 85 = .ok (.iload_n 3, 1) := by decide +kernel
theorem dX10_traps_86 : decode (mC mX10_traps) 86 = .ok (.iconst 1, 1) := by decide +kernel
theorem dX10_traps_87 : decode (mC mX10_traps) 87 = .ok (.isub, 1) := by decide +kernel
theorem dX10_traps_88 : decode (mC mX10_traps) 88 = .ok (.invokestatic 246, 3) := by decide +kernel
theorem dX10_traps_91 : decode (mC mX10_traps) 91 = .ok (.ireturn, 1) := by decide +kernel
theorem dX10_tax_0 : decode (mC mX10_tax) 0 = .ok (.aload_n 0, 1) := by decide +kernel
theorem dX10_tax_1 : decode (mC mX10_tax) 1 = .ok (.getfield 12, 3) := by decide +kernel
theorem dX10_tax_4 : decode (mC mX10_tax) 4 = .ok (.iload_n 1, 1) := by decide +kernel
theorem dX10_tax_5 : decode (mC mX10_tax) 5 = .ok (.invokevirtual 144, 3) := by decide +kernel
theorem dX10_tax_8 : decode (mC mX10_tax) 8 = .ok (.astore 4, 2) := by decide +kernel
theorem dX10_tax_10 : decode (mC mX10_tax) 10 = .ok (.aload 4, 2) := by decide +kernel
theorem dX10_tax_12 : decode (mC mX10_tax) 12 = .ok (.ifnull 12, 3) := by decide +kernel
theorem dX10_tax_15 : decode (mC mX10_tax) 15 = .ok (.iload_n 2, 1) := by decide +kernel
theorem dX10_tax_16 : decode (mC mX10_tax) 16 = .ok (.ifCond .lt 8, 3) := by decide +kernel
theorem dX10_tax_19 : decode (mC mX10_tax) 19 = .ok (.iload_n 2, 1) := by decide +kernel
theorem dX10_tax_20 : decode (mC mX10_tax) 20 = .ok (.iconst 3, 1) := by decide +kernel
theorem dX10_tax_21 : decode (mC mX10_tax) 21 = .ok (.if_icmp .lt 5, 3) := by decide +kernel
theorem dX10_tax_24 : decode (mC mX10_tax) 24 = .ok (.iconst (-1), 1) := by decide +kernel
theorem dX10_tax_25 : decode (mC mX10_tax) 25 = .ok (.ireturn, 1) := by decide +kernel
theorem dX10_tax_26 : decode (mC mX10_tax) 26 = .ok (.iload_n 3, 1) := by decide +kernel
theorem dX10_tax_27 : decode (mC mX10_tax) 27 = .ok (.iconst (-1), 1) := by decide +kernel
theorem dX10_tax_28 : decode (mC mX10_tax) 28 = .ok (.if_icmp .eq 14, 3) := by decide +kernel
theorem dX10_tax_31 : decode (mC mX10_tax) 31 = .ok (.aload 4, 2) := by decide +kernel
theorem dX10_tax_33 : decode (mC mX10_tax) 33 = .ok (.iload_n 3, 1) := by decide +kernel
theorem dX10_tax_34 : decode (mC mX10_tax) 34 = .ok (.invokevirtual 171, 3) := by decide +kernel
theorem dX10_tax_37 : decode (mC mX10_tax) 37 = .ok (.ifnonnull 5, 3) := by decide +kernel
theorem dX10_tax_40 : decode (mC mX10_tax) 40 = .ok (.iconst (-1), 1) := by decide +kernel
theorem dX10_tax_41 : decode (mC mX10_tax) 41 = .ok (.ireturn, 1) := by decide +kernel
theorem dX10_tax_42 : decode (mC mX10_tax) 42 = .ok (.aload_n 0, 1) := by decide +kernel
theorem dX10_tax_43 : decode (mC mX10_tax) 43 = .ok (.getfield 34, 3) := by decide +kernel
theorem dX10_tax_46 : decode (mC mX10_tax) 46 = .ok (.aload 4, 2) := by decide +kernel
theorem dX10_tax_48 : decode (mC mX10_tax) 48 = .ok (.bipush 99, 2) := by decide +kernel
theorem dX10_tax_50 : decode (mC mX10_tax) 50 = .ok (.invokevirtual 221, 3) := by decide +kernel
theorem dX10_tax_53 : decode (mC mX10_tax) 53 = .ok (.aload_n 0, 1) := by decide +kernel
theorem dX10_tax_54 : decode (mC mX10_tax) 54 = .ok (.getfield 34, 3) := by decide +kernel
theorem dX10_tax_57 : decode (mC mX10_tax) 57 = .ok (.aload 4, 2) := by decide +kernel
theorem dX10_tax_59 : decode (mC mX10_tax) 59 = .ok (.iload_n 2, 1) := by decide +kernel
theorem dX10_tax_60 : decode (mC mX10_tax) 60 = .ok (.iload_n 3, 1) := by decide +kernel
theorem dX10_tax_61 : decode (mC mX10_tax) 61 = .ok (.invokevirtual 288, 3) := by decide +kernel
theorem dX10_tax_64 : decode (mC mX10_tax) 64 = .ok (.ireturn, 1) := by decide +kernel
theorem dX10_fair_0 : decode (mC mX10_fair) 0 = .ok (.aload_n 0, 1) := by decide +kernel
theorem dX10_fair_1 : decode (mC mX10_fair) 1 = .ok (.getfield 12, 3) := by decide +kernel
theorem dX10_fair_4 : decode (mC mX10_fair) 4 = .ok (.iload_n 1, 1) := by decide +kernel
theorem dX10_fair_5 : decode (mC mX10_fair) 5 = .ok (.invokevirtual 144, 3) := by decide +kernel
theorem dX10_fair_8 : decode (mC mX10_fair) 8 = .ok (.astore 4, 2) := by decide +kernel
theorem dX10_fair_10 : decode (mC mX10_fair) 10 = .ok (.aload 4, 2) := by decide +kernel
theorem dX10_fair_12 : decode (mC mX10_fair) 12 = .ok (.ifnull 12, 3) := by decide +kernel
theorem dX10_fair_15 : decode (mC mX10_fair) 15 = .ok (.aload 4, 2) := by decide +kernel
theorem dX10_fair_17 : decode (mC mX10_fair) 17 = .ok (.iload_n 2, 1) := by decide +kernel
theorem dX10_fair_18 : decode (mC mX10_fair) 18 = .ok (.invokevirtual 171, 3) := by decide +kernel
theorem dX10_fair_21 : decode (mC mX10_fair) 21 = .ok (.ifnonnull 7, 3) := by decide +kernel
theorem dX10_fair_24 : decode (mC mX10_fair) 24 = .ok (.ldc2_w 292, 3) := by decide +kernel
theorem dX10_fair_27 : decode (mC mX10_fair) 27 = .ok (.lreturn, 1) := by decide +kernel
theorem dX10_fair_28 : decode (mC mX10_fair) 28 = .ok (.aload_n 0, 1) := by decide +kernel
theorem dX10_fair_29 : decode (mC mX10_fair) 29 = .ok (.getfield 34, 3) := by decide +kernel
theorem dX10_fair_32 : decode (mC mX10_fair) 32 = .ok (.aload 4, 2) := by decide +kernel
theorem dX10_fair_34 : decode (mC mX10_fair) 34 = .ok (.bipush 99, 2) := by decide +kernel
theorem dX10_fair_36 : decode (mC mX10_fair) 36 = .ok (.invokevirtual 221, 3) := by decide +kernel
theorem dX10_fair_39 : decode (mC mX10_fair) 39 = .ok (.aload_n 0, 1) := by decide +kernel
theorem dX10_fair_40 : decode (mC mX10_fair) 40 = .ok (.getfield 34, 3) := by decide +kernel
theorem dX10_fair_43 : decode (mC mX10_fair) 43 = .ok (.iload_n 2, 1) := by decide +kernel
theorem dX10_fair_44 : decode (mC mX10_fair) 44 = .ok (.invokevirtual 294, 3) := by decide +kernel
theorem dX10_fair_47 : decode (mC mX10_fair) 47 = .ok (.istore 5, 2) := by decide +kernel
theorem dX10_fair_49 : decode (mC mX10_fair) 49 = .ok (.iconst 1, 1) := by decide +kernel
theorem dX10_fair_50 : decode (mC mX10_fair) 50 = .ok (.iload 5, 2) := by decide +kernel
theorem dX10_fair_52 : decode (mC mX10_fair) 52 = .ok (.invokestatic 297, 3) := by decide +kernel
theorem dX10_fair_55 : decode (mC mX10_fair) 55 = .ok (.invokestatic 300, 3) := by decide +kernel
theorem dX10_fair_58 : decode (mC mX10_fair) 58 = .ok (.istore 6, 2) := by decide +kernel
theorem dX10_fair_60 : decode (mC mX10_fair) 60 = .ok (.iload_n 3, 1) := by decide +kernel
theorem dX10_fair_61 : decode (mC mX10_fair) 61 = .ok (.ifCond .eq 8, 3) := by decide +kernel
theorem dX10_fair_64 : decode (mC mX10_fair) 64 = .ok (.bipush 60, 2) := by decide +kernel
theorem dX10_fair_66 : decode (mC mX10_fair) 66 = .ok (.goto 5, 3) := by decide +kernel
theorem dX10_fair_69 : decode (mC mX10_fair) 69 = .ok (.iload 5, 2) := by decide +kernel
theorem dX10_fair_71 : decode (mC mX10_fair) 71 = .ok (.iload 6, 2) := by decide +kernel
theorem dX10_fair_73 : decode (mC mX10_fair) 73 = .ok (.idiv, 1) := by decide +kernel
theorem dX10_fair_74 : decode (mC mX10_fair) 74 = .ok (.i2l, 1) := by decide +kernel
theorem dX10_fair_75 : decode (mC mX10_fair) 75 = .ok (.lreturn, 1) := by decide +kernel
theorem dX10_alone_0 : decode (mC mX10_alone) 0 = .ok (.aload_n 0, 1) := by decide +kernel
theorem dX10_alone_1 : decode (mC mX10_alone) 1 = .ok (.getfield 12, 3) := by decide +kernel
theorem dX10_alone_4 : decode (mC mX10_alone) 4 = .ok (.iload_n 1, 1) := by decide +kernel
theorem dX10_alone_5 : decode (mC mX10_alone) 5 = .ok (.invokevirtual 144, 3) := by decide +kernel
theorem dX10_alone_8 : decode (mC mX10_alone) 8 = .ok (.astore_n 3, 1) := by decide +kernel
theorem dX10_alone_9 : decode (mC mX10_alone) 9 = .ok (.aload_n 3, 1) := by decide +kernel
theorem dX10_alone_10 : decode (mC mX10_alone) 10 = .ok (.ifnonnull 6, 3) := by decide +kernel
theorem dX10_alone_13 : decode (mC mX10_alone) 13 = .ok (.bipush (-2), 2) := by decide +kernel
theorem dX10_alone_15 : decode (mC mX10_alone) 15 = .ok (.ireturn, 1) := by decide +kernel
theorem dX10_alone_16 : decode (mC mX10_alone) 16 = .ok (.iload_n 2, 1) := by decide +kernel
theorem dX10_alone_17 : decode (mC mX10_alone) 17 = .ok (.iconst (-1), 1) := by decide +kernel
theorem dX10_alone_18 : decode (mC mX10_alone) 18 = .ok (.if_icmp .ne 9, 3) := by decide +kernel
theorem dX10_alone_21 : decode (mC mX10_alone) 21 = .ok (.aload_n 0, 1) := by decide +kernel
theorem dX10_alone_22 : decode (mC mX10_alone) 22 = .ok (.aload_n 3, 1) := by decide +kernel
theorem dX10_alone_23 : decode (mC mX10_alone) 23 = .ok (.invokevirtual 305, 3) := by decide +kernel
theorem dX10_alone_26 : decode (mC mX10_alone) 26 = .ok (.ireturn, 1) := by decide +kernel
theorem dX10_alone_27 : decode (mC mX10_alone) 27 = .ok (.aload_n 3, 1) := by decide +kernel
theorem dX10_alone_28 : decode (mC mX10_alone) 28 = .ok (.iload_n 2, 1) := by decide +kernel
theorem dX10_alone_29 : decode (mC mX10_alone) 29 = .ok (.invokevirtual 171, 3) := by decide +kernel
theorem dX10_alone_32 : decode (mC mX10_alone) 32 = .ok (.ifnonnull 8, 3) := by decide +kernel
theorem dX10_alone_35 : decode (mC mX10_alone) 35 = .ok (.bipush (-2), 2) := by decide +kernel
theorem dX10_alone_37 : decode (mC mX10_alone) 37 = .ok (.goto 9, 3) := by decide +kernel
theorem dX10_alone_40 : decode (mC mX10_alone) 40 = .ok (.aload_n 0, 1) := by decide +kernel
theorem dX10_alone_41 : decode (mC mX10_alone) 41 = .ok (.aload_n 3, 1) := by decide +kernel
theorem dX10_alone_42 : decode (mC mX10_alone) 42 = .ok (.iload_n 2, 1) := by decide +kernel
theorem dX10_alone_43 : decode (mC mX10_alone) 43 = .ok (.invokevirtual 309, 3) := by decide +kernel
theorem dX10_alone_46 : decode (mC mX10_alone) 46 = .ok (.ireturn, 1) := by decide +kernel
theorem dX10_leavers_0 : decode (mC mX10_leavers) 0 = .ok (.aload_n 0, 1) := by decide +kernel
theorem dX10_leavers_1 : decode (mC mX10_leavers) 1 = .ok (.getfield 34, 3) := by decide +kernel
theorem dX10_leavers_4 : decode (mC mX10_leavers) 4 = .ok (.aload_n 1, 1) := by decide +kernel
theorem dX10_leavers_5 : decode (mC mX10_leavers) 5 = .ok (.bipush 99, 2) := by decide +kernel
theorem dX10_leavers_7 : decode (mC mX10_leavers) 7 = .ok (.invokevirtual 221, 3) := by decide +kernel
theorem dX10_leavers_10 : decode (mC mX10_leavers) 10 = .ok (.iconst 0, 1) := by decide +kernel
theorem dX10_leavers_11 : decode (mC mX10_leavers) 11 = .ok (.istore_n 2, 1) := by decide +kernel
theorem dX10_leavers_12 : decode (mC mX10_leavers) 12 = .ok (.iconst 0, 1) := by decide +kernel
theorem dX10_leavers_13 : decode (mC mX10_leavers) 13 = .ok (.istore_n 3, 1) := by decide +kernel
theorem dX10_leavers_14 : decode (mC mX10_leavers) 14 = .ok (.iload_n 3, 1) := by decide +kernel
theorem dX10_leavers_15 : decode (mC mX10_leavers) 15 = .ok (.aload_n 1, 1) := by decide +kernel
theorem dX10_leavers_16 : decode (mC mX10_leavers) 16 = .ok (.getfield 157, 3) := by decide +kernel
theorem dX10_leavers_19 : decode (mC mX10_leavers) 19 = .ok (.if_icmp .ge 35, 3) := by decide +kernel
theorem dX10_leavers_22 : decode (mC mX10_leavers) 22 = .ok (.aload_n 0, 1) := by decide +kernel
theorem dX10_leavers_23 : decode (mC mX10_leavers) 23 = .ok (.aload_n 1, 1) := by decide +kernel
theorem dX10_leavers_24 : decode (mC mX10_leavers) 24 = .ok (.iload_n 3, 1) := by decide +kernel
theorem dX10_leavers_25 : decode (mC mX10_leavers) 25 = .ok (.invokevirtual 309, 3) := by decide +kernel
theorem dX10_leavers_28 : decode (mC mX10_leavers) 28 = .ok (.bipush 60, 2) := by decide +kernel
theorem dX10_leavers_30 : decode (mC mX10_leavers) 30 = .ok (.imul, 1) := by decide +kernel
theorem dX10_leavers_31 : decode (mC mX10_leavers) 31 = .ok (.aload_n 0, 1) := by decide +kernel
theorem dX10_leavers_32 : decode (mC mX10_leavers) 32 = .ok (.getfield 34, 3) := by decide +kernel
theorem dX10_leavers_35 : decode (mC mX10_leavers) 35 = .ok (.iload_n 3, 1) := by decide +kernel
theorem dX10_leavers_36 : decode (mC mX10_leavers) 36 = .ok (.invokevirtual 294, 3) := by decide +kernel
theorem dX10_leavers_39 : decode (mC mX10_leavers) 39 = .ok (.if_icmp .ge 9, 3) := by decide +kernel
theorem dX10_leavers_42 : decode (mC mX10_leavers) 42 = .ok (.iload_n 2, 1) := by decide +kernel
theorem dX10_leavers_43 : decode (mC mX10_leavers) 43 = .ok (.iconst 1, 1) := by decide +kernel
theorem dX10_leavers_44 : decode (mC mX10_leavers) 44 = .ok (.iload_n 3, 1) := by decide +kernel
theorem dX10_leavers_45 : decode (mC mX10_leavers) 45 = .ok (.ishl, 1) := by decide +kernel
theorem dX10_leavers_46 : decode (mC mX10_leavers) 46 = .ok (.ior, 1) := by decide +kernel
theorem dX10_leavers_47 : decode (mC mX10_leavers) 47 = .ok (.istore_n 2, 1) := by decide +kernel
theorem dX10_leavers_48 : decode (mC mX10_leavers) 48 = .ok (.iinc 3 1, 3) := by decide +kernel
theorem dX10_leavers_51 : decode (mC mX10_leavers) 51 = .ok (.goto (-37), 3) := by decide +kernel
theorem dX10_leavers_54 : decode (mC mX10_leavers) 54 = .ok (.iload_n 2, 1) := by decide +kernel
theorem dX10_leavers_55 : decode (mC mX10_leavers) 55 = .ok (.ireturn, 1) := by decide +kernel
theorem dX10_printsAlone_0 : decode (mC mX10_printsAlone) 0 = .ok (.aload_n 0, 1) := by decide +kernel
theorem dX10_printsAlone_1 : decode (mC mX10_printsAlone) 1 = .ok (.getfield 41, 3) := by decide +kernel
theorem dX10_printsAlone_4 : decode (mC mX10_printsAlone) 4 = .ok (.aload_n 1, 1) := by decide +kernel
theorem dX10_printsAlone_5 : decode (mC mX10_printsAlone) 5 = .ok (.invokevirtual 313, 3) := by decide +kernel
theorem dX10_printsAlone_8 : decode (mC mX10_printsAlone) 8 = .ok (.iconst 0, 1) := by decide +kernel
theorem dX10_printsAlone_9 : decode (mC mX10_printsAlone) 9 = .ok (.istore_n 3, 1) := by decide +kernel
theorem dX10_printsAlone_10 : decode (mC mX10_printsAlone) 10 = .ok (.iload_n 3, 1) := by decide +kernel
theorem dX10_printsAlone_11 : decode (mC mX10_printsAlone) 11 = .ok (.aload_n 0, 1) := by decide +kernel
theorem dX10_printsAlone_12 : decode (mC mX10_printsAlone) 12 = .ok (.getfield 41, 3) := by decide +kernel
theorem dX10_printsAlone_15 : decode (mC mX10_printsAlone) 15 = .ok (.getfield 157, 3) := by decide +kernel
theorem dX10_printsAlone_18 : decode (mC mX10_printsAlone) 18 = .ok (.if_icmp .ge 34, 3) := by decide +kernel
theorem dX10_printsAlone_21 : decode (mC mX10_printsAlone) 21 = .ok (.aload_n 0, 1) := by decide +kernel
theorem dX10_printsAlone_22 : decode (mC mX10_printsAlone) 22 = .ok (.getfield 41, 3) := by decide +kernel
theorem dX10_printsAlone_25 : decode (mC mX10_printsAlone) 25 = .ok (.iload_n 3, 1) := by decide +kernel
theorem dX10_printsAlone_26 : decode (mC mX10_printsAlone) 26 = .ok (.invokevirtual 171, 3) := by decide +kernel
theorem dX10_printsAlone_29 : decode (mC mX10_printsAlone) 29 = .ok (.astore 4, 2) := by decide +kernel
theorem dX10_printsAlone_31 : decode (mC mX10_printsAlone) 31 = .ok (.aload 4, 2) := by decide +kernel
theorem dX10_printsAlone_33 : decode (mC mX10_printsAlone) 33 = .ok (.ifnull 13, 3) := by decide +kernel
theorem dX10_printsAlone_36 : decode (mC mX10_printsAlone) 36 = .ok (.iload_n 3, 1) := by decide +kernel
theorem dX10_printsAlone_37 : decode (mC mX10_printsAlone) 37 = .ok (.iload_n 2, 1) := by decide +kernel
theorem dX10_printsAlone_38 : decode (mC mX10_printsAlone) 38 = .ok (.if_icmp .eq 8, 3) := by decide +kernel
theorem dX10_printsAlone_41 : decode (mC mX10_printsAlone) 41 = .ok (.aload 4, 2) := by decide +kernel
theorem dX10_printsAlone_43 : decode (mC mX10_printsAlone) 43 = .ok (.invokevirtual 316, 3) := by decide +kernel
theorem dX10_printsAlone_46 : decode (mC mX10_printsAlone) 46 = .ok (.iinc 3 1, 3) := by decide +kernel
theorem dX10_printsAlone_49 : decode (mC mX10_printsAlone) 49 = .ok (.goto (-39), 3) := by decide +kernel
theorem dX10_printsAlone_52 : decode (mC mX10_printsAlone) 52 = .ok (.aload_n 0, 1) := by decide +kernel
theorem dX10_printsAlone_53 : decode (mC mX10_printsAlone) 53 = .ok (.getfield 45, 3) := by decide +kernel
theorem dX10_printsAlone_56 : decode (mC mX10_printsAlone) 56 = .ok (.aload_n 0, 1) := by decide +kernel
theorem dX10_printsAlone_57 : decode (mC mX10_printsAlone) 57 = .ok (.getfield 41, 3) := by decide +kernel
theorem dX10_printsAlone_60 : decode (mC mX10_printsAlone) 60 = .ok (.bipush 99, 2) := by decide +kernel
theorem dX10_printsAlone_62 : decode (mC mX10_printsAlone) 62 = .ok (.invokevirtual 221, 3) := by decide +kernel
theorem dX10_printsAlone_65 : decode (mC mX10_printsAlone) 65 = .ok (.aload_n 0, 1) := by decide +kernel
theorem dX10_printsAlone_66 : decode (mC mX10_printsAlone) 66 = .ok (.getfield 45, 3) := by decide +kernel
theorem dX10_printsAlone_69 : decode (mC mX10_printsAlone) 69 = .ok (.getfield 225, 3) := by decide +kernel
theorem dX10_printsAlone_72 : decode (mC mX10_printsAlone) 72 = .ok (.ireturn, 1) := by decide +kernel
theorem dX10_pays_0 : decode (mC mX10_pays) 0 = .ok (.aload_n 0, 1) := by decide +kernel
theorem dX10_pays_1 : decode (mC mX10_pays) 1 = .ok (.getfield 12, 3) := by decide +kernel
theorem dX10_pays_4 : decode (mC mX10_pays) 4 = .ok (.iload_n 1, 1) := by decide +kernel
theorem dX10_pays_5 : decode (mC mX10_pays) 5 = .ok (.invokevirtual 144, 3) := by decide +kernel
theorem dX10_pays_8 : decode (mC mX10_pays) 8 = .ok (.astore_n 3, 1) := by decide +kernel
theorem dX10_pays_9 : decode (mC mX10_pays) 9 = .ok (.aload_n 3, 1) := by decide +kernel
theorem dX10_pays_10 : decode (mC mX10_pays) 10 = .ok (.ifnonnull 5, 3) := by decide +kernel
theorem dX10_pays_13 : decode (mC mX10_pays) 13 = .ok (.iconst (-1), 1) := by decide +kernel
theorem dX10_pays_14 : decode (mC mX10_pays) 14 = .ok (.ireturn, 1) := by decide +kernel
theorem dX10_pays_15 : decode (mC mX10_pays) 15 = .ok (.iload_n 2, 1) := by decide +kernel
theorem dX10_pays_16 : decode (mC mX10_pays) 16 = .ok (.iconst (-1), 1) := by decide +kernel
theorem dX10_pays_17 : decode (mC mX10_pays) 17 = .ok (.if_icmp .ne 9, 3) := by decide +kernel
theorem dX10_pays_20 : decode (mC mX10_pays) 20 = .ok (.aload_n 0, 1) := by decide +kernel
theorem dX10_pays_21 : decode (mC mX10_pays) 21 = .ok (.aload_n 3, 1) := by decide +kernel
theorem dX10_pays_22 : decode (mC mX10_pays) 22 = .ok (.invokevirtual 319, 3) := by decide +kernel
theorem dX10_pays_25 : decode (mC mX10_pays) 25 = .ok (.ireturn, 1) := by decide +kernel
theorem dX10_pays_26 : decode (mC mX10_pays) 26 = .ok (.iload_n 2, 1) := by decide +kernel
theorem dX10_pays_27 : decode (mC mX10_pays) 27 = .ok (.ifCond .lt 8, 3) := by decide +kernel
theorem dX10_pays_30 : decode (mC mX10_pays) 30 = .ok (.iload_n 2, 1) := by decide +kernel
theorem dX10_pays_31 : decode (mC mX10_pays) 31 = .ok (.iconst 3, 1) := by decide +kernel
theorem dX10_pays_32 : decode (mC mX10_pays) 32 = .ok (.if_icmp .lt 7, 3) := by decide +kernel
theorem dX10_pays_35 : decode (mC mX10_pays) 35 = .ok (.iconst (-1), 1) := by decide +kernel
theorem dX10_pays_36 : decode (mC mX10_pays) 36 = .ok (.goto 9, 3) := by decide +kernel
theorem dX10_pays_39 : decode (mC mX10_pays) 39 = .ok (.aload_n 0, 1) := by decide +kernel
theorem dX10_pays_40 : decode (mC mX10_pays) 40 = .ok (.aload_n 3, 1) := by decide +kernel
theorem dX10_pays_41 : decode (mC mX10_pays) 41 = .ok (.iload_n 2, 1) := by decide +kernel
theorem dX10_pays_42 : decode (mC mX10_pays) 42 = .ok (.invokevirtual 322, 3) := by decide +kernel
theorem dX10_pays_45 : decode (mC mX10_pays) 45 = .ok (.ireturn, 1) := by decide +kernel
theorem dX10_dearestLaw_0 : decode (mC mX10_dearestLaw) 0 = .ok (.aload_n 0, 1) := by decide +kernel
theorem dX10_dearestLaw_1 : decode (mC mX10_dearestLaw) 1 = .ok (.getfield 34, 3) := by decide +kernel
theorem dX10_dearestLaw_4 : decode (mC mX10_dearestLaw) 4 = .ok (.aload_n 1, 1) := by decide +kernel
theorem dX10_dearestLaw_5 : decode (mC mX10_dearestLaw) 5 = .ok (.bipush 99, 2) := by decide +kernel
theorem dX10_dearestLaw_7 : decode (mC mX10_dearestLaw) 7 = .ok (.invokevirtual 221, 3) := by decide +kernel
theorem dX10_dearestLaw_10 : decode (mC mX10_dearestLaw) 10 = .ok (.iconst 0, 1) := by decide +kernel
theorem dX10_dearestLaw_11 : decode (mC mX10_dearestLaw) 11 = .ok (.istore_n 2, 1) := by decide +kernel
theorem dX10_dearestLaw_12 : decode (mC mX10_dearestLaw) 12 = .ok (.iconst 1, 1) := by decide +kernel
theorem dX10_dearestLaw_13 : decode (mC mX10_dearestLaw) 13 = .ok (.istore_n 3, 1) := by decide +kernel
theorem dX10_dearestLaw_14 : decode (mC mX10_dearestLaw) 14 = .ok (.iload_n 3, 1) := by decide +kernel
theorem dX10_dearestLaw_15 : decode (mC mX10_dearestLaw) 15 = .ok (.iconst 3, 1) := by decide +kernel
theorem dX10_dearestLaw_16 : decode (mC mX10_dearestLaw) 16 = .ok (.if_icmp .ge 34, 3) := by decide +kernel
theorem dX10_dearestLaw_19 : decode (mC mX10_dearestLaw) 19 = .ok (.aload_n 0, 1) := by decide +kernel
theorem dX10_dearestLaw_20 : decode (mC mX10_dearestLaw) 20 = .ok (.getfield 34, 3) := by decide +kernel
theorem dX10_dearestLaw_23 : decode (mC mX10_dearestLaw) 23 = .ok (.aload_n 1, 1) := by decide +kernel
theorem dX10_dearestLaw_24 : decode (mC mX10_dearestLaw) 24 = .ok (.iload_n 3, 1) := by decide +kernel
theorem dX10_dearestLaw_25 : decode (mC mX10_dearestLaw) 25 = .ok (.iconst (-1), 1) := by decide +kernel
theorem dX10_dearestLaw_26 : decode (mC mX10_dearestLaw) 26 = .ok (.invokevirtual 288, 3) := by decide +kernel
theorem dX10_dearestLaw_29 : decode (mC mX10_dearestLaw) 29 = .ok (.aload_n 0, 1) := by decide +kernel
theorem dX10_dearestLaw_30 : decode (mC mX10_dearestLaw) 30 = .ok (.getfield 34, 3) := by decide +kernel
theorem dX10_dearestLaw_33 : decode (mC mX10_dearestLaw) 33 = .ok (.aload_n 1, 1) := by decide +kernel
theorem dX10_dearestLaw_34 : decode (mC mX10_dearestLaw) 34 = .ok (.iload_n 2, 1) := by decide +kernel
theorem dX10_dearestLaw_35 : decode (mC mX10_dearestLaw) 35 = .ok (.iconst (-1), 1) := by decide +kernel
theorem dX10_dearestLaw_36 : decode (mC mX10_dearestLaw) 36 = .ok (.invokevirtual 288, 3) := by decide +kernel
theorem dX10_dearestLaw_39 : decode (mC mX10_dearestLaw) 39 = .ok (.if_icmp .le 5, 3) := by decide +kernel
theorem dX10_dearestLaw_42 : decode (mC mX10_dearestLaw) 42 = .ok (.iload_n 3, 1) := by decide +kernel
theorem dX10_dearestLaw_43 : decode (mC mX10_dearestLaw) 43 = .ok (.istore_n 2, 1) := by decide +kernel
theorem dX10_dearestLaw_44 : decode (mC mX10_dearestLaw) 44 = .ok (.iinc 3 1, 3) := by decide +kernel
theorem dX10_dearestLaw_47 : decode (mC mX10_dearestLaw) 47 = .ok (.goto (-33), 3) := by decide +kernel
theorem dX10_dearestLaw_50 : decode (mC mX10_dearestLaw) 50 = .ok (.iload_n 2, 1) := by decide +kernel
theorem dX10_dearestLaw_51 : decode (mC mX10_dearestLaw) 51 = .ok (.ireturn, 1) := by decide +kernel
theorem dX10_dearestPayer_0 : decode (mC mX10_dearestPayer) 0 = .ok (.aload_n 0, 1) := by decide +kernel
theorem dX10_dearestPayer_1 : decode (mC mX10_dearestPayer) 1 = .ok (.getfield 34, 3) := by decide +kernel
theorem dX10_dearestPayer_4 : decode (mC mX10_dearestPayer) 4 = .ok (.aload_n 1, 1) := by decide +kernel
theorem dX10_dearestPayer_5 : decode (mC mX10_dearestPayer) 5 = .ok (.bipush 99, 2) := by decide +kernel
theorem dX10_dearestPayer_7 : decode (mC mX10_dearestPayer) 7 = .ok (.invokevirtual 221, 3) := by decide +kernel
theorem dX10_dearestPayer_10 : decode (mC mX10_dearestPayer) 10 = .ok (.iconst (-1), 1) := by decide +kernel
theorem dX10_dearestPayer_11 : decode (mC mX10_dearestPayer) 11 = .ok (.istore_n 3, 1) := by decide +kernel
theorem dX10_dearestPayer_12 : decode (mC mX10_dearestPayer) 12 = .ok (.iconst (-1), 1) := by decide +kernel
theorem dX10_dearestPayer_13 : decode (mC mX10_dearestPayer) 13 = .ok (.istore 4, 2) := by decide +kernel
theorem dX10_dearestPayer_15 : decode (mC mX10_dearestPayer) 15 = .ok (.iconst 0, 1) := by decide +kernel
theorem dX10_dearestPayer_16 : decode (mC mX10_dearestPayer) 16 = .ok (.istore 5, 2) := by decide +kernel
theorem dX10_dearestPayer_18 : decode (mC mX10_dearestPayer) 18 = .ok (.iload 5, 2) := by decide +kernel
theorem dX10_dearestPayer_20 : decode (mC mX10_dearestPayer) 20 = .ok (.aload_n 1, 1) := by decide +kernel
theorem dX10_dearestPayer_21 : decode (mC mX10_dearestPayer) 21 = .ok (.getfield 157, 3) := by decide +kernel
theorem dX10_dearestPayer_24 : decode (mC mX10_dearestPayer) 24 = .ok (.if_icmp .ge 35, 3) := by decide +kernel
theorem dX10_dearestPayer_27 : decode (mC mX10_dearestPayer) 27 = .ok (.aload_n 0, 1) := by decide +kernel
theorem dX10_dearestPayer_28 : decode (mC mX10_dearestPayer) 28 = .ok (.getfield 34, 3) := by decide +kernel
theorem dX10_dearestPayer_31 : decode (mC mX10_dearestPayer) 31 = .ok (.aload_n 1, 1) := by decide +kernel
theorem dX10_dearestPayer_32 : decode (mC mX10_dearestPayer) 32 = .ok (.iload_n 2, 1) := by decide +kernel
theorem dX10_dearestPayer_33 : decode (mC mX10_dearestPayer) 33 = .ok (.iload 5, 2) := by decide +kernel
theorem dX10_dearestPayer_35 : decode (mC mX10_dearestPayer) 35 = .ok (.invokevirtual 288, 3) := by decide +kernel
theorem dX10_dearestPayer_38 : decode (mC mX10_dearestPayer) 38 = .ok (.istore 6, 2) := by decide +kernel
theorem dX10_dearestPayer_40 : decode (mC mX10_dearestPayer) 40 = .ok (.iload 6, 2) := by decide +kernel
theorem dX10_dearestPayer_42 : decode (mC mX10_dearestPayer) 42 = .ok (.iload_n 3, 1) := by decide +kernel
theorem dX10_dearestPayer_43 : decode (mC mX10_dearestPayer) 43 = .ok (.if_icmp .le 10, 3) := by decide +kernel
theorem dX10_dearestPayer_46 : decode (mC mX10_dearestPayer) 46 = .ok (.iload 6, 2) := by decide +kernel
theorem dX10_dearestPayer_48 : decode (mC mX10_dearestPayer) 48 = .ok (.istore_n 3, 1) := by decide +kernel
theorem dX10_dearestPayer_49 : decode (mC mX10_dearestPayer) 49 = .ok (.iload 5, 2) := by decide +kernel
theorem dX10_dearestPayer_51 : decode (mC mX10_dearestPayer) 51 = .ok (.istore 4, 2) := by decide +kernel
theorem dX10_dearestPayer_53 : decode (mC mX10_dearestPayer) 53 = .ok (.iinc 5 1, 3) := by decide +kernel
theorem dX10_dearestPayer_56 : decode (mC mX10_dearestPayer) 56 = .ok (.goto (-38), 3) := by decide +kernel
theorem dX10_dearestPayer_59 : decode (mC mX10_dearestPayer) 59 = .ok (.iload 4, 2) := by decide +kernel
theorem dX10_dearestPayer_61 : decode (mC mX10_dearestPayer) 61 = .ok (.ireturn, 1) := by decide +kernel
theorem dX10_drawn_0 : decode (mC mX10_drawn) 0 = .ok (.aload_n 0, 1) := by decide +kernel
theorem dX10_drawn_1 : decode (mC mX10_drawn) 1 = .ok (.getfield 12, 3) := by decide +kernel
theorem dX10_drawn_4 : decode (mC mX10_drawn) 4 = .ok (.iload_n 1, 1) := by decide +kernel
theorem dX10_drawn_5 : decode (mC mX10_drawn) 5 = .ok (.invokevirtual 144, 3) := by decide +kernel
theorem dX10_drawn_8 : decode (mC mX10_drawn) 8 = .ok (.astore 5, 2) := by decide +kernel
theorem dX10_drawn_10 : decode (mC mX10_drawn) 10 = .ok (.aload 5, 2) := by decide +kernel
theorem dX10_drawn_12 : decode (mC mX10_drawn) 12 = .ok (.ifnull 13, 3) := by decide +kernel
theorem dX10_drawn_15 : decode (mC mX10_drawn) 15 = .ok (.iload_n 3, 1) := by decide +kernel
theorem dX10_drawn_16 : decode (mC mX10_drawn) 16 = .ok (.ifCond .lt 9, 3) := by decide +kernel
theorem dX10_drawn_19 : decode (mC mX10_drawn) 19 = .ok (.iload_n 3, 1) := by decide +kernel
theorem dX10_drawn_20 : decode (mC mX10_drawn) 20 = .ok (.bipush 100, 2) := by decide +kernel
theorem dX10_drawn_22 : decode (mC mX10_drawn) 22 = .ok (.if_icmp .le 5, 3) := by decide +kernel
theorem dX10_drawn_25 : decode (mC mX10_drawn) 25 = .ok (.iconst (-1), 1) := by decide +kernel
theorem dX10_drawn_26 : decode (mC mX10_drawn) 26 = .ok (.ireturn, 1) := by decide +kernel
theorem dX10_drawn_27 : decode (mC mX10_drawn) 27 = .ok (.aload_n 0, 1) := by decide +kernel
theorem dX10_drawn_28 : decode (mC mX10_drawn) 28 = .ok (.getfield 41, 3) := by decide +kernel
theorem dX10_drawn_31 : decode (mC mX10_drawn) 31 = .ok (.aload 5, 2) := by decide +kernel
theorem dX10_drawn_33 : decode (mC mX10_drawn) 33 = .ok (.invokevirtual 313, 3) := by decide +kernel
theorem dX10_drawn_36 : decode (mC mX10_drawn) 36 = .ok (.aload_n 0, 1) := by decide +kernel
theorem dX10_drawn_37 : decode (mC mX10_drawn) 37 = .ok (.getfield 41, 3) := by decide +kernel
theorem dX10_drawn_40 : decode (mC mX10_drawn) 40 = .ok (.iload_n 2, 1) := by decide +kernel
theorem dX10_drawn_41 : decode (mC mX10_drawn) 41 = .ok (.iload_n 3, 1) := by decide +kernel
theorem dX10_drawn_42 : decode (mC mX10_drawn) 42 = .ok (.invokevirtual 325, 3) := by decide +kernel
theorem dX10_drawn_45 : decode (mC mX10_drawn) 45 = .ok (.istore 6, 2) := by decide +kernel
theorem dX10_drawn_47 : decode (mC mX10_drawn) 47 = .ok (.aload_n 0, 1) := by decide +kernel
theorem dX10_drawn_48 : decode (mC mX10_drawn) 48 = .ok (.getfield 45, 3) := by decide +kernel
theorem dX10_drawn_51 : decode (mC mX10_drawn) 51 = .ok (.aload_n 0, 1) := by decide +kernel
theorem dX10_drawn_52 : decode (mC mX10_drawn) 52 = .ok (.getfield 41, 3) := by decide +kernel
theorem dX10_drawn_55 : decode (mC mX10_drawn) 55 = .ok (.bipush 99, 2) := by decide +kernel
theorem dX10_drawn_57 : decode (mC mX10_drawn) 57 = .ok (.invokevirtual 221, 3) := by decide +kernel
theorem dX10_drawn_60 : decode (mC mX10_drawn) 60 = .ok (.iload 4, 2) := by decide +kernel
theorem dX10_drawn_62 : decode (mC mX10_drawn) 62 = .ok (.tableswitch 51 0 2 #[26, 34, 48], 26) := by decide +kernel
theorem dX10_drawn_88 : decode (mC mX10_drawn) 88 = .ok (.aload_n 0, 1) := by decide +kernel
theorem dX10_drawn_89 : decode (mC mX10_drawn) 89 = .ok (.getfield 45, 3) := by decide +kernel
theorem dX10_drawn_92 : decode (mC mX10_drawn) 92 = .ok (.getfield 225, 3) := by decide +kernel
theorem dX10_drawn_95 : decode (mC mX10_drawn) 95 = .ok (.ireturn, 1) := by decide +kernel
theorem dX10_drawn_96 : decode (mC mX10_drawn) 96 = .ok (.aload_n 0, 1) := by decide +kernel
theorem dX10_drawn_97 : decode (mC mX10_drawn) 97 = .ok (.getfield 45, 3) := by decide +kernel
theorem dX10_drawn_100 : decode (mC mX10_drawn) 100 = .ok (.aload_n 0, 1) := by decide +kernel
theorem dX10_drawn_101 : decode (mC mX10_drawn) 101 = .ok (.getfield 41, 3) := by decide +kernel
theorem dX10_drawn_104 : decode (mC mX10_drawn) 104 = .ok (.iconst 2, 1) := by decide +kernel
theorem dX10_drawn_105 : decode (mC mX10_drawn) 105 = .ok (.iconst (-1), 1) := by decide +kernel
theorem dX10_drawn_106 : decode (mC mX10_drawn) 106 = .ok (.invokevirtual 288, 3) := by decide +kernel
theorem dX10_drawn_109 : decode (mC mX10_drawn) 109 = .ok (.ireturn, 1) := by decide +kernel
theorem dX10_drawn_110 : decode (mC mX10_drawn) 110 = .ok (.iload 6, 2) := by decide +kernel
theorem dX10_drawn_112 : decode (mC mX10_drawn) 112 = .ok (.ireturn, 1) := by decide +kernel
theorem dX10_drawn_113 : decode (mC mX10_drawn) 113 = .ok (.aload 5, 2) := by decide +kernel
theorem dX10_drawn_115 : decode (mC mX10_drawn) 115 = .ok (.iload 4, 2) := by decide +kernel
theorem dX10_drawn_117 : decode (mC mX10_drawn) 117 = .ok (.bipush 10, 2) := by decide +kernel
theorem dX10_drawn_119 : decode (mC mX10_drawn) 119 = .ok (.isub, 1) := by decide +kernel
theorem dX10_drawn_120 : decode (mC mX10_drawn) 120 = .ok (.invokevirtual 171, 3) := by decide +kernel
theorem dX10_drawn_123 : decode (mC mX10_drawn) 123 = .ok (.ifnonnull 7, 3) := by decide +kernel
theorem dX10_drawn_126 : decode (mC mX10_drawn) 126 = .ok (.iconst (-1), 1) := by decide +kernel
theorem dX10_drawn_127 : decode (mC mX10_drawn) 127 = .ok (.goto 15, 3) := by decide +kernel
theorem dX10_drawn_130 : decode (mC mX10_drawn) 130 = .ok (.aload_n 0, 1) := by decide +kernel
theorem dX10_drawn_131 : decode (mC mX10_drawn) 131 = .ok (.getfield 45, 3) := by decide +kernel
theorem dX10_drawn_134 : decode (mC mX10_drawn) 134 = .ok (.iload 4, 2) := by decide +kernel
theorem dX10_drawn_136 : decode (mC mX10_drawn) 136 = .ok (.bipush 10, 2) := by decide +kernel
theorem dX10_drawn_138 : decode (mC mX10_drawn) 138 = .ok (.isub, 1) := by decide +kernel
theorem dX10_drawn_139 : decode (mC mX10_drawn) 139 = .ok (.invokevirtual 268, 3) := by decide +kernel
theorem dX10_drawn_142 : decode (mC mX10_drawn) 142 = .ok (.ireturn, 1) := by decide +kernel
theorem dX10_carried_0 : decode (mC mX10_carried) 0 = .ok (.aload_n 0, 1) := by decide +kernel
theorem dX10_carried_1 : decode (mC mX10_carried) 1 = .ok (.getfield 12, 3) := by decide +kernel
theorem dX10_carried_4 : decode (mC mX10_carried) 4 = .ok (.iload_n 1, 1) := by decide +kernel
theorem dX10_carried_5 : decode (mC mX10_carried) 5 = .ok (.invokevirtual 144, 3) := by decide +kernel
theorem dX10_carried_8 : decode (mC mX10_carried) 8 = .ok (.astore 5, 2) := by decide +kernel
theorem dX10_carried_10 : decode (mC mX10_carried) 10 = .ok (.aload 5, 2) := by decide +kernel
theorem dX10_carried_12 : decode (mC mX10_carried) 12 = .ok (.ifnull 26, 3) := by decide +kernel
theorem dX10_carried_15 : decode (mC mX10_carried) 15 = .ok (.aload 5, 2) := by decide +kernel
theorem dX10_carried_17 : decode (mC mX10_carried) 17 = .ok (.iload_n 2, 1) := by decide +kernel
theorem dX10_carried_18 : decode (mC mX10_carried) 18 = .ok (.invokevirtual 171, 3) := by decide +kernel
theorem dX10_carried_21 : decode (mC mX10_carried) 21 = .ok (.ifnull 17, 3) := by decide +kernel
theorem dX10_carried_24 : decode (mC mX10_carried) 24 = .ok (.aload 5, 2) := by decide +kernel
theorem dX10_carried_26 : decode (mC mX10_carried) 26 = .ok (.iload_n 3, 1) := by decide +kernel
theorem dX10_carried_27 : decode (mC mX10_carried) 27 = .ok (.invokevirtual 171, 3) := by decide +kernel
theorem dX10_carried_30 : decode (mC mX10_carried) 30 = .ok (.ifnull 8, 3) := by decide +kernel
theorem dX10_carried_33 : decode (mC mX10_carried) 33 = .ok (.iload_n 2, 1) := by decide +kernel
theorem dX10_carried_34 : decode (mC mX10_carried) 34 = .ok (.iload_n 3, 1) := by decide +kernel
theorem dX10_carried_35 : decode (mC mX10_carried) 35 = .ok (.if_icmp .ne 5, 3) := by decide +kernel
theorem dX10_carried_38 : decode (mC mX10_carried) 38 = .ok (.iconst (-1), 1) := by decide +kernel
theorem dX10_carried_39 : decode (mC mX10_carried) 39 = .ok (.ireturn, 1) := by decide +kernel
theorem dX10_carried_40 : decode (mC mX10_carried) 40 = .ok (.aload_n 0, 1) := by decide +kernel
theorem dX10_carried_41 : decode (mC mX10_carried) 41 = .ok (.getfield 41, 3) := by decide +kernel
theorem dX10_carried_44 : decode (mC mX10_carried) 44 = .ok (.aload 5, 2) := by decide +kernel
theorem dX10_carried_46 : decode (mC mX10_carried) 46 = .ok (.invokevirtual 313, 3) := by decide +kernel
theorem dX10_carried_49 : decode (mC mX10_carried) 49 = .ok (.aload_n 0, 1) := by decide +kernel
theorem dX10_carried_50 : decode (mC mX10_carried) 50 = .ok (.getfield 41, 3) := by decide +kernel
theorem dX10_carried_53 : decode (mC mX10_carried) 53 = .ok (.iload_n 2, 1) := by decide +kernel
theorem dX10_carried_54 : decode (mC mX10_carried) 54 = .ok (.invokevirtual 171, 3) := by decide +kernel
theorem dX10_carried_57 : decode (mC mX10_carried) 57 = .ok (.astore 6, 2) := by decide +kernel
theorem dX10_carried_59 : decode (mC mX10_carried) 59 = .ok (.aload 6, 2) := by decide +kernel
theorem dX10_carried_61 : decode (mC mX10_carried) 61 = .ok (.ifnull 9, 3) := by decide +kernel
theorem dX10_carried_64 : decode (mC mX10_carried) 64 = .ok (.aload 6, 2) := by decide +kernel
theorem dX10_carried_66 : decode (mC mX10_carried) 66 = .ok (.iload_n 3, 1) := by decide +kernel
theorem dX10_carried_67 : decode (mC mX10_carried) 67 = .ok (.putfield 192, 3) := by decide +kernel
theorem dX10_carried_70 : decode (mC mX10_carried) 70 = .ok (.aload_n 0, 1) := by decide +kernel
theorem dX10_carried_71 : decode (mC mX10_carried) 71 = .ok (.getfield 45, 3) := by decide +kernel
theorem dX10_carried_74 : decode (mC mX10_carried) 74 = .ok (.aload_n 0, 1) := by decide +kernel
theorem dX10_carried_75 : decode (mC mX10_carried) 75 = .ok (.getfield 41, 3) := by decide +kernel
theorem dX10_carried_78 : decode (mC mX10_carried) 78 = .ok (.bipush 99, 2) := by decide +kernel
theorem dX10_carried_80 : decode (mC mX10_carried) 80 = .ok (.invokevirtual 221, 3) := by decide +kernel
theorem dX10_carried_83 : decode (mC mX10_carried) 83 = .ok (.aload_n 0, 1) := by decide +kernel
theorem dX10_carried_84 : decode (mC mX10_carried) 84 = .ok (.getfield 45, 3) := by decide +kernel
theorem dX10_carried_87 : decode (mC mX10_carried) 87 = .ok (.iload 4, 2) := by decide +kernel
theorem dX10_carried_89 : decode (mC mX10_carried) 89 = .ok (.ifCond .eq 7, 3) := by decide +kernel
theorem dX10_carried_92 : decode (mC mX10_carried) 92 = .ok (.iload_n 3, 1) := by decide +kernel
theorem dX10_carried_93 : decode (mC mX10_carried) 93 = .ok (.goto 4, 3) := by decide +kernel
theorem dX10_carried_96 : decode (mC mX10_carried) 96 = .ok (.iload_n 2, 1) := by decide +kernel
theorem dX10_carried_97 : decode (mC mX10_carried) 97 = .ok (.invokevirtual 268, 3) := by decide +kernel
theorem dX10_carried_100 : decode (mC mX10_carried) 100 = .ok (.ireturn, 1) := by decide +kernel
theorem dX10_better_0 : decode (mC mX10_better) 0 = .ok (.aload_n 0, 1) := by decide +kernel
theorem dX10_better_1 : decode (mC mX10_better) 1 = .ok (.getfield 12, 3) := by decide +kernel
theorem dX10_better_4 : decode (mC mX10_better) 4 = .ok (.iload_n 1, 1) := by decide +kernel
theorem dX10_better_5 : decode (mC mX10_better) 5 = .ok (.invokevirtual 144, 3) := by decide +kernel
theorem dX10_better_8 : decode (mC mX10_better) 8 = .ok (.astore 4, 2) := by decide +kernel
theorem dX10_better_10 : decode (mC mX10_better) 10 = .ok (.aload 4, 2) := by decide +kernel
theorem dX10_better_12 : decode (mC mX10_better) 12 = .ok (.ifnull 12, 3) := by decide +kernel
theorem dX10_better_15 : decode (mC mX10_better) 15 = .ok (.aload 4, 2) := by decide +kernel
theorem dX10_better_17 : decode (mC mX10_better) 17 = .ok (.iload_n 2, 1) := by decide +kernel
theorem dX10_better_18 : decode (mC mX10_better) 18 = .ok (.invokevirtual 171, 3) := by decide +kernel
theorem dX10_better_21 : decode (mC mX10_better) 21 = .ok (.ifnonnull 5, 3) := by decide +kernel
theorem dX10_better_24 : decode (mC mX10_better) 24 = .ok (.iconst (-1), 1) := by decide +kernel
theorem dX10_better_25 : decode (mC mX10_better) 25 = .ok (.ireturn, 1) := by decide +kernel
theorem dX10_better_26 : decode (mC mX10_better) 26 = .ok (.aload_n 0, 1) := by decide +kernel
theorem dX10_better_27 : decode (mC mX10_better) 27 = .ok (.getfield 41, 3) := by decide +kernel
theorem dX10_better_30 : decode (mC mX10_better) 30 = .ok (.aload 4, 2) := by decide +kernel
theorem dX10_better_32 : decode (mC mX10_better) 32 = .ok (.invokevirtual 313, 3) := by decide +kernel
theorem dX10_better_35 : decode (mC mX10_better) 35 = .ok (.aload_n 0, 1) := by decide +kernel
theorem dX10_better_36 : decode (mC mX10_better) 36 = .ok (.getfield 41, 3) := by decide +kernel
theorem dX10_better_39 : decode (mC mX10_better) 39 = .ok (.iload_n 2, 1) := by decide +kernel
theorem dX10_better_40 : decode (mC mX10_better) 40 = .ok (.invokevirtual 171, 3) := by decide +kernel
theorem dX10_better_43 : decode (mC mX10_better) 43 = .ok (.astore 5, 2) := by decide +kernel
theorem dX10_better_45 : decode (mC mX10_better) 45 = .ok (.aload 5, 2) := by decide +kernel
theorem dX10_better_47 : decode (mC mX10_better) 47 = .ok (.ifnonnull 5, 3) := by decide +kernel
theorem dX10_better_50 : decode (mC mX10_better) 50 = .ok (.iconst (-1), 1) := by decide +kernel
theorem dX10_better_51 : decode (mC mX10_better) 51 = .ok (.ireturn, 1) := by decide +kernel
theorem dX10_better_52 : decode (mC mX10_better) 52 = .ok (.iload_n 3, 1) := by decide +kernel
theorem dX10_better_53 : decode (mC mX10_better) 53 = .ok (.ifCond .ne 10, 3) := by decide +kernel
theorem dX10_better_56 : decode (mC mX10_better) 56 = .ok (.aload_n 0, 1) := by decide +kernel
theorem dX10_better_57 : decode (mC mX10_better) 57 = .ok (.aload 5, 2) := by decide +kernel
theorem dX10_better_59 : decode (mC mX10_better) 59 = .ok (.invokevirtual 328, 3) := by decide +kernel
theorem dX10_better_62 : decode (mC mX10_better) 62 = .ok (.ireturn, 1) := by decide +kernel
theorem dX10_better_63 : decode (mC mX10_better) 63 = .ok (.aload 5, 2) := by decide +kernel
theorem dX10_better_65 : decode (mC mX10_better) 65 = .ok (.getfield 195, 3) := by decide +kernel
theorem dX10_better_68 : decode (mC mX10_better) 68 = .ok (.iconst (-1), 1) := by decide +kernel
theorem dX10_better_69 : decode (mC mX10_better) 69 = .ok (.if_icmp .ne 7, 3) := by decide +kernel
theorem dX10_better_72 : decode (mC mX10_better) 72 = .ok (.iconst (-1), 1) := by decide +kernel
theorem dX10_better_73 : decode (mC mX10_better) 73 = .ok (.goto 10, 3) := by decide +kernel
theorem dX10_better_76 : decode (mC mX10_better) 76 = .ok (.aload_n 0, 1) := by decide +kernel
theorem dX10_better_77 : decode (mC mX10_better) 77 = .ok (.iload_n 2, 1) := by decide +kernel
theorem dX10_better_78 : decode (mC mX10_better) 78 = .ok (.aload 5, 2) := by decide +kernel
theorem dX10_better_80 : decode (mC mX10_better) 80 = .ok (.invokevirtual 331, 3) := by decide +kernel
theorem dX10_better_83 : decode (mC mX10_better) 83 = .ok (.ireturn, 1) := by decide +kernel
theorem dX10_bestSole_0 : decode (mC mX10_bestSole) 0 = .ok (.iconst (-1), 1) := by decide +kernel
theorem dX10_bestSole_1 : decode (mC mX10_bestSole) 1 = .ok (.istore_n 2, 1) := by decide +kernel
theorem dX10_bestSole_2 : decode (mC mX10_bestSole) 2 = .ok (.sipush 151, 3) := by decide +kernel
theorem dX10_bestSole_5 : decode (mC mX10_bestSole) 5 = .ok (.istore_n 3, 1) := by decide +kernel
theorem dX10_bestSole_6 : decode (mC mX10_bestSole) 6 = .ok (.iconst 0, 1) := by decide +kernel
theorem dX10_bestSole_7 : decode (mC mX10_bestSole) 7 = .ok (.istore 4, 2) := by decide +kernel
theorem dX10_bestSole_9 : decode (mC mX10_bestSole) 9 = .ok (.iload 4, 2) := by decide +kernel
theorem dX10_bestSole_11 : decode (mC mX10_bestSole) 11 = .ok (.bipush 6, 2) := by decide +kernel
theorem dX10_bestSole_13 : decode (mC mX10_bestSole) 13 = .ok (.if_icmp .ge 50, 3) := by decide +kernel
theorem dX10_bestSole_16 : decode (mC mX10_bestSole) 16 = .ok (.aload_n 1, 1) := by decide +kernel
theorem dX10_bestSole_17 : decode (mC mX10_bestSole) 17 = .ok (.iload 4, 2) := by decide +kernel
theorem dX10_bestSole_19 : decode (mC mX10_bestSole) 19 = .ok (.putfield 175, 3) := by decide +kernel
theorem dX10_bestSole_22 : decode (mC mX10_bestSole) 22 = .ok (.aload_n 0, 1) := by decide +kernel
theorem dX10_bestSole_23 : decode (mC mX10_bestSole) 23 = .ok (.getfield 45, 3) := by decide +kernel
theorem dX10_bestSole_26 : decode (mC mX10_bestSole) 26 = .ok (.aload_n 0, 1) := by decide +kernel
theorem dX10_bestSole_27 : decode (mC mX10_bestSole) 27 = .ok (.getfield 41, 3) := by decide +kernel
theorem dX10_bestSole_30 : decode (mC mX10_bestSole) 30 = .ok (.bipush 99, 2) := by decide +kernel
theorem dX10_bestSole_32 : decode (mC mX10_bestSole) 32 = .ok (.invokevirtual 221, 3) := by decide +kernel
theorem dX10_bestSole_35 : decode (mC mX10_bestSole) 35 = .ok (.aload_n 0, 1) := by decide +kernel
theorem dX10_bestSole_36 : decode (mC mX10_bestSole) 36 = .ok (.getfield 45, 3) := by decide +kernel
theorem dX10_bestSole_39 : decode (mC mX10_bestSole) 39 = .ok (.getfield 225, 3) := by decide +kernel
theorem dX10_bestSole_42 : decode (mC mX10_bestSole) 42 = .ok (.iload_n 3, 1) := by decide +kernel
theorem dX10_bestSole_43 : decode (mC mX10_bestSole) 43 = .ok (.if_icmp .ge 14, 3) := by decide +kernel
theorem dX10_bestSole_46 : decode (mC mX10_bestSole) 46 = .ok (.aload_n 0, 1) := by decide +kernel
theorem dX10_bestSole_47 : decode (mC mX10_bestSole) 47 = .ok (.getfield 45, 3) := by decide +kernel
theorem dX10_bestSole_50 : decode (mC mX10_bestSole) 50 = .ok (.getfield 225, 3) := by decide +kernel
theorem dX10_bestSole_53 : decode (mC mX10_bestSole) 53 = .ok (.istore_n 3, 1) := by decide +kernel
theorem dX10_bestSole_54 : decode (mC mX10_bestSole) 54 = .ok (.iload 4, 2) := by decide +kernel
theorem dX10_bestSole_56 : decode (mC mX10_bestSole) 56 = .ok (.istore_n 2, 1) := by decide +kernel
theorem dX10_bestSole_57 : decode (mC mX10_bestSole) 57 = .ok (.iinc 4 1, 3) := by decide +kernel
theorem dX10_bestSole_60 : decode (mC mX10_bestSole) 60 = .ok (.goto (-51), 3) := by decide +kernel
theorem dX10_bestSole_63 : decode (mC mX10_bestSole) 63 = .ok (.iload_n 2, 1) := by decide +kernel
theorem dX10_bestSole_64 : decode (mC mX10_bestSole) 64 = .ok (.ireturn, 1) := by decide +kernel
theorem dX10_bestHour_0 : decode (mC mX10_bestHour) 0 = .ok (.iconst (-1), 1) := by decide +kernel
theorem dX10_bestHour_1 : decode (mC mX10_bestHour) 1 = .ok (.istore_n 3, 1) := by decide +kernel
theorem dX10_bestHour_2 : decode (mC mX10_bestHour) 2 = .ok (.sipush 151, 3) := by decide +kernel
theorem dX10_bestHour_5 : decode (mC mX10_bestHour) 5 = .ok (.istore 4, 2) := by decide +kernel
theorem dX10_bestHour_7 : decode (mC mX10_bestHour) 7 = .ok (.iconst 0, 1) := by decide +kernel
theorem dX10_bestHour_8 : decode (mC mX10_bestHour) 8 = .ok (.istore 5, 2) := by decide +kernel
theorem dX10_bestHour_10 : decode (mC mX10_bestHour) 10 = .ok (.iload 5, 2) := by decide +kernel
theorem dX10_bestHour_12 : decode (mC mX10_bestHour) 12 = .ok (.bipush 60, 2) := by decide +kernel
theorem dX10_bestHour_14 : decode (mC mX10_bestHour) 14 = .ok (.if_icmp .gt 52, 3) := by decide +kernel
theorem dX10_bestHour_17 : decode (mC mX10_bestHour) 17 = .ok (.aload_n 2, 1) := by decide +kernel
theorem dX10_bestHour_18 : decode (mC mX10_bestHour) 18 = .ok (.iload 5, 2) := by decide +kernel
theorem dX10_bestHour_20 : decode (mC mX10_bestHour) 20 = .ok (.putfield 198, 3) := by decide +kernel
theorem dX10_bestHour_23 : decode (mC mX10_bestHour) 23 = .ok (.aload_n 0, 1) := by decide +kernel
theorem dX10_bestHour_24 : decode (mC mX10_bestHour) 24 = .ok (.getfield 45, 3) := by decide +kernel
theorem dX10_bestHour_27 : decode (mC mX10_bestHour) 27 = .ok (.aload_n 0, 1) := by decide +kernel
theorem dX10_bestHour_28 : decode (mC mX10_bestHour) 28 = .ok (.getfield 41, 3) := by decide +kernel
theorem dX10_bestHour_31 : decode (mC mX10_bestHour) 31 = .ok (.bipush 99, 2) := by decide +kernel
theorem dX10_bestHour_33 : decode (mC mX10_bestHour) 33 = .ok (.invokevirtual 221, 3) := by decide +kernel
theorem dX10_bestHour_36 : decode (mC mX10_bestHour) 36 = .ok (.aload_n 0, 1) := by decide +kernel
theorem dX10_bestHour_37 : decode (mC mX10_bestHour) 37 = .ok (.getfield 45, 3) := by decide +kernel
theorem dX10_bestHour_40 : decode (mC mX10_bestHour) 40 = .ok (.iload_n 1, 1) := by decide +kernel
theorem dX10_bestHour_41 : decode (mC mX10_bestHour) 41 = .ok (.invokevirtual 268, 3) := by decide +kernel
theorem dX10_bestHour_44 : decode (mC mX10_bestHour) 44 = .ok (.istore 6, 2) := by decide +kernel
theorem dX10_bestHour_46 : decode (mC mX10_bestHour) 46 = .ok (.iload 6, 2) := by decide +kernel
theorem dX10_bestHour_48 : decode (mC mX10_bestHour) 48 = .ok (.iload 4, 2) := by decide +kernel
theorem dX10_bestHour_50 : decode (mC mX10_bestHour) 50 = .ok (.if_icmp .ge 10, 3) := by decide +kernel
theorem dX10_bestHour_53 : decode (mC mX10_bestHour) 53 = .ok (.iload 6, 2) := by decide +kernel
theorem dX10_bestHour_55 : decode (mC mX10_bestHour) 55 = .ok (.istore 4, 2) := by decide +kernel
theorem dX10_bestHour_57 : decode (mC mX10_bestHour) 57 = .ok (.iload 5, 2) := by decide +kernel
theorem dX10_bestHour_59 : decode (mC mX10_bestHour) 59 = .ok (.istore_n 3, 1) := by decide +kernel
theorem dX10_bestHour_60 : decode (mC mX10_bestHour) 60 = .ok (.iinc 5 1, 3) := by decide +kernel
theorem dX10_bestHour_63 : decode (mC mX10_bestHour) 63 = .ok (.goto (-53), 3) := by decide +kernel
theorem dX10_bestHour_66 : decode (mC mX10_bestHour) 66 = .ok (.iload_n 3, 1) := by decide +kernel
theorem dX10_bestHour_67 : decode (mC mX10_bestHour) 67 = .ok (.ireturn, 1) := by decide +kernel
theorem dX10_way_0 : decode (mC mX10_way) 0 = .ok (.aload_n 0, 1) := by decide +kernel
theorem dX10_way_1 : decode (mC mX10_way) 1 = .ok (.getfield 12, 3) := by decide +kernel
theorem dX10_way_4 : decode (mC mX10_way) 4 = .ok (.iload_n 1, 1) := by decide +kernel
theorem dX10_way_5 : decode (mC mX10_way) 5 = .ok (.invokevirtual 144, 3) := by decide +kernel
theorem dX10_way_8 : decode (mC mX10_way) 8 = .ok (.astore 6, 2) := by decide +kernel
theorem dX10_way_10 : decode (mC mX10_way) 10 = .ok (.aload 6, 2) := by decide +kernel
theorem dX10_way_12 : decode (mC mX10_way) 12 = .ok (.ifnull 31, 3) := by decide +kernel
theorem dX10_way_15 : decode (mC mX10_way) 15 = .ok (.aload 6, 2) := by decide +kernel
theorem dX10_way_17 : decode (mC mX10_way) 17 = .ok (.iload_n 2, 1) := by decide +kernel
theorem dX10_way_18 : decode (mC mX10_way) 18 = .ok (.invokevirtual 171, 3) := by decide +kernel
theorem dX10_way_21 : decode (mC mX10_way) 21 = .ok (.ifnull 22, 3) := by decide +kernel
theorem dX10_way_24 : decode (mC mX10_way) 24 = .ok (.aload 6, 2) := by decide +kernel
theorem dX10_way_26 : decode (mC mX10_way) 26 = .ok (.iload_n 3, 1) := by decide +kernel
theorem dX10_way_27 : decode (mC mX10_way) 27 = .ok (.invokevirtual 215, 3) := by decide +kernel
theorem dX10_way_30 : decode (mC mX10_way) 30 = .ok (.ifCond .eq 13, 3) := by decide +kernel
theorem dX10_way_33 : decode (mC mX10_way) 33 = .ok (.aload 6, 2) := by decide +kernel
theorem dX10_way_35 : decode (mC mX10_way) 35 = .ok (.iload 4, 2) := by decide +kernel
theorem dX10_way_37 : decode (mC mX10_way) 37 = .ok (.invokevirtual 215, 3) := by decide +kernel
theorem dX10_way_40 : decode (mC mX10_way) 40 = .ok (.ifCond .ne 5, 3) := by decide +kernel
theorem dX10_way_43 : decode (mC mX10_way) 43 = .ok (.iconst (-1), 1) := by decide +kernel
theorem dX10_way_44 : decode (mC mX10_way) 44 = .ok (.ireturn, 1) := by decide +kernel
theorem dX10_way_45 : decode (mC mX10_way) 45 = .ok (.aload_n 0, 1) := by decide +kernel
theorem dX10_way_46 : decode (mC mX10_way) 46 = .ok (.getfield 34, 3) := by decide +kernel
theorem dX10_way_49 : decode (mC mX10_way) 49 = .ok (.aload 6, 2) := by decide +kernel
theorem dX10_way_51 : decode (mC mX10_way) 51 = .ok (.bipush 99, 2) := by decide +kernel
theorem dX10_way_53 : decode (mC mX10_way) 53 = .ok (.invokevirtual 221, 3) := by decide +kernel
theorem dX10_way_56 : decode (mC mX10_way) 56 = .ok (.aload_n 0, 1) := by decide +kernel
theorem dX10_way_57 : decode (mC mX10_way) 57 = .ok (.getfield 34, 3) := by decide +kernel
theorem dX10_way_60 : decode (mC mX10_way) 60 = .ok (.aload_n 0, 1) := by decide +kernel
theorem dX10_way_61 : decode (mC mX10_way) 61 = .ok (.getfield 48, 3) := by decide +kernel
theorem dX10_way_64 : decode (mC mX10_way) 64 = .ok (.invokevirtual 335, 3) := by decide +kernel
theorem dX10_way_67 : decode (mC mX10_way) 67 = .ok (.aload_n 0, 1) := by decide +kernel
theorem dX10_way_68 : decode (mC mX10_way) 68 = .ok (.getfield 55, 3) := by decide +kernel
theorem dX10_way_71 : decode (mC mX10_way) 71 = .ok (.aload 6, 2) := by decide +kernel
theorem dX10_way_73 : decode (mC mX10_way) 73 = .ok (.aload_n 0, 1) := by decide +kernel
theorem dX10_way_74 : decode (mC mX10_way) 74 = .ok (.getfield 48, 3) := by decide +kernel
theorem dX10_way_77 : decode (mC mX10_way) 77 = .ok (.iload_n 2, 1) := by decide +kernel
theorem dX10_way_78 : decode (mC mX10_way) 78 = .ok (.iload_n 3, 1) := by decide +kernel
theorem dX10_way_79 : decode (mC mX10_way) 79 = .ok (.iload 4, 2) := by decide +kernel
theorem dX10_way_81 : decode (mC mX10_way) 81 = .ok (.invokevirtual 339, 3) := by decide +kernel
theorem dX10_way_84 : decode (mC mX10_way) 84 = .ok (.aload_n 0, 1) := by decide +kernel
theorem dX10_way_85 : decode (mC mX10_way) 85 = .ok (.getfield 55, 3) := by decide +kernel
theorem dX10_way_88 : decode (mC mX10_way) 88 = .ok (.getfield 343, 3) := by decide +kernel
theorem dX10_way_91 : decode (mC mX10_way) 91 = .ok (.iconst (-1), 1) := by decide +kernel
theorem dX10_way_92 : decode (mC mX10_way) 92 = .ok (.if_icmp .ne 5, 3) := by decide +kernel
theorem dX10_way_95 : decode (mC mX10_way) 95 = .ok (.iconst (-1), 1) := by decide +kernel
theorem dX10_way_96 : decode (mC mX10_way) 96 = .ok (.ireturn, 1) := by decide +kernel
theorem dX10_way_97 : decode (mC mX10_way) 97 = .ok (.iload 5, 2) := by decide +kernel
theorem dX10_way_99 : decode (mC mX10_way) 99 = .ok (.lookupswitch 41 #[(0, 25), (1, 33)], 25) := by decide +kernel
theorem dX10_way_124 : decode (mC mX10_way) 124 = .ok (.aload_n 0, 1) := by decide +kernel
theorem dX10_way_125 : decode (mC mX10_way) 125 = .ok (.getfield 55, 3) := by decide +kernel
theorem dX10_way_128 : decode (mC mX10_way) 128 = .ok (.getfield 343, 3) := by decide +kernel
theorem dX10_way_131 : decode (mC mX10_way) 131 = .ok (.ireturn, 1) := by decide +kernel
theorem dX10_way_132 : decode (mC mX10_way) 132 = .ok (.aload_n 0, 1) := by decide +kernel
theorem dX10_way_133 : decode (mC mX10_way) 133 = .ok (.getfield 55, 3) := by decide +kernel
theorem dX10_way_136 : decode (mC mX10_way) 136 = .ok (.getfield 346, 3) := by decide +kernel
theorem dX10_way_139 : decode (mC mX10_way) 139 = .ok (.ireturn, 1) := by decide +kernel
theorem dX10_way_140 : decode (mC mX10_way) 140 = .ok (.iload 5, 2) := by decide +kernel
theorem dX10_way_142 : decode (mC mX10_way) 142 = .ok (.bipush 10, 2) := by decide +kernel
theorem dX10_way_144 : decode (mC mX10_way) 144 = .ok (.if_icmp .lt 36, 3) := by decide +kernel
theorem dX10_way_147 : decode (mC mX10_way) 147 = .ok (.iload 5, 2) := by decide +kernel
theorem dX10_way_149 : decode (mC mX10_way) 149 = .ok (.bipush 10, 2) := by decide +kernel
theorem dX10_way_151 : decode (mC mX10_way) 151 = .ok (.isub, 1) := by decide +kernel
theorem dX10_way_152 : decode (mC mX10_way) 152 = .ok (.aload_n 0, 1) := by decide +kernel
theorem dX10_way_153 : decode (mC mX10_way) 153 = .ok (.getfield 55, 3) := by decide +kernel
theorem dX10_way_156 : decode (mC mX10_way) 156 = .ok (.getfield 346, 3) := by decide +kernel
theorem dX10_way_159 : decode (mC mX10_way) 159 = .ok (.if_icmp .ge 21, 3) := by decide +kernel
theorem dX10_way_162 : decode (mC mX10_way) 162 = .ok (.aload_n 0, 1) := by decide +kernel
theorem dX10_way_163 : decode (mC mX10_way) 163 = .ok (.getfield 55, 3) := by decide +kernel
theorem dX10_way_166 : decode (mC mX10_way) 166 = .ok (.getfield 347, 3) := by decide +kernel
theorem dX10_way_169 : decode (mC mX10_way) 169 = .ok (.iload 5, 2) := by decide +kernel
theorem dX10_way_171 : decode (mC mX10_way) 171 = .ok (.bipush 10, 2) := by decide +kernel
theorem dX10_way_173 : decode (mC mX10_way) 173 = .ok (.isub, 1) := by decide +kernel
theorem dX10_way_174 : decode (mC mX10_way) 174 = .ok (.invokestatic 246, 3) := by decide +kernel
theorem dX10_way_177 : decode (mC mX10_way) 177 = .ok (.goto 4, 3) := by decide +kernel
theorem dX10_way_180 : decode (mC mX10_way) 180 = .ok (.iconst (-1), 1) := by decide +kernel
theorem dX10_way_181 : decode (mC mX10_way) 181 = .ok (.ireturn, 1) := by decide +kernel
theorem dX10_tour_0 : decode (mC mX10_tour) 0 = .ok (.aload_n 0, 1) := by decide +kernel
theorem dX10_tour_1 : decode (mC mX10_tour) 1 = .ok (.getfield 12, 3) := by decide +kernel
theorem dX10_tour_4 : decode (mC mX10_tour) 4 = .ok (.iload_n 1, 1) := by decide +kernel
theorem dX10_tour_5 : decode (mC mX10_tour) 5 = .ok (.invokevirtual 144, 3) := by decide +kernel
theorem dX10_tour_8 : decode (mC mX10_tour) 8 = .ok (.astore_n 3, 1) := by decide +kernel
theorem dX10_tour_9 : decode (mC mX10_tour) 9 = .ok (.aload_n 3, 1) := by decide +kernel
theorem dX10_tour_10 : decode (mC mX10_tour) 10 = .ok (.ifnonnull 5, 3) := by decide +kernel
theorem dX10_tour_13 : decode (mC mX10_tour) 13 = .ok (.iconst (-1), 1) := by decide +kernel
theorem dX10_tour_14 : decode (mC mX10_tour) 14 = .ok (.ireturn, 1) := by decide +kernel
theorem dX10_tour_15 : decode (mC mX10_tour) 15 = .ok (.aload_n 0, 1) := by decide +kernel
theorem dX10_tour_16 : decode (mC mX10_tour) 16 = .ok (.getfield 73, 3) := by decide +kernel
theorem dX10_tour_19 : decode (mC mX10_tour) 19 = .ok (.iload_n 1, 1) := by decide +kernel
theorem dX10_tour_20 : decode (mC mX10_tour) 20 = .ok (.if_icmp .eq 51, 3) := by decide +kernel
theorem dX10_tour_23 : decode (mC mX10_tour) 23 = .ok (.aload_n 0, 1) := by decide +kernel
theorem dX10_tour_24 : decode (mC mX10_tour) 24 = .ok (.getfield 34, 3) := by decide +kernel
theorem dX10_tour_27 : decode (mC mX10_tour) 27 = .ok (.aload_n 3, 1) := by decide +kernel
theorem dX10_tour_28 : decode (mC mX10_tour) 28 = .ok (.bipush 99, 2) := by decide +kernel
theorem dX10_tour_30 : decode (mC mX10_tour) 30 = .ok (.invokevirtual 221, 3) := by decide +kernel
theorem dX10_tour_33 : decode (mC mX10_tour) 33 = .ok (.aload_n 0, 1) := by decide +kernel
theorem dX10_tour_34 : decode (mC mX10_tour) 34 = .ok (.getfield 34, 3) := by decide +kernel
theorem dX10_tour_37 : decode (mC mX10_tour) 37 = .ok (.aload_n 0, 1) := by decide +kernel
theorem dX10_tour_38 : decode (mC mX10_tour) 38 = .ok (.getfield 48, 3) := by decide +kernel
theorem dX10_tour_41 : decode (mC mX10_tour) 41 = .ok (.invokevirtual 335, 3) := by decide +kernel
theorem dX10_tour_44 : decode (mC mX10_tour) 44 = .ok (.aload_n 0, 1) := by decide +kernel
theorem dX10_tour_45 : decode (mC mX10_tour) 45 = .ok (.getfield 69, 3) := by decide +kernel
theorem dX10_tour_48 : decode (mC mX10_tour) 48 = .ok (.aload_n 3, 1) := by decide +kernel
theorem dX10_tour_49 : decode (mC mX10_tour) 49 = .ok (.aload_n 0, 1) := by decide +kernel
theorem dX10_tour_50 : decode (mC mX10_tour) 50 = .ok (.getfield 48, 3) := by decide +kernel
theorem dX10_tour_53 : decode (mC mX10_tour) 53 = .ok (.invokevirtual 350, 3) := by decide +kernel
theorem dX10_tour_56 : decode (mC mX10_tour) 56 = .ok (.aload_n 0, 1) := by decide +kernel
theorem dX10_tour_57 : decode (mC mX10_tour) 57 = .ok (.getfield 69, 3) := by decide +kernel
theorem dX10_tour_60 : decode (mC mX10_tour) 60 = .ok (.iconst 0, 1) := by decide +kernel
theorem dX10_tour_61 : decode (mC mX10_tour) 61 = .ok (.iconst 0, 1) := by decide +kernel
theorem dX10_tour_62 : decode (mC mX10_tour) 62 = .ok (.iconst 0, 1) := by decide +kernel
theorem dX10_tour_63 : decode (mC mX10_tour) 63 = .ok (.invokevirtual 354, 3) := by decide +kernel
theorem dX10_tour_66 : decode (mC mX10_tour) 66 = .ok (.aload_n 0, 1) := by decide +kernel
theorem dX10_tour_67 : decode (mC mX10_tour) 67 = .ok (.iload_n 1, 1) := by decide +kernel
theorem dX10_tour_68 : decode (mC mX10_tour) 68 = .ok (.putfield 73, 3) := by decide +kernel
theorem dX10_tour_71 : decode (mC mX10_tour) 71 = .ok (.aload_n 0, 1) := by decide +kernel
theorem dX10_tour_72 : decode (mC mX10_tour) 72 = .ok (.getfield 69, 3) := by decide +kernel
theorem dX10_tour_75 : decode (mC mX10_tour) 75 = .ok (.getfield 358, 3) := by decide +kernel
theorem dX10_tour_78 : decode (mC mX10_tour) 78 = .ok (.iconst (-1), 1) := by decide +kernel
theorem dX10_tour_79 : decode (mC mX10_tour) 79 = .ok (.if_icmp .ne 5, 3) := by decide +kernel
theorem dX10_tour_82 : decode (mC mX10_tour) 82 = .ok (.iconst (-1), 1) := by decide +kernel
theorem dX10_tour_83 : decode (mC mX10_tour) 83 = .ok (.ireturn, 1) := by decide +kernel
theorem dX10_tour_84 : decode (mC mX10_tour) 84 = .ok (.iload_n 2, 1) := by decide +kernel
theorem dX10_tour_85 : decode (mC mX10_tour) 85 = .ok (.lookupswitch 43 #[(0, 27), (1, 35)], 27) := by decide +kernel
theorem dX10_tour_112 : decode (mC mX10_tour) 112 = .ok (.aload_n 0, 1) := by decide +kernel
theorem dX10_tour_113 : decode (mC mX10_tour) 113 = .ok (.getfield 69, 3) := by decide +kernel
theorem dX10_tour_116 : decode (mC mX10_tour) 116 = .ok (.getfield 358, 3) := by decide +kernel
theorem dX10_tour_119 : decode (mC mX10_tour) 119 = .ok (.ireturn, 1) := by decide +kernel
theorem dX10_tour_120 : decode (mC mX10_tour) 120 = .ok (.aload_n 0, 1) := by decide +kernel
theorem dX10_tour_121 : decode (mC mX10_tour) 121 = .ok (.getfield 69, 3) := by decide +kernel
theorem dX10_tour_124 : decode (mC mX10_tour) 124 = .ok (.getfield 359, 3) := by decide +kernel
theorem dX10_tour_127 : decode (mC mX10_tour) 127 = .ok (.ireturn, 1) := by decide +kernel
theorem dX10_tour_128 : decode (mC mX10_tour) 128 = .ok (.iload_n 2, 1) := by decide +kernel
theorem dX10_tour_129 : decode (mC mX10_tour) 129 = .ok (.bipush 10, 2) := by decide +kernel
theorem dX10_tour_131 : decode (mC mX10_tour) 131 = .ok (.if_icmp .lt 31, 3) := by decide +kernel
theorem dX10_tour_134 : decode (mC mX10_tour) 134 = .ok (.iload_n 2, 1) := by decide +kernel
theorem dX10_tour_135 : decode (mC mX10_tour) 135 = .ok (.bipush 10, 2) := by decide +kernel
theorem dX10_tour_137 : decode (mC mX10_tour) 137 = .ok (.isub, 1) := by decide +kernel
theorem dX10_tour_138 : decode (mC mX10_tour) 138 = .ok (.aload_n 3, 1) := by decide +kernel
theorem dX10_tour_139 : decode (mC mX10_tour) 139 = .ok (.getfield 160, 3) := by decide +kernel
theorem dX10_tour_142 : decode (mC mX10_tour) 142 = .ok (.if_icmp .ge 20, 3) := by decide +kernel
theorem dX10_tour_145 : decode (mC mX10_tour) 145 = .ok (.aload_n 0, 1) := by decide +kernel
theorem dX10_tour_146 : decode (mC mX10_tour) 146 = .ok (.getfield 69, 3) := by decide +kernel
theorem dX10_tour_149 : decode (mC mX10_tour) 149 = .ok (.getfield 360, 3) := by decide +kernel
theorem dX10_tour_152 : decode (mC mX10_tour) 152 = .ok (.iload_n 2, 1) := by decide +kernel
theorem dX10_tour_153 : decode (mC mX10_tour) 153 = .ok (.bipush 10, 2) := by decide +kernel
theorem dX10_tour_155 : decode (mC mX10_tour) 155 = .ok (.isub, 1) := by decide +kernel
theorem dX10_tour_156 : decode (mC mX10_tour) 156 = .ok (.invokestatic 246, 3) := by decide +kernel
theorem dX10_tour_159 : decode (mC mX10_tour) 159 = .ok (.goto 4, 3) := by decide +kernel
theorem dX10_tour_162 : decode (mC mX10_tour) 162 = .ok (.iconst (-1), 1) := by decide +kernel
theorem dX10_tour_163 : decode (mC mX10_tour) 163 = .ok (.ireturn, 1) := by decide +kernel
theorem dX10_sign_0 : decode (mC mX10_sign) 0 = .ok (.aload_n 0, 1) := by decide +kernel
theorem dX10_sign_1 : decode (mC mX10_sign) 1 = .ok (.getfield 12, 3) := by decide +kernel
theorem dX10_sign_4 : decode (mC mX10_sign) 4 = .ok (.iload_n 1, 1) := by decide +kernel
theorem dX10_sign_5 : decode (mC mX10_sign) 5 = .ok (.invokevirtual 363, 3) := by decide +kernel
theorem dX10_sign_8 : decode (mC mX10_sign) 8 = .ok (.astore 4, 2) := by decide +kernel
theorem dX10_sign_10 : decode (mC mX10_sign) 10 = .ok (.aload 4, 2) := by decide +kernel
theorem dX10_sign_12 : decode (mC mX10_sign) 12 = .ok (.ifnonnull 6, 3) := by decide +kernel
theorem dX10_sign_15 : decode (mC mX10_sign) 15 = .ok (.bipush (-2), 2) := by decide +kernel
theorem dX10_sign_17 : decode (mC mX10_sign) 17 = .ok (.ireturn, 1) := by decide +kernel
theorem dX10_sign_18 : decode (mC mX10_sign) 18 = .ok (.iload_n 2, 1) := by decide +kernel
theorem dX10_sign_19 : decode (mC mX10_sign) 19 = .ok (.iconst (-1), 1) := by decide +kernel
theorem dX10_sign_20 : decode (mC mX10_sign) 20 = .ok (.if_icmp .ne 18, 3) := by decide +kernel
theorem dX10_sign_23 : decode (mC mX10_sign) 23 = .ok (.iload_n 3, 1) := by decide +kernel
theorem dX10_sign_24 : decode (mC mX10_sign) 24 = .ok (.ifCond .ne 11, 3) := by decide +kernel
theorem dX10_sign_27 : decode (mC mX10_sign) 27 = .ok (.aload 4, 2) := by decide +kernel
theorem dX10_sign_29 : decode (mC mX10_sign) 29 = .ok (.getfield 367, 3) := by decide +kernel
theorem dX10_sign_32 : decode (mC mX10_sign) 32 = .ok (.goto 5, 3) := by decide +kernel
theorem dX10_sign_35 : decode (mC mX10_sign) 35 = .ok (.bipush (-2), 2) := by decide +kernel
theorem dX10_sign_37 : decode (mC mX10_sign) 37 = .ok (.ireturn, 1) := by decide +kernel
theorem dX10_sign_38 : decode (mC mX10_sign) 38 = .ok (.aload 4, 2) := by decide +kernel
theorem dX10_sign_40 : decode (mC mX10_sign) 40 = .ok (.iload_n 2, 1) := by decide +kernel
theorem dX10_sign_41 : decode (mC mX10_sign) 41 = .ok (.invokevirtual 372, 3) := by decide +kernel
theorem dX10_sign_44 : decode (mC mX10_sign) 44 = .ok (.ifCond .eq 13, 3) := by decide +kernel
theorem dX10_sign_47 : decode (mC mX10_sign) 47 = .ok (.aload 4, 2) := by decide +kernel
theorem dX10_sign_49 : decode (mC mX10_sign) 49 = .ok (.iload_n 2, 1) := by decide +kernel
theorem dX10_sign_50 : decode (mC mX10_sign) 50 = .ok (.iload_n 3, 1) := by decide +kernel
theorem dX10_sign_51 : decode (mC mX10_sign) 51 = .ok (.invokevirtual 375, 3) := by decide +kernel
theorem dX10_sign_54 : decode (mC mX10_sign) 54 = .ok (.goto 5, 3) := by decide +kernel
theorem dX10_sign_57 : decode (mC mX10_sign) 57 = .ok (.bipush (-2), 2) := by decide +kernel
theorem dX10_sign_59 : decode (mC mX10_sign) 59 = .ok (.ireturn, 1) := by decide +kernel
theorem dX10_makers_0 : decode (mC mX10_makers) 0 = .ok (.aload_n 0, 1) := by decide +kernel
theorem dX10_makers_1 : decode (mC mX10_makers) 1 = .ok (.getfield 12, 3) := by decide +kernel
theorem dX10_makers_4 : decode (mC mX10_makers) 4 = .ok (.iload_n 2, 1) := by decide +kernel
theorem dX10_makers_5 : decode (mC mX10_makers) 5 = .ok (.invokevirtual 363, 3) := by decide +kernel
theorem dX10_makers_8 : decode (mC mX10_makers) 8 = .ok (.astore 4, 2) := by decide +kernel
theorem dX10_makers_10 : decode (mC mX10_makers) 10 = .ok (.aload 4, 2) := by decide +kernel
theorem dX10_makers_12 : decode (mC mX10_makers) 12 = .ok (.ifnull 26, 3) := by decide +kernel
theorem dX10_makers_15 : decode (mC mX10_makers) 15 = .ok (.iload_n 3, 1) := by decide +kernel
theorem dX10_makers_16 : decode (mC mX10_makers) 16 = .ok (.iconst (-1), 1) := by decide +kernel
theorem dX10_makers_17 : decode (mC mX10_makers) 17 = .ok (.if_icmp .eq 12, 3) := by decide +kernel
theorem dX10_makers_20 : decode (mC mX10_makers) 20 = .ok (.aload 4, 2) := by decide +kernel
theorem dX10_makers_22 : decode (mC mX10_makers) 22 = .ok (.iload_n 3, 1) := by decide +kernel
theorem dX10_makers_23 : decode (mC mX10_makers) 23 = .ok (.invokevirtual 372, 3) := by decide +kernel
theorem dX10_makers_26 : decode (mC mX10_makers) 26 = .ok (.ifCond .eq 12, 3) := by decide +kernel
theorem dX10_makers_29 : decode (mC mX10_makers) 29 = .ok (.aload_n 0, 1) := by decide +kernel
theorem dX10_makers_30 : decode (mC mX10_makers) 30 = .ok (.iload_n 1, 1) := by decide +kernel
theorem dX10_makers_31 : decode (mC mX10_makers) 31 = .ok (.iload_n 2, 1) := by decide +kernel
theorem dX10_makers_32 : decode (mC mX10_makers) 32 = .ok (.invokevirtual 376, 3) := by decide +kernel
theorem dX10_makers_35 : decode (mC mX10_makers) 35 = .ok (.ifCond .ne 6, 3) := by decide +kernel
theorem dX10_makers_38 : decode (mC mX10_makers) 38 = .ok (.bipush (-2), 2) := by decide +kernel
theorem dX10_makers_40 : decode (mC mX10_makers) 40 = .ok (.ireturn, 1) := by decide +kernel
theorem dX10_makers_41 : decode (mC mX10_makers) 41 = .ok (.iload_n 3, 1) := by decide +kernel
theorem dX10_makers_42 : decode (mC mX10_makers) 42 = .ok (.iconst (-1), 1) := by decide +kernel
theorem dX10_makers_43 : decode (mC mX10_makers) 43 = .ok (.if_icmp .ne 13, 3) := by decide +kernel
theorem dX10_makers_46 : decode (mC mX10_makers) 46 = .ok (.aload_n 0, 1) := by decide +kernel
theorem dX10_makers_47 : decode (mC mX10_makers) 47 = .ok (.getfield 80, 3) := by decide +kernel
theorem dX10_makers_50 : decode (mC mX10_makers) 50 = .ok (.invokevirtual 380, 3) := by decide +kernel
theorem dX10_makers_53 : decode (mC mX10_makers) 53 = .ok (.goto 14, 3) := by decide +kernel
theorem dX10_makers_56 : decode (mC mX10_makers) 56 = .ok (.aload_n 0, 1) := by decide +kernel
theorem dX10_makers_57 : decode (mC mX10_makers) 57 = .ok (.getfield 80, 3) := by decide +kernel
theorem dX10_makers_60 : decode (mC mX10_makers) 60 = .ok (.getfield 383, 3) := by decide +kernel
theorem dX10_makers_63 : decode (mC mX10_makers) 63 = .ok (.iload_n 3, 1) := by decide +kernel
theorem dX10_makers_64 : decode (mC mX10_makers) 64 = .ok (.invokestatic 246, 3) := by decide +kernel
theorem dX10_makers_67 : decode (mC mX10_makers) 67 = .ok (.ireturn, 1) := by decide +kernel
theorem dX10_follows_0 : decode (mC mX10_follows) 0 = .ok (.aload_n 0, 1) := by decide +kernel
theorem dX10_follows_1 : decode (mC mX10_follows) 1 = .ok (.getfield 12, 3) := by decide +kernel
theorem dX10_follows_4 : decode (mC mX10_follows) 4 = .ok (.iload_n 2, 1) := by decide +kernel
theorem dX10_follows_5 : decode (mC mX10_follows) 5 = .ok (.invokevirtual 363, 3) := by decide +kernel
theorem dX10_follows_8 : decode (mC mX10_follows) 8 = .ok (.astore 4, 2) := by decide +kernel
theorem dX10_follows_10 : decode (mC mX10_follows) 10 = .ok (.aload 4, 2) := by decide +kernel
theorem dX10_follows_12 : decode (mC mX10_follows) 12 = .ok (.ifnull 26, 3) := by decide +kernel
theorem dX10_follows_15 : decode (mC mX10_follows) 15 = .ok (.iload_n 3, 1) := by decide +kernel
theorem dX10_follows_16 : decode (mC mX10_follows) 16 = .ok (.iconst (-1), 1) := by decide +kernel
theorem dX10_follows_17 : decode (mC mX10_follows) 17 = .ok (.if_icmp .eq 12, 3) := by decide +kernel
theorem dX10_follows_20 : decode (mC mX10_follows) 20 = .ok (.aload 4, 2) := by decide +kernel
theorem dX10_follows_22 : decode (mC mX10_follows) 22 = .ok (.iload_n 3, 1) := by decide +kernel
theorem dX10_follows_23 : decode (mC mX10_follows) 23 = .ok (.invokevirtual 372, 3) := by decide +kernel
theorem dX10_follows_26 : decode (mC mX10_follows) 26 = .ok (.ifCond .eq 12, 3) := by decide +kernel
theorem dX10_follows_29 : decode (mC mX10_follows) 29 = .ok (.aload_n 0, 1) := by decide +kernel
theorem dX10_follows_30 : decode (mC mX10_follows) 30 = .ok (.iload_n 1, 1) := by decide +kernel
theorem dX10_follows_31 : decode (mC mX10_follows) 31 = .ok (.iload_n 2, 1) := by decide +kernel
theorem dX10_follows_32 : decode (mC mX10_follows) 32 = .ok (.invokevirtual 376, 3) := by decide +kernel
theorem dX10_follows_35 : decode (mC mX10_follows) 35 = .ok (.ifCond .ne 6, 3) := by decide +kernel
theorem dX10_follows_38 : decode (mC mX10_follows) 38 = .ok (.bipush (-2), 2) := by decide +kernel
theorem dX10_follows_40 : decode (mC mX10_follows) 40 = .ok (.ireturn, 1) := by decide +kernel
theorem dX10_follows_41 : decode (mC mX10_follows) 41 = .ok (.iload_n 3, 1) := by decide +kernel
theorem dX10_follows_42 : decode (mC mX10_follows) 42 = .ok (.iconst (-1), 1) := by decide +kernel
theorem dX10_follows_43 : decode (mC mX10_follows) 43 = .ok (.if_icmp .ne 13, 3) := by decide +kernel
theorem dX10_follows_46 : decode (mC mX10_follows) 46 = .ok (.aload_n 0, 1) := by decide +kernel
theorem dX10_follows_47 : decode (mC mX10_follows) 47 = .ok (.getfield 80, 3) := by decide +kernel
theorem dX10_follows_50 : decode (mC mX10_follows) 50 = .ok (.invokevirtual 386, 3) := by decide +kernel
theorem dX10_follows_53 : decode (mC mX10_follows) 53 = .ok (.goto 14, 3) := by decide +kernel
theorem dX10_follows_56 : decode (mC mX10_follows) 56 = .ok (.aload_n 0, 1) := by decide +kernel
theorem dX10_follows_57 : decode (mC mX10_follows) 57 = .ok (.getfield 80, 3) := by decide +kernel
theorem dX10_follows_60 : decode (mC mX10_follows) 60 = .ok (.getfield 389, 3) := by decide +kernel
theorem dX10_follows_63 : decode (mC mX10_follows) 63 = .ok (.iload_n 3, 1) := by decide +kernel
theorem dX10_follows_64 : decode (mC mX10_follows) 64 = .ok (.invokestatic 246, 3) := by decide +kernel
theorem dX10_follows_67 : decode (mC mX10_follows) 67 = .ok (.ireturn, 1) := by decide +kernel
theorem dX10_walks_0 : decode (mC mX10_walks) 0 = .ok (.aload_n 0, 1) := by decide +kernel
theorem dX10_walks_1 : decode (mC mX10_walks) 1 = .ok (.getfield 12, 3) := by decide +kernel
theorem dX10_walks_4 : decode (mC mX10_walks) 4 = .ok (.iload_n 2, 1) := by decide +kernel
theorem dX10_walks_5 : decode (mC mX10_walks) 5 = .ok (.invokevirtual 363, 3) := by decide +kernel
theorem dX10_walks_8 : decode (mC mX10_walks) 8 = .ok (.astore 4, 2) := by decide +kernel
theorem dX10_walks_10 : decode (mC mX10_walks) 10 = .ok (.aload 4, 2) := by decide +kernel
theorem dX10_walks_12 : decode (mC mX10_walks) 12 = .ok (.ifnull 12, 3) := by decide +kernel
theorem dX10_walks_15 : decode (mC mX10_walks) 15 = .ok (.aload_n 0, 1) := by decide +kernel
theorem dX10_walks_16 : decode (mC mX10_walks) 16 = .ok (.iload_n 1, 1) := by decide +kernel
theorem dX10_walks_17 : decode (mC mX10_walks) 17 = .ok (.iload_n 2, 1) := by decide +kernel
theorem dX10_walks_18 : decode (mC mX10_walks) 18 = .ok (.invokevirtual 376, 3) := by decide +kernel
theorem dX10_walks_21 : decode (mC mX10_walks) 21 = .ok (.ifCond .ne 6, 3) := by decide +kernel
theorem dX10_walks_24 : decode (mC mX10_walks) 24 = .ok (.bipush (-2), 2) := by decide +kernel
theorem dX10_walks_26 : decode (mC mX10_walks) 26 = .ok (.ireturn, 1) := by decide +kernel
theorem dX10_walks_27 : decode (mC mX10_walks) 27 = .ok (.aload_n 0, 1) := by decide +kernel
theorem dX10_walks_28 : decode (mC mX10_walks) 28 = .ok (.getfield 80, 3) := by decide +kernel
theorem dX10_walks_31 : decode (mC mX10_walks) 31 = .ok (.invokevirtual 392, 3) := by decide +kernel
theorem dX10_walks_34 : decode (mC mX10_walks) 34 = .ok (.iload_n 3, 1) := by decide +kernel
theorem dX10_walks_35 : decode (mC mX10_walks) 35 = .ok (.lookupswitch 41 #[(0, 25), (1, 33)], 25) := by decide +kernel
theorem dX10_walks_60 : decode (mC mX10_walks) 60 = .ok (.aload_n 0, 1) := by decide +kernel
theorem dX10_walks_61 : decode (mC mX10_walks) 61 = .ok (.getfield 80, 3) := by decide +kernel
theorem dX10_walks_64 : decode (mC mX10_walks) 64 = .ok (.getfield 395, 3) := by decide +kernel
theorem dX10_walks_67 : decode (mC mX10_walks) 67 = .ok (.ireturn, 1) := by decide +kernel
theorem dX10_walks_68 : decode (mC mX10_walks) 68 = .ok (.aload_n 0, 1) := by decide +kernel
theorem dX10_walks_69 : decode (mC mX10_walks) 69 = .ok (.getfield 80, 3) := by decide +kernel
theorem dX10_walks_72 : decode (mC mX10_walks) 72 = .ok (.getfield 398, 3) := by decide +kernel
theorem dX10_walks_75 : decode (mC mX10_walks) 75 = .ok (.ireturn, 1) := by decide +kernel
theorem dX10_walks_76 : decode (mC mX10_walks) 76 = .ok (.aload 4, 2) := by decide +kernel
theorem dX10_walks_78 : decode (mC mX10_walks) 78 = .ok (.iload_n 3, 1) := by decide +kernel
theorem dX10_walks_79 : decode (mC mX10_walks) 79 = .ok (.bipush 10, 2) := by decide +kernel
theorem dX10_walks_81 : decode (mC mX10_walks) 81 = .ok (.isub, 1) := by decide +kernel
theorem dX10_walks_82 : decode (mC mX10_walks) 82 = .ok (.invokevirtual 372, 3) := by decide +kernel
theorem dX10_walks_85 : decode (mC mX10_walks) 85 = .ok (.ifCond .eq 20, 3) := by decide +kernel
theorem dX10_walks_88 : decode (mC mX10_walks) 88 = .ok (.aload_n 0, 1) := by decide +kernel
theorem dX10_walks_89 : decode (mC mX10_walks) 89 = .ok (.getfield 80, 3) := by decide +kernel
theorem dX10_walks_92 : decode (mC mX10_walks) 92 = .ok (.getfield 401, 3) := by decide +kernel
theorem dX10_walks_95 : decode (mC mX10_walks) 95 = .ok (.iload_n 3, 1) := by decide +kernel
theorem dX10_walks_96 : decode (mC mX10_walks) 96 = .ok (.bipush 10, 2) := by decide +kernel
theorem dX10_walks_98 : decode (mC mX10_walks) 98 = .ok (.isub, 1) := by decide +kernel
theorem dX10_walks_99 : decode (mC mX10_walks) 99 = .ok (.invokestatic 246, 3) := by decide +kernel
theorem dX10_walks_102 : decode (mC mX10_walks) 102 = .ok (.goto 5, 3) := by decide +kernel
theorem dX10_walks_105 : decode (mC mX10_walks) 105 = .ok (.bipush (-2), 2) := by decide +kernel
theorem dX10_walks_107 : decode (mC mX10_walks) 107 = .ok (.ireturn, 1) := by decide +kernel
theorem dX10_row_0 : decode (mC mX10_row) 0 = .ok (.iload_n 3, 1) := by decide +kernel
theorem dX10_row_1 : decode (mC mX10_row) 1 = .ok (.iconst 1, 1) := by decide +kernel
theorem dX10_row_2 : decode (mC mX10_row) 2 = .ok (.if_icmp .lt 17, 3) := by decide +kernel
theorem dX10_row_5 : decode (mC mX10_row) 5 = .ok (.iload_n 3, 1) := by decide +kernel
theorem dX10_row_6 : decode (mC mX10_row) 6 = .ok (.iconst 4, 1) := by decide +kernel
theorem dX10_row_7 : decode (mC mX10_row) 7 = .ok (.if_icmp .gt 12, 3) := by decide +kernel
theorem dX10_row_10 : decode (mC mX10_row) 10 = .ok (.aload_n 0, 1) := by decide +kernel
theorem dX10_row_11 : decode (mC mX10_row) 11 = .ok (.iload_n 1, 1) := by decide +kernel
theorem dX10_row_12 : decode (mC mX10_row) 12 = .ok (.iload_n 2, 1) := by decide +kernel
theorem dX10_row_13 : decode (mC mX10_row) 13 = .ok (.invokevirtual 376, 3) := by decide +kernel
theorem dX10_row_16 : decode (mC mX10_row) 16 = .ok (.ifCond .ne 6, 3) := by decide +kernel
theorem dX10_row_19 : decode (mC mX10_row) 19 = .ok (.bipush (-2), 2) := by decide +kernel
theorem dX10_row_21 : decode (mC mX10_row) 21 = .ok (.ireturn, 1) := by decide +kernel
theorem dX10_row_22 : decode (mC mX10_row) 22 = .ok (.aload_n 0, 1) := by decide +kernel
theorem dX10_row_23 : decode (mC mX10_row) 23 = .ok (.getfield 80, 3) := by decide +kernel
theorem dX10_row_26 : decode (mC mX10_row) 26 = .ok (.iload_n 3, 1) := by decide +kernel
theorem dX10_row_27 : decode (mC mX10_row) 27 = .ok (.iconst 1, 1) := by decide +kernel
theorem dX10_row_28 : decode (mC mX10_row) 28 = .ok (.invokevirtual 404, 3) := by decide +kernel
theorem dX10_row_31 : decode (mC mX10_row) 31 = .ok (.ireturn, 1) := by decide +kernel
theorem dX10_compare_0 : decode (mC mX10_compare) 0 = .ok (.aload_n 0, 1) := by decide +kernel
theorem dX10_compare_1 : decode (mC mX10_compare) 1 = .ok (.getfield 12, 3) := by decide +kernel
theorem dX10_compare_4 : decode (mC mX10_compare) 4 = .ok (.iload_n 1, 1) := by decide +kernel
theorem dX10_compare_5 : decode (mC mX10_compare) 5 = .ok (.invokevirtual 144, 3) := by decide +kernel
theorem dX10_compare_8 : decode (mC mX10_compare) 8 = .ok (.astore_n 3, 1) := by decide +kernel
theorem dX10_compare_9 : decode (mC mX10_compare) 9 = .ok (.aload_n 0, 1) := by decide +kernel
theorem dX10_compare_10 : decode (mC mX10_compare) 10 = .ok (.getfield 12, 3) := by decide +kernel
theorem dX10_compare_13 : decode (mC mX10_compare) 13 = .ok (.iload_n 2, 1) := by decide +kernel
theorem dX10_compare_14 : decode (mC mX10_compare) 14 = .ok (.invokevirtual 363, 3) := by decide +kernel
theorem dX10_compare_17 : decode (mC mX10_compare) 17 = .ok (.astore 4, 2) := by decide +kernel
theorem dX10_compare_19 : decode (mC mX10_compare) 19 = .ok (.aload_n 3, 1) := by decide +kernel
theorem dX10_compare_20 : decode (mC mX10_compare) 20 = .ok (.ifnull 8, 3) := by decide +kernel
theorem dX10_compare_23 : decode (mC mX10_compare) 23 = .ok (.aload 4, 2) := by decide +kernel
theorem dX10_compare_25 : decode (mC mX10_compare) 25 = .ok (.ifnonnull 5, 3) := by decide +kernel
theorem dX10_compare_28 : decode (mC mX10_compare) 28 = .ok (.iconst 0, 1) := by decide +kernel
theorem dX10_compare_29 : decode (mC mX10_compare) 29 = .ok (.ireturn, 1) := by decide +kernel
theorem dX10_compare_30 : decode (mC mX10_compare) 30 = .ok (.aload_n 0, 1) := by decide +kernel
theorem dX10_compare_31 : decode (mC mX10_compare) 31 = .ok (.getfield 84, 3) := by decide +kernel
theorem dX10_compare_34 : decode (mC mX10_compare) 34 = .ok (.iload_n 1, 1) := by decide +kernel
theorem dX10_compare_35 : decode (mC mX10_compare) 35 = .ok (.if_icmp .ne 11, 3) := by decide +kernel
theorem dX10_compare_38 : decode (mC mX10_compare) 38 = .ok (.aload_n 0, 1) := by decide +kernel
theorem dX10_compare_39 : decode (mC mX10_compare) 39 = .ok (.getfield 87, 3) := by decide +kernel
theorem dX10_compare_42 : decode (mC mX10_compare) 42 = .ok (.iload_n 2, 1) := by decide +kernel
theorem dX10_compare_43 : decode (mC mX10_compare) 43 = .ok (.if_icmp .eq 23, 3) := by decide +kernel
theorem dX10_compare_46 : decode (mC mX10_compare) 46 = .ok (.aload_n 0, 1) := by decide +kernel
theorem dX10_compare_47 : decode (mC mX10_compare) 47 = .ok (.getfield 80, 3) := by decide +kernel
theorem dX10_compare_50 : decode (mC mX10_compare) 50 = .ok (.aload_n 3, 1) := by decide +kernel
theorem dX10_compare_51 : decode (mC mX10_compare) 51 = .ok (.aload 4, 2) := by decide +kernel
theorem dX10_compare_53 : decode (mC mX10_compare) 53 = .ok (.invokevirtual 408, 3) := by decide +kernel
theorem dX10_compare_56 : decode (mC mX10_compare) 56 = .ok (.aload_n 0, 1) := by decide +kernel
theorem dX10_compare_57 : decode (mC mX10_compare) 57 = .ok (.iload_n 1, 1) := by decide +kernel
theorem dX10_compare_58 : decode (mC mX10_compare) 58 = .ok (.putfield 84, 3) := by decide +kernel
theorem dX10_compare_61 : decode (mC mX10_compare) 61 = .ok (.aload_n 0, 1) := by decide +kernel
theorem dX10_compare_62 : decode (mC mX10_compare) 62 = .ok (.iload_n 2, 1) := by decide +kernel
theorem dX10_compare_63 : decode (mC mX10_compare) 63 = .ok (.putfield 87, 3) := by decide +kernel
theorem dX10_compare_66 : decode (mC mX10_compare) 66 = .ok (.iconst 1, 1) := by decide +kernel
theorem dX10_compare_67 : decode (mC mX10_compare) 67 = .ok (.ireturn, 1) := by decide +kernel
theorem dX10_get_0 : decode (mC mX10_get) 0 = .ok (.aload_n 0, 1) := by decide +kernel
theorem dX10_get_1 : decode (mC mX10_get) 1 = .ok (.ifnull 19, 3) := by decide +kernel
theorem dX10_get_4 : decode (mC mX10_get) 4 = .ok (.iload_n 1, 1) := by decide +kernel
theorem dX10_get_5 : decode (mC mX10_get) 5 = .ok (.ifCond .lt 15, 3) := by decide +kernel
theorem dX10_get_8 : decode (mC mX10_get) 8 = .ok (.iload_n 1, 1) := by decide +kernel
theorem dX10_get_9 : decode (mC mX10_get) 9 = .ok (.aload_n 0, 1) := by decide +kernel
theorem dX10_get_10 : decode (mC mX10_get) 10 = .ok (.arraylength, 1) := by decide +kernel
theorem dX10_get_11 : decode (mC mX10_get) 11 = .ok (.if_icmp .ge 9, 3) := by decide +kernel
theorem dX10_get_14 : decode (mC mX10_get) 14 = .ok (.aload_n 0, 1) := by decide +kernel
theorem dX10_get_15 : decode (mC mX10_get) 15 = .ok (.iload_n 1, 1) := by decide +kernel
theorem dX10_get_16 : decode (mC mX10_get) 16 = .ok (.iaload, 1) := by decide +kernel
theorem dX10_get_17 : decode (mC mX10_get) 17 = .ok (.goto 4, 3) := by decide +kernel
theorem dX10_get_20 : decode (mC mX10_get) 20 = .ok (.iconst (-1), 1) := by decide +kernel
theorem dX10_get_21 : decode (mC mX10_get) 21 = .ok (.ireturn, 1) := by decide +kernel
theorem dX10_put_0 : decode (mC mX10_put) 0 = .ok (.aload_n 0, 1) := by decide +kernel
theorem dX10_put_1 : decode (mC mX10_put) 1 = .ok (.ifnull 17, 3) := by decide +kernel
theorem dX10_put_4 : decode (mC mX10_put) 4 = .ok (.iload_n 1, 1) := by decide +kernel
theorem dX10_put_5 : decode (mC mX10_put) 5 = .ok (.ifCond .lt 13, 3) := by decide +kernel
theorem dX10_put_8 : decode (mC mX10_put) 8 = .ok (.iload_n 1, 1) := by decide +kernel
theorem dX10_put_9 : decode (mC mX10_put) 9 = .ok (.aload_n 0, 1) := by decide +kernel
theorem dX10_put_10 : decode (mC mX10_put) 10 = .ok (.arraylength, 1) := by decide +kernel
theorem dX10_put_11 : decode (mC mX10_put) 11 = .ok (.if_icmp .ge 7, 3) := by decide +kernel
theorem dX10_put_14 : decode (mC mX10_put) 14 = .ok (.aload_n 0, 1) := by decide +kernel
theorem dX10_put_15 : decode (mC mX10_put) 15 = .ok (.iload_n 1, 1) := by decide +kernel
theorem dX10_put_16 : decode (mC mX10_put) 16 = .ok (.iload_n 2, 1) := by decide +kernel
theorem dX10_put_17 : decode (mC mX10_put) 17 = .ok (.iastore, 1) := by decide +kernel
theorem dX10_put_18 : decode (mC mX10_put) 18 = .ok (.return_, 1) := by decide +kernel
theorem dX10_raise_0 : decode (mC mX10_raise) 0 = .ok (.aload_n 0, 1) := by decide +kernel
theorem dX10_raise_1 : decode (mC mX10_raise) 1 = .ok (.iload_n 1, 1) := by decide +kernel
theorem dX10_raise_2 : decode (mC mX10_raise) 2 = .ok (.aload_n 0, 1) := by decide +kernel
theorem dX10_raise_3 : decode (mC mX10_raise) 3 = .ok (.iload_n 1, 1) := by decide +kernel
theorem dX10_raise_4 : decode (mC mX10_raise) 4 = .ok (.invokestatic 246, 3) := by decide +kernel
theorem dX10_raise_7 : decode (mC mX10_raise) 7 = .ok (.iconst 1, 1) := by decide +kernel
theorem dX10_raise_8 : decode (mC mX10_raise) 8 = .ok (.iadd, 1) := by decide +kernel
theorem dX10_raise_9 : decode (mC mX10_raise) 9 = .ok (.invokestatic 411, 3) := by decide +kernel
theorem dX10_raise_12 : decode (mC mX10_raise) 12 = .ok (.return_, 1) := by decide +kernel
theorem dX10_copy_0 : decode (mC mX10_copy) 0 = .ok (.aload_n 0, 1) := by decide +kernel
theorem dX10_copy_1 : decode (mC mX10_copy) 1 = .ok (.ifnull 21, 3) := by decide +kernel
theorem dX10_copy_4 : decode (mC mX10_copy) 4 = .ok (.aload_n 1, 1) := by decide +kernel
theorem dX10_copy_5 : decode (mC mX10_copy) 5 = .ok (.ifnull 17, 3) := by decide +kernel
theorem dX10_copy_8 : decode (mC mX10_copy) 8 = .ok (.aload_n 0, 1) := by decide +kernel
theorem dX10_copy_9 : decode (mC mX10_copy) 9 = .ok (.iconst 0, 1) := by decide +kernel
theorem dX10_copy_10 : decode (mC mX10_copy) 10 = .ok (.aload_n 1, 1) := by decide +kernel
theorem dX10_copy_11 : decode (mC mX10_copy) 11 = .ok (.iconst 0, 1) := by decide +kernel
theorem dX10_copy_12 : decode (mC mX10_copy) 12 = .ok (.aload_n 0, 1) := by decide +kernel
theorem dX10_copy_13 : decode (mC mX10_copy) 13 = .ok (.arraylength, 1) := by decide +kernel
theorem dX10_copy_14 : decode (mC mX10_copy) 14 = .ok (.aload_n 1, 1) := by decide +kernel
theorem dX10_copy_15 : decode (mC mX10_copy) 15 = .ok (.arraylength, 1) := by decide +kernel
theorem dX10_copy_16 : decode (mC mX10_copy) 16 = .ok (.invokestatic 415, 3) := by decide +kernel
theorem dX10_copy_19 : decode (mC mX10_copy) 19 = .ok (.invokestatic 418, 3) := by decide +kernel
theorem dX10_copy_22 : decode (mC mX10_copy) 22 = .ok (.return_, 1) := by decide +kernel
theorem dX10_isMinute_0 : decode (mC mX10_isMinute) 0 = .ok (.iload_n 0, 1) := by decide +kernel
theorem dX10_isMinute_1 : decode (mC mX10_isMinute) 1 = .ok (.ifCond .lt 13, 3) := by decide +kernel
theorem dX10_isMinute_4 : decode (mC mX10_isMinute) 4 = .ok (.iload_n 0, 1) := by decide +kernel
theorem dX10_isMinute_5 : decode (mC mX10_isMinute) 5 = .ok (.bipush 100, 2) := by decide +kernel
theorem dX10_isMinute_7 : decode (mC mX10_isMinute) 7 = .ok (.if_icmp .ge 7, 3) := by decide +kernel
theorem dX10_isMinute_10 : decode (mC mX10_isMinute) 10 = .ok (.iconst 1, 1) := by decide +kernel
theorem dX10_isMinute_11 : decode (mC mX10_isMinute) 11 = .ok (.goto 4, 3) := by decide +kernel
theorem dX10_isMinute_14 : decode (mC mX10_isMinute) 14 = .ok (.iconst 0, 1) := by decide +kernel
theorem dX10_isMinute_15 : decode (mC mX10_isMinute) 15 = .ok (.ireturn, 1) := by decide +kernel
theorem dX10_greatestDivisor_0 : decode (mC mX10_greatestDivisor) 0 = .ok (.bipush 60, 2) := by decide +kernel
theorem dX10_greatestDivisor_2 : decode (mC mX10_greatestDivisor) 2 = .ok (.istore_n 1, 1) := by decide +kernel
theorem dX10_greatestDivisor_3 : decode (mC mX10_greatestDivisor) 3 = .ok (.iload_n 1, 1) := by decide +kernel
theorem dX10_greatestDivisor_4 : decode (mC mX10_greatestDivisor) 4 = .ok (.iconst 1, 1) := by decide +kernel
theorem dX10_greatestDivisor_5 : decode (mC mX10_greatestDivisor) 5 = .ok (.if_icmp .le 24, 3) := by decide +kernel
theorem dX10_greatestDivisor_8 : decode (mC mX10_greatestDivisor) 8 = .ok (.bipush 60, 2) := by decide +kernel
theorem dX10_greatestDivisor_10 : decode (mC mX10_greatestDivisor) 10 = .ok (.iload_n 1, 1) := by decide +kernel
theorem dX10_greatestDivisor_11 : decode (mC mX10_greatestDivisor) 11 = .ok (.irem, 1) := by decide +kernel
theorem dX10_greatestDivisor_12 : decode (mC mX10_greatestDivisor) 12 = .ok (.ifCond .ne 11, 3) := by decide +kernel
theorem dX10_greatestDivisor_15 : decode (mC mX10_greatestDivisor) 15 = .ok (.iload_n 0, 1) := by decide +kernel
theorem dX10_greatestDivisor_16 : decode (mC mX10_greatestDivisor) 16 = .ok (.iload_n 1, 1) := by decide +kernel
theorem dX10_greatestDivisor_17 : decode (mC mX10_greatestDivisor) 17 = .ok (.irem, 1) := by decide +kernel
theorem dX10_greatestDivisor_18 : decode (mC mX10_greatestDivisor) 18 = .ok (.ifCond .ne 5, 3) := by decide +kernel
theorem dX10_greatestDivisor_21 : decode (mC mX10_greatestDivisor) 21 = .ok (.iload_n 1, 1) := by decide +kernel
theorem dX10_greatestDivisor_22 : decode (mC mX10_greatestDivisor) 22 = .ok (.ireturn, 1) := by decide +kernel
theorem dX10_greatestDivisor_23 : decode (mC mX10_greatestDivisor) 23 = .ok (.iinc 1 (-1), 3) := by decide +kernel
theorem dX10_greatestDivisor_26 : decode (mC mX10_greatestDivisor) 26 = .ok (.goto (-23), 3) := by decide +kernel
theorem dX10_greatestDivisor_29 : decode (mC mX10_greatestDivisor) 29 = .ok (.iconst 1, 1) := by decide +kernel
theorem dX10_greatestDivisor_30 : decode (mC mX10_greatestDivisor) 30 = .ok (.ireturn, 1) := by decide +kernel
theorem dX10_shape_0 : decode (mC mX10_shape) 0 = .ok (.iload_n 0, 1) := by decide +kernel
theorem dX10_shape_1 : decode (mC mX10_shape) 1 = .ok (.iconst 3, 1) := by decide +kernel
theorem dX10_shape_2 : decode (mC mX10_shape) 2 = .ok (.ishl, 1) := by decide +kernel
theorem dX10_shape_3 : decode (mC mX10_shape) 3 = .ok (.iload_n 1, 1) := by decide +kernel
theorem dX10_shape_4 : decode (mC mX10_shape) 4 = .ok (.iconst 2, 1) := by decide +kernel
theorem dX10_shape_5 : decode (mC mX10_shape) 5 = .ok (.ishl, 1) := by decide +kernel
theorem dX10_shape_6 : decode (mC mX10_shape) 6 = .ok (.ior, 1) := by decide +kernel
theorem dX10_shape_7 : decode (mC mX10_shape) 7 = .ok (.iload_n 2, 1) := by decide +kernel
theorem dX10_shape_8 : decode (mC mX10_shape) 8 = .ok (.ior, 1) := by decide +kernel
theorem dX10_shape_9 : decode (mC mX10_shape) 9 = .ok (.ireturn, 1) := by decide +kernel
theorem dX10_soleOf_0 : decode (mC mX10_soleOf) 0 = .ok (.iload_n 0, 1) := by decide +kernel
theorem dX10_soleOf_1 : decode (mC mX10_soleOf) 1 = .ok (.iconst 3, 1) := by decide +kernel
theorem dX10_soleOf_2 : decode (mC mX10_soleOf) 2 = .ok (.ishr, 1) := by decide +kernel
theorem dX10_soleOf_3 : decode (mC mX10_soleOf) 3 = .ok (.ireturn, 1) := by decide +kernel
theorem dX10_footOf_0 : decode (mC mX10_footOf) 0 = .ok (.iload_n 0, 1) := by decide +kernel
theorem dX10_footOf_1 : decode (mC mX10_footOf) 1 = .ok (.iconst 2, 1) := by decide +kernel
theorem dX10_footOf_2 : decode (mC mX10_footOf) 2 = .ok (.ishr, 1) := by decide +kernel
theorem dX10_footOf_3 : decode (mC mX10_footOf) 3 = .ok (.iconst 1, 1) := by decide +kernel
theorem dX10_footOf_4 : decode (mC mX10_footOf) 4 = .ok (.iand, 1) := by decide +kernel
theorem dX10_footOf_5 : decode (mC mX10_footOf) 5 = .ok (.ireturn, 1) := by decide +kernel
theorem dX10_sideOf_0 : decode (mC mX10_sideOf) 0 = .ok (.iload_n 0, 1) := by decide +kernel
theorem dX10_sideOf_1 : decode (mC mX10_sideOf) 1 = .ok (.iconst 3, 1) := by decide +kernel
theorem dX10_sideOf_2 : decode (mC mX10_sideOf) 2 = .ok (.iand, 1) := by decide +kernel
theorem dX10_sideOf_3 : decode (mC mX10_sideOf) 3 = .ok (.ireturn, 1) := by decide +kernel
theorem dX11_init_0 : decode (mC mX11_init) 0 = .ok (.aload_n 0, 1) := by decide +kernel
theorem dX11_init_1 : decode (mC mX11_init) 1 = .ok (.invokespecial 1, 3) := by decide +kernel
theorem dX11_init_4 : decode (mC mX11_init) 4 = .ok (.aload_n 0, 1) := by decide +kernel
theorem dX11_init_5 : decode (mC mX11_init) 5 = .ok (.sipush 5392, 3) := by decide +kernel
theorem dX11_init_8 : decode (mC mX11_init) 8 = .ok (.newarray .int, 2) := by decide +kernel
theorem dX11_init_10 : decode (mC mX11_init) 10 = .ok (.putfield 7, 3) := by decide +kernel
theorem dX11_init_13 : decode (mC mX11_init) 13 = .ok (.aload_n 0, 1) := by decide +kernel
theorem dX11_init_14 : decode (mC mX11_init) 14 = .ok (.iconst 3, 1) := by decide +kernel
theorem dX11_init_15 : decode (mC mX11_init) 15 = .ok (.newarray .boolean, 2) := by decide +kernel
theorem dX11_init_17 : decode (mC mX11_init) 17 = .ok (.putfield 13, 3) := by decide +kernel
theorem dX11_init_20 : decode (mC mX11_init) 20 = .ok (.aload_n 0, 1) := by decide +kernel
theorem dX11_init_21 : decode (mC mX11_init) 21 = .ok (.sipush 318, 3) := by decide +kernel
theorem dX11_init_24 : decode (mC mX11_init) 24 = .ok (.newarray .int, 2) := by decide +kernel
theorem dX11_init_26 : decode (mC mX11_init) 26 = .ok (.putfield 17, 3) := by decide +kernel
theorem dX11_init_29 : decode (mC mX11_init) 29 = .ok (.aload_n 0, 1) := by decide +kernel
theorem dX11_init_30 : decode (mC mX11_init) 30 = .ok (.bipush 100, 2) := by decide +kernel
theorem dX11_init_32 : decode (mC mX11_init) 32 = .ok (.newarray .boolean, 2) := by decide +kernel
theorem dX11_init_34 : decode (mC mX11_init) 34 = .ok (.putfield 20, 3) := by decide +kernel
theorem dX11_init_37 : decode (mC mX11_init) 37 = .ok (.aload_n 0, 1) := by decide +kernel
theorem dX11_init_38 : decode (mC mX11_init) 38 = .ok (.sipush 600, 3) := by decide +kernel
theorem dX11_init_41 : decode (mC mX11_init) 41 = .ok (.newarray .int, 2) := by decide +kernel
theorem dX11_init_43 : decode (mC mX11_init) 43 = .ok (.putfield 23, 3) := by decide +kernel
theorem dX11_init_46 : decode (mC mX11_init) 46 = .ok (.aload_n 0, 1) := by decide +kernel
theorem dX11_init_47 : decode (mC mX11_init) 47 = .ok (.bipush 6, 2) := by decide +kernel
theorem dX11_init_49 : decode (mC mX11_init) 49 = .ok (.newarray .int, 2) := by decide +kernel
theorem dX11_init_51 : decode (mC mX11_init) 51 = .ok (.putfield 26, 3) := by decide +kernel
theorem dX11_init_54 : decode (mC mX11_init) 54 = .ok (.aload_n 0, 1) := by decide +kernel
theorem dX11_init_55 : decode (mC mX11_init) 55 = .ok (.sipush 160, 3) := by decide +kernel
theorem dX11_init_58 : decode (mC mX11_init) 58 = .ok (.newarray .int, 2) := by decide +kernel
theorem dX11_init_60 : decode (mC mX11_init) 60 = .ok (.putfield 29, 3) := by decide +kernel
theorem dX11_init_63 : decode (mC mX11_init) 63 = .ok (.aload_n 0, 1) := by decide +kernel
theorem dX11_init_64 : decode (mC mX11_init) 64 = .ok (.sipush 160, 3) := by decide +kernel
theorem dX11_init_67 : decode (mC mX11_init) 67 = .ok (.newarray .int, 2) := by decide +kernel
theorem dX11_init_69 : decode (mC mX11_init) 69 = .ok (.putfield 32, 3) := by decide +kernel
theorem dX11_init_72 : decode (mC mX11_init) 72 = .ok (.aload_n 0, 1) := by decide +kernel
theorem dX11_init_73 : decode (mC mX11_init) 73 = .ok (.sipush 160, 3) := by decide +kernel
theorem dX11_init_76 : decode (mC mX11_init) 76 = .ok (.newarray .int, 2) := by decide +kernel
theorem dX11_init_78 : decode (mC mX11_init) 78 = .ok (.putfield 35, 3) := by decide +kernel
theorem dX11_init_81 : decode (mC mX11_init) 81 = .ok (.aload_n 0, 1) := by decide +kernel
theorem dX11_init_82 : decode (mC mX11_init) 82 = .ok (.sipush 160, 3) := by decide +kernel
theorem dX11_init_85 : decode (mC mX11_init) 85 = .ok (.newarray .int, 2) := by decide +kernel
theorem dX11_init_87 : decode (mC mX11_init) 87 = .ok (.putfield 38, 3) := by decide +kernel
theorem dX11_init_90 : decode (mC mX11_init) 90 = .ok (.aload_n 0, 1) := by decide +kernel
theorem dX11_init_91 : decode (mC mX11_init) 91 = .ok (.sipush 160, 3) := by decide +kernel
theorem dX11_init_94 : decode (mC mX11_init) 94 = .ok (.newarray .int, 2) := by decide +kernel
theorem dX11_init_96 : decode (mC mX11_init) 96 = .ok (.putfield 41, 3) := by decide +kernel
theorem dX11_init_99 : decode (mC mX11_init) 99 = .ok (.aload_n 0, 1) := by decide +kernel
theorem dX11_init_100 : decode (mC mX11_init) 100 = .ok (.sipush 160, 3) := by decide +kernel
theorem dX11_init_103 : decode (mC mX11_init) 103 = .ok (.newarray .int, 2) := by decide +kernel
theorem dX11_init_105 : decode (mC mX11_init) 105 = .ok (.putfield 44, 3) := by decide +kernel
theorem dX11_init_108 : decode (mC mX11_init) 108 = .ok (.aload_n 0, 1) := by decide +kernel
theorem dX11_init_109 : decode (mC mX11_init) 109 = .ok (.sipush 160, 3) := by decide +kernel
theorem dX11_init_112 : decode (mC mX11_init) 112 = .ok (.newarray .int, 2) := by decide +kernel
theorem dX11_init_114 : decode (mC mX11_init) 114 = .ok (.putfield 47, 3) := by decide +kernel
theorem dX11_init_117 : decode (mC mX11_init) 117 = .ok (.aload_n 0, 1) := by decide +kernel
theorem dX11_init_118 : decode (mC mX11_init) 118 = .ok (.sipush 160, 3) := by decide +kernel
theorem dX11_init_121 : decode (mC mX11_init) 121 = .ok (.newarray .int, 2) := by decide +kernel
theorem dX11_init_123 : decode (mC mX11_init) 123 = .ok (.putfield 50, 3) := by decide +kernel
theorem dX11_init_126 : decode (mC mX11_init) 126 = .ok (.aload_n 0, 1) := by decide +kernel
theorem dX11_init_127 : decode (mC mX11_init) 127 = .ok (.bipush 24, 2) := by decide +kernel
theorem dX11_init_129 : decode (mC mX11_init) 129 = .ok (.newarray .int, 2) := by decide +kernel
theorem dX11_init_131 : decode (mC mX11_init) 131 = .ok (.putfield 53, 3) := by decide +kernel
theorem dX11_init_134 : decode (mC mX11_init) 134 = .ok (.aload_n 0, 1) := by decide +kernel
theorem dX11_init_135 : decode (mC mX11_init) 135 = .ok (.bipush 64, 2) := by decide +kernel
theorem dX11_init_137 : decode (mC mX11_init) 137 = .ok (.newarray .int, 2) := by decide +kernel
theorem dX11_init_139 : decode (mC mX11_init) 139 = .ok (.putfield 56, 3) := by decide +kernel
theorem dX11_init_142 : decode (mC mX11_init) 142 = .ok (.aload_n 0, 1) := by decide +kernel
theorem dX11_init_143 : decode (mC mX11_init) 143 = .ok (.bipush 64, 2) := by decide +kernel
theorem dX11_init_145 : decode (mC mX11_init) 145 = .ok (.newarray .int, 2) := by decide +kernel
theorem dX11_init_147 : decode (mC mX11_init) 147 = .ok (.putfield 59, 3) := by decide +kernel
theorem dX11_init_150 : decode (mC mX11_init) 150 = .ok (.aload_n 0, 1) := by decide +kernel
theorem dX11_init_151 : decode (mC mX11_init) 151 = .ok (.sipush 5248, 3) := by decide +kernel
theorem dX11_init_154 : decode (mC mX11_init) 154 = .ok (.newarray .int, 2) := by decide +kernel
theorem dX11_init_156 : decode (mC mX11_init) 156 = .ok (.putfield 62, 3) := by decide +kernel
theorem dX11_init_159 : decode (mC mX11_init) 159 = .ok (.aload_n 0, 1) := by decide +kernel
theorem dX11_init_160 : decode (mC mX11_init) 160 = .ok (.bipush 41, 2) := by decide +kernel
theorem dX11_init_162 : decode (mC mX11_init) 162 = .ok (.newarray .int, 2) := by decide +kernel
theorem dX11_init_164 : decode (mC mX11_init) 164 = .ok (.putfield 65, 3) := by decide +kernel
theorem dX11_init_167 : decode (mC mX11_init) 167 = .ok (.aload_n 0, 1) := by decide +kernel
theorem dX11_init_168 : decode (mC mX11_init) 168 = .ok (.bipush 41, 2) := by decide +kernel
theorem dX11_init_170 : decode (mC mX11_init) 170 = .ok (.newarray .boolean, 2) := by decide +kernel
theorem dX11_init_172 : decode (mC mX11_init) 172 = .ok (.putfield 68, 3) := by decide +kernel
theorem dX11_init_175 : decode (mC mX11_init) 175 = .ok (.aload_n 0, 1) := by decide +kernel
theorem dX11_init_176 : decode (mC mX11_init) 176 = .ok (.bipush 10, 2) := by decide +kernel
theorem dX11_init_178 : decode (mC mX11_init) 178 = .ok (.newarray .int, 2) := by decide +kernel
theorem dX11_init_180 : decode (mC mX11_init) 180 = .ok (.putfield 71, 3) := by decide +kernel
theorem dX11_init_183 : decode (mC mX11_init) 183 = .ok (.aload_n 0, 1) := by decide +kernel
theorem dX11_init_184 : decode (mC mX11_init) 184 = .ok (.sipush 10240, 3) := by decide +kernel
theorem dX11_init_187 : decode (mC mX11_init) 187 = .ok (.newarray .int, 2) := by decide +kernel
theorem dX11_init_189 : decode (mC mX11_init) 189 = .ok (.putfield 74, 3) := by decide +kernel
theorem dX11_init_192 : decode (mC mX11_init) 192 = .ok (.aload_n 0, 1) := by decide +kernel
theorem dX11_init_193 : decode (mC mX11_init) 193 = .ok (.sipush 1024, 3) := by decide +kernel
theorem dX11_init_196 : decode (mC mX11_init) 196 = .ok (.newarray .int, 2) := by decide +kernel
theorem dX11_init_198 : decode (mC mX11_init) 198 = .ok (.putfield 77, 3) := by decide +kernel
theorem dX11_init_201 : decode (mC mX11_init) 201 = .ok (.aload_n 0, 1) := by decide +kernel
theorem dX11_init_202 : decode (mC mX11_init) 202 = .ok (.sipush 1024, 3) := by decide +kernel
theorem dX11_init_205 : decode (mC mX11_init) 205 = .ok (.newarray .int, 2) := by decide +kernel
theorem dX11_init_207 : decode (mC mX11_init) 207 = .ok (.putfield 80, 3) := by decide +kernel
theorem dX11_init_210 : decode (mC mX11_init) 210 = .ok (.aload_n 0, 1) := by decide +kernel
theorem dX11_init_211 : decode (mC mX11_init) 211 = .ok (.sipush 1024, 3) := by decide +kernel
theorem dX11_init_214 : decode (mC mX11_init) 214 = .ok (.newarray .int, 2) := by decide +kernel
theorem dX11_init_216 : decode (mC mX11_init) 216 = .ok (.putfield 83, 3) := by decide +kernel
theorem dX11_init_219 : decode (mC mX11_init) 219 = .ok (.aload_n 0, 1) := by decide +kernel
theorem dX11_init_220 : decode (mC mX11_init) 220 = .ok (.getfield 7, 3) := by decide +kernel
theorem dX11_init_223 : decode (mC mX11_init) 223 = .ok (.iconst 4, 1) := by decide +kernel
theorem dX11_init_224 : decode (mC mX11_init) 224 = .ok (.iconst (-1), 1) := by decide +kernel
theorem dX11_init_225 : decode (mC mX11_init) 225 = .ok (.iastore, 1) := by decide +kernel
theorem dX11_init_226 : decode (mC mX11_init) 226 = .ok (.return_, 1) := by decide +kernel
theorem dX11_isIn_0 : decode (mC mX11_isIn) 0 = .ok (.iload_n 0, 1) := by decide +kernel
theorem dX11_isIn_1 : decode (mC mX11_isIn) 1 = .ok (.iload_n 1, 1) := by decide +kernel
theorem dX11_isIn_2 : decode (mC mX11_isIn) 2 = .ok (.if_icmp .lt 12, 3) := by decide +kernel
theorem dX11_isIn_5 : decode (mC mX11_isIn) 5 = .ok (.iload_n 0, 1) := by decide +kernel
theorem dX11_isIn_6 : decode (mC mX11_isIn) 6 = .ok (.iload_n 2, 1) := by decide +kernel
theorem dX11_isIn_7 : decode (mC mX11_isIn) 7 = .ok (.if_icmp .gt 7, 3) := by decide +kernel
theorem dX11_isIn_10 : decode (mC mX11_isIn) 10 = .ok (.iconst 1, 1) := by decide +kernel
theorem dX11_isIn_11 : decode (mC mX11_isIn) 11 = .ok (.goto 4, 3) := by decide +kernel
theorem dX11_isIn_14 : decode (mC mX11_isIn) 14 = .ok (.iconst 0, 1) := by decide +kernel
theorem dX11_isIn_15 : decode (mC mX11_isIn) 15 = .ok (.ireturn, 1) := by decide +kernel
theorem dX11_feed_0 : decode (mC mX11_feed) 0 = .ok (.aload_n 0, 1) := by decide +kernel
theorem dX11_feed_1 : decode (mC mX11_feed) 1 = .ok (.getfield 7, 3) := by decide +kernel
theorem dX11_feed_4 : decode (mC mX11_feed) 4 = .ok (.iconst 2, 1) := by decide +kernel
theorem dX11_feed_5 : decode (mC mX11_feed) 5 = .ok (.iaload, 1) := by decide +kernel
theorem dX11_feed_6 : decode (mC mX11_feed) 6 = .ok (.bipush 20, 2) := by decide +kernel
theorem dX11_feed_8 : decode (mC mX11_feed) 8 = .ok (.iadd, 1) := by decide +kernel
theorem dX11_feed_9 : decode (mC mX11_feed) 9 = .ok (.sipush 600, 3) := by decide +kernel
theorem dX11_feed_12 : decode (mC mX11_feed) 12 = .ok (.if_icmp .le 5, 3) := by decide +kernel
theorem dX11_feed_15 : decode (mC mX11_feed) 15 = .ok (.iconst (-1), 1) := by decide +kernel
theorem dX11_feed_16 : decode (mC mX11_feed) 16 = .ok (.ireturn, 1) := by decide +kernel
theorem dX11_feed_17 : decode (mC mX11_feed) 17 = .ok (.iconst 0, 1) := by decide +kernel
theorem dX11_feed_18 : decode (mC mX11_feed) 18 = .ok (.istore 6, 2) := by decide +kernel
theorem dX11_feed_20 : decode (mC mX11_feed) 20 = .ok (.iload 6, 2) := by decide +kernel
theorem dX11_feed_22 : decode (mC mX11_feed) 22 = .ok (.bipush 20, 2) := by decide +kernel
theorem dX11_feed_24 : decode (mC mX11_feed) 24 = .ok (.if_icmp .ge 98, 3) := by decide +kernel
theorem dX11_feed_27 : decode (mC mX11_feed) 27 = .ok (.iload 6, 2) := by decide +kernel
theorem dX11_feed_29 : decode (mC mX11_feed) 29 = .ok (.iconst 4, 1) := by decide +kernel
theorem dX11_feed_30 : decode (mC mX11_feed) 30 = .ok (.if_icmp .ge 7, 3) := by decide +kernel
theorem dX11_feed_33 : decode (mC mX11_feed) 33 = .ok (.iload_n 1, 1) := by decide +kernel
theorem dX11_feed_34 : decode (mC mX11_feed) 34 = .ok (.goto 39, 3) := by decide +kernel
theorem dX11_feed_37 : decode (mC mX11_feed) 37 = .ok (.iload 6, 2) := by decide +kernel
theorem dX11_feed_39 : decode (mC mX11_feed) 39 = .ok (.bipush 8, 2) := by decide +kernel
theorem dX11_feed_41 : decode (mC mX11_feed) 41 = .ok (.if_icmp .ge 7, 3) := by decide +kernel
theorem dX11_feed_44 : decode (mC mX11_feed) 44 = .ok (.iload_n 2, 1) := by decide +kernel
theorem dX11_feed_45 : decode (mC mX11_feed) 45 = .ok (.goto 28, 3) := by decide +kernel
theorem dX11_feed_48 : decode (mC mX11_feed) 48 = .ok (.iload 6, 2) := by decide +kernel
theorem dX11_feed_50 : decode (mC mX11_feed) 50 = .ok (.bipush 12, 2) := by decide +kernel
theorem dX11_feed_52 : decode (mC mX11_feed) 52 = .ok (.if_icmp .ge 7, 3) := by decide +kernel
theorem dX11_feed_55 : decode (mC mX11_feed) 55 = .ok (.iload_n 3, 1) := by decide +kernel
theorem dX11_feed_56 : decode (mC mX11_feed) 56 = .ok (.goto 17, 3) := by decide +kernel
theorem dX11_feed_59 : decode (mC mX11_feed) 59 = .ok (.iload 6, 2) := by decide +kernel
theorem dX11_feed_61 : decode (mC mX11_feed) 61 = .ok (.bipush 16, 2) := by decide +kernel
theorem dX11_feed_63 : decode (mC mX11_feed) 63 = .ok (.if_icmp .ge 8, 3) := by decide +kernel
theorem dX11_feed_66 : decode (mC mX11_feed) 66 = .ok (.iload 4, 2) := by decide +kernel
theorem dX11_feed_68 : decode (mC mX11_feed) 68 = .ok (.goto 5, 3) := by decide +kernel
theorem dX11_feed_71 : decode (mC mX11_feed) 71 = .ok (.iload 5, 2) := by decide +kernel
theorem dX11_feed_73 : decode (mC mX11_feed) 73 = .ok (.istore 7, 2) := by decide +kernel
theorem dX11_feed_75 : decode (mC mX11_feed) 75 = .ok (.aload_n 0, 1) := by decide +kernel
theorem dX11_feed_76 : decode (mC mX11_feed) 76 = .ok (.getfield 7, 3) := by decide +kernel
theorem dX11_feed_79 : decode (mC mX11_feed) 79 = .ok (.bipush 10, 2) := by decide +kernel
theorem dX11_feed_81 : decode (mC mX11_feed) 81 = .ok (.aload_n 0, 1) := by decide +kernel
theorem dX11_feed_82 : decode (mC mX11_feed) 82 = .ok (.getfield 7, 3) := by decide +kernel
theorem dX11_feed_85 : decode (mC mX11_feed) 85 = .ok (.iconst 2, 1) := by decide +kernel
theorem dX11_feed_86 : decode (mC mX11_feed) 86 = .ok (.iaload, 1) := by decide +kernel
theorem dX11_feed_87 : decode (mC mX11_feed) 87 = .ok (.iadd, 1) := by decide +kernel
theorem dX11_feed_88 : decode (mC mX11_feed) 88 = .ok (.iload 7, 2) := by decide +kernel
theorem dX11_feed_90 : decode (mC mX11_feed) 90 = .ok (.bipush 24, 2) := by decide +kernel
theorem dX11_feed_92 : decode (mC mX11_feed) 92 = .ok (.bipush 8, 2) := by decide +kernel
theorem dX11_feed_94 : decode (mC mX11_feed) 94 = .ok (.iload 6, 2) := by decide +kernel
theorem dX11_feed_96 : decode (mC mX11_feed) 96 = .ok (.iconst 4, 1) := by decide +kernel
theorem dX11_feed_97 : decode (mC mX11_feed) 97 = .ok (.irem, 1) := by decide +kernel
theorem dX11_feed_98 : decode (mC mX11_feed) 98 = .ok (.imul, 1) := by decide +kernel
theorem dX11_feed_99 : decode (mC mX11_feed) 99 = .ok (.isub, 1) := by decide +kernel
theorem dX11_feed_100 : decode (mC mX11_feed) 100 = .ok (.ishr, 1) := by decide +kernel
theorem dX11_feed_101 : decode (mC mX11_feed) 101 = .ok (.sipush 255, 3) := by decide +kernel
theorem dX11_feed_104 : decode (mC mX11_feed) 104 = .ok (.iand, 1) := by decide +kernel
theorem dX11_feed_105 : decode (mC mX11_feed) 105 = .ok (.iastore, 1) := by decide +kernel
theorem dX11_feed_106 : decode (mC mX11_feed) 106 = .ok (.aload_n 0, 1) := by decide +kernel
theorem dX11_feed_107 : decode (mC mX11_feed) 107 = .ok (.getfield 7, 3) := by decide +kernel
theorem dX11_feed_110 : decode (mC mX11_feed) 110 = .ok (.iconst 2, 1) := by decide +kernel
theorem dX11_feed_111 : decode (mC mX11_feed) 111 = .ok (.dup2, 1) := by decide +kernel
theorem dX11_feed_112 : decode (mC mX11_feed) 112 = .ok (.iaload, 1) := by decide +kernel
theorem dX11_feed_113 : decode (mC mX11_feed) 113 = .ok (.iconst 1, 1) := by decide +kernel
theorem dX11_feed_114 : decode (mC mX11_feed) 114 = .ok (.iadd, 1) := by decide +kernel
theorem dX11_feed_115 : decode (mC mX11_feed) 115 = .ok (.iastore, 1) := by decide +kernel
theorem dX11_feed_116 : decode (mC mX11_feed) 116 = .ok (.iinc 6 1, 3) := by decide +kernel
theorem dX11_feed_119 : decode (mC mX11_feed) 119 = .ok (.goto (-99), 3) := by decide +kernel
theorem dX11_feed_122 : decode (mC mX11_feed) 122 = .ok (.aload_n 0, 1) := by decide +kernel
theorem dX11_feed_123 : decode (mC mX11_feed) 123 = .ok (.getfield 7, 3) := by decide +kernel
theorem dX11_feed_126 : decode (mC mX11_feed) 126 = .ok (.iconst 2, 1) := by decide +kernel
theorem dX11_feed_127 : decode (mC mX11_feed) 127 = .ok (.iaload, 1) := by decide +kernel
theorem dX11_feed_128 : decode (mC mX11_feed) 128 = .ok (.ireturn, 1) := by decide +kernel
theorem dX11_end_0 : decode (mC mX11_end) 0 = .ok (.iload_n 1, 1) := by decide +kernel
theorem dX11_end_1 : decode (mC mX11_end) 1 = .ok (.ifCond .lt 13, 3) := by decide +kernel
theorem dX11_end_4 : decode (mC mX11_end) 4 = .ok (.iload_n 1, 1) := by decide +kernel
theorem dX11_end_5 : decode (mC mX11_end) 5 = .ok (.aload_n 0, 1) := by decide +kernel
theorem dX11_end_6 : decode (mC mX11_end) 6 = .ok (.getfield 7, 3) := by decide +kernel
theorem dX11_end_9 : decode (mC mX11_end) 9 = .ok (.iconst 2, 1) := by decide +kernel
theorem dX11_end_10 : decode (mC mX11_end) 10 = .ok (.iaload, 1) := by decide +kernel
theorem dX11_end_11 : decode (mC mX11_end) 11 = .ok (.if_icmp .le 5, 3) := by decide +kernel
theorem dX11_end_14 : decode (mC mX11_end) 14 = .ok (.iconst (-1), 1) := by decide +kernel
theorem dX11_end_15 : decode (mC mX11_end) 15 = .ok (.ireturn, 1) := by decide +kernel
theorem dX11_end_16 : decode (mC mX11_end) 16 = .ok (.aload_n 0, 1) := by decide +kernel
theorem dX11_end_17 : decode (mC mX11_end) 17 = .ok (.getfield 7, 3) := by decide +kernel
theorem dX11_end_20 : decode (mC mX11_end) 20 = .ok (.iconst 2, 1) := by decide +kernel
theorem dX11_end_21 : decode (mC mX11_end) 21 = .ok (.iload_n 1, 1) := by decide +kernel
theorem dX11_end_22 : decode (mC mX11_end) 22 = .ok (.iastore, 1) := by decide +kernel
theorem dX11_end_23 : decode (mC mX11_end) 23 = .ok (.iload_n 1, 1) := by decide +kernel
theorem dX11_end_24 : decode (mC mX11_end) 24 = .ok (.ireturn, 1) := by decide +kernel
theorem dX11_byteAt_0 : decode (mC mX11_byteAt) 0 = .ok (.iload_n 1, 1) := by decide +kernel
theorem dX11_byteAt_1 : decode (mC mX11_byteAt) 1 = .ok (.aload_n 0, 1) := by decide +kernel
theorem dX11_byteAt_2 : decode (mC mX11_byteAt) 2 = .ok (.getfield 86, 3) := by decide +kernel
theorem dX11_byteAt_5 : decode (mC mX11_byteAt) 5 = .ok (.if_icmp .ge 15, 3) := by decide +kernel
theorem dX11_byteAt_8 : decode (mC mX11_byteAt) 8 = .ok (.aload_n 0, 1) := by decide +kernel
theorem dX11_byteAt_9 : decode (mC mX11_byteAt) 9 = .ok (.getfield 7, 3) := by decide +kernel
theorem dX11_byteAt_12 : decode (mC mX11_byteAt) 12 = .ok (.bipush 10, 2) := by decide +kernel
theorem dX11_byteAt_14 : decode (mC mX11_byteAt) 14 = .ok (.iload_n 1, 1) := by decide +kernel
theorem dX11_byteAt_15 : decode (mC mX11_byteAt) 15 = .ok (.iadd, 1) := by decide +kernel
theorem dX11_byteAt_16 : decode (mC mX11_byteAt) 16 = .ok (.iaload, 1) := by decide +kernel
theorem dX11_byteAt_17 : decode (mC mX11_byteAt) 17 = .ok (.goto 4, 3) := by decide +kernel
theorem dX11_byteAt_20 : decode (mC mX11_byteAt) 20 = .ok (.iconst (-1), 1) := by decide +kernel
theorem dX11_byteAt_21 : decode (mC mX11_byteAt) 21 = .ok (.ireturn, 1) := by decide +kernel
theorem dX11_isLetter_0 : decode (mC mX11_isLetter) 0 = .ok (.iload_n 0, 1) := by decide +kernel
theorem dX11_isLetter_1 : decode (mC mX11_isLetter) 1 = .ok (.bipush 97, 2) := by decide +kernel
theorem dX11_isLetter_3 : decode (mC mX11_isLetter) 3 = .ok (.if_icmp .lt 13, 3) := by decide +kernel
theorem dX11_isLetter_6 : decode (mC mX11_isLetter) 6 = .ok (.iload_n 0, 1) := by decide +kernel
theorem dX11_isLetter_7 : decode (mC mX11_isLetter) 7 = .ok (.bipush 122, 2) := by decide +kernel
theorem dX11_isLetter_9 : decode (mC mX11_isLetter) 9 = .ok (.if_icmp .gt 7, 3) := by decide +kernel
theorem dX11_isLetter_12 : decode (mC mX11_isLetter) 12 = .ok (.iconst 1, 1) := by decide +kernel
theorem dX11_isLetter_13 : decode (mC mX11_isLetter) 13 = .ok (.goto 4, 3) := by decide +kernel
theorem dX11_isLetter_16 : decode (mC mX11_isLetter) 16 = .ok (.iconst 0, 1) := by decide +kernel
theorem dX11_isLetter_17 : decode (mC mX11_isLetter) 17 = .ok (.ireturn, 1) := by decide +kernel
theorem dX11_isDigit_0 : decode (mC mX11_isDigit) 0 = .ok (.iload_n 0, 1) := by decide +kernel
theorem dX11_isDigit_1 : decode (mC mX11_isDigit) 1 = .ok (.bipush 48, 2) := by decide +kernel
theorem dX11_isDigit_3 : decode (mC mX11_isDigit) 3 = .ok (.if_icmp .lt 13, 3) := by decide +kernel
theorem dX11_isDigit_6 : decode (mC mX11_isDigit) 6 = .ok (.iload_n 0, 1) := by decide +kernel
theorem dX11_isDigit_7 : decode (mC mX11_isDigit) 7 = .ok (.bipush 57, 2) := by decide +kernel
theorem dX11_isDigit_9 : decode (mC mX11_isDigit) 9 = .ok (.if_icmp .gt 7, 3) := by decide +kernel
theorem dX11_isDigit_12 : decode (mC mX11_isDigit) 12 = .ok (.iconst 1, 1) := by decide +kernel
theorem dX11_isDigit_13 : decode (mC mX11_isDigit) 13 = .ok (.goto 4, 3) := by decide +kernel
theorem dX11_isDigit_16 : decode (mC mX11_isDigit) 16 = .ok (.iconst 0, 1) := by decide +kernel
theorem dX11_isDigit_17 : decode (mC mX11_isDigit) 17 = .ok (.ireturn, 1) := by decide +kernel
theorem dX11_four_0 : decode (mC mX11_four) 0 = .ok (.iload_n 0, 1) := by decide +kernel
theorem dX11_four_1 : decode (mC mX11_four) 1 = .ok (.bipush 32, 2) := by decide +kernel
theorem dX11_four_3 : decode (mC mX11_four) 3 = .ok (.imul, 1) := by decide +kernel
theorem dX11_four_4 : decode (mC mX11_four) 4 = .ok (.iload_n 1, 1) := by decide +kernel
theorem dX11_four_5 : decode (mC mX11_four) 5 = .ok (.iadd, 1) := by decide +kernel
theorem dX11_four_6 : decode (mC mX11_four) 6 = .ok (.bipush 32, 2) := by decide +kernel
theorem dX11_four_8 : decode (mC mX11_four) 8 = .ok (.imul, 1) := by decide +kernel
theorem dX11_four_9 : decode (mC mX11_four) 9 = .ok (.iload_n 2, 1) := by decide +kernel
theorem dX11_four_10 : decode (mC mX11_four) 10 = .ok (.iadd, 1) := by decide +kernel
theorem dX11_four_11 : decode (mC mX11_four) 11 = .ok (.bipush 32, 2) := by decide +kernel
theorem dX11_four_13 : decode (mC mX11_four) 13 = .ok (.imul, 1) := by decide +kernel
theorem dX11_four_14 : decode (mC mX11_four) 14 = .ok (.iload_n 3, 1) := by decide +kernel
theorem dX11_four_15 : decode (mC mX11_four) 15 = .ok (.iadd, 1) := by decide +kernel
theorem dX11_four_16 : decode (mC mX11_four) 16 = .ok (.i2l, 1) := by decide +kernel
theorem dX11_four_17 : decode (mC mX11_four) 17 = .ok (.lreturn, 1) := by decide +kernel
theorem dX11_eight_0 : decode (mC mX11_eight) 0 = .ok (.iload_n 0, 1) := by decide +kernel
theorem dX11_eight_1 : decode (mC mX11_eight) 1 = .ok (.iload_n 1, 1) := by decide +kernel
theorem dX11_eight_2 : decode (mC mX11_eight) 2 = .ok (.iload_n 2, 1) := by decide +kernel
theorem dX11_eight_3 : decode (mC mX11_eight) 3 = .ok (.iload_n 3, 1) := by decide +kernel
theorem dX11_eight_4 : decode (mC mX11_eight) 4 = .ok (.invokestatic 90, 3) := by decide +kernel
theorem dX11_eight_7 : decode (mC mX11_eight) 7 = .ok (.ldc2_w 94, 3) := by decide +kernel
theorem dX11_eight_10 : decode (mC mX11_eight) 10 = .ok (.lmul, 1) := by decide +kernel
theorem dX11_eight_11 : decode (mC mX11_eight) 11 = .ok (.iload 4, 2) := by decide +kernel
theorem dX11_eight_13 : decode (mC mX11_eight) 13 = .ok (.iload 5, 2) := by decide +kernel
theorem dX11_eight_15 : decode (mC mX11_eight) 15 = .ok (.iload 6, 2) := by decide +kernel
theorem dX11_eight_17 : decode (mC mX11_eight) 17 = .ok (.iload 7, 2) := by decide +kernel
theorem dX11_eight_19 : decode (mC mX11_eight) 19 = .ok (.invokestatic 90, 3) := by decide +kernel
theorem dX11_eight_22 : decode (mC mX11_eight) 22 = .ok (.ladd, 1) := by decide +kernel
theorem dX11_eight_23 : decode (mC mX11_eight) 23 = .ok (.lreturn, 1) := by decide +kernel
theorem dX11_wordOf_0 : decode (mC mX11_wordOf) 0 = .ok (.lload_n 0, 1) := by decide +kernel
theorem dX11_wordOf_1 : decode (mC mX11_wordOf) 1 = .ok (.bipush 19, 2) := by decide +kernel
theorem dX11_wordOf_3 : decode (mC mX11_wordOf) 3 = .ok (.bipush 9, 2) := by decide +kernel
theorem dX11_wordOf_5 : decode (mC mX11_wordOf) 5 = .ok (.bipush 26, 2) := by decide +kernel
theorem dX11_wordOf_7 : decode (mC mX11_wordOf) 7 = .ok (.iconst 5, 1) := by decide +kernel
theorem dX11_wordOf_8 : decode (mC mX11_wordOf) 8 = .ok (.invokestatic 90, 3) := by decide +kernel
theorem dX11_wordOf_11 : decode (mC mX11_wordOf) 11 = .ok (.lcmp, 1) := by decide +kernel
theorem dX11_wordOf_12 : decode (mC mX11_wordOf) 12 = .ok (.ifCond .ne 5, 3) := by decide +kernel
theorem dX11_wordOf_15 : decode (mC mX11_wordOf) 15 = .ok (.iconst 1, 1) := by decide +kernel
theorem dX11_wordOf_16 : decode (mC mX11_wordOf) 16 = .ok (.ireturn, 1) := by decide +kernel
theorem dX11_wordOf_17 : decode (mC mX11_wordOf) 17 = .ok (.lload_n 0, 1) := by decide +kernel
theorem dX11_wordOf_18 : decode (mC mX11_wordOf) 18 = .ok (.iconst 0, 1) := by decide +kernel
theorem dX11_wordOf_19 : decode (mC mX11_wordOf) 19 = .ok (.bipush 23, 2) := by decide +kernel
theorem dX11_wordOf_21 : decode (mC mX11_wordOf) 21 = .ok (.iconst 5, 1) := by decide +kernel
theorem dX11_wordOf_22 : decode (mC mX11_wordOf) 22 = .ok (.bipush 20, 2) := by decide +kernel
theorem dX11_wordOf_24 : decode (mC mX11_wordOf) 24 = .ok (.invokestatic 90, 3) := by decide +kernel
theorem dX11_wordOf_27 : decode (mC mX11_wordOf) 27 = .ok (.lcmp, 1) := by decide +kernel
theorem dX11_wordOf_28 : decode (mC mX11_wordOf) 28 = .ok (.ifCond .ne 5, 3) := by decide +kernel
theorem dX11_wordOf_31 : decode (mC mX11_wordOf) 31 = .ok (.iconst 2, 1) := by decide +kernel
theorem dX11_wordOf_32 : decode (mC mX11_wordOf) 32 = .ok (.ireturn, 1) := by decide +kernel
theorem dX11_wordOf_33 : decode (mC mX11_wordOf) 33 = .ok (.lload_n 0, 1) := by decide +kernel
theorem dX11_wordOf_34 : decode (mC mX11_wordOf) 34 = .ok (.bipush 6, 2) := by decide +kernel
theorem dX11_wordOf_36 : decode (mC mX11_wordOf) 36 = .ok (.bipush 15, 2) := by decide +kernel
theorem dX11_wordOf_38 : decode (mC mX11_wordOf) 38 = .ok (.bipush 15, 2) := by decide +kernel
theorem dX11_wordOf_40 : decode (mC mX11_wordOf) 40 = .ok (.bipush 20, 2) := by decide +kernel
theorem dX11_wordOf_42 : decode (mC mX11_wordOf) 42 = .ok (.invokestatic 90, 3) := by decide +kernel
theorem dX11_wordOf_45 : decode (mC mX11_wordOf) 45 = .ok (.lcmp, 1) := by decide +kernel
theorem dX11_wordOf_46 : decode (mC mX11_wordOf) 46 = .ok (.ifCond .ne 5, 3) := by decide +kernel
theorem dX11_wordOf_49 : decode (mC mX11_wordOf) 49 = .ok (.iconst 3, 1) := by decide +kernel
theorem dX11_wordOf_50 : decode (mC mX11_wordOf) 50 = .ok (.ireturn, 1) := by decide +kernel
theorem dX11_wordOf_51 : decode (mC mX11_wordOf) 51 = .ok (.lload_n 0, 1) := by decide +kernel
theorem dX11_wordOf_52 : decode (mC mX11_wordOf) 52 = .ok (.bipush 23, 2) := by decide +kernel
theorem dX11_wordOf_54 : decode (mC mX11_wordOf) 54 = .ok (.iconst 1, 1) := by decide +kernel
theorem dX11_wordOf_55 : decode (mC mX11_wordOf) 55 = .ok (.bipush 12, 2) := by decide +kernel
theorem dX11_wordOf_57 : decode (mC mX11_wordOf) 57 = .ok (.bipush 11, 2) := by decide +kernel
theorem dX11_wordOf_59 : decode (mC mX11_wordOf) 59 = .ok (.invokestatic 90, 3) := by decide +kernel
theorem dX11_wordOf_62 : decode (mC mX11_wordOf) 62 = .ok (.lcmp, 1) := by decide +kernel
theorem dX11_wordOf_63 : decode (mC mX11_wordOf) 63 = .ok (.ifCond .ne 5, 3) := by decide +kernel
theorem dX11_wordOf_66 : decode (mC mX11_wordOf) 66 = .ok (.iconst 4, 1) := by decide +kernel
theorem dX11_wordOf_67 : decode (mC mX11_wordOf) 67 = .ok (.ireturn, 1) := by decide +kernel
theorem dX11_wordOf_68 : decode (mC mX11_wordOf) 68 = .ok (.lload_n 0, 1) := by decide +kernel
theorem dX11_wordOf_69 : decode (mC mX11_wordOf) 69 = .ok (.iconst 0, 1) := by decide +kernel
theorem dX11_wordOf_70 : decode (mC mX11_wordOf) 70 = .ok (.iconst 0, 1) := by decide +kernel
theorem dX11_wordOf_71 : decode (mC mX11_wordOf) 71 = .ok (.iconst 0, 1) := by decide +kernel
theorem dX11_wordOf_72 : decode (mC mX11_wordOf) 72 = .ok (.iconst 3, 1) := by decide +kernel
theorem dX11_wordOf_73 : decode (mC mX11_wordOf) 73 = .ok (.iconst 1, 1) := by decide +kernel
theorem dX11_wordOf_74 : decode (mC mX11_wordOf) 74 = .ok (.bipush 18, 2) := by decide +kernel
theorem dX11_wordOf_76 : decode (mC mX11_wordOf) 76 = .ok (.bipush 18, 2) := by decide +kernel
theorem dX11_wordOf_78 : decode (mC mX11_wordOf) 78 = .ok (.bipush 25, 2) := by decide +kernel
theorem dX11_wordOf_80 : decode (mC mX11_wordOf) 80 = .ok (.invokestatic 96, 3) := by decide +kernel
theorem dX11_wordOf_83 : decode (mC mX11_wordOf) 83 = .ok (.lcmp, 1) := by decide +kernel
theorem dX11_wordOf_84 : decode (mC mX11_wordOf) 84 = .ok (.ifCond .ne 5, 3) := by decide +kernel
theorem dX11_wordOf_87 : decode (mC mX11_wordOf) 87 = .ok (.iconst 5, 1) := by decide +kernel
theorem dX11_wordOf_88 : decode (mC mX11_wordOf) 88 = .ok (.ireturn, 1) := by decide +kernel
theorem dX11_wordOf_89 : decode (mC mX11_wordOf) 89 = .ok (.lload_n 0, 1) := by decide +kernel
theorem dX11_wordOf_90 : decode (mC mX11_wordOf) 90 = .ok (.bipush 6, 2) := by decide +kernel
theorem dX11_wordOf_92 : decode (mC mX11_wordOf) 92 = .ok (.iconst 5, 1) := by decide +kernel
theorem dX11_wordOf_93 : decode (mC mX11_wordOf) 93 = .ok (.iconst 5, 1) := by decide +kernel
theorem dX11_wordOf_94 : decode (mC mX11_wordOf) 94 = .ok (.bipush 20, 2) := by decide +kernel
theorem dX11_wordOf_96 : decode (mC mX11_wordOf) 96 = .ok (.invokestatic 90, 3) := by decide +kernel
theorem dX11_wordOf_99 : decode (mC mX11_wordOf) 99 = .ok (.lcmp, 1) := by decide +kernel
theorem dX11_wordOf_100 : decode (mC mX11_wordOf) 100 = .ok (.ifCond .ne 6, 3) := by decide +kernel
theorem dX11_wordOf_103 : decode (mC mX11_wordOf) 103 = .ok (.bipush 6, 2) := by decide +kernel
theorem dX11_wordOf_105 : decode (mC mX11_wordOf) 105 = .ok (.ireturn, 1) := by decide +kernel
theorem dX11_wordOf_106 : decode (mC mX11_wordOf) 106 = .ok (.lload_n 0, 1) := by decide +kernel
theorem dX11_wordOf_107 : decode (mC mX11_wordOf) 107 = .ok (.iconst 0, 1) := by decide +kernel
theorem dX11_wordOf_108 : decode (mC mX11_wordOf) 108 = .ok (.iconst 0, 1) := by decide +kernel
theorem dX11_wordOf_109 : decode (mC mX11_wordOf) 109 = .ok (.iconst 0, 1) := by decide +kernel
theorem dX11_wordOf_110 : decode (mC mX11_wordOf) 110 = .ok (.bipush 8, 2) := by decide +kernel
theorem dX11_wordOf_112 : decode (mC mX11_wordOf) 112 = .ok (.iconst 1, 1) := by decide +kernel
theorem dX11_wordOf_113 : decode (mC mX11_wordOf) 113 = .ok (.bipush 14, 2) := by decide +kernel
theorem dX11_wordOf_115 : decode (mC mX11_wordOf) 115 = .ok (.iconst 4, 1) := by decide +kernel
theorem dX11_wordOf_116 : decode (mC mX11_wordOf) 116 = .ok (.bipush 19, 2) := by decide +kernel
theorem dX11_wordOf_118 : decode (mC mX11_wordOf) 118 = .ok (.invokestatic 96, 3) := by decide +kernel
theorem dX11_wordOf_121 : decode (mC mX11_wordOf) 121 = .ok (.lcmp, 1) := by decide +kernel
theorem dX11_wordOf_122 : decode (mC mX11_wordOf) 122 = .ok (.ifCond .ne 6, 3) := by decide +kernel
theorem dX11_wordOf_125 : decode (mC mX11_wordOf) 125 = .ok (.bipush 7, 2) := by decide +kernel
theorem dX11_wordOf_127 : decode (mC mX11_wordOf) 127 = .ok (.ireturn, 1) := by decide +kernel
theorem dX11_wordOf_128 : decode (mC mX11_wordOf) 128 = .ok (.lload_n 0, 1) := by decide +kernel
theorem dX11_wordOf_129 : decode (mC mX11_wordOf) 129 = .ok (.iconst 0, 1) := by decide +kernel
theorem dX11_wordOf_130 : decode (mC mX11_wordOf) 130 = .ok (.iconst 0, 1) := by decide +kernel
theorem dX11_wordOf_131 : decode (mC mX11_wordOf) 131 = .ok (.bipush 18, 2) := by decide +kernel
theorem dX11_wordOf_133 : decode (mC mX11_wordOf) 133 = .ok (.bipush 15, 2) := by decide +kernel
theorem dX11_wordOf_135 : decode (mC mX11_wordOf) 135 = .ok (.bipush 12, 2) := by decide +kernel
theorem dX11_wordOf_137 : decode (mC mX11_wordOf) 137 = .ok (.bipush 12, 2) := by decide +kernel
theorem dX11_wordOf_139 : decode (mC mX11_wordOf) 139 = .ok (.iconst 5, 1) := by decide +kernel
theorem dX11_wordOf_140 : decode (mC mX11_wordOf) 140 = .ok (.iconst 4, 1) := by decide +kernel
theorem dX11_wordOf_141 : decode (mC mX11_wordOf) 141 = .ok (.invokestatic 96, 3) := by decide +kernel
theorem dX11_wordOf_144 : decode (mC mX11_wordOf) 144 = .ok (.lcmp, 1) := by decide +kernel
theorem dX11_wordOf_145 : decode (mC mX11_wordOf) 145 = .ok (.ifCond .ne 6, 3) := by decide +kernel
theorem dX11_wordOf_148 : decode (mC mX11_wordOf) 148 = .ok (.bipush 8, 2) := by decide +kernel
theorem dX11_wordOf_150 : decode (mC mX11_wordOf) 150 = .ok (.ireturn, 1) := by decide +kernel
theorem dX11_wordOf_151 : decode (mC mX11_wordOf) 151 = .ok (.lload_n 0, 1) := by decide +kernel
theorem dX11_wordOf_152 : decode (mC mX11_wordOf) 152 = .ok (.bipush 18, 2) := by decide +kernel
theorem dX11_wordOf_154 : decode (mC mX11_wordOf) 154 = .ok (.iconst 1, 1) := by decide +kernel
theorem dX11_wordOf_155 : decode (mC mX11_wordOf) 155 = .ok (.bipush 9, 2) := by decide +kernel
theorem dX11_wordOf_157 : decode (mC mX11_wordOf) 157 = .ok (.bipush 14, 2) := by decide +kernel
theorem dX11_wordOf_159 : decode (mC mX11_wordOf) 159 = .ok (.invokestatic 90, 3) := by decide +kernel
theorem dX11_wordOf_162 : decode (mC mX11_wordOf) 162 = .ok (.lcmp, 1) := by decide +kernel
theorem dX11_wordOf_163 : decode (mC mX11_wordOf) 163 = .ok (.ifCond .ne 6, 3) := by decide +kernel
theorem dX11_wordOf_166 : decode (mC mX11_wordOf) 166 = .ok (.bipush 9, 2) := by decide +kernel
theorem dX11_wordOf_168 : decode (mC mX11_wordOf) 168 = .ok (.ireturn, 1) := by decide +kernel
theorem dX11_wordOf_169 : decode (mC mX11_wordOf) 169 = .ok (.lload_n 0, 1) := by decide +kernel
theorem dX11_wordOf_170 : decode (mC mX11_wordOf) 170 = .ok (.iconst 0, 1) := by decide +kernel
theorem dX11_wordOf_171 : decode (mC mX11_wordOf) 171 = .ok (.iconst 0, 1) := by decide +kernel
theorem dX11_wordOf_172 : decode (mC mX11_wordOf) 172 = .ok (.iconst 5, 1) := by decide +kernel
theorem dX11_wordOf_173 : decode (mC mX11_wordOf) 173 = .ok (.bipush 18, 2) := by decide +kernel
theorem dX11_wordOf_175 : decode (mC mX11_wordOf) 175 = .ok (.bipush 18, 2) := by decide +kernel
theorem dX11_wordOf_177 : decode (mC mX11_wordOf) 177 = .ok (.iconst 1, 1) := by decide +kernel
theorem dX11_wordOf_178 : decode (mC mX11_wordOf) 178 = .ok (.bipush 14, 2) := by decide +kernel
theorem dX11_wordOf_180 : decode (mC mX11_wordOf) 180 = .ok (.iconst 4, 1) := by decide +kernel
theorem dX11_wordOf_181 : decode (mC mX11_wordOf) 181 = .ok (.invokestatic 96, 3) := by decide +kernel
theorem dX11_wordOf_184 : decode (mC mX11_wordOf) 184 = .ok (.lcmp, 1) := by decide +kernel
theorem dX11_wordOf_185 : decode (mC mX11_wordOf) 185 = .ok (.ifCond .ne 6, 3) := by decide +kernel
theorem dX11_wordOf_188 : decode (mC mX11_wordOf) 188 = .ok (.bipush 10, 2) := by decide +kernel
theorem dX11_wordOf_190 : decode (mC mX11_wordOf) 190 = .ok (.ireturn, 1) := by decide +kernel
theorem dX11_wordOf_191 : decode (mC mX11_wordOf) 191 = .ok (.lload_n 0, 1) := by decide +kernel
theorem dX11_wordOf_192 : decode (mC mX11_wordOf) 192 = .ok (.bipush 19, 2) := by decide +kernel
theorem dX11_wordOf_194 : decode (mC mX11_wordOf) 194 = .ok (.bipush 9, 2) := by decide +kernel
theorem dX11_wordOf_196 : decode (mC mX11_wordOf) 196 = .ok (.bipush 7, 2) := by decide +kernel
theorem dX11_wordOf_198 : decode (mC mX11_wordOf) 198 = .ok (.bipush 14, 2) := by decide +kernel
theorem dX11_wordOf_200 : decode (mC mX11_wordOf) 200 = .ok (.invokestatic 90, 3) := by decide +kernel
theorem dX11_wordOf_203 : decode (mC mX11_wordOf) 203 = .ok (.lcmp, 1) := by decide +kernel
theorem dX11_wordOf_204 : decode (mC mX11_wordOf) 204 = .ok (.ifCond .ne 8, 3) := by decide +kernel
theorem dX11_wordOf_207 : decode (mC mX11_wordOf) 207 = .ok (.bipush 11, 2) := by decide +kernel
theorem dX11_wordOf_209 : decode (mC mX11_wordOf) 209 = .ok (.goto 5, 3) := by decide +kernel
theorem dX11_wordOf_212 : decode (mC mX11_wordOf) 212 = .ok (.bipush 99, 2) := by decide +kernel
theorem dX11_wordOf_214 : decode (mC mX11_wordOf) 214 = .ok (.ireturn, 1) := by decide +kernel
theorem dX11_advance_0 : decode (mC mX11_advance) 0 = .ok (.aload_n 0, 1) := by decide +kernel
theorem dX11_advance_1 : decode (mC mX11_advance) 1 = .ok (.aload_n 0, 1) := by decide +kernel
theorem dX11_advance_2 : decode (mC mX11_advance) 2 = .ok (.getfield 100, 3) := by decide +kernel
theorem dX11_advance_5 : decode (mC mX11_advance) 5 = .ok (.invokevirtual 103, 3) := by decide +kernel
theorem dX11_advance_8 : decode (mC mX11_advance) 8 = .ok (.bipush 10, 2) := by decide +kernel
theorem dX11_advance_10 : decode (mC mX11_advance) 10 = .ok (.if_icmp .eq 16, 3) := by decide +kernel
theorem dX11_advance_13 : decode (mC mX11_advance) 13 = .ok (.aload_n 0, 1) := by decide +kernel
theorem dX11_advance_14 : decode (mC mX11_advance) 14 = .ok (.aload_n 0, 1) := by decide +kernel
theorem dX11_advance_15 : decode (mC mX11_advance) 15 = .ok (.getfield 100, 3) := by decide +kernel
theorem dX11_advance_18 : decode (mC mX11_advance) 18 = .ok (.invokevirtual 103, 3) := by decide +kernel
theorem dX11_advance_21 : decode (mC mX11_advance) 21 = .ok (.bipush 32, 2) := by decide +kernel
theorem dX11_advance_23 : decode (mC mX11_advance) 23 = .ok (.if_icmp .ne 16, 3) := by decide +kernel
theorem dX11_advance_26 : decode (mC mX11_advance) 26 = .ok (.aload_n 0, 1) := by decide +kernel
theorem dX11_advance_27 : decode (mC mX11_advance) 27 = .ok (.dup, 1) := by decide +kernel
theorem dX11_advance_28 : decode (mC mX11_advance) 28 = .ok (.getfield 100, 3) := by decide +kernel
theorem dX11_advance_31 : decode (mC mX11_advance) 31 = .ok (.iconst 1, 1) := by decide +kernel
theorem dX11_advance_32 : decode (mC mX11_advance) 32 = .ok (.iadd, 1) := by decide +kernel
theorem dX11_advance_33 : decode (mC mX11_advance) 33 = .ok (.putfield 100, 3) := by decide +kernel
theorem dX11_advance_36 : decode (mC mX11_advance) 36 = .ok (.goto (-36), 3) := by decide +kernel
theorem dX11_advance_39 : decode (mC mX11_advance) 39 = .ok (.aload_n 0, 1) := by decide +kernel
theorem dX11_advance_40 : decode (mC mX11_advance) 40 = .ok (.aload_n 0, 1) := by decide +kernel
theorem dX11_advance_41 : decode (mC mX11_advance) 41 = .ok (.getfield 100, 3) := by decide +kernel
theorem dX11_advance_44 : decode (mC mX11_advance) 44 = .ok (.putfield 107, 3) := by decide +kernel
theorem dX11_advance_47 : decode (mC mX11_advance) 47 = .ok (.aload_n 0, 1) := by decide +kernel
theorem dX11_advance_48 : decode (mC mX11_advance) 48 = .ok (.aload_n 0, 1) := by decide +kernel
theorem dX11_advance_49 : decode (mC mX11_advance) 49 = .ok (.getfield 100, 3) := by decide +kernel
theorem dX11_advance_52 : decode (mC mX11_advance) 52 = .ok (.invokevirtual 103, 3) := by decide +kernel
theorem dX11_advance_55 : decode (mC mX11_advance) 55 = .ok (.istore_n 1, 1) := by decide +kernel
theorem dX11_advance_56 : decode (mC mX11_advance) 56 = .ok (.iload_n 1, 1) := by decide +kernel
theorem dX11_advance_57 : decode (mC mX11_advance) 57 = .ok (.ifCond .ge 11, 3) := by decide +kernel
theorem dX11_advance_60 : decode (mC mX11_advance) 60 = .ok (.aload_n 0, 1) := by decide +kernel
theorem dX11_advance_61 : decode (mC mX11_advance) 61 = .ok (.iconst 0, 1) := by decide +kernel
theorem dX11_advance_62 : decode (mC mX11_advance) 62 = .ok (.putfield 110, 3) := by decide +kernel
theorem dX11_advance_65 : decode (mC mX11_advance) 65 = .ok (.goto 246, 3) := by decide +kernel
theorem dX11_advance_68 : decode (mC mX11_advance) 68 = .ok (.iload_n 1, 1) := by decide +kernel
theorem dX11_advance_69 : decode (mC mX11_advance) 69 = .ok (.invokestatic 113, 3) := by decide +kernel
theorem dX11_advance_72 : decode (mC mX11_advance) 72 = .ok (.ifCond .eq 114, 3) := by decide +kernel
theorem dX11_advance_75 : decode (mC mX11_advance) 75 = .ok (.lconst 0, 1) := by decide +kernel
theorem dX11_advance_76 : decode (mC mX11_advance) 76 = .ok (.lstore_n 2, 1) := by decide +kernel
theorem dX11_advance_77 : decode (mC mX11_advance) 77 = .ok (.aload_n 0, 1) := by decide +kernel
theorem dX11_advance_78 : decode (mC mX11_advance) 78 = .ok (.aload_n 0, 1) := by decide +kernel
theorem dX11_advance_79 : decode (mC mX11_advance) 79 = .ok (.getfield 100, 3) := by decide +kernel
theorem dX11_advance_82 : decode (mC mX11_advance) 82 = .ok (.invokevirtual 103, 3) := by decide +kernel
theorem dX11_advance_85 : decode (mC mX11_advance) 85 = .ok (.invokestatic 113, 3) := by decide +kernel
theorem dX11_advance_88 : decode (mC mX11_advance) 88 = .ok (.ifCond .eq 50, 3) := by decide +kernel
theorem dX11_advance_91 : decode (mC mX11_advance) 91 = .ok (.aload_n 0, 1) := by decide +kernel
theorem dX11_advance_92 : decode (mC mX11_advance) 92 = .ok (.getfield 100, 3) := by decide +kernel
theorem dX11_advance_95 : decode (mC mX11_advance) 95 = .ok (.aload_n 0, 1) := by decide +kernel
theorem dX11_advance_96 : decode (mC mX11_advance) 96 = .ok (.getfield 107, 3) := by decide +kernel
theorem dX11_advance_99 : decode (mC mX11_advance) 99 = .ok (.isub, 1) := by decide +kernel
theorem dX11_advance_100 : decode (mC mX11_advance) 100 = .ok (.bipush 8, 2) := by decide +kernel
theorem dX11_advance_102 : decode (mC mX11_advance) 102 = .ok (.if_icmp .ge 23, 3) := by decide +kernel
theorem dX11_advance_105 : decode (mC mX11_advance) 105 = .ok (.ldc2_w 117, 3) := by decide +kernel
theorem dX11_advance_108 : decode (mC mX11_advance) 108 = .ok (.lload_n 2, 1) := by decide +kernel
theorem dX11_advance_109 : decode (mC mX11_advance) 109 = .ok (.lmul, 1) := by decide +kernel
theorem dX11_advance_110 : decode (mC mX11_advance) 110 = .ok (.aload_n 0, 1) := by decide +kernel
theorem dX11_advance_111 : decode (mC mX11_advance) 111 = .ok (.aload_n 0, 1) := by decide +kernel
theorem dX11_advance_112 : decode (mC mX11_advance) 112 = .ok (.getfield 100, 3) := by decide +kernel
theorem dX11_advance_115 : decode (mC mX11_advance) 115 = .ok (.invokevirtual 103, 3) := by decide +kernel
theorem dX11_advance_118 : decode (mC mX11_advance) 118 = .ok (.i2l, 1) := by decide +kernel
theorem dX11_advance_119 : decode (mC mX11_advance) 119 = .ok (.ladd, 1) := by decide +kernel
theorem dX11_advance_120 : decode (mC mX11_advance) 120 = .ok (.ldc2_w 119, 3) := by decide +kernel
theorem dX11_advance_123 : decode (mC mX11_advance) 123 = .ok (.lsub, 1) := by decide +kernel
theorem dX11_advance_124 : decode (mC mX11_advance) 124 = .ok (.lstore_n 2, 1) := by decide +kernel
theorem dX11_advance_125 : decode (mC mX11_advance) 125 = .ok (.aload_n 0, 1) := by decide +kernel
theorem dX11_advance_126 : decode (mC mX11_advance) 126 = .ok (.dup, 1) := by decide +kernel
theorem dX11_advance_127 : decode (mC mX11_advance) 127 = .ok (.getfield 100, 3) := by decide +kernel
theorem dX11_advance_130 : decode (mC mX11_advance) 130 = .ok (.iconst 1, 1) := by decide +kernel
theorem dX11_advance_131 : decode (mC mX11_advance) 131 = .ok (.iadd, 1) := by decide +kernel
theorem dX11_advance_132 : decode (mC mX11_advance) 132 = .ok (.putfield 100, 3) := by decide +kernel
theorem dX11_advance_135 : decode (mC mX11_advance) 135 = .ok (.goto (-58), 3) := by decide +kernel
theorem dX11_advance_138 : decode (mC mX11_advance) 138 = .ok (.aload_n 0, 1) := by decide +kernel
theorem dX11_advance_139 : decode (mC mX11_advance) 139 = .ok (.aload_n 0, 1) := by decide +kernel
theorem dX11_advance_140 : decode (mC mX11_advance) 140 = .ok (.getfield 100, 3) := by decide +kernel
theorem dX11_advance_143 : decode (mC mX11_advance) 143 = .ok (.aload_n 0, 1) := by decide +kernel
theorem dX11_advance_144 : decode (mC mX11_advance) 144 = .ok (.getfield 107, 3) := by decide +kernel
theorem dX11_advance_147 : decode (mC mX11_advance) 147 = .ok (.isub, 1) := by decide +kernel
theorem dX11_advance_148 : decode (mC mX11_advance) 148 = .ok (.bipush 8, 2) := by decide +kernel
theorem dX11_advance_150 : decode (mC mX11_advance) 150 = .ok (.if_icmp .le 8, 3) := by decide +kernel
theorem dX11_advance_153 : decode (mC mX11_advance) 153 = .ok (.bipush 99, 2) := by decide +kernel
theorem dX11_advance_155 : decode (mC mX11_advance) 155 = .ok (.goto 7, 3) := by decide +kernel
theorem dX11_advance_158 : decode (mC mX11_advance) 158 = .ok (.lload_n 2, 1) := by decide +kernel
theorem dX11_advance_159 : decode (mC mX11_advance) 159 = .ok (.invokestatic 121, 3) := by decide +kernel
theorem dX11_advance_162 : decode (mC mX11_advance) 162 = .ok (.putfield 125, 3) := by decide +kernel
theorem dX11_advance_165 : decode (mC mX11_advance) 165 = .ok (.aload_n 0, 1) := by decide +kernel
theorem dX11_advance_166 : decode (mC mX11_advance) 166 = .ok (.aload_n 0, 1) := by decide +kernel
theorem dX11_advance_167 : decode (mC mX11_advance) 167 = .ok (.getfield 125, 3) := by decide +kernel
theorem dX11_advance_170 : decode (mC mX11_advance) 170 = .ok (.bipush 99, 2) := by decide +kernel
theorem dX11_advance_172 : decode (mC mX11_advance) 172 = .ok (.if_icmp .ne 7, 3) := by decide +kernel
theorem dX11_advance_175 : decode (mC mX11_advance) 175 = .ok (.iconst 4, 1) := by decide +kernel
theorem dX11_advance_176 : decode (mC mX11_advance) 176 = .ok (.goto 4, 3) := by decide +kernel
theorem dX11_advance_179 : decode (mC mX11_advance) 179 = .ok (.iconst 3, 1) := by decide +kernel
theorem dX11_advance_180 : decode (mC mX11_advance) 180 = .ok (.putfield 110, 3) := by decide +kernel
theorem dX11_advance_183 : decode (mC mX11_advance) 183 = .ok (.goto 128, 3) := by decide +kernel
theorem dX11_advance_186 : decode (mC mX11_advance) 186 = .ok (.iload_n 1, 1) := by decide +kernel
theorem dX11_advance_187 : decode (mC mX11_advance) 187 = .ok (.invokestatic 128, 3) := by decide +kernel
theorem dX11_advance_190 : decode (mC mX11_advance) 190 = .ok (.ifCond .eq 96, 3) := by decide +kernel
theorem dX11_advance_193 : decode (mC mX11_advance) 193 = .ok (.aload_n 0, 1) := by decide +kernel
theorem dX11_advance_194 : decode (mC mX11_advance) 194 = .ok (.iconst 0, 1) := by decide +kernel
theorem dX11_advance_195 : decode (mC mX11_advance) 195 = .ok (.putfield 131, 3) := by decide +kernel
theorem dX11_advance_198 : decode (mC mX11_advance) 198 = .ok (.aload_n 0, 1) := by decide +kernel
theorem dX11_advance_199 : decode (mC mX11_advance) 199 = .ok (.aload_n 0, 1) := by decide +kernel
theorem dX11_advance_200 : decode (mC mX11_advance) 200 = .ok (.getfield 100, 3) := by decide +kernel
theorem dX11_advance_203 : decode (mC mX11_advance) 203 = .ok (.invokevirtual 103, 3) := by decide +kernel
theorem dX11_advance_206 : decode (mC mX11_advance) 206 = .ok (.invokestatic 128, 3) := by decide +kernel
theorem dX11_advance_209 : decode (mC mX11_advance) 209 = .ok (.ifCond .eq 52, 3) := by decide +kernel
theorem dX11_advance_212 : decode (mC mX11_advance) 212 = .ok (.aload_n 0, 1) := by decide +kernel
theorem dX11_advance_213 : decode (mC mX11_advance) 213 = .ok (.getfield 100, 3) := by decide +kernel
theorem dX11_advance_216 : decode (mC mX11_advance) 216 = .ok (.aload_n 0, 1) := by decide +kernel
theorem dX11_advance_217 : decode (mC mX11_advance) 217 = .ok (.getfield 107, 3) := by decide +kernel
theorem dX11_advance_220 : decode (mC mX11_advance) 220 = .ok (.isub, 1) := by decide +kernel
theorem dX11_advance_221 : decode (mC mX11_advance) 221 = .ok (.iconst 2, 1) := by decide +kernel
theorem dX11_advance_222 : decode (mC mX11_advance) 222 = .ok (.if_icmp .ge 26, 3) := by decide +kernel
theorem dX11_advance_225 : decode (mC mX11_advance) 225 = .ok (.aload_n 0, 1) := by decide +kernel
theorem dX11_advance_226 : decode (mC mX11_advance) 226 = .ok (.bipush 10, 2) := by decide +kernel
theorem dX11_advance_228 : decode (mC mX11_advance) 228 = .ok (.aload_n 0, 1) := by decide +kernel
theorem dX11_advance_229 : decode (mC mX11_advance) 229 = .ok (.getfield 131, 3) := by decide +kernel
theorem dX11_advance_232 : decode (mC mX11_advance) 232 = .ok (.imul, 1) := by decide +kernel
theorem dX11_advance_233 : decode (mC mX11_advance) 233 = .ok (.aload_n 0, 1) := by decide +kernel
theorem dX11_advance_234 : decode (mC mX11_advance) 234 = .ok (.aload_n 0, 1) := by decide +kernel
theorem dX11_advance_235 : decode (mC mX11_advance) 235 = .ok (.getfield 100, 3) := by decide +kernel
theorem dX11_advance_238 : decode (mC mX11_advance) 238 = .ok (.invokevirtual 103, 3) := by decide +kernel
theorem dX11_advance_241 : decode (mC mX11_advance) 241 = .ok (.iadd, 1) := by decide +kernel
theorem dX11_advance_242 : decode (mC mX11_advance) 242 = .ok (.bipush 48, 2) := by decide +kernel
theorem dX11_advance_244 : decode (mC mX11_advance) 244 = .ok (.isub, 1) := by decide +kernel
theorem dX11_advance_245 : decode (mC mX11_advance) 245 = .ok (.putfield 131, 3) := by decide +kernel
theorem dX11_advance_248 : decode (mC mX11_advance) 248 = .ok (.aload_n 0, 1) := by decide +kernel
theorem dX11_advance_249 : decode (mC mX11_advance) 249 = .ok (.dup, 1) := by decide +kernel
theorem dX11_advance_250 : decode (mC mX11_advance) 250 = .ok (.getfield 100, 3) := by decide +kernel
theorem dX11_advance_253 : decode (mC mX11_advance) 253 = .ok (.iconst 1, 1) := by decide +kernel
theorem dX11_advance_254 : decode (mC mX11_advance) 254 = .ok (.iadd, 1) := by decide +kernel
theorem dX11_advance_255 : decode (mC mX11_advance) 255 = .ok (.putfield 100, 3) := by decide +kernel
theorem dX11_advance_258 : decode (mC mX11_advance) 258 = .ok (.goto (-60), 3) := by decide +kernel
theorem dX11_advance_261 : decode (mC mX11_advance) 261 = .ok (.aload_n 0, 1) := by decide +kernel
theorem dX11_advance_262 : decode (mC mX11_advance) 262 = .ok (.aload_n 0, 1) := by decide +kernel
theorem dX11_advance_263 : decode (mC mX11_advance) 263 = .ok (.getfield 100, 3) := by decide +kernel
theorem dX11_advance_266 : decode (mC mX11_advance) 266 = .ok (.aload_n 0, 1) := by decide +kernel
theorem dX11_advance_267 : decode (mC mX11_advance) 267 = .ok (.getfield 107, 3) := by decide +kernel
theorem dX11_advance_270 : decode (mC mX11_advance) 270 = .ok (.isub, 1) := by decide +kernel
theorem dX11_advance_271 : decode (mC mX11_advance) 271 = .ok (.iconst 2, 1) := by decide +kernel
theorem dX11_advance_272 : decode (mC mX11_advance) 272 = .ok (.if_icmp .le 7, 3) := by decide +kernel
theorem dX11_advance_275 : decode (mC mX11_advance) 275 = .ok (.iconst 4, 1) := by decide +kernel
theorem dX11_advance_276 : decode (mC mX11_advance) 276 = .ok (.goto 4, 3) := by decide +kernel
theorem dX11_advance_279 : decode (mC mX11_advance) 279 = .ok (.iconst 1, 1) := by decide +kernel
theorem dX11_advance_280 : decode (mC mX11_advance) 280 = .ok (.putfield 110, 3) := by decide +kernel
theorem dX11_advance_283 : decode (mC mX11_advance) 283 = .ok (.goto 28, 3) := by decide +kernel
theorem dX11_advance_286 : decode (mC mX11_advance) 286 = .ok (.aload_n 0, 1) := by decide +kernel
theorem dX11_advance_287 : decode (mC mX11_advance) 287 = .ok (.dup, 1) := by decide +kernel
theorem dX11_advance_288 : decode (mC mX11_advance) 288 = .ok (.getfield 100, 3) := by decide +kernel
theorem dX11_advance_291 : decode (mC mX11_advance) 291 = .ok (.iconst 1, 1) := by decide +kernel
theorem dX11_advance_292 : decode (mC mX11_advance) 292 = .ok (.iadd, 1) := by decide +kernel
theorem dX11_advance_293 : decode (mC mX11_advance) 293 = .ok (.putfield 100, 3) := by decide +kernel
theorem dX11_advance_296 : decode (mC mX11_advance) 296 = .ok (.aload_n 0, 1) := by decide +kernel
theorem dX11_advance_297 : decode (mC mX11_advance) 297 = .ok (.iload_n 1, 1) := by decide +kernel
theorem dX11_advance_298 : decode (mC mX11_advance) 298 = .ok (.bipush 59, 2) := by decide +kernel
theorem dX11_advance_300 : decode (mC mX11_advance) 300 = .ok (.if_icmp .ne 7, 3) := by decide +kernel
theorem dX11_advance_303 : decode (mC mX11_advance) 303 = .ok (.iconst 2, 1) := by decide +kernel
theorem dX11_advance_304 : decode (mC mX11_advance) 304 = .ok (.goto 4, 3) := by decide +kernel
theorem dX11_advance_307 : decode (mC mX11_advance) 307 = .ok (.iconst 4, 1) := by decide +kernel
theorem dX11_advance_308 : decode (mC mX11_advance) 308 = .ok (.putfield 110, 3) := by decide +kernel
theorem dX11_advance_311 : decode (mC mX11_advance) 311 = .ok (.return_, 1) := by decide +kernel
theorem dX11_ends_0 : decode (mC mX11_ends) 0 = .ok (.aload_n 0, 1) := by decide +kernel
theorem dX11_ends_1 : decode (mC mX11_ends) 1 = .ok (.getfield 134, 3) := by decide +kernel
theorem dX11_ends_4 : decode (mC mX11_ends) 4 = .ok (.ifCond .eq 4, 3) := by decide +kernel
theorem dX11_ends_7 : decode (mC mX11_ends) 7 = .ok (.return_, 1) := by decide +kernel
theorem dX11_ends_8 : decode (mC mX11_ends) 8 = .ok (.aload_n 0, 1) := by decide +kernel
theorem dX11_ends_9 : decode (mC mX11_ends) 9 = .ok (.iconst 1, 1) := by decide +kernel
theorem dX11_ends_10 : decode (mC mX11_ends) 10 = .ok (.putfield 134, 3) := by decide +kernel
theorem dX11_ends_13 : decode (mC mX11_ends) 13 = .ok (.aload_n 0, 1) := by decide +kernel
theorem dX11_ends_14 : decode (mC mX11_ends) 14 = .ok (.getfield 7, 3) := by decide +kernel
theorem dX11_ends_17 : decode (mC mX11_ends) 17 = .ok (.iconst 3, 1) := by decide +kernel
theorem dX11_ends_18 : decode (mC mX11_ends) 18 = .ok (.iconst 1, 1) := by decide +kernel
theorem dX11_ends_19 : decode (mC mX11_ends) 19 = .ok (.iastore, 1) := by decide +kernel
theorem dX11_ends_20 : decode (mC mX11_ends) 20 = .ok (.aload_n 0, 1) := by decide +kernel
theorem dX11_ends_21 : decode (mC mX11_ends) 21 = .ok (.getfield 7, 3) := by decide +kernel
theorem dX11_ends_24 : decode (mC mX11_ends) 24 = .ok (.iconst 4, 1) := by decide +kernel
theorem dX11_ends_25 : decode (mC mX11_ends) 25 = .ok (.aload_n 0, 1) := by decide +kernel
theorem dX11_ends_26 : decode (mC mX11_ends) 26 = .ok (.getfield 107, 3) := by decide +kernel
theorem dX11_ends_29 : decode (mC mX11_ends) 29 = .ok (.iastore, 1) := by decide +kernel
theorem dX11_ends_30 : decode (mC mX11_ends) 30 = .ok (.return_, 1) := by decide +kernel
theorem dX11_also_0 : decode (mC mX11_also) 0 = .ok (.aload_n 0, 1) := by decide +kernel
theorem dX11_also_1 : decode (mC mX11_also) 1 = .ok (.getfield 134, 3) := by decide +kernel
theorem dX11_also_4 : decode (mC mX11_also) 4 = .ok (.ifCond .ne 42, 3) := by decide +kernel
theorem dX11_also_7 : decode (mC mX11_also) 7 = .ok (.aload_n 0, 1) := by decide +kernel
theorem dX11_also_8 : decode (mC mX11_also) 8 = .ok (.getfield 7, 3) := by decide +kernel
theorem dX11_also_11 : decode (mC mX11_also) 11 = .ok (.iconst 3, 1) := by decide +kernel
theorem dX11_also_12 : decode (mC mX11_also) 12 = .ok (.iaload, 1) := by decide +kernel
theorem dX11_also_13 : decode (mC mX11_also) 13 = .ok (.ifCond .eq 34, 3) := by decide +kernel
theorem dX11_also_16 : decode (mC mX11_also) 16 = .ok (.aload_n 0, 1) := by decide +kernel
theorem dX11_also_17 : decode (mC mX11_also) 17 = .ok (.getfield 7, 3) := by decide +kernel
theorem dX11_also_20 : decode (mC mX11_also) 20 = .ok (.iconst 4, 1) := by decide +kernel
theorem dX11_also_21 : decode (mC mX11_also) 21 = .ok (.iaload, 1) := by decide +kernel
theorem dX11_also_22 : decode (mC mX11_also) 22 = .ok (.iload_n 2, 1) := by decide +kernel
theorem dX11_also_23 : decode (mC mX11_also) 23 = .ok (.if_icmp .lt 23, 3) := by decide +kernel
theorem dX11_also_26 : decode (mC mX11_also) 26 = .ok (.aload_n 0, 1) := by decide +kernel
theorem dX11_also_27 : decode (mC mX11_also) 27 = .ok (.getfield 7, 3) := by decide +kernel
theorem dX11_also_30 : decode (mC mX11_also) 30 = .ok (.iconst 4, 1) := by decide +kernel
theorem dX11_also_31 : decode (mC mX11_also) 31 = .ok (.iaload, 1) := by decide +kernel
theorem dX11_also_32 : decode (mC mX11_also) 32 = .ok (.iload_n 2, 1) := by decide +kernel
theorem dX11_also_33 : decode (mC mX11_also) 33 = .ok (.if_icmp .ne 14, 3) := by decide +kernel
theorem dX11_also_36 : decode (mC mX11_also) 36 = .ok (.aload_n 0, 1) := by decide +kernel
theorem dX11_also_37 : decode (mC mX11_also) 37 = .ok (.getfield 7, 3) := by decide +kernel
theorem dX11_also_40 : decode (mC mX11_also) 40 = .ok (.iconst 3, 1) := by decide +kernel
theorem dX11_also_41 : decode (mC mX11_also) 41 = .ok (.iaload, 1) := by decide +kernel
theorem dX11_also_42 : decode (mC mX11_also) 42 = .ok (.iload_n 1, 1) := by decide +kernel
theorem dX11_also_43 : decode (mC mX11_also) 43 = .ok (.if_icmp .gt 4, 3) := by decide +kernel
theorem dX11_also_46 : decode (mC mX11_also) 46 = .ok (.return_, 1) := by decide +kernel
theorem dX11_also_47 : decode (mC mX11_also) 47 = .ok (.aload_n 0, 1) := by decide +kernel
theorem dX11_also_48 : decode (mC mX11_also) 48 = .ok (.getfield 7, 3) := by decide +kernel
theorem dX11_also_51 : decode (mC mX11_also) 51 = .ok (.iconst 3, 1) := by decide +kernel
theorem dX11_also_52 : decode (mC mX11_also) 52 = .ok (.iload_n 1, 1) := by decide +kernel
theorem dX11_also_53 : decode (mC mX11_also) 53 = .ok (.iastore, 1) := by decide +kernel
theorem dX11_also_54 : decode (mC mX11_also) 54 = .ok (.aload_n 0, 1) := by decide +kernel
theorem dX11_also_55 : decode (mC mX11_also) 55 = .ok (.getfield 7, 3) := by decide +kernel
theorem dX11_also_58 : decode (mC mX11_also) 58 = .ok (.iconst 4, 1) := by decide +kernel
theorem dX11_also_59 : decode (mC mX11_also) 59 = .ok (.iload_n 2, 1) := by decide +kernel
theorem dX11_also_60 : decode (mC mX11_also) 60 = .ok (.iastore, 1) := by decide +kernel
theorem dX11_also_61 : decode (mC mX11_also) 61 = .ok (.return_, 1) := by decide +kernel
theorem dX11_numbered_0 : decode (mC mX11_numbered) 0 = .ok (.aload_n 0, 1) := by decide +kernel
theorem dX11_numbered_1 : decode (mC mX11_numbered) 1 = .ok (.getfield 134, 3) := by decide +kernel
theorem dX11_numbered_4 : decode (mC mX11_numbered) 4 = .ok (.ifCond .ne 11, 3) := by decide +kernel
theorem dX11_numbered_7 : decode (mC mX11_numbered) 7 = .ok (.aload_n 0, 1) := by decide +kernel
theorem dX11_numbered_8 : decode (mC mX11_numbered) 8 = .ok (.getfield 110, 3) := by decide +kernel
theorem dX11_numbered_11 : decode (mC mX11_numbered) 11 = .ok (.iconst 1, 1) := by decide +kernel
theorem dX11_numbered_12 : decode (mC mX11_numbered) 12 = .ok (.if_icmp .eq 9, 3) := by decide +kernel
theorem dX11_numbered_15 : decode (mC mX11_numbered) 15 = .ok (.aload_n 0, 1) := by decide +kernel
theorem dX11_numbered_16 : decode (mC mX11_numbered) 16 = .ok (.invokevirtual 138, 3) := by decide +kernel
theorem dX11_numbered_19 : decode (mC mX11_numbered) 19 = .ok (.iload_n 1, 1) := by decide +kernel
theorem dX11_numbered_20 : decode (mC mX11_numbered) 20 = .ok (.ireturn, 1) := by decide +kernel
theorem dX11_numbered_21 : decode (mC mX11_numbered) 21 = .ok (.aload_n 0, 1) := by decide +kernel
theorem dX11_numbered_22 : decode (mC mX11_numbered) 22 = .ok (.getfield 131, 3) := by decide +kernel
theorem dX11_numbered_25 : decode (mC mX11_numbered) 25 = .ok (.istore_n 3, 1) := by decide +kernel
theorem dX11_numbered_26 : decode (mC mX11_numbered) 26 = .ok (.iload_n 3, 1) := by decide +kernel
theorem dX11_numbered_27 : decode (mC mX11_numbered) 27 = .ok (.iload_n 1, 1) := by decide +kernel
theorem dX11_numbered_28 : decode (mC mX11_numbered) 28 = .ok (.iload_n 2, 1) := by decide +kernel
theorem dX11_numbered_29 : decode (mC mX11_numbered) 29 = .ok (.invokestatic 140, 3) := by decide +kernel
theorem dX11_numbered_32 : decode (mC mX11_numbered) 32 = .ok (.ifCond .ne 12, 3) := by decide +kernel
theorem dX11_numbered_35 : decode (mC mX11_numbered) 35 = .ok (.aload_n 0, 1) := by decide +kernel
theorem dX11_numbered_36 : decode (mC mX11_numbered) 36 = .ok (.iconst 2, 1) := by decide +kernel
theorem dX11_numbered_37 : decode (mC mX11_numbered) 37 = .ok (.aload_n 0, 1) := by decide +kernel
theorem dX11_numbered_38 : decode (mC mX11_numbered) 38 = .ok (.getfield 107, 3) := by decide +kernel
theorem dX11_numbered_41 : decode (mC mX11_numbered) 41 = .ok (.invokevirtual 144, 3) := by decide +kernel
theorem dX11_numbered_44 : decode (mC mX11_numbered) 44 = .ok (.aload_n 0, 1) := by decide +kernel
theorem dX11_numbered_45 : decode (mC mX11_numbered) 45 = .ok (.invokevirtual 148, 3) := by decide +kernel
theorem dX11_numbered_48 : decode (mC mX11_numbered) 48 = .ok (.iload_n 3, 1) := by decide +kernel
theorem dX11_numbered_49 : decode (mC mX11_numbered) 49 = .ok (.iload_n 1, 1) := by decide +kernel
theorem dX11_numbered_50 : decode (mC mX11_numbered) 50 = .ok (.iload_n 2, 1) := by decide +kernel
theorem dX11_numbered_51 : decode (mC mX11_numbered) 51 = .ok (.invokestatic 140, 3) := by decide +kernel
theorem dX11_numbered_54 : decode (mC mX11_numbered) 54 = .ok (.ifCond .eq 7, 3) := by decide +kernel
theorem dX11_numbered_57 : decode (mC mX11_numbered) 57 = .ok (.iload_n 3, 1) := by decide +kernel
theorem dX11_numbered_58 : decode (mC mX11_numbered) 58 = .ok (.goto 4, 3) := by decide +kernel
theorem dX11_numbered_61 : decode (mC mX11_numbered) 61 = .ok (.iload_n 1, 1) := by decide +kernel
theorem dX11_numbered_62 : decode (mC mX11_numbered) 62 = .ok (.ireturn, 1) := by decide +kernel
theorem dX11_takes_0 : decode (mC mX11_takes) 0 = .ok (.aload_n 0, 1) := by decide +kernel
theorem dX11_takes_1 : decode (mC mX11_takes) 1 = .ok (.getfield 134, 3) := by decide +kernel
theorem dX11_takes_4 : decode (mC mX11_takes) 4 = .ok (.ifCond .ne 23, 3) := by decide +kernel
theorem dX11_takes_7 : decode (mC mX11_takes) 7 = .ok (.aload_n 0, 1) := by decide +kernel
theorem dX11_takes_8 : decode (mC mX11_takes) 8 = .ok (.getfield 110, 3) := by decide +kernel
theorem dX11_takes_11 : decode (mC mX11_takes) 11 = .ok (.iconst 3, 1) := by decide +kernel
theorem dX11_takes_12 : decode (mC mX11_takes) 12 = .ok (.if_icmp .ne 15, 3) := by decide +kernel
theorem dX11_takes_15 : decode (mC mX11_takes) 15 = .ok (.aload_n 0, 1) := by decide +kernel
theorem dX11_takes_16 : decode (mC mX11_takes) 16 = .ok (.getfield 125, 3) := by decide +kernel
theorem dX11_takes_19 : decode (mC mX11_takes) 19 = .ok (.iload_n 1, 1) := by decide +kernel
theorem dX11_takes_20 : decode (mC mX11_takes) 20 = .ok (.iload_n 2, 1) := by decide +kernel
theorem dX11_takes_21 : decode (mC mX11_takes) 21 = .ok (.invokestatic 140, 3) := by decide +kernel
theorem dX11_takes_24 : decode (mC mX11_takes) 24 = .ok (.ifCond .ne 9, 3) := by decide +kernel
theorem dX11_takes_27 : decode (mC mX11_takes) 27 = .ok (.aload_n 0, 1) := by decide +kernel
theorem dX11_takes_28 : decode (mC mX11_takes) 28 = .ok (.invokevirtual 138, 3) := by decide +kernel
theorem dX11_takes_31 : decode (mC mX11_takes) 31 = .ok (.iconst 0, 1) := by decide +kernel
theorem dX11_takes_32 : decode (mC mX11_takes) 32 = .ok (.ireturn, 1) := by decide +kernel
theorem dX11_takes_33 : decode (mC mX11_takes) 33 = .ok (.aload_n 0, 1) := by decide +kernel
theorem dX11_takes_34 : decode (mC mX11_takes) 34 = .ok (.getfield 125, 3) := by decide +kernel
theorem dX11_takes_37 : decode (mC mX11_takes) 37 = .ok (.istore_n 3, 1) := by decide +kernel
theorem dX11_takes_38 : decode (mC mX11_takes) 38 = .ok (.aload_n 0, 1) := by decide +kernel
theorem dX11_takes_39 : decode (mC mX11_takes) 39 = .ok (.invokevirtual 148, 3) := by decide +kernel
theorem dX11_takes_42 : decode (mC mX11_takes) 42 = .ok (.iload_n 3, 1) := by decide +kernel
theorem dX11_takes_43 : decode (mC mX11_takes) 43 = .ok (.ireturn, 1) := by decide +kernel
theorem dX11_endsLine_0 : decode (mC mX11_endsLine) 0 = .ok (.aload_n 0, 1) := by decide +kernel
theorem dX11_endsLine_1 : decode (mC mX11_endsLine) 1 = .ok (.getfield 134, 3) := by decide +kernel
theorem dX11_endsLine_4 : decode (mC mX11_endsLine) 4 = .ok (.ifCond .ne 18, 3) := by decide +kernel
theorem dX11_endsLine_7 : decode (mC mX11_endsLine) 7 = .ok (.aload_n 0, 1) := by decide +kernel
theorem dX11_endsLine_8 : decode (mC mX11_endsLine) 8 = .ok (.getfield 110, 3) := by decide +kernel
theorem dX11_endsLine_11 : decode (mC mX11_endsLine) 11 = .ok (.iconst 2, 1) := by decide +kernel
theorem dX11_endsLine_12 : decode (mC mX11_endsLine) 12 = .ok (.if_icmp .ne 10, 3) := by decide +kernel
theorem dX11_endsLine_15 : decode (mC mX11_endsLine) 15 = .ok (.aload_n 0, 1) := by decide +kernel
theorem dX11_endsLine_16 : decode (mC mX11_endsLine) 16 = .ok (.invokevirtual 148, 3) := by decide +kernel
theorem dX11_endsLine_19 : decode (mC mX11_endsLine) 19 = .ok (.goto 7, 3) := by decide +kernel
theorem dX11_endsLine_22 : decode (mC mX11_endsLine) 22 = .ok (.aload_n 0, 1) := by decide +kernel
theorem dX11_endsLine_23 : decode (mC mX11_endsLine) 23 = .ok (.invokevirtual 138, 3) := by decide +kernel
theorem dX11_endsLine_26 : decode (mC mX11_endsLine) 26 = .ok (.return_, 1) := by decide +kernel
theorem dX11_who_0 : decode (mC mX11_who) 0 = .ok (.aload_n 0, 1) := by decide +kernel
theorem dX11_who_1 : decode (mC mX11_who) 1 = .ok (.iconst 0, 1) := by decide +kernel
theorem dX11_who_2 : decode (mC mX11_who) 2 = .ok (.iconst 5, 1) := by decide +kernel
theorem dX11_who_3 : decode (mC mX11_who) 3 = .ok (.invokevirtual 151, 3) := by decide +kernel
theorem dX11_who_6 : decode (mC mX11_who) 6 = .ok (.istore_n 1, 1) := by decide +kernel
theorem dX11_who_7 : decode (mC mX11_who) 7 = .ok (.aload_n 0, 1) := by decide +kernel
theorem dX11_who_8 : decode (mC mX11_who) 8 = .ok (.iload_n 1, 1) := by decide +kernel
theorem dX11_who_9 : decode (mC mX11_who) 9 = .ok (.aload_n 0, 1) := by decide +kernel
theorem dX11_who_10 : decode (mC mX11_who) 10 = .ok (.getfield 155, 3) := by decide +kernel
theorem dX11_who_13 : decode (mC mX11_who) 13 = .ok (.if_icmp .le 7, 3) := by decide +kernel
theorem dX11_who_16 : decode (mC mX11_who) 16 = .ok (.iload_n 1, 1) := by decide +kernel
theorem dX11_who_17 : decode (mC mX11_who) 17 = .ok (.goto 7, 3) := by decide +kernel
theorem dX11_who_20 : decode (mC mX11_who) 20 = .ok (.aload_n 0, 1) := by decide +kernel
theorem dX11_who_21 : decode (mC mX11_who) 21 = .ok (.getfield 155, 3) := by decide +kernel
theorem dX11_who_24 : decode (mC mX11_who) 24 = .ok (.putfield 155, 3) := by decide +kernel
theorem dX11_who_27 : decode (mC mX11_who) 27 = .ok (.iload_n 1, 1) := by decide +kernel
theorem dX11_who_28 : decode (mC mX11_who) 28 = .ok (.ireturn, 1) := by decide +kernel
theorem dX11_cellTold_0 : decode (mC mX11_cellTold) 0 = .ok (.aload_n 0, 1) := by decide +kernel
theorem dX11_cellTold_1 : decode (mC mX11_cellTold) 1 = .ok (.iconst 0, 1) := by decide +kernel
theorem dX11_cellTold_2 : decode (mC mX11_cellTold) 2 = .ok (.bipush 63, 2) := by decide +kernel
theorem dX11_cellTold_4 : decode (mC mX11_cellTold) 4 = .ok (.invokevirtual 151, 3) := by decide +kernel
theorem dX11_cellTold_7 : decode (mC mX11_cellTold) 7 = .ok (.istore_n 1, 1) := by decide +kernel
theorem dX11_cellTold_8 : decode (mC mX11_cellTold) 8 = .ok (.aload_n 0, 1) := by decide +kernel
theorem dX11_cellTold_9 : decode (mC mX11_cellTold) 9 = .ok (.iload_n 1, 1) := by decide +kernel
theorem dX11_cellTold_10 : decode (mC mX11_cellTold) 10 = .ok (.aload_n 0, 1) := by decide +kernel
theorem dX11_cellTold_11 : decode (mC mX11_cellTold) 11 = .ok (.getfield 158, 3) := by decide +kernel
theorem dX11_cellTold_14 : decode (mC mX11_cellTold) 14 = .ok (.if_icmp .le 7, 3) := by decide +kernel
theorem dX11_cellTold_17 : decode (mC mX11_cellTold) 17 = .ok (.iload_n 1, 1) := by decide +kernel
theorem dX11_cellTold_18 : decode (mC mX11_cellTold) 18 = .ok (.goto 7, 3) := by decide +kernel
theorem dX11_cellTold_21 : decode (mC mX11_cellTold) 21 = .ok (.aload_n 0, 1) := by decide +kernel
theorem dX11_cellTold_22 : decode (mC mX11_cellTold) 22 = .ok (.getfield 158, 3) := by decide +kernel
theorem dX11_cellTold_25 : decode (mC mX11_cellTold) 25 = .ok (.putfield 158, 3) := by decide +kernel
theorem dX11_cellTold_28 : decode (mC mX11_cellTold) 28 = .ok (.iload_n 1, 1) := by decide +kernel
theorem dX11_cellTold_29 : decode (mC mX11_cellTold) 29 = .ok (.ireturn, 1) := by decide +kernel
theorem dX11_footLine_0 : decode (mC mX11_footLine) 0 = .ok (.aload_n 0, 1) := by decide +kernel
theorem dX11_footLine_1 : decode (mC mX11_footLine) 1 = .ok (.getfield 17, 3) := by decide +kernel
theorem dX11_footLine_4 : decode (mC mX11_footLine) 4 = .ok (.iconst 3, 1) := by decide +kernel
theorem dX11_footLine_5 : decode (mC mX11_footLine) 5 = .ok (.iaload, 1) := by decide +kernel
theorem dX11_footLine_6 : decode (mC mX11_footLine) 6 = .ok (.bipush 6, 2) := by decide +kernel
theorem dX11_footLine_8 : decode (mC mX11_footLine) 8 = .ok (.if_icmp .ge 7, 3) := by decide +kernel
theorem dX11_footLine_11 : decode (mC mX11_footLine) 11 = .ok (.iconst 1, 1) := by decide +kernel
theorem dX11_footLine_12 : decode (mC mX11_footLine) 12 = .ok (.goto 4, 3) := by decide +kernel
theorem dX11_footLine_15 : decode (mC mX11_footLine) 15 = .ok (.iconst 0, 1) := by decide +kernel
theorem dX11_footLine_16 : decode (mC mX11_footLine) 16 = .ok (.istore_n 2, 1) := by decide +kernel
theorem dX11_footLine_17 : decode (mC mX11_footLine) 17 = .ok (.iload_n 2, 1) := by decide +kernel
theorem dX11_footLine_18 : decode (mC mX11_footLine) 18 = .ok (.ifCond .ne 9, 3) := by decide +kernel
theorem dX11_footLine_21 : decode (mC mX11_footLine) 21 = .ok (.aload_n 0, 1) := by decide +kernel
theorem dX11_footLine_22 : decode (mC mX11_footLine) 22 = .ok (.iconst 3, 1) := by decide +kernel
theorem dX11_footLine_23 : decode (mC mX11_footLine) 23 = .ok (.iload_n 1, 1) := by decide +kernel
theorem dX11_footLine_24 : decode (mC mX11_footLine) 24 = .ok (.invokevirtual 144, 3) := by decide +kernel
theorem dX11_footLine_27 : decode (mC mX11_footLine) 27 = .ok (.aload_n 0, 1) := by decide +kernel
theorem dX11_footLine_28 : decode (mC mX11_footLine) 28 = .ok (.iconst 0, 1) := by decide +kernel
theorem dX11_footLine_29 : decode (mC mX11_footLine) 29 = .ok (.iconst 5, 1) := by decide +kernel
theorem dX11_footLine_30 : decode (mC mX11_footLine) 30 = .ok (.invokevirtual 151, 3) := by decide +kernel
theorem dX11_footLine_33 : decode (mC mX11_footLine) 33 = .ok (.istore_n 3, 1) := by decide +kernel
theorem dX11_footLine_34 : decode (mC mX11_footLine) 34 = .ok (.aload_n 0, 1) := by decide +kernel
theorem dX11_footLine_35 : decode (mC mX11_footLine) 35 = .ok (.iconst 1, 1) := by decide +kernel
theorem dX11_footLine_36 : decode (mC mX11_footLine) 36 = .ok (.iconst 3, 1) := by decide +kernel
theorem dX11_footLine_37 : decode (mC mX11_footLine) 37 = .ok (.invokevirtual 151, 3) := by decide +kernel
theorem dX11_footLine_40 : decode (mC mX11_footLine) 40 = .ok (.istore 4, 2) := by decide +kernel
theorem dX11_footLine_42 : decode (mC mX11_footLine) 42 = .ok (.aload_n 0, 1) := by decide +kernel
theorem dX11_footLine_43 : decode (mC mX11_footLine) 43 = .ok (.iconst 1, 1) := by decide +kernel
theorem dX11_footLine_44 : decode (mC mX11_footLine) 44 = .ok (.bipush 9, 2) := by decide +kernel
theorem dX11_footLine_46 : decode (mC mX11_footLine) 46 = .ok (.invokevirtual 151, 3) := by decide +kernel
theorem dX11_footLine_49 : decode (mC mX11_footLine) 49 = .ok (.istore 5, 2) := by decide +kernel
theorem dX11_footLine_51 : decode (mC mX11_footLine) 51 = .ok (.aload_n 0, 1) := by decide +kernel
theorem dX11_footLine_52 : decode (mC mX11_footLine) 52 = .ok (.iconst 0, 1) := by decide +kernel
theorem dX11_footLine_53 : decode (mC mX11_footLine) 53 = .ok (.iconst 2, 1) := by decide +kernel
theorem dX11_footLine_54 : decode (mC mX11_footLine) 54 = .ok (.invokevirtual 151, 3) := by decide +kernel
theorem dX11_footLine_57 : decode (mC mX11_footLine) 57 = .ok (.istore 6, 2) := by decide +kernel
theorem dX11_footLine_59 : decode (mC mX11_footLine) 59 = .ok (.iload_n 2, 1) := by decide +kernel
theorem dX11_footLine_60 : decode (mC mX11_footLine) 60 = .ok (.ifCond .ne 4, 3) := by decide +kernel
theorem dX11_footLine_63 : decode (mC mX11_footLine) 63 = .ok (.return_, 1) := by decide +kernel
theorem dX11_footLine_64 : decode (mC mX11_footLine) 64 = .ok (.bipush 120, 2) := by decide +kernel
theorem dX11_footLine_66 : decode (mC mX11_footLine) 66 = .ok (.bipush 33, 2) := by decide +kernel
theorem dX11_footLine_68 : decode (mC mX11_footLine) 68 = .ok (.aload_n 0, 1) := by decide +kernel
theorem dX11_footLine_69 : decode (mC mX11_footLine) 69 = .ok (.getfield 17, 3) := by decide +kernel
theorem dX11_footLine_72 : decode (mC mX11_footLine) 72 = .ok (.iconst 3, 1) := by decide +kernel
theorem dX11_footLine_73 : decode (mC mX11_footLine) 73 = .ok (.iaload, 1) := by decide +kernel
theorem dX11_footLine_74 : decode (mC mX11_footLine) 74 = .ok (.imul, 1) := by decide +kernel
theorem dX11_footLine_75 : decode (mC mX11_footLine) 75 = .ok (.iadd, 1) := by decide +kernel
theorem dX11_footLine_76 : decode (mC mX11_footLine) 76 = .ok (.istore 7, 2) := by decide +kernel
theorem dX11_footLine_78 : decode (mC mX11_footLine) 78 = .ok (.aload_n 0, 1) := by decide +kernel
theorem dX11_footLine_79 : decode (mC mX11_footLine) 79 = .ok (.getfield 17, 3) := by decide +kernel
theorem dX11_footLine_82 : decode (mC mX11_footLine) 82 = .ok (.iload 7, 2) := by decide +kernel
theorem dX11_footLine_84 : decode (mC mX11_footLine) 84 = .ok (.iconst 0, 1) := by decide +kernel
theorem dX11_footLine_85 : decode (mC mX11_footLine) 85 = .ok (.iadd, 1) := by decide +kernel
theorem dX11_footLine_86 : decode (mC mX11_footLine) 86 = .ok (.iload_n 3, 1) := by decide +kernel
theorem dX11_footLine_87 : decode (mC mX11_footLine) 87 = .ok (.iastore, 1) := by decide +kernel
theorem dX11_footLine_88 : decode (mC mX11_footLine) 88 = .ok (.aload_n 0, 1) := by decide +kernel
theorem dX11_footLine_89 : decode (mC mX11_footLine) 89 = .ok (.getfield 17, 3) := by decide +kernel
theorem dX11_footLine_92 : decode (mC mX11_footLine) 92 = .ok (.iload 7, 2) := by decide +kernel
theorem dX11_footLine_94 : decode (mC mX11_footLine) 94 = .ok (.iconst 1, 1) := by decide +kernel
theorem dX11_footLine_95 : decode (mC mX11_footLine) 95 = .ok (.iadd, 1) := by decide +kernel
theorem dX11_footLine_96 : decode (mC mX11_footLine) 96 = .ok (.iload 4, 2) := by decide +kernel
theorem dX11_footLine_98 : decode (mC mX11_footLine) 98 = .ok (.iastore, 1) := by decide +kernel
theorem dX11_footLine_99 : decode (mC mX11_footLine) 99 = .ok (.aload_n 0, 1) := by decide +kernel
theorem dX11_footLine_100 : decode (mC mX11_footLine) 100 = .ok (.getfield 17, 3) := by decide +kernel
theorem dX11_footLine_103 : decode (mC mX11_footLine) 103 = .ok (.iload 7, 2) := by decide +kernel
theorem dX11_footLine_105 : decode (mC mX11_footLine) 105 = .ok (.iconst 2, 1) := by decide +kernel
theorem dX11_footLine_106 : decode (mC mX11_footLine) 106 = .ok (.iadd, 1) := by decide +kernel
theorem dX11_footLine_107 : decode (mC mX11_footLine) 107 = .ok (.iload 5, 2) := by decide +kernel
theorem dX11_footLine_109 : decode (mC mX11_footLine) 109 = .ok (.iastore, 1) := by decide +kernel
theorem dX11_footLine_110 : decode (mC mX11_footLine) 110 = .ok (.aload_n 0, 1) := by decide +kernel
theorem dX11_footLine_111 : decode (mC mX11_footLine) 111 = .ok (.getfield 17, 3) := by decide +kernel
theorem dX11_footLine_114 : decode (mC mX11_footLine) 114 = .ok (.iload 7, 2) := by decide +kernel
theorem dX11_footLine_116 : decode (mC mX11_footLine) 116 = .ok (.iconst 3, 1) := by decide +kernel
theorem dX11_footLine_117 : decode (mC mX11_footLine) 117 = .ok (.iadd, 1) := by decide +kernel
theorem dX11_footLine_118 : decode (mC mX11_footLine) 118 = .ok (.iload 6, 2) := by decide +kernel
theorem dX11_footLine_120 : decode (mC mX11_footLine) 120 = .ok (.iastore, 1) := by decide +kernel
theorem dX11_footLine_121 : decode (mC mX11_footLine) 121 = .ok (.aload_n 0, 1) := by decide +kernel
theorem dX11_footLine_122 : decode (mC mX11_footLine) 122 = .ok (.getfield 17, 3) := by decide +kernel
theorem dX11_footLine_125 : decode (mC mX11_footLine) 125 = .ok (.iconst 3, 1) := by decide +kernel
theorem dX11_footLine_126 : decode (mC mX11_footLine) 126 = .ok (.dup2, 1) := by decide +kernel
theorem dX11_footLine_127 : decode (mC mX11_footLine) 127 = .ok (.iaload, 1) := by decide +kernel
theorem dX11_footLine_128 : decode (mC mX11_footLine) 128 = .ok (.iconst 1, 1) := by decide +kernel
theorem dX11_footLine_129 : decode (mC mX11_footLine) 129 = .ok (.iadd, 1) := by decide +kernel
theorem dX11_footLine_130 : decode (mC mX11_footLine) 130 = .ok (.iastore, 1) := by decide +kernel
theorem dX11_footLine_131 : decode (mC mX11_footLine) 131 = .ok (.return_, 1) := by decide +kernel
theorem dX11_walkLine_0 : decode (mC mX11_walkLine) 0 = .ok (.bipush 120, 2) := by decide +kernel
theorem dX11_walkLine_2 : decode (mC mX11_walkLine) 2 = .ok (.bipush 33, 2) := by decide +kernel
theorem dX11_walkLine_4 : decode (mC mX11_walkLine) 4 = .ok (.aload_n 0, 1) := by decide +kernel
theorem dX11_walkLine_5 : decode (mC mX11_walkLine) 5 = .ok (.invokevirtual 161, 3) := by decide +kernel
theorem dX11_walkLine_8 : decode (mC mX11_walkLine) 8 = .ok (.imul, 1) := by decide +kernel
theorem dX11_walkLine_9 : decode (mC mX11_walkLine) 9 = .ok (.iadd, 1) := by decide +kernel
theorem dX11_walkLine_10 : decode (mC mX11_walkLine) 10 = .ok (.istore_n 1, 1) := by decide +kernel
theorem dX11_walkLine_11 : decode (mC mX11_walkLine) 11 = .ok (.aload_n 0, 1) := by decide +kernel
theorem dX11_walkLine_12 : decode (mC mX11_walkLine) 12 = .ok (.getfield 17, 3) := by decide +kernel
theorem dX11_walkLine_15 : decode (mC mX11_walkLine) 15 = .ok (.iload_n 1, 1) := by decide +kernel
theorem dX11_walkLine_16 : decode (mC mX11_walkLine) 16 = .ok (.bipush 6, 2) := by decide +kernel
theorem dX11_walkLine_18 : decode (mC mX11_walkLine) 18 = .ok (.iadd, 1) := by decide +kernel
theorem dX11_walkLine_19 : decode (mC mX11_walkLine) 19 = .ok (.aload_n 0, 1) := by decide +kernel
theorem dX11_walkLine_20 : decode (mC mX11_walkLine) 20 = .ok (.invokevirtual 165, 3) := by decide +kernel
theorem dX11_walkLine_23 : decode (mC mX11_walkLine) 23 = .ok (.iastore, 1) := by decide +kernel
theorem dX11_walkLine_24 : decode (mC mX11_walkLine) 24 = .ok (.aload_n 0, 1) := by decide +kernel
theorem dX11_walkLine_25 : decode (mC mX11_walkLine) 25 = .ok (.getfield 17, 3) := by decide +kernel
theorem dX11_walkLine_28 : decode (mC mX11_walkLine) 28 = .ok (.iload_n 1, 1) := by decide +kernel
theorem dX11_walkLine_29 : decode (mC mX11_walkLine) 29 = .ok (.bipush 7, 2) := by decide +kernel
theorem dX11_walkLine_31 : decode (mC mX11_walkLine) 31 = .ok (.iadd, 1) := by decide +kernel
theorem dX11_walkLine_32 : decode (mC mX11_walkLine) 32 = .ok (.aload_n 0, 1) := by decide +kernel
theorem dX11_walkLine_33 : decode (mC mX11_walkLine) 33 = .ok (.iconst 0, 1) := by decide +kernel
theorem dX11_walkLine_34 : decode (mC mX11_walkLine) 34 = .ok (.bipush 60, 2) := by decide +kernel
theorem dX11_walkLine_36 : decode (mC mX11_walkLine) 36 = .ok (.invokevirtual 151, 3) := by decide +kernel
theorem dX11_walkLine_39 : decode (mC mX11_walkLine) 39 = .ok (.iastore, 1) := by decide +kernel
theorem dX11_walkLine_40 : decode (mC mX11_walkLine) 40 = .ok (.iconst 0, 1) := by decide +kernel
theorem dX11_walkLine_41 : decode (mC mX11_walkLine) 41 = .ok (.istore_n 2, 1) := by decide +kernel
theorem dX11_walkLine_42 : decode (mC mX11_walkLine) 42 = .ok (.aload_n 0, 1) := by decide +kernel
theorem dX11_walkLine_43 : decode (mC mX11_walkLine) 43 = .ok (.getfield 134, 3) := by decide +kernel
theorem dX11_walkLine_46 : decode (mC mX11_walkLine) 46 = .ok (.ifCond .ne 63, 3) := by decide +kernel
theorem dX11_walkLine_49 : decode (mC mX11_walkLine) 49 = .ok (.iload_n 2, 1) := by decide +kernel
theorem dX11_walkLine_50 : decode (mC mX11_walkLine) 50 = .ok (.ifCond .eq 11, 3) := by decide +kernel
theorem dX11_walkLine_53 : decode (mC mX11_walkLine) 53 = .ok (.aload_n 0, 1) := by decide +kernel
theorem dX11_walkLine_54 : decode (mC mX11_walkLine) 54 = .ok (.getfield 110, 3) := by decide +kernel
theorem dX11_walkLine_57 : decode (mC mX11_walkLine) 57 = .ok (.iconst 1, 1) := by decide +kernel
theorem dX11_walkLine_58 : decode (mC mX11_walkLine) 58 = .ok (.if_icmp .ne 51, 3) := by decide +kernel
theorem dX11_walkLine_61 : decode (mC mX11_walkLine) 61 = .ok (.iload_n 2, 1) := by decide +kernel
theorem dX11_walkLine_62 : decode (mC mX11_walkLine) 62 = .ok (.bipush 24, 2) := by decide +kernel
theorem dX11_walkLine_64 : decode (mC mX11_walkLine) 64 = .ok (.if_icmp .lt 12, 3) := by decide +kernel
theorem dX11_walkLine_67 : decode (mC mX11_walkLine) 67 = .ok (.aload_n 0, 1) := by decide +kernel
theorem dX11_walkLine_68 : decode (mC mX11_walkLine) 68 = .ok (.iconst 3, 1) := by decide +kernel
theorem dX11_walkLine_69 : decode (mC mX11_walkLine) 69 = .ok (.aload_n 0, 1) := by decide +kernel
theorem dX11_walkLine_70 : decode (mC mX11_walkLine) 70 = .ok (.getfield 107, 3) := by decide +kernel
theorem dX11_walkLine_73 : decode (mC mX11_walkLine) 73 = .ok (.invokevirtual 144, 3) := by decide +kernel
theorem dX11_walkLine_76 : decode (mC mX11_walkLine) 76 = .ok (.aload_n 0, 1) := by decide +kernel
theorem dX11_walkLine_77 : decode (mC mX11_walkLine) 77 = .ok (.iconst 0, 1) := by decide +kernel
theorem dX11_walkLine_78 : decode (mC mX11_walkLine) 78 = .ok (.iconst 3, 1) := by decide +kernel
theorem dX11_walkLine_79 : decode (mC mX11_walkLine) 79 = .ok (.invokevirtual 151, 3) := by decide +kernel
theorem dX11_walkLine_82 : decode (mC mX11_walkLine) 82 = .ok (.istore_n 3, 1) := by decide +kernel
theorem dX11_walkLine_83 : decode (mC mX11_walkLine) 83 = .ok (.iload_n 2, 1) := by decide +kernel
theorem dX11_walkLine_84 : decode (mC mX11_walkLine) 84 = .ok (.bipush 24, 2) := by decide +kernel
theorem dX11_walkLine_86 : decode (mC mX11_walkLine) 86 = .ok (.if_icmp .ge 17, 3) := by decide +kernel
theorem dX11_walkLine_89 : decode (mC mX11_walkLine) 89 = .ok (.aload_n 0, 1) := by decide +kernel
theorem dX11_walkLine_90 : decode (mC mX11_walkLine) 90 = .ok (.getfield 17, 3) := by decide +kernel
theorem dX11_walkLine_93 : decode (mC mX11_walkLine) 93 = .ok (.iload_n 1, 1) := by decide +kernel
theorem dX11_walkLine_94 : decode (mC mX11_walkLine) 94 = .ok (.bipush 8, 2) := by decide +kernel
theorem dX11_walkLine_96 : decode (mC mX11_walkLine) 96 = .ok (.iadd, 1) := by decide +kernel
theorem dX11_walkLine_97 : decode (mC mX11_walkLine) 97 = .ok (.iconst 1, 1) := by decide +kernel
theorem dX11_walkLine_98 : decode (mC mX11_walkLine) 98 = .ok (.iadd, 1) := by decide +kernel
theorem dX11_walkLine_99 : decode (mC mX11_walkLine) 99 = .ok (.iload_n 2, 1) := by decide +kernel
theorem dX11_walkLine_100 : decode (mC mX11_walkLine) 100 = .ok (.iadd, 1) := by decide +kernel
theorem dX11_walkLine_101 : decode (mC mX11_walkLine) 101 = .ok (.iload_n 3, 1) := by decide +kernel
theorem dX11_walkLine_102 : decode (mC mX11_walkLine) 102 = .ok (.iastore, 1) := by decide +kernel
theorem dX11_walkLine_103 : decode (mC mX11_walkLine) 103 = .ok (.iinc 2 1, 3) := by decide +kernel
theorem dX11_walkLine_106 : decode (mC mX11_walkLine) 106 = .ok (.goto (-64), 3) := by decide +kernel
theorem dX11_walkLine_109 : decode (mC mX11_walkLine) 109 = .ok (.aload_n 0, 1) := by decide +kernel
theorem dX11_walkLine_110 : decode (mC mX11_walkLine) 110 = .ok (.getfield 17, 3) := by decide +kernel
theorem dX11_walkLine_113 : decode (mC mX11_walkLine) 113 = .ok (.iload_n 1, 1) := by decide +kernel
theorem dX11_walkLine_114 : decode (mC mX11_walkLine) 114 = .ok (.bipush 8, 2) := by decide +kernel
theorem dX11_walkLine_116 : decode (mC mX11_walkLine) 116 = .ok (.iadd, 1) := by decide +kernel
theorem dX11_walkLine_117 : decode (mC mX11_walkLine) 117 = .ok (.iload_n 2, 1) := by decide +kernel
theorem dX11_walkLine_118 : decode (mC mX11_walkLine) 118 = .ok (.bipush 24, 2) := by decide +kernel
theorem dX11_walkLine_120 : decode (mC mX11_walkLine) 120 = .ok (.if_icmp .le 8, 3) := by decide +kernel
theorem dX11_walkLine_123 : decode (mC mX11_walkLine) 123 = .ok (.bipush 24, 2) := by decide +kernel
theorem dX11_walkLine_125 : decode (mC mX11_walkLine) 125 = .ok (.goto 4, 3) := by decide +kernel
theorem dX11_walkLine_128 : decode (mC mX11_walkLine) 128 = .ok (.iload_n 2, 1) := by decide +kernel
theorem dX11_walkLine_129 : decode (mC mX11_walkLine) 129 = .ok (.iastore, 1) := by decide +kernel
theorem dX11_walkLine_130 : decode (mC mX11_walkLine) 130 = .ok (.return_, 1) := by decide +kernel
theorem dX11_carryLine_0 : decode (mC mX11_carryLine) 0 = .ok (.aload_n 0, 1) := by decide +kernel
theorem dX11_carryLine_1 : decode (mC mX11_carryLine) 1 = .ok (.invokevirtual 161, 3) := by decide +kernel
theorem dX11_carryLine_4 : decode (mC mX11_carryLine) 4 = .ok (.istore_n 1, 1) := by decide +kernel
theorem dX11_carryLine_5 : decode (mC mX11_carryLine) 5 = .ok (.aload_n 0, 1) := by decide +kernel
theorem dX11_carryLine_6 : decode (mC mX11_carryLine) 6 = .ok (.getfield 110, 3) := by decide +kernel
theorem dX11_carryLine_9 : decode (mC mX11_carryLine) 9 = .ok (.iconst 1, 1) := by decide +kernel
theorem dX11_carryLine_10 : decode (mC mX11_carryLine) 10 = .ok (.if_icmp .ne 20, 3) := by decide +kernel
theorem dX11_carryLine_13 : decode (mC mX11_carryLine) 13 = .ok (.aload_n 0, 1) := by decide +kernel
theorem dX11_carryLine_14 : decode (mC mX11_carryLine) 14 = .ok (.getfield 131, 3) := by decide +kernel
theorem dX11_carryLine_17 : decode (mC mX11_carryLine) 17 = .ok (.iload_n 1, 1) := by decide +kernel
theorem dX11_carryLine_18 : decode (mC mX11_carryLine) 18 = .ok (.if_icmp .ne 12, 3) := by decide +kernel
theorem dX11_carryLine_21 : decode (mC mX11_carryLine) 21 = .ok (.aload_n 0, 1) := by decide +kernel
theorem dX11_carryLine_22 : decode (mC mX11_carryLine) 22 = .ok (.iconst 2, 1) := by decide +kernel
theorem dX11_carryLine_23 : decode (mC mX11_carryLine) 23 = .ok (.aload_n 0, 1) := by decide +kernel
theorem dX11_carryLine_24 : decode (mC mX11_carryLine) 24 = .ok (.getfield 107, 3) := by decide +kernel
theorem dX11_carryLine_27 : decode (mC mX11_carryLine) 27 = .ok (.invokevirtual 144, 3) := by decide +kernel
theorem dX11_carryLine_30 : decode (mC mX11_carryLine) 30 = .ok (.aload_n 0, 1) := by decide +kernel
theorem dX11_carryLine_31 : decode (mC mX11_carryLine) 31 = .ok (.invokevirtual 161, 3) := by decide +kernel
theorem dX11_carryLine_34 : decode (mC mX11_carryLine) 34 = .ok (.istore_n 2, 1) := by decide +kernel
theorem dX11_carryLine_35 : decode (mC mX11_carryLine) 35 = .ok (.aload_n 0, 1) := by decide +kernel
theorem dX11_carryLine_36 : decode (mC mX11_carryLine) 36 = .ok (.getfield 17, 3) := by decide +kernel
theorem dX11_carryLine_39 : decode (mC mX11_carryLine) 39 = .ok (.bipush 120, 2) := by decide +kernel
theorem dX11_carryLine_41 : decode (mC mX11_carryLine) 41 = .ok (.bipush 33, 2) := by decide +kernel
theorem dX11_carryLine_43 : decode (mC mX11_carryLine) 43 = .ok (.iload_n 2, 1) := by decide +kernel
theorem dX11_carryLine_44 : decode (mC mX11_carryLine) 44 = .ok (.imul, 1) := by decide +kernel
theorem dX11_carryLine_45 : decode (mC mX11_carryLine) 45 = .ok (.iadd, 1) := by decide +kernel
theorem dX11_carryLine_46 : decode (mC mX11_carryLine) 46 = .ok (.iconst 5, 1) := by decide +kernel
theorem dX11_carryLine_47 : decode (mC mX11_carryLine) 47 = .ok (.iadd, 1) := by decide +kernel
theorem dX11_carryLine_48 : decode (mC mX11_carryLine) 48 = .ok (.iload_n 1, 1) := by decide +kernel
theorem dX11_carryLine_49 : decode (mC mX11_carryLine) 49 = .ok (.iastore, 1) := by decide +kernel
theorem dX11_carryLine_50 : decode (mC mX11_carryLine) 50 = .ok (.return_, 1) := by decide +kernel
theorem dX11_errandLine_0 : decode (mC mX11_errandLine) 0 = .ok (.aload_n 0, 1) := by decide +kernel
theorem dX11_errandLine_1 : decode (mC mX11_errandLine) 1 = .ok (.getfield 17, 3) := by decide +kernel
theorem dX11_errandLine_4 : decode (mC mX11_errandLine) 4 = .ok (.iconst 4, 1) := by decide +kernel
theorem dX11_errandLine_5 : decode (mC mX11_errandLine) 5 = .ok (.iaload, 1) := by decide +kernel
theorem dX11_errandLine_6 : decode (mC mX11_errandLine) 6 = .ok (.iconst 5, 1) := by decide +kernel
theorem dX11_errandLine_7 : decode (mC mX11_errandLine) 7 = .ok (.if_icmp .ge 7, 3) := by decide +kernel
theorem dX11_errandLine_10 : decode (mC mX11_errandLine) 10 = .ok (.iconst 1, 1) := by decide +kernel
theorem dX11_errandLine_11 : decode (mC mX11_errandLine) 11 = .ok (.goto 4, 3) := by decide +kernel
theorem dX11_errandLine_14 : decode (mC mX11_errandLine) 14 = .ok (.iconst 0, 1) := by decide +kernel
theorem dX11_errandLine_15 : decode (mC mX11_errandLine) 15 = .ok (.istore_n 2, 1) := by decide +kernel
theorem dX11_errandLine_16 : decode (mC mX11_errandLine) 16 = .ok (.iload_n 2, 1) := by decide +kernel
theorem dX11_errandLine_17 : decode (mC mX11_errandLine) 17 = .ok (.ifCond .ne 9, 3) := by decide +kernel
theorem dX11_errandLine_20 : decode (mC mX11_errandLine) 20 = .ok (.aload_n 0, 1) := by decide +kernel
theorem dX11_errandLine_21 : decode (mC mX11_errandLine) 21 = .ok (.iconst 3, 1) := by decide +kernel
theorem dX11_errandLine_22 : decode (mC mX11_errandLine) 22 = .ok (.iload_n 1, 1) := by decide +kernel
theorem dX11_errandLine_23 : decode (mC mX11_errandLine) 23 = .ok (.invokevirtual 144, 3) := by decide +kernel
theorem dX11_errandLine_26 : decode (mC mX11_errandLine) 26 = .ok (.aload_n 0, 1) := by decide +kernel
theorem dX11_errandLine_27 : decode (mC mX11_errandLine) 27 = .ok (.invokevirtual 161, 3) := by decide +kernel
theorem dX11_errandLine_30 : decode (mC mX11_errandLine) 30 = .ok (.istore_n 3, 1) := by decide +kernel
theorem dX11_errandLine_31 : decode (mC mX11_errandLine) 31 = .ok (.aload_n 0, 1) := by decide +kernel
theorem dX11_errandLine_32 : decode (mC mX11_errandLine) 32 = .ok (.invokevirtual 165, 3) := by decide +kernel
theorem dX11_errandLine_35 : decode (mC mX11_errandLine) 35 = .ok (.istore 4, 2) := by decide +kernel
theorem dX11_errandLine_37 : decode (mC mX11_errandLine) 37 = .ok (.aload_n 0, 1) := by decide +kernel
theorem dX11_errandLine_38 : decode (mC mX11_errandLine) 38 = .ok (.invokevirtual 165, 3) := by decide +kernel
theorem dX11_errandLine_41 : decode (mC mX11_errandLine) 41 = .ok (.istore 5, 2) := by decide +kernel
theorem dX11_errandLine_43 : decode (mC mX11_errandLine) 43 = .ok (.iload_n 2, 1) := by decide +kernel
theorem dX11_errandLine_44 : decode (mC mX11_errandLine) 44 = .ok (.ifCond .ne 4, 3) := by decide +kernel
theorem dX11_errandLine_47 : decode (mC mX11_errandLine) 47 = .ok (.return_, 1) := by decide +kernel
theorem dX11_errandLine_48 : decode (mC mX11_errandLine) 48 = .ok (.bipush 105, 2) := by decide +kernel
theorem dX11_errandLine_50 : decode (mC mX11_errandLine) 50 = .ok (.iconst 3, 1) := by decide +kernel
theorem dX11_errandLine_51 : decode (mC mX11_errandLine) 51 = .ok (.aload_n 0, 1) := by decide +kernel
theorem dX11_errandLine_52 : decode (mC mX11_errandLine) 52 = .ok (.getfield 17, 3) := by decide +kernel
theorem dX11_errandLine_55 : decode (mC mX11_errandLine) 55 = .ok (.iconst 4, 1) := by decide +kernel
theorem dX11_errandLine_56 : decode (mC mX11_errandLine) 56 = .ok (.iaload, 1) := by decide +kernel
theorem dX11_errandLine_57 : decode (mC mX11_errandLine) 57 = .ok (.imul, 1) := by decide +kernel
theorem dX11_errandLine_58 : decode (mC mX11_errandLine) 58 = .ok (.iadd, 1) := by decide +kernel
theorem dX11_errandLine_59 : decode (mC mX11_errandLine) 59 = .ok (.istore 6, 2) := by decide +kernel
theorem dX11_errandLine_61 : decode (mC mX11_errandLine) 61 = .ok (.aload_n 0, 1) := by decide +kernel
theorem dX11_errandLine_62 : decode (mC mX11_errandLine) 62 = .ok (.getfield 17, 3) := by decide +kernel
theorem dX11_errandLine_65 : decode (mC mX11_errandLine) 65 = .ok (.iload 6, 2) := by decide +kernel
theorem dX11_errandLine_67 : decode (mC mX11_errandLine) 67 = .ok (.iload_n 3, 1) := by decide +kernel
theorem dX11_errandLine_68 : decode (mC mX11_errandLine) 68 = .ok (.iastore, 1) := by decide +kernel
theorem dX11_errandLine_69 : decode (mC mX11_errandLine) 69 = .ok (.aload_n 0, 1) := by decide +kernel
theorem dX11_errandLine_70 : decode (mC mX11_errandLine) 70 = .ok (.getfield 17, 3) := by decide +kernel
theorem dX11_errandLine_73 : decode (mC mX11_errandLine) 73 = .ok (.iload 6, 2) := by decide +kernel
theorem dX11_errandLine_75 : decode (mC mX11_errandLine) 75 = .ok (.iconst 1, 1) := by decide +kernel
theorem dX11_errandLine_76 : decode (mC mX11_errandLine) 76 = .ok (.iadd, 1) := by decide +kernel
theorem dX11_errandLine_77 : decode (mC mX11_errandLine) 77 = .ok (.iload 4, 2) := by decide +kernel
theorem dX11_errandLine_79 : decode (mC mX11_errandLine) 79 = .ok (.iastore, 1) := by decide +kernel
theorem dX11_errandLine_80 : decode (mC mX11_errandLine) 80 = .ok (.aload_n 0, 1) := by decide +kernel
theorem dX11_errandLine_81 : decode (mC mX11_errandLine) 81 = .ok (.getfield 17, 3) := by decide +kernel
theorem dX11_errandLine_84 : decode (mC mX11_errandLine) 84 = .ok (.iload 6, 2) := by decide +kernel
theorem dX11_errandLine_86 : decode (mC mX11_errandLine) 86 = .ok (.iconst 2, 1) := by decide +kernel
theorem dX11_errandLine_87 : decode (mC mX11_errandLine) 87 = .ok (.iadd, 1) := by decide +kernel
theorem dX11_errandLine_88 : decode (mC mX11_errandLine) 88 = .ok (.iload 5, 2) := by decide +kernel
theorem dX11_errandLine_90 : decode (mC mX11_errandLine) 90 = .ok (.iastore, 1) := by decide +kernel
theorem dX11_errandLine_91 : decode (mC mX11_errandLine) 91 = .ok (.aload_n 0, 1) := by decide +kernel
theorem dX11_errandLine_92 : decode (mC mX11_errandLine) 92 = .ok (.getfield 17, 3) := by decide +kernel
theorem dX11_errandLine_95 : decode (mC mX11_errandLine) 95 = .ok (.iconst 4, 1) := by decide +kernel
theorem dX11_errandLine_96 : decode (mC mX11_errandLine) 96 = .ok (.dup2, 1) := by decide +kernel
theorem dX11_errandLine_97 : decode (mC mX11_errandLine) 97 = .ok (.iaload, 1) := by decide +kernel
theorem dX11_errandLine_98 : decode (mC mX11_errandLine) 98 = .ok (.iconst 1, 1) := by decide +kernel
theorem dX11_errandLine_99 : decode (mC mX11_errandLine) 99 = .ok (.iadd, 1) := by decide +kernel
theorem dX11_errandLine_100 : decode (mC mX11_errandLine) 100 = .ok (.iastore, 1) := by decide +kernel
theorem dX11_errandLine_101 : decode (mC mX11_errandLine) 101 = .ok (.return_, 1) := by decide +kernel
theorem dX11_nightLine_0 : decode (mC mX11_nightLine) 0 = .ok (.aload_n 0, 1) := by decide +kernel
theorem dX11_nightLine_1 : decode (mC mX11_nightLine) 1 = .ok (.getfield 107, 3) := by decide +kernel
theorem dX11_nightLine_4 : decode (mC mX11_nightLine) 4 = .ok (.istore_n 1, 1) := by decide +kernel
theorem dX11_nightLine_5 : decode (mC mX11_nightLine) 5 = .ok (.aload_n 0, 1) := by decide +kernel
theorem dX11_nightLine_6 : decode (mC mX11_nightLine) 6 = .ok (.iconst 1, 1) := by decide +kernel
theorem dX11_nightLine_7 : decode (mC mX11_nightLine) 7 = .ok (.bipush 10, 2) := by decide +kernel
theorem dX11_nightLine_9 : decode (mC mX11_nightLine) 9 = .ok (.invokevirtual 168, 3) := by decide +kernel
theorem dX11_nightLine_12 : decode (mC mX11_nightLine) 12 = .ok (.istore_n 2, 1) := by decide +kernel
theorem dX11_nightLine_13 : decode (mC mX11_nightLine) 13 = .ok (.iload_n 2, 1) := by decide +kernel
theorem dX11_nightLine_14 : decode (mC mX11_nightLine) 14 = .ok (.iconst 1, 1) := by decide +kernel
theorem dX11_nightLine_15 : decode (mC mX11_nightLine) 15 = .ok (.if_icmp .ne 29, 3) := by decide +kernel
theorem dX11_nightLine_18 : decode (mC mX11_nightLine) 18 = .ok (.aload_n 0, 1) := by decide +kernel
theorem dX11_nightLine_19 : decode (mC mX11_nightLine) 19 = .ok (.getfield 17, 3) := by decide +kernel
theorem dX11_nightLine_22 : decode (mC mX11_nightLine) 22 = .ok (.iconst 0, 1) := by decide +kernel
theorem dX11_nightLine_23 : decode (mC mX11_nightLine) 23 = .ok (.aload_n 0, 1) := by decide +kernel
theorem dX11_nightLine_24 : decode (mC mX11_nightLine) 24 = .ok (.iconst 2, 1) := by decide +kernel
theorem dX11_nightLine_25 : decode (mC mX11_nightLine) 25 = .ok (.bipush 8, 2) := by decide +kernel
theorem dX11_nightLine_27 : decode (mC mX11_nightLine) 27 = .ok (.invokevirtual 151, 3) := by decide +kernel
theorem dX11_nightLine_30 : decode (mC mX11_nightLine) 30 = .ok (.iastore, 1) := by decide +kernel
theorem dX11_nightLine_31 : decode (mC mX11_nightLine) 31 = .ok (.aload_n 0, 1) := by decide +kernel
theorem dX11_nightLine_32 : decode (mC mX11_nightLine) 32 = .ok (.getfield 17, 3) := by decide +kernel
theorem dX11_nightLine_35 : decode (mC mX11_nightLine) 35 = .ok (.iconst 1, 1) := by decide +kernel
theorem dX11_nightLine_36 : decode (mC mX11_nightLine) 36 = .ok (.aload_n 0, 1) := by decide +kernel
theorem dX11_nightLine_37 : decode (mC mX11_nightLine) 37 = .ok (.iconst 2, 1) := by decide +kernel
theorem dX11_nightLine_38 : decode (mC mX11_nightLine) 38 = .ok (.bipush 8, 2) := by decide +kernel
theorem dX11_nightLine_40 : decode (mC mX11_nightLine) 40 = .ok (.invokevirtual 151, 3) := by decide +kernel
theorem dX11_nightLine_43 : decode (mC mX11_nightLine) 43 = .ok (.iastore, 1) := by decide +kernel
theorem dX11_nightLine_44 : decode (mC mX11_nightLine) 44 = .ok (.iload_n 2, 1) := by decide +kernel
theorem dX11_nightLine_45 : decode (mC mX11_nightLine) 45 = .ok (.iconst 2, 1) := by decide +kernel
theorem dX11_nightLine_46 : decode (mC mX11_nightLine) 46 = .ok (.if_icmp .ne 16, 3) := by decide +kernel
theorem dX11_nightLine_49 : decode (mC mX11_nightLine) 49 = .ok (.aload_n 0, 1) := by decide +kernel
theorem dX11_nightLine_50 : decode (mC mX11_nightLine) 50 = .ok (.getfield 17, 3) := by decide +kernel
theorem dX11_nightLine_53 : decode (mC mX11_nightLine) 53 = .ok (.iconst 2, 1) := by decide +kernel
theorem dX11_nightLine_54 : decode (mC mX11_nightLine) 54 = .ok (.aload_n 0, 1) := by decide +kernel
theorem dX11_nightLine_55 : decode (mC mX11_nightLine) 55 = .ok (.iconst 0, 1) := by decide +kernel
theorem dX11_nightLine_56 : decode (mC mX11_nightLine) 56 = .ok (.bipush 9, 2) := by decide +kernel
theorem dX11_nightLine_58 : decode (mC mX11_nightLine) 58 = .ok (.invokevirtual 151, 3) := by decide +kernel
theorem dX11_nightLine_61 : decode (mC mX11_nightLine) 61 = .ok (.iastore, 1) := by decide +kernel
theorem dX11_nightLine_62 : decode (mC mX11_nightLine) 62 = .ok (.iload_n 2, 1) := by decide +kernel
theorem dX11_nightLine_63 : decode (mC mX11_nightLine) 63 = .ok (.iconst 3, 1) := by decide +kernel
theorem dX11_nightLine_64 : decode (mC mX11_nightLine) 64 = .ok (.if_icmp .ne 8, 3) := by decide +kernel
theorem dX11_nightLine_67 : decode (mC mX11_nightLine) 67 = .ok (.aload_n 0, 1) := by decide +kernel
theorem dX11_nightLine_68 : decode (mC mX11_nightLine) 68 = .ok (.iload_n 1, 1) := by decide +kernel
theorem dX11_nightLine_69 : decode (mC mX11_nightLine) 69 = .ok (.invokevirtual 171, 3) := by decide +kernel
theorem dX11_nightLine_72 : decode (mC mX11_nightLine) 72 = .ok (.iload_n 2, 1) := by decide +kernel
theorem dX11_nightLine_73 : decode (mC mX11_nightLine) 73 = .ok (.iconst 4, 1) := by decide +kernel
theorem dX11_nightLine_74 : decode (mC mX11_nightLine) 74 = .ok (.if_icmp .ne 7, 3) := by decide +kernel
theorem dX11_nightLine_77 : decode (mC mX11_nightLine) 77 = .ok (.aload_n 0, 1) := by decide +kernel
theorem dX11_nightLine_78 : decode (mC mX11_nightLine) 78 = .ok (.invokevirtual 175, 3) := by decide +kernel
theorem dX11_nightLine_81 : decode (mC mX11_nightLine) 81 = .ok (.iload_n 2, 1) := by decide +kernel
theorem dX11_nightLine_82 : decode (mC mX11_nightLine) 82 = .ok (.iconst 5, 1) := by decide +kernel
theorem dX11_nightLine_83 : decode (mC mX11_nightLine) 83 = .ok (.if_icmp .ne 7, 3) := by decide +kernel
theorem dX11_nightLine_86 : decode (mC mX11_nightLine) 86 = .ok (.aload_n 0, 1) := by decide +kernel
theorem dX11_nightLine_87 : decode (mC mX11_nightLine) 87 = .ok (.invokevirtual 178, 3) := by decide +kernel
theorem dX11_nightLine_90 : decode (mC mX11_nightLine) 90 = .ok (.iload_n 2, 1) := by decide +kernel
theorem dX11_nightLine_91 : decode (mC mX11_nightLine) 91 = .ok (.bipush 6, 2) := by decide +kernel
theorem dX11_nightLine_93 : decode (mC mX11_nightLine) 93 = .ok (.bipush 8, 2) := by decide +kernel
theorem dX11_nightLine_95 : decode (mC mX11_nightLine) 95 = .ok (.invokestatic 140, 3) := by decide +kernel
